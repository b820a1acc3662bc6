def Y_X0_init : MY := (yX0_init, cX0_init, 1, none, 0, 0, [])
def Y_X0_find : MY := (yX0_find, cX0_find, 6, (some .boolean), 0, 0, [])
def Y_X0_cost : MY := (yX0_cost, cX0_cost, 1, (some .int), 0, 0, [])
def Y_X0_first : MY := (yX0_first, cX0_first, 1, (some .int), 0, 0, [])
def Y_X0_parent : MY := (yX0_parent, cX0_parent, 2, (some .int), 0, 0, [])
def Y_X0_leastOf : MY := (yX0_leastOf, cX0_leastOf, 7, (some .int), 0, 0, [])
def Y_X0_leastWithCopy : MY := (yX0_leastWithCopy, cX0_leastWithCopy, 6, (some .int), 0, 0, [])
def Y_X0_priceOf : MY := (yX0_priceOf, cX0_priceOf, 9, (some .int), 0, 0, [])
def Y_X1_init : MY := (yX1_init, cX1_init, 1, none, 0, 0, [])
def Y_X1_hasHoleOf : MY := (yX1_hasHoleOf, cX1_hasHoleOf, 4, (some .boolean), 0, 0, [])
def Y_X1_shakeOfHand : MY := (yX1_shakeOfHand, cX1_shakeOfHand, 1, (some .int), 0, 0, [])
def Y_X2_init : MY := (yX2_init, cX2_init, 1, none, 0, 0, [])
def Y_X3_init : MY := (yX3_init, cX3_init, 1, none, 0, 0, [])
def Y_X3_fewestPins : MY := (yX3_fewestPins, cX3_fewestPins, 5, (some .int), 0, 0, [])
def Y_X3_fewestOf : MY := (yX3_fewestOf, cX3_fewestOf, 4, (some .int), 0, 0, [])
def Y_X3_reachesAll : MY := (yX3_reachesAll, cX3_reachesAll, 10, (some .boolean), 0, 0, [])
def Y_X4_init : MY := (yX4_init, cX4_init, 1, none, 0, 0, [])
def Y_X4_find : MY := (yX4_find, cX4_find, 6, (some .boolean), 0, 0, [])
def Y_X4_add : MY := (yX4_add, cX4_add, 3, none, 0, 0, [])
def Y_X4_waysOf : MY := (yX4_waysOf, cX4_waysOf, 12, (some .int), 0, 0, [])
def Y_X4_waysOfLast : MY := (yX4_waysOfLast, cX4_waysOfLast, 10, (some .int), 0, 0, [])
def Y_X5_init : MY := (yX5_init, cX5_init, 2, none, 0, 0, [])
def Y_X5_hasArm : MY := (yX5_hasArm, cX5_hasArm, 2, (some .boolean), 0, 0, [])
def Y_X5_hasHole : MY := (yX5_hasHole, cX5_hasHole, 3, (some .boolean), 0, 0, [])
def Y_X5_hasChart : MY := (yX5_hasChart, cX5_hasChart, 2, (some .boolean), 0, 0, [])
def Y_X5_hasName : MY := (yX5_hasName, cX5_hasName, 4, (some .boolean), 0, 0, [])
def Y_X6_init : MY := (yX6_init, cX6_init, 1, none, 0, 0, [])
def Y_X6_find : MY := (yX6_find, cX6_find, 3, none, 0, 0, [])
def Y_X6_lay : MY := (yX6_lay, cX6_lay, 5, none, 0, 0, [])
def Y_X6_isLaid : MY := (yX6_isLaid, cX6_isLaid, 4, (some .boolean), 0, 0, [])
def Y_X6_compare : MY := (yX6_compare, cX6_compare, 4, none, 0, 0, [])
def Y_X7_init : MY := (yX7_init, cX7_init, 1, none, 0, 0, [])
def Y_X7_begin : MY := (yX7_begin, cX7_begin, 4, none, 0, 0, [])
def Y_X7_copyFrom : MY := (yX7_copyFrom, cX7_copyFrom, 3, none, 0, 0, [])
def Y_X7_hasChained : MY := (yX7_hasChained, cX7_hasChained, 3, (some .boolean), 0, 0, [])
def Y_X8_init : MY := (yX8_init, cX8_init, 1, none, 0, 0, [])
def Y_X8_sum : MY := (yX8_sum, cX8_sum, 6, none, 0, 0, [])
def Y_X8_isLessThan : MY := (yX8_isLessThan, cX8_isLessThan, 2, (some .boolean), 0, 0, [])
def Y_X8_copyFrom : MY := (yX8_copyFrom, cX8_copyFrom, 2, none, 0, 0, [])
def Y_X8_part : MY := (yX8_part, cX8_part, 2, (some .long), 0, 0, [])
def Y_X9_init : MY := (yX9_init, cX9_init, 1, none, 0, 0, [])
def Y_X9_begin : MY := (yX9_begin, cX9_begin, 3, none, 0, 0, [])
def Y_X9_isOut : MY := (yX9_isOut, cX9_isOut, 8, (some .boolean), 0, 0, [])
def Y_X9_copyBy : MY := (yX9_copyBy, cX9_copyBy, 12, none, 0, 0, [])
def Y_X9_isAt : MY := (yX9_isAt, cX9_isAt, 3, (some .boolean), 0, 0, [])
def Y_X9_part : MY := (yX9_part, cX9_part, 4, (some .long), 0, 0, [])
def Y_X10_init : MY := (yX10_init, cX10_init, 1, none, 0, 0, [])
def Y_X10_add : MY := (yX10_add, cX10_add, 6, none, 0, 0, [])
def Y_X10_readOffice : MY := (yX10_readOffice, cX10_readOffice, 3, (some .int), 0, 0, [])
def Y_X10_readArm : MY := (yX10_readArm, cX10_readArm, 3, none, 0, 0, [])
def Y_X10_readChart : MY := (yX10_readChart, cX10_readChart, 3, none, 0, 0, [])
def Y_X10_readName : MY := (yX10_readName, cX10_readName, 4, (some .long), 0, 0, [])
def Y_X10_readKind : MY := (yX10_readKind, cX10_readKind, 2, (some .int), 0, 0, [])
def Y_X10_readHoles : MY := (yX10_readHoles, cX10_readHoles, 4, none, 0, 0, [])
def Y_X10_readPoints : MY := (yX10_readPoints, cX10_readPoints, 3, none, 0, 0, [])
def Y_X10_readNumberBehind : MY := (yX10_readNumberBehind, cX10_readNumberBehind, 4, (some .int), 0, 0, [])
def Y_X10_readNumber : MY := (yX10_readNumber, cX10_readNumber, 4, (some .int), 0, 0, [])
def Y_X10_skipWord : MY := (yX10_skipWord, cX10_skipWord, 2, none, 0, 0, [])
def Y_X10_skipSign : MY := (yX10_skipSign, cX10_skipSign, 2, none, 0, 0, [])
def Y_X10_isSignHere : MY := (yX10_isSignHere, cX10_isSignHere, 2, (some .boolean), 0, 0, [])
def Y_X10_reads : MY := (yX10_reads, cX10_reads, 2, (some .boolean), 0, 0, [])
def Y_X10_kindHere : MY := (yX10_kindHere, cX10_kindHere, 1, (some .int), 0, 0, [])
def Y_X10_isReserved : MY := (yX10_isReserved, cX10_isReserved, 1, (some .boolean), 0, 0, [])
def Y_X10_fail : MY := (yX10_fail, cX10_fail, 2, none, 0, 0, [])
def Y_X10_advance : MY := (yX10_advance, cX10_advance, 1, none, 0, 0, [])
def Y_X10_scanWord : MY := (yX10_scanWord, cX10_scanWord, 1, none, 0, 0, [])
def Y_X10_scanNumber : MY := (yX10_scanNumber, cX10_scanNumber, 1, none, 0, 0, [])
def Y_X10_packed : MY := (yX10_packed, cX10_packed, 4, (some .long), 0, 0, [])
def Y_X10_isBlank : MY := (yX10_isBlank, cX10_isBlank, 1, (some .boolean), 0, 0, [])
def Y_X10_isLetter : MY := (yX10_isLetter, cX10_isLetter, 1, (some .boolean), 0, 0, [])
def Y_X10_isDigit : MY := (yX10_isDigit, cX10_isDigit, 1, (some .boolean), 0, 0, [])
def Y_X11_init : MY := (yX11_init, cX11_init, 2, none, 0, 0, [])
def Y_X11_feed : MY := (yX11_feed, cX11_feed, 7, (some .int), 0, 0, [])
def Y_X11_office : MY := (yX11_office, cX11_office, 3, (some .int), 0, 0, [])
def Y_X11_arm : MY := (yX11_arm, cX11_arm, 3, (some .int), 0, 0, [])
def Y_X11_hole : MY := (yX11_hole, cX11_hole, 3, (some .int), 0, 0, [])
def Y_X11_map : MY := (yX11_map, cX11_map, 4, (some .int), 0, 0, [])
def Y_X11_point : MY := (yX11_point, cX11_point, 5, (some .int), 0, 0, [])
def Y_X11_set : MY := (yX11_set, cX11_set, 4, (some .boolean), 0, 0, [])
def Y_X11_turn : MY := (yX11_turn, cX11_turn, 3, (some .boolean), 0, 0, [])
def Y_X11_pin : MY := (yX11_pin, cX11_pin, 4, (some .boolean), 0, 0, [])
def Y_X11_bend : MY := (yX11_bend, cX11_bend, 3, (some .boolean), 0, 0, [])
def Y_X11_trace : MY := (yX11_trace, cX11_trace, 5, (some .long), 1, 6, [])
def Y_X11_chain : MY := (yX11_chain, cX11_chain, 2, (some .int), 0, 0, [])
def Y_X11_size : MY := (yX11_size, cX11_size, 2, (some .int), 0, 0, [])
def Y_X11_draw : MY := (yX11_draw, cX11_draw, 4, (some .long), 1, 6, [])
def Y_X11_outs : MY := (yX11_outs, cX11_outs, 5, (some .int), 0, 0, [])
def Y_X11_fitted : MY := (yX11_fitted, cX11_fitted, 4, (some .int), 0, 0, [])
def Y_X11_see : MY := (yX11_see, cX11_see, 4, (some .boolean), 0, 0, [])
def Y_X11_clear : MY := (yX11_clear, cX11_clear, 1, (some .boolean), 0, 0, [])
def Y_X11_suspects : MY := (yX11_suspects, cX11_suspects, 3, (some .int), 0, 0, [])
def Y_X11_crooked : MY := (yX11_crooked, cX11_crooked, 3, (some .int), 1, 6, [])
def Y_X11_shakes : MY := (yX11_shakes, cX11_shakes, 2, (some .long), 0, 0, [])
def Y_X11_steadiest : MY := (yX11_steadiest, cX11_steadiest, 2, (some .long), 0, 0, [])
def Y_X11_sheets : MY := (yX11_sheets, cX11_sheets, 3, (some .int), 0, 0, [])
def Y_X11_descent : MY := (yX11_descent, cX11_descent, 2, (some .int), 0, 0, [])
def Y_X11_mark : MY := (yX11_mark, cX11_mark, 3, (some .boolean), 0, 0, [])
def Y_X11_count : MY := (yX11_count, cX11_count, 2, (some .int), 0, 0, [])
def Y_X11_isWithin : MY := (yX11_isWithin, cX11_isWithin, 3, (some .boolean), 0, 0, [])
def Y_X11_canBeTraced : MY := (yX11_canBeTraced, cX11_canBeTraced, 2, (some .boolean), 0, 0, [])
def Y_X11_inLowestTerms : MY := (yX11_inLowestTerms, cX11_inLowestTerms, 6, (some .long), 0, 0, [])
def Y_X11_commonDivisor : MY := (yX11_commonDivisor, cX11_commonDivisor, 11, (some .long), 0, 0, [])
def Y_X11_chainProduct : MY := (yX11_chainProduct, cX11_chainProduct, 5, (some .long), 0, 0, [])
def Y_X11_chainQuarters : MY := (yX11_chainQuarters, cX11_chainQuarters, 3, (some .int), 0, 0, [])
def Y_X11_chainMirrors : MY := (yX11_chainMirrors, cX11_chainMirrors, 3, (some .int), 0, 0, [])
def Y_X11_passChain : MY := (yX11_passChain, cX11_passChain, 5, (some .boolean), 0, 0, [])
def Y_X11_leastBend : MY := (yX11_leastBend, cX11_leastBend, 3, (some .int), 0, 0, [])
def Y_X11_drawsAllSeen : MY := (yX11_drawsAllSeen, cX11_drawsAllSeen, 4, (some .boolean), 0, 0, [])
def Y_X12_thrown : MY := (yX12_thrown, cX12_thrown, 1, (some .int), 0, 0, [])
def Y_X12_feed : MY := (yX12_feed, cX12_feed, 7, (some .int), 0, 0, [])
def Y_X12_lay : MY := (yX12_lay, cX12_lay, 5, none, 0, 0, [])
def Y_X12_init : MY := (yX12_init, cX12_init, 1, none, 0, 0, [])
def Y_X12_isLetter : MY := (yX12_isLetter, cX12_isLetter, 1, (some .boolean), 0, 0, [])
def Y_X12_isDigit : MY := (yX12_isDigit, cX12_isDigit, 1, (some .boolean), 0, 0, [])
def Y_X12_rank : MY := (yX12_rank, cX12_rank, 1, (some .int), 0, 0, [])
def Y_X12_isSignOf : MY := (yX12_isSignOf, cX12_isSignOf, 1, (some .boolean), 0, 0, [])
def Y_X12_cutAll : MY := (yX12_cutAll, cX12_cutAll, 7, none, 0, 0, [])
def Y_X12_wrong : MY := (yX12_wrong, cX12_wrong, 2, none, 0, 0, [])
def Y_X12_isSign : MY := (yX12_isSign, cX12_isSign, 2, (some .boolean), 0, 0, [])
def Y_X12_isWord : MY := (yX12_isWord, cX12_isWord, 2, (some .boolean), 0, 0, [])
def Y_X12_takeSign : MY := (yX12_takeSign, cX12_takeSign, 2, none, 0, 0, [])
def Y_X12_hasWord : MY := (yX12_hasWord, cX12_hasWord, 3, (some .boolean), 0, 0, [])
def Y_X12_takeWord : MY := (yX12_takeWord, cX12_takeWord, 2, none, 0, 0, [])
def Y_X12_within : MY := (yX12_within, cX12_within, 3, (some .boolean), 0, 0, [])
def Y_X12_carry : MY := (yX12_carry, cX12_carry, 4, none, 0, 0, [])
def Y_X12_takeNumber : MY := (yX12_takeNumber, cX12_takeNumber, 3, (some .int), 0, 0, [])
def Y_X12_takeAfter : MY := (yX12_takeAfter, cX12_takeAfter, 4, (some .int), 0, 0, [])
def Y_X12_isName : MY := (yX12_isName, cX12_isName, 3, (some .boolean), 0, 0, [])
def Y_X12_readName : MY := (yX12_readName, cX12_readName, 2, none, 0, 0, [])
def Y_X12_office : MY := (yX12_office, cX12_office, 2, (some .int), 0, 0, [])
def Y_X12_readArm : MY := (yX12_readArm, cX12_readArm, 4, none, 0, 0, [])
def Y_X12_takeHole : MY := (yX12_takeHole, cX12_takeHole, 5, none, 0, 0, [])
def Y_X12_readMap : MY := (yX12_readMap, cX12_readMap, 6, none, 0, 0, [])
def Y_X12_takePoint : MY := (yX12_takePoint, cX12_takePoint, 3, none, 0, 0, [])
def Y_X12_common : MY := (yX12_common, cX12_common, 10, (some .long), 0, 0, [])
def Y_X12_arms : MY := (yX12_arms, cX12_arms, 1, (some .int), 0, 0, [])
def Y_X12_isArm : MY := (yX12_isArm, cX12_isArm, 2, (some .boolean), 0, 0, [])
def Y_X12_isMap : MY := (yX12_isMap, cX12_isMap, 2, (some .boolean), 0, 0, [])
def Y_X12_of : MY := (yX12_of, cX12_of, 3, (some .int), 0, 0, [])
def Y_X12_lays : MY := (yX12_lays, cX12_lays, 4, none, 0, 0, [])
def Y_X12_mapOf : MY := (yX12_mapOf, cX12_mapOf, 3, (some .int), 0, 0, [])
def Y_X12_arm : MY := (yX12_arm, cX12_arm, 3, (some .int), 0, 0, [])
def Y_X12_hole : MY := (yX12_hole, cX12_hole, 3, (some .int), 0, 0, [])
def Y_X12_map : MY := (yX12_map, cX12_map, 3, (some .int), 0, 0, [])
def Y_X12_point : MY := (yX12_point, cX12_point, 4, (some .int), 0, 0, [])
def Y_X12_set : MY := (yX12_set, cX12_set, 4, (some .boolean), 0, 0, [])
def Y_X12_turn : MY := (yX12_turn, cX12_turn, 3, (some .boolean), 0, 0, [])
def Y_X12_pin : MY := (yX12_pin, cX12_pin, 4, (some .boolean), 0, 0, [])
def Y_X12_bend : MY := (yX12_bend, cX12_bend, 3, (some .boolean), 0, 0, [])
def Y_X12_starts : MY := (yX12_starts, cX12_starts, 3, none, 0, 0, [])
def Y_X12_isOut : MY := (yX12_isOut, cX12_isOut, 6, (some .boolean), 0, 0, [])
def Y_X12_lengthOf : MY := (yX12_lengthOf, cX12_lengthOf, 2, (some .long), 0, 0, [])
def Y_X12_traces : MY := (yX12_traces, cX12_traces, 10, none, 0, 0, [])
def Y_X12_part : MY := (yX12_part, cX12_part, 6, (some .long), 0, 0, [])
def Y_X12_canTrace : MY := (yX12_canTrace, cX12_canTrace, 3, (some .boolean), 0, 0, [])
def Y_X12_trace : MY := (yX12_trace, cX12_trace, 5, (some .long), 0, 0, [])
def Y_X12_chained : MY := (yX12_chained, cX12_chained, 1, (some .int), 0, 0, [])
def Y_X12_chainOf : MY := (yX12_chainOf, cX12_chainOf, 2, (some .int), 0, 0, [])
def Y_X12_chain : MY := (yX12_chain, cX12_chain, 4, (some .int), 0, 0, [])
def Y_X12_size : MY := (yX12_size, cX12_size, 7, (some .int), 0, 0, [])
def Y_X12_goes : MY := (yX12_goes, cX12_goes, 5, (some .boolean), 0, 0, [])
def Y_X12_draw : MY := (yX12_draw, cX12_draw, 4, (some .long), 0, 0, [])
def Y_X12_outs : MY := (yX12_outs, cX12_outs, 4, (some .int), 0, 0, [])
def Y_X12_fits : MY := (yX12_fits, cX12_fits, 8, none, 0, 0, [])
def Y_X12_fitted : MY := (yX12_fitted, cX12_fitted, 4, (some .int), 0, 0, [])
def Y_X12_see : MY := (yX12_see, cX12_see, 5, (some .boolean), 0, 0, [])
def Y_X12_clear : MY := (yX12_clear, cX12_clear, 2, (some .boolean), 0, 0, [])
def Y_X12_seen : MY := (yX12_seen, cX12_seen, 3, (some .int), 0, 0, [])
def Y_X12_drawsAll : MY := (yX12_drawsAll, cX12_drawsAll, 6, (some .boolean), 0, 0, [])
def Y_X12_findBend : MY := (yX12_findBend, cX12_findBend, 3, (some .int), 0, 0, [])
def Y_X12_suspects : MY := (yX12_suspects, cX12_suspects, 3, (some .int), 0, 0, [])
def Y_X12_crooked : MY := (yX12_crooked, cX12_crooked, 2, (some .int), 0, 0, [])
def Y_X12_findShakes : MY := (yX12_findShakes, cX12_findShakes, 5, none, 0, 0, [])
def Y_X12_shakes : MY := (yX12_shakes, cX12_shakes, 3, (some .long), 0, 0, [])
def Y_X12_isChained : MY := (yX12_isChained, cX12_isChained, 4, (some .boolean), 0, 0, [])
def Y_X12_triesOrder : MY := (yX12_triesOrder, cX12_triesOrder, 4, none, 0, 0, [])
def Y_X12_steadiest : MY := (yX12_steadiest, cX12_steadiest, 2, (some .long), 0, 0, [])
def Y_X12_reached : MY := (yX12_reached, cX12_reached, 9, (some .int), 0, 0, [])
def Y_X12_sheets : MY := (yX12_sheets, cX12_sheets, 7, (some .int), 0, 0, [])
def Y_X12_canCopy : MY := (yX12_canCopy, cX12_canCopy, 5, (some .boolean), 0, 0, [])
def Y_X12_unlike : MY := (yX12_unlike, cX12_unlike, 5, (some .int), 0, 0, [])
def Y_X12_descends : MY := (yX12_descends, cX12_descends, 6, (some .boolean), 0, 0, [])
def Y_X12_triesFrom : MY := (yX12_triesFrom, cX12_triesFrom, 6, none, 0, 0, [])
def Y_X12_descent : MY := (yX12_descent, cX12_descent, 3, (some .int), 0, 0, [])
def Y_X12_mark : MY := (yX12_mark, cX12_mark, 3, (some .boolean), 0, 0, [])
def Y_X12_count : MY := (yX12_count, cX12_count, 2, (some .int), 0, 0, [])
def Y_J6_bitCount_0f7a4 : MY := (yJ6_bitCount_0f7a4, cJ6_bitCount_0f7a4, 1, (some .int), 0, 0, [])
def Y_J9_abs_067f4 : MY := (yJ9_abs_067f4, cJ9_abs_067f4, 2, (some .long), 0, 0, [])
def Y_J9_max_7cf53 : MY := (yJ9_max_7cf53, cJ9_max_7cf53, 2, (some .int), 0, 0, [])
def Y_J9_min_7cf53 : MY := (yJ9_min_7cf53, cJ9_min_7cf53, 2, (some .int), 0, 0, [])
def Y_J0_length_8abf5 : MY := (yJ0_length_8abf5, cJ0_length_8abf5, 1, (some .int), 0, 0, [])
def Y_J0_charAt_5068e : MY := (yJ0_charAt_5068e, cJ0_charAt_5068e, 2, (some .char), 0, 0, [])
def Y_J0_coder_7d493 : MY := (yJ0_coder_7d493, cJ0_coder_7d493, 1, (some .byte), 0, 0, [])
def Y_J0_isLatin1_aae02 : MY := (yJ0_isLatin1_aae02, cJ0_isLatin1_aae02, 1, (some .boolean), 0, 0, [])
def Y_J0_checkIndex_df160 : MY := (yJ0_checkIndex_df160, cJ0_checkIndex_df160, 2, none, 0, 0, [])
def Y_J1_charAt_3b067 : MY := (yJ1_charAt_3b067, cJ1_charAt_3b067, 2, (some .char), 0, 0, [])
def Y_J2_getChar_3b067 : MY := (yJ2_getChar_3b067, cJ2_getChar_3b067, 2, (some .char), 0, 0, [])
def Y_J2_length_9d52b : MY := (yJ2_length_9d52b, cJ2_length_9d52b, 1, (some .int), 0, 0, [])
def Y_J2_charAt_3b067 : MY := (yJ2_charAt_3b067, cJ2_charAt_3b067, 2, (some .char), 0, 0, [])
def Y_J2_checkIndex_2214a : MY := (yJ2_checkIndex_2214a, cJ2_checkIndex_2214a, 2, none, 0, 0, [])
def Y_J3_checkIndex_8e157 : MY := (yJ3_checkIndex_8e157, cJ3_checkIndex_8e157, 3, (some .int), 0, 0, [])
theorem inG0 : ∀ w ∈ u_ws RX0 TX0 3, w ∈ lw_good := fun w hw => List.mem_filter.mpr (by
  have h : ((u_ws RX0 TX0 3).all (fun w => decide (w ∈ tables_1) && goodWord w)) = true := by decide +kernel
  have h2 := List.all_eq_true.mp h w hw
  simp only [Bool.and_eq_true, decide_eq_true_eq] at h2
  exact ⟨List.mem_append_right _ h2.1, h2.2⟩)
theorem inG1 : ∀ w ∈ u_ws RX1 TX1 10, w ∈ lw_good := fun w hw => List.mem_filter.mpr (by
  have h : ((u_ws RX1 TX1 10).all (fun w => decide (w ∈ tables_1) && goodWord w)) = true := by decide +kernel
  have h2 := List.all_eq_true.mp h w hw
  simp only [Bool.and_eq_true, decide_eq_true_eq] at h2
  exact ⟨List.mem_append_right _ h2.1, h2.2⟩)
theorem inG2 : ∀ w ∈ u_ws RX2 TX2 7, w ∈ lw_good := fun w hw => List.mem_filter.mpr (by
  have h : ((u_ws RX2 TX2 7).all (fun w => decide (w ∈ tables_1) && goodWord w)) = true := by decide +kernel
  have h2 := List.all_eq_true.mp h w hw
  simp only [Bool.and_eq_true, decide_eq_true_eq] at h2
  exact ⟨List.mem_append_right _ h2.1, h2.2⟩)
theorem inG3 : ∀ w ∈ u_ws RX3 TX3 2, w ∈ lw_good := fun w hw => List.mem_filter.mpr (by
  have h : ((u_ws RX3 TX3 2).all (fun w => decide (w ∈ tables_1) && goodWord w)) = true := by decide +kernel
  have h2 := List.all_eq_true.mp h w hw
  simp only [Bool.and_eq_true, decide_eq_true_eq] at h2
  exact ⟨List.mem_append_right _ h2.1, h2.2⟩)
theorem inG4 : ∀ w ∈ u_ws RX4 TX4 3, w ∈ lw_good := fun w hw => List.mem_filter.mpr (by
  have h : ((u_ws RX4 TX4 3).all (fun w => decide (w ∈ tables_1) && goodWord w)) = true := by decide +kernel
  have h2 := List.all_eq_true.mp h w hw
  simp only [Bool.and_eq_true, decide_eq_true_eq] at h2
  exact ⟨List.mem_append_right _ h2.1, h2.2⟩)
theorem inG5 : ∀ w ∈ u_ws RX5 TX5 4, w ∈ lw_good := fun w hw => List.mem_filter.mpr (by
  have h : ((u_ws RX5 TX5 4).all (fun w => decide (w ∈ tables_1) && goodWord w)) = true := by decide +kernel
  have h2 := List.all_eq_true.mp h w hw
  simp only [Bool.and_eq_true, decide_eq_true_eq] at h2
  exact ⟨List.mem_append_right _ h2.1, h2.2⟩)
theorem inG6 : ∀ w ∈ u_ws RX6 TX6 5, w ∈ lw_good := fun w hw => List.mem_filter.mpr (by
  have h : ((u_ws RX6 TX6 5).all (fun w => decide (w ∈ tables_1) && goodWord w)) = true := by decide +kernel
  have h2 := List.all_eq_true.mp h w hw
  simp only [Bool.and_eq_true, decide_eq_true_eq] at h2
  exact ⟨List.mem_append_right _ h2.1, h2.2⟩)
theorem inG7 : ∀ w ∈ u_ws RX7 TX7 11, w ∈ lw_good := fun w hw => List.mem_filter.mpr (by
  have h : ((u_ws RX7 TX7 11).all (fun w => decide (w ∈ tables_1) && goodWord w)) = true := by decide +kernel
  have h2 := List.all_eq_true.mp h w hw
  simp only [Bool.and_eq_true, decide_eq_true_eq] at h2
  exact ⟨List.mem_append_right _ h2.1, h2.2⟩)
theorem inG8 : ∀ w ∈ u_ws RX8 TX8 2, w ∈ lw_good := fun w hw => List.mem_filter.mpr (by
  have h : ((u_ws RX8 TX8 2).all (fun w => decide (w ∈ tables_1) && goodWord w)) = true := by decide +kernel
  have h2 := List.all_eq_true.mp h w hw
  simp only [Bool.and_eq_true, decide_eq_true_eq] at h2
  exact ⟨List.mem_append_right _ h2.1, h2.2⟩)
theorem inG9 : ∀ w ∈ u_ws RX9 TX9 3, w ∈ lw_good := fun w hw => List.mem_filter.mpr (by
  have h : ((u_ws RX9 TX9 3).all (fun w => decide (w ∈ tables_1) && goodWord w)) = true := by decide +kernel
  have h2 := List.all_eq_true.mp h w hw
  simp only [Bool.and_eq_true, decide_eq_true_eq] at h2
  exact ⟨List.mem_append_right _ h2.1, h2.2⟩)
theorem inG10 : ∀ w ∈ u_ws RX10 TX10 7, w ∈ lw_good := fun w hw => List.mem_filter.mpr (by
  have h : ((u_ws RX10 TX10 7).all (fun w => decide (w ∈ tables_1) && goodWord w)) = true := by decide +kernel
  have h2 := List.all_eq_true.mp h w hw
  simp only [Bool.and_eq_true, decide_eq_true_eq] at h2
  exact ⟨List.mem_append_right _ h2.1, h2.2⟩)
theorem inG11 : ∀ w ∈ u_ws RX11 TX11 12, w ∈ lw_good := fun w hw => List.mem_filter.mpr (by
  have h : ((u_ws RX11 TX11 12).all (fun w => decide (w ∈ tables_1) && goodWord w)) = true := by decide +kernel
  have h2 := List.all_eq_true.mp h w hw
  simp only [Bool.and_eq_true, decide_eq_true_eq] at h2
  exact ⟨List.mem_append_right _ h2.1, h2.2⟩)
theorem inG12 : ∀ w ∈ u_ws RX12 TX12 32, w ∈ lw_good := fun w hw => List.mem_filter.mpr (by
  have h : ((u_ws RX12 TX12 32).all (fun w => decide (w ∈ tables_1) && goodWord w)) = true := by decide +kernel
  have h2 := List.all_eq_true.mp h w hw
  simp only [Bool.and_eq_true, decide_eq_true_eq] at h2
  exact ⟨List.mem_append_right _ h2.1, h2.2⟩)
theorem mg618 : Cond.code Y_X11_inLowestTerms.y Y_X11_inLowestTerms.cc Y_X11_inLowestTerms.nL Y_X11_inLowestTerms.rt ∈ lw_good := List.mem_filter.mpr ⟨List.mem_append_right _ (List.mem_of_getElem? (i := 618) (by decide +kernel)), by decide +kernel⟩
theorem mg1 : Cond.initialized RX11 ∈ lw_good := List.mem_filter.mpr ⟨List.mem_append_right _ (List.mem_of_getElem? (i := 1) (by decide +kernel)), by decide +kernel⟩
theorem mg617 : Cond.static Y_X11_inLowestTerms.y ∈ lw_good := List.mem_filter.mpr ⟨List.mem_append_right _ (List.mem_of_getElem? (i := 617) (by decide +kernel)), by decide +kernel⟩
theorem cn_X11_inLowestTerms : cnOK 2 Y_X11_inLowestTerms := ⟨⟨mg617, mg1, mg618⟩, ⟨by decide +kernel, by decide +kernel⟩, by decide +kernel, by decide, rfl, rfl⟩
theorem mg824 : Cond.methodLink RX0 26 Y_X0_priceOf.y ∈ lw_good := List.mem_filter.mpr ⟨List.mem_append_right _ (List.mem_of_getElem? (i := 824) (by decide +kernel)), by decide +kernel⟩
theorem mg826 : Cond.code Y_X0_priceOf.y Y_X0_priceOf.cc Y_X0_priceOf.nL Y_X0_priceOf.rt ∈ lw_good := List.mem_filter.mpr ⟨List.mem_append_right _ (List.mem_of_getElem? (i := 826) (by decide +kernel)), by decide +kernel⟩
theorem mg12 : Cond.initialized RX0 ∈ lw_good := List.mem_filter.mpr ⟨List.mem_append_right _ (List.mem_of_getElem? (i := 12) (by decide +kernel)), by decide +kernel⟩
theorem mg825 : Cond.static Y_X0_priceOf.y ∈ lw_good := List.mem_filter.mpr ⟨List.mem_append_right _ (List.mem_of_getElem? (i := 825) (by decide +kernel)), by decide +kernel⟩
theorem cs_X0_26 : csOK RX0 26 4 Y_X0_priceOf := ⟨⟨mg824, mg825, mg12, mg826⟩, ⟨by decide +kernel, by decide +kernel⟩, by decide +kernel, by decide, rfl, rfl⟩
theorem mg827 : Cond.methodLink RX0 78 Y_J6_bitCount_0f7a4.y ∈ lw_good := List.mem_filter.mpr ⟨List.mem_append_right _ (List.mem_of_getElem? (i := 827) (by decide +kernel)), by decide +kernel⟩
theorem mg704 : Cond.code Y_J6_bitCount_0f7a4.y Y_J6_bitCount_0f7a4.cc Y_J6_bitCount_0f7a4.nL Y_J6_bitCount_0f7a4.rt ∈ lw_good := List.mem_filter.mpr ⟨List.mem_append_right _ (List.mem_of_getElem? (i := 704) (by decide +kernel)), by decide +kernel⟩
theorem mg23 : Cond.initialized RJ6 ∈ lw_good := List.mem_filter.mpr ⟨List.mem_append_right _ (List.mem_of_getElem? (i := 23) (by decide +kernel)), by decide +kernel⟩
theorem mg703 : Cond.static Y_J6_bitCount_0f7a4.y ∈ lw_good := List.mem_filter.mpr ⟨List.mem_append_right _ (List.mem_of_getElem? (i := 703) (by decide +kernel)), by decide +kernel⟩
theorem cs_X0_78 : csOK RX0 78 1 Y_J6_bitCount_0f7a4 := ⟨⟨mg827, mg703, mg23, mg704⟩, ⟨by decide +kernel, by decide +kernel⟩, by decide +kernel, by decide, rfl, rfl⟩
theorem mg455 : Cond.methodLink RX10 194 Y_X10_packed.y ∈ lw_good := List.mem_filter.mpr ⟨List.mem_append_right _ (List.mem_of_getElem? (i := 455) (by decide +kernel)), by decide +kernel⟩
theorem mg457 : Cond.code Y_X10_packed.y Y_X10_packed.cc Y_X10_packed.nL Y_X10_packed.rt ∈ lw_good := List.mem_filter.mpr ⟨List.mem_append_right _ (List.mem_of_getElem? (i := 457) (by decide +kernel)), by decide +kernel⟩
theorem mg2 : Cond.initialized RX10 ∈ lw_good := List.mem_filter.mpr ⟨List.mem_append_right _ (List.mem_of_getElem? (i := 2) (by decide +kernel)), by decide +kernel⟩
theorem mg456 : Cond.static Y_X10_packed.y ∈ lw_good := List.mem_filter.mpr ⟨List.mem_append_right _ (List.mem_of_getElem? (i := 456) (by decide +kernel)), by decide +kernel⟩
theorem cs_X10_194 : csOK RX10 194 1 Y_X10_packed := ⟨⟨mg455, mg456, mg2, mg457⟩, ⟨by decide +kernel, by decide +kernel⟩, by decide +kernel, by decide, rfl, rfl⟩
theorem mg429 : Cond.methodLink RX10 209 Y_X10_isBlank.y ∈ lw_good := List.mem_filter.mpr ⟨List.mem_append_right _ (List.mem_of_getElem? (i := 429) (by decide +kernel)), by decide +kernel⟩
theorem mg431 : Cond.code Y_X10_isBlank.y Y_X10_isBlank.cc Y_X10_isBlank.nL Y_X10_isBlank.rt ∈ lw_good := List.mem_filter.mpr ⟨List.mem_append_right _ (List.mem_of_getElem? (i := 431) (by decide +kernel)), by decide +kernel⟩
theorem mg430 : Cond.static Y_X10_isBlank.y ∈ lw_good := List.mem_filter.mpr ⟨List.mem_append_right _ (List.mem_of_getElem? (i := 430) (by decide +kernel)), by decide +kernel⟩
theorem cs_X10_209 : csOK RX10 209 1 Y_X10_isBlank := ⟨⟨mg429, mg430, mg2, mg431⟩, ⟨by decide +kernel, by decide +kernel⟩, by decide +kernel, by decide, rfl, rfl⟩
theorem mg432 : Cond.methodLink RX10 212 Y_X10_isLetter.y ∈ lw_good := List.mem_filter.mpr ⟨List.mem_append_right _ (List.mem_of_getElem? (i := 432) (by decide +kernel)), by decide +kernel⟩
theorem mg434 : Cond.code Y_X10_isLetter.y Y_X10_isLetter.cc Y_X10_isLetter.nL Y_X10_isLetter.rt ∈ lw_good := List.mem_filter.mpr ⟨List.mem_append_right _ (List.mem_of_getElem? (i := 434) (by decide +kernel)), by decide +kernel⟩
theorem mg433 : Cond.static Y_X10_isLetter.y ∈ lw_good := List.mem_filter.mpr ⟨List.mem_append_right _ (List.mem_of_getElem? (i := 433) (by decide +kernel)), by decide +kernel⟩
theorem cs_X10_212 : csOK RX10 212 1 Y_X10_isLetter := ⟨⟨mg432, mg433, mg2, mg434⟩, ⟨by decide +kernel, by decide +kernel⟩, by decide +kernel, by decide, rfl, rfl⟩
theorem mg440 : Cond.methodLink RX10 218 Y_X10_isDigit.y ∈ lw_good := List.mem_filter.mpr ⟨List.mem_append_right _ (List.mem_of_getElem? (i := 440) (by decide +kernel)), by decide +kernel⟩
theorem mg442 : Cond.code Y_X10_isDigit.y Y_X10_isDigit.cc Y_X10_isDigit.nL Y_X10_isDigit.rt ∈ lw_good := List.mem_filter.mpr ⟨List.mem_append_right _ (List.mem_of_getElem? (i := 442) (by decide +kernel)), by decide +kernel⟩
theorem mg441 : Cond.static Y_X10_isDigit.y ∈ lw_good := List.mem_filter.mpr ⟨List.mem_append_right _ (List.mem_of_getElem? (i := 441) (by decide +kernel)), by decide +kernel⟩
theorem cs_X10_218 : csOK RX10 218 1 Y_X10_isDigit := ⟨⟨mg440, mg441, mg2, mg442⟩, ⟨by decide +kernel, by decide +kernel⟩, by decide +kernel, by decide, rfl, rfl⟩
theorem mg616 : Cond.methodLink RX11 161 Y_X11_inLowestTerms.y ∈ lw_good := List.mem_filter.mpr ⟨List.mem_append_right _ (List.mem_of_getElem? (i := 616) (by decide +kernel)), by decide +kernel⟩
theorem cs_X11_161 : csOK RX11 161 2 Y_X11_inLowestTerms := ⟨⟨mg616, mg617, mg1, mg618⟩, ⟨by decide +kernel, by decide +kernel⟩, by decide +kernel, by decide, rfl, rfl⟩
theorem mg637 : Cond.methodLink RX11 177 Y_X11_isWithin.y ∈ lw_good := List.mem_filter.mpr ⟨List.mem_append_right _ (List.mem_of_getElem? (i := 637) (by decide +kernel)), by decide +kernel⟩
theorem mg639 : Cond.code Y_X11_isWithin.y Y_X11_isWithin.cc Y_X11_isWithin.nL Y_X11_isWithin.rt ∈ lw_good := List.mem_filter.mpr ⟨List.mem_append_right _ (List.mem_of_getElem? (i := 639) (by decide +kernel)), by decide +kernel⟩
theorem mg638 : Cond.static Y_X11_isWithin.y ∈ lw_good := List.mem_filter.mpr ⟨List.mem_append_right _ (List.mem_of_getElem? (i := 638) (by decide +kernel)), by decide +kernel⟩
theorem cs_X11_177 : csOK RX11 177 3 Y_X11_isWithin := ⟨⟨mg637, mg638, mg1, mg639⟩, ⟨by decide +kernel, by decide +kernel⟩, by decide +kernel, by decide, rfl, rfl⟩
theorem mg866 : Cond.methodLink RX11 303 Y_J6_bitCount_0f7a4.y ∈ lw_good := List.mem_filter.mpr ⟨List.mem_append_right _ (List.mem_of_getElem? (i := 866) (by decide +kernel)), by decide +kernel⟩
theorem cs_X11_303 : csOK RX11 303 1 Y_J6_bitCount_0f7a4 := ⟨⟨mg866, mg703, mg23, mg704⟩, ⟨by decide +kernel, by decide +kernel⟩, by decide +kernel, by decide, rfl, rfl⟩
theorem mg622 : Cond.methodLink RX11 314 Y_X11_commonDivisor.y ∈ lw_good := List.mem_filter.mpr ⟨List.mem_append_right _ (List.mem_of_getElem? (i := 622) (by decide +kernel)), by decide +kernel⟩
theorem mg624 : Cond.code Y_X11_commonDivisor.y Y_X11_commonDivisor.cc Y_X11_commonDivisor.nL Y_X11_commonDivisor.rt ∈ lw_good := List.mem_filter.mpr ⟨List.mem_append_right _ (List.mem_of_getElem? (i := 624) (by decide +kernel)), by decide +kernel⟩
theorem mg623 : Cond.static Y_X11_commonDivisor.y ∈ lw_good := List.mem_filter.mpr ⟨List.mem_append_right _ (List.mem_of_getElem? (i := 623) (by decide +kernel)), by decide +kernel⟩
theorem cs_X11_314 : csOK RX11 314 2 Y_X11_commonDivisor := ⟨⟨mg622, mg623, mg1, mg624⟩, ⟨by decide +kernel, by decide +kernel⟩, by decide +kernel, by decide, rfl, rfl⟩
theorem mg1110 : Cond.methodLink RX12 103 Y_X12_rank.y ∈ lw_good := List.mem_filter.mpr ⟨List.mem_append_right _ (List.mem_of_getElem? (i := 1110) (by decide +kernel)), by decide +kernel⟩
theorem mg1112 : Cond.code Y_X12_rank.y Y_X12_rank.cc Y_X12_rank.nL Y_X12_rank.rt ∈ lw_good := List.mem_filter.mpr ⟨List.mem_append_right _ (List.mem_of_getElem? (i := 1112) (by decide +kernel)), by decide +kernel⟩
theorem mg13 : Cond.initialized RX12 ∈ lw_good := List.mem_filter.mpr ⟨List.mem_append_right _ (List.mem_of_getElem? (i := 13) (by decide +kernel)), by decide +kernel⟩
theorem mg1111 : Cond.static Y_X12_rank.y ∈ lw_good := List.mem_filter.mpr ⟨List.mem_append_right _ (List.mem_of_getElem? (i := 1111) (by decide +kernel)), by decide +kernel⟩
theorem cs_X12_103 : csOK RX12 103 1 Y_X12_rank := ⟨⟨mg1110, mg1111, mg13, mg1112⟩, ⟨by decide +kernel, by decide +kernel⟩, by decide +kernel, by decide, rfl, rfl⟩
theorem mg1113 : Cond.methodLink RX12 107 Y_X12_isDigit.y ∈ lw_good := List.mem_filter.mpr ⟨List.mem_append_right _ (List.mem_of_getElem? (i := 1113) (by decide +kernel)), by decide +kernel⟩
theorem mg1115 : Cond.code Y_X12_isDigit.y Y_X12_isDigit.cc Y_X12_isDigit.nL Y_X12_isDigit.rt ∈ lw_good := List.mem_filter.mpr ⟨List.mem_append_right _ (List.mem_of_getElem? (i := 1115) (by decide +kernel)), by decide +kernel⟩
theorem mg1114 : Cond.static Y_X12_isDigit.y ∈ lw_good := List.mem_filter.mpr ⟨List.mem_append_right _ (List.mem_of_getElem? (i := 1114) (by decide +kernel)), by decide +kernel⟩
theorem cs_X12_107 : csOK RX12 107 1 Y_X12_isDigit := ⟨⟨mg1113, mg1114, mg13, mg1115⟩, ⟨by decide +kernel, by decide +kernel⟩, by decide +kernel, by decide, rfl, rfl⟩
theorem mg1118 : Cond.methodLink RX12 114 Y_X12_isSignOf.y ∈ lw_good := List.mem_filter.mpr ⟨List.mem_append_right _ (List.mem_of_getElem? (i := 1118) (by decide +kernel)), by decide +kernel⟩
theorem mg1120 : Cond.code Y_X12_isSignOf.y Y_X12_isSignOf.cc Y_X12_isSignOf.nL Y_X12_isSignOf.rt ∈ lw_good := List.mem_filter.mpr ⟨List.mem_append_right _ (List.mem_of_getElem? (i := 1120) (by decide +kernel)), by decide +kernel⟩
theorem mg1119 : Cond.static Y_X12_isSignOf.y ∈ lw_good := List.mem_filter.mpr ⟨List.mem_append_right _ (List.mem_of_getElem? (i := 1119) (by decide +kernel)), by decide +kernel⟩
theorem cs_X12_114 : csOK RX12 114 1 Y_X12_isSignOf := ⟨⟨mg1118, mg1119, mg13, mg1120⟩, ⟨by decide +kernel, by decide +kernel⟩, by decide +kernel, by decide, rfl, rfl⟩
theorem mg1173 : Cond.methodLink RX12 179 Y_X12_common.y ∈ lw_good := List.mem_filter.mpr ⟨List.mem_append_right _ (List.mem_of_getElem? (i := 1173) (by decide +kernel)), by decide +kernel⟩
theorem mg1175 : Cond.code Y_X12_common.y Y_X12_common.cc Y_X12_common.nL Y_X12_common.rt ∈ lw_good := List.mem_filter.mpr ⟨List.mem_append_right _ (List.mem_of_getElem? (i := 1175) (by decide +kernel)), by decide +kernel⟩
theorem mg1174 : Cond.static Y_X12_common.y ∈ lw_good := List.mem_filter.mpr ⟨List.mem_append_right _ (List.mem_of_getElem? (i := 1174) (by decide +kernel)), by decide +kernel⟩
theorem cs_X12_179 : csOK RX12 179 2 Y_X12_common := ⟨⟨mg1173, mg1174, mg13, mg1175⟩, ⟨by decide +kernel, by decide +kernel⟩, by decide +kernel, by decide, rfl, rfl⟩
theorem mg1212 : Cond.methodLink RX12 196 Y_X12_within.y ∈ lw_good := List.mem_filter.mpr ⟨List.mem_append_right _ (List.mem_of_getElem? (i := 1212) (by decide +kernel)), by decide +kernel⟩
theorem mg1214 : Cond.code Y_X12_within.y Y_X12_within.cc Y_X12_within.nL Y_X12_within.rt ∈ lw_good := List.mem_filter.mpr ⟨List.mem_append_right _ (List.mem_of_getElem? (i := 1214) (by decide +kernel)), by decide +kernel⟩
theorem mg1213 : Cond.static Y_X12_within.y ∈ lw_good := List.mem_filter.mpr ⟨List.mem_append_right _ (List.mem_of_getElem? (i := 1213) (by decide +kernel)), by decide +kernel⟩
theorem cs_X12_196 : csOK RX12 196 3 Y_X12_within := ⟨⟨mg1212, mg1213, mg13, mg1214⟩, ⟨by decide +kernel, by decide +kernel⟩, by decide +kernel, by decide, rfl, rfl⟩
theorem mg1258 : Cond.methodLink RX12 217 Y_X12_lengthOf.y ∈ lw_good := List.mem_filter.mpr ⟨List.mem_append_right _ (List.mem_of_getElem? (i := 1258) (by decide +kernel)), by decide +kernel⟩
theorem mg1260 : Cond.code Y_X12_lengthOf.y Y_X12_lengthOf.cc Y_X12_lengthOf.nL Y_X12_lengthOf.rt ∈ lw_good := List.mem_filter.mpr ⟨List.mem_append_right _ (List.mem_of_getElem? (i := 1260) (by decide +kernel)), by decide +kernel⟩
theorem mg1259 : Cond.static Y_X12_lengthOf.y ∈ lw_good := List.mem_filter.mpr ⟨List.mem_append_right _ (List.mem_of_getElem? (i := 1259) (by decide +kernel)), by decide +kernel⟩
theorem cs_X12_217 : csOK RX12 217 1 Y_X12_lengthOf := ⟨⟨mg1258, mg1259, mg13, mg1260⟩, ⟨by decide +kernel, by decide +kernel⟩, by decide +kernel, by decide, rfl, rfl⟩
theorem mg1251 : Cond.methodLink RX12 224 Y_X12_canTrace.y ∈ lw_good := List.mem_filter.mpr ⟨List.mem_append_right _ (List.mem_of_getElem? (i := 1251) (by decide +kernel)), by decide +kernel⟩
theorem mg1253 : Cond.code Y_X12_canTrace.y Y_X12_canTrace.cc Y_X12_canTrace.nL Y_X12_canTrace.rt ∈ lw_good := List.mem_filter.mpr ⟨List.mem_append_right _ (List.mem_of_getElem? (i := 1253) (by decide +kernel)), by decide +kernel⟩
theorem mg1252 : Cond.static Y_X12_canTrace.y ∈ lw_good := List.mem_filter.mpr ⟨List.mem_append_right _ (List.mem_of_getElem? (i := 1252) (by decide +kernel)), by decide +kernel⟩
theorem cs_X12_224 : csOK RX12 224 3 Y_X12_canTrace := ⟨⟨mg1251, mg1252, mg13, mg1253⟩, ⟨by decide +kernel, by decide +kernel⟩, by decide +kernel, by decide, rfl, rfl⟩
theorem mg1106 : Cond.methodLink RX12 94 Y_X12_isLetter.y ∈ lw_good := List.mem_filter.mpr ⟨List.mem_append_right _ (List.mem_of_getElem? (i := 1106) (by decide +kernel)), by decide +kernel⟩
theorem mg1108 : Cond.code Y_X12_isLetter.y Y_X12_isLetter.cc Y_X12_isLetter.nL Y_X12_isLetter.rt ∈ lw_good := List.mem_filter.mpr ⟨List.mem_append_right _ (List.mem_of_getElem? (i := 1108) (by decide +kernel)), by decide +kernel⟩
theorem mg1107 : Cond.static Y_X12_isLetter.y ∈ lw_good := List.mem_filter.mpr ⟨List.mem_append_right _ (List.mem_of_getElem? (i := 1107) (by decide +kernel)), by decide +kernel⟩
theorem cs_X12_94 : csOK RX12 94 1 Y_X12_isLetter := ⟨⟨mg1106, mg1107, mg13, mg1108⟩, ⟨by decide +kernel, by decide +kernel⟩, by decide +kernel, by decide, rfl, rfl⟩
theorem mg803 : Cond.methodLink RX3 25 Y_X3_reachesAll.y ∈ lw_good := List.mem_filter.mpr ⟨List.mem_append_right _ (List.mem_of_getElem? (i := 803) (by decide +kernel)), by decide +kernel⟩
theorem mg805 : Cond.code Y_X3_reachesAll.y Y_X3_reachesAll.cc Y_X3_reachesAll.nL Y_X3_reachesAll.rt ∈ lw_good := List.mem_filter.mpr ⟨List.mem_append_right _ (List.mem_of_getElem? (i := 805) (by decide +kernel)), by decide +kernel⟩
theorem mg11 : Cond.initialized RX3 ∈ lw_good := List.mem_filter.mpr ⟨List.mem_append_right _ (List.mem_of_getElem? (i := 11) (by decide +kernel)), by decide +kernel⟩
theorem mg804 : Cond.static Y_X3_reachesAll.y ∈ lw_good := List.mem_filter.mpr ⟨List.mem_append_right _ (List.mem_of_getElem? (i := 804) (by decide +kernel)), by decide +kernel⟩
theorem cs_X3_25 : csOK RX3 25 3 Y_X3_reachesAll := ⟨⟨mg803, mg804, mg11, mg805⟩, ⟨by decide +kernel, by decide +kernel⟩, by decide +kernel, by decide, rfl, rfl⟩
theorem mg702 : Cond.methodLink RX4 24 Y_J6_bitCount_0f7a4.y ∈ lw_good := List.mem_filter.mpr ⟨List.mem_append_right _ (List.mem_of_getElem? (i := 702) (by decide +kernel)), by decide +kernel⟩
theorem cs_X4_24 : csOK RX4 24 1 Y_J6_bitCount_0f7a4 := ⟨⟨mg702, mg703, mg23, mg704⟩, ⟨by decide +kernel, by decide +kernel⟩, by decide +kernel, by decide, rfl, rfl⟩
theorem mg708 : Cond.methodLink RX4 30 Y_X4_waysOf.y ∈ lw_good := List.mem_filter.mpr ⟨List.mem_append_right _ (List.mem_of_getElem? (i := 708) (by decide +kernel)), by decide +kernel⟩
theorem mg710 : Cond.code Y_X4_waysOf.y Y_X4_waysOf.cc Y_X4_waysOf.nL Y_X4_waysOf.rt ∈ lw_good := List.mem_filter.mpr ⟨List.mem_append_right _ (List.mem_of_getElem? (i := 710) (by decide +kernel)), by decide +kernel⟩
theorem mg10 : Cond.initialized RX4 ∈ lw_good := List.mem_filter.mpr ⟨List.mem_append_right _ (List.mem_of_getElem? (i := 10) (by decide +kernel)), by decide +kernel⟩
theorem mg709 : Cond.static Y_X4_waysOf.y ∈ lw_good := List.mem_filter.mpr ⟨List.mem_append_right _ (List.mem_of_getElem? (i := 709) (by decide +kernel)), by decide +kernel⟩
theorem cs_X4_30 : csOK RX4 30 4 Y_X4_waysOf := ⟨⟨mg708, mg709, mg10, mg710⟩, ⟨by decide +kernel, by decide +kernel⟩, by decide +kernel, by decide, rfl, rfl⟩
theorem mg711 : Cond.methodLink RX4 42 Y_X4_waysOfLast.y ∈ lw_good := List.mem_filter.mpr ⟨List.mem_append_right _ (List.mem_of_getElem? (i := 711) (by decide +kernel)), by decide +kernel⟩
theorem mg713 : Cond.code Y_X4_waysOfLast.y Y_X4_waysOfLast.cc Y_X4_waysOfLast.nL Y_X4_waysOfLast.rt ∈ lw_good := List.mem_filter.mpr ⟨List.mem_append_right _ (List.mem_of_getElem? (i := 713) (by decide +kernel)), by decide +kernel⟩
theorem mg712 : Cond.static Y_X4_waysOfLast.y ∈ lw_good := List.mem_filter.mpr ⟨List.mem_append_right _ (List.mem_of_getElem? (i := 712) (by decide +kernel)), by decide +kernel⟩
theorem cs_X4_42 : csOK RX4 42 3 Y_X4_waysOfLast := ⟨⟨mg711, mg712, mg10, mg713⟩, ⟨by decide +kernel, by decide +kernel⟩, by decide +kernel, by decide, rfl, rfl⟩
theorem mg832 : Cond.methodLink RX0 30 Y_X0_leastOf.y ∈ lw_good := List.mem_filter.mpr ⟨List.mem_append_right _ (List.mem_of_getElem? (i := 832) (by decide +kernel)), by decide +kernel⟩
theorem mg835 : Cond.code Y_X0_leastOf.y Y_X0_leastOf.cc Y_X0_leastOf.nL Y_X0_leastOf.rt ∈ lw_good := List.mem_filter.mpr ⟨List.mem_append_right _ (List.mem_of_getElem? (i := 835) (by decide +kernel)), by decide +kernel⟩
theorem mg834 : Cond.instanceMethod Y_X0_leastOf.y ∈ lw_good := List.mem_filter.mpr ⟨List.mem_append_right _ (List.mem_of_getElem? (i := 834) (by decide +kernel)), by decide +kernel⟩
theorem msel_X0_leastOf : Cond.selects RX0 yX0_leastOf yX0_leastOf ∈ lw_good := List.mem_filter.mpr ⟨List.mem_append_left _ (List.mem_of_getElem? (i := 29) (by decide +kernel)), by decide +kernel⟩
theorem cv_X0_30 : cvOK RX0 30 0 2 Y_X0_leastOf := ⟨RX0, TX0, 3, rfl, rfl, ⟨mg832, mg834, msel_X0_leastOf, mg12, mg835⟩, ⟨by decide +kernel, by decide +kernel⟩, by decide +kernel, by decide, rfl, rfl⟩
theorem mg837 : Cond.methodLink RX0 43 Y_X0_leastWithCopy.y ∈ lw_good := List.mem_filter.mpr ⟨List.mem_append_right _ (List.mem_of_getElem? (i := 837) (by decide +kernel)), by decide +kernel⟩
theorem mg840 : Cond.code Y_X0_leastWithCopy.y Y_X0_leastWithCopy.cc Y_X0_leastWithCopy.nL Y_X0_leastWithCopy.rt ∈ lw_good := List.mem_filter.mpr ⟨List.mem_append_right _ (List.mem_of_getElem? (i := 840) (by decide +kernel)), by decide +kernel⟩
theorem mg839 : Cond.instanceMethod Y_X0_leastWithCopy.y ∈ lw_good := List.mem_filter.mpr ⟨List.mem_append_right _ (List.mem_of_getElem? (i := 839) (by decide +kernel)), by decide +kernel⟩
theorem msel_X0_leastWithCopy : Cond.selects RX0 yX0_leastWithCopy yX0_leastWithCopy ∈ lw_good := List.mem_filter.mpr ⟨List.mem_append_left _ (List.mem_of_getElem? (i := 30) (by decide +kernel)), by decide +kernel⟩
theorem cv_X0_43 : cvOK RX0 43 0 3 Y_X0_leastWithCopy := ⟨RX0, TX0, 3, rfl, rfl, ⟨mg837, mg839, msel_X0_leastWithCopy, mg12, mg840⟩, ⟨by decide +kernel, by decide +kernel⟩, by decide +kernel, by decide, rfl, rfl⟩
theorem mg570 : Cond.methodLink RX10 119 Y_X10_skipSign.y ∈ lw_good := List.mem_filter.mpr ⟨List.mem_append_right _ (List.mem_of_getElem? (i := 570) (by decide +kernel)), by decide +kernel⟩
theorem mg573 : Cond.code Y_X10_skipSign.y Y_X10_skipSign.cc Y_X10_skipSign.nL Y_X10_skipSign.rt ∈ lw_good := List.mem_filter.mpr ⟨List.mem_append_right _ (List.mem_of_getElem? (i := 573) (by decide +kernel)), by decide +kernel⟩
theorem mg572 : Cond.instanceMethod Y_X10_skipSign.y ∈ lw_good := List.mem_filter.mpr ⟨List.mem_append_right _ (List.mem_of_getElem? (i := 572) (by decide +kernel)), by decide +kernel⟩
theorem msel_X10_skipSign : Cond.selects RX10 yX10_skipSign yX10_skipSign ∈ lw_good := List.mem_filter.mpr ⟨List.mem_append_left _ (List.mem_of_getElem? (i := 14) (by decide +kernel)), by decide +kernel⟩
theorem cv_X10_119 : cvOK RX10 119 10 1 Y_X10_skipSign := ⟨RX10, TX10, 7, rfl, rfl, ⟨mg570, mg572, msel_X10_skipSign, mg2, mg573⟩, ⟨by decide +kernel, by decide +kernel⟩, by decide +kernel, by decide, rfl, rfl⟩
theorem mg582 : Cond.methodLink RX10 144 Y_X10_readPoints.y ∈ lw_good := List.mem_filter.mpr ⟨List.mem_append_right _ (List.mem_of_getElem? (i := 582) (by decide +kernel)), by decide +kernel⟩
theorem mg585 : Cond.code Y_X10_readPoints.y Y_X10_readPoints.cc Y_X10_readPoints.nL Y_X10_readPoints.rt ∈ lw_good := List.mem_filter.mpr ⟨List.mem_append_right _ (List.mem_of_getElem? (i := 585) (by decide +kernel)), by decide +kernel⟩
theorem mg584 : Cond.instanceMethod Y_X10_readPoints.y ∈ lw_good := List.mem_filter.mpr ⟨List.mem_append_right _ (List.mem_of_getElem? (i := 584) (by decide +kernel)), by decide +kernel⟩
theorem msel_X10_readPoints : Cond.selects RX10 yX10_readPoints yX10_readPoints ∈ lw_good := List.mem_filter.mpr ⟨List.mem_append_left _ (List.mem_of_getElem? (i := 17) (by decide +kernel)), by decide +kernel⟩
theorem cv_X10_144 : cvOK RX10 144 10 1 Y_X10_readPoints := ⟨RX10, TX10, 7, rfl, rfl, ⟨mg582, mg584, msel_X10_readPoints, mg2, mg585⟩, ⟨by decide +kernel, by decide +kernel⟩, by decide +kernel, by decide, rfl, rfl⟩
theorem mg518 : Cond.methodLink RX10 148 Y_X10_isReserved.y ∈ lw_good := List.mem_filter.mpr ⟨List.mem_append_right _ (List.mem_of_getElem? (i := 518) (by decide +kernel)), by decide +kernel⟩
theorem mg521 : Cond.code Y_X10_isReserved.y Y_X10_isReserved.cc Y_X10_isReserved.nL Y_X10_isReserved.rt ∈ lw_good := List.mem_filter.mpr ⟨List.mem_append_right _ (List.mem_of_getElem? (i := 521) (by decide +kernel)), by decide +kernel⟩
theorem mg520 : Cond.instanceMethod Y_X10_isReserved.y ∈ lw_good := List.mem_filter.mpr ⟨List.mem_append_right _ (List.mem_of_getElem? (i := 520) (by decide +kernel)), by decide +kernel⟩
theorem msel_X10_isReserved : Cond.selects RX10 yX10_isReserved yX10_isReserved ∈ lw_good := List.mem_filter.mpr ⟨List.mem_append_left _ (List.mem_of_getElem? (i := 7) (by decide +kernel)), by decide +kernel⟩
theorem cv_X10_148 : cvOK RX10 148 10 0 Y_X10_isReserved := ⟨RX10, TX10, 7, rfl, rfl, ⟨mg518, mg520, msel_X10_isReserved, mg2, mg521⟩, ⟨by decide +kernel, by decide +kernel⟩, by decide +kernel, by decide, rfl, rfl⟩
theorem mg533 : Cond.methodLink RX10 152 Y_X10_kindHere.y ∈ lw_good := List.mem_filter.mpr ⟨List.mem_append_right _ (List.mem_of_getElem? (i := 533) (by decide +kernel)), by decide +kernel⟩
theorem mg536 : Cond.code Y_X10_kindHere.y Y_X10_kindHere.cc Y_X10_kindHere.nL Y_X10_kindHere.rt ∈ lw_good := List.mem_filter.mpr ⟨List.mem_append_right _ (List.mem_of_getElem? (i := 536) (by decide +kernel)), by decide +kernel⟩
theorem mg535 : Cond.instanceMethod Y_X10_kindHere.y ∈ lw_good := List.mem_filter.mpr ⟨List.mem_append_right _ (List.mem_of_getElem? (i := 535) (by decide +kernel)), by decide +kernel⟩
theorem msel_X10_kindHere : Cond.selects RX10 yX10_kindHere yX10_kindHere ∈ lw_good := List.mem_filter.mpr ⟨List.mem_append_left _ (List.mem_of_getElem? (i := 8) (by decide +kernel)), by decide +kernel⟩
theorem cv_X10_152 : cvOK RX10 152 10 0 Y_X10_kindHere := ⟨RX10, TX10, 7, rfl, rfl, ⟨mg533, mg535, msel_X10_kindHere, mg2, mg536⟩, ⟨by decide +kernel, by decide +kernel⟩, by decide +kernel, by decide, rfl, rfl⟩
theorem mg541 : Cond.methodLink RX10 158 Y_X5_hasName.y ∈ lw_good := List.mem_filter.mpr ⟨List.mem_append_right _ (List.mem_of_getElem? (i := 541) (by decide +kernel)), by decide +kernel⟩
theorem mg544 : Cond.code Y_X5_hasName.y Y_X5_hasName.cc Y_X5_hasName.nL Y_X5_hasName.rt ∈ lw_good := List.mem_filter.mpr ⟨List.mem_append_right _ (List.mem_of_getElem? (i := 544) (by decide +kernel)), by decide +kernel⟩
theorem mg3 : Cond.initialized RX5 ∈ lw_good := List.mem_filter.mpr ⟨List.mem_append_right _ (List.mem_of_getElem? (i := 3) (by decide +kernel)), by decide +kernel⟩
theorem mg542 : Cond.instanceMethod Y_X5_hasName.y ∈ lw_good := List.mem_filter.mpr ⟨List.mem_append_right _ (List.mem_of_getElem? (i := 542) (by decide +kernel)), by decide +kernel⟩
theorem mg543 : Cond.selects RX5 yX5_hasName yX5_hasName ∈ lw_good := List.mem_filter.mpr ⟨List.mem_append_right _ (List.mem_of_getElem? (i := 543) (by decide +kernel)), by decide +kernel⟩
theorem cv_X10_158 : cvOK RX10 158 5 1 Y_X5_hasName := ⟨RX5, TX5, 4, rfl, rfl, ⟨mg541, mg542, mg543, mg3, mg544⟩, ⟨by decide +kernel, by decide +kernel⟩, by decide +kernel, by decide, rfl, rfl⟩
theorem mg553 : Cond.methodLink RX10 164 Y_X10_skipWord.y ∈ lw_good := List.mem_filter.mpr ⟨List.mem_append_right _ (List.mem_of_getElem? (i := 553) (by decide +kernel)), by decide +kernel⟩
theorem mg556 : Cond.code Y_X10_skipWord.y Y_X10_skipWord.cc Y_X10_skipWord.nL Y_X10_skipWord.rt ∈ lw_good := List.mem_filter.mpr ⟨List.mem_append_right _ (List.mem_of_getElem? (i := 556) (by decide +kernel)), by decide +kernel⟩
theorem mg555 : Cond.instanceMethod Y_X10_skipWord.y ∈ lw_good := List.mem_filter.mpr ⟨List.mem_append_right _ (List.mem_of_getElem? (i := 555) (by decide +kernel)), by decide +kernel⟩
theorem msel_X10_skipWord : Cond.selects RX10 yX10_skipWord yX10_skipWord ∈ lw_good := List.mem_filter.mpr ⟨List.mem_append_left _ (List.mem_of_getElem? (i := 11) (by decide +kernel)), by decide +kernel⟩
theorem cv_X10_164 : cvOK RX10 164 10 1 Y_X10_skipWord := ⟨RX10, TX10, 7, rfl, rfl, ⟨mg553, mg555, msel_X10_skipWord, mg2, mg556⟩, ⟨by decide +kernel, by decide +kernel⟩, by decide +kernel, by decide, rfl, rfl⟩
theorem mg557 : Cond.methodLink RX10 171 Y_X1_hasHoleOf.y ∈ lw_good := List.mem_filter.mpr ⟨List.mem_append_right _ (List.mem_of_getElem? (i := 557) (by decide +kernel)), by decide +kernel⟩
theorem mg560 : Cond.code Y_X1_hasHoleOf.y Y_X1_hasHoleOf.cc Y_X1_hasHoleOf.nL Y_X1_hasHoleOf.rt ∈ lw_good := List.mem_filter.mpr ⟨List.mem_append_right _ (List.mem_of_getElem? (i := 560) (by decide +kernel)), by decide +kernel⟩
theorem mg4 : Cond.initialized RX1 ∈ lw_good := List.mem_filter.mpr ⟨List.mem_append_right _ (List.mem_of_getElem? (i := 4) (by decide +kernel)), by decide +kernel⟩
theorem mg558 : Cond.instanceMethod Y_X1_hasHoleOf.y ∈ lw_good := List.mem_filter.mpr ⟨List.mem_append_right _ (List.mem_of_getElem? (i := 558) (by decide +kernel)), by decide +kernel⟩
theorem mg559 : Cond.selects RX1 yX1_hasHoleOf yX1_hasHoleOf ∈ lw_good := List.mem_filter.mpr ⟨List.mem_append_right _ (List.mem_of_getElem? (i := 559) (by decide +kernel)), by decide +kernel⟩
theorem cv_X10_171 : cvOK RX10 171 1 1 Y_X1_hasHoleOf := ⟨RX1, TX1, 10, rfl, rfl, ⟨mg557, mg558, mg559, mg4, mg560⟩, ⟨by decide +kernel, by decide +kernel⟩, by decide +kernel, by decide, rfl, rfl⟩
theorem mg574 : Cond.methodLink RX10 190 Y_X10_isSignHere.y ∈ lw_good := List.mem_filter.mpr ⟨List.mem_append_right _ (List.mem_of_getElem? (i := 574) (by decide +kernel)), by decide +kernel⟩
theorem mg577 : Cond.code Y_X10_isSignHere.y Y_X10_isSignHere.cc Y_X10_isSignHere.nL Y_X10_isSignHere.rt ∈ lw_good := List.mem_filter.mpr ⟨List.mem_append_right _ (List.mem_of_getElem? (i := 577) (by decide +kernel)), by decide +kernel⟩
theorem mg576 : Cond.instanceMethod Y_X10_isSignHere.y ∈ lw_good := List.mem_filter.mpr ⟨List.mem_append_right _ (List.mem_of_getElem? (i := 576) (by decide +kernel)), by decide +kernel⟩
theorem msel_X10_isSignHere : Cond.selects RX10 yX10_isSignHere yX10_isSignHere ∈ lw_good := List.mem_filter.mpr ⟨List.mem_append_left _ (List.mem_of_getElem? (i := 15) (by decide +kernel)), by decide +kernel⟩
theorem cv_X10_190 : cvOK RX10 190 10 1 Y_X10_isSignHere := ⟨RX10, TX10, 7, rfl, rfl, ⟨mg574, mg576, msel_X10_isSignHere, mg2, mg577⟩, ⟨by decide +kernel, by decide +kernel⟩, by decide +kernel, by decide, rfl, rfl⟩
theorem mg435 : Cond.methodLink RX10 215 Y_X10_scanWord.y ∈ lw_good := List.mem_filter.mpr ⟨List.mem_append_right _ (List.mem_of_getElem? (i := 435) (by decide +kernel)), by decide +kernel⟩
theorem mg438 : Cond.code Y_X10_scanWord.y Y_X10_scanWord.cc Y_X10_scanWord.nL Y_X10_scanWord.rt ∈ lw_good := List.mem_filter.mpr ⟨List.mem_append_right _ (List.mem_of_getElem? (i := 438) (by decide +kernel)), by decide +kernel⟩
theorem mg437 : Cond.instanceMethod Y_X10_scanWord.y ∈ lw_good := List.mem_filter.mpr ⟨List.mem_append_right _ (List.mem_of_getElem? (i := 437) (by decide +kernel)), by decide +kernel⟩
theorem msel_X10_scanWord : Cond.selects RX10 yX10_scanWord yX10_scanWord ∈ lw_good := List.mem_filter.mpr ⟨List.mem_append_left _ (List.mem_of_getElem? (i := 1) (by decide +kernel)), by decide +kernel⟩
theorem cv_X10_215 : cvOK RX10 215 10 0 Y_X10_scanWord := ⟨RX10, TX10, 7, rfl, rfl, ⟨mg435, mg437, msel_X10_scanWord, mg2, mg438⟩, ⟨by decide +kernel, by decide +kernel⟩, by decide +kernel, by decide, rfl, rfl⟩
theorem mg443 : Cond.methodLink RX10 221 Y_X10_scanNumber.y ∈ lw_good := List.mem_filter.mpr ⟨List.mem_append_right _ (List.mem_of_getElem? (i := 443) (by decide +kernel)), by decide +kernel⟩
theorem mg446 : Cond.code Y_X10_scanNumber.y Y_X10_scanNumber.cc Y_X10_scanNumber.nL Y_X10_scanNumber.rt ∈ lw_good := List.mem_filter.mpr ⟨List.mem_append_right _ (List.mem_of_getElem? (i := 446) (by decide +kernel)), by decide +kernel⟩
theorem mg445 : Cond.instanceMethod Y_X10_scanNumber.y ∈ lw_good := List.mem_filter.mpr ⟨List.mem_append_right _ (List.mem_of_getElem? (i := 445) (by decide +kernel)), by decide +kernel⟩
theorem msel_X10_scanNumber : Cond.selects RX10 yX10_scanNumber yX10_scanNumber ∈ lw_good := List.mem_filter.mpr ⟨List.mem_append_left _ (List.mem_of_getElem? (i := 2) (by decide +kernel)), by decide +kernel⟩
theorem cv_X10_221 : cvOK RX10 221 10 0 Y_X10_scanNumber := ⟨RX10, TX10, 7, rfl, rfl, ⟨mg443, mg445, msel_X10_scanNumber, mg2, mg446⟩, ⟨by decide +kernel, by decide +kernel⟩, by decide +kernel, by decide, rfl, rfl⟩
theorem mg425 : Cond.methodLink RX10 35 Y_X10_advance.y ∈ lw_good := List.mem_filter.mpr ⟨List.mem_append_right _ (List.mem_of_getElem? (i := 425) (by decide +kernel)), by decide +kernel⟩
theorem mg428 : Cond.code Y_X10_advance.y Y_X10_advance.cc Y_X10_advance.nL Y_X10_advance.rt ∈ lw_good := List.mem_filter.mpr ⟨List.mem_append_right _ (List.mem_of_getElem? (i := 428) (by decide +kernel)), by decide +kernel⟩
theorem mg427 : Cond.instanceMethod Y_X10_advance.y ∈ lw_good := List.mem_filter.mpr ⟨List.mem_append_right _ (List.mem_of_getElem? (i := 427) (by decide +kernel)), by decide +kernel⟩
theorem msel_X10_advance : Cond.selects RX10 yX10_advance yX10_advance ∈ lw_good := List.mem_filter.mpr ⟨List.mem_append_left _ (List.mem_of_getElem? (i := 0) (by decide +kernel)), by decide +kernel⟩
theorem cv_X10_35 : cvOK RX10 35 10 0 Y_X10_advance := ⟨RX10, TX10, 7, rfl, rfl, ⟨mg425, mg427, msel_X10_advance, mg2, mg428⟩, ⟨by decide +kernel, by decide +kernel⟩, by decide +kernel, by decide, rfl, rfl⟩
theorem mg451 : Cond.methodLink RX10 43 Y_X10_reads.y ∈ lw_good := List.mem_filter.mpr ⟨List.mem_append_right _ (List.mem_of_getElem? (i := 451) (by decide +kernel)), by decide +kernel⟩
theorem mg454 : Cond.code Y_X10_reads.y Y_X10_reads.cc Y_X10_reads.nL Y_X10_reads.rt ∈ lw_good := List.mem_filter.mpr ⟨List.mem_append_right _ (List.mem_of_getElem? (i := 454) (by decide +kernel)), by decide +kernel⟩
theorem mg453 : Cond.instanceMethod Y_X10_reads.y ∈ lw_good := List.mem_filter.mpr ⟨List.mem_append_right _ (List.mem_of_getElem? (i := 453) (by decide +kernel)), by decide +kernel⟩
theorem msel_X10_reads : Cond.selects RX10 yX10_reads yX10_reads ∈ lw_good := List.mem_filter.mpr ⟨List.mem_append_left _ (List.mem_of_getElem? (i := 3) (by decide +kernel)), by decide +kernel⟩
theorem cv_X10_43 : cvOK RX10 43 10 1 Y_X10_reads := ⟨RX10, TX10, 7, rfl, rfl, ⟨mg451, mg453, msel_X10_reads, mg2, mg454⟩, ⟨by decide +kernel, by decide +kernel⟩, by decide +kernel, by decide, rfl, rfl⟩
theorem mg506 : Cond.methodLink RX10 47 Y_X10_readArm.y ∈ lw_good := List.mem_filter.mpr ⟨List.mem_append_right _ (List.mem_of_getElem? (i := 506) (by decide +kernel)), by decide +kernel⟩
theorem mg509 : Cond.code Y_X10_readArm.y Y_X10_readArm.cc Y_X10_readArm.nL Y_X10_readArm.rt ∈ lw_good := List.mem_filter.mpr ⟨List.mem_append_right _ (List.mem_of_getElem? (i := 509) (by decide +kernel)), by decide +kernel⟩
theorem mg508 : Cond.instanceMethod Y_X10_readArm.y ∈ lw_good := List.mem_filter.mpr ⟨List.mem_append_right _ (List.mem_of_getElem? (i := 508) (by decide +kernel)), by decide +kernel⟩
theorem msel_X10_readArm : Cond.selects RX10 yX10_readArm yX10_readArm ∈ lw_good := List.mem_filter.mpr ⟨List.mem_append_left _ (List.mem_of_getElem? (i := 4) (by decide +kernel)), by decide +kernel⟩
theorem cv_X10_47 : cvOK RX10 47 10 1 Y_X10_readArm := ⟨RX10, TX10, 7, rfl, rfl, ⟨mg506, mg508, msel_X10_readArm, mg2, mg509⟩, ⟨by decide +kernel, by decide +kernel⟩, by decide +kernel, by decide, rfl, rfl⟩
theorem mg578 : Cond.methodLink RX10 53 Y_X10_readChart.y ∈ lw_good := List.mem_filter.mpr ⟨List.mem_append_right _ (List.mem_of_getElem? (i := 578) (by decide +kernel)), by decide +kernel⟩
theorem mg581 : Cond.code Y_X10_readChart.y Y_X10_readChart.cc Y_X10_readChart.nL Y_X10_readChart.rt ∈ lw_good := List.mem_filter.mpr ⟨List.mem_append_right _ (List.mem_of_getElem? (i := 581) (by decide +kernel)), by decide +kernel⟩
theorem mg580 : Cond.instanceMethod Y_X10_readChart.y ∈ lw_good := List.mem_filter.mpr ⟨List.mem_append_right _ (List.mem_of_getElem? (i := 580) (by decide +kernel)), by decide +kernel⟩
theorem msel_X10_readChart : Cond.selects RX10 yX10_readChart yX10_readChart ∈ lw_good := List.mem_filter.mpr ⟨List.mem_append_left _ (List.mem_of_getElem? (i := 16) (by decide +kernel)), by decide +kernel⟩
theorem cv_X10_53 : cvOK RX10 53 10 1 Y_X10_readChart := ⟨RX10, TX10, 7, rfl, rfl, ⟨mg578, mg580, msel_X10_readChart, mg2, mg581⟩, ⟨by decide +kernel, by decide +kernel⟩, by decide +kernel, by decide, rfl, rfl⟩
theorem mg510 : Cond.methodLink RX10 56 Y_X10_fail.y ∈ lw_good := List.mem_filter.mpr ⟨List.mem_append_right _ (List.mem_of_getElem? (i := 510) (by decide +kernel)), by decide +kernel⟩
theorem mg513 : Cond.code Y_X10_fail.y Y_X10_fail.cc Y_X10_fail.nL Y_X10_fail.rt ∈ lw_good := List.mem_filter.mpr ⟨List.mem_append_right _ (List.mem_of_getElem? (i := 513) (by decide +kernel)), by decide +kernel⟩
theorem mg512 : Cond.instanceMethod Y_X10_fail.y ∈ lw_good := List.mem_filter.mpr ⟨List.mem_append_right _ (List.mem_of_getElem? (i := 512) (by decide +kernel)), by decide +kernel⟩
theorem msel_X10_fail : Cond.selects RX10 yX10_fail yX10_fail ∈ lw_good := List.mem_filter.mpr ⟨List.mem_append_left _ (List.mem_of_getElem? (i := 5) (by decide +kernel)), by decide +kernel⟩
theorem cv_X10_56 : cvOK RX10 56 10 1 Y_X10_fail := ⟨RX10, TX10, 7, rfl, rfl, ⟨mg510, mg512, msel_X10_fail, mg2, mg513⟩, ⟨by decide +kernel, by decide +kernel⟩, by decide +kernel, by decide, rfl, rfl⟩
theorem mg514 : Cond.methodLink RX10 64 Y_X10_readName.y ∈ lw_good := List.mem_filter.mpr ⟨List.mem_append_right _ (List.mem_of_getElem? (i := 514) (by decide +kernel)), by decide +kernel⟩
theorem mg517 : Cond.code Y_X10_readName.y Y_X10_readName.cc Y_X10_readName.nL Y_X10_readName.rt ∈ lw_good := List.mem_filter.mpr ⟨List.mem_append_right _ (List.mem_of_getElem? (i := 517) (by decide +kernel)), by decide +kernel⟩
theorem mg516 : Cond.instanceMethod Y_X10_readName.y ∈ lw_good := List.mem_filter.mpr ⟨List.mem_append_right _ (List.mem_of_getElem? (i := 516) (by decide +kernel)), by decide +kernel⟩
theorem msel_X10_readName : Cond.selects RX10 yX10_readName yX10_readName ∈ lw_good := List.mem_filter.mpr ⟨List.mem_append_left _ (List.mem_of_getElem? (i := 6) (by decide +kernel)), by decide +kernel⟩
theorem cv_X10_64 : cvOK RX10 64 10 1 Y_X10_readName := ⟨RX10, TX10, 7, rfl, rfl, ⟨mg514, mg516, msel_X10_readName, mg2, mg517⟩, ⟨by decide +kernel, by decide +kernel⟩, by decide +kernel, by decide, rfl, rfl⟩
theorem mg545 : Cond.methodLink RX10 74 Y_X10_readKind.y ∈ lw_good := List.mem_filter.mpr ⟨List.mem_append_right _ (List.mem_of_getElem? (i := 545) (by decide +kernel)), by decide +kernel⟩
theorem mg548 : Cond.code Y_X10_readKind.y Y_X10_readKind.cc Y_X10_readKind.nL Y_X10_readKind.rt ∈ lw_good := List.mem_filter.mpr ⟨List.mem_append_right _ (List.mem_of_getElem? (i := 548) (by decide +kernel)), by decide +kernel⟩
theorem mg547 : Cond.instanceMethod Y_X10_readKind.y ∈ lw_good := List.mem_filter.mpr ⟨List.mem_append_right _ (List.mem_of_getElem? (i := 547) (by decide +kernel)), by decide +kernel⟩
theorem msel_X10_readKind : Cond.selects RX10 yX10_readKind yX10_readKind ∈ lw_good := List.mem_filter.mpr ⟨List.mem_append_left _ (List.mem_of_getElem? (i := 9) (by decide +kernel)), by decide +kernel⟩
theorem cv_X10_74 : cvOK RX10 74 10 0 Y_X10_readKind := ⟨RX10, TX10, 7, rfl, rfl, ⟨mg545, mg547, msel_X10_readKind, mg2, mg548⟩, ⟨by decide +kernel, by decide +kernel⟩, by decide +kernel, by decide, rfl, rfl⟩
theorem mg549 : Cond.methodLink RX10 81 Y_X10_readHoles.y ∈ lw_good := List.mem_filter.mpr ⟨List.mem_append_right _ (List.mem_of_getElem? (i := 549) (by decide +kernel)), by decide +kernel⟩
theorem mg552 : Cond.code Y_X10_readHoles.y Y_X10_readHoles.cc Y_X10_readHoles.nL Y_X10_readHoles.rt ∈ lw_good := List.mem_filter.mpr ⟨List.mem_append_right _ (List.mem_of_getElem? (i := 552) (by decide +kernel)), by decide +kernel⟩
theorem mg551 : Cond.instanceMethod Y_X10_readHoles.y ∈ lw_good := List.mem_filter.mpr ⟨List.mem_append_right _ (List.mem_of_getElem? (i := 551) (by decide +kernel)), by decide +kernel⟩
theorem msel_X10_readHoles : Cond.selects RX10 yX10_readHoles yX10_readHoles ∈ lw_good := List.mem_filter.mpr ⟨List.mem_append_left _ (List.mem_of_getElem? (i := 10) (by decide +kernel)), by decide +kernel⟩
theorem cv_X10_81 : cvOK RX10 81 10 1 Y_X10_readHoles := ⟨RX10, TX10, 7, rfl, rfl, ⟨mg549, mg551, msel_X10_readHoles, mg2, mg552⟩, ⟨by decide +kernel, by decide +kernel⟩, by decide +kernel, by decide, rfl, rfl⟩
theorem mg566 : Cond.methodLink RX10 87 Y_X10_readNumberBehind.y ∈ lw_good := List.mem_filter.mpr ⟨List.mem_append_right _ (List.mem_of_getElem? (i := 566) (by decide +kernel)), by decide +kernel⟩
theorem mg569 : Cond.code Y_X10_readNumberBehind.y Y_X10_readNumberBehind.cc Y_X10_readNumberBehind.nL Y_X10_readNumberBehind.rt ∈ lw_good := List.mem_filter.mpr ⟨List.mem_append_right _ (List.mem_of_getElem? (i := 569) (by decide +kernel)), by decide +kernel⟩
theorem mg568 : Cond.instanceMethod Y_X10_readNumberBehind.y ∈ lw_good := List.mem_filter.mpr ⟨List.mem_append_right _ (List.mem_of_getElem? (i := 568) (by decide +kernel)), by decide +kernel⟩
theorem msel_X10_readNumberBehind : Cond.selects RX10 yX10_readNumberBehind yX10_readNumberBehind ∈ lw_good := List.mem_filter.mpr ⟨List.mem_append_left _ (List.mem_of_getElem? (i := 13) (by decide +kernel)), by decide +kernel⟩
theorem cv_X10_87 : cvOK RX10 87 10 3 Y_X10_readNumberBehind := ⟨RX10, TX10, 7, rfl, rfl, ⟨mg566, mg568, msel_X10_readNumberBehind, mg2, mg569⟩, ⟨by decide +kernel, by decide +kernel⟩, by decide +kernel, by decide, rfl, rfl⟩
theorem mg562 : Cond.methodLink RX10 99 Y_X10_readNumber.y ∈ lw_good := List.mem_filter.mpr ⟨List.mem_append_right _ (List.mem_of_getElem? (i := 562) (by decide +kernel)), by decide +kernel⟩
theorem mg565 : Cond.code Y_X10_readNumber.y Y_X10_readNumber.cc Y_X10_readNumber.nL Y_X10_readNumber.rt ∈ lw_good := List.mem_filter.mpr ⟨List.mem_append_right _ (List.mem_of_getElem? (i := 565) (by decide +kernel)), by decide +kernel⟩
theorem mg564 : Cond.instanceMethod Y_X10_readNumber.y ∈ lw_good := List.mem_filter.mpr ⟨List.mem_append_right _ (List.mem_of_getElem? (i := 564) (by decide +kernel)), by decide +kernel⟩
theorem msel_X10_readNumber : Cond.selects RX10 yX10_readNumber yX10_readNumber ∈ lw_good := List.mem_filter.mpr ⟨List.mem_append_left _ (List.mem_of_getElem? (i := 12) (by decide +kernel)), by decide +kernel⟩
theorem cv_X10_99 : cvOK RX10 99 10 2 Y_X10_readNumber := ⟨RX10, TX10, 7, rfl, rfl, ⟨mg562, mg564, msel_X10_readNumber, mg2, mg565⟩, ⟨by decide +kernel, by decide +kernel⟩, by decide +kernel, by decide, rfl, rfl⟩
theorem mg603 : Cond.methodLink RX11 139 Y_X5_hasHole.y ∈ lw_good := List.mem_filter.mpr ⟨List.mem_append_right _ (List.mem_of_getElem? (i := 603) (by decide +kernel)), by decide +kernel⟩
theorem mg606 : Cond.code Y_X5_hasHole.y Y_X5_hasHole.cc Y_X5_hasHole.nL Y_X5_hasHole.rt ∈ lw_good := List.mem_filter.mpr ⟨List.mem_append_right _ (List.mem_of_getElem? (i := 606) (by decide +kernel)), by decide +kernel⟩
theorem mg604 : Cond.instanceMethod Y_X5_hasHole.y ∈ lw_good := List.mem_filter.mpr ⟨List.mem_append_right _ (List.mem_of_getElem? (i := 604) (by decide +kernel)), by decide +kernel⟩
theorem mg605 : Cond.selects RX5 yX5_hasHole yX5_hasHole ∈ lw_good := List.mem_filter.mpr ⟨List.mem_append_right _ (List.mem_of_getElem? (i := 605) (by decide +kernel)), by decide +kernel⟩
theorem cv_X11_139 : cvOK RX11 139 5 2 Y_X5_hasHole := ⟨RX5, TX5, 4, rfl, rfl, ⟨mg603, mg604, mg605, mg3, mg606⟩, ⟨by decide +kernel, by decide +kernel⟩, by decide +kernel, by decide, rfl, rfl⟩
theorem mg612 : Cond.methodLink RX11 146 Y_X5_hasChart.y ∈ lw_good := List.mem_filter.mpr ⟨List.mem_append_right _ (List.mem_of_getElem? (i := 612) (by decide +kernel)), by decide +kernel⟩
theorem mg615 : Cond.code Y_X5_hasChart.y Y_X5_hasChart.cc Y_X5_hasChart.nL Y_X5_hasChart.rt ∈ lw_good := List.mem_filter.mpr ⟨List.mem_append_right _ (List.mem_of_getElem? (i := 615) (by decide +kernel)), by decide +kernel⟩
theorem mg613 : Cond.instanceMethod Y_X5_hasChart.y ∈ lw_good := List.mem_filter.mpr ⟨List.mem_append_right _ (List.mem_of_getElem? (i := 613) (by decide +kernel)), by decide +kernel⟩
theorem mg614 : Cond.selects RX5 yX5_hasChart yX5_hasChart ∈ lw_good := List.mem_filter.mpr ⟨List.mem_append_right _ (List.mem_of_getElem? (i := 614) (by decide +kernel)), by decide +kernel⟩
theorem cv_X11_146 : cvOK RX11 146 5 1 Y_X5_hasChart := ⟨RX5, TX5, 4, rfl, rfl, ⟨mg612, mg613, mg614, mg3, mg615⟩, ⟨by decide +kernel, by decide +kernel⟩, by decide +kernel, by decide, rfl, rfl⟩
theorem mg680 : Cond.methodLink RX11 191 Y_X9_begin.y ∈ lw_good := List.mem_filter.mpr ⟨List.mem_append_right _ (List.mem_of_getElem? (i := 680) (by decide +kernel)), by decide +kernel⟩
theorem mg683 : Cond.code Y_X9_begin.y Y_X9_begin.cc Y_X9_begin.nL Y_X9_begin.rt ∈ lw_good := List.mem_filter.mpr ⟨List.mem_append_right _ (List.mem_of_getElem? (i := 683) (by decide +kernel)), by decide +kernel⟩
theorem mg7 : Cond.initialized RX9 ∈ lw_good := List.mem_filter.mpr ⟨List.mem_append_right _ (List.mem_of_getElem? (i := 7) (by decide +kernel)), by decide +kernel⟩
theorem mg681 : Cond.instanceMethod Y_X9_begin.y ∈ lw_good := List.mem_filter.mpr ⟨List.mem_append_right _ (List.mem_of_getElem? (i := 681) (by decide +kernel)), by decide +kernel⟩
theorem mg682 : Cond.selects RX9 yX9_begin yX9_begin ∈ lw_good := List.mem_filter.mpr ⟨List.mem_append_right _ (List.mem_of_getElem? (i := 682) (by decide +kernel)), by decide +kernel⟩
theorem cv_X11_191 : cvOK RX11 191 9 2 Y_X9_begin := ⟨RX9, TX9, 3, rfl, rfl, ⟨mg680, mg681, mg682, mg7, mg683⟩, ⟨by decide +kernel, by decide +kernel⟩, by decide +kernel, by decide, rfl, rfl⟩
theorem mg684 : Cond.methodLink RX11 194 Y_X9_isOut.y ∈ lw_good := List.mem_filter.mpr ⟨List.mem_append_right _ (List.mem_of_getElem? (i := 684) (by decide +kernel)), by decide +kernel⟩
theorem mg687 : Cond.code Y_X9_isOut.y Y_X9_isOut.cc Y_X9_isOut.nL Y_X9_isOut.rt ∈ lw_good := List.mem_filter.mpr ⟨List.mem_append_right _ (List.mem_of_getElem? (i := 687) (by decide +kernel)), by decide +kernel⟩
theorem mg685 : Cond.instanceMethod Y_X9_isOut.y ∈ lw_good := List.mem_filter.mpr ⟨List.mem_append_right _ (List.mem_of_getElem? (i := 685) (by decide +kernel)), by decide +kernel⟩
theorem mg686 : Cond.selects RX9 yX9_isOut yX9_isOut ∈ lw_good := List.mem_filter.mpr ⟨List.mem_append_right _ (List.mem_of_getElem? (i := 686) (by decide +kernel)), by decide +kernel⟩
theorem cv_X11_194 : cvOK RX11 194 9 3 Y_X9_isOut := ⟨RX9, TX9, 3, rfl, rfl, ⟨mg684, mg685, mg686, mg7, mg687⟩, ⟨by decide +kernel, by decide +kernel⟩, by decide +kernel, by decide, rfl, rfl⟩
theorem mg689 : Cond.methodLink RX11 200 Y_X9_copyBy.y ∈ lw_good := List.mem_filter.mpr ⟨List.mem_append_right _ (List.mem_of_getElem? (i := 689) (by decide +kernel)), by decide +kernel⟩
theorem mg692 : Cond.code Y_X9_copyBy.y Y_X9_copyBy.cc Y_X9_copyBy.nL Y_X9_copyBy.rt ∈ lw_good := List.mem_filter.mpr ⟨List.mem_append_right _ (List.mem_of_getElem? (i := 692) (by decide +kernel)), by decide +kernel⟩
theorem mg690 : Cond.instanceMethod Y_X9_copyBy.y ∈ lw_good := List.mem_filter.mpr ⟨List.mem_append_right _ (List.mem_of_getElem? (i := 690) (by decide +kernel)), by decide +kernel⟩
theorem mg691 : Cond.selects RX9 yX9_copyBy yX9_copyBy ∈ lw_good := List.mem_filter.mpr ⟨List.mem_append_right _ (List.mem_of_getElem? (i := 691) (by decide +kernel)), by decide +kernel⟩
theorem cv_X11_200 : cvOK RX11 200 9 4 Y_X9_copyBy := ⟨RX9, TX9, 3, rfl, rfl, ⟨mg689, mg690, mg691, mg7, mg692⟩, ⟨by decide +kernel, by decide +kernel⟩, by decide +kernel, by decide, rfl, rfl⟩
theorem mg652 : Cond.methodLink RX11 211 Y_X7_hasChained.y ∈ lw_good := List.mem_filter.mpr ⟨List.mem_append_right _ (List.mem_of_getElem? (i := 652) (by decide +kernel)), by decide +kernel⟩
theorem mg655 : Cond.code Y_X7_hasChained.y Y_X7_hasChained.cc Y_X7_hasChained.nL Y_X7_hasChained.rt ∈ lw_good := List.mem_filter.mpr ⟨List.mem_append_right _ (List.mem_of_getElem? (i := 655) (by decide +kernel)), by decide +kernel⟩
theorem mg6 : Cond.initialized RX7 ∈ lw_good := List.mem_filter.mpr ⟨List.mem_append_right _ (List.mem_of_getElem? (i := 6) (by decide +kernel)), by decide +kernel⟩
theorem mg653 : Cond.instanceMethod Y_X7_hasChained.y ∈ lw_good := List.mem_filter.mpr ⟨List.mem_append_right _ (List.mem_of_getElem? (i := 653) (by decide +kernel)), by decide +kernel⟩
theorem mg654 : Cond.selects RX7 yX7_hasChained yX7_hasChained ∈ lw_good := List.mem_filter.mpr ⟨List.mem_append_right _ (List.mem_of_getElem? (i := 654) (by decide +kernel)), by decide +kernel⟩
theorem cv_X11_211 : cvOK RX11 211 7 1 Y_X7_hasChained := ⟨RX7, TX7, 11, rfl, rfl, ⟨mg652, mg653, mg654, mg6, mg655⟩, ⟨by decide +kernel, by decide +kernel⟩, by decide +kernel, by decide, rfl, rfl⟩
theorem mg660 : Cond.methodLink RX11 217 Y_X11_chainProduct.y ∈ lw_good := List.mem_filter.mpr ⟨List.mem_append_right _ (List.mem_of_getElem? (i := 660) (by decide +kernel)), by decide +kernel⟩
theorem mg663 : Cond.code Y_X11_chainProduct.y Y_X11_chainProduct.cc Y_X11_chainProduct.nL Y_X11_chainProduct.rt ∈ lw_good := List.mem_filter.mpr ⟨List.mem_append_right _ (List.mem_of_getElem? (i := 663) (by decide +kernel)), by decide +kernel⟩
theorem mg662 : Cond.instanceMethod Y_X11_chainProduct.y ∈ lw_good := List.mem_filter.mpr ⟨List.mem_append_right _ (List.mem_of_getElem? (i := 662) (by decide +kernel)), by decide +kernel⟩
theorem msel_X11_chainProduct : Cond.selects RX11 yX11_chainProduct yX11_chainProduct ∈ lw_good := List.mem_filter.mpr ⟨List.mem_append_left _ (List.mem_of_getElem? (i := 18) (by decide +kernel)), by decide +kernel⟩
theorem cv_X11_217 : cvOK RX11 217 11 1 Y_X11_chainProduct := ⟨RX11, TX11, 12, rfl, rfl, ⟨mg660, mg662, msel_X11_chainProduct, mg1, mg663⟩, ⟨by decide +kernel, by decide +kernel⟩, by decide +kernel, by decide, rfl, rfl⟩
theorem mg664 : Cond.methodLink RX11 221 Y_X11_chainQuarters.y ∈ lw_good := List.mem_filter.mpr ⟨List.mem_append_right _ (List.mem_of_getElem? (i := 664) (by decide +kernel)), by decide +kernel⟩
theorem mg667 : Cond.code Y_X11_chainQuarters.y Y_X11_chainQuarters.cc Y_X11_chainQuarters.nL Y_X11_chainQuarters.rt ∈ lw_good := List.mem_filter.mpr ⟨List.mem_append_right _ (List.mem_of_getElem? (i := 667) (by decide +kernel)), by decide +kernel⟩
theorem mg666 : Cond.instanceMethod Y_X11_chainQuarters.y ∈ lw_good := List.mem_filter.mpr ⟨List.mem_append_right _ (List.mem_of_getElem? (i := 666) (by decide +kernel)), by decide +kernel⟩
theorem msel_X11_chainQuarters : Cond.selects RX11 yX11_chainQuarters yX11_chainQuarters ∈ lw_good := List.mem_filter.mpr ⟨List.mem_append_left _ (List.mem_of_getElem? (i := 19) (by decide +kernel)), by decide +kernel⟩
theorem cv_X11_221 : cvOK RX11 221 11 0 Y_X11_chainQuarters := ⟨RX11, TX11, 12, rfl, rfl, ⟨mg664, mg666, msel_X11_chainQuarters, mg1, mg667⟩, ⟨by decide +kernel, by decide +kernel⟩, by decide +kernel, by decide, rfl, rfl⟩
theorem mg668 : Cond.methodLink RX11 225 Y_X11_chainMirrors.y ∈ lw_good := List.mem_filter.mpr ⟨List.mem_append_right _ (List.mem_of_getElem? (i := 668) (by decide +kernel)), by decide +kernel⟩
theorem mg671 : Cond.code Y_X11_chainMirrors.y Y_X11_chainMirrors.cc Y_X11_chainMirrors.nL Y_X11_chainMirrors.rt ∈ lw_good := List.mem_filter.mpr ⟨List.mem_append_right _ (List.mem_of_getElem? (i := 671) (by decide +kernel)), by decide +kernel⟩
theorem mg670 : Cond.instanceMethod Y_X11_chainMirrors.y ∈ lw_good := List.mem_filter.mpr ⟨List.mem_append_right _ (List.mem_of_getElem? (i := 670) (by decide +kernel)), by decide +kernel⟩
theorem msel_X11_chainMirrors : Cond.selects RX11 yX11_chainMirrors yX11_chainMirrors ∈ lw_good := List.mem_filter.mpr ⟨List.mem_append_left _ (List.mem_of_getElem? (i := 20) (by decide +kernel)), by decide +kernel⟩
theorem cv_X11_225 : cvOK RX11 225 11 0 Y_X11_chainMirrors := ⟨RX11, TX11, 12, rfl, rfl, ⟨mg668, mg670, msel_X11_chainMirrors, mg1, mg671⟩, ⟨by decide +kernel, by decide +kernel⟩, by decide +kernel, by decide, rfl, rfl⟩
theorem mg676 : Cond.methodLink RX11 230 Y_X11_passChain.y ∈ lw_good := List.mem_filter.mpr ⟨List.mem_append_right _ (List.mem_of_getElem? (i := 676) (by decide +kernel)), by decide +kernel⟩
theorem mg679 : Cond.code Y_X11_passChain.y Y_X11_passChain.cc Y_X11_passChain.nL Y_X11_passChain.rt ∈ lw_good := List.mem_filter.mpr ⟨List.mem_append_right _ (List.mem_of_getElem? (i := 679) (by decide +kernel)), by decide +kernel⟩
theorem mg678 : Cond.instanceMethod Y_X11_passChain.y ∈ lw_good := List.mem_filter.mpr ⟨List.mem_append_right _ (List.mem_of_getElem? (i := 678) (by decide +kernel)), by decide +kernel⟩
theorem msel_X11_passChain : Cond.selects RX11 yX11_passChain yX11_passChain ∈ lw_good := List.mem_filter.mpr ⟨List.mem_append_left _ (List.mem_of_getElem? (i := 21) (by decide +kernel)), by decide +kernel⟩
theorem cv_X11_230 : cvOK RX11 230 11 2 Y_X11_passChain := ⟨RX11, TX11, 12, rfl, rfl, ⟨mg676, mg678, msel_X11_passChain, mg1, mg679⟩, ⟨by decide +kernel, by decide +kernel⟩, by decide +kernel, by decide, rfl, rfl⟩
theorem mg698 : Cond.methodLink RX11 233 Y_X4_find.y ∈ lw_good := List.mem_filter.mpr ⟨List.mem_append_right _ (List.mem_of_getElem? (i := 698) (by decide +kernel)), by decide +kernel⟩
theorem mg701 : Cond.code Y_X4_find.y Y_X4_find.cc Y_X4_find.nL Y_X4_find.rt ∈ lw_good := List.mem_filter.mpr ⟨List.mem_append_right _ (List.mem_of_getElem? (i := 701) (by decide +kernel)), by decide +kernel⟩
theorem mg699 : Cond.instanceMethod Y_X4_find.y ∈ lw_good := List.mem_filter.mpr ⟨List.mem_append_right _ (List.mem_of_getElem? (i := 699) (by decide +kernel)), by decide +kernel⟩
theorem mg700 : Cond.selects RX4 yX4_find yX4_find ∈ lw_good := List.mem_filter.mpr ⟨List.mem_append_right _ (List.mem_of_getElem? (i := 700) (by decide +kernel)), by decide +kernel⟩
theorem cv_X11_233 : cvOK RX11 233 4 3 Y_X4_find := ⟨RX4, TX4, 3, rfl, rfl, ⟨mg698, mg699, mg700, mg10, mg701⟩, ⟨by decide +kernel, by decide +kernel⟩, by decide +kernel, by decide, rfl, rfl⟩
theorem mg731 : Cond.methodLink RX11 256 Y_X11_leastBend.y ∈ lw_good := List.mem_filter.mpr ⟨List.mem_append_right _ (List.mem_of_getElem? (i := 731) (by decide +kernel)), by decide +kernel⟩
theorem mg734 : Cond.code Y_X11_leastBend.y Y_X11_leastBend.cc Y_X11_leastBend.nL Y_X11_leastBend.rt ∈ lw_good := List.mem_filter.mpr ⟨List.mem_append_right _ (List.mem_of_getElem? (i := 734) (by decide +kernel)), by decide +kernel⟩
theorem mg733 : Cond.instanceMethod Y_X11_leastBend.y ∈ lw_good := List.mem_filter.mpr ⟨List.mem_append_right _ (List.mem_of_getElem? (i := 733) (by decide +kernel)), by decide +kernel⟩
theorem msel_X11_leastBend : Cond.selects RX11 yX11_leastBend yX11_leastBend ∈ lw_good := List.mem_filter.mpr ⟨List.mem_append_left _ (List.mem_of_getElem? (i := 23) (by decide +kernel)), by decide +kernel⟩
theorem cv_X11_256 : cvOK RX11 256 11 1 Y_X11_leastBend := ⟨RX11, TX11, 12, rfl, rfl, ⟨mg731, mg733, msel_X11_leastBend, mg1, mg734⟩, ⟨by decide +kernel, by decide +kernel⟩, by decide +kernel, by decide, rfl, rfl⟩
theorem mg752 : Cond.methodLink RX11 266 Y_X8_sum.y ∈ lw_good := List.mem_filter.mpr ⟨List.mem_append_right _ (List.mem_of_getElem? (i := 752) (by decide +kernel)), by decide +kernel⟩
theorem mg755 : Cond.code Y_X8_sum.y Y_X8_sum.cc Y_X8_sum.nL Y_X8_sum.rt ∈ lw_good := List.mem_filter.mpr ⟨List.mem_append_right _ (List.mem_of_getElem? (i := 755) (by decide +kernel)), by decide +kernel⟩
theorem mg8 : Cond.initialized RX8 ∈ lw_good := List.mem_filter.mpr ⟨List.mem_append_right _ (List.mem_of_getElem? (i := 8) (by decide +kernel)), by decide +kernel⟩
theorem mg753 : Cond.instanceMethod Y_X8_sum.y ∈ lw_good := List.mem_filter.mpr ⟨List.mem_append_right _ (List.mem_of_getElem? (i := 753) (by decide +kernel)), by decide +kernel⟩
theorem mg754 : Cond.selects RX8 yX8_sum yX8_sum ∈ lw_good := List.mem_filter.mpr ⟨List.mem_append_right _ (List.mem_of_getElem? (i := 754) (by decide +kernel)), by decide +kernel⟩
theorem cv_X11_266 : cvOK RX11 266 8 3 Y_X8_sum := ⟨RX8, TX8, 2, rfl, rfl, ⟨mg752, mg753, mg754, mg8, mg755⟩, ⟨by decide +kernel, by decide +kernel⟩, by decide +kernel, by decide, rfl, rfl⟩
theorem mg760 : Cond.methodLink RX11 270 Y_X8_part.y ∈ lw_good := List.mem_filter.mpr ⟨List.mem_append_right _ (List.mem_of_getElem? (i := 760) (by decide +kernel)), by decide +kernel⟩
theorem mg763 : Cond.code Y_X8_part.y Y_X8_part.cc Y_X8_part.nL Y_X8_part.rt ∈ lw_good := List.mem_filter.mpr ⟨List.mem_append_right _ (List.mem_of_getElem? (i := 763) (by decide +kernel)), by decide +kernel⟩
theorem mg761 : Cond.instanceMethod Y_X8_part.y ∈ lw_good := List.mem_filter.mpr ⟨List.mem_append_right _ (List.mem_of_getElem? (i := 761) (by decide +kernel)), by decide +kernel⟩
theorem mg762 : Cond.selects RX8 yX8_part yX8_part ∈ lw_good := List.mem_filter.mpr ⟨List.mem_append_right _ (List.mem_of_getElem? (i := 762) (by decide +kernel)), by decide +kernel⟩
theorem cv_X11_270 : cvOK RX11 270 8 1 Y_X8_part := ⟨RX8, TX8, 2, rfl, rfl, ⟨mg760, mg761, mg762, mg8, mg763⟩, ⟨by decide +kernel, by decide +kernel⟩, by decide +kernel, by decide, rfl, rfl⟩
theorem mg769 : Cond.methodLink RX11 271 Y_X6_find.y ∈ lw_good := List.mem_filter.mpr ⟨List.mem_append_right _ (List.mem_of_getElem? (i := 769) (by decide +kernel)), by decide +kernel⟩
theorem mg772 : Cond.code Y_X6_find.y Y_X6_find.cc Y_X6_find.nL Y_X6_find.rt ∈ lw_good := List.mem_filter.mpr ⟨List.mem_append_right _ (List.mem_of_getElem? (i := 772) (by decide +kernel)), by decide +kernel⟩
theorem mg9 : Cond.initialized RX6 ∈ lw_good := List.mem_filter.mpr ⟨List.mem_append_right _ (List.mem_of_getElem? (i := 9) (by decide +kernel)), by decide +kernel⟩
theorem mg770 : Cond.instanceMethod Y_X6_find.y ∈ lw_good := List.mem_filter.mpr ⟨List.mem_append_right _ (List.mem_of_getElem? (i := 770) (by decide +kernel)), by decide +kernel⟩
theorem mg771 : Cond.selects RX6 yX6_find yX6_find ∈ lw_good := List.mem_filter.mpr ⟨List.mem_append_right _ (List.mem_of_getElem? (i := 771) (by decide +kernel)), by decide +kernel⟩
theorem cv_X11_271 : cvOK RX11 271 6 2 Y_X6_find := ⟨RX6, TX6, 5, rfl, rfl, ⟨mg769, mg770, mg771, mg9, mg772⟩, ⟨by decide +kernel, by decide +kernel⟩, by decide +kernel, by decide, rfl, rfl⟩
theorem mg799 : Cond.methodLink RX11 280 Y_X3_fewestPins.y ∈ lw_good := List.mem_filter.mpr ⟨List.mem_append_right _ (List.mem_of_getElem? (i := 799) (by decide +kernel)), by decide +kernel⟩
theorem mg802 : Cond.code Y_X3_fewestPins.y Y_X3_fewestPins.cc Y_X3_fewestPins.nL Y_X3_fewestPins.rt ∈ lw_good := List.mem_filter.mpr ⟨List.mem_append_right _ (List.mem_of_getElem? (i := 802) (by decide +kernel)), by decide +kernel⟩
theorem mg800 : Cond.instanceMethod Y_X3_fewestPins.y ∈ lw_good := List.mem_filter.mpr ⟨List.mem_append_right _ (List.mem_of_getElem? (i := 800) (by decide +kernel)), by decide +kernel⟩
theorem mg801 : Cond.selects RX3 yX3_fewestPins yX3_fewestPins ∈ lw_good := List.mem_filter.mpr ⟨List.mem_append_right _ (List.mem_of_getElem? (i := 801) (by decide +kernel)), by decide +kernel⟩
theorem cv_X11_280 : cvOK RX11 280 3 2 Y_X3_fewestPins := ⟨RX3, TX3, 2, rfl, rfl, ⟨mg799, mg800, mg801, mg11, mg802⟩, ⟨by decide +kernel, by decide +kernel⟩, by decide +kernel, by decide, rfl, rfl⟩
theorem mg820 : Cond.methodLink RX11 287 Y_X0_find.y ∈ lw_good := List.mem_filter.mpr ⟨List.mem_append_right _ (List.mem_of_getElem? (i := 820) (by decide +kernel)), by decide +kernel⟩
theorem mg823 : Cond.code Y_X0_find.y Y_X0_find.cc Y_X0_find.nL Y_X0_find.rt ∈ lw_good := List.mem_filter.mpr ⟨List.mem_append_right _ (List.mem_of_getElem? (i := 823) (by decide +kernel)), by decide +kernel⟩
theorem mg821 : Cond.instanceMethod Y_X0_find.y ∈ lw_good := List.mem_filter.mpr ⟨List.mem_append_right _ (List.mem_of_getElem? (i := 821) (by decide +kernel)), by decide +kernel⟩
theorem mg822 : Cond.selects RX0 yX0_find yX0_find ∈ lw_good := List.mem_filter.mpr ⟨List.mem_append_right _ (List.mem_of_getElem? (i := 822) (by decide +kernel)), by decide +kernel⟩
theorem cv_X11_287 : cvOK RX11 287 0 2 Y_X0_find := ⟨RX0, TX0, 3, rfl, rfl, ⟨mg820, mg821, mg822, mg12, mg823⟩, ⟨by decide +kernel, by decide +kernel⟩, by decide +kernel, by decide, rfl, rfl⟩
theorem mg842 : Cond.methodLink RX11 290 Y_X0_cost.y ∈ lw_good := List.mem_filter.mpr ⟨List.mem_append_right _ (List.mem_of_getElem? (i := 842) (by decide +kernel)), by decide +kernel⟩
theorem mg845 : Cond.code Y_X0_cost.y Y_X0_cost.cc Y_X0_cost.nL Y_X0_cost.rt ∈ lw_good := List.mem_filter.mpr ⟨List.mem_append_right _ (List.mem_of_getElem? (i := 845) (by decide +kernel)), by decide +kernel⟩
theorem mg843 : Cond.instanceMethod Y_X0_cost.y ∈ lw_good := List.mem_filter.mpr ⟨List.mem_append_right _ (List.mem_of_getElem? (i := 843) (by decide +kernel)), by decide +kernel⟩
theorem mg844 : Cond.selects RX0 yX0_cost yX0_cost ∈ lw_good := List.mem_filter.mpr ⟨List.mem_append_right _ (List.mem_of_getElem? (i := 844) (by decide +kernel)), by decide +kernel⟩
theorem cv_X11_290 : cvOK RX11 290 0 0 Y_X0_cost := ⟨RX0, TX0, 3, rfl, rfl, ⟨mg842, mg843, mg844, mg12, mg845⟩, ⟨by decide +kernel, by decide +kernel⟩, by decide +kernel, by decide, rfl, rfl⟩
theorem mg846 : Cond.methodLink RX11 293 Y_X0_first.y ∈ lw_good := List.mem_filter.mpr ⟨List.mem_append_right _ (List.mem_of_getElem? (i := 846) (by decide +kernel)), by decide +kernel⟩
theorem mg849 : Cond.code Y_X0_first.y Y_X0_first.cc Y_X0_first.nL Y_X0_first.rt ∈ lw_good := List.mem_filter.mpr ⟨List.mem_append_right _ (List.mem_of_getElem? (i := 849) (by decide +kernel)), by decide +kernel⟩
theorem mg847 : Cond.instanceMethod Y_X0_first.y ∈ lw_good := List.mem_filter.mpr ⟨List.mem_append_right _ (List.mem_of_getElem? (i := 847) (by decide +kernel)), by decide +kernel⟩
theorem mg848 : Cond.selects RX0 yX0_first yX0_first ∈ lw_good := List.mem_filter.mpr ⟨List.mem_append_right _ (List.mem_of_getElem? (i := 848) (by decide +kernel)), by decide +kernel⟩
theorem cv_X11_293 : cvOK RX11 293 0 0 Y_X0_first := ⟨RX0, TX0, 3, rfl, rfl, ⟨mg846, mg847, mg848, mg12, mg849⟩, ⟨by decide +kernel, by decide +kernel⟩, by decide +kernel, by decide, rfl, rfl⟩
theorem mg850 : Cond.methodLink RX11 296 Y_X0_parent.y ∈ lw_good := List.mem_filter.mpr ⟨List.mem_append_right _ (List.mem_of_getElem? (i := 850) (by decide +kernel)), by decide +kernel⟩
theorem mg853 : Cond.code Y_X0_parent.y Y_X0_parent.cc Y_X0_parent.nL Y_X0_parent.rt ∈ lw_good := List.mem_filter.mpr ⟨List.mem_append_right _ (List.mem_of_getElem? (i := 853) (by decide +kernel)), by decide +kernel⟩
theorem mg851 : Cond.instanceMethod Y_X0_parent.y ∈ lw_good := List.mem_filter.mpr ⟨List.mem_append_right _ (List.mem_of_getElem? (i := 851) (by decide +kernel)), by decide +kernel⟩
theorem mg852 : Cond.selects RX0 yX0_parent yX0_parent ∈ lw_good := List.mem_filter.mpr ⟨List.mem_append_right _ (List.mem_of_getElem? (i := 852) (by decide +kernel)), by decide +kernel⟩
theorem cv_X11_296 : cvOK RX11 296 0 1 Y_X0_parent := ⟨RX0, TX0, 3, rfl, rfl, ⟨mg850, mg851, mg852, mg12, mg853⟩, ⟨by decide +kernel, by decide +kernel⟩, by decide +kernel, by decide, rfl, rfl⟩
theorem mg858 : Cond.methodLink RX11 299 Y_X7_copyFrom.y ∈ lw_good := List.mem_filter.mpr ⟨List.mem_append_right _ (List.mem_of_getElem? (i := 858) (by decide +kernel)), by decide +kernel⟩
theorem mg861 : Cond.code Y_X7_copyFrom.y Y_X7_copyFrom.cc Y_X7_copyFrom.nL Y_X7_copyFrom.rt ∈ lw_good := List.mem_filter.mpr ⟨List.mem_append_right _ (List.mem_of_getElem? (i := 861) (by decide +kernel)), by decide +kernel⟩
theorem mg859 : Cond.instanceMethod Y_X7_copyFrom.y ∈ lw_good := List.mem_filter.mpr ⟨List.mem_append_right _ (List.mem_of_getElem? (i := 859) (by decide +kernel)), by decide +kernel⟩
theorem mg860 : Cond.selects RX7 yX7_copyFrom yX7_copyFrom ∈ lw_good := List.mem_filter.mpr ⟨List.mem_append_right _ (List.mem_of_getElem? (i := 860) (by decide +kernel)), by decide +kernel⟩
theorem cv_X11_299 : cvOK RX11 299 7 1 Y_X7_copyFrom := ⟨RX7, TX7, 11, rfl, rfl, ⟨mg858, mg859, mg860, mg6, mg861⟩, ⟨by decide +kernel, by decide +kernel⟩, by decide +kernel, by decide, rfl, rfl⟩
theorem mg735 : Cond.methodLink RX11 317 Y_X11_drawsAllSeen.y ∈ lw_good := List.mem_filter.mpr ⟨List.mem_append_right _ (List.mem_of_getElem? (i := 735) (by decide +kernel)), by decide +kernel⟩
theorem mg738 : Cond.code Y_X11_drawsAllSeen.y Y_X11_drawsAllSeen.cc Y_X11_drawsAllSeen.nL Y_X11_drawsAllSeen.rt ∈ lw_good := List.mem_filter.mpr ⟨List.mem_append_right _ (List.mem_of_getElem? (i := 738) (by decide +kernel)), by decide +kernel⟩
theorem mg737 : Cond.instanceMethod Y_X11_drawsAllSeen.y ∈ lw_good := List.mem_filter.mpr ⟨List.mem_append_right _ (List.mem_of_getElem? (i := 737) (by decide +kernel)), by decide +kernel⟩
theorem msel_X11_drawsAllSeen : Cond.selects RX11 yX11_drawsAllSeen yX11_drawsAllSeen ∈ lw_good := List.mem_filter.mpr ⟨List.mem_append_left _ (List.mem_of_getElem? (i := 24) (by decide +kernel)), by decide +kernel⟩
theorem cv_X11_317 : cvOK RX11 317 11 2 Y_X11_drawsAllSeen := ⟨RX11, TX11, 12, rfl, rfl, ⟨mg735, mg737, msel_X11_drawsAllSeen, mg1, mg738⟩, ⟨by decide +kernel, by decide +kernel⟩, by decide +kernel, by decide, rfl, rfl⟩
theorem mg743 : Cond.methodLink RX11 326 Y_X9_isAt.y ∈ lw_good := List.mem_filter.mpr ⟨List.mem_append_right _ (List.mem_of_getElem? (i := 743) (by decide +kernel)), by decide +kernel⟩
theorem mg746 : Cond.code Y_X9_isAt.y Y_X9_isAt.cc Y_X9_isAt.nL Y_X9_isAt.rt ∈ lw_good := List.mem_filter.mpr ⟨List.mem_append_right _ (List.mem_of_getElem? (i := 746) (by decide +kernel)), by decide +kernel⟩
theorem mg744 : Cond.instanceMethod Y_X9_isAt.y ∈ lw_good := List.mem_filter.mpr ⟨List.mem_append_right _ (List.mem_of_getElem? (i := 744) (by decide +kernel)), by decide +kernel⟩
theorem mg745 : Cond.selects RX9 yX9_isAt yX9_isAt ∈ lw_good := List.mem_filter.mpr ⟨List.mem_append_right _ (List.mem_of_getElem? (i := 745) (by decide +kernel)), by decide +kernel⟩
theorem cv_X11_326 : cvOK RX11 326 9 2 Y_X9_isAt := ⟨RX9, TX9, 3, rfl, rfl, ⟨mg743, mg744, mg745, mg7, mg746⟩, ⟨by decide +kernel, by decide +kernel⟩, by decide +kernel, by decide, rfl, rfl⟩
theorem mg412 : Cond.methodLink RX11 83 Y_X10_add.y ∈ lw_good := List.mem_filter.mpr ⟨List.mem_append_right _ (List.mem_of_getElem? (i := 412) (by decide +kernel)), by decide +kernel⟩
theorem mg415 : Cond.code Y_X10_add.y Y_X10_add.cc Y_X10_add.nL Y_X10_add.rt ∈ lw_good := List.mem_filter.mpr ⟨List.mem_append_right _ (List.mem_of_getElem? (i := 415) (by decide +kernel)), by decide +kernel⟩
theorem mg413 : Cond.instanceMethod Y_X10_add.y ∈ lw_good := List.mem_filter.mpr ⟨List.mem_append_right _ (List.mem_of_getElem? (i := 413) (by decide +kernel)), by decide +kernel⟩
theorem mg414 : Cond.selects RX10 yX10_add yX10_add ∈ lw_good := List.mem_filter.mpr ⟨List.mem_append_right _ (List.mem_of_getElem? (i := 414) (by decide +kernel)), by decide +kernel⟩
theorem cv_X11_83 : cvOK RX11 83 10 1 Y_X10_add := ⟨RX10, TX10, 7, rfl, rfl, ⟨mg412, mg413, mg414, mg2, mg415⟩, ⟨by decide +kernel, by decide +kernel⟩, by decide +kernel, by decide, rfl, rfl⟩
theorem mg595 : Cond.methodLink RX11 98 Y_X5_hasArm.y ∈ lw_good := List.mem_filter.mpr ⟨List.mem_append_right _ (List.mem_of_getElem? (i := 595) (by decide +kernel)), by decide +kernel⟩
theorem mg598 : Cond.code Y_X5_hasArm.y Y_X5_hasArm.cc Y_X5_hasArm.nL Y_X5_hasArm.rt ∈ lw_good := List.mem_filter.mpr ⟨List.mem_append_right _ (List.mem_of_getElem? (i := 598) (by decide +kernel)), by decide +kernel⟩
theorem mg596 : Cond.instanceMethod Y_X5_hasArm.y ∈ lw_good := List.mem_filter.mpr ⟨List.mem_append_right _ (List.mem_of_getElem? (i := 596) (by decide +kernel)), by decide +kernel⟩
theorem mg597 : Cond.selects RX5 yX5_hasArm yX5_hasArm ∈ lw_good := List.mem_filter.mpr ⟨List.mem_append_right _ (List.mem_of_getElem? (i := 597) (by decide +kernel)), by decide +kernel⟩
theorem cv_X11_98 : cvOK RX11 98 5 1 Y_X5_hasArm := ⟨RX5, TX5, 4, rfl, rfl, ⟨mg595, mg596, mg597, mg3, mg598⟩, ⟨by decide +kernel, by decide +kernel⟩, by decide +kernel, by decide, rfl, rfl⟩
theorem mg1169 : Cond.methodLink RX12 123 Y_X12_isSign.y ∈ lw_good := List.mem_filter.mpr ⟨List.mem_append_right _ (List.mem_of_getElem? (i := 1169) (by decide +kernel)), by decide +kernel⟩
theorem mg1172 : Cond.code Y_X12_isSign.y Y_X12_isSign.cc Y_X12_isSign.nL Y_X12_isSign.rt ∈ lw_good := List.mem_filter.mpr ⟨List.mem_append_right _ (List.mem_of_getElem? (i := 1172) (by decide +kernel)), by decide +kernel⟩
theorem mg1171 : Cond.instanceMethod Y_X12_isSign.y ∈ lw_good := List.mem_filter.mpr ⟨List.mem_append_right _ (List.mem_of_getElem? (i := 1171) (by decide +kernel)), by decide +kernel⟩
theorem msel_X12_isSign : Cond.selects RX12 yX12_isSign yX12_isSign ∈ lw_good := List.mem_filter.mpr ⟨List.mem_append_left _ (List.mem_of_getElem? (i := 46) (by decide +kernel)), by decide +kernel⟩
theorem cv_X12_123 : cvOK RX12 123 12 1 Y_X12_isSign := ⟨RX12, TX12, 32, rfl, rfl, ⟨mg1169, mg1171, msel_X12_isSign, mg13, mg1172⟩, ⟨by decide +kernel, by decide +kernel⟩, by decide +kernel, by decide, rfl, rfl⟩
theorem mg1129 : Cond.methodLink RX12 126 Y_X12_wrong.y ∈ lw_good := List.mem_filter.mpr ⟨List.mem_append_right _ (List.mem_of_getElem? (i := 1129) (by decide +kernel)), by decide +kernel⟩
theorem mg1132 : Cond.code Y_X12_wrong.y Y_X12_wrong.cc Y_X12_wrong.nL Y_X12_wrong.rt ∈ lw_good := List.mem_filter.mpr ⟨List.mem_append_right _ (List.mem_of_getElem? (i := 1132) (by decide +kernel)), by decide +kernel⟩
theorem mg1131 : Cond.instanceMethod Y_X12_wrong.y ∈ lw_good := List.mem_filter.mpr ⟨List.mem_append_right _ (List.mem_of_getElem? (i := 1131) (by decide +kernel)), by decide +kernel⟩
theorem msel_X12_wrong : Cond.selects RX12 yX12_wrong yX12_wrong ∈ lw_good := List.mem_filter.mpr ⟨List.mem_append_left _ (List.mem_of_getElem? (i := 36) (by decide +kernel)), by decide +kernel⟩
theorem cv_X12_126 : cvOK RX12 126 12 1 Y_X12_wrong := ⟨RX12, TX12, 32, rfl, rfl, ⟨mg1129, mg1131, msel_X12_wrong, mg13, mg1132⟩, ⟨by decide +kernel, by decide +kernel⟩, by decide +kernel, by decide, rfl, rfl⟩
theorem mg1121 : Cond.methodLink RX12 130 Y_X12_isWord.y ∈ lw_good := List.mem_filter.mpr ⟨List.mem_append_right _ (List.mem_of_getElem? (i := 1121) (by decide +kernel)), by decide +kernel⟩
theorem mg1124 : Cond.code Y_X12_isWord.y Y_X12_isWord.cc Y_X12_isWord.nL Y_X12_isWord.rt ∈ lw_good := List.mem_filter.mpr ⟨List.mem_append_right _ (List.mem_of_getElem? (i := 1124) (by decide +kernel)), by decide +kernel⟩
theorem mg1123 : Cond.instanceMethod Y_X12_isWord.y ∈ lw_good := List.mem_filter.mpr ⟨List.mem_append_right _ (List.mem_of_getElem? (i := 1123) (by decide +kernel)), by decide +kernel⟩
theorem msel_X12_isWord : Cond.selects RX12 yX12_isWord yX12_isWord ∈ lw_good := List.mem_filter.mpr ⟨List.mem_append_left _ (List.mem_of_getElem? (i := 34) (by decide +kernel)), by decide +kernel⟩
theorem cv_X12_130 : cvOK RX12 130 12 1 Y_X12_isWord := ⟨RX12, TX12, 32, rfl, rfl, ⟨mg1121, mg1123, msel_X12_isWord, mg13, mg1124⟩, ⟨by decide +kernel, by decide +kernel⟩, by decide +kernel, by decide, rfl, rfl⟩
theorem mg1145 : Cond.methodLink RX12 133 Y_X12_hasWord.y ∈ lw_good := List.mem_filter.mpr ⟨List.mem_append_right _ (List.mem_of_getElem? (i := 1145) (by decide +kernel)), by decide +kernel⟩
theorem mg1148 : Cond.code Y_X12_hasWord.y Y_X12_hasWord.cc Y_X12_hasWord.nL Y_X12_hasWord.rt ∈ lw_good := List.mem_filter.mpr ⟨List.mem_append_right _ (List.mem_of_getElem? (i := 1148) (by decide +kernel)), by decide +kernel⟩
theorem mg1147 : Cond.instanceMethod Y_X12_hasWord.y ∈ lw_good := List.mem_filter.mpr ⟨List.mem_append_right _ (List.mem_of_getElem? (i := 1147) (by decide +kernel)), by decide +kernel⟩
theorem msel_X12_hasWord : Cond.selects RX12 yX12_hasWord yX12_hasWord ∈ lw_good := List.mem_filter.mpr ⟨List.mem_append_left _ (List.mem_of_getElem? (i := 40) (by decide +kernel)), by decide +kernel⟩
theorem cv_X12_133 : cvOK RX12 133 12 1 Y_X12_hasWord := ⟨RX12, TX12, 32, rfl, rfl, ⟨mg1145, mg1147, msel_X12_hasWord, mg13, mg1148⟩, ⟨by decide +kernel, by decide +kernel⟩, by decide +kernel, by decide, rfl, rfl⟩
theorem mg1141 : Cond.methodLink RX12 136 Y_X12_takeWord.y ∈ lw_good := List.mem_filter.mpr ⟨List.mem_append_right _ (List.mem_of_getElem? (i := 1141) (by decide +kernel)), by decide +kernel⟩
theorem mg1144 : Cond.code Y_X12_takeWord.y Y_X12_takeWord.cc Y_X12_takeWord.nL Y_X12_takeWord.rt ∈ lw_good := List.mem_filter.mpr ⟨List.mem_append_right _ (List.mem_of_getElem? (i := 1144) (by decide +kernel)), by decide +kernel⟩
theorem mg1143 : Cond.instanceMethod Y_X12_takeWord.y ∈ lw_good := List.mem_filter.mpr ⟨List.mem_append_right _ (List.mem_of_getElem? (i := 1143) (by decide +kernel)), by decide +kernel⟩
theorem msel_X12_takeWord : Cond.selects RX12 yX12_takeWord yX12_takeWord ∈ lw_good := List.mem_filter.mpr ⟨List.mem_append_left _ (List.mem_of_getElem? (i := 39) (by decide +kernel)), by decide +kernel⟩
theorem cv_X12_136 : cvOK RX12 136 12 1 Y_X12_takeWord := ⟨RX12, TX12, 32, rfl, rfl, ⟨mg1141, mg1143, msel_X12_takeWord, mg13, mg1144⟩, ⟨by decide +kernel, by decide +kernel⟩, by decide +kernel, by decide, rfl, rfl⟩
theorem mg1153 : Cond.methodLink RX12 139 Y_X12_takeNumber.y ∈ lw_good := List.mem_filter.mpr ⟨List.mem_append_right _ (List.mem_of_getElem? (i := 1153) (by decide +kernel)), by decide +kernel⟩
theorem mg1156 : Cond.code Y_X12_takeNumber.y Y_X12_takeNumber.cc Y_X12_takeNumber.nL Y_X12_takeNumber.rt ∈ lw_good := List.mem_filter.mpr ⟨List.mem_append_right _ (List.mem_of_getElem? (i := 1156) (by decide +kernel)), by decide +kernel⟩
theorem mg1155 : Cond.instanceMethod Y_X12_takeNumber.y ∈ lw_good := List.mem_filter.mpr ⟨List.mem_append_right _ (List.mem_of_getElem? (i := 1155) (by decide +kernel)), by decide +kernel⟩
theorem msel_X12_takeNumber : Cond.selects RX12 yX12_takeNumber yX12_takeNumber ∈ lw_good := List.mem_filter.mpr ⟨List.mem_append_left _ (List.mem_of_getElem? (i := 42) (by decide +kernel)), by decide +kernel⟩
theorem cv_X12_139 : cvOK RX12 139 12 2 Y_X12_takeNumber := ⟨RX12, TX12, 32, rfl, rfl, ⟨mg1153, mg1155, msel_X12_takeNumber, mg13, mg1156⟩, ⟨by decide +kernel, by decide +kernel⟩, by decide +kernel, by decide, rfl, rfl⟩
theorem mg1137 : Cond.methodLink RX12 143 Y_X12_isName.y ∈ lw_good := List.mem_filter.mpr ⟨List.mem_append_right _ (List.mem_of_getElem? (i := 1137) (by decide +kernel)), by decide +kernel⟩
theorem mg1140 : Cond.code Y_X12_isName.y Y_X12_isName.cc Y_X12_isName.nL Y_X12_isName.rt ∈ lw_good := List.mem_filter.mpr ⟨List.mem_append_right _ (List.mem_of_getElem? (i := 1140) (by decide +kernel)), by decide +kernel⟩
theorem mg1139 : Cond.instanceMethod Y_X12_isName.y ∈ lw_good := List.mem_filter.mpr ⟨List.mem_append_right _ (List.mem_of_getElem? (i := 1139) (by decide +kernel)), by decide +kernel⟩
theorem msel_X12_isName : Cond.selects RX12 yX12_isName yX12_isName ∈ lw_good := List.mem_filter.mpr ⟨List.mem_append_left _ (List.mem_of_getElem? (i := 38) (by decide +kernel)), by decide +kernel⟩
theorem cv_X12_143 : cvOK RX12 143 12 0 Y_X12_isName := ⟨RX12, TX12, 32, rfl, rfl, ⟨mg1137, mg1139, msel_X12_isName, mg13, mg1140⟩, ⟨by decide +kernel, by decide +kernel⟩, by decide +kernel, by decide, rfl, rfl⟩
theorem mg1102 : Cond.methodLink RX12 150 Y_X12_cutAll.y ∈ lw_good := List.mem_filter.mpr ⟨List.mem_append_right _ (List.mem_of_getElem? (i := 1102) (by decide +kernel)), by decide +kernel⟩
theorem mg1105 : Cond.code Y_X12_cutAll.y Y_X12_cutAll.cc Y_X12_cutAll.nL Y_X12_cutAll.rt ∈ lw_good := List.mem_filter.mpr ⟨List.mem_append_right _ (List.mem_of_getElem? (i := 1105) (by decide +kernel)), by decide +kernel⟩
theorem mg1104 : Cond.instanceMethod Y_X12_cutAll.y ∈ lw_good := List.mem_filter.mpr ⟨List.mem_append_right _ (List.mem_of_getElem? (i := 1104) (by decide +kernel)), by decide +kernel⟩
theorem msel_X12_cutAll : Cond.selects RX12 yX12_cutAll yX12_cutAll ∈ lw_good := List.mem_filter.mpr ⟨List.mem_append_left _ (List.mem_of_getElem? (i := 33) (by decide +kernel)), by decide +kernel⟩
theorem cv_X12_150 : cvOK RX12 150 12 0 Y_X12_cutAll := ⟨RX12, TX12, 32, rfl, rfl, ⟨mg1102, mg1104, msel_X12_cutAll, mg13, mg1105⟩, ⟨by decide +kernel, by decide +kernel⟩, by decide +kernel, by decide, rfl, rfl⟩
theorem mg1125 : Cond.methodLink RX12 153 Y_X12_readArm.y ∈ lw_good := List.mem_filter.mpr ⟨List.mem_append_right _ (List.mem_of_getElem? (i := 1125) (by decide +kernel)), by decide +kernel⟩
theorem mg1128 : Cond.code Y_X12_readArm.y Y_X12_readArm.cc Y_X12_readArm.nL Y_X12_readArm.rt ∈ lw_good := List.mem_filter.mpr ⟨List.mem_append_right _ (List.mem_of_getElem? (i := 1128) (by decide +kernel)), by decide +kernel⟩
theorem mg1127 : Cond.instanceMethod Y_X12_readArm.y ∈ lw_good := List.mem_filter.mpr ⟨List.mem_append_right _ (List.mem_of_getElem? (i := 1127) (by decide +kernel)), by decide +kernel⟩
theorem msel_X12_readArm : Cond.selects RX12 yX12_readArm yX12_readArm ∈ lw_good := List.mem_filter.mpr ⟨List.mem_append_left _ (List.mem_of_getElem? (i := 35) (by decide +kernel)), by decide +kernel⟩
theorem cv_X12_153 : cvOK RX12 153 12 0 Y_X12_readArm := ⟨RX12, TX12, 32, rfl, rfl, ⟨mg1125, mg1127, msel_X12_readArm, mg13, mg1128⟩, ⟨by decide +kernel, by decide +kernel⟩, by decide +kernel, by decide, rfl, rfl⟩
theorem mg1161 : Cond.methodLink RX12 156 Y_X12_readMap.y ∈ lw_good := List.mem_filter.mpr ⟨List.mem_append_right _ (List.mem_of_getElem? (i := 1161) (by decide +kernel)), by decide +kernel⟩
theorem mg1164 : Cond.code Y_X12_readMap.y Y_X12_readMap.cc Y_X12_readMap.nL Y_X12_readMap.rt ∈ lw_good := List.mem_filter.mpr ⟨List.mem_append_right _ (List.mem_of_getElem? (i := 1164) (by decide +kernel)), by decide +kernel⟩
theorem mg1163 : Cond.instanceMethod Y_X12_readMap.y ∈ lw_good := List.mem_filter.mpr ⟨List.mem_append_right _ (List.mem_of_getElem? (i := 1163) (by decide +kernel)), by decide +kernel⟩
theorem msel_X12_readMap : Cond.selects RX12 yX12_readMap yX12_readMap ∈ lw_good := List.mem_filter.mpr ⟨List.mem_append_left _ (List.mem_of_getElem? (i := 44) (by decide +kernel)), by decide +kernel⟩
theorem cv_X12_156 : cvOK RX12 156 12 0 Y_X12_readMap := ⟨RX12, TX12, 32, rfl, rfl, ⟨mg1161, mg1163, msel_X12_readMap, mg13, mg1164⟩, ⟨by decide +kernel, by decide +kernel⟩, by decide +kernel, by decide, rfl, rfl⟩
theorem mg1176 : Cond.methodLink RX12 159 Y_X12_takeSign.y ∈ lw_good := List.mem_filter.mpr ⟨List.mem_append_right _ (List.mem_of_getElem? (i := 1176) (by decide +kernel)), by decide +kernel⟩
theorem mg1179 : Cond.code Y_X12_takeSign.y Y_X12_takeSign.cc Y_X12_takeSign.nL Y_X12_takeSign.rt ∈ lw_good := List.mem_filter.mpr ⟨List.mem_append_right _ (List.mem_of_getElem? (i := 1179) (by decide +kernel)), by decide +kernel⟩
theorem mg1178 : Cond.instanceMethod Y_X12_takeSign.y ∈ lw_good := List.mem_filter.mpr ⟨List.mem_append_right _ (List.mem_of_getElem? (i := 1178) (by decide +kernel)), by decide +kernel⟩
theorem msel_X12_takeSign : Cond.selects RX12 yX12_takeSign yX12_takeSign ∈ lw_good := List.mem_filter.mpr ⟨List.mem_append_left _ (List.mem_of_getElem? (i := 47) (by decide +kernel)), by decide +kernel⟩
theorem cv_X12_159 : cvOK RX12 159 12 1 Y_X12_takeSign := ⟨RX12, TX12, 32, rfl, rfl, ⟨mg1176, mg1178, msel_X12_takeSign, mg13, mg1179⟩, ⟨by decide +kernel, by decide +kernel⟩, by decide +kernel, by decide, rfl, rfl⟩
theorem mg1180 : Cond.methodLink RX12 162 Y_X12_carry.y ∈ lw_good := List.mem_filter.mpr ⟨List.mem_append_right _ (List.mem_of_getElem? (i := 1180) (by decide +kernel)), by decide +kernel⟩
theorem mg1183 : Cond.code Y_X12_carry.y Y_X12_carry.cc Y_X12_carry.nL Y_X12_carry.rt ∈ lw_good := List.mem_filter.mpr ⟨List.mem_append_right _ (List.mem_of_getElem? (i := 1183) (by decide +kernel)), by decide +kernel⟩
theorem mg1182 : Cond.instanceMethod Y_X12_carry.y ∈ lw_good := List.mem_filter.mpr ⟨List.mem_append_right _ (List.mem_of_getElem? (i := 1182) (by decide +kernel)), by decide +kernel⟩
theorem msel_X12_carry : Cond.selects RX12 yX12_carry yX12_carry ∈ lw_good := List.mem_filter.mpr ⟨List.mem_append_left _ (List.mem_of_getElem? (i := 48) (by decide +kernel)), by decide +kernel⟩
theorem cv_X12_162 : cvOK RX12 162 12 2 Y_X12_carry := ⟨RX12, TX12, 32, rfl, rfl, ⟨mg1180, mg1182, msel_X12_carry, mg13, mg1183⟩, ⟨by decide +kernel, by decide +kernel⟩, by decide +kernel, by decide, rfl, rfl⟩
theorem mg1133 : Cond.methodLink RX12 166 Y_X12_readName.y ∈ lw_good := List.mem_filter.mpr ⟨List.mem_append_right _ (List.mem_of_getElem? (i := 1133) (by decide +kernel)), by decide +kernel⟩
theorem mg1136 : Cond.code Y_X12_readName.y Y_X12_readName.cc Y_X12_readName.nL Y_X12_readName.rt ∈ lw_good := List.mem_filter.mpr ⟨List.mem_append_right _ (List.mem_of_getElem? (i := 1136) (by decide +kernel)), by decide +kernel⟩
theorem mg1135 : Cond.instanceMethod Y_X12_readName.y ∈ lw_good := List.mem_filter.mpr ⟨List.mem_append_right _ (List.mem_of_getElem? (i := 1135) (by decide +kernel)), by decide +kernel⟩
theorem msel_X12_readName : Cond.selects RX12 yX12_readName yX12_readName ∈ lw_good := List.mem_filter.mpr ⟨List.mem_append_left _ (List.mem_of_getElem? (i := 37) (by decide +kernel)), by decide +kernel⟩
theorem cv_X12_166 : cvOK RX12 166 12 0 Y_X12_readName := ⟨RX12, TX12, 32, rfl, rfl, ⟨mg1133, mg1135, msel_X12_readName, mg13, mg1136⟩, ⟨by decide +kernel, by decide +kernel⟩, by decide +kernel, by decide, rfl, rfl⟩
theorem mg1149 : Cond.methodLink RX12 169 Y_X12_takeHole.y ∈ lw_good := List.mem_filter.mpr ⟨List.mem_append_right _ (List.mem_of_getElem? (i := 1149) (by decide +kernel)), by decide +kernel⟩
theorem mg1152 : Cond.code Y_X12_takeHole.y Y_X12_takeHole.cc Y_X12_takeHole.nL Y_X12_takeHole.rt ∈ lw_good := List.mem_filter.mpr ⟨List.mem_append_right _ (List.mem_of_getElem? (i := 1152) (by decide +kernel)), by decide +kernel⟩
theorem mg1151 : Cond.instanceMethod Y_X12_takeHole.y ∈ lw_good := List.mem_filter.mpr ⟨List.mem_append_right _ (List.mem_of_getElem? (i := 1151) (by decide +kernel)), by decide +kernel⟩
theorem msel_X12_takeHole : Cond.selects RX12 yX12_takeHole yX12_takeHole ∈ lw_good := List.mem_filter.mpr ⟨List.mem_append_left _ (List.mem_of_getElem? (i := 41) (by decide +kernel)), by decide +kernel⟩
theorem cv_X12_169 : cvOK RX12 169 12 1 Y_X12_takeHole := ⟨RX12, TX12, 32, rfl, rfl, ⟨mg1149, mg1151, msel_X12_takeHole, mg13, mg1152⟩, ⟨by decide +kernel, by decide +kernel⟩, by decide +kernel, by decide, rfl, rfl⟩
theorem mg1157 : Cond.methodLink RX12 172 Y_X12_takeAfter.y ∈ lw_good := List.mem_filter.mpr ⟨List.mem_append_right _ (List.mem_of_getElem? (i := 1157) (by decide +kernel)), by decide +kernel⟩
theorem mg1160 : Cond.code Y_X12_takeAfter.y Y_X12_takeAfter.cc Y_X12_takeAfter.nL Y_X12_takeAfter.rt ∈ lw_good := List.mem_filter.mpr ⟨List.mem_append_right _ (List.mem_of_getElem? (i := 1160) (by decide +kernel)), by decide +kernel⟩
theorem mg1159 : Cond.instanceMethod Y_X12_takeAfter.y ∈ lw_good := List.mem_filter.mpr ⟨List.mem_append_right _ (List.mem_of_getElem? (i := 1159) (by decide +kernel)), by decide +kernel⟩
theorem msel_X12_takeAfter : Cond.selects RX12 yX12_takeAfter yX12_takeAfter ∈ lw_good := List.mem_filter.mpr ⟨List.mem_append_left _ (List.mem_of_getElem? (i := 43) (by decide +kernel)), by decide +kernel⟩
theorem cv_X12_172 : cvOK RX12 172 12 3 Y_X12_takeAfter := ⟨RX12, TX12, 32, rfl, rfl, ⟨mg1157, mg1159, msel_X12_takeAfter, mg13, mg1160⟩, ⟨by decide +kernel, by decide +kernel⟩, by decide +kernel, by decide, rfl, rfl⟩
theorem mg1165 : Cond.methodLink RX12 176 Y_X12_takePoint.y ∈ lw_good := List.mem_filter.mpr ⟨List.mem_append_right _ (List.mem_of_getElem? (i := 1165) (by decide +kernel)), by decide +kernel⟩
theorem mg1168 : Cond.code Y_X12_takePoint.y Y_X12_takePoint.cc Y_X12_takePoint.nL Y_X12_takePoint.rt ∈ lw_good := List.mem_filter.mpr ⟨List.mem_append_right _ (List.mem_of_getElem? (i := 1168) (by decide +kernel)), by decide +kernel⟩
theorem mg1167 : Cond.instanceMethod Y_X12_takePoint.y ∈ lw_good := List.mem_filter.mpr ⟨List.mem_append_right _ (List.mem_of_getElem? (i := 1167) (by decide +kernel)), by decide +kernel⟩
theorem msel_X12_takePoint : Cond.selects RX12 yX12_takePoint yX12_takePoint ∈ lw_good := List.mem_filter.mpr ⟨List.mem_append_left _ (List.mem_of_getElem? (i := 45) (by decide +kernel)), by decide +kernel⟩
theorem cv_X12_176 : cvOK RX12 176 12 1 Y_X12_takePoint := ⟨RX12, TX12, 32, rfl, rfl, ⟨mg1165, mg1167, msel_X12_takePoint, mg13, mg1168⟩, ⟨by decide +kernel, by decide +kernel⟩, by decide +kernel, by decide, rfl, rfl⟩
theorem mg1192 : Cond.methodLink RX12 183 Y_X12_arms.y ∈ lw_good := List.mem_filter.mpr ⟨List.mem_append_right _ (List.mem_of_getElem? (i := 1192) (by decide +kernel)), by decide +kernel⟩
theorem mg1195 : Cond.code Y_X12_arms.y Y_X12_arms.cc Y_X12_arms.nL Y_X12_arms.rt ∈ lw_good := List.mem_filter.mpr ⟨List.mem_append_right _ (List.mem_of_getElem? (i := 1195) (by decide +kernel)), by decide +kernel⟩
theorem mg1194 : Cond.instanceMethod Y_X12_arms.y ∈ lw_good := List.mem_filter.mpr ⟨List.mem_append_right _ (List.mem_of_getElem? (i := 1194) (by decide +kernel)), by decide +kernel⟩
theorem msel_X12_arms : Cond.selects RX12 yX12_arms yX12_arms ∈ lw_good := List.mem_filter.mpr ⟨List.mem_append_left _ (List.mem_of_getElem? (i := 50) (by decide +kernel)), by decide +kernel⟩
theorem cv_X12_183 : cvOK RX12 183 12 0 Y_X12_arms := ⟨RX12, TX12, 32, rfl, rfl, ⟨mg1192, mg1194, msel_X12_arms, mg13, mg1195⟩, ⟨by decide +kernel, by decide +kernel⟩, by decide +kernel, by decide, rfl, rfl⟩
theorem mg1188 : Cond.methodLink RX12 187 Y_X12_isArm.y ∈ lw_good := List.mem_filter.mpr ⟨List.mem_append_right _ (List.mem_of_getElem? (i := 1188) (by decide +kernel)), by decide +kernel⟩
theorem mg1191 : Cond.code Y_X12_isArm.y Y_X12_isArm.cc Y_X12_isArm.nL Y_X12_isArm.rt ∈ lw_good := List.mem_filter.mpr ⟨List.mem_append_right _ (List.mem_of_getElem? (i := 1191) (by decide +kernel)), by decide +kernel⟩
theorem mg1190 : Cond.instanceMethod Y_X12_isArm.y ∈ lw_good := List.mem_filter.mpr ⟨List.mem_append_right _ (List.mem_of_getElem? (i := 1190) (by decide +kernel)), by decide +kernel⟩
theorem msel_X12_isArm : Cond.selects RX12 yX12_isArm yX12_isArm ∈ lw_good := List.mem_filter.mpr ⟨List.mem_append_left _ (List.mem_of_getElem? (i := 49) (by decide +kernel)), by decide +kernel⟩
theorem cv_X12_187 : cvOK RX12 187 12 1 Y_X12_isArm := ⟨RX12, TX12, 32, rfl, rfl, ⟨mg1188, mg1190, msel_X12_isArm, mg13, mg1191⟩, ⟨by decide +kernel, by decide +kernel⟩, by decide +kernel, by decide, rfl, rfl⟩
theorem mg1196 : Cond.methodLink RX12 190 Y_X12_of.y ∈ lw_good := List.mem_filter.mpr ⟨List.mem_append_right _ (List.mem_of_getElem? (i := 1196) (by decide +kernel)), by decide +kernel⟩
theorem mg1199 : Cond.code Y_X12_of.y Y_X12_of.cc Y_X12_of.nL Y_X12_of.rt ∈ lw_good := List.mem_filter.mpr ⟨List.mem_append_right _ (List.mem_of_getElem? (i := 1199) (by decide +kernel)), by decide +kernel⟩
theorem mg1198 : Cond.instanceMethod Y_X12_of.y ∈ lw_good := List.mem_filter.mpr ⟨List.mem_append_right _ (List.mem_of_getElem? (i := 1198) (by decide +kernel)), by decide +kernel⟩
theorem msel_X12_of : Cond.selects RX12 yX12_of yX12_of ∈ lw_good := List.mem_filter.mpr ⟨List.mem_append_left _ (List.mem_of_getElem? (i := 51) (by decide +kernel)), by decide +kernel⟩
theorem cv_X12_190 : cvOK RX12 190 12 2 Y_X12_of := ⟨RX12, TX12, 32, rfl, rfl, ⟨mg1196, mg1198, msel_X12_of, mg13, mg1199⟩, ⟨by decide +kernel, by decide +kernel⟩, by decide +kernel, by decide, rfl, rfl⟩
theorem mg1208 : Cond.methodLink RX12 193 Y_X12_isMap.y ∈ lw_good := List.mem_filter.mpr ⟨List.mem_append_right _ (List.mem_of_getElem? (i := 1208) (by decide +kernel)), by decide +kernel⟩
theorem mg1211 : Cond.code Y_X12_isMap.y Y_X12_isMap.cc Y_X12_isMap.nL Y_X12_isMap.rt ∈ lw_good := List.mem_filter.mpr ⟨List.mem_append_right _ (List.mem_of_getElem? (i := 1211) (by decide +kernel)), by decide +kernel⟩
theorem mg1210 : Cond.instanceMethod Y_X12_isMap.y ∈ lw_good := List.mem_filter.mpr ⟨List.mem_append_right _ (List.mem_of_getElem? (i := 1210) (by decide +kernel)), by decide +kernel⟩
theorem msel_X12_isMap : Cond.selects RX12 yX12_isMap yX12_isMap ∈ lw_good := List.mem_filter.mpr ⟨List.mem_append_left _ (List.mem_of_getElem? (i := 52) (by decide +kernel)), by decide +kernel⟩
theorem cv_X12_193 : cvOK RX12 193 12 1 Y_X12_isMap := ⟨RX12, TX12, 32, rfl, rfl, ⟨mg1208, mg1210, msel_X12_isMap, mg13, mg1211⟩, ⟨by decide +kernel, by decide +kernel⟩, by decide +kernel, by decide, rfl, rfl⟩
theorem mg1215 : Cond.methodLink RX12 200 Y_X12_mapOf.y ∈ lw_good := List.mem_filter.mpr ⟨List.mem_append_right _ (List.mem_of_getElem? (i := 1215) (by decide +kernel)), by decide +kernel⟩
theorem mg1218 : Cond.code Y_X12_mapOf.y Y_X12_mapOf.cc Y_X12_mapOf.nL Y_X12_mapOf.rt ∈ lw_good := List.mem_filter.mpr ⟨List.mem_append_right _ (List.mem_of_getElem? (i := 1218) (by decide +kernel)), by decide +kernel⟩
theorem mg1217 : Cond.instanceMethod Y_X12_mapOf.y ∈ lw_good := List.mem_filter.mpr ⟨List.mem_append_right _ (List.mem_of_getElem? (i := 1217) (by decide +kernel)), by decide +kernel⟩
theorem msel_X12_mapOf : Cond.selects RX12 yX12_mapOf yX12_mapOf ∈ lw_good := List.mem_filter.mpr ⟨List.mem_append_left _ (List.mem_of_getElem? (i := 53) (by decide +kernel)), by decide +kernel⟩
theorem cv_X12_200 : cvOK RX12 200 12 2 Y_X12_mapOf := ⟨RX12, TX12, 32, rfl, rfl, ⟨mg1215, mg1217, msel_X12_mapOf, mg13, mg1218⟩, ⟨by decide +kernel, by decide +kernel⟩, by decide +kernel, by decide, rfl, rfl⟩
theorem mg1227 : Cond.methodLink RX12 203 Y_X12_lays.y ∈ lw_good := List.mem_filter.mpr ⟨List.mem_append_right _ (List.mem_of_getElem? (i := 1227) (by decide +kernel)), by decide +kernel⟩
theorem mg1230 : Cond.code Y_X12_lays.y Y_X12_lays.cc Y_X12_lays.nL Y_X12_lays.rt ∈ lw_good := List.mem_filter.mpr ⟨List.mem_append_right _ (List.mem_of_getElem? (i := 1230) (by decide +kernel)), by decide +kernel⟩
theorem mg1229 : Cond.instanceMethod Y_X12_lays.y ∈ lw_good := List.mem_filter.mpr ⟨List.mem_append_right _ (List.mem_of_getElem? (i := 1229) (by decide +kernel)), by decide +kernel⟩
theorem msel_X12_lays : Cond.selects RX12 yX12_lays yX12_lays ∈ lw_good := List.mem_filter.mpr ⟨List.mem_append_left _ (List.mem_of_getElem? (i := 54) (by decide +kernel)), by decide +kernel⟩
theorem cv_X12_203 : cvOK RX12 203 12 3 Y_X12_lays := ⟨RX12, TX12, 32, rfl, rfl, ⟨mg1227, mg1229, msel_X12_lays, mg13, mg1230⟩, ⟨by decide +kernel, by decide +kernel⟩, by decide +kernel, by decide, rfl, rfl⟩
theorem mg1247 : Cond.methodLink RX12 221 Y_X12_starts.y ∈ lw_good := List.mem_filter.mpr ⟨List.mem_append_right _ (List.mem_of_getElem? (i := 1247) (by decide +kernel)), by decide +kernel⟩
theorem mg1250 : Cond.code Y_X12_starts.y Y_X12_starts.cc Y_X12_starts.nL Y_X12_starts.rt ∈ lw_good := List.mem_filter.mpr ⟨List.mem_append_right _ (List.mem_of_getElem? (i := 1250) (by decide +kernel)), by decide +kernel⟩
theorem mg1249 : Cond.instanceMethod Y_X12_starts.y ∈ lw_good := List.mem_filter.mpr ⟨List.mem_append_right _ (List.mem_of_getElem? (i := 1249) (by decide +kernel)), by decide +kernel⟩
theorem msel_X12_starts : Cond.selects RX12 yX12_starts yX12_starts ∈ lw_good := List.mem_filter.mpr ⟨List.mem_append_left _ (List.mem_of_getElem? (i := 55) (by decide +kernel)), by decide +kernel⟩
theorem cv_X12_221 : cvOK RX12 221 12 2 Y_X12_starts := ⟨RX12, TX12, 32, rfl, rfl, ⟨mg1247, mg1249, msel_X12_starts, mg13, mg1250⟩, ⟨by decide +kernel, by decide +kernel⟩, by decide +kernel, by decide, rfl, rfl⟩
theorem mg1254 : Cond.methodLink RX12 227 Y_X12_isOut.y ∈ lw_good := List.mem_filter.mpr ⟨List.mem_append_right _ (List.mem_of_getElem? (i := 1254) (by decide +kernel)), by decide +kernel⟩
theorem mg1257 : Cond.code Y_X12_isOut.y Y_X12_isOut.cc Y_X12_isOut.nL Y_X12_isOut.rt ∈ lw_good := List.mem_filter.mpr ⟨List.mem_append_right _ (List.mem_of_getElem? (i := 1257) (by decide +kernel)), by decide +kernel⟩
theorem mg1256 : Cond.instanceMethod Y_X12_isOut.y ∈ lw_good := List.mem_filter.mpr ⟨List.mem_append_right _ (List.mem_of_getElem? (i := 1256) (by decide +kernel)), by decide +kernel⟩
theorem msel_X12_isOut : Cond.selects RX12 yX12_isOut yX12_isOut ∈ lw_good := List.mem_filter.mpr ⟨List.mem_append_left _ (List.mem_of_getElem? (i := 56) (by decide +kernel)), by decide +kernel⟩
theorem cv_X12_227 : cvOK RX12 227 12 1 Y_X12_isOut := ⟨RX12, TX12, 32, rfl, rfl, ⟨mg1254, mg1256, msel_X12_isOut, mg13, mg1257⟩, ⟨by decide +kernel, by decide +kernel⟩, by decide +kernel, by decide, rfl, rfl⟩
theorem mg1261 : Cond.methodLink RX12 230 Y_X12_traces.y ∈ lw_good := List.mem_filter.mpr ⟨List.mem_append_right _ (List.mem_of_getElem? (i := 1261) (by decide +kernel)), by decide +kernel⟩
theorem mg1264 : Cond.code Y_X12_traces.y Y_X12_traces.cc Y_X12_traces.nL Y_X12_traces.rt ∈ lw_good := List.mem_filter.mpr ⟨List.mem_append_right _ (List.mem_of_getElem? (i := 1264) (by decide +kernel)), by decide +kernel⟩
theorem mg1263 : Cond.instanceMethod Y_X12_traces.y ∈ lw_good := List.mem_filter.mpr ⟨List.mem_append_right _ (List.mem_of_getElem? (i := 1263) (by decide +kernel)), by decide +kernel⟩
theorem msel_X12_traces : Cond.selects RX12 yX12_traces yX12_traces ∈ lw_good := List.mem_filter.mpr ⟨List.mem_append_left _ (List.mem_of_getElem? (i := 57) (by decide +kernel)), by decide +kernel⟩
theorem cv_X12_230 : cvOK RX12 230 12 2 Y_X12_traces := ⟨RX12, TX12, 32, rfl, rfl, ⟨mg1261, mg1263, msel_X12_traces, mg13, mg1264⟩, ⟨by decide +kernel, by decide +kernel⟩, by decide +kernel, by decide, rfl, rfl⟩
theorem mg1265 : Cond.methodLink RX12 233 Y_X12_part.y ∈ lw_good := List.mem_filter.mpr ⟨List.mem_append_right _ (List.mem_of_getElem? (i := 1265) (by decide +kernel)), by decide +kernel⟩
theorem mg1268 : Cond.code Y_X12_part.y Y_X12_part.cc Y_X12_part.nL Y_X12_part.rt ∈ lw_good := List.mem_filter.mpr ⟨List.mem_append_right _ (List.mem_of_getElem? (i := 1268) (by decide +kernel)), by decide +kernel⟩
theorem mg1267 : Cond.instanceMethod Y_X12_part.y ∈ lw_good := List.mem_filter.mpr ⟨List.mem_append_right _ (List.mem_of_getElem? (i := 1267) (by decide +kernel)), by decide +kernel⟩
theorem msel_X12_part : Cond.selects RX12 yX12_part yX12_part ∈ lw_good := List.mem_filter.mpr ⟨List.mem_append_left _ (List.mem_of_getElem? (i := 58) (by decide +kernel)), by decide +kernel⟩
theorem cv_X12_233 : cvOK RX12 233 12 1 Y_X12_part := ⟨RX12, TX12, 32, rfl, rfl, ⟨mg1265, mg1267, msel_X12_part, mg13, mg1268⟩, ⟨by decide +kernel, by decide +kernel⟩, by decide +kernel, by decide, rfl, rfl⟩
theorem mg1273 : Cond.methodLink RX12 237 Y_X12_chained.y ∈ lw_good := List.mem_filter.mpr ⟨List.mem_append_right _ (List.mem_of_getElem? (i := 1273) (by decide +kernel)), by decide +kernel⟩
theorem mg1276 : Cond.code Y_X12_chained.y Y_X12_chained.cc Y_X12_chained.nL Y_X12_chained.rt ∈ lw_good := List.mem_filter.mpr ⟨List.mem_append_right _ (List.mem_of_getElem? (i := 1276) (by decide +kernel)), by decide +kernel⟩
theorem mg1275 : Cond.instanceMethod Y_X12_chained.y ∈ lw_good := List.mem_filter.mpr ⟨List.mem_append_right _ (List.mem_of_getElem? (i := 1275) (by decide +kernel)), by decide +kernel⟩
theorem msel_X12_chained : Cond.selects RX12 yX12_chained yX12_chained ∈ lw_good := List.mem_filter.mpr ⟨List.mem_append_left _ (List.mem_of_getElem? (i := 59) (by decide +kernel)), by decide +kernel⟩
theorem cv_X12_237 : cvOK RX12 237 12 0 Y_X12_chained := ⟨RX12, TX12, 32, rfl, rfl, ⟨mg1273, mg1275, msel_X12_chained, mg13, mg1276⟩, ⟨by decide +kernel, by decide +kernel⟩, by decide +kernel, by decide, rfl, rfl⟩
theorem mg1277 : Cond.methodLink RX12 240 Y_X12_chainOf.y ∈ lw_good := List.mem_filter.mpr ⟨List.mem_append_right _ (List.mem_of_getElem? (i := 1277) (by decide +kernel)), by decide +kernel⟩
theorem mg1280 : Cond.code Y_X12_chainOf.y Y_X12_chainOf.cc Y_X12_chainOf.nL Y_X12_chainOf.rt ∈ lw_good := List.mem_filter.mpr ⟨List.mem_append_right _ (List.mem_of_getElem? (i := 1280) (by decide +kernel)), by decide +kernel⟩
theorem mg1279 : Cond.instanceMethod Y_X12_chainOf.y ∈ lw_good := List.mem_filter.mpr ⟨List.mem_append_right _ (List.mem_of_getElem? (i := 1279) (by decide +kernel)), by decide +kernel⟩
theorem msel_X12_chainOf : Cond.selects RX12 yX12_chainOf yX12_chainOf ∈ lw_good := List.mem_filter.mpr ⟨List.mem_append_left _ (List.mem_of_getElem? (i := 60) (by decide +kernel)), by decide +kernel⟩
theorem cv_X12_240 : cvOK RX12 240 12 1 Y_X12_chainOf := ⟨RX12, TX12, 32, rfl, rfl, ⟨mg1277, mg1279, msel_X12_chainOf, mg13, mg1280⟩, ⟨by decide +kernel, by decide +kernel⟩, by decide +kernel, by decide, rfl, rfl⟩
theorem mg1289 : Cond.methodLink RX12 243 Y_X12_goes.y ∈ lw_good := List.mem_filter.mpr ⟨List.mem_append_right _ (List.mem_of_getElem? (i := 1289) (by decide +kernel)), by decide +kernel⟩
theorem mg1292 : Cond.code Y_X12_goes.y Y_X12_goes.cc Y_X12_goes.nL Y_X12_goes.rt ∈ lw_good := List.mem_filter.mpr ⟨List.mem_append_right _ (List.mem_of_getElem? (i := 1292) (by decide +kernel)), by decide +kernel⟩
theorem mg1291 : Cond.instanceMethod Y_X12_goes.y ∈ lw_good := List.mem_filter.mpr ⟨List.mem_append_right _ (List.mem_of_getElem? (i := 1291) (by decide +kernel)), by decide +kernel⟩
theorem msel_X12_goes : Cond.selects RX12 yX12_goes yX12_goes ∈ lw_good := List.mem_filter.mpr ⟨List.mem_append_left _ (List.mem_of_getElem? (i := 61) (by decide +kernel)), by decide +kernel⟩
theorem cv_X12_243 : cvOK RX12 243 12 2 Y_X12_goes := ⟨RX12, TX12, 32, rfl, rfl, ⟨mg1289, mg1291, msel_X12_goes, mg13, mg1292⟩, ⟨by decide +kernel, by decide +kernel⟩, by decide +kernel, by decide, rfl, rfl⟩
theorem mg1301 : Cond.methodLink RX12 256 Y_X12_fits.y ∈ lw_good := List.mem_filter.mpr ⟨List.mem_append_right _ (List.mem_of_getElem? (i := 1301) (by decide +kernel)), by decide +kernel⟩
theorem mg1304 : Cond.code Y_X12_fits.y Y_X12_fits.cc Y_X12_fits.nL Y_X12_fits.rt ∈ lw_good := List.mem_filter.mpr ⟨List.mem_append_right _ (List.mem_of_getElem? (i := 1304) (by decide +kernel)), by decide +kernel⟩
theorem mg1303 : Cond.instanceMethod Y_X12_fits.y ∈ lw_good := List.mem_filter.mpr ⟨List.mem_append_right _ (List.mem_of_getElem? (i := 1303) (by decide +kernel)), by decide +kernel⟩
theorem msel_X12_fits : Cond.selects RX12 yX12_fits yX12_fits ∈ lw_good := List.mem_filter.mpr ⟨List.mem_append_left _ (List.mem_of_getElem? (i := 62) (by decide +kernel)), by decide +kernel⟩
theorem cv_X12_256 : cvOK RX12 256 12 5 Y_X12_fits := ⟨RX12, TX12, 32, rfl, rfl, ⟨mg1301, mg1303, msel_X12_fits, mg13, mg1304⟩, ⟨by decide +kernel, by decide +kernel⟩, by decide +kernel, by decide, rfl, rfl⟩
theorem mg1325 : Cond.methodLink RX12 260 Y_X12_drawsAll.y ∈ lw_good := List.mem_filter.mpr ⟨List.mem_append_right _ (List.mem_of_getElem? (i := 1325) (by decide +kernel)), by decide +kernel⟩
theorem mg1328 : Cond.code Y_X12_drawsAll.y Y_X12_drawsAll.cc Y_X12_drawsAll.nL Y_X12_drawsAll.rt ∈ lw_good := List.mem_filter.mpr ⟨List.mem_append_right _ (List.mem_of_getElem? (i := 1328) (by decide +kernel)), by decide +kernel⟩
theorem mg1327 : Cond.instanceMethod Y_X12_drawsAll.y ∈ lw_good := List.mem_filter.mpr ⟨List.mem_append_right _ (List.mem_of_getElem? (i := 1327) (by decide +kernel)), by decide +kernel⟩
theorem msel_X12_drawsAll : Cond.selects RX12 yX12_drawsAll yX12_drawsAll ∈ lw_good := List.mem_filter.mpr ⟨List.mem_append_left _ (List.mem_of_getElem? (i := 65) (by decide +kernel)), by decide +kernel⟩
theorem cv_X12_260 : cvOK RX12 260 12 2 Y_X12_drawsAll := ⟨RX12, TX12, 32, rfl, rfl, ⟨mg1325, mg1327, msel_X12_drawsAll, mg13, mg1328⟩, ⟨by decide +kernel, by decide +kernel⟩, by decide +kernel, by decide, rfl, rfl⟩
theorem mg1317 : Cond.methodLink RX12 263 Y_X12_seen.y ∈ lw_good := List.mem_filter.mpr ⟨List.mem_append_right _ (List.mem_of_getElem? (i := 1317) (by decide +kernel)), by decide +kernel⟩
theorem mg1320 : Cond.code Y_X12_seen.y Y_X12_seen.cc Y_X12_seen.nL Y_X12_seen.rt ∈ lw_good := List.mem_filter.mpr ⟨List.mem_append_right _ (List.mem_of_getElem? (i := 1320) (by decide +kernel)), by decide +kernel⟩
theorem mg1319 : Cond.instanceMethod Y_X12_seen.y ∈ lw_good := List.mem_filter.mpr ⟨List.mem_append_right _ (List.mem_of_getElem? (i := 1319) (by decide +kernel)), by decide +kernel⟩
theorem msel_X12_seen : Cond.selects RX12 yX12_seen yX12_seen ∈ lw_good := List.mem_filter.mpr ⟨List.mem_append_left _ (List.mem_of_getElem? (i := 63) (by decide +kernel)), by decide +kernel⟩
theorem cv_X12_263 : cvOK RX12 263 12 0 Y_X12_seen := ⟨RX12, TX12, 32, rfl, rfl, ⟨mg1317, mg1319, msel_X12_seen, mg13, mg1320⟩, ⟨by decide +kernel, by decide +kernel⟩, by decide +kernel, by decide, rfl, rfl⟩
theorem mg1321 : Cond.methodLink RX12 266 Y_X12_findBend.y ∈ lw_good := List.mem_filter.mpr ⟨List.mem_append_right _ (List.mem_of_getElem? (i := 1321) (by decide +kernel)), by decide +kernel⟩
theorem mg1324 : Cond.code Y_X12_findBend.y Y_X12_findBend.cc Y_X12_findBend.nL Y_X12_findBend.rt ∈ lw_good := List.mem_filter.mpr ⟨List.mem_append_right _ (List.mem_of_getElem? (i := 1324) (by decide +kernel)), by decide +kernel⟩
theorem mg1323 : Cond.instanceMethod Y_X12_findBend.y ∈ lw_good := List.mem_filter.mpr ⟨List.mem_append_right _ (List.mem_of_getElem? (i := 1323) (by decide +kernel)), by decide +kernel⟩
theorem msel_X12_findBend : Cond.selects RX12 yX12_findBend yX12_findBend ∈ lw_good := List.mem_filter.mpr ⟨List.mem_append_left _ (List.mem_of_getElem? (i := 64) (by decide +kernel)), by decide +kernel⟩
theorem cv_X12_266 : cvOK RX12 266 12 1 Y_X12_findBend := ⟨RX12, TX12, 32, rfl, rfl, ⟨mg1321, mg1323, msel_X12_findBend, mg13, mg1324⟩, ⟨by decide +kernel, by decide +kernel⟩, by decide +kernel, by decide, rfl, rfl⟩
theorem mg1337 : Cond.methodLink RX12 275 Y_X12_findShakes.y ∈ lw_good := List.mem_filter.mpr ⟨List.mem_append_right _ (List.mem_of_getElem? (i := 1337) (by decide +kernel)), by decide +kernel⟩
theorem mg1340 : Cond.code Y_X12_findShakes.y Y_X12_findShakes.cc Y_X12_findShakes.nL Y_X12_findShakes.rt ∈ lw_good := List.mem_filter.mpr ⟨List.mem_append_right _ (List.mem_of_getElem? (i := 1340) (by decide +kernel)), by decide +kernel⟩
theorem mg1339 : Cond.instanceMethod Y_X12_findShakes.y ∈ lw_good := List.mem_filter.mpr ⟨List.mem_append_right _ (List.mem_of_getElem? (i := 1339) (by decide +kernel)), by decide +kernel⟩
theorem msel_X12_findShakes : Cond.selects RX12 yX12_findShakes yX12_findShakes ∈ lw_good := List.mem_filter.mpr ⟨List.mem_append_left _ (List.mem_of_getElem? (i := 66) (by decide +kernel)), by decide +kernel⟩
theorem cv_X12_275 : cvOK RX12 275 12 1 Y_X12_findShakes := ⟨RX12, TX12, 32, rfl, rfl, ⟨mg1337, mg1339, msel_X12_findShakes, mg13, mg1340⟩, ⟨by decide +kernel, by decide +kernel⟩, by decide +kernel, by decide, rfl, rfl⟩
theorem mg1350 : Cond.methodLink RX12 287 Y_X12_isChained.y ∈ lw_good := List.mem_filter.mpr ⟨List.mem_append_right _ (List.mem_of_getElem? (i := 1350) (by decide +kernel)), by decide +kernel⟩
theorem mg1353 : Cond.code Y_X12_isChained.y Y_X12_isChained.cc Y_X12_isChained.nL Y_X12_isChained.rt ∈ lw_good := List.mem_filter.mpr ⟨List.mem_append_right _ (List.mem_of_getElem? (i := 1353) (by decide +kernel)), by decide +kernel⟩
theorem mg1352 : Cond.instanceMethod Y_X12_isChained.y ∈ lw_good := List.mem_filter.mpr ⟨List.mem_append_right _ (List.mem_of_getElem? (i := 1352) (by decide +kernel)), by decide +kernel⟩
theorem msel_X12_isChained : Cond.selects RX12 yX12_isChained yX12_isChained ∈ lw_good := List.mem_filter.mpr ⟨List.mem_append_left _ (List.mem_of_getElem? (i := 68) (by decide +kernel)), by decide +kernel⟩
theorem cv_X12_287 : cvOK RX12 287 12 1 Y_X12_isChained := ⟨RX12, TX12, 32, rfl, rfl, ⟨mg1350, mg1352, msel_X12_isChained, mg13, mg1353⟩, ⟨by decide +kernel, by decide +kernel⟩, by decide +kernel, by decide, rfl, rfl⟩
theorem mg1346 : Cond.methodLink RX12 290 Y_X12_triesOrder.y ∈ lw_good := List.mem_filter.mpr ⟨List.mem_append_right _ (List.mem_of_getElem? (i := 1346) (by decide +kernel)), by decide +kernel⟩
theorem mg1349 : Cond.code Y_X12_triesOrder.y Y_X12_triesOrder.cc Y_X12_triesOrder.nL Y_X12_triesOrder.rt ∈ lw_good := List.mem_filter.mpr ⟨List.mem_append_right _ (List.mem_of_getElem? (i := 1349) (by decide +kernel)), by decide +kernel⟩
theorem mg1348 : Cond.instanceMethod Y_X12_triesOrder.y ∈ lw_good := List.mem_filter.mpr ⟨List.mem_append_right _ (List.mem_of_getElem? (i := 1348) (by decide +kernel)), by decide +kernel⟩
theorem msel_X12_triesOrder : Cond.selects RX12 yX12_triesOrder yX12_triesOrder ∈ lw_good := List.mem_filter.mpr ⟨List.mem_append_left _ (List.mem_of_getElem? (i := 67) (by decide +kernel)), by decide +kernel⟩
theorem cv_X12_290 : cvOK RX12 290 12 2 Y_X12_triesOrder := ⟨RX12, TX12, 32, rfl, rfl, ⟨mg1346, mg1348, msel_X12_triesOrder, mg13, mg1349⟩, ⟨by decide +kernel, by decide +kernel⟩, by decide +kernel, by decide, rfl, rfl⟩
theorem mg1358 : Cond.methodLink RX12 293 Y_X12_reached.y ∈ lw_good := List.mem_filter.mpr ⟨List.mem_append_right _ (List.mem_of_getElem? (i := 1358) (by decide +kernel)), by decide +kernel⟩
theorem mg1361 : Cond.code Y_X12_reached.y Y_X12_reached.cc Y_X12_reached.nL Y_X12_reached.rt ∈ lw_good := List.mem_filter.mpr ⟨List.mem_append_right _ (List.mem_of_getElem? (i := 1361) (by decide +kernel)), by decide +kernel⟩
theorem mg1360 : Cond.instanceMethod Y_X12_reached.y ∈ lw_good := List.mem_filter.mpr ⟨List.mem_append_right _ (List.mem_of_getElem? (i := 1360) (by decide +kernel)), by decide +kernel⟩
theorem msel_X12_reached : Cond.selects RX12 yX12_reached yX12_reached ∈ lw_good := List.mem_filter.mpr ⟨List.mem_append_left _ (List.mem_of_getElem? (i := 69) (by decide +kernel)), by decide +kernel⟩
theorem cv_X12_293 : cvOK RX12 293 12 4 Y_X12_reached := ⟨RX12, TX12, 32, rfl, rfl, ⟨mg1358, mg1360, msel_X12_reached, mg13, mg1361⟩, ⟨by decide +kernel, by decide +kernel⟩, by decide +kernel, by decide, rfl, rfl⟩
theorem mg1371 : Cond.methodLink RX12 304 Y_X12_descends.y ∈ lw_good := List.mem_filter.mpr ⟨List.mem_append_right _ (List.mem_of_getElem? (i := 1371) (by decide +kernel)), by decide +kernel⟩
theorem mg1374 : Cond.code Y_X12_descends.y Y_X12_descends.cc Y_X12_descends.nL Y_X12_descends.rt ∈ lw_good := List.mem_filter.mpr ⟨List.mem_append_right _ (List.mem_of_getElem? (i := 1374) (by decide +kernel)), by decide +kernel⟩
theorem mg1373 : Cond.instanceMethod Y_X12_descends.y ∈ lw_good := List.mem_filter.mpr ⟨List.mem_append_right _ (List.mem_of_getElem? (i := 1373) (by decide +kernel)), by decide +kernel⟩
theorem msel_X12_descends : Cond.selects RX12 yX12_descends yX12_descends ∈ lw_good := List.mem_filter.mpr ⟨List.mem_append_left _ (List.mem_of_getElem? (i := 71) (by decide +kernel)), by decide +kernel⟩
theorem cv_X12_304 : cvOK RX12 304 12 1 Y_X12_descends := ⟨RX12, TX12, 32, rfl, rfl, ⟨mg1371, mg1373, msel_X12_descends, mg13, mg1374⟩, ⟨by decide +kernel, by decide +kernel⟩, by decide +kernel, by decide, rfl, rfl⟩
theorem mg1375 : Cond.methodLink RX12 310 Y_X12_canCopy.y ∈ lw_good := List.mem_filter.mpr ⟨List.mem_append_right _ (List.mem_of_getElem? (i := 1375) (by decide +kernel)), by decide +kernel⟩
theorem mg1378 : Cond.code Y_X12_canCopy.y Y_X12_canCopy.cc Y_X12_canCopy.nL Y_X12_canCopy.rt ∈ lw_good := List.mem_filter.mpr ⟨List.mem_append_right _ (List.mem_of_getElem? (i := 1378) (by decide +kernel)), by decide +kernel⟩
theorem mg1377 : Cond.instanceMethod Y_X12_canCopy.y ∈ lw_good := List.mem_filter.mpr ⟨List.mem_append_right _ (List.mem_of_getElem? (i := 1377) (by decide +kernel)), by decide +kernel⟩
theorem msel_X12_canCopy : Cond.selects RX12 yX12_canCopy yX12_canCopy ∈ lw_good := List.mem_filter.mpr ⟨List.mem_append_left _ (List.mem_of_getElem? (i := 72) (by decide +kernel)), by decide +kernel⟩
theorem cv_X12_310 : cvOK RX12 310 12 2 Y_X12_canCopy := ⟨RX12, TX12, 32, rfl, rfl, ⟨mg1375, mg1377, msel_X12_canCopy, mg13, mg1378⟩, ⟨by decide +kernel, by decide +kernel⟩, by decide +kernel, by decide, rfl, rfl⟩
theorem mg1379 : Cond.methodLink RX12 313 Y_X12_unlike.y ∈ lw_good := List.mem_filter.mpr ⟨List.mem_append_right _ (List.mem_of_getElem? (i := 1379) (by decide +kernel)), by decide +kernel⟩
theorem mg1382 : Cond.code Y_X12_unlike.y Y_X12_unlike.cc Y_X12_unlike.nL Y_X12_unlike.rt ∈ lw_good := List.mem_filter.mpr ⟨List.mem_append_right _ (List.mem_of_getElem? (i := 1382) (by decide +kernel)), by decide +kernel⟩
theorem mg1381 : Cond.instanceMethod Y_X12_unlike.y ∈ lw_good := List.mem_filter.mpr ⟨List.mem_append_right _ (List.mem_of_getElem? (i := 1381) (by decide +kernel)), by decide +kernel⟩
theorem msel_X12_unlike : Cond.selects RX12 yX12_unlike yX12_unlike ∈ lw_good := List.mem_filter.mpr ⟨List.mem_append_left _ (List.mem_of_getElem? (i := 73) (by decide +kernel)), by decide +kernel⟩
theorem cv_X12_313 : cvOK RX12 313 12 2 Y_X12_unlike := ⟨RX12, TX12, 32, rfl, rfl, ⟨mg1379, mg1381, msel_X12_unlike, mg13, mg1382⟩, ⟨by decide +kernel, by decide +kernel⟩, by decide +kernel, by decide, rfl, rfl⟩
theorem mg1367 : Cond.methodLink RX12 316 Y_X12_triesFrom.y ∈ lw_good := List.mem_filter.mpr ⟨List.mem_append_right _ (List.mem_of_getElem? (i := 1367) (by decide +kernel)), by decide +kernel⟩
theorem mg1370 : Cond.code Y_X12_triesFrom.y Y_X12_triesFrom.cc Y_X12_triesFrom.nL Y_X12_triesFrom.rt ∈ lw_good := List.mem_filter.mpr ⟨List.mem_append_right _ (List.mem_of_getElem? (i := 1370) (by decide +kernel)), by decide +kernel⟩
theorem mg1369 : Cond.instanceMethod Y_X12_triesFrom.y ∈ lw_good := List.mem_filter.mpr ⟨List.mem_append_right _ (List.mem_of_getElem? (i := 1369) (by decide +kernel)), by decide +kernel⟩
theorem msel_X12_triesFrom : Cond.selects RX12 yX12_triesFrom yX12_triesFrom ∈ lw_good := List.mem_filter.mpr ⟨List.mem_append_left _ (List.mem_of_getElem? (i := 70) (by decide +kernel)), by decide +kernel⟩
theorem cv_X12_316 : cvOK RX12 316 12 2 Y_X12_triesFrom := ⟨RX12, TX12, 32, rfl, rfl, ⟨mg1367, mg1369, msel_X12_triesFrom, mg13, mg1370⟩, ⟨by decide +kernel, by decide +kernel⟩, by decide +kernel, by decide, rfl, rfl⟩
theorem mg974 : Cond.methodLink RX12 7 Y_X12_lay.y ∈ lw_good := List.mem_filter.mpr ⟨List.mem_append_right _ (List.mem_of_getElem? (i := 974) (by decide +kernel)), by decide +kernel⟩
theorem mg978 : Cond.code Y_X12_lay.y Y_X12_lay.cc Y_X12_lay.nL Y_X12_lay.rt ∈ lw_good := List.mem_filter.mpr ⟨List.mem_append_right _ (List.mem_of_getElem? (i := 978) (by decide +kernel)), by decide +kernel⟩
theorem mg976 : Cond.instanceMethod Y_X12_lay.y ∈ lw_good := List.mem_filter.mpr ⟨List.mem_append_right _ (List.mem_of_getElem? (i := 976) (by decide +kernel)), by decide +kernel⟩
theorem msel_X12_lay : Cond.selects RX12 yX12_lay yX12_lay ∈ lw_good := List.mem_filter.mpr ⟨List.mem_append_left _ (List.mem_of_getElem? (i := 32) (by decide +kernel)), by decide +kernel⟩
theorem cv_X12_7 : cvOK RX12 7 12 1 Y_X12_lay := ⟨RX12, TX12, 32, rfl, rfl, ⟨mg974, mg976, msel_X12_lay, mg13, mg978⟩, ⟨by decide +kernel, by decide +kernel⟩, by decide +kernel, by decide, rfl, rfl⟩
theorem mg812 : Cond.methodLink RX3 29 Y_X3_fewestOf.y ∈ lw_good := List.mem_filter.mpr ⟨List.mem_append_right _ (List.mem_of_getElem? (i := 812) (by decide +kernel)), by decide +kernel⟩
theorem mg815 : Cond.code Y_X3_fewestOf.y Y_X3_fewestOf.cc Y_X3_fewestOf.nL Y_X3_fewestOf.rt ∈ lw_good := List.mem_filter.mpr ⟨List.mem_append_right _ (List.mem_of_getElem? (i := 815) (by decide +kernel)), by decide +kernel⟩
theorem mg814 : Cond.instanceMethod Y_X3_fewestOf.y ∈ lw_good := List.mem_filter.mpr ⟨List.mem_append_right _ (List.mem_of_getElem? (i := 814) (by decide +kernel)), by decide +kernel⟩
theorem msel_X3_fewestOf : Cond.selects RX3 yX3_fewestOf yX3_fewestOf ∈ lw_good := List.mem_filter.mpr ⟨List.mem_append_left _ (List.mem_of_getElem? (i := 28) (by decide +kernel)), by decide +kernel⟩
theorem cv_X3_29 : cvOK RX3 29 3 1 Y_X3_fewestOf := ⟨RX3, TX3, 2, rfl, rfl, ⟨mg812, mg814, msel_X3_fewestOf, mg11, mg815⟩, ⟨by decide +kernel, by decide +kernel⟩, by decide +kernel, by decide, rfl, rfl⟩
theorem mg715 : Cond.methodLink RX4 34 Y_X4_add.y ∈ lw_good := List.mem_filter.mpr ⟨List.mem_append_right _ (List.mem_of_getElem? (i := 715) (by decide +kernel)), by decide +kernel⟩
theorem mg718 : Cond.code Y_X4_add.y Y_X4_add.cc Y_X4_add.nL Y_X4_add.rt ∈ lw_good := List.mem_filter.mpr ⟨List.mem_append_right _ (List.mem_of_getElem? (i := 718) (by decide +kernel)), by decide +kernel⟩
theorem mg717 : Cond.instanceMethod Y_X4_add.y ∈ lw_good := List.mem_filter.mpr ⟨List.mem_append_right _ (List.mem_of_getElem? (i := 717) (by decide +kernel)), by decide +kernel⟩
theorem msel_X4_add : Cond.selects RX4 yX4_add yX4_add ∈ lw_good := List.mem_filter.mpr ⟨List.mem_append_left _ (List.mem_of_getElem? (i := 22) (by decide +kernel)), by decide +kernel⟩
theorem cv_X4_34 : cvOK RX4 34 4 2 Y_X4_add := ⟨RX4, TX4, 3, rfl, rfl, ⟨mg715, mg717, msel_X4_add, mg10, mg718⟩, ⟨by decide +kernel, by decide +kernel⟩, by decide +kernel, by decide, rfl, rfl⟩
theorem mg714 : Cond.methodLink RX4 55 Y_X1_hasHoleOf.y ∈ lw_good := List.mem_filter.mpr ⟨List.mem_append_right _ (List.mem_of_getElem? (i := 714) (by decide +kernel)), by decide +kernel⟩
theorem cv_X4_55 : cvOK RX4 55 1 1 Y_X1_hasHoleOf := ⟨RX1, TX1, 10, rfl, rfl, ⟨mg714, mg558, mg559, mg4, mg560⟩, ⟨by decide +kernel, by decide +kernel⟩, by decide +kernel, by decide, rfl, rfl⟩
theorem mg607 : Cond.methodLink RX5 29 Y_X5_hasArm.y ∈ lw_good := List.mem_filter.mpr ⟨List.mem_append_right _ (List.mem_of_getElem? (i := 607) (by decide +kernel)), by decide +kernel⟩
theorem cv_X5_29 : cvOK RX5 29 5 1 Y_X5_hasArm := ⟨RX5, TX5, 4, rfl, rfl, ⟨mg607, mg596, mg597, mg3, mg598⟩, ⟨by decide +kernel, by decide +kernel⟩, by decide +kernel, by decide, rfl, rfl⟩
theorem mg773 : Cond.methodLink RX6 32 Y_X6_lay.y ∈ lw_good := List.mem_filter.mpr ⟨List.mem_append_right _ (List.mem_of_getElem? (i := 773) (by decide +kernel)), by decide +kernel⟩
theorem mg776 : Cond.code Y_X6_lay.y Y_X6_lay.cc Y_X6_lay.nL Y_X6_lay.rt ∈ lw_good := List.mem_filter.mpr ⟨List.mem_append_right _ (List.mem_of_getElem? (i := 776) (by decide +kernel)), by decide +kernel⟩
theorem mg775 : Cond.instanceMethod Y_X6_lay.y ∈ lw_good := List.mem_filter.mpr ⟨List.mem_append_right _ (List.mem_of_getElem? (i := 775) (by decide +kernel)), by decide +kernel⟩
theorem msel_X6_lay : Cond.selects RX6 yX6_lay yX6_lay ∈ lw_good := List.mem_filter.mpr ⟨List.mem_append_left _ (List.mem_of_getElem? (i := 25) (by decide +kernel)), by decide +kernel⟩
theorem cv_X6_32 : cvOK RX6 32 6 3 Y_X6_lay := ⟨RX6, TX6, 5, rfl, rfl, ⟨mg773, mg775, msel_X6_lay, mg9, mg776⟩, ⟨by decide +kernel, by decide +kernel⟩, by decide +kernel, by decide, rfl, rfl⟩
theorem mg777 : Cond.methodLink RX6 42 Y_X6_compare.y ∈ lw_good := List.mem_filter.mpr ⟨List.mem_append_right _ (List.mem_of_getElem? (i := 777) (by decide +kernel)), by decide +kernel⟩
theorem mg780 : Cond.code Y_X6_compare.y Y_X6_compare.cc Y_X6_compare.nL Y_X6_compare.rt ∈ lw_good := List.mem_filter.mpr ⟨List.mem_append_right _ (List.mem_of_getElem? (i := 780) (by decide +kernel)), by decide +kernel⟩
theorem mg779 : Cond.instanceMethod Y_X6_compare.y ∈ lw_good := List.mem_filter.mpr ⟨List.mem_append_right _ (List.mem_of_getElem? (i := 779) (by decide +kernel)), by decide +kernel⟩
theorem msel_X6_compare : Cond.selects RX6 yX6_compare yX6_compare ∈ lw_good := List.mem_filter.mpr ⟨List.mem_append_left _ (List.mem_of_getElem? (i := 26) (by decide +kernel)), by decide +kernel⟩
theorem cv_X6_42 : cvOK RX6 42 6 2 Y_X6_compare := ⟨RX6, TX6, 5, rfl, rfl, ⟨mg777, mg779, msel_X6_compare, mg9, mg780⟩, ⟨by decide +kernel, by decide +kernel⟩, by decide +kernel, by decide, rfl, rfl⟩
theorem mg790 : Cond.methodLink RX6 51 Y_X7_hasChained.y ∈ lw_good := List.mem_filter.mpr ⟨List.mem_append_right _ (List.mem_of_getElem? (i := 790) (by decide +kernel)), by decide +kernel⟩
theorem cv_X6_51 : cvOK RX6 51 7 1 Y_X7_hasChained := ⟨RX7, TX7, 11, rfl, rfl, ⟨mg790, mg653, mg654, mg6, mg655⟩, ⟨by decide +kernel, by decide +kernel⟩, by decide +kernel, by decide, rfl, rfl⟩
theorem mg791 : Cond.methodLink RX6 55 Y_X6_isLaid.y ∈ lw_good := List.mem_filter.mpr ⟨List.mem_append_right _ (List.mem_of_getElem? (i := 791) (by decide +kernel)), by decide +kernel⟩
theorem mg794 : Cond.code Y_X6_isLaid.y Y_X6_isLaid.cc Y_X6_isLaid.nL Y_X6_isLaid.rt ∈ lw_good := List.mem_filter.mpr ⟨List.mem_append_right _ (List.mem_of_getElem? (i := 794) (by decide +kernel)), by decide +kernel⟩
theorem mg793 : Cond.instanceMethod Y_X6_isLaid.y ∈ lw_good := List.mem_filter.mpr ⟨List.mem_append_right _ (List.mem_of_getElem? (i := 793) (by decide +kernel)), by decide +kernel⟩
theorem msel_X6_isLaid : Cond.selects RX6 yX6_isLaid yX6_isLaid ∈ lw_good := List.mem_filter.mpr ⟨List.mem_append_left _ (List.mem_of_getElem? (i := 27) (by decide +kernel)), by decide +kernel⟩
theorem cv_X6_55 : cvOK RX6 55 6 2 Y_X6_isLaid := ⟨RX6, TX6, 5, rfl, rfl, ⟨mg791, mg793, msel_X6_isLaid, mg9, mg794⟩, ⟨by decide +kernel, by decide +kernel⟩, by decide +kernel, by decide, rfl, rfl⟩
theorem mg781 : Cond.methodLink RX6 59 Y_X8_sum.y ∈ lw_good := List.mem_filter.mpr ⟨List.mem_append_right _ (List.mem_of_getElem? (i := 781) (by decide +kernel)), by decide +kernel⟩
theorem cv_X6_59 : cvOK RX6 59 8 3 Y_X8_sum := ⟨RX8, TX8, 2, rfl, rfl, ⟨mg781, mg753, mg754, mg8, mg755⟩, ⟨by decide +kernel, by decide +kernel⟩, by decide +kernel, by decide, rfl, rfl⟩
theorem mg782 : Cond.methodLink RX6 63 Y_X8_isLessThan.y ∈ lw_good := List.mem_filter.mpr ⟨List.mem_append_right _ (List.mem_of_getElem? (i := 782) (by decide +kernel)), by decide +kernel⟩
theorem mg785 : Cond.code Y_X8_isLessThan.y Y_X8_isLessThan.cc Y_X8_isLessThan.nL Y_X8_isLessThan.rt ∈ lw_good := List.mem_filter.mpr ⟨List.mem_append_right _ (List.mem_of_getElem? (i := 785) (by decide +kernel)), by decide +kernel⟩
theorem mg783 : Cond.instanceMethod Y_X8_isLessThan.y ∈ lw_good := List.mem_filter.mpr ⟨List.mem_append_right _ (List.mem_of_getElem? (i := 783) (by decide +kernel)), by decide +kernel⟩
theorem mg784 : Cond.selects RX8 yX8_isLessThan yX8_isLessThan ∈ lw_good := List.mem_filter.mpr ⟨List.mem_append_right _ (List.mem_of_getElem? (i := 784) (by decide +kernel)), by decide +kernel⟩
theorem cv_X6_63 : cvOK RX6 63 8 1 Y_X8_isLessThan := ⟨RX8, TX8, 2, rfl, rfl, ⟨mg782, mg783, mg784, mg8, mg785⟩, ⟨by decide +kernel, by decide +kernel⟩, by decide +kernel, by decide, rfl, rfl⟩
theorem mg786 : Cond.methodLink RX6 67 Y_X8_copyFrom.y ∈ lw_good := List.mem_filter.mpr ⟨List.mem_append_right _ (List.mem_of_getElem? (i := 786) (by decide +kernel)), by decide +kernel⟩
theorem mg789 : Cond.code Y_X8_copyFrom.y Y_X8_copyFrom.cc Y_X8_copyFrom.nL Y_X8_copyFrom.rt ∈ lw_good := List.mem_filter.mpr ⟨List.mem_append_right _ (List.mem_of_getElem? (i := 789) (by decide +kernel)), by decide +kernel⟩
theorem mg787 : Cond.instanceMethod Y_X8_copyFrom.y ∈ lw_good := List.mem_filter.mpr ⟨List.mem_append_right _ (List.mem_of_getElem? (i := 787) (by decide +kernel)), by decide +kernel⟩
theorem mg788 : Cond.selects RX8 yX8_copyFrom yX8_copyFrom ∈ lw_good := List.mem_filter.mpr ⟨List.mem_append_right _ (List.mem_of_getElem? (i := 788) (by decide +kernel)), by decide +kernel⟩
theorem cv_X6_67 : cvOK RX6 67 8 1 Y_X8_copyFrom := ⟨RX8, TX8, 2, rfl, rfl, ⟨mg786, mg787, mg788, mg8, mg789⟩, ⟨by decide +kernel, by decide +kernel⟩, by decide +kernel, by decide, rfl, rfl⟩
theorem mg756 : Cond.methodLink RX8 28 Y_X1_shakeOfHand.y ∈ lw_good := List.mem_filter.mpr ⟨List.mem_append_right _ (List.mem_of_getElem? (i := 756) (by decide +kernel)), by decide +kernel⟩
theorem mg759 : Cond.code Y_X1_shakeOfHand.y Y_X1_shakeOfHand.cc Y_X1_shakeOfHand.nL Y_X1_shakeOfHand.rt ∈ lw_good := List.mem_filter.mpr ⟨List.mem_append_right _ (List.mem_of_getElem? (i := 759) (by decide +kernel)), by decide +kernel⟩
theorem mg757 : Cond.instanceMethod Y_X1_shakeOfHand.y ∈ lw_good := List.mem_filter.mpr ⟨List.mem_append_right _ (List.mem_of_getElem? (i := 757) (by decide +kernel)), by decide +kernel⟩
theorem mg758 : Cond.selects RX1 yX1_shakeOfHand yX1_shakeOfHand ∈ lw_good := List.mem_filter.mpr ⟨List.mem_append_right _ (List.mem_of_getElem? (i := 758) (by decide +kernel)), by decide +kernel⟩
theorem cv_X8_28 : cvOK RX8 28 1 0 Y_X1_shakeOfHand := ⟨RX1, TX1, 10, rfl, rfl, ⟨mg756, mg757, mg758, mg4, mg759⟩, ⟨by decide +kernel, by decide +kernel⟩, by decide +kernel, by decide, rfl, rfl⟩
theorem mg361 : Cond.fieldLink RX0 11 (TX0 0).1 (TX0 0).2.1 (TX0 0).2.2.1 ∈ lw_good := List.mem_filter.mpr ⟨List.mem_append_right _ (List.mem_of_getElem? (i := 361) (by decide +kernel)), by decide +kernel⟩
theorem f_X0_11 : fOK RX0 11 0 0 := ⟨RX0, TX0, 3, rfl, rfl, by decide, mg361, inG0, tyX0_ok, nmX0, rfl⟩
theorem mg362 : Cond.fieldLink RX0 16 (TX0 1).1 (TX0 1).2.1 (TX0 1).2.2.1 ∈ lw_good := List.mem_filter.mpr ⟨List.mem_append_right _ (List.mem_of_getElem? (i := 362) (by decide +kernel)), by decide +kernel⟩
theorem f_X0_16 : fOK RX0 16 0 1 := ⟨RX0, TX0, 3, rfl, rfl, by decide, mg362, inG0, tyX0_ok, nmX0, rfl⟩
theorem mg189 : Cond.fieldLink RX0 20 (TX5 3).1 (TX5 3).2.1 (TX5 3).2.2.1 ∈ lw_good := List.mem_filter.mpr ⟨List.mem_append_right _ (List.mem_of_getElem? (i := 189) (by decide +kernel)), by decide +kernel⟩
theorem f_X0_20 : fOK RX0 20 5 3 := ⟨RX5, TX5, 4, rfl, rfl, by decide, mg189, inG5, tyX5_ok, nmX5, rfl⟩
theorem mg363 : Cond.fieldLink RX0 34 (TX0 2).1 (TX0 2).2.1 (TX0 2).2.2.1 ∈ lw_good := List.mem_filter.mpr ⟨List.mem_append_right _ (List.mem_of_getElem? (i := 363) (by decide +kernel)), by decide +kernel⟩
theorem f_X0_34 : fOK RX0 34 0 2 := ⟨RX0, TX0, 3, rfl, rfl, by decide, mg363, inG0, tyX0_ok, nmX0, rfl⟩
theorem mg181 : Cond.fieldLink RX0 52 (TX5 1).1 (TX5 1).2.1 (TX5 1).2.2.1 ∈ lw_good := List.mem_filter.mpr ⟨List.mem_append_right _ (List.mem_of_getElem? (i := 181) (by decide +kernel)), by decide +kernel⟩
theorem f_X0_52 : fOK RX0 52 5 1 := ⟨RX5, TX5, 4, rfl, rfl, by decide, mg181, inG5, tyX5_ok, nmX5, rfl⟩
theorem mg187 : Cond.fieldLink RX0 56 (TX5 2).1 (TX5 2).2.1 (TX5 2).2.2.1 ∈ lw_good := List.mem_filter.mpr ⟨List.mem_append_right _ (List.mem_of_getElem? (i := 187) (by decide +kernel)), by decide +kernel⟩
theorem f_X0_56 : fOK RX0 56 5 2 := ⟨RX5, TX5, 4, rfl, rfl, by decide, mg187, inG5, tyX5_ok, nmX5, rfl⟩
theorem mg138 : Cond.fieldLink RX0 59 (TX2 1).1 (TX2 1).2.1 (TX2 1).2.2.1 ∈ lw_good := List.mem_filter.mpr ⟨List.mem_append_right _ (List.mem_of_getElem? (i := 138) (by decide +kernel)), by decide +kernel⟩
theorem f_X0_59 : fOK RX0 59 2 1 := ⟨RX2, TX2, 7, rfl, rfl, by decide, mg138, inG2, tyX2_ok, nmX2, rfl⟩
theorem mg212 : Cond.fieldLink RX0 64 (TX7 0).1 (TX7 0).2.1 (TX7 0).2.2.1 ∈ lw_good := List.mem_filter.mpr ⟨List.mem_append_right _ (List.mem_of_getElem? (i := 212) (by decide +kernel)), by decide +kernel⟩
theorem f_X0_64 : fOK RX0 64 7 0 := ⟨RX7, TX7, 11, rfl, rfl, by decide, mg212, inG7, tyX7_ok, nmX7, rfl⟩
theorem mg141 : Cond.fieldLink RX0 69 (TX2 2).1 (TX2 2).2.1 (TX2 2).2.2.1 ∈ lw_good := List.mem_filter.mpr ⟨List.mem_append_right _ (List.mem_of_getElem? (i := 141) (by decide +kernel)), by decide +kernel⟩
theorem f_X0_69 : fOK RX0 69 2 2 := ⟨RX2, TX2, 7, rfl, rfl, by decide, mg141, inG2, tyX2_ok, nmX2, rfl⟩
theorem mg217 : Cond.fieldLink RX0 72 (TX7 1).1 (TX7 1).2.1 (TX7 1).2.2.1 ∈ lw_good := List.mem_filter.mpr ⟨List.mem_append_right _ (List.mem_of_getElem? (i := 217) (by decide +kernel)), by decide +kernel⟩
theorem f_X0_72 : fOK RX0 72 7 1 := ⟨RX7, TX7, 11, rfl, rfl, by decide, mg217, inG7, tyX7_ok, nmX7, rfl⟩
theorem mg144 : Cond.fieldLink RX0 75 (TX2 3).1 (TX2 3).2.1 (TX2 3).2.2.1 ∈ lw_good := List.mem_filter.mpr ⟨List.mem_append_right _ (List.mem_of_getElem? (i := 144) (by decide +kernel)), by decide +kernel⟩
theorem f_X0_75 : fOK RX0 75 2 3 := ⟨RX2, TX2, 7, rfl, rfl, by decide, mg144, inG2, tyX2_ok, nmX2, rfl⟩
theorem mg88 : Cond.fieldLink RX1 15 (TX1 3).1 (TX1 3).2.1 (TX1 3).2.2.1 ∈ lw_good := List.mem_filter.mpr ⟨List.mem_append_right _ (List.mem_of_getElem? (i := 88) (by decide +kernel)), by decide +kernel⟩
theorem f_X1_15 : fOK RX1 15 1 3 := ⟨RX1, TX1, 10, rfl, rfl, by decide, mg88, inG1, tyX1_ok, nmX1, rfl⟩
theorem mg79 : Cond.fieldLink RX1 19 (TX1 1).1 (TX1 1).2.1 (TX1 1).2.2.1 ∈ lw_good := List.mem_filter.mpr ⟨List.mem_append_right _ (List.mem_of_getElem? (i := 79) (by decide +kernel)), by decide +kernel⟩
theorem f_X1_19 : fOK RX1 19 1 1 := ⟨RX1, TX1, 10, rfl, rfl, by decide, mg79, inG1, tyX1_ok, nmX1, rfl⟩
theorem mg102 : Cond.fieldLink RX1 22 (TX1 8).1 (TX1 8).2.1 (TX1 8).2.2.1 ∈ lw_good := List.mem_filter.mpr ⟨List.mem_append_right _ (List.mem_of_getElem? (i := 102) (by decide +kernel)), by decide +kernel⟩
theorem f_X1_22 : fOK RX1 22 1 8 := ⟨RX1, TX1, 10, rfl, rfl, by decide, mg102, inG1, tyX1_ok, nmX1, rfl⟩
theorem mg83 : Cond.fieldLink RX1 9 (TX1 2).1 (TX1 2).2.1 (TX1 2).2.2.1 ∈ lw_good := List.mem_filter.mpr ⟨List.mem_append_right _ (List.mem_of_getElem? (i := 83) (by decide +kernel)), by decide +kernel⟩
theorem f_X1_9 : fOK RX1 9 1 2 := ⟨RX1, TX1, 10, rfl, rfl, by decide, mg83, inG1, tyX1_ok, nmX1, rfl⟩
theorem mg98 : Cond.fieldLink RX10 103 (TX1 6).1 (TX1 6).2.1 (TX1 6).2.2.1 ∈ lw_good := List.mem_filter.mpr ⟨List.mem_append_right _ (List.mem_of_getElem? (i := 98) (by decide +kernel)), by decide +kernel⟩
theorem f_X10_103 : fOK RX10 103 1 6 := ⟨RX1, TX1, 10, rfl, rfl, by decide, mg98, inG1, tyX1_ok, nmX1, rfl⟩
theorem mg100 : Cond.fieldLink RX10 108 (TX1 7).1 (TX1 7).2.1 (TX1 7).2.2.1 ∈ lw_good := List.mem_filter.mpr ⟨List.mem_append_right _ (List.mem_of_getElem? (i := 100) (by decide +kernel)), by decide +kernel⟩
theorem f_X10_108 : fOK RX10 108 1 7 := ⟨RX1, TX1, 10, rfl, rfl, by decide, mg100, inG1, tyX1_ok, nmX1, rfl⟩
theorem mg103 : Cond.fieldLink RX10 112 (TX1 8).1 (TX1 8).2.1 (TX1 8).2.2.1 ∈ lw_good := List.mem_filter.mpr ⟨List.mem_append_right _ (List.mem_of_getElem? (i := 103) (by decide +kernel)), by decide +kernel⟩
theorem f_X10_112 : fOK RX10 112 1 8 := ⟨RX1, TX1, 10, rfl, rfl, by decide, mg103, inG1, tyX1_ok, nmX1, rfl⟩
theorem mg106 : Cond.fieldLink RX10 116 (TX1 9).1 (TX1 9).2.1 (TX1 9).2.2.1 ∈ lw_good := List.mem_filter.mpr ⟨List.mem_append_right _ (List.mem_of_getElem? (i := 106) (by decide +kernel)), by decide +kernel⟩
theorem f_X10_116 : fOK RX10 116 1 9 := ⟨RX1, TX1, 10, rfl, rfl, by decide, mg106, inG1, tyX1_ok, nmX1, rfl⟩
theorem mg179 : Cond.fieldLink RX10 123 (TX5 1).1 (TX5 1).2.1 (TX5 1).2.2.1 ∈ lw_good := List.mem_filter.mpr ⟨List.mem_append_right _ (List.mem_of_getElem? (i := 179) (by decide +kernel)), by decide +kernel⟩
theorem f_X10_123 : fOK RX10 123 5 1 := ⟨RX5, TX5, 4, rfl, rfl, by decide, mg179, inG5, tyX5_ok, nmX5, rfl⟩
theorem mg134 : Cond.fieldLink RX10 127 (TX2 0).1 (TX2 0).2.1 (TX2 0).2.2.1 ∈ lw_good := List.mem_filter.mpr ⟨List.mem_append_right _ (List.mem_of_getElem? (i := 134) (by decide +kernel)), by decide +kernel⟩
theorem f_X10_127 : fOK RX10 127 2 0 := ⟨RX2, TX2, 7, rfl, rfl, by decide, mg134, inG2, tyX2_ok, nmX2, rfl⟩
theorem mg136 : Cond.fieldLink RX10 132 (TX2 1).1 (TX2 1).2.1 (TX2 1).2.2.1 ∈ lw_good := List.mem_filter.mpr ⟨List.mem_append_right _ (List.mem_of_getElem? (i := 136) (by decide +kernel)), by decide +kernel⟩
theorem f_X10_132 : fOK RX10 132 2 1 := ⟨RX2, TX2, 7, rfl, rfl, by decide, mg136, inG2, tyX2_ok, nmX2, rfl⟩
theorem mg139 : Cond.fieldLink RX10 137 (TX2 2).1 (TX2 2).2.1 (TX2 2).2.2.1 ∈ lw_good := List.mem_filter.mpr ⟨List.mem_append_right _ (List.mem_of_getElem? (i := 139) (by decide +kernel)), by decide +kernel⟩
theorem f_X10_137 : fOK RX10 137 2 2 := ⟨RX2, TX2, 7, rfl, rfl, by decide, mg139, inG2, tyX2_ok, nmX2, rfl⟩
theorem mg142 : Cond.fieldLink RX10 142 (TX2 3).1 (TX2 3).2.1 (TX2 3).2.2.1 ∈ lw_good := List.mem_filter.mpr ⟨List.mem_append_right _ (List.mem_of_getElem? (i := 142) (by decide +kernel)), by decide +kernel⟩
theorem f_X10_142 : fOK RX10 142 2 3 := ⟨RX2, TX2, 7, rfl, rfl, by decide, mg142, inG2, tyX2_ok, nmX2, rfl⟩
theorem mg44 : Cond.fieldLink RX10 155 (TX10 5).1 (TX10 5).2.1 (TX10 5).2.2.1 ∈ lw_good := List.mem_filter.mpr ⟨List.mem_append_right _ (List.mem_of_getElem? (i := 44) (by decide +kernel)), by decide +kernel⟩
theorem f_X10_155 : fOK RX10 155 10 5 := ⟨RX10, TX10, 7, rfl, rfl, by decide, mg44, inG10, tyX10_ok, nmX10, rfl⟩
theorem mg92 : Cond.fieldLink RX10 168 (TX1 3).1 (TX1 3).2.1 (TX1 3).2.2.1 ∈ lw_good := List.mem_filter.mpr ⟨List.mem_append_right _ (List.mem_of_getElem? (i := 92) (by decide +kernel)), by decide +kernel⟩
theorem f_X10_168 : fOK RX10 168 1 3 := ⟨RX1, TX1, 10, rfl, rfl, by decide, mg92, inG1, tyX1_ok, nmX1, rfl⟩
theorem mg39 : Cond.fieldLink RX10 17 (TX10 0).1 (TX10 0).2.1 (TX10 0).2.2.1 ∈ lw_good := List.mem_filter.mpr ⟨List.mem_append_right _ (List.mem_of_getElem? (i := 39) (by decide +kernel)), by decide +kernel⟩
theorem f_X10_17 : fOK RX10 17 10 0 := ⟨RX10, TX10, 7, rfl, rfl, by decide, mg39, inG10, tyX10_ok, nmX10, rfl⟩
theorem mg87 : Cond.fieldLink RX10 176 (TX1 2).1 (TX1 2).2.1 (TX1 2).2.2.1 ∈ lw_good := List.mem_filter.mpr ⟨List.mem_append_right _ (List.mem_of_getElem? (i := 87) (by decide +kernel)), by decide +kernel⟩
theorem f_X10_176 : fOK RX10 176 1 2 := ⟨RX1, TX1, 10, rfl, rfl, by decide, mg87, inG1, tyX1_ok, nmX1, rfl⟩
theorem mg155 : Cond.fieldLink RX10 181 (TX2 6).1 (TX2 6).2.1 (TX2 6).2.2.1 ∈ lw_good := List.mem_filter.mpr ⟨List.mem_append_right _ (List.mem_of_getElem? (i := 155) (by decide +kernel)), by decide +kernel⟩
theorem f_X10_181 : fOK RX10 181 2 6 := ⟨RX2, TX2, 7, rfl, rfl, by decide, mg155, inG2, tyX2_ok, nmX2, rfl⟩
theorem mg148 : Cond.fieldLink RX10 184 (TX2 4).1 (TX2 4).2.1 (TX2 4).2.2.1 ∈ lw_good := List.mem_filter.mpr ⟨List.mem_append_right _ (List.mem_of_getElem? (i := 148) (by decide +kernel)), by decide +kernel⟩
theorem f_X10_184 : fOK RX10 184 2 4 := ⟨RX2, TX2, 7, rfl, rfl, by decide, mg148, inG2, tyX2_ok, nmX2, rfl⟩
theorem mg152 : Cond.fieldLink RX10 187 (TX2 5).1 (TX2 5).2.1 (TX2 5).2.2.1 ∈ lw_good := List.mem_filter.mpr ⟨List.mem_append_right _ (List.mem_of_getElem? (i := 152) (by decide +kernel)), by decide +kernel⟩
theorem f_X10_187 : fOK RX10 187 2 5 := ⟨RX2, TX2, 7, rfl, rfl, by decide, mg152, inG2, tyX2_ok, nmX2, rfl⟩
theorem mg41 : Cond.fieldLink RX10 206 (TX10 2).1 (TX10 2).2.1 (TX10 2).2.2.1 ∈ lw_good := List.mem_filter.mpr ⟨List.mem_append_right _ (List.mem_of_getElem? (i := 41) (by decide +kernel)), by decide +kernel⟩
theorem f_X10_206 : fOK RX10 206 10 2 := ⟨RX10, TX10, 7, rfl, rfl, by decide, mg41, inG10, tyX10_ok, nmX10, rfl⟩
theorem mg185 : Cond.fieldLink RX10 21 (TX5 2).1 (TX5 2).2.1 (TX5 2).2.2.1 ∈ lw_good := List.mem_filter.mpr ⟨List.mem_append_right _ (List.mem_of_getElem? (i := 185) (by decide +kernel)), by decide +kernel⟩
theorem f_X10_21 : fOK RX10 21 5 2 := ⟨RX5, TX5, 4, rfl, rfl, by decide, mg185, inG5, tyX5_ok, nmX5, rfl⟩
theorem mg190 : Cond.fieldLink RX10 26 (TX5 3).1 (TX5 3).2.1 (TX5 3).2.2.1 ∈ lw_good := List.mem_filter.mpr ⟨List.mem_append_right _ (List.mem_of_getElem? (i := 190) (by decide +kernel)), by decide +kernel⟩
theorem f_X10_26 : fOK RX10 26 5 3 := ⟨RX5, TX5, 4, rfl, rfl, by decide, mg190, inG5, tyX5_ok, nmX5, rfl⟩
theorem mg45 : Cond.fieldLink RX10 29 (TX10 6).1 (TX10 6).2.1 (TX10 6).2.2.1 ∈ lw_good := List.mem_filter.mpr ⟨List.mem_append_right _ (List.mem_of_getElem? (i := 45) (by decide +kernel)), by decide +kernel⟩
theorem f_X10_29 : fOK RX10 29 10 6 := ⟨RX10, TX10, 7, rfl, rfl, by decide, mg45, inG10, tyX10_ok, nmX10, rfl⟩
theorem mg42 : Cond.fieldLink RX10 32 (TX10 3).1 (TX10 3).2.1 (TX10 3).2.2.1 ∈ lw_good := List.mem_filter.mpr ⟨List.mem_append_right _ (List.mem_of_getElem? (i := 42) (by decide +kernel)), by decide +kernel⟩
theorem f_X10_32 : fOK RX10 32 10 3 := ⟨RX10, TX10, 7, rfl, rfl, by decide, mg42, inG10, tyX10_ok, nmX10, rfl⟩
theorem mg43 : Cond.fieldLink RX10 38 (TX10 4).1 (TX10 4).2.1 (TX10 4).2.2.1 ∈ lw_good := List.mem_filter.mpr ⟨List.mem_append_right _ (List.mem_of_getElem? (i := 43) (by decide +kernel)), by decide +kernel⟩
theorem f_X10_38 : fOK RX10 38 10 4 := ⟨RX10, TX10, 7, rfl, rfl, by decide, mg43, inG10, tyX10_ok, nmX10, rfl⟩
theorem mg175 : Cond.fieldLink RX10 60 (TX5 0).1 (TX5 0).2.1 (TX5 0).2.2.1 ∈ lw_good := List.mem_filter.mpr ⟨List.mem_append_right _ (List.mem_of_getElem? (i := 175) (by decide +kernel)), by decide +kernel⟩
theorem f_X10_60 : fOK RX10 60 5 0 := ⟨RX5, TX5, 4, rfl, rfl, by decide, mg175, inG5, tyX5_ok, nmX5, rfl⟩
theorem mg77 : Cond.fieldLink RX10 68 (TX1 0).1 (TX1 0).2.1 (TX1 0).2.2.1 ∈ lw_good := List.mem_filter.mpr ⟨List.mem_append_right _ (List.mem_of_getElem? (i := 77) (by decide +kernel)), by decide +kernel⟩
theorem f_X10_68 : fOK RX10 68 1 0 := ⟨RX1, TX1, 10, rfl, rfl, by decide, mg77, inG1, tyX1_ok, nmX1, rfl⟩
theorem mg80 : Cond.fieldLink RX10 78 (TX1 1).1 (TX1 1).2.1 (TX1 1).2.2.1 ∈ lw_good := List.mem_filter.mpr ⟨List.mem_append_right _ (List.mem_of_getElem? (i := 80) (by decide +kernel)), by decide +kernel⟩
theorem f_X10_78 : fOK RX10 78 1 1 := ⟨RX1, TX1, 10, rfl, rfl, by decide, mg80, inG1, tyX1_ok, nmX1, rfl⟩
theorem mg40 : Cond.fieldLink RX10 9 (TX10 1).1 (TX10 1).2.1 (TX10 1).2.2.1 ∈ lw_good := List.mem_filter.mpr ⟨List.mem_append_right _ (List.mem_of_getElem? (i := 40) (by decide +kernel)), by decide +kernel⟩
theorem f_X10_9 : fOK RX10 9 10 1 := ⟨RX10, TX10, 7, rfl, rfl, by decide, mg40, inG10, tyX10_ok, nmX10, rfl⟩
theorem mg94 : Cond.fieldLink RX10 91 (TX1 4).1 (TX1 4).2.1 (TX1 4).2.2.1 ∈ lw_good := List.mem_filter.mpr ⟨List.mem_append_right _ (List.mem_of_getElem? (i := 94) (by decide +kernel)), by decide +kernel⟩
theorem f_X10_91 : fOK RX10 91 1 4 := ⟨RX1, TX1, 10, rfl, rfl, by decide, mg94, inG1, tyX1_ok, nmX1, rfl⟩
theorem mg96 : Cond.fieldLink RX10 96 (TX1 5).1 (TX1 5).2.1 (TX1 5).2.2.1 ∈ lw_good := List.mem_filter.mpr ⟨List.mem_append_right _ (List.mem_of_getElem? (i := 96) (by decide +kernel)), by decide +kernel⟩
theorem f_X10_96 : fOK RX10 96 1 5 := ⟨RX1, TX1, 10, rfl, rfl, by decide, mg96, inG1, tyX1_ok, nmX1, rfl⟩
theorem mg371 : Cond.fieldLink RX11 10 (TX11 0).1 (TX11 0).2.1 (TX11 0).2.2.1 ∈ lw_good := List.mem_filter.mpr ⟨List.mem_append_right _ (List.mem_of_getElem? (i := 371) (by decide +kernel)), by decide +kernel⟩
theorem f_X11_10 : fOK RX11 10 11 0 := ⟨RX11, TX11, 12, rfl, rfl, by decide, mg371, inG11, tyX11_ok, nmX11, rfl⟩
theorem mg177 : Cond.fieldLink RX11 102 (TX5 0).1 (TX5 0).2.1 (TX5 0).2.2.1 ∈ lw_good := List.mem_filter.mpr ⟨List.mem_append_right _ (List.mem_of_getElem? (i := 177) (by decide +kernel)), by decide +kernel⟩
theorem f_X11_102 : fOK RX11 102 5 0 := ⟨RX5, TX5, 4, rfl, rfl, by decide, mg177, inG5, tyX5_ok, nmX5, rfl⟩
theorem mg82 : Cond.fieldLink RX11 106 (TX1 1).1 (TX1 1).2.1 (TX1 1).2.2.1 ∈ lw_good := List.mem_filter.mpr ⟨List.mem_append_right _ (List.mem_of_getElem? (i := 82) (by decide +kernel)), by decide +kernel⟩
theorem f_X11_106 : fOK RX11 106 1 1 := ⟨RX1, TX1, 10, rfl, rfl, by decide, mg82, inG1, tyX1_ok, nmX1, rfl⟩
theorem mg210 : Cond.fieldLink RX11 111 (TX7 0).1 (TX7 0).2.1 (TX7 0).2.2.1 ∈ lw_good := List.mem_filter.mpr ⟨List.mem_append_right _ (List.mem_of_getElem? (i := 210) (by decide +kernel)), by decide +kernel⟩
theorem f_X11_111 : fOK RX11 111 7 0 := ⟨RX7, TX7, 11, rfl, rfl, by decide, mg210, inG7, tyX7_ok, nmX7, rfl⟩
theorem mg215 : Cond.fieldLink RX11 115 (TX7 1).1 (TX7 1).2.1 (TX7 1).2.2.1 ∈ lw_good := List.mem_filter.mpr ⟨List.mem_append_right _ (List.mem_of_getElem? (i := 215) (by decide +kernel)), by decide +kernel⟩
theorem f_X11_115 : fOK RX11 115 7 1 := ⟨RX7, TX7, 11, rfl, rfl, by decide, mg215, inG7, tyX7_ok, nmX7, rfl⟩
theorem mg220 : Cond.fieldLink RX11 118 (TX7 2).1 (TX7 2).2.1 (TX7 2).2.2.1 ∈ lw_good := List.mem_filter.mpr ⟨List.mem_append_right _ (List.mem_of_getElem? (i := 220) (by decide +kernel)), by decide +kernel⟩
theorem f_X11_118 : fOK RX11 118 7 2 := ⟨RX7, TX7, 11, rfl, rfl, by decide, mg220, inG7, tyX7_ok, nmX7, rfl⟩
theorem mg223 : Cond.fieldLink RX11 121 (TX7 3).1 (TX7 3).2.1 (TX7 3).2.2.1 ∈ lw_good := List.mem_filter.mpr ⟨List.mem_append_right _ (List.mem_of_getElem? (i := 223) (by decide +kernel)), by decide +kernel⟩
theorem f_X11_121 : fOK RX11 121 7 3 := ⟨RX7, TX7, 11, rfl, rfl, by decide, mg223, inG7, tyX7_ok, nmX7, rfl⟩
theorem mg226 : Cond.fieldLink RX11 124 (TX7 4).1 (TX7 4).2.1 (TX7 4).2.2.1 ∈ lw_good := List.mem_filter.mpr ⟨List.mem_append_right _ (List.mem_of_getElem? (i := 226) (by decide +kernel)), by decide +kernel⟩
theorem f_X11_124 : fOK RX11 124 7 4 := ⟨RX7, TX7, 11, rfl, rfl, by decide, mg226, inG7, tyX7_ok, nmX7, rfl⟩
theorem mg101 : Cond.fieldLink RX11 127 (TX1 7).1 (TX1 7).2.1 (TX1 7).2.2.1 ∈ lw_good := List.mem_filter.mpr ⟨List.mem_append_right _ (List.mem_of_getElem? (i := 101) (by decide +kernel)), by decide +kernel⟩
theorem f_X11_127 : fOK RX11 127 1 7 := ⟨RX1, TX1, 10, rfl, rfl, by decide, mg101, inG1, tyX1_ok, nmX1, rfl⟩
theorem mg104 : Cond.fieldLink RX11 130 (TX1 8).1 (TX1 8).2.1 (TX1 8).2.2.1 ∈ lw_good := List.mem_filter.mpr ⟨List.mem_append_right _ (List.mem_of_getElem? (i := 104) (by decide +kernel)), by decide +kernel⟩
theorem f_X11_130 : fOK RX11 130 1 8 := ⟨RX1, TX1, 10, rfl, rfl, by decide, mg104, inG1, tyX1_ok, nmX1, rfl⟩
theorem mg228 : Cond.fieldLink RX11 133 (TX7 5).1 (TX7 5).2.1 (TX7 5).2.2.1 ∈ lw_good := List.mem_filter.mpr ⟨List.mem_append_right _ (List.mem_of_getElem? (i := 228) (by decide +kernel)), by decide +kernel⟩
theorem f_X11_133 : fOK RX11 133 7 5 := ⟨RX7, TX7, 11, rfl, rfl, by decide, mg228, inG7, tyX7_ok, nmX7, rfl⟩
theorem mg91 : Cond.fieldLink RX11 136 (TX1 3).1 (TX1 3).2.1 (TX1 3).2.2.1 ∈ lw_good := List.mem_filter.mpr ⟨List.mem_append_right _ (List.mem_of_getElem? (i := 91) (by decide +kernel)), by decide +kernel⟩
theorem f_X11_136 : fOK RX11 136 1 3 := ⟨RX1, TX1, 10, rfl, rfl, by decide, mg91, inG1, tyX1_ok, nmX1, rfl⟩
theorem mg86 : Cond.fieldLink RX11 143 (TX1 2).1 (TX1 2).2.1 (TX1 2).2.2.1 ∈ lw_good := List.mem_filter.mpr ⟨List.mem_append_right _ (List.mem_of_getElem? (i := 86) (by decide +kernel)), by decide +kernel⟩
theorem f_X11_143 : fOK RX11 143 1 2 := ⟨RX1, TX1, 10, rfl, rfl, by decide, mg86, inG1, tyX1_ok, nmX1, rfl⟩
theorem mg180 : Cond.fieldLink RX11 149 (TX5 1).1 (TX5 1).2.1 (TX5 1).2.2.1 ∈ lw_good := List.mem_filter.mpr ⟨List.mem_append_right _ (List.mem_of_getElem? (i := 180) (by decide +kernel)), by decide +kernel⟩
theorem f_X11_149 : fOK RX11 149 5 1 := ⟨RX5, TX5, 4, rfl, rfl, by decide, mg180, inG5, tyX5_ok, nmX5, rfl⟩
theorem mg137 : Cond.fieldLink RX11 153 (TX2 1).1 (TX2 1).2.1 (TX2 1).2.2.1 ∈ lw_good := List.mem_filter.mpr ⟨List.mem_append_right _ (List.mem_of_getElem? (i := 137) (by decide +kernel)), by decide +kernel⟩
theorem f_X11_153 : fOK RX11 153 2 1 := ⟨RX2, TX2, 7, rfl, rfl, by decide, mg137, inG2, tyX2_ok, nmX2, rfl⟩
theorem mg140 : Cond.fieldLink RX11 158 (TX2 2).1 (TX2 2).2.1 (TX2 2).2.2.1 ∈ lw_good := List.mem_filter.mpr ⟨List.mem_append_right _ (List.mem_of_getElem? (i := 140) (by decide +kernel)), by decide +kernel⟩
theorem f_X11_158 : fOK RX11 158 2 2 := ⟨RX2, TX2, 7, rfl, rfl, by decide, mg140, inG2, tyX2_ok, nmX2, rfl⟩
theorem mg143 : Cond.fieldLink RX11 165 (TX2 3).1 (TX2 3).2.1 (TX2 3).2.2.1 ∈ lw_good := List.mem_filter.mpr ⟨List.mem_append_right _ (List.mem_of_getElem? (i := 143) (by decide +kernel)), by decide +kernel⟩
theorem f_X11_165 : fOK RX11 165 2 3 := ⟨RX2, TX2, 7, rfl, rfl, by decide, mg143, inG2, tyX2_ok, nmX2, rfl⟩
theorem mg154 : Cond.fieldLink RX11 168 (TX2 6).1 (TX2 6).2.1 (TX2 6).2.2.1 ∈ lw_good := List.mem_filter.mpr ⟨List.mem_append_right _ (List.mem_of_getElem? (i := 154) (by decide +kernel)), by decide +kernel⟩
theorem f_X11_168 : fOK RX11 168 2 6 := ⟨RX2, TX2, 7, rfl, rfl, by decide, mg154, inG2, tyX2_ok, nmX2, rfl⟩
theorem mg151 : Cond.fieldLink RX11 171 (TX2 5).1 (TX2 5).2.1 (TX2 5).2.2.1 ∈ lw_good := List.mem_filter.mpr ⟨List.mem_append_right _ (List.mem_of_getElem? (i := 151) (by decide +kernel)), by decide +kernel⟩
theorem f_X11_171 : fOK RX11 171 2 5 := ⟨RX2, TX2, 7, rfl, rfl, by decide, mg151, inG2, tyX2_ok, nmX2, rfl⟩
theorem mg147 : Cond.fieldLink RX11 174 (TX2 4).1 (TX2 4).2.1 (TX2 4).2.2.1 ∈ lw_good := List.mem_filter.mpr ⟨List.mem_append_right _ (List.mem_of_getElem? (i := 147) (by decide +kernel)), by decide +kernel⟩
theorem f_X11_174 : fOK RX11 174 2 4 := ⟨RX2, TX2, 7, rfl, rfl, by decide, mg147, inG2, tyX2_ok, nmX2, rfl⟩
theorem mg372 : Cond.fieldLink RX11 19 (TX11 1).1 (TX11 1).2.1 (TX11 1).2.2.1 ∈ lw_good := List.mem_filter.mpr ⟨List.mem_append_right _ (List.mem_of_getElem? (i := 372) (by decide +kernel)), by decide +kernel⟩
theorem f_X11_19 : fOK RX11 19 11 1 := ⟨RX11, TX11, 12, rfl, rfl, by decide, mg372, inG11, tyX11_ok, nmX11, rfl⟩
theorem mg234 : Cond.fieldLink RX11 208 (TX7 7).1 (TX7 7).2.1 (TX7 7).2.2.1 ∈ lw_good := List.mem_filter.mpr ⟨List.mem_append_right _ (List.mem_of_getElem? (i := 234) (by decide +kernel)), by decide +kernel⟩
theorem f_X11_208 : fOK RX11 208 7 7 := ⟨RX7, TX7, 11, rfl, rfl, by decide, mg234, inG7, tyX7_ok, nmX7, rfl⟩
theorem mg230 : Cond.fieldLink RX11 214 (TX7 6).1 (TX7 6).2.1 (TX7 6).2.2.1 ∈ lw_good := List.mem_filter.mpr ⟨List.mem_append_right _ (List.mem_of_getElem? (i := 230) (by decide +kernel)), by decide +kernel⟩
theorem f_X11_214 : fOK RX11 214 7 6 := ⟨RX7, TX7, 11, rfl, rfl, by decide, mg230, inG7, tyX7_ok, nmX7, rfl⟩
theorem mg327 : Cond.fieldLink RX11 237 (TX4 0).1 (TX4 0).2.1 (TX4 0).2.2.1 ∈ lw_good := List.mem_filter.mpr ⟨List.mem_append_right _ (List.mem_of_getElem? (i := 327) (by decide +kernel)), by decide +kernel⟩
theorem f_X11_237 : fOK RX11 237 4 0 := ⟨RX4, TX4, 3, rfl, rfl, by decide, mg327, inG4, tyX4_ok, nmX4, rfl⟩
theorem mg329 : Cond.fieldLink RX11 240 (TX4 1).1 (TX4 1).2.1 (TX4 1).2.2.1 ∈ lw_good := List.mem_filter.mpr ⟨List.mem_append_right _ (List.mem_of_getElem? (i := 329) (by decide +kernel)), by decide +kernel⟩
theorem f_X11_240 : fOK RX11 240 4 1 := ⟨RX4, TX4, 3, rfl, rfl, by decide, mg329, inG4, tyX4_ok, nmX4, rfl⟩
theorem mg331 : Cond.fieldLink RX11 243 (TX4 2).1 (TX4 2).2.1 (TX4 2).2.2.1 ∈ lw_good := List.mem_filter.mpr ⟨List.mem_append_right _ (List.mem_of_getElem? (i := 331) (by decide +kernel)), by decide +kernel⟩
theorem f_X11_243 : fOK RX11 243 4 2 := ⟨RX4, TX4, 3, rfl, rfl, by decide, mg331, inG4, tyX4_ok, nmX4, rfl⟩
theorem mg236 : Cond.fieldLink RX11 246 (TX7 8).1 (TX7 8).2.1 (TX7 8).2.2.1 ∈ lw_good := List.mem_filter.mpr ⟨List.mem_append_right _ (List.mem_of_getElem? (i := 236) (by decide +kernel)), by decide +kernel⟩
theorem f_X11_246 : fOK RX11 246 7 8 := ⟨RX7, TX7, 11, rfl, rfl, by decide, mg236, inG7, tyX7_ok, nmX7, rfl⟩
theorem mg238 : Cond.fieldLink RX11 249 (TX7 9).1 (TX7 9).2.1 (TX7 9).2.2.1 ∈ lw_good := List.mem_filter.mpr ⟨List.mem_append_right _ (List.mem_of_getElem? (i := 238) (by decide +kernel)), by decide +kernel⟩
theorem f_X11_249 : fOK RX11 249 7 9 := ⟨RX7, TX7, 11, rfl, rfl, by decide, mg238, inG7, tyX7_ok, nmX7, rfl⟩
theorem mg240 : Cond.fieldLink RX11 252 (TX7 10).1 (TX7 10).2.1 (TX7 10).2.2.1 ∈ lw_good := List.mem_filter.mpr ⟨List.mem_append_right _ (List.mem_of_getElem? (i := 240) (by decide +kernel)), by decide +kernel⟩
theorem f_X11_252 : fOK RX11 252 7 10 := ⟨RX7, TX7, 11, rfl, rfl, by decide, mg240, inG7, tyX7_ok, nmX7, rfl⟩
theorem mg188 : Cond.fieldLink RX11 255 (TX5 2).1 (TX5 2).2.1 (TX5 2).2.2.1 ∈ lw_good := List.mem_filter.mpr ⟨List.mem_append_right _ (List.mem_of_getElem? (i := 188) (by decide +kernel)), by decide +kernel⟩
theorem f_X11_255 : fOK RX11 255 5 2 := ⟨RX5, TX5, 4, rfl, rfl, by decide, mg188, inG5, tyX5_ok, nmX5, rfl⟩
theorem mg305 : Cond.fieldLink RX11 274 (TX6 1).1 (TX6 1).2.1 (TX6 1).2.2.1 ∈ lw_good := List.mem_filter.mpr ⟨List.mem_append_right _ (List.mem_of_getElem? (i := 305) (by decide +kernel)), by decide +kernel⟩
theorem f_X11_274 : fOK RX11 274 6 1 := ⟨RX6, TX6, 5, rfl, rfl, by decide, mg305, inG6, tyX6_ok, nmX6, rfl⟩
theorem mg303 : Cond.fieldLink RX11 277 (TX6 0).1 (TX6 0).2.1 (TX6 0).2.2.1 ∈ lw_good := List.mem_filter.mpr ⟨List.mem_append_right _ (List.mem_of_getElem? (i := 303) (by decide +kernel)), by decide +kernel⟩
theorem f_X11_277 : fOK RX11 277 6 0 := ⟨RX6, TX6, 5, rfl, rfl, by decide, mg303, inG6, tyX6_ok, nmX6, rfl⟩
theorem mg192 : Cond.fieldLink RX11 284 (TX5 3).1 (TX5 3).2.1 (TX5 3).2.2.1 ∈ lw_good := List.mem_filter.mpr ⟨List.mem_append_right _ (List.mem_of_getElem? (i := 192) (by decide +kernel)), by decide +kernel⟩
theorem f_X11_284 : fOK RX11 284 5 3 := ⟨RX5, TX5, 4, rfl, rfl, by decide, mg192, inG5, tyX5_ok, nmX5, rfl⟩
theorem mg374 : Cond.fieldLink RX11 29 (TX11 3).1 (TX11 3).2.1 (TX11 3).2.2.1 ∈ lw_good := List.mem_filter.mpr ⟨List.mem_append_right _ (List.mem_of_getElem? (i := 374) (by decide +kernel)), by decide +kernel⟩
theorem f_X11_29 : fOK RX11 29 11 3 := ⟨RX11, TX11, 12, rfl, rfl, by decide, mg374, inG11, tyX11_ok, nmX11, rfl⟩
theorem mg375 : Cond.fieldLink RX11 33 (TX11 4).1 (TX11 4).2.1 (TX11 4).2.2.1 ∈ lw_good := List.mem_filter.mpr ⟨List.mem_append_right _ (List.mem_of_getElem? (i := 375) (by decide +kernel)), by decide +kernel⟩
theorem f_X11_33 : fOK RX11 33 11 4 := ⟨RX11, TX11, 12, rfl, rfl, by decide, mg375, inG11, tyX11_ok, nmX11, rfl⟩
theorem mg376 : Cond.fieldLink RX11 37 (TX11 5).1 (TX11 5).2.1 (TX11 5).2.2.1 ∈ lw_good := List.mem_filter.mpr ⟨List.mem_append_right _ (List.mem_of_getElem? (i := 376) (by decide +kernel)), by decide +kernel⟩
theorem f_X11_37 : fOK RX11 37 11 5 := ⟨RX11, TX11, 12, rfl, rfl, by decide, mg376, inG11, tyX11_ok, nmX11, rfl⟩
theorem mg377 : Cond.fieldLink RX11 44 (TX11 6).1 (TX11 6).2.1 (TX11 6).2.2.1 ∈ lw_good := List.mem_filter.mpr ⟨List.mem_append_right _ (List.mem_of_getElem? (i := 377) (by decide +kernel)), by decide +kernel⟩
theorem f_X11_44 : fOK RX11 44 11 6 := ⟨RX11, TX11, 12, rfl, rfl, by decide, mg377, inG11, tyX11_ok, nmX11, rfl⟩
theorem mg378 : Cond.fieldLink RX11 51 (TX11 7).1 (TX11 7).2.1 (TX11 7).2.2.1 ∈ lw_good := List.mem_filter.mpr ⟨List.mem_append_right _ (List.mem_of_getElem? (i := 378) (by decide +kernel)), by decide +kernel⟩
theorem f_X11_51 : fOK RX11 51 11 7 := ⟨RX11, TX11, 12, rfl, rfl, by decide, mg378, inG11, tyX11_ok, nmX11, rfl⟩
theorem mg379 : Cond.fieldLink RX11 58 (TX11 8).1 (TX11 8).2.1 (TX11 8).2.2.1 ∈ lw_good := List.mem_filter.mpr ⟨List.mem_append_right _ (List.mem_of_getElem? (i := 379) (by decide +kernel)), by decide +kernel⟩
theorem f_X11_58 : fOK RX11 58 11 8 := ⟨RX11, TX11, 12, rfl, rfl, by decide, mg379, inG11, tyX11_ok, nmX11, rfl⟩
theorem mg380 : Cond.fieldLink RX11 65 (TX11 9).1 (TX11 9).2.1 (TX11 9).2.2.1 ∈ lw_good := List.mem_filter.mpr ⟨List.mem_append_right _ (List.mem_of_getElem? (i := 380) (by decide +kernel)), by decide +kernel⟩
theorem f_X11_65 : fOK RX11 65 11 9 := ⟨RX11, TX11, 12, rfl, rfl, by decide, mg380, inG11, tyX11_ok, nmX11, rfl⟩
theorem mg381 : Cond.fieldLink RX11 72 (TX11 10).1 (TX11 10).2.1 (TX11 10).2.2.1 ∈ lw_good := List.mem_filter.mpr ⟨List.mem_append_right _ (List.mem_of_getElem? (i := 381) (by decide +kernel)), by decide +kernel⟩
theorem f_X11_72 : fOK RX11 72 11 10 := ⟨RX11, TX11, 12, rfl, rfl, by decide, mg381, inG11, tyX11_ok, nmX11, rfl⟩
theorem mg382 : Cond.fieldLink RX11 79 (TX11 11).1 (TX11 11).2.1 (TX11 11).2.2.1 ∈ lw_good := List.mem_filter.mpr ⟨List.mem_append_right _ (List.mem_of_getElem? (i := 382) (by decide +kernel)), by decide +kernel⟩
theorem f_X11_79 : fOK RX11 79 11 11 := ⟨RX11, TX11, 12, rfl, rfl, by decide, mg382, inG11, tyX11_ok, nmX11, rfl⟩
theorem mg38 : Cond.fieldLink RX11 87 (TX10 0).1 (TX10 0).2.1 (TX10 0).2.2.1 ∈ lw_good := List.mem_filter.mpr ⟨List.mem_append_right _ (List.mem_of_getElem? (i := 38) (by decide +kernel)), by decide +kernel⟩
theorem f_X11_87 : fOK RX11 87 10 0 := ⟨RX10, TX10, 7, rfl, rfl, by decide, mg38, inG10, tyX10_ok, nmX10, rfl⟩
theorem mg1000 : Cond.fieldLink RX12 1 (TX12 0).1 (TX12 0).2.1 (TX12 0).2.2.1 ∈ lw_good := List.mem_filter.mpr ⟨List.mem_append_right _ (List.mem_of_getElem? (i := 1000) (by decide +kernel)), by decide +kernel⟩
theorem f_X12_1 : fOK RX12 1 12 0 := ⟨RX12, TX12, 32, rfl, rfl, by decide, mg1000, inG12, tyX12_ok, nmX12, rfl⟩
theorem mg1002 : Cond.fieldLink RX12 11 (TX12 2).1 (TX12 2).2.1 (TX12 2).2.2.1 ∈ lw_good := List.mem_filter.mpr ⟨List.mem_append_right _ (List.mem_of_getElem? (i := 1002) (by decide +kernel)), by decide +kernel⟩
theorem f_X12_11 : fOK RX12 11 12 2 := ⟨RX12, TX12, 32, rfl, rfl, by decide, mg1002, inG12, tyX12_ok, nmX12, rfl⟩
theorem mg1007 : Cond.fieldLink RX12 117 (TX12 7).1 (TX12 7).2.1 (TX12 7).2.2.1 ∈ lw_good := List.mem_filter.mpr ⟨List.mem_append_right _ (List.mem_of_getElem? (i := 1007) (by decide +kernel)), by decide +kernel⟩
theorem f_X12_117 : fOK RX12 117 12 7 := ⟨RX12, TX12, 32, rfl, rfl, by decide, mg1007, inG12, tyX12_ok, nmX12, rfl⟩
theorem mg1008 : Cond.fieldLink RX12 120 (TX12 8).1 (TX12 8).2.1 (TX12 8).2.2.1 ∈ lw_good := List.mem_filter.mpr ⟨List.mem_append_right _ (List.mem_of_getElem? (i := 1008) (by decide +kernel)), by decide +kernel⟩
theorem f_X12_120 : fOK RX12 120 12 8 := ⟨RX12, TX12, 32, rfl, rfl, by decide, mg1008, inG12, tyX12_ok, nmX12, rfl⟩
theorem mg1001 : Cond.fieldLink RX12 14 (TX12 1).1 (TX12 1).2.1 (TX12 1).2.2.1 ∈ lw_good := List.mem_filter.mpr ⟨List.mem_append_right _ (List.mem_of_getElem? (i := 1001) (by decide +kernel)), by decide +kernel⟩
theorem f_X12_14 : fOK RX12 14 12 1 := ⟨RX12, TX12, 32, rfl, rfl, by decide, mg1001, inG12, tyX12_ok, nmX12, rfl⟩
theorem mg1013 : Cond.fieldLink RX12 147 (TX12 13).1 (TX12 13).2.1 (TX12 13).2.2.1 ∈ lw_good := List.mem_filter.mpr ⟨List.mem_append_right _ (List.mem_of_getElem? (i := 1013) (by decide +kernel)), by decide +kernel⟩
theorem f_X12_147 : fOK RX12 147 12 13 := ⟨RX12, TX12, 32, rfl, rfl, by decide, mg1013, inG12, tyX12_ok, nmX12, rfl⟩
theorem mg1015 : Cond.fieldLink RX12 207 (TX12 15).1 (TX12 15).2.1 (TX12 15).2.2.1 ∈ lw_good := List.mem_filter.mpr ⟨List.mem_append_right _ (List.mem_of_getElem? (i := 1015) (by decide +kernel)), by decide +kernel⟩
theorem f_X12_207 : fOK RX12 207 12 15 := ⟨RX12, TX12, 32, rfl, rfl, by decide, mg1015, inG12, tyX12_ok, nmX12, rfl⟩
theorem mg1016 : Cond.fieldLink RX12 211 (TX12 16).1 (TX12 16).2.1 (TX12 16).2.2.1 ∈ lw_good := List.mem_filter.mpr ⟨List.mem_append_right _ (List.mem_of_getElem? (i := 1016) (by decide +kernel)), by decide +kernel⟩
theorem f_X12_211 : fOK RX12 211 12 16 := ⟨RX12, TX12, 32, rfl, rfl, by decide, mg1016, inG12, tyX12_ok, nmX12, rfl⟩
theorem mg1017 : Cond.fieldLink RX12 214 (TX12 17).1 (TX12 17).2.1 (TX12 17).2.2.1 ∈ lw_good := List.mem_filter.mpr ⟨List.mem_append_right _ (List.mem_of_getElem? (i := 1017) (by decide +kernel)), by decide +kernel⟩
theorem f_X12_214 : fOK RX12 214 12 17 := ⟨RX12, TX12, 32, rfl, rfl, by decide, mg1017, inG12, tyX12_ok, nmX12, rfl⟩
theorem mg1004 : Cond.fieldLink RX12 24 (TX12 4).1 (TX12 4).2.1 (TX12 4).2.2.1 ∈ lw_good := List.mem_filter.mpr ⟨List.mem_append_right _ (List.mem_of_getElem? (i := 1004) (by decide +kernel)), by decide +kernel⟩
theorem f_X12_24 : fOK RX12 24 12 4 := ⟨RX12, TX12, 32, rfl, rfl, by decide, mg1004, inG12, tyX12_ok, nmX12, rfl⟩
theorem mg1018 : Cond.fieldLink RX12 247 (TX12 18).1 (TX12 18).2.1 (TX12 18).2.2.1 ∈ lw_good := List.mem_filter.mpr ⟨List.mem_append_right _ (List.mem_of_getElem? (i := 1018) (by decide +kernel)), by decide +kernel⟩
theorem f_X12_247 : fOK RX12 247 12 18 := ⟨RX12, TX12, 32, rfl, rfl, by decide, mg1018, inG12, tyX12_ok, nmX12, rfl⟩
theorem mg1019 : Cond.fieldLink RX12 250 (TX12 19).1 (TX12 19).2.1 (TX12 19).2.2.1 ∈ lw_good := List.mem_filter.mpr ⟨List.mem_append_right _ (List.mem_of_getElem? (i := 1019) (by decide +kernel)), by decide +kernel⟩
theorem f_X12_250 : fOK RX12 250 12 19 := ⟨RX12, TX12, 32, rfl, rfl, by decide, mg1019, inG12, tyX12_ok, nmX12, rfl⟩
theorem mg1020 : Cond.fieldLink RX12 253 (TX12 20).1 (TX12 20).2.1 (TX12 20).2.2.1 ∈ lw_good := List.mem_filter.mpr ⟨List.mem_append_right _ (List.mem_of_getElem? (i := 1020) (by decide +kernel)), by decide +kernel⟩
theorem f_X12_253 : fOK RX12 253 12 20 := ⟨RX12, TX12, 32, rfl, rfl, by decide, mg1020, inG12, tyX12_ok, nmX12, rfl⟩
theorem mg1021 : Cond.fieldLink RX12 269 (TX12 21).1 (TX12 21).2.1 (TX12 21).2.2.1 ∈ lw_good := List.mem_filter.mpr ⟨List.mem_append_right _ (List.mem_of_getElem? (i := 1021) (by decide +kernel)), by decide +kernel⟩
theorem f_X12_269 : fOK RX12 269 12 21 := ⟨RX12, TX12, 32, rfl, rfl, by decide, mg1021, inG12, tyX12_ok, nmX12, rfl⟩
theorem mg1005 : Cond.fieldLink RX12 27 (TX12 5).1 (TX12 5).2.1 (TX12 5).2.2.1 ∈ lw_good := List.mem_filter.mpr ⟨List.mem_append_right _ (List.mem_of_getElem? (i := 1005) (by decide +kernel)), by decide +kernel⟩
theorem f_X12_27 : fOK RX12 27 12 5 := ⟨RX12, TX12, 32, rfl, rfl, by decide, mg1005, inG12, tyX12_ok, nmX12, rfl⟩
theorem mg1022 : Cond.fieldLink RX12 272 (TX12 22).1 (TX12 22).2.1 (TX12 22).2.2.1 ∈ lw_good := List.mem_filter.mpr ⟨List.mem_append_right _ (List.mem_of_getElem? (i := 1022) (by decide +kernel)), by decide +kernel⟩
theorem f_X12_272 : fOK RX12 272 12 22 := ⟨RX12, TX12, 32, rfl, rfl, by decide, mg1022, inG12, tyX12_ok, nmX12, rfl⟩
theorem mg1026 : Cond.fieldLink RX12 281 (TX12 26).1 (TX12 26).2.1 (TX12 26).2.2.1 ∈ lw_good := List.mem_filter.mpr ⟨List.mem_append_right _ (List.mem_of_getElem? (i := 1026) (by decide +kernel)), by decide +kernel⟩
theorem f_X12_281 : fOK RX12 281 12 26 := ⟨RX12, TX12, 32, rfl, rfl, by decide, mg1026, inG12, tyX12_ok, nmX12, rfl⟩
theorem mg1025 : Cond.fieldLink RX12 284 (TX12 25).1 (TX12 25).2.1 (TX12 25).2.2.1 ∈ lw_good := List.mem_filter.mpr ⟨List.mem_append_right _ (List.mem_of_getElem? (i := 1025) (by decide +kernel)), by decide +kernel⟩
theorem f_X12_284 : fOK RX12 284 12 25 := ⟨RX12, TX12, 32, rfl, rfl, by decide, mg1025, inG12, tyX12_ok, nmX12, rfl⟩
theorem mg1030 : Cond.fieldLink RX12 298 (TX12 30).1 (TX12 30).2.1 (TX12 30).2.2.1 ∈ lw_good := List.mem_filter.mpr ⟨List.mem_append_right _ (List.mem_of_getElem? (i := 1030) (by decide +kernel)), by decide +kernel⟩
theorem f_X12_298 : fOK RX12 298 12 30 := ⟨RX12, TX12, 32, rfl, rfl, by decide, mg1030, inG12, tyX12_ok, nmX12, rfl⟩
theorem mg1006 : Cond.fieldLink RX12 30 (TX12 6).1 (TX12 6).2.1 (TX12 6).2.2.1 ∈ lw_good := List.mem_filter.mpr ⟨List.mem_append_right _ (List.mem_of_getElem? (i := 1006) (by decide +kernel)), by decide +kernel⟩
theorem f_X12_30 : fOK RX12 30 12 6 := ⟨RX12, TX12, 32, rfl, rfl, by decide, mg1006, inG12, tyX12_ok, nmX12, rfl⟩
theorem mg1029 : Cond.fieldLink RX12 301 (TX12 29).1 (TX12 29).2.1 (TX12 29).2.2.1 ∈ lw_good := List.mem_filter.mpr ⟨List.mem_append_right _ (List.mem_of_getElem? (i := 1029) (by decide +kernel)), by decide +kernel⟩
theorem f_X12_301 : fOK RX12 301 12 29 := ⟨RX12, TX12, 32, rfl, rfl, by decide, mg1029, inG12, tyX12_ok, nmX12, rfl⟩
theorem mg1031 : Cond.fieldLink RX12 307 (TX12 31).1 (TX12 31).2.1 (TX12 31).2.2.1 ∈ lw_good := List.mem_filter.mpr ⟨List.mem_append_right _ (List.mem_of_getElem? (i := 1031) (by decide +kernel)), by decide +kernel⟩
theorem f_X12_307 : fOK RX12 307 12 31 := ⟨RX12, TX12, 32, rfl, rfl, by decide, mg1031, inG12, tyX12_ok, nmX12, rfl⟩
theorem mg1009 : Cond.fieldLink RX12 66 (TX12 9).1 (TX12 9).2.1 (TX12 9).2.2.1 ∈ lw_good := List.mem_filter.mpr ⟨List.mem_append_right _ (List.mem_of_getElem? (i := 1009) (by decide +kernel)), by decide +kernel⟩
theorem f_X12_66 : fOK RX12 66 12 9 := ⟨RX12, TX12, 32, rfl, rfl, by decide, mg1009, inG12, tyX12_ok, nmX12, rfl⟩
theorem mg1010 : Cond.fieldLink RX12 69 (TX12 10).1 (TX12 10).2.1 (TX12 10).2.2.1 ∈ lw_good := List.mem_filter.mpr ⟨List.mem_append_right _ (List.mem_of_getElem? (i := 1010) (by decide +kernel)), by decide +kernel⟩
theorem f_X12_69 : fOK RX12 69 12 10 := ⟨RX12, TX12, 32, rfl, rfl, by decide, mg1010, inG12, tyX12_ok, nmX12, rfl⟩
theorem mg1011 : Cond.fieldLink RX12 72 (TX12 11).1 (TX12 11).2.1 (TX12 11).2.2.1 ∈ lw_good := List.mem_filter.mpr ⟨List.mem_append_right _ (List.mem_of_getElem? (i := 1011) (by decide +kernel)), by decide +kernel⟩
theorem f_X12_72 : fOK RX12 72 12 11 := ⟨RX12, TX12, 32, rfl, rfl, by decide, mg1011, inG12, tyX12_ok, nmX12, rfl⟩
theorem mg1012 : Cond.fieldLink RX12 75 (TX12 12).1 (TX12 12).2.1 (TX12 12).2.2.1 ∈ lw_good := List.mem_filter.mpr ⟨List.mem_append_right _ (List.mem_of_getElem? (i := 1012) (by decide +kernel)), by decide +kernel⟩
theorem f_X12_75 : fOK RX12 75 12 12 := ⟨RX12, TX12, 32, rfl, rfl, by decide, mg1012, inG12, tyX12_ok, nmX12, rfl⟩
theorem mg1014 : Cond.fieldLink RX12 78 (TX12 14).1 (TX12 14).2.1 (TX12 14).2.2.1 ∈ lw_good := List.mem_filter.mpr ⟨List.mem_append_right _ (List.mem_of_getElem? (i := 1014) (by decide +kernel)), by decide +kernel⟩
theorem f_X12_78 : fOK RX12 78 12 14 := ⟨RX12, TX12, 32, rfl, rfl, by decide, mg1014, inG12, tyX12_ok, nmX12, rfl⟩
theorem mg1023 : Cond.fieldLink RX12 82 (TX12 23).1 (TX12 23).2.1 (TX12 23).2.2.1 ∈ lw_good := List.mem_filter.mpr ⟨List.mem_append_right _ (List.mem_of_getElem? (i := 1023) (by decide +kernel)), by decide +kernel⟩
theorem f_X12_82 : fOK RX12 82 12 23 := ⟨RX12, TX12, 32, rfl, rfl, by decide, mg1023, inG12, tyX12_ok, nmX12, rfl⟩
theorem mg1024 : Cond.fieldLink RX12 85 (TX12 24).1 (TX12 24).2.1 (TX12 24).2.2.1 ∈ lw_good := List.mem_filter.mpr ⟨List.mem_append_right _ (List.mem_of_getElem? (i := 1024) (by decide +kernel)), by decide +kernel⟩
theorem f_X12_85 : fOK RX12 85 12 24 := ⟨RX12, TX12, 32, rfl, rfl, by decide, mg1024, inG12, tyX12_ok, nmX12, rfl⟩
theorem mg1027 : Cond.fieldLink RX12 88 (TX12 27).1 (TX12 27).2.1 (TX12 27).2.2.1 ∈ lw_good := List.mem_filter.mpr ⟨List.mem_append_right _ (List.mem_of_getElem? (i := 1027) (by decide +kernel)), by decide +kernel⟩
theorem f_X12_88 : fOK RX12 88 12 27 := ⟨RX12, TX12, 32, rfl, rfl, by decide, mg1027, inG12, tyX12_ok, nmX12, rfl⟩
theorem mg1028 : Cond.fieldLink RX12 91 (TX12 28).1 (TX12 28).2.1 (TX12 28).2.2.1 ∈ lw_good := List.mem_filter.mpr ⟨List.mem_append_right _ (List.mem_of_getElem? (i := 1028) (by decide +kernel)), by decide +kernel⟩
theorem f_X12_91 : fOK RX12 91 12 28 := ⟨RX12, TX12, 32, rfl, rfl, by decide, mg1028, inG12, tyX12_ok, nmX12, rfl⟩
theorem mg1003 : Cond.fieldLink RX12 98 (TX12 3).1 (TX12 3).2.1 (TX12 3).2.2.1 ∈ lw_good := List.mem_filter.mpr ⟨List.mem_append_right _ (List.mem_of_getElem? (i := 1003) (by decide +kernel)), by decide +kernel⟩
theorem f_X12_98 : fOK RX12 98 12 3 := ⟨RX12, TX12, 32, rfl, rfl, by decide, mg1003, inG12, tyX12_ok, nmX12, rfl⟩
theorem mg346 : Cond.fieldLink RX3 15 (TX3 1).1 (TX3 1).2.1 (TX3 1).2.2.1 ∈ lw_good := List.mem_filter.mpr ⟨List.mem_append_right _ (List.mem_of_getElem? (i := 346) (by decide +kernel)), by decide +kernel⟩
theorem f_X3_15 : fOK RX3 15 3 1 := ⟨RX3, TX3, 2, rfl, rfl, by decide, mg346, inG3, tyX3_ok, nmX3, rfl⟩
theorem mg153 : Cond.fieldLink RX3 19 (TX2 6).1 (TX2 6).2.1 (TX2 6).2.2.1 ∈ lw_good := List.mem_filter.mpr ⟨List.mem_append_right _ (List.mem_of_getElem? (i := 153) (by decide +kernel)), by decide +kernel⟩
theorem f_X3_19 : fOK RX3 19 2 6 := ⟨RX2, TX2, 7, rfl, rfl, by decide, mg153, inG2, tyX2_ok, nmX2, rfl⟩
theorem mg146 : Cond.fieldLink RX3 39 (TX2 4).1 (TX2 4).2.1 (TX2 4).2.2.1 ∈ lw_good := List.mem_filter.mpr ⟨List.mem_append_right _ (List.mem_of_getElem? (i := 146) (by decide +kernel)), by decide +kernel⟩
theorem f_X3_39 : fOK RX3 39 2 4 := ⟨RX2, TX2, 7, rfl, rfl, by decide, mg146, inG2, tyX2_ok, nmX2, rfl⟩
theorem mg150 : Cond.fieldLink RX3 42 (TX2 5).1 (TX2 5).2.1 (TX2 5).2.2.1 ∈ lw_good := List.mem_filter.mpr ⟨List.mem_append_right _ (List.mem_of_getElem? (i := 150) (by decide +kernel)), by decide +kernel⟩
theorem f_X3_42 : fOK RX3 42 2 5 := ⟨RX2, TX2, 7, rfl, rfl, by decide, mg150, inG2, tyX2_ok, nmX2, rfl⟩
theorem mg345 : Cond.fieldLink RX3 9 (TX3 0).1 (TX3 0).2.1 (TX3 0).2.2.1 ∈ lw_good := List.mem_filter.mpr ⟨List.mem_append_right _ (List.mem_of_getElem? (i := 345) (by decide +kernel)), by decide +kernel⟩
theorem f_X3_9 : fOK RX3 9 3 0 := ⟨RX3, TX3, 2, rfl, rfl, by decide, mg345, inG3, tyX3_ok, nmX3, rfl⟩
theorem mg328 : Cond.fieldLink RX4 15 (TX4 1).1 (TX4 1).2.1 (TX4 1).2.2.1 ∈ lw_good := List.mem_filter.mpr ⟨List.mem_append_right _ (List.mem_of_getElem? (i := 328) (by decide +kernel)), by decide +kernel⟩
theorem f_X4_15 : fOK RX4 15 4 1 := ⟨RX4, TX4, 3, rfl, rfl, by decide, mg328, inG4, tyX4_ok, nmX4, rfl⟩
theorem mg330 : Cond.fieldLink RX4 18 (TX4 2).1 (TX4 2).2.1 (TX4 2).2.2.1 ∈ lw_good := List.mem_filter.mpr ⟨List.mem_append_right _ (List.mem_of_getElem? (i := 330) (by decide +kernel)), by decide +kernel⟩
theorem f_X4_18 : fOK RX4 18 4 2 := ⟨RX4, TX4, 3, rfl, rfl, by decide, mg330, inG4, tyX4_ok, nmX4, rfl⟩
theorem mg184 : Cond.fieldLink RX4 21 (TX5 2).1 (TX5 2).2.1 (TX5 2).2.2.1 ∈ lw_good := List.mem_filter.mpr ⟨List.mem_append_right _ (List.mem_of_getElem? (i := 184) (by decide +kernel)), by decide +kernel⟩
theorem f_X4_21 : fOK RX4 21 5 2 := ⟨RX5, TX5, 4, rfl, rfl, by decide, mg184, inG5, tyX5_ok, nmX5, rfl⟩
theorem mg176 : Cond.fieldLink RX4 38 (TX5 0).1 (TX5 0).2.1 (TX5 0).2.2.1 ∈ lw_good := List.mem_filter.mpr ⟨List.mem_append_right _ (List.mem_of_getElem? (i := 176) (by decide +kernel)), by decide +kernel⟩
theorem f_X4_38 : fOK RX4 38 5 0 := ⟨RX5, TX5, 4, rfl, rfl, by decide, mg176, inG5, tyX5_ok, nmX5, rfl⟩
theorem mg90 : Cond.fieldLink RX4 46 (TX1 3).1 (TX1 3).2.1 (TX1 3).2.2.1 ∈ lw_good := List.mem_filter.mpr ⟨List.mem_append_right _ (List.mem_of_getElem? (i := 90) (by decide +kernel)), by decide +kernel⟩
theorem f_X4_46 : fOK RX4 46 1 3 := ⟨RX1, TX1, 10, rfl, rfl, by decide, mg90, inG1, tyX1_ok, nmX1, rfl⟩
theorem mg85 : Cond.fieldLink RX4 51 (TX1 2).1 (TX1 2).2.1 (TX1 2).2.2.1 ∈ lw_good := List.mem_filter.mpr ⟨List.mem_append_right _ (List.mem_of_getElem? (i := 85) (by decide +kernel)), by decide +kernel⟩
theorem f_X4_51 : fOK RX4 51 1 2 := ⟨RX1, TX1, 10, rfl, rfl, by decide, mg85, inG1, tyX1_ok, nmX1, rfl⟩
theorem mg326 : Cond.fieldLink RX4 9 (TX4 0).1 (TX4 0).2.1 (TX4 0).2.2.1 ∈ lw_good := List.mem_filter.mpr ⟨List.mem_append_right _ (List.mem_of_getElem? (i := 326) (by decide +kernel)), by decide +kernel⟩
theorem f_X4_9 : fOK RX4 9 4 0 := ⟨RX4, TX4, 3, rfl, rfl, by decide, mg326, inG4, tyX4_ok, nmX4, rfl⟩
theorem mg171 : Cond.fieldLink RX5 11 (TX5 0).1 (TX5 0).2.1 (TX5 0).2.2.1 ∈ lw_good := List.mem_filter.mpr ⟨List.mem_append_right _ (List.mem_of_getElem? (i := 171) (by decide +kernel)), by decide +kernel⟩
theorem f_X5_11 : fOK RX5 11 5 0 := ⟨RX5, TX5, 4, rfl, rfl, by decide, mg171, inG5, tyX5_ok, nmX5, rfl⟩
theorem mg178 : Cond.fieldLink RX5 19 (TX5 1).1 (TX5 1).2.1 (TX5 1).2.2.1 ∈ lw_good := List.mem_filter.mpr ⟨List.mem_append_right _ (List.mem_of_getElem? (i := 178) (by decide +kernel)), by decide +kernel⟩
theorem f_X5_19 : fOK RX5 19 5 1 := ⟨RX5, TX5, 4, rfl, rfl, by decide, mg178, inG5, tyX5_ok, nmX5, rfl⟩
theorem mg183 : Cond.fieldLink RX5 25 (TX5 2).1 (TX5 2).2.1 (TX5 2).2.2.1 ∈ lw_good := List.mem_filter.mpr ⟨List.mem_append_right _ (List.mem_of_getElem? (i := 183) (by decide +kernel)), by decide +kernel⟩
theorem f_X5_25 : fOK RX5 25 5 2 := ⟨RX5, TX5, 4, rfl, rfl, by decide, mg183, inG5, tyX5_ok, nmX5, rfl⟩
theorem mg89 : Cond.fieldLink RX5 33 (TX1 3).1 (TX1 3).2.1 (TX1 3).2.2.1 ∈ lw_good := List.mem_filter.mpr ⟨List.mem_append_right _ (List.mem_of_getElem? (i := 89) (by decide +kernel)), by decide +kernel⟩
theorem f_X5_33 : fOK RX5 33 1 3 := ⟨RX1, TX1, 10, rfl, rfl, by decide, mg89, inG1, tyX1_ok, nmX1, rfl⟩
theorem mg191 : Cond.fieldLink RX5 36 (TX5 3).1 (TX5 3).2.1 (TX5 3).2.2.1 ∈ lw_good := List.mem_filter.mpr ⟨List.mem_append_right _ (List.mem_of_getElem? (i := 191) (by decide +kernel)), by decide +kernel⟩
theorem f_X5_36 : fOK RX5 36 5 3 := ⟨RX5, TX5, 4, rfl, rfl, by decide, mg191, inG5, tyX5_ok, nmX5, rfl⟩
theorem mg78 : Cond.fieldLink RX5 39 (TX1 0).1 (TX1 0).2.1 (TX1 0).2.2.1 ∈ lw_good := List.mem_filter.mpr ⟨List.mem_append_right _ (List.mem_of_getElem? (i := 78) (by decide +kernel)), by decide +kernel⟩
theorem f_X5_39 : fOK RX5 39 1 0 := ⟨RX1, TX1, 10, rfl, rfl, by decide, mg78, inG1, tyX1_ok, nmX1, rfl⟩
theorem mg135 : Cond.fieldLink RX5 43 (TX2 0).1 (TX2 0).2.1 (TX2 0).2.2.1 ∈ lw_good := List.mem_filter.mpr ⟨List.mem_append_right _ (List.mem_of_getElem? (i := 135) (by decide +kernel)), by decide +kernel⟩
theorem f_X5_43 : fOK RX5 43 2 0 := ⟨RX2, TX2, 7, rfl, rfl, by decide, mg135, inG2, tyX2_ok, nmX2, rfl⟩
theorem mg304 : Cond.fieldLink RX6 18 (TX6 1).1 (TX6 1).2.1 (TX6 1).2.2.1 ∈ lw_good := List.mem_filter.mpr ⟨List.mem_append_right _ (List.mem_of_getElem? (i := 304) (by decide +kernel)), by decide +kernel⟩
theorem f_X6_18 : fOK RX6 18 6 1 := ⟨RX6, TX6, 5, rfl, rfl, by decide, mg304, inG6, tyX6_ok, nmX6, rfl⟩
theorem mg306 : Cond.fieldLink RX6 22 (TX6 2).1 (TX6 2).2.1 (TX6 2).2.2.1 ∈ lw_good := List.mem_filter.mpr ⟨List.mem_append_right _ (List.mem_of_getElem? (i := 306) (by decide +kernel)), by decide +kernel⟩
theorem f_X6_22 : fOK RX6 22 6 2 := ⟨RX6, TX6, 5, rfl, rfl, by decide, mg306, inG6, tyX6_ok, nmX6, rfl⟩
theorem mg307 : Cond.fieldLink RX6 25 (TX6 3).1 (TX6 3).2.1 (TX6 3).2.2.1 ∈ lw_good := List.mem_filter.mpr ⟨List.mem_append_right _ (List.mem_of_getElem? (i := 307) (by decide +kernel)), by decide +kernel⟩
theorem f_X6_25 : fOK RX6 25 6 3 := ⟨RX6, TX6, 5, rfl, rfl, by decide, mg307, inG6, tyX6_ok, nmX6, rfl⟩
theorem mg308 : Cond.fieldLink RX6 28 (TX6 4).1 (TX6 4).2.1 (TX6 4).2.2.1 ∈ lw_good := List.mem_filter.mpr ⟨List.mem_append_right _ (List.mem_of_getElem? (i := 308) (by decide +kernel)), by decide +kernel⟩
theorem f_X6_28 : fOK RX6 28 6 4 := ⟨RX6, TX6, 5, rfl, rfl, by decide, mg308, inG6, tyX6_ok, nmX6, rfl⟩
theorem mg233 : Cond.fieldLink RX6 36 (TX7 7).1 (TX7 7).2.1 (TX7 7).2.2.1 ∈ lw_good := List.mem_filter.mpr ⟨List.mem_append_right _ (List.mem_of_getElem? (i := 233) (by decide +kernel)), by decide +kernel⟩
theorem f_X6_36 : fOK RX6 36 7 7 := ⟨RX7, TX7, 11, rfl, rfl, by decide, mg233, inG7, tyX7_ok, nmX7, rfl⟩
theorem mg186 : Cond.fieldLink RX6 46 (TX5 2).1 (TX5 2).2.1 (TX5 2).2.2.1 ∈ lw_good := List.mem_filter.mpr ⟨List.mem_append_right _ (List.mem_of_getElem? (i := 186) (by decide +kernel)), by decide +kernel⟩
theorem f_X6_46 : fOK RX6 46 5 2 := ⟨RX5, TX5, 4, rfl, rfl, by decide, mg186, inG5, tyX5_ok, nmX5, rfl⟩
theorem mg302 : Cond.fieldLink RX6 9 (TX6 0).1 (TX6 0).2.1 (TX6 0).2.2.1 ∈ lw_good := List.mem_filter.mpr ⟨List.mem_append_right _ (List.mem_of_getElem? (i := 302) (by decide +kernel)), by decide +kernel⟩
theorem f_X6_9 : fOK RX6 9 6 0 := ⟨RX6, TX6, 5, rfl, rfl, by decide, mg302, inG6, tyX6_ok, nmX6, rfl⟩
theorem mg213 : Cond.fieldLink RX7 15 (TX7 1).1 (TX7 1).2.1 (TX7 1).2.2.1 ∈ lw_good := List.mem_filter.mpr ⟨List.mem_append_right _ (List.mem_of_getElem? (i := 213) (by decide +kernel)), by decide +kernel⟩
theorem f_X7_15 : fOK RX7 15 7 1 := ⟨RX7, TX7, 11, rfl, rfl, by decide, mg213, inG7, tyX7_ok, nmX7, rfl⟩
theorem mg218 : Cond.fieldLink RX7 18 (TX7 2).1 (TX7 2).2.1 (TX7 2).2.2.1 ∈ lw_good := List.mem_filter.mpr ⟨List.mem_append_right _ (List.mem_of_getElem? (i := 218) (by decide +kernel)), by decide +kernel⟩
theorem f_X7_18 : fOK RX7 18 7 2 := ⟨RX7, TX7, 11, rfl, rfl, by decide, mg218, inG7, tyX7_ok, nmX7, rfl⟩
theorem mg221 : Cond.fieldLink RX7 21 (TX7 3).1 (TX7 3).2.1 (TX7 3).2.2.1 ∈ lw_good := List.mem_filter.mpr ⟨List.mem_append_right _ (List.mem_of_getElem? (i := 221) (by decide +kernel)), by decide +kernel⟩
theorem f_X7_21 : fOK RX7 21 7 3 := ⟨RX7, TX7, 11, rfl, rfl, by decide, mg221, inG7, tyX7_ok, nmX7, rfl⟩
theorem mg224 : Cond.fieldLink RX7 24 (TX7 4).1 (TX7 4).2.1 (TX7 4).2.2.1 ∈ lw_good := List.mem_filter.mpr ⟨List.mem_append_right _ (List.mem_of_getElem? (i := 224) (by decide +kernel)), by decide +kernel⟩
theorem f_X7_24 : fOK RX7 24 7 4 := ⟨RX7, TX7, 11, rfl, rfl, by decide, mg224, inG7, tyX7_ok, nmX7, rfl⟩
theorem mg227 : Cond.fieldLink RX7 27 (TX7 5).1 (TX7 5).2.1 (TX7 5).2.2.1 ∈ lw_good := List.mem_filter.mpr ⟨List.mem_append_right _ (List.mem_of_getElem? (i := 227) (by decide +kernel)), by decide +kernel⟩
theorem f_X7_27 : fOK RX7 27 7 5 := ⟨RX7, TX7, 11, rfl, rfl, by decide, mg227, inG7, tyX7_ok, nmX7, rfl⟩
theorem mg229 : Cond.fieldLink RX7 30 (TX7 6).1 (TX7 6).2.1 (TX7 6).2.2.1 ∈ lw_good := List.mem_filter.mpr ⟨List.mem_append_right _ (List.mem_of_getElem? (i := 229) (by decide +kernel)), by decide +kernel⟩
theorem f_X7_30 : fOK RX7 30 7 6 := ⟨RX7, TX7, 11, rfl, rfl, by decide, mg229, inG7, tyX7_ok, nmX7, rfl⟩
theorem mg235 : Cond.fieldLink RX7 33 (TX7 8).1 (TX7 8).2.1 (TX7 8).2.2.1 ∈ lw_good := List.mem_filter.mpr ⟨List.mem_append_right _ (List.mem_of_getElem? (i := 235) (by decide +kernel)), by decide +kernel⟩
theorem f_X7_33 : fOK RX7 33 7 8 := ⟨RX7, TX7, 11, rfl, rfl, by decide, mg235, inG7, tyX7_ok, nmX7, rfl⟩
theorem mg237 : Cond.fieldLink RX7 36 (TX7 9).1 (TX7 9).2.1 (TX7 9).2.2.1 ∈ lw_good := List.mem_filter.mpr ⟨List.mem_append_right _ (List.mem_of_getElem? (i := 237) (by decide +kernel)), by decide +kernel⟩
theorem f_X7_36 : fOK RX7 36 7 9 := ⟨RX7, TX7, 11, rfl, rfl, by decide, mg237, inG7, tyX7_ok, nmX7, rfl⟩
theorem mg182 : Cond.fieldLink RX7 39 (TX5 2).1 (TX5 2).2.1 (TX5 2).2.2.1 ∈ lw_good := List.mem_filter.mpr ⟨List.mem_append_right _ (List.mem_of_getElem? (i := 182) (by decide +kernel)), by decide +kernel⟩
theorem f_X7_39 : fOK RX7 39 5 2 := ⟨RX5, TX5, 4, rfl, rfl, by decide, mg182, inG5, tyX5_ok, nmX5, rfl⟩
theorem mg172 : Cond.fieldLink RX7 45 (TX5 0).1 (TX5 0).2.1 (TX5 0).2.2.1 ∈ lw_good := List.mem_filter.mpr ⟨List.mem_append_right _ (List.mem_of_getElem? (i := 172) (by decide +kernel)), by decide +kernel⟩
theorem f_X7_45 : fOK RX7 45 5 0 := ⟨RX5, TX5, 4, rfl, rfl, by decide, mg172, inG5, tyX5_ok, nmX5, rfl⟩
theorem mg84 : Cond.fieldLink RX7 49 (TX1 2).1 (TX1 2).2.1 (TX1 2).2.2.1 ∈ lw_good := List.mem_filter.mpr ⟨List.mem_append_right _ (List.mem_of_getElem? (i := 84) (by decide +kernel)), by decide +kernel⟩
theorem f_X7_49 : fOK RX7 49 1 2 := ⟨RX1, TX1, 10, rfl, rfl, by decide, mg84, inG1, tyX1_ok, nmX1, rfl⟩
theorem mg93 : Cond.fieldLink RX7 54 (TX1 4).1 (TX1 4).2.1 (TX1 4).2.2.1 ∈ lw_good := List.mem_filter.mpr ⟨List.mem_append_right _ (List.mem_of_getElem? (i := 93) (by decide +kernel)), by decide +kernel⟩
theorem f_X7_54 : fOK RX7 54 1 4 := ⟨RX1, TX1, 10, rfl, rfl, by decide, mg93, inG1, tyX1_ok, nmX1, rfl⟩
theorem mg95 : Cond.fieldLink RX7 56 (TX1 5).1 (TX1 5).2.1 (TX1 5).2.2.1 ∈ lw_good := List.mem_filter.mpr ⟨List.mem_append_right _ (List.mem_of_getElem? (i := 95) (by decide +kernel)), by decide +kernel⟩
theorem f_X7_56 : fOK RX7 56 1 5 := ⟨RX1, TX1, 10, rfl, rfl, by decide, mg95, inG1, tyX1_ok, nmX1, rfl⟩
theorem mg97 : Cond.fieldLink RX7 58 (TX1 6).1 (TX1 6).2.1 (TX1 6).2.2.1 ∈ lw_good := List.mem_filter.mpr ⟨List.mem_append_right _ (List.mem_of_getElem? (i := 97) (by decide +kernel)), by decide +kernel⟩
theorem f_X7_58 : fOK RX7 58 1 6 := ⟨RX1, TX1, 10, rfl, rfl, by decide, mg97, inG1, tyX1_ok, nmX1, rfl⟩
theorem mg105 : Cond.fieldLink RX7 60 (TX1 9).1 (TX1 9).2.1 (TX1 9).2.2.1 ∈ lw_good := List.mem_filter.mpr ⟨List.mem_append_right _ (List.mem_of_getElem? (i := 105) (by decide +kernel)), by decide +kernel⟩
theorem f_X7_60 : fOK RX7 60 1 9 := ⟨RX1, TX1, 10, rfl, rfl, by decide, mg105, inG1, tyX1_ok, nmX1, rfl⟩
theorem mg232 : Cond.fieldLink RX7 62 (TX7 7).1 (TX7 7).2.1 (TX7 7).2.2.1 ∈ lw_good := List.mem_filter.mpr ⟨List.mem_append_right _ (List.mem_of_getElem? (i := 232) (by decide +kernel)), by decide +kernel⟩
theorem f_X7_62 : fOK RX7 62 7 7 := ⟨RX7, TX7, 11, rfl, rfl, by decide, mg232, inG7, tyX7_ok, nmX7, rfl⟩
theorem mg239 : Cond.fieldLink RX7 65 (TX7 10).1 (TX7 10).2.1 (TX7 10).2.2.1 ∈ lw_good := List.mem_filter.mpr ⟨List.mem_append_right _ (List.mem_of_getElem? (i := 239) (by decide +kernel)), by decide +kernel⟩
theorem f_X7_65 : fOK RX7 65 7 10 := ⟨RX7, TX7, 11, rfl, rfl, by decide, mg239, inG7, tyX7_ok, nmX7, rfl⟩
theorem mg208 : Cond.fieldLink RX7 9 (TX7 0).1 (TX7 0).2.1 (TX7 0).2.2.1 ∈ lw_good := List.mem_filter.mpr ⟨List.mem_append_right _ (List.mem_of_getElem? (i := 208) (by decide +kernel)), by decide +kernel⟩
theorem f_X7_9 : fOK RX7 9 7 0 := ⟨RX7, TX7, 11, rfl, rfl, by decide, mg208, inG7, tyX7_ok, nmX7, rfl⟩
theorem mg288 : Cond.fieldLink RX8 13 (TX8 1).1 (TX8 1).2.1 (TX8 1).2.2.1 ∈ lw_good := List.mem_filter.mpr ⟨List.mem_append_right _ (List.mem_of_getElem? (i := 288) (by decide +kernel)), by decide +kernel⟩
theorem f_X8_13 : fOK RX8 13 8 1 := ⟨RX8, TX8, 2, rfl, rfl, by decide, mg288, inG8, tyX8_ok, nmX8, rfl⟩
theorem mg231 : Cond.fieldLink RX8 16 (TX7 7).1 (TX7 7).2.1 (TX7 7).2.2.1 ∈ lw_good := List.mem_filter.mpr ⟨List.mem_append_right _ (List.mem_of_getElem? (i := 231) (by decide +kernel)), by decide +kernel⟩
theorem f_X8_16 : fOK RX8 16 7 7 := ⟨RX7, TX7, 11, rfl, rfl, by decide, mg231, inG7, tyX7_ok, nmX7, rfl⟩
theorem mg173 : Cond.fieldLink RX8 22 (TX5 0).1 (TX5 0).2.1 (TX5 0).2.2.1 ∈ lw_good := List.mem_filter.mpr ⟨List.mem_append_right _ (List.mem_of_getElem? (i := 173) (by decide +kernel)), by decide +kernel⟩
theorem f_X8_22 : fOK RX8 22 5 0 := ⟨RX5, TX5, 4, rfl, rfl, by decide, mg173, inG5, tyX5_ok, nmX5, rfl⟩
theorem mg209 : Cond.fieldLink RX8 34 (TX7 0).1 (TX7 0).2.1 (TX7 0).2.2.1 ∈ lw_good := List.mem_filter.mpr ⟨List.mem_append_right _ (List.mem_of_getElem? (i := 209) (by decide +kernel)), by decide +kernel⟩
theorem f_X8_34 : fOK RX8 34 7 0 := ⟨RX7, TX7, 11, rfl, rfl, by decide, mg209, inG7, tyX7_ok, nmX7, rfl⟩
theorem mg214 : Cond.fieldLink RX8 38 (TX7 1).1 (TX7 1).2.1 (TX7 1).2.2.1 ∈ lw_good := List.mem_filter.mpr ⟨List.mem_append_right _ (List.mem_of_getElem? (i := 214) (by decide +kernel)), by decide +kernel⟩
theorem f_X8_38 : fOK RX8 38 7 1 := ⟨RX7, TX7, 11, rfl, rfl, by decide, mg214, inG7, tyX7_ok, nmX7, rfl⟩
theorem mg287 : Cond.fieldLink RX8 7 (TX8 0).1 (TX8 0).2.1 (TX8 0).2.2.1 ∈ lw_good := List.mem_filter.mpr ⟨List.mem_append_right _ (List.mem_of_getElem? (i := 287) (by decide +kernel)), by decide +kernel⟩
theorem f_X8_7 : fOK RX8 7 8 0 := ⟨RX8, TX8, 2, rfl, rfl, by decide, mg287, inG8, tyX8_ok, nmX8, rfl⟩
theorem mg272 : Cond.fieldLink RX9 15 (TX9 1).1 (TX9 1).2.1 (TX9 1).2.2.1 ∈ lw_good := List.mem_filter.mpr ⟨List.mem_append_right _ (List.mem_of_getElem? (i := 272) (by decide +kernel)), by decide +kernel⟩
theorem f_X9_15 : fOK RX9 15 9 1 := ⟨RX9, TX9, 3, rfl, rfl, by decide, mg272, inG9, tyX9_ok, nmX9, rfl⟩
theorem mg273 : Cond.fieldLink RX9 18 (TX9 2).1 (TX9 2).2.1 (TX9 2).2.2.1 ∈ lw_good := List.mem_filter.mpr ⟨List.mem_append_right _ (List.mem_of_getElem? (i := 273) (by decide +kernel)), by decide +kernel⟩
theorem f_X9_18 : fOK RX9 18 9 2 := ⟨RX9, TX9, 3, rfl, rfl, by decide, mg273, inG9, tyX9_ok, nmX9, rfl⟩
theorem mg222 : Cond.fieldLink RX9 21 (TX7 3).1 (TX7 3).2.1 (TX7 3).2.2.1 ∈ lw_good := List.mem_filter.mpr ⟨List.mem_append_right _ (List.mem_of_getElem? (i := 222) (by decide +kernel)), by decide +kernel⟩
theorem f_X9_21 : fOK RX9 21 7 3 := ⟨RX7, TX7, 11, rfl, rfl, by decide, mg222, inG7, tyX7_ok, nmX7, rfl⟩
theorem mg225 : Cond.fieldLink RX9 27 (TX7 4).1 (TX7 4).2.1 (TX7 4).2.2.1 ∈ lw_good := List.mem_filter.mpr ⟨List.mem_append_right _ (List.mem_of_getElem? (i := 225) (by decide +kernel)), by decide +kernel⟩
theorem f_X9_27 : fOK RX9 27 7 4 := ⟨RX7, TX7, 11, rfl, rfl, by decide, mg225, inG7, tyX7_ok, nmX7, rfl⟩
theorem mg174 : Cond.fieldLink RX9 36 (TX5 0).1 (TX5 0).2.1 (TX5 0).2.2.1 ∈ lw_good := List.mem_filter.mpr ⟨List.mem_append_right _ (List.mem_of_getElem? (i := 174) (by decide +kernel)), by decide +kernel⟩
theorem f_X9_36 : fOK RX9 36 5 0 := ⟨RX5, TX5, 4, rfl, rfl, by decide, mg174, inG5, tyX5_ok, nmX5, rfl⟩
theorem mg99 : Cond.fieldLink RX9 42 (TX1 7).1 (TX1 7).2.1 (TX1 7).2.2.1 ∈ lw_good := List.mem_filter.mpr ⟨List.mem_append_right _ (List.mem_of_getElem? (i := 99) (by decide +kernel)), by decide +kernel⟩
theorem f_X9_42 : fOK RX9 42 1 7 := ⟨RX1, TX1, 10, rfl, rfl, by decide, mg99, inG1, tyX1_ok, nmX1, rfl⟩
theorem mg81 : Cond.fieldLink RX9 48 (TX1 1).1 (TX1 1).2.1 (TX1 1).2.2.1 ∈ lw_good := List.mem_filter.mpr ⟨List.mem_append_right _ (List.mem_of_getElem? (i := 81) (by decide +kernel)), by decide +kernel⟩
theorem f_X9_48 : fOK RX9 48 1 1 := ⟨RX1, TX1, 10, rfl, rfl, by decide, mg81, inG1, tyX1_ok, nmX1, rfl⟩
theorem mg219 : Cond.fieldLink RX9 51 (TX7 2).1 (TX7 2).2.1 (TX7 2).2.2.1 ∈ lw_good := List.mem_filter.mpr ⟨List.mem_append_right _ (List.mem_of_getElem? (i := 219) (by decide +kernel)), by decide +kernel⟩
theorem f_X9_51 : fOK RX9 51 7 2 := ⟨RX7, TX7, 11, rfl, rfl, by decide, mg219, inG7, tyX7_ok, nmX7, rfl⟩
theorem mg211 : Cond.fieldLink RX9 56 (TX7 0).1 (TX7 0).2.1 (TX7 0).2.2.1 ∈ lw_good := List.mem_filter.mpr ⟨List.mem_append_right _ (List.mem_of_getElem? (i := 211) (by decide +kernel)), by decide +kernel⟩
theorem f_X9_56 : fOK RX9 56 7 0 := ⟨RX7, TX7, 11, rfl, rfl, by decide, mg211, inG7, tyX7_ok, nmX7, rfl⟩
theorem mg216 : Cond.fieldLink RX9 59 (TX7 1).1 (TX7 1).2.1 (TX7 1).2.2.1 ∈ lw_good := List.mem_filter.mpr ⟨List.mem_append_right _ (List.mem_of_getElem? (i := 216) (by decide +kernel)), by decide +kernel⟩
theorem f_X9_59 : fOK RX9 59 7 1 := ⟨RX7, TX7, 11, rfl, rfl, by decide, mg216, inG7, tyX7_ok, nmX7, rfl⟩
theorem mg271 : Cond.fieldLink RX9 9 (TX9 0).1 (TX9 0).2.1 (TX9 0).2.2.1 ∈ lw_good := List.mem_filter.mpr ⟨List.mem_append_right _ (List.mem_of_getElem? (i := 271) (by decide +kernel)), by decide +kernel⟩
theorem f_X9_9 : fOK RX9 9 9 0 := ⟨RX9, TX9, 3, rfl, rfl, by decide, mg271, inG9, tyX9_ok, nmX9, rfl⟩
theorem mg841 : Cond.methodLink RX0 47 Lib.Math.min.name ∈ lw_good := List.mem_filter.mpr ⟨List.mem_append_right _ (List.mem_of_getElem? (i := 841) (by decide +kernel)), by decide +kernel⟩
theorem mg808 : Cond.code Lib.Math.min.name Lib.Math.min.code 2 (some .int) ∈ lw_good := List.mem_filter.mpr ⟨List.mem_append_right _ (List.mem_of_getElem? (i := 808) (by decide +kernel)), by decide +kernel⟩
theorem mg807 : Cond.static Lib.Math.min.name ∈ lw_good := List.mem_filter.mpr ⟨List.mem_append_right _ (List.mem_of_getElem? (i := 807) (by decide +kernel)), by decide +kernel⟩
theorem mg18 : Cond.initialized "java/lang/Math" ∈ lw_good := List.mem_filter.mpr ⟨List.mem_append_right _ (List.mem_of_getElem? (i := 18) (by decide +kernel)), by decide +kernel⟩
theorem mo_X0_47 : mOK RX0 47 Lib.Math.min.name Lib.Math.min.code 2 (some .int) := ⟨mg841, mg807, mg18, mg808⟩
theorem mg619 : Cond.methodLink RX11 308 Lib.MathLoose.abs_long.x ∈ lw_good := List.mem_filter.mpr ⟨List.mem_append_right _ (List.mem_of_getElem? (i := 619) (by decide +kernel)), by decide +kernel⟩
theorem mg621 : Cond.code Lib.MathLoose.abs_long.x Lib.MathLoose.abs_long.code 2 (some .long) ∈ lw_good := List.mem_filter.mpr ⟨List.mem_append_right _ (List.mem_of_getElem? (i := 621) (by decide +kernel)), by decide +kernel⟩
theorem mg620 : Cond.static Lib.MathLoose.abs_long.x ∈ lw_good := List.mem_filter.mpr ⟨List.mem_append_right _ (List.mem_of_getElem? (i := 620) (by decide +kernel)), by decide +kernel⟩
theorem mo_X11_308 : mOK RX11 308 Lib.MathLoose.abs_long.x Lib.MathLoose.abs_long.code 2 (some .long) := ⟨mg619, mg620, mg18, mg621⟩
theorem mg806 : Cond.methodLink RX3 33 Lib.Math.min.name ∈ lw_good := List.mem_filter.mpr ⟨List.mem_append_right _ (List.mem_of_getElem? (i := 806) (by decide +kernel)), by decide +kernel⟩
theorem mo_X3_33 : mOK RX3 33 Lib.Math.min.name Lib.Math.min.code 2 (some .int) := ⟨mg806, mg807, mg18, mg808⟩
theorem mg809 : Cond.methodLink RX3 45 Lib.Math.max.name ∈ lw_good := List.mem_filter.mpr ⟨List.mem_append_right _ (List.mem_of_getElem? (i := 809) (by decide +kernel)), by decide +kernel⟩
theorem mg811 : Cond.code Lib.Math.max.name Lib.Math.max.code 2 (some .int) ∈ lw_good := List.mem_filter.mpr ⟨List.mem_append_right _ (List.mem_of_getElem? (i := 811) (by decide +kernel)), by decide +kernel⟩
theorem mg810 : Cond.static Lib.Math.max.name ∈ lw_good := List.mem_filter.mpr ⟨List.mem_append_right _ (List.mem_of_getElem? (i := 810) (by decide +kernel)), by decide +kernel⟩
theorem mo_X3_45 : mOK RX3 45 Lib.Math.max.name Lib.Math.max.code 2 (some .int) := ⟨mg809, mg810, mg18, mg811⟩
theorem mg688 : Cond.methodLink RX9 30 Lib.MathLoose.abs_long.x ∈ lw_good := List.mem_filter.mpr ⟨List.mem_append_right _ (List.mem_of_getElem? (i := 688) (by decide +kernel)), by decide +kernel⟩
theorem mo_X9_30 : mOK RX9 30 Lib.MathLoose.abs_long.x Lib.MathLoose.abs_long.code 2 (some .long) := ⟨mg688, mg620, mg18, mg621⟩
theorem mg1109 : (Cond.constantLong "CopyArmsModel" (101 : Nat) (37 : Int64)) ∈ lw_good := List.mem_filter.mpr ⟨List.mem_append_right _ (List.mem_of_getElem? (i := 1109) (by decide +kernel)), by decide +kernel⟩
theorem mg1116 : (Cond.constantLong "CopyArmsModel" (110 : Nat) (10 : Int64)) ∈ lw_good := List.mem_filter.mpr ⟨List.mem_append_right _ (List.mem_of_getElem? (i := 1116) (by decide +kernel)), by decide +kernel⟩
theorem mg1117 : (Cond.constantLong "CopyArmsModel" (112 : Nat) (48 : Int64)) ∈ lw_good := List.mem_filter.mpr ⟨List.mem_append_right _ (List.mem_of_getElem? (i := 1117) (by decide +kernel)), by decide +kernel⟩
theorem mg1341 : (Cond.constantLong "CopyArmsModel" (279 : Nat) (-1 : Int64)) ∈ lw_good := List.mem_filter.mpr ⟨List.mem_append_right _ (List.mem_of_getElem? (i := 1341) (by decide +kernel)), by decide +kernel⟩
theorem mg1362 : (Cond.constant "CopyArmsModel" (297 : Nat) (100000000 : Int32)) ∈ lw_good := List.mem_filter.mpr ⟨List.mem_append_right _ (List.mem_of_getElem? (i := 1362) (by decide +kernel)), by decide +kernel⟩
theorem mg416 : (Cond.constantLong "CopyArms$Tape" (15 : Nat) (255 : Int64)) ∈ lw_good := List.mem_filter.mpr ⟨List.mem_append_right _ (List.mem_of_getElem? (i := 416) (by decide +kernel)), by decide +kernel⟩
theorem mg439 : (Cond.constantLong "CopyArms$Tape" (228 : Nat) (32 : Int64)) ∈ lw_good := List.mem_filter.mpr ⟨List.mem_append_right _ (List.mem_of_getElem? (i := 439) (by decide +kernel)), by decide +kernel⟩
theorem mg447 : (Cond.constantLong "CopyArms$Tape" (230 : Nat) (10 : Int64)) ∈ lw_good := List.mem_filter.mpr ⟨List.mem_append_right _ (List.mem_of_getElem? (i := 447) (by decide +kernel)), by decide +kernel⟩
theorem mg448 : (Cond.constantLong "CopyArms$Tape" (224 : Nat) (44 : Int64)) ∈ lw_good := List.mem_filter.mpr ⟨List.mem_append_right _ (List.mem_of_getElem? (i := 448) (by decide +kernel)), by decide +kernel⟩
theorem mg449 : (Cond.constantLong "CopyArms$Tape" (226 : Nat) (59 : Int64)) ∈ lw_good := List.mem_filter.mpr ⟨List.mem_append_right _ (List.mem_of_getElem? (i := 449) (by decide +kernel)), by decide +kernel⟩
theorem mg561 : (Cond.constantLong "CopyArms$Tape" (174 : Nat) (9 : Int64)) ∈ lw_good := List.mem_filter.mpr ⟨List.mem_append_right _ (List.mem_of_getElem? (i := 561) (by decide +kernel)), by decide +kernel⟩
theorem mg693 : (Cond.constantLong "CopyArms$Spot" (54 : Nat) (10 : Int64)) ∈ lw_good := List.mem_filter.mpr ⟨List.mem_append_right _ (List.mem_of_getElem? (i := 693) (by decide +kernel)), by decide +kernel⟩
theorem mg705 : (Cond.constant "java/lang/Integer" (265 : Nat) (1431655765 : Int32)) ∈ lw_good := List.mem_filter.mpr ⟨List.mem_append_right _ (List.mem_of_getElem? (i := 705) (by decide +kernel)), by decide +kernel⟩
theorem mg706 : (Cond.constant "java/lang/Integer" (266 : Nat) (858993459 : Int32)) ∈ lw_good := List.mem_filter.mpr ⟨List.mem_append_right _ (List.mem_of_getElem? (i := 706) (by decide +kernel)), by decide +kernel⟩
theorem mg707 : (Cond.constant "java/lang/Integer" (267 : Nat) (252645135 : Int32)) ∈ lw_good := List.mem_filter.mpr ⟨List.mem_append_right _ (List.mem_of_getElem? (i := 707) (by decide +kernel)), by decide +kernel⟩
theorem mg739 : (Cond.fieldLink "CopyArms" (320 : Nat) "CopyArms" "CORNER_X" "[I") ∈ lw_good := List.mem_filter.mpr ⟨List.mem_append_right _ (List.mem_of_getElem? (i := 739) (by decide +kernel)), by decide +kernel⟩
theorem mg741 : (Cond.fieldLink "CopyArms" (323 : Nat) "CopyArms" "CORNER_Y" "[I") ∈ lw_good := List.mem_filter.mpr ⟨List.mem_append_right _ (List.mem_of_getElem? (i := 741) (by decide +kernel)), by decide +kernel⟩
theorem mg751 : (Cond.constantLong "CopyArms" (264 : Nat) (-1 : Int64)) ∈ lw_good := List.mem_filter.mpr ⟨List.mem_append_right _ (List.mem_of_getElem? (i := 751) (by decide +kernel)), by decide +kernel⟩
theorem mg828 : (Cond.constant "CopyArms$Ancestry" (38 : Nat) (5764801 : Int32)) ∈ lw_good := List.mem_filter.mpr ⟨List.mem_append_right _ (List.mem_of_getElem? (i := 828) (by decide +kernel)), by decide +kernel⟩
theorem mg829 : (Cond.fieldLink "CopyArms$Ancestry" (40 : Nat) "CopyArms$Ancestry" "DIGIT" "[I") ∈ lw_good := List.mem_filter.mpr ⟨List.mem_append_right _ (List.mem_of_getElem? (i := 829) (by decide +kernel)), by decide +kernel⟩
theorem mg831 : (Cond.constant "CopyArms$Ancestry" (37 : Nat) (2147483647 : Int32)) ∈ lw_good := List.mem_filter.mpr ⟨List.mem_append_right _ (List.mem_of_getElem? (i := 831) (by decide +kernel)), by decide +kernel⟩
theorem mg836 : (Cond.constant "CopyArms$Ancestry" (39 : Nat) (823543 : Int32)) ∈ lw_good := List.mem_filter.mpr ⟨List.mem_append_right _ (List.mem_of_getElem? (i := 836) (by decide +kernel)), by decide +kernel⟩
theorem kb_m99 : (Int8.ofInt (-99)).toInt32 = (-99) := by decide
theorem kb_m9 : (Int8.ofInt (-9)).toInt32 = (-9) := by decide
theorem kb_6 : (Int8.ofInt 6).toInt32 = 6 := by decide
theorem kb_7 : (Int8.ofInt 7).toInt32 = 7 := by decide
theorem kb_8 : (Int8.ofInt 8).toInt32 = 8 := by decide
theorem kb_9 : (Int8.ofInt 9).toInt32 = 9 := by decide
theorem kb_10 : (Int8.ofInt 10).toInt32 = 10 := by decide
theorem kb_11 : (Int8.ofInt 11).toInt32 = 11 := by decide
theorem kb_12 : (Int8.ofInt 12).toInt32 = 12 := by decide
theorem kb_13 : (Int8.ofInt 13).toInt32 = 13 := by decide
theorem kb_14 : (Int8.ofInt 14).toInt32 = 14 := by decide
theorem kb_16 : (Int8.ofInt 16).toInt32 = 16 := by decide
theorem kb_21 : (Int8.ofInt 21).toInt32 = 21 := by decide
theorem kb_32 : (Int8.ofInt 32).toInt32 = 32 := by decide
theorem kb_44 : (Int8.ofInt 44).toInt32 = 44 := by decide
theorem kb_48 : (Int8.ofInt 48).toInt32 = 48 := by decide
theorem kb_56 : (Int8.ofInt 56).toInt32 = 56 := by decide
theorem kb_57 : (Int8.ofInt 57).toInt32 = 57 := by decide
theorem kb_59 : (Int8.ofInt 59).toInt32 = 59 := by decide
theorem kb_63 : (Int8.ofInt 63).toInt32 = 63 := by decide
theorem kb_64 : (Int8.ofInt 64).toInt32 = 64 := by decide
theorem kb_85 : (Int8.ofInt 85).toInt32 = 85 := by decide
theorem kb_86 : (Int8.ofInt 86).toInt32 = 86 := by decide
theorem kb_90 : (Int8.ofInt 90).toInt32 = 90 := by decide
theorem kb_96 : (Int8.ofInt 96).toInt32 = 96 := by decide
theorem kb_97 : (Int8.ofInt 97).toInt32 = 97 := by decide
theorem kb_99 : (Int8.ofInt 99).toInt32 = 99 := by decide
theorem kb_100 : (Int8.ofInt 100).toInt32 = 100 := by decide
theorem kb_110 : (Int8.ofInt 110).toInt32 = 110 := by decide
theorem kb_111 : (Int8.ofInt 111).toInt32 = 111 := by decide
theorem kb_120 : (Int8.ofInt 120).toInt32 = 120 := by decide
theorem kb_121 : (Int8.ofInt 121).toInt32 = 121 := by decide
theorem kb_122 : (Int8.ofInt 122).toInt32 = 122 := by decide
theorem kb_126 : (Int8.ofInt 126).toInt32 = 126 := by decide
theorem k_m1 : Int32.ofInt (-1) = (-1) := by decide
theorem k_0 : Int32.ofInt 0 = 0 := by decide
theorem k_1 : Int32.ofInt 1 = 1 := by decide
theorem k_2 : Int32.ofInt 2 = 2 := by decide
theorem k_3 : Int32.ofInt 3 = 3 := by decide
theorem k_4 : Int32.ofInt 4 = 4 := by decide
theorem k_5 : Int32.ofInt 5 = 5 := by decide
theorem ks_m9999 : (Int16.ofInt (-9999)).toInt32 = (-9999) := by decide
theorem ks_m999 : (Int16.ofInt (-999)).toInt32 = (-999) := by decide
theorem ks_198 : (Int16.ofInt 198).toInt32 = 198 := by decide
theorem ks_200 : (Int16.ofInt 200).toInt32 = 200 := by decide
theorem ks_255 : (Int16.ofInt 255).toInt32 = 255 := by decide
theorem ks_999 : (Int16.ofInt 999).toInt32 = 999 := by decide
theorem ks_1000 : (Int16.ofInt 1000).toInt32 = 1000 := by decide
theorem ks_9999 : (Int16.ofInt 9999).toInt32 = 9999 := by decide
theorem ks_10000 : (Int16.ofInt 10000).toInt32 = 10000 := by decide
