abbrev mX0_init : Mi := (yX0_init, cX0_init, 1, none)
abbrev fX0_init : Nat := 1
abbrev lX0_init : Nat := 20
abbrev mX0_begin : Mi := (yX0_begin, cX0_begin, 1, none)
abbrev fX0_begin : Nat := 0
abbrev lX0_begin : Nat := 0
abbrev mX0_addSpan : Mi := (yX0_addSpan, cX0_addSpan, 3, none)
abbrev fX0_addSpan : Nat := 0
abbrev lX0_addSpan : Nat := 0
abbrev mX0_settle : Mi := (yX0_settle, cX0_settle, 3, none)
abbrev fX0_settle : Nat := 1
abbrev lX0_settle : Nat := 23
abbrev mX0_spansIn : Mi := (yX0_spansIn, cX0_spansIn, 4, some .int)
abbrev fX0_spansIn : Nat := 0
abbrev lX0_spansIn : Nat := 0
abbrev mX0_found : Mi := (yX0_found, cX0_found, 2, some .int)
abbrev fX0_found : Nat := 0
abbrev lX0_found : Nat := 0
abbrev mX1_init : Mi := (yX1_init, cX1_init, 1, none)
abbrev fX1_init : Nat := 1
abbrev lX1_init : Nat := 20
abbrev mX1_reset : Mi := (yX1_reset, cX1_reset, 1, none)
abbrev fX1_reset : Nat := 0
abbrev lX1_reset : Nat := 0
abbrev mX1_tellInto : Mi := (yX1_tellInto, cX1_tellInto, 3, none)
abbrev fX1_tellInto : Nat := 0
abbrev lX1_tellInto : Nat := 0
abbrev mX1_tellAhead : Mi := (yX1_tellAhead, cX1_tellAhead, 3, none)
abbrev fX1_tellAhead : Nat := 0
abbrev lX1_tellAhead : Nat := 0
abbrev mX1_goesInto : Mi := (yX1_goesInto, cX1_goesInto, 3, some .boolean)
abbrev fX1_goesInto : Nat := 0
abbrev lX1_goesInto : Nat := 0
abbrev mX1_isAhead : Mi := (yX1_isAhead, cX1_isAhead, 3, some .boolean)
abbrev fX1_isAhead : Nat := 0
abbrev lX1_isAhead : Nat := 0
abbrev mX1_value : Mi := (yX1_value, cX1_value, 2, some .int)
abbrev fX1_value : Nat := 2
abbrev lX1_value : Nat := 43
abbrev mX1_kindValue : Mi := (yX1_kindValue, cX1_kindValue, 2, some .int)
abbrev fX1_kindValue : Nat := 1
abbrev lX1_kindValue : Nat := 22
abbrev mX2_init : Mi := (yX2_init, cX2_init, 1, none)
abbrev fX2_init : Nat := 1
abbrev lX2_init : Nat := 20
abbrev mX2_faultKind : Mi := (yX2_faultKind, cX2_faultKind, 1, some .int)
abbrev fX2_faultKind : Nat := 0
abbrev lX2_faultKind : Nat := 0
abbrev mX2_faultPlace : Mi := (yX2_faultPlace, cX2_faultPlace, 1, some .int)
abbrev fX2_faultPlace : Nat := 0
abbrev lX2_faultPlace : Nat := 0
abbrev mX2_parse : Mi := (yX2_parse, cX2_parse, 4, some .int)
abbrev fX2_parse : Nat := 9
abbrev lX2_parse : Nat := 202
abbrev mX2_readLine : Mi := (yX2_readLine, cX2_readLine, 4, none)
abbrev fX2_readLine : Nat := 4
abbrev lX2_readLine : Nat := 89
abbrev mX2_beginsLine : Mi := (yX2_beginsLine, cX2_beginsLine, 2, some .boolean)
abbrev fX2_beginsLine : Nat := 2
abbrev lX2_beginsLine : Nat := 41
abbrev mX2_readRule : Mi := (yX2_readRule, cX2_readRule, 3, none)
abbrev fX2_readRule : Nat := 3
abbrev lX2_readRule : Nat := 65
abbrev mX2_readKinds : Mi := (yX2_readKinds, cX2_readKinds, 5, none)
abbrev fX2_readKinds : Nat := 3
abbrev lX2_readKinds : Nat := 65
abbrev mX2_readWord : Mi := (yX2_readWord, cX2_readWord, 4, some .int)
abbrev fX2_readWord : Nat := 2
abbrev lX2_readWord : Nat := 42
abbrev mX2_readNumber : Mi := (yX2_readNumber, cX2_readNumber, 4, some .int)
abbrev fX2_readNumber : Nat := 2
abbrev lX2_readNumber : Nat := 42
abbrev mX2_token : Mi := (yX2_token, cX2_token, 1, some .int)
abbrev fX2_token : Nat := 1
abbrev lX2_token : Nat := 21
abbrev mX2_value : Mi := (yX2_value, cX2_value, 1, some .int)
abbrev fX2_value : Nat := 1
abbrev lX2_value : Nat := 21
abbrev mX2_fail : Mi := (yX2_fail, cX2_fail, 2, none)
abbrev fX2_fail : Nat := 1
abbrev lX2_fail : Nat := 21
abbrev mX2_split : Mi := (yX2_split, cX2_split, 3, none)
abbrev fX2_split : Nat := 8
abbrev lX2_split : Nat := 180
abbrev mX2_beginsToken : Mi := (yX2_beginsToken, cX2_beginsToken, 4, some .boolean)
abbrev fX2_beginsToken : Nat := 1
abbrev lX2_beginsToken : Nat := 21
abbrev mX2_keepToken : Mi := (yX2_keepToken, cX2_keepToken, 5, none)
abbrev fX2_keepToken : Nat := 7
abbrev lX2_keepToken : Nat := 156
abbrev mX2_keep : Mi := (yX2_keep, cX2_keep, 4, none)
abbrev fX2_keep : Nat := 0
abbrev lX2_keep : Nat := 0
abbrev mX2_endOfLetters : Mi := (yX2_endOfLetters, cX2_endOfLetters, 3, some .int)
abbrev fX2_endOfLetters : Nat := 1
abbrev lX2_endOfLetters : Nat := 21
abbrev mX2_endOfDigits : Mi := (yX2_endOfDigits, cX2_endOfDigits, 3, some .int)
abbrev fX2_endOfDigits : Nat := 1
abbrev lX2_endOfDigits : Nat := 21
abbrev mX2_numberAt : Mi := (yX2_numberAt, cX2_numberAt, 5, some .int)
abbrev fX2_numberAt : Nat := 1
abbrev lX2_numberAt : Nat := 21
abbrev mX2_wordNumber : Mi := (yX2_wordNumber, cX2_wordNumber, 4, some .int)
abbrev fX2_wordNumber : Nat := 6
abbrev lX2_wordNumber : Nat := 133
abbrev mX2_isWord : Mi := (yX2_isWord, cX2_isWord, 8, some .boolean)
abbrev fX2_isWord : Nat := 5
abbrev lX2_isWord : Nat := 106
abbrev mX2_isBlank : Mi := (yX2_isBlank, cX2_isBlank, 1, some .boolean)
abbrev fX2_isBlank : Nat := 0
abbrev lX2_isBlank : Nat := 0
abbrev mX2_isLetter : Mi := (yX2_isLetter, cX2_isLetter, 1, some .boolean)
abbrev fX2_isLetter : Nat := 0
abbrev lX2_isLetter : Nat := 0
abbrev mX2_isDigit : Mi := (yX2_isDigit, cX2_isDigit, 1, some .boolean)
abbrev fX2_isDigit : Nat := 0
abbrev lX2_isDigit : Nat := 0
abbrev mX3_init : Mi := (yX3_init, cX3_init, 1, none)
abbrev fX3_init : Nat := 1
abbrev lX3_init : Nat := 23
abbrev mX3_gather : Mi := (yX3_gather, cX3_gather, 6, none)
abbrev fX3_gather : Nat := 3
abbrev lX3_gather : Nat := 66
abbrev mX3_addFrame : Mi := (yX3_addFrame, cX3_addFrame, 5, none)
abbrev fX3_addFrame : Nat := 0
abbrev lX3_addFrame : Nat := 0
abbrev mX3_countPairs : Mi := (yX3_countPairs, cX3_countPairs, 5, none)
abbrev fX3_countPairs : Nat := 2
abbrev lX3_countPairs : Nat := 42
abbrev mX3_isMember : Mi := (yX3_isMember, cX3_isMember, 1, some .boolean)
abbrev fX3_isMember : Nat := 0
abbrev lX3_isMember : Nat := 0
abbrev mX3_size : Mi := (yX3_size, cX3_size, 1, some .int)
abbrev fX3_size : Nat := 0
abbrev lX3_size : Nat := 0
abbrev mX3_holding : Mi := (yX3_holding, cX3_holding, 2, some .int)
abbrev fX3_holding : Nat := 1
abbrev lX3_holding : Nat := 21
abbrev mX3_membersOf : Mi := (yX3_membersOf, cX3_membersOf, 2, some .int)
abbrev fX3_membersOf : Nat := 1
abbrev lX3_membersOf : Nat := 21
abbrev mX3_matesOf : Mi := (yX3_matesOf, cX3_matesOf, 2, some .int)
abbrev fX3_matesOf : Nat := 1
abbrev lX3_matesOf : Nat := 20
abbrev mX3_pairsOf : Mi := (yX3_pairsOf, cX3_pairsOf, 2, some .int)
abbrev fX3_pairsOf : Nat := 1
abbrev lX3_pairsOf : Nat := 21
abbrev mX3_isRaised : Mi := (yX3_isRaised, cX3_isRaised, 2, some .boolean)
abbrev fX3_isRaised : Nat := 0
abbrev lX3_isRaised : Nat := 0
abbrev mX3_keepRaising : Mi := (yX3_keepRaising, cX3_keepRaising, 6, none)
abbrev fX3_keepRaising : Nat := 0
abbrev lX3_keepRaising : Nat := 0
abbrev mX3_keepStep : Mi := (yX3_keepStep, cX3_keepStep, 4, none)
abbrev fX3_keepStep : Nat := 1
abbrev lX3_keepStep : Nat := 20
abbrev mX3_mostOf : Mi := (yX3_mostOf, cX3_mostOf, 2, some .int)
abbrev fX3_mostOf : Nat := 1
abbrev lX3_mostOf : Nat := 21
abbrev mX3_ordersOf : Mi := (yX3_ordersOf, cX3_ordersOf, 2, some .long)
abbrev fX3_ordersOf : Nat := 0
abbrev lX3_ordersOf : Nat := 0
abbrev mX3_stepOf : Mi := (yX3_stepOf, cX3_stepOf, 3, some .int)
abbrev fX3_stepOf : Nat := 1
abbrev lX3_stepOf : Nat := 21
abbrev mX4_init : Mi := (yX4_init, cX4_init, 1, none)
abbrev fX4_init : Nat := 1
abbrev lX4_init : Nat := 23
abbrev mX4_begin : Mi := (yX4_begin, cX4_begin, 1, none)
abbrev fX4_begin : Nat := 1
abbrev lX4_begin : Nat := 23
abbrev mX4_keepNumbers : Mi := (yX4_keepNumbers, cX4_keepNumbers, 4, none)
abbrev fX4_keepNumbers : Nat := 0
abbrev lX4_keepNumbers : Nat := 0
abbrev mX4_shareNumber : Mi := (yX4_shareNumber, cX4_shareNumber, 3, some .boolean)
abbrev fX4_shareNumber : Nat := 0
abbrev lX4_shareNumber : Nat := 0
abbrev mX4_addArc : Mi := (yX4_addArc, cX4_addArc, 4, none)
abbrev fX4_addArc : Nat := 0
abbrev lX4_addArc : Nat := 0
abbrev mX4_fill : Mi := (yX4_fill, cX4_fill, 2, none)
abbrev fX4_fill : Nat := 3
abbrev lX4_fill : Nat := 70
abbrev mX4_chooseHoles : Mi := (yX4_chooseHoles, cX4_chooseHoles, 2, none)
abbrev fX4_chooseHoles : Nat := 3
abbrev lX4_chooseHoles : Nat := 70
abbrev mX4_findForced : Mi := (yX4_findForced, cX4_findForced, 4, none)
abbrev fX4_findForced : Nat := 3
abbrev lX4_findForced : Nat := 70
abbrev mX4_pairCount : Mi := (yX4_pairCount, cX4_pairCount, 1, some .int)
abbrev fX4_pairCount : Nat := 0
abbrev lX4_pairCount : Nat := 0
abbrev mX4_moreInAll : Mi := (yX4_moreInAll, cX4_moreInAll, 1, some .int)
abbrev fX4_moreInAll : Nat := 0
abbrev lX4_moreInAll : Nat := 0
abbrev mX4_forcedCount : Mi := (yX4_forcedCount, cX4_forcedCount, 1, some .int)
abbrev fX4_forcedCount : Nat := 1
abbrev lX4_forcedCount : Nat := 21
abbrev mX4_partnerOf : Mi := (yX4_partnerOf, cX4_partnerOf, 2, some .int)
abbrev fX4_partnerOf : Nat := 1
abbrev lX4_partnerOf : Nat := 21
abbrev mX4_isForced : Mi := (yX4_isForced, cX4_isForced, 2, some .boolean)
abbrev fX4_isForced : Nat := 1
abbrev lX4_isForced : Nat := 22
abbrev mX4_chooseFirstHole : Mi := (yX4_chooseFirstHole, cX4_chooseFirstHole, 4, none)
abbrev fX4_chooseFirstHole : Nat := 2
abbrev lX4_chooseFirstHole : Nat := 47
abbrev mX4_measureTo : Mi := (yX4_measureTo, cX4_measureTo, 4, none)
abbrev fX4_measureTo : Nat := 2
abbrev lX4_measureTo : Nat := 47
abbrev mX4_relaxArcs : Mi := (yX4_relaxArcs, cX4_relaxArcs, 5, some .boolean)
abbrev fX4_relaxArcs : Nat := 1
abbrev lX4_relaxArcs : Nat := 23
abbrev mX4_relaxEnds : Mi := (yX4_relaxEnds, cX4_relaxEnds, 4, some .boolean)
abbrev fX4_relaxEnds : Nat := 1
abbrev lX4_relaxEnds : Nat := 23
abbrev mX4_relax : Mi := (yX4_relax, cX4_relax, 4, some .boolean)
abbrev fX4_relax : Nat := 0
abbrev lX4_relax : Nat := 0
abbrev mX4_turnOver : Mi := (yX4_turnOver, cX4_turnOver, 6, none)
abbrev fX4_turnOver : Nat := 1
abbrev lX4_turnOver : Nat := 22
abbrev mX4_tie : Mi := (yX4_tie, cX4_tie, 3, none)
abbrev fX4_tie : Nat := 0
abbrev lX4_tie : Nat := 0
abbrev mX4_has : Mi := (yX4_has, cX4_has, 3, some .boolean)
abbrev fX4_has : Nat := 0
abbrev lX4_has : Nat := 0
abbrev mX5_init : Mi := (yX5_init, cX5_init, 1, none)
abbrev fX5_init : Nat := 1
abbrev lX5_init : Nat := 20
abbrev mX5_tell : Mi := (yX5_tell, cX5_tell, 5, some .boolean)
abbrev fX5_tell : Nat := 0
abbrev lX5_tell : Nat := 0
abbrev mX5_measure : Mi := (yX5_measure, cX5_measure, 4, none)
abbrev fX5_measure : Nat := 2
abbrev lX5_measure : Nat := 45
abbrev mX5_isToldAnew : Mi := (yX5_isToldAnew, cX5_isToldAnew, 4, some .boolean)
abbrev fX5_isToldAnew : Nat := 0
abbrev lX5_isToldAnew : Nat := 0
abbrev mX5_findRate : Mi := (yX5_findRate, cX5_findRate, 5, none)
abbrev fX5_findRate : Nat := 1
abbrev lX5_findRate : Nat := 21
abbrev mX5_measured : Mi := (yX5_measured, cX5_measured, 2, some .int)
abbrev fX5_measured : Nat := 0
abbrev lX5_measured : Nat := 0
abbrev mX5_fallYear : Mi := (yX5_fallYear, cX5_fallYear, 4, some .int)
abbrev fX5_fallYear : Nat := 1
abbrev lX5_fallYear : Nat := 20
abbrev mX6_init : Mi := (yX6_init, cX6_init, 1, none)
abbrev fX6_init : Nat := 1
abbrev lX6_init : Nat := 23
abbrev mX6_tell : Mi := (yX6_tell, cX6_tell, 7, some .int)
abbrev fX6_tell : Nat := 1
abbrev lX6_tell : Nat := 21
abbrev mX6_isSign : Mi := (yX6_isSign, cX6_isSign, 1, some .boolean)
abbrev fX6_isSign : Nat := 0
abbrev lX6_isSign : Nat := 0
abbrev mX6_showUpTo : Mi := (yX6_showUpTo, cX6_showUpTo, 4, none)
abbrev fX6_showUpTo : Nat := 1
abbrev lX6_showUpTo : Nat := 23
abbrev mX6_signsOn : Mi := (yX6_signsOn, cX6_signsOn, 2, some .int)
abbrev fX6_signsOn : Nat := 1
abbrev lX6_signsOn : Nat := 21
abbrev mX6_sideOf : Mi := (yX6_sideOf, cX6_sideOf, 2, some .int)
abbrev fX6_sideOf : Nat := 1
abbrev lX6_sideOf : Nat := 21
abbrev mX6_signAt : Mi := (yX6_signAt, cX6_signAt, 3, some .int)
abbrev fX6_signAt : Nat := 2
abbrev lX6_signAt : Nat := 42
abbrev mX6_numbersOn : Mi := (yX6_numbersOn, cX6_numbersOn, 9, some .long)
abbrev fX6_numbersOn : Nat := 7
abbrev lX6_numbersOn : Nat := 156
abbrev mX6_unitOf : Mi := (yX6_unitOf, cX6_unitOf, 1, some .int)
abbrev fX6_unitOf : Nat := 0
abbrev lX6_unitOf : Nat := 0
abbrev mX6_isUsed : Mi := (yX6_isUsed, cX6_isUsed, 2, some .boolean)
abbrev fX6_isUsed : Nat := 0
abbrev lX6_isUsed : Nat := 0
abbrev mX6_spells : Mi := (yX6_spells, cX6_spells, 9, some .boolean)
abbrev fX6_spells : Nat := 6
abbrev lX6_spells : Nat := 128
abbrev mX6_unitSign : Mi := (yX6_unitSign, cX6_unitSign, 3, some .int)
abbrev fX6_unitSign : Nat := 5
abbrev lX6_unitSign : Nat := 106
abbrev mX7_init : Mi := (yX7_init, cX7_init, 1, none)
abbrev fX7_init : Nat := 1
abbrev lX7_init : Nat := 20
abbrev mX7_raise : Mi := (yX7_raise, cX7_raise, 8, none)
abbrev fX7_raise : Nat := 3
abbrev lX7_raise : Nat := 68
abbrev mX7_take : Mi := (yX7_take, cX7_take, 4, none)
abbrev fX7_take : Nat := 2
abbrev lX7_take : Nat := 42
abbrev mX7_link : Mi := (yX7_link, cX7_link, 6, none)
abbrev fX7_link : Nat := 2
abbrev lX7_link : Nat := 42
abbrev mX7_makeRoom : Mi := (yX7_makeRoom, cX7_makeRoom, 1, none)
abbrev fX7_makeRoom : Nat := 0
abbrev lX7_makeRoom : Nat := 0
abbrev mX7_countWays : Mi := (yX7_countWays, cX7_countWays, 4, none)
abbrev fX7_countWays : Nat := 0
abbrev lX7_countWays : Nat := 0
abbrev mX7_measureWorst : Mi := (yX7_measureWorst, cX7_measureWorst, 5, none)
abbrev fX7_measureWorst : Nat := 2
abbrev lX7_measureWorst : Nat := 43
abbrev mX7_props : Mi := (yX7_props, cX7_props, 4, some .int)
abbrev fX7_props : Nat := 1
abbrev lX7_props : Nat := 20
abbrev mX7_keepSteps : Mi := (yX7_keepSteps, cX7_keepSteps, 6, none)
abbrev fX7_keepSteps : Nat := 2
abbrev lX7_keepSteps : Nat := 43
abbrev mX8_init : Mi := (yX8_init, cX8_init, 1, none)
abbrev fX8_init : Nat := 1
abbrev lX8_init : Nat := 23
abbrev mX8_tellMaster : Mi := (yX8_tellMaster, cX8_tellMaster, 3, some .boolean)
abbrev fX8_tellMaster : Nat := 0
abbrev lX8_tellMaster : Nat := 0
abbrev mX8_addRing : Mi := (yX8_addRing, cX8_addRing, 4, some .int)
abbrev fX8_addRing : Nat := 0
abbrev lX8_addRing : Nat := 0
abbrev mX8_tellSap : Mi := (yX8_tellSap, cX8_tellSap, 4, some .boolean)
abbrev fX8_tellSap : Nat := 0
abbrev lX8_tellSap : Nat := 0
abbrev mX8_ringsSeen : Mi := (yX8_ringsSeen, cX8_ringsSeen, 4, some .int)
abbrev fX8_ringsSeen : Nat := 0
abbrev lX8_ringsSeen : Nat := 0
abbrev mX8_sapTold : Mi := (yX8_sapTold, cX8_sapTold, 2, some .int)
abbrev fX8_sapTold : Nat := 1
abbrev lX8_sapTold : Nat := 21
abbrev mX8_barkTold : Mi := (yX8_barkTold, cX8_barkTold, 2, some .boolean)
abbrev fX8_barkTold : Nat := 0
abbrev lX8_barkTold : Nat := 0
abbrev mX8_dateBy : Mi := (yX8_dateBy, cX8_dateBy, 8, none)
abbrev fX8_dateBy : Nat := 3
abbrev lX8_dateBy : Nat := 69
abbrev mX8_agreeAt : Mi := (yX8_agreeAt, cX8_agreeAt, 7, some .int)
abbrev fX8_agreeAt : Nat := 2
abbrev lX8_agreeAt : Nat := 43
abbrev mX8_wayTo : Mi := (yX8_wayTo, cX8_wayTo, 3, some .int)
abbrev fX8_wayTo : Nat := 1
abbrev lX8_wayTo : Nat := 21
abbrev mX8_way : Mi := (yX8_way, cX8_way, 2, some .int)
abbrev fX8_way : Nat := 0
abbrev lX8_way : Nat := 0
abbrev mX8_fell : Mi := (yX8_fell, cX8_fell, 4, none)
abbrev fX8_fell : Nat := 1
abbrev lX8_fell : Nat := 21
abbrev mX8_isSure : Mi := (yX8_isSure, cX8_isSure, 1, some .boolean)
abbrev fX8_isSure : Nat := 0
abbrev lX8_isSure : Nat := 0
abbrev mX8_dated : Mi := (yX8_dated, cX8_dated, 2, some .int)
abbrev fX8_dated : Nat := 1
abbrev lX8_dated : Nat := 21
abbrev mX8_felledOrUsed : Mi := (yX8_felledOrUsed, cX8_felledOrUsed, 2, some .int)
abbrev fX8_felledOrUsed : Nat := 0
abbrev lX8_felledOrUsed : Nat := 0
abbrev mX9_init : Mi := (yX9_init, cX9_init, 1, none)
abbrev fX9_init : Nat := 1
abbrev lX9_init : Nat := 20
abbrev mX9_hasRoomFor : Mi := (yX9_hasRoomFor, cX9_hasRoomFor, 2, some .boolean)
abbrev fX9_hasRoomFor : Nat := 0
abbrev lX9_hasRoomFor : Nat := 0
abbrev mX9_push : Mi := (yX9_push, cX9_push, 3, none)
abbrev fX9_push : Nat := 0
abbrev lX9_push : Nat := 0
abbrev mX9_cut : Mi := (yX9_cut, cX9_cut, 2, some .boolean)
abbrev fX9_cut : Nat := 0
abbrev lX9_cut : Nat := 0
abbrev mX9_clear : Mi := (yX9_clear, cX9_clear, 1, none)
abbrev fX9_clear : Nat := 0
abbrev lX9_clear : Nat := 0
abbrev mX9_size : Mi := (yX9_size, cX9_size, 1, some .int)
abbrev fX9_size : Nat := 0
abbrev lX9_size : Nat := 0
abbrev mX9_byteAt : Mi := (yX9_byteAt, cX9_byteAt, 2, some .int)
abbrev fX9_byteAt : Nat := 0
abbrev lX9_byteAt : Nat := 0
abbrev mX10_init : Mi := (yX10_init, cX10_init, 1, none)
abbrev fX10_init : Nat := 1
abbrev lX10_init : Nat := 20
abbrev mX10_addTimber : Mi := (yX10_addTimber, cX10_addTimber, 4, some .int)
abbrev fX10_addTimber : Nat := 0
abbrev lX10_addTimber : Nat := 0
abbrev mX10_addJoint : Mi := (yX10_addJoint, cX10_addJoint, 6, some .int)
abbrev fX10_addJoint : Nat := 1
abbrev lX10_addJoint : Nat := 24
abbrev mX10_hasTimber : Mi := (yX10_hasTimber, cX10_hasTimber, 2, some .boolean)
abbrev fX10_hasTimber : Nat := 0
abbrev lX10_hasTimber : Nat := 0
abbrev mX10_hasJoint : Mi := (yX10_hasJoint, cX10_hasJoint, 2, some .boolean)
abbrev fX10_hasJoint : Nat := 0
abbrev lX10_hasJoint : Nat := 0
abbrev mX10_timbersUpTo : Mi := (yX10_timbersUpTo, cX10_timbersUpTo, 3, some .int)
abbrev fX10_timbersUpTo : Nat := 0
abbrev lX10_timbersUpTo : Nat := 0
abbrev mX10_jointsUpTo : Mi := (yX10_jointsUpTo, cX10_jointsUpTo, 3, some .int)
abbrev fX10_jointsUpTo : Nat := 0
abbrev lX10_jointsUpTo : Nat := 0
abbrev mX10_jointsOf : Mi := (yX10_jointsOf, cX10_jointsOf, 5, some .int)
abbrev fX10_jointsOf : Nat := 0
abbrev lX10_jointsOf : Nat := 0
abbrev mX10_kindOf : Mi := (yX10_kindOf, cX10_kindOf, 2, some .int)
abbrev fX10_kindOf : Nat := 1
abbrev lX10_kindOf : Nat := 21
abbrev mX10_lengthOf : Mi := (yX10_lengthOf, cX10_lengthOf, 2, some .int)
abbrev fX10_lengthOf : Nat := 1
abbrev lX10_lengthOf : Nat := 21
abbrev mX10_dayOf : Mi := (yX10_dayOf, cX10_dayOf, 2, some .int)
abbrev fX10_dayOf : Nat := 1
abbrev lX10_dayOf : Nat := 21
abbrev mX10_timberOf : Mi := (yX10_timberOf, cX10_timberOf, 2, some .int)
abbrev fX10_timberOf : Nat := 1
abbrev lX10_timberOf : Nat := 21
abbrev mX10_placeOf : Mi := (yX10_placeOf, cX10_placeOf, 2, some .int)
abbrev fX10_placeOf : Nat := 1
abbrev lX10_placeOf : Nat := 21
abbrev mX10_sortOf : Mi := (yX10_sortOf, cX10_sortOf, 2, some .int)
abbrev fX10_sortOf : Nat := 1
abbrev lX10_sortOf : Nat := 21
abbrev mX10_sizeOf : Mi := (yX10_sizeOf, cX10_sizeOf, 2, some .int)
abbrev fX10_sizeOf : Nat := 1
abbrev lX10_sizeOf : Nat := 21
abbrev mX11_init : Mi := (yX11_init, cX11_init, 1, none)
abbrev fX11_init : Nat := 2
abbrev lX11_init : Nat := 43
abbrev mX11_days : Mi := (yX11_days, cX11_days, 2, some .int)
abbrev fX11_days : Nat := 0
abbrev lX11_days : Nat := 0
abbrev mX11_view : Mi := (yX11_view, cX11_view, 2, some .boolean)
abbrev fX11_view : Nat := 2
abbrev lX11_view : Nat := 46
abbrev mX11_timber : Mi := (yX11_timber, cX11_timber, 3, some .int)
abbrev fX11_timber : Nat := 1
abbrev lX11_timber : Nat := 23
abbrev mX11_joint : Mi := (yX11_joint, cX11_joint, 6, some .int)
abbrev fX11_joint : Nat := 2
abbrev lX11_joint : Nat := 49
abbrev mX11_feed : Mi := (yX11_feed, cX11_feed, 6, some .int)
abbrev fX11_feed : Nat := 1
abbrev lX11_feed : Nat := 22
abbrev mX11_end : Mi := (yX11_end, cX11_end, 2, some .boolean)
abbrev fX11_end : Nat := 1
abbrev lX11_end : Nat := 21
abbrev mX11_mark : Mi := (yX11_mark, cX11_mark, 3, some .int)
abbrev fX11_mark : Nat := 2
abbrev lX11_mark : Nat := 47
abbrev mX11_custom : Mi := (yX11_custom, cX11_custom, 4, some .int)
abbrev fX11_custom : Nat := 10
abbrev lX11_custom : Nat := 225
abbrev mX11_fault : Mi := (yX11_fault, cX11_fault, 2, some .int)
abbrev fX11_fault : Nat := 1
abbrev lX11_fault : Nat := 20
abbrev mX11_look : Mi := (yX11_look, cX11_look, 2, some .int)
abbrev fX11_look : Nat := 10
abbrev lX11_look : Nat := 232
abbrev mX11_customs : Mi := (yX11_customs, cX11_customs, 3, some .int)
abbrev fX11_customs : Nat := 3
abbrev lX11_customs : Nat := 64
abbrev mX11_of : Mi := (yX11_of, cX11_of, 3, some .int)
abbrev fX11_of : Nat := 3
abbrev lX11_of : Nat := 63
abbrev mX11_at : Mi := (yX11_at, cX11_at, 3, some .int)
abbrev fX11_at : Nat := 3
abbrev lX11_at : Nat := 64
abbrev mX11_reads : Mi := (yX11_reads, cX11_reads, 3, some .long)
abbrev fX11_reads : Nat := 8
abbrev lX11_reads : Nat := 184
abbrev mX11_fits : Mi := (yX11_fits, cX11_fits, 4, some .int)
abbrev fX11_fits : Nat := 9
abbrev lX11_fits : Nat := 207
abbrev mX11_join : Mi := (yX11_join, cX11_join, 3, some .int)
abbrev fX11_join : Nat := 9
abbrev lX11_join : Nat := 208
abbrev mX11_mate : Mi := (yX11_mate, cX11_mate, 3, some .int)
abbrev fX11_mate : Nat := 9
abbrev lX11_mate : Nat := 208
abbrev mX11_forced : Mi := (yX11_forced, cX11_forced, 3, some .int)
abbrev fX11_forced : Nat := 9
abbrev lX11_forced : Nat := 208
abbrev mX11_frameOf : Mi := (yX11_frameOf, cX11_frameOf, 3, some .int)
abbrev fX11_frameOf : Nat := 9
abbrev lX11_frameOf : Nat := 208
abbrev mX11_frame : Mi := (yX11_frame, cX11_frame, 4, some .int)
abbrev fX11_frame : Nat := 10
abbrev lX11_frame : Nat := 230
abbrev mX11_orders : Mi := (yX11_orders, cX11_orders, 3, some .long)
abbrev fX11_orders : Nat := 10
abbrev lX11_orders : Nat := 230
abbrev mX11_raised : Mi := (yX11_raised, cX11_raised, 4, some .int)
abbrev fX11_raised : Nat := 10
abbrev lX11_raised : Nat := 230
abbrev mX11_master : Mi := (yX11_master, cX11_master, 3, some .boolean)
abbrev fX11_master : Nat := 1
abbrev lX11_master : Nat := 22
abbrev mX11_ring : Mi := (yX11_ring, cX11_ring, 3, some .int)
abbrev fX11_ring : Nat := 1
abbrev lX11_ring : Nat := 23
abbrev mX11_sap : Mi := (yX11_sap, cX11_sap, 4, some .boolean)
abbrev fX11_sap : Nat := 1
abbrev lX11_sap : Nat := 23
abbrev mX11_date : Mi := (yX11_date, cX11_date, 4, some .int)
abbrev fX11_date : Nat := 4
abbrev lX11_date : Nat := 96
abbrev mX11_built : Mi := (yX11_built, cX11_built, 5, some .int)
abbrev fX11_built : Nat := 10
abbrev lX11_built : Nat := 230
abbrev mX11_lean : Mi := (yX11_lean, cX11_lean, 4, some .boolean)
abbrev fX11_lean : Nat := 1
abbrev lX11_lean : Nat := 24
abbrev mX11_leans : Mi := (yX11_leans, cX11_leans, 3, some .int)
abbrev fX11_leans : Nat := 3
abbrev lX11_leans : Nat := 68
abbrev mX11_falls : Mi := (yX11_falls, cX11_falls, 3, some .int)
abbrev fX11_falls : Nat := 3
abbrev lX11_falls : Nat := 68
abbrev mX11_write : Mi := (yX11_write, cX11_write, 4, some .int)
abbrev fX11_write : Nat := 9
abbrev lX11_write : Nat := 208
abbrev mX11_out : Mi := (yX11_out, cX11_out, 2, some .int)
abbrev fX11_out : Nat := 0
abbrev lX11_out : Nat := 0
abbrev mX11_putNumber : Mi := (yX11_putNumber, cX11_putNumber, 2, none)
abbrev fX11_putNumber : Nat := 1
abbrev lX11_putNumber : Nat := 21
abbrev mX11_putByte : Mi := (yX11_putByte, cX11_putByte, 2, none)
abbrev fX11_putByte : Nat := 0
abbrev lX11_putByte : Nat := 0
abbrev mX11_lastDaySeen : Mi := (yX11_lastDaySeen, cX11_lastDaySeen, 1, some .int)
abbrev fX11_lastDaySeen : Nat := 0
abbrev lX11_lastDaySeen : Nat := 0
abbrev mX11_timbersSeen : Mi := (yX11_timbersSeen, cX11_timbersSeen, 1, some .int)
abbrev fX11_timbersSeen : Nat := 1
abbrev lX11_timbersSeen : Nat := 22
abbrev mX11_jointsSeen : Mi := (yX11_jointsSeen, cX11_jointsSeen, 1, some .int)
abbrev fX11_jointsSeen : Nat := 1
abbrev lX11_jointsSeen : Nat := 22
abbrev mX11_isCustom : Mi := (yX11_isCustom, cX11_isCustom, 2, some .boolean)
abbrev fX11_isCustom : Nat := 0
abbrev lX11_isCustom : Nat := 0
abbrev mX11_isTimber : Mi := (yX11_isTimber, cX11_isTimber, 2, some .boolean)
abbrev fX11_isTimber : Nat := 2
abbrev lX11_isTimber : Nat := 42
abbrev mX11_isJoint : Mi := (yX11_isJoint, cX11_isJoint, 2, some .boolean)
abbrev fX11_isJoint : Nat := 2
abbrev lX11_isJoint : Nat := 42
abbrev mX11_isFrame : Mi := (yX11_isFrame, cX11_isFrame, 3, some .boolean)
abbrev fX11_isFrame : Nat := 9
abbrev lX11_isFrame : Nat := 208
abbrev mX11_agreeInNumbers : Mi := (yX11_agreeInNumbers, cX11_agreeInNumbers, 4, some .boolean)
abbrev fX11_agreeInNumbers : Nat := 8
abbrev lX11_agreeInNumbers : Nat := 184
abbrev mX11_canFit : Mi := (yX11_canFit, cX11_canFit, 7, some .boolean)
abbrev fX11_canFit : Nat := 2
abbrev lX11_canFit : Nat := 42
abbrev mX11_refresh : Mi := (yX11_refresh, cX11_refresh, 5, none)
abbrev fX11_refresh : Nat := 8
abbrev lX11_refresh : Nat := 184
abbrev mX11_addFits : Mi := (yX11_addFits, cX11_addFits, 6, none)
abbrev fX11_addFits : Nat := 3
abbrev lX11_addFits : Nat := 68
abbrev mX11_raise : Mi := (yX11_raise, cX11_raise, 4, some (.object "FrameReader$Frames"))
abbrev fX11_raise : Nat := 4
abbrev lX11_raise : Nat := 95
abbrev mX11_countReused : Mi := (yX11_countReused, cX11_countReused, 3, some .int)
abbrev fX11_countReused : Nat := 9
abbrev lX11_countReused : Nat := 208
abbrev mX11_countIdle : Mi := (yX11_countIdle, cX11_countIdle, 5, some .int)
abbrev fX11_countIdle : Nat := 9
abbrev lX11_countIdle : Nat := 208
abbrev mX11_pick : Mi := (yX11_pick, cX11_pick, 2, some .int)
abbrev fX11_pick : Nat := 0
abbrev lX11_pick : Nat := 0
abbrev mX12_init : Mi := (yX12_init, cX12_init, 1, none)
abbrev fX12_init : Nat := 1
abbrev lX12_init : Nat := 20
abbrev mX12_isIn : Mi := (yX12_isIn, cX12_isIn, 4, some .boolean)
abbrev fX12_isIn : Nat := 0
abbrev lX12_isIn : Nat := 0
abbrev mX12_isSeen : Mi := (yX12_isSeen, cX12_isSeen, 2, some .boolean)
abbrev fX12_isSeen : Nat := 0
abbrev lX12_isSeen : Nat := 0
abbrev mX12_isTimber : Mi := (yX12_isTimber, cX12_isTimber, 2, some .boolean)
abbrev fX12_isTimber : Nat := 1
abbrev lX12_isTimber : Nat := 21
abbrev mX12_isJoint : Mi := (yX12_isJoint, cX12_isJoint, 2, some .boolean)
abbrev fX12_isJoint : Nat := 1
abbrev lX12_isJoint : Nat := 21
abbrev mX12_days : Mi := (yX12_days, cX12_days, 2, some .int)
abbrev fX12_days : Nat := 1
abbrev lX12_days : Nat := 23
abbrev mX12_view : Mi := (yX12_view, cX12_view, 2, some .boolean)
abbrev fX12_view : Nat := 1
abbrev lX12_view : Nat := 23
abbrev mX12_timber : Mi := (yX12_timber, cX12_timber, 3, some .int)
abbrev fX12_timber : Nat := 1
abbrev lX12_timber : Nat := 23
abbrev mX12_joint : Mi := (yX12_joint, cX12_joint, 5, some .int)
abbrev fX12_joint : Nat := 1
abbrev lX12_joint : Nat := 23
abbrev mX12_puts : Mi := (yX12_puts, cX12_puts, 3, none)
abbrev fX12_puts : Nat := 0
abbrev lX12_puts : Nat := 0
abbrev mX12_feed : Mi := (yX12_feed, cX12_feed, 6, some .int)
abbrev fX12_feed : Nat := 1
abbrev lX12_feed : Nat := 22
abbrev mX12_end : Mi := (yX12_end, cX12_end, 2, some .boolean)
abbrev fX12_end : Nat := 1
abbrev lX12_end : Nat := 23
abbrev mX12_isSign : Mi := (yX12_isSign, cX12_isSign, 2, some .boolean)
abbrev fX12_isSign : Nat := 0
abbrev lX12_isSign : Nat := 0
abbrev mX12_mark : Mi := (yX12_mark, cX12_mark, 6, some .int)
abbrev fX12_mark : Nat := 1
abbrev lX12_mark : Nat := 23
abbrev mX12_markOf : Mi := (yX12_markOf, cX12_markOf, 3, some .int)
abbrev fX12_markOf : Nat := 1
abbrev lX12_markOf : Nat := 21
abbrev mX12_signsOf : Mi := (yX12_signsOf, cX12_signsOf, 3, some .int)
abbrev fX12_signsOf : Nat := 2
abbrev lX12_signsOf : Nat := 43
abbrev mX12_sideOf : Mi := (yX12_sideOf, cX12_sideOf, 3, some .int)
abbrev fX12_sideOf : Nat := 2
abbrev lX12_sideOf : Nat := 43
abbrev mX12_isLetter : Mi := (yX12_isLetter, cX12_isLetter, 2, some .boolean)
abbrev fX12_isLetter : Nat := 1
abbrev lX12_isLetter : Nat := 23
abbrev mX12_isDigit : Mi := (yX12_isDigit, cX12_isDigit, 2, some .boolean)
abbrev fX12_isDigit : Nat := 1
abbrev lX12_isDigit : Nat := 23
abbrev mX12_raw : Mi := (yX12_raw, cX12_raw, 2, some .int)
abbrev fX12_raw : Nat := 0
abbrev lX12_raw : Nat := 0
abbrev mX12_wordAt : Mi := (yX12_wordAt, cX12_wordAt, 6, some .int)
abbrev fX12_wordAt : Nat := 0
abbrev lX12_wordAt : Nat := 0
abbrev mX12_next : Mi := (yX12_next, cX12_next, 2, none)
abbrev fX12_next : Nat := 2
abbrev lX12_next : Nat := 44
abbrev mX12_fails : Mi := (yX12_fails, cX12_fails, 2, some .int)
abbrev fX12_fails : Nat := 0
abbrev lX12_fails : Nat := 0
abbrev mX12_isWord : Mi := (yX12_isWord, cX12_isWord, 3, some .boolean)
abbrev fX12_isWord : Nat := 1
abbrev lX12_isWord : Nat := 23
abbrev mX12_number : Mi := (yX12_number, cX12_number, 4, some .int)
abbrev fX12_number : Nat := 3
abbrev lX12_number : Nat := 65
abbrev mX12_lineComes : Mi := (yX12_lineComes, cX12_lineComes, 3, some .int)
abbrev fX12_lineComes : Nat := 4
abbrev lX12_lineComes : Nat := 88
abbrev mX12_reads : Mi := (yX12_reads, cX12_reads, 2, some .int)
abbrev fX12_reads : Nat := 5
abbrev lX12_reads : Nat := 110
abbrev mX12_custom : Mi := (yX12_custom, cX12_custom, 4, some .int)
abbrev fX12_custom : Nat := 6
abbrev lX12_custom : Nat := 131
abbrev mX12_fault : Mi := (yX12_fault, cX12_fault, 2, some .int)
abbrev fX12_fault : Nat := 0
abbrev lX12_fault : Nat := 0
abbrev mX12_isAhead : Mi := (yX12_isAhead, cX12_isAhead, 4, some .boolean)
abbrev fX12_isAhead : Nat := 0
abbrev lX12_isAhead : Nat := 0
abbrev mX12_customs : Mi := (yX12_customs, cX12_customs, 3, some .int)
abbrev fX12_customs : Nat := 1
abbrev lX12_customs : Nat := 23
abbrev mX12_ringsSeen : Mi := (yX12_ringsSeen, cX12_ringsSeen, 3, some .int)
abbrev fX12_ringsSeen : Nat := 1
abbrev lX12_ringsSeen : Nat := 21
abbrev mX12_jointsSeen : Mi := (yX12_jointsSeen, cX12_jointsSeen, 4, some .int)
abbrev fX12_jointsSeen : Nat := 2
abbrev lX12_jointsSeen : Nat := 42
abbrev mX12_of : Mi := (yX12_of, cX12_of, 3, some .int)
abbrev fX12_of : Nat := 3
abbrev lX12_of : Nat := 65
abbrev mX12_at : Mi := (yX12_at, cX12_at, 3, some .int)
abbrev fX12_at : Nat := 3
abbrev lX12_at : Nat := 65
abbrev mX12_adds : Mi := (yX12_adds, cX12_adds, 4, none)
abbrev fX12_adds : Nat := 0
abbrev lX12_adds : Nat := 0
abbrev mX12_writes : Mi := (yX12_writes, cX12_writes, 4, none)
abbrev fX12_writes : Nat := 1
abbrev lX12_writes : Nat := 23
abbrev mX12_isForm : Mi := (yX12_isForm, cX12_isForm, 5, some .boolean)
abbrev fX12_isForm : Nat := 0
abbrev lX12_isForm : Nat := 0
abbrev mX12_isNumber : Mi := (yX12_isNumber, cX12_isNumber, 7, some .boolean)
abbrev fX12_isNumber : Nat := 2
abbrev lX12_isNumber : Nat := 46
abbrev mX12_numbers : Mi := (yX12_numbers, cX12_numbers, 7, some .long)
abbrev fX12_numbers : Nat := 3
abbrev lX12_numbers : Nat := 72
abbrev mX12_reads_ : Mi := (yX12_reads_, cX12_reads_, 3, some .long)
abbrev fX12_reads_ : Nat := 4
abbrev lX12_reads_ : Nat := 98
abbrev mX12_isFit : Mi := (yX12_isFit, cX12_isFit, 7, some .boolean)
abbrev fX12_isFit : Nat := 4
abbrev lX12_isFit : Nat := 98
abbrev mX12_fits : Mi := (yX12_fits, cX12_fits, 4, some .int)
abbrev fX12_fits : Nat := 5
abbrev lX12_fits : Nat := 124
abbrev mX12_findRows : Mi := (yX12_findRows, cX12_findRows, 4, none)
abbrev fX12_findRows : Nat := 5
abbrev lX12_findRows : Nat := 124
abbrev mX12_findFars : Mi := (yX12_findFars, cX12_findFars, 6, none)
abbrev fX12_findFars : Nat := 0
abbrev lX12_findFars : Nat := 0
abbrev mX12_grows : Mi := (yX12_grows, cX12_grows, 5, some .boolean)
abbrev fX12_grows : Nat := 1
abbrev lX12_grows : Nat := 25
abbrev mX12_solves : Mi := (yX12_solves, cX12_solves, 4, none)
abbrev fX12_solves : Nat := 2
abbrev lX12_solves : Nat := 49
abbrev mX12_findJoin : Mi := (yX12_findJoin, cX12_findJoin, 10, none)
abbrev fX12_findJoin : Nat := 6
abbrev lX12_findJoin : Nat := 147
abbrev mX12_findJoins : Mi := (yX12_findJoins, cX12_findJoins, 2, none)
abbrev fX12_findJoins : Nat := 7
abbrev lX12_findJoins : Nat := 176
abbrev mX12_join : Mi := (yX12_join, cX12_join, 3, some .int)
abbrev fX12_join : Nat := 8
abbrev lX12_join : Nat := 197
abbrev mX12_mate : Mi := (yX12_mate, cX12_mate, 3, some .int)
abbrev fX12_mate : Nat := 8
abbrev lX12_mate : Nat := 197
abbrev mX12_forced : Mi := (yX12_forced, cX12_forced, 3, some .int)
abbrev fX12_forced : Nat := 8
abbrev lX12_forced : Nat := 197
abbrev mX12_ones : Mi := (yX12_ones, cX12_ones, 4, some .int)
abbrev fX12_ones : Nat := 0
abbrev lX12_ones : Nat := 0
abbrev mX12_findFrames : Mi := (yX12_findFrames, cX12_findFrames, 7, none)
abbrev fX12_findFrames : Nat := 2
abbrev lX12_findFrames : Nat := 42
abbrev mX12_hasFrame : Mi := (yX12_hasFrame, cX12_hasFrame, 3, some .boolean)
abbrev fX12_hasFrame : Nat := 8
abbrev lX12_hasFrame : Nat := 197
abbrev mX12_frameOf : Mi := (yX12_frameOf, cX12_frameOf, 4, some .int)
abbrev fX12_frameOf : Nat := 8
abbrev lX12_frameOf : Nat := 197
abbrev mX12_pairsIn : Mi := (yX12_pairsIn, cX12_pairsIn, 5, some .int)
abbrev fX12_pairsIn : Nat := 2
abbrev lX12_pairsIn : Nat := 42
abbrev mX12_props : Mi := (yX12_props, cX12_props, 6, some .int)
abbrev fX12_props : Nat := 1
abbrev lX12_props : Nat := 23
abbrev mX12_canCome : Mi := (yX12_canCome, cX12_canCome, 3, some .boolean)
abbrev fX12_canCome : Nat := 0
abbrev lX12_canCome : Nat := 0
abbrev mX12_findRaisings : Mi := (yX12_findRaisings, cX12_findRaisings, 8, none)
abbrev fX12_findRaisings : Nat := 2
abbrev lX12_findRaisings : Nat := 48
abbrev mX12_frame : Mi := (yX12_frame, cX12_frame, 5, some .int)
abbrev fX12_frame : Nat := 9
abbrev lX12_frame : Nat := 219
abbrev mX12_orders : Mi := (yX12_orders, cX12_orders, 3, some .long)
abbrev fX12_orders : Nat := 9
abbrev lX12_orders : Nat := 219
abbrev mX12_raised : Mi := (yX12_raised, cX12_raised, 8, some .int)
abbrev fX12_raised : Nat := 9
abbrev lX12_raised : Nat := 219
abbrev mX12_master : Mi := (yX12_master, cX12_master, 3, some .boolean)
abbrev fX12_master : Nat := 1
abbrev lX12_master : Nat := 23
abbrev mX12_ring : Mi := (yX12_ring, cX12_ring, 3, some .int)
abbrev fX12_ring : Nat := 1
abbrev lX12_ring : Nat := 23
abbrev mX12_sap : Mi := (yX12_sap, cX12_sap, 4, some .boolean)
abbrev fX12_sap : Nat := 1
abbrev lX12_sap : Nat := 23
abbrev mX12_goes : Mi := (yX12_goes, cX12_goes, 3, some .int)
abbrev fX12_goes : Nat := 0
abbrev lX12_goes : Nat := 0
abbrev mX12_agree : Mi := (yX12_agree, cX12_agree, 6, some .int)
abbrev fX12_agree : Nat := 1
abbrev lX12_agree : Nat := 22
abbrev mX12_findDate : Mi := (yX12_findDate, cX12_findDate, 7, none)
abbrev fX12_findDate : Nat := 2
abbrev lX12_findDate : Nat := 47
abbrev mX12_usedTo : Mi := (yX12_usedTo, cX12_usedTo, 2, some .int)
abbrev fX12_usedTo : Nat := 0
abbrev lX12_usedTo : Nat := 0
abbrev mX12_date : Mi := (yX12_date, cX12_date, 4, some .int)
abbrev fX12_date : Nat := 3
abbrev lX12_date : Nat := 73
abbrev mX12_built : Mi := (yX12_built, cX12_built, 7, some .int)
abbrev fX12_built : Nat := 9
abbrev lX12_built : Nat := 219
abbrev mX12_lean : Mi := (yX12_lean, cX12_lean, 4, some .boolean)
abbrev fX12_lean : Nat := 1
abbrev lX12_lean : Nat := 23
abbrev mX12_counts : Mi := (yX12_counts, cX12_counts, 3, some .boolean)
abbrev fX12_counts : Nat := 1
abbrev lX12_counts : Nat := 21
abbrev mX12_findLeans : Mi := (yX12_findLeans, cX12_findLeans, 5, none)
abbrev fX12_findLeans : Nat := 2
abbrev lX12_findLeans : Nat := 43
abbrev mX12_common : Mi := (yX12_common, cX12_common, 6, some .int)
abbrev fX12_common : Nat := 0
abbrev lX12_common : Nat := 0
abbrev mX12_leans : Mi := (yX12_leans, cX12_leans, 4, some .int)
abbrev fX12_leans : Nat := 3
abbrev lX12_leans : Nat := 67
abbrev mX12_falls : Mi := (yX12_falls, cX12_falls, 6, some .int)
abbrev fX12_falls : Nat := 3
abbrev lX12_falls : Nat := 67
abbrev mX12_look : Mi := (yX12_look, cX12_look, 6, some .int)
abbrev fX12_look : Nat := 8
abbrev lX12_look : Nat := 197
abbrev mX12_says : Mi := (yX12_says, cX12_says, 2, none)
abbrev fX12_says : Nat := 0
abbrev lX12_says : Nat := 0
abbrev mX12_saysNumber : Mi := (yX12_saysNumber, cX12_saysNumber, 2, none)
abbrev fX12_saysNumber : Nat := 1
abbrev lX12_saysNumber : Nat := 21
abbrev mX12_write : Mi := (yX12_write, cX12_write, 3, some .int)
abbrev fX12_write : Nat := 8
abbrev lX12_write : Nat := 197
abbrev mX12_out : Mi := (yX12_out, cX12_out, 2, some .int)
abbrev fX12_out : Nat := 1
abbrev lX12_out : Nat := 23
abbrev mJ6_bitCount_0f7a4 : Mi := (yJ6_bitCount_0f7a4, cJ6_bitCount_0f7a4, 1, some .int)
abbrev fJ6_bitCount_0f7a4 : Nat := 0
abbrev lJ6_bitCount_0f7a4 : Nat := 0
abbrev mJ13_bitCount_95d88 : Mi := (yJ13_bitCount_95d88, cJ13_bitCount_95d88, 2, some .int)
abbrev fJ13_bitCount_95d88 : Nat := 0
abbrev lJ13_bitCount_95d88 : Nat := 0
abbrev mJ9_abs_0f7a4 : Mi := (yJ9_abs_0f7a4, cJ9_abs_0f7a4, 1, some .int)
abbrev fJ9_abs_0f7a4 : Nat := 0
abbrev lJ9_abs_0f7a4 : Nat := 0
abbrev mJ9_max_7cf53 : Mi := (yJ9_max_7cf53, cJ9_max_7cf53, 2, some .int)
abbrev fJ9_max_7cf53 : Nat := 0
abbrev lJ9_max_7cf53 : Nat := 0
abbrev mJ9_min_7cf53 : Mi := (yJ9_min_7cf53, cJ9_min_7cf53, 2, some .int)
abbrev fJ9_min_7cf53 : Nat := 0
abbrev lJ9_min_7cf53 : Nat := 0
abbrev mJ0_length_8abf5 : Mi := (yJ0_length_8abf5, cJ0_length_8abf5, 1, some .int)
abbrev fJ0_length_8abf5 : Nat := 1
abbrev lJ0_length_8abf5 : Nat := 20
abbrev mJ0_charAt_5068e : Mi := (yJ0_charAt_5068e, cJ0_charAt_5068e, 2, some .char)
abbrev fJ0_charAt_5068e : Nat := 4
abbrev lJ0_charAt_5068e : Nat := 85
abbrev mJ0_coder_7d493 : Mi := (yJ0_coder_7d493, cJ0_coder_7d493, 1, some .byte)
abbrev fJ0_coder_7d493 : Nat := 0
abbrev lJ0_coder_7d493 : Nat := 0
abbrev mJ0_isLatin1_aae02 : Mi := (yJ0_isLatin1_aae02, cJ0_isLatin1_aae02, 1, some .boolean)
abbrev fJ0_isLatin1_aae02 : Nat := 0
abbrev lJ0_isLatin1_aae02 : Nat := 0
abbrev mJ0_checkIndex_df160 : Mi := (yJ0_checkIndex_df160, cJ0_checkIndex_df160, 2, none)
abbrev fJ0_checkIndex_df160 : Nat := 1
abbrev lJ0_checkIndex_df160 : Nat := 22
abbrev mJ1_charAt_3b067 : Mi := (yJ1_charAt_3b067, cJ1_charAt_3b067, 2, some .char)
abbrev fJ1_charAt_3b067 : Nat := 2
abbrev lJ1_charAt_3b067 : Nat := 43
abbrev mJ2_getChar_3b067 : Mi := (yJ2_getChar_3b067, cJ2_getChar_3b067, 2, some .char)
abbrev fJ2_getChar_3b067 : Nat := 1
abbrev lJ2_getChar_3b067 : Nat := 20
abbrev mJ2_length_9d52b : Mi := (yJ2_length_9d52b, cJ2_length_9d52b, 1, some .int)
abbrev fJ2_length_9d52b : Nat := 0
abbrev lJ2_length_9d52b : Nat := 0
abbrev mJ2_charAt_3b067 : Mi := (yJ2_charAt_3b067, cJ2_charAt_3b067, 2, some .char)
abbrev fJ2_charAt_3b067 : Nat := 3
abbrev lJ2_charAt_3b067 : Nat := 64
abbrev mJ2_checkIndex_2214a : Mi := (yJ2_checkIndex_2214a, cJ2_checkIndex_2214a, 2, none)
abbrev fJ2_checkIndex_2214a : Nat := 2
abbrev lJ2_checkIndex_2214a : Nat := 43
abbrev mJ7_fill_53178 : Mi := (yJ7_fill_53178, cJ7_fill_53178, 4, none)
abbrev fJ7_fill_53178 : Nat := 0
abbrev lJ7_fill_53178 : Nat := 0
abbrev mJ3_checkIndex_8e157 : Mi := (yJ3_checkIndex_8e157, cJ3_checkIndex_8e157, 3, some .int)
abbrev fJ3_checkIndex_8e157 : Nat := 0
abbrev lJ3_checkIndex_8e157 : Nat := 0
theorem zin_0 : ∀ w ∈ u_ws RX0 TX0 6, w ∈ ZTbl := fun w hw => List.mem_filter.mpr ⟨(by decide +kernel : ∀ w ∈ u_ws RX0 TX0 6, w ∈ lw_tbl) w hw, (by decide +kernel : ∀ w ∈ u_ws RX0 TX0 6, goodWord w = true) w hw⟩
theorem zcl_0 : ZCl 0 RX0 TX0 6 := ⟨rfl, zin_0, tyX0_ok, nmX0⟩
theorem zin_1 : ∀ w ∈ u_ws RX1 TX1 11, w ∈ ZTbl := fun w hw => List.mem_filter.mpr ⟨(by decide +kernel : ∀ w ∈ u_ws RX1 TX1 11, w ∈ lw_tbl) w hw, (by decide +kernel : ∀ w ∈ u_ws RX1 TX1 11, goodWord w = true) w hw⟩
theorem zcl_1 : ZCl 1 RX1 TX1 11 := ⟨rfl, zin_1, tyX1_ok, nmX1⟩
theorem zin_2 : ∀ w ∈ u_ws RX2 TX2 7, w ∈ ZTbl := fun w hw => List.mem_filter.mpr ⟨(by decide +kernel : ∀ w ∈ u_ws RX2 TX2 7, w ∈ lw_tbl) w hw, (by decide +kernel : ∀ w ∈ u_ws RX2 TX2 7, goodWord w = true) w hw⟩
theorem zcl_2 : ZCl 2 RX2 TX2 7 := ⟨rfl, zin_2, tyX2_ok, nmX2⟩
theorem zin_3 : ∀ w ∈ u_ws RX3 TX3 9, w ∈ ZTbl := fun w hw => List.mem_filter.mpr ⟨(by decide +kernel : ∀ w ∈ u_ws RX3 TX3 9, w ∈ lw_tbl) w hw, (by decide +kernel : ∀ w ∈ u_ws RX3 TX3 9, goodWord w = true) w hw⟩
theorem zcl_3 : ZCl 3 RX3 TX3 9 := ⟨rfl, zin_3, tyX3_ok, nmX3⟩
theorem zin_4 : ∀ w ∈ u_ws RX4 TX4 14, w ∈ ZTbl := fun w hw => List.mem_filter.mpr ⟨(by decide +kernel : ∀ w ∈ u_ws RX4 TX4 14, w ∈ lw_tbl) w hw, (by decide +kernel : ∀ w ∈ u_ws RX4 TX4 14, goodWord w = true) w hw⟩
theorem zcl_4 : ZCl 4 RX4 TX4 14 := ⟨rfl, zin_4, tyX4_ok, nmX4⟩
theorem zin_5 : ∀ w ∈ u_ws RX5 TX5 10, w ∈ ZTbl := fun w hw => List.mem_filter.mpr ⟨(by decide +kernel : ∀ w ∈ u_ws RX5 TX5 10, w ∈ lw_tbl) w hw, (by decide +kernel : ∀ w ∈ u_ws RX5 TX5 10, goodWord w = true) w hw⟩
theorem zcl_5 : ZCl 5 RX5 TX5 10 := ⟨rfl, zin_5, tyX5_ok, nmX5⟩
theorem zin_6 : ∀ w ∈ u_ws RX6 TX6 7, w ∈ ZTbl := fun w hw => List.mem_filter.mpr ⟨(by decide +kernel : ∀ w ∈ u_ws RX6 TX6 7, w ∈ lw_tbl) w hw, (by decide +kernel : ∀ w ∈ u_ws RX6 TX6 7, goodWord w = true) w hw⟩
theorem zcl_6 : ZCl 6 RX6 TX6 7 := ⟨rfl, zin_6, tyX6_ok, nmX6⟩
theorem zin_7 : ∀ w ∈ u_ws RX7 TX7 8, w ∈ ZTbl := fun w hw => List.mem_filter.mpr ⟨(by decide +kernel : ∀ w ∈ u_ws RX7 TX7 8, w ∈ lw_tbl) w hw, (by decide +kernel : ∀ w ∈ u_ws RX7 TX7 8, goodWord w = true) w hw⟩
theorem zcl_7 : ZCl 7 RX7 TX7 8 := ⟨rfl, zin_7, tyX7_ok, nmX7⟩
theorem zin_8 : ∀ w ∈ u_ws RX8 TX8 12, w ∈ ZTbl := fun w hw => List.mem_filter.mpr ⟨(by decide +kernel : ∀ w ∈ u_ws RX8 TX8 12, w ∈ lw_tbl) w hw, (by decide +kernel : ∀ w ∈ u_ws RX8 TX8 12, goodWord w = true) w hw⟩
theorem zcl_8 : ZCl 8 RX8 TX8 12 := ⟨rfl, zin_8, tyX8_ok, nmX8⟩
theorem zin_9 : ∀ w ∈ u_ws RX9 TX9 2, w ∈ ZTbl := fun w hw => List.mem_filter.mpr ⟨(by decide +kernel : ∀ w ∈ u_ws RX9 TX9 2, w ∈ lw_tbl) w hw, (by decide +kernel : ∀ w ∈ u_ws RX9 TX9 2, goodWord w = true) w hw⟩
theorem zcl_9 : ZCl 9 RX9 TX9 2 := ⟨rfl, zin_9, tyX9_ok, nmX9⟩
theorem zin_10 : ∀ w ∈ u_ws RX10 TX10 10, w ∈ ZTbl := fun w hw => List.mem_filter.mpr ⟨(by decide +kernel : ∀ w ∈ u_ws RX10 TX10 10, w ∈ lw_tbl) w hw, (by decide +kernel : ∀ w ∈ u_ws RX10 TX10 10, goodWord w = true) w hw⟩
theorem zcl_10 : ZCl 10 RX10 TX10 10 := ⟨rfl, zin_10, tyX10_ok, nmX10⟩
theorem zin_11 : ∀ w ∈ u_ws RX11 TX11 17, w ∈ ZTbl := fun w hw => List.mem_filter.mpr ⟨(by decide +kernel : ∀ w ∈ u_ws RX11 TX11 17, w ∈ lw_tbl) w hw, (by decide +kernel : ∀ w ∈ u_ws RX11 TX11 17, goodWord w = true) w hw⟩
theorem zcl_11 : ZCl 11 RX11 TX11 17 := ⟨rfl, zin_11, tyX11_ok, nmX11⟩
theorem zin_12 : ∀ w ∈ u_ws RX12 TX12 91, w ∈ ZTbl := fun w hw => List.mem_filter.mpr ⟨(by decide +kernel : ∀ w ∈ u_ws RX12 TX12 91, w ∈ lw_tbl) w hw, (by decide +kernel : ∀ w ∈ u_ws RX12 TX12 91, goodWord w = true) w hw⟩
theorem zcl_12 : ZCl 12 RX12 TX12 91 := ⟨rfl, zin_12, tyX12_ok, nmX12⟩
def zcl9_0 : List Cond := [Cond.code yX0_init cX0_init 1 (none), Cond.code yX0_begin cX0_begin 1 (none), Cond.code yX0_addSpan cX0_addSpan 3 (none), Cond.code yX0_settle cX0_settle 3 (none), Cond.code yX0_spansIn cX0_spansIn 4 (some .int), Cond.code yX0_found cX0_found 2 (some .int), Cond.code yX1_init cX1_init 1 (none), Cond.code yX1_reset cX1_reset 1 (none), Cond.code yX1_tellInto cX1_tellInto 3 (none), Cond.code yX1_tellAhead cX1_tellAhead 3 (none), Cond.code yX1_goesInto cX1_goesInto 3 (some .boolean), Cond.code yX1_isAhead cX1_isAhead 3 (some .boolean), Cond.code yX1_value cX1_value 2 (some .int), Cond.code yX1_kindValue cX1_kindValue 2 (some .int), Cond.code yX2_init cX2_init 1 (none), Cond.code yX2_faultKind cX2_faultKind 1 (some .int), Cond.code yX2_faultPlace cX2_faultPlace 1 (some .int), Cond.code yX2_parse cX2_parse 4 (some .int), Cond.code yX2_readLine cX2_readLine 4 (none), Cond.code yX2_beginsLine cX2_beginsLine 2 (some .boolean), Cond.code yX2_readRule cX2_readRule 3 (none), Cond.code yX2_readKinds cX2_readKinds 5 (none), Cond.code yX2_readWord cX2_readWord 4 (some .int), Cond.code yX2_readNumber cX2_readNumber 4 (some .int), Cond.code yX2_token cX2_token 1 (some .int), Cond.code yX2_value cX2_value 1 (some .int), Cond.code yX2_fail cX2_fail 2 (none), Cond.code yX2_split cX2_split 3 (none), Cond.code yX2_beginsToken cX2_beginsToken 4 (some .boolean), Cond.code yX2_keepToken cX2_keepToken 5 (none)]
set_option maxRecDepth 40000 in
theorem zco_0 : GoodIn lw_tbl zcl9_0 := goodIn_p _ [475, 1308, 1316, 1320, 1324, 1328, 180, 185, 810, 814, 937, 1036, 1027, 1031, 151, 830, 834, 684, 786, 794, 818, 802, 806, 822, 779, 790, 798, 688, 692, 706] rfl (by decide +kernel)
theorem zcd_X0_init : Cond.code mX0_init.1 mX0_init.2.1 mX0_init.2.2.1 mX0_init.2.2.2 ∈ ZTbl := List.mem_filter.mpr ⟨(zco_0 _ (List.mem_of_getElem? (l := zcl9_0) (i := 0) rfl)).1, rfl⟩
theorem zcd_X0_begin : Cond.code mX0_begin.1 mX0_begin.2.1 mX0_begin.2.2.1 mX0_begin.2.2.2 ∈ ZTbl := List.mem_filter.mpr ⟨(zco_0 _ (List.mem_of_getElem? (l := zcl9_0) (i := 1) rfl)).1, rfl⟩
theorem zcd_X0_addSpan : Cond.code mX0_addSpan.1 mX0_addSpan.2.1 mX0_addSpan.2.2.1 mX0_addSpan.2.2.2 ∈ ZTbl := List.mem_filter.mpr ⟨(zco_0 _ (List.mem_of_getElem? (l := zcl9_0) (i := 2) rfl)).1, rfl⟩
theorem zcd_X0_settle : Cond.code mX0_settle.1 mX0_settle.2.1 mX0_settle.2.2.1 mX0_settle.2.2.2 ∈ ZTbl := List.mem_filter.mpr ⟨(zco_0 _ (List.mem_of_getElem? (l := zcl9_0) (i := 3) rfl)).1, rfl⟩
theorem zcd_X0_spansIn : Cond.code mX0_spansIn.1 mX0_spansIn.2.1 mX0_spansIn.2.2.1 mX0_spansIn.2.2.2 ∈ ZTbl := List.mem_filter.mpr ⟨(zco_0 _ (List.mem_of_getElem? (l := zcl9_0) (i := 4) rfl)).1, rfl⟩
theorem zcd_X0_found : Cond.code mX0_found.1 mX0_found.2.1 mX0_found.2.2.1 mX0_found.2.2.2 ∈ ZTbl := List.mem_filter.mpr ⟨(zco_0 _ (List.mem_of_getElem? (l := zcl9_0) (i := 5) rfl)).1, rfl⟩
theorem zcd_X1_init : Cond.code mX1_init.1 mX1_init.2.1 mX1_init.2.2.1 mX1_init.2.2.2 ∈ ZTbl := List.mem_filter.mpr ⟨(zco_0 _ (List.mem_of_getElem? (l := zcl9_0) (i := 6) rfl)).1, rfl⟩
theorem zcd_X1_reset : Cond.code mX1_reset.1 mX1_reset.2.1 mX1_reset.2.2.1 mX1_reset.2.2.2 ∈ ZTbl := List.mem_filter.mpr ⟨(zco_0 _ (List.mem_of_getElem? (l := zcl9_0) (i := 7) rfl)).1, rfl⟩
theorem zcd_X1_tellInto : Cond.code mX1_tellInto.1 mX1_tellInto.2.1 mX1_tellInto.2.2.1 mX1_tellInto.2.2.2 ∈ ZTbl := List.mem_filter.mpr ⟨(zco_0 _ (List.mem_of_getElem? (l := zcl9_0) (i := 8) rfl)).1, rfl⟩
theorem zcd_X1_tellAhead : Cond.code mX1_tellAhead.1 mX1_tellAhead.2.1 mX1_tellAhead.2.2.1 mX1_tellAhead.2.2.2 ∈ ZTbl := List.mem_filter.mpr ⟨(zco_0 _ (List.mem_of_getElem? (l := zcl9_0) (i := 9) rfl)).1, rfl⟩
theorem zcd_X1_goesInto : Cond.code mX1_goesInto.1 mX1_goesInto.2.1 mX1_goesInto.2.2.1 mX1_goesInto.2.2.2 ∈ ZTbl := List.mem_filter.mpr ⟨(zco_0 _ (List.mem_of_getElem? (l := zcl9_0) (i := 10) rfl)).1, rfl⟩
theorem zcd_X1_isAhead : Cond.code mX1_isAhead.1 mX1_isAhead.2.1 mX1_isAhead.2.2.1 mX1_isAhead.2.2.2 ∈ ZTbl := List.mem_filter.mpr ⟨(zco_0 _ (List.mem_of_getElem? (l := zcl9_0) (i := 11) rfl)).1, rfl⟩
theorem zcd_X1_value : Cond.code mX1_value.1 mX1_value.2.1 mX1_value.2.2.1 mX1_value.2.2.2 ∈ ZTbl := List.mem_filter.mpr ⟨(zco_0 _ (List.mem_of_getElem? (l := zcl9_0) (i := 12) rfl)).1, rfl⟩
theorem zcd_X1_kindValue : Cond.code mX1_kindValue.1 mX1_kindValue.2.1 mX1_kindValue.2.2.1 mX1_kindValue.2.2.2 ∈ ZTbl := List.mem_filter.mpr ⟨(zco_0 _ (List.mem_of_getElem? (l := zcl9_0) (i := 13) rfl)).1, rfl⟩
theorem zcd_X2_init : Cond.code mX2_init.1 mX2_init.2.1 mX2_init.2.2.1 mX2_init.2.2.2 ∈ ZTbl := List.mem_filter.mpr ⟨(zco_0 _ (List.mem_of_getElem? (l := zcl9_0) (i := 14) rfl)).1, rfl⟩
theorem zcd_X2_faultKind : Cond.code mX2_faultKind.1 mX2_faultKind.2.1 mX2_faultKind.2.2.1 mX2_faultKind.2.2.2 ∈ ZTbl := List.mem_filter.mpr ⟨(zco_0 _ (List.mem_of_getElem? (l := zcl9_0) (i := 15) rfl)).1, rfl⟩
theorem zcd_X2_faultPlace : Cond.code mX2_faultPlace.1 mX2_faultPlace.2.1 mX2_faultPlace.2.2.1 mX2_faultPlace.2.2.2 ∈ ZTbl := List.mem_filter.mpr ⟨(zco_0 _ (List.mem_of_getElem? (l := zcl9_0) (i := 16) rfl)).1, rfl⟩
theorem zcd_X2_parse : Cond.code mX2_parse.1 mX2_parse.2.1 mX2_parse.2.2.1 mX2_parse.2.2.2 ∈ ZTbl := List.mem_filter.mpr ⟨(zco_0 _ (List.mem_of_getElem? (l := zcl9_0) (i := 17) rfl)).1, rfl⟩
theorem zcd_X2_readLine : Cond.code mX2_readLine.1 mX2_readLine.2.1 mX2_readLine.2.2.1 mX2_readLine.2.2.2 ∈ ZTbl := List.mem_filter.mpr ⟨(zco_0 _ (List.mem_of_getElem? (l := zcl9_0) (i := 18) rfl)).1, rfl⟩
theorem zcd_X2_beginsLine : Cond.code mX2_beginsLine.1 mX2_beginsLine.2.1 mX2_beginsLine.2.2.1 mX2_beginsLine.2.2.2 ∈ ZTbl := List.mem_filter.mpr ⟨(zco_0 _ (List.mem_of_getElem? (l := zcl9_0) (i := 19) rfl)).1, rfl⟩
theorem zcd_X2_readRule : Cond.code mX2_readRule.1 mX2_readRule.2.1 mX2_readRule.2.2.1 mX2_readRule.2.2.2 ∈ ZTbl := List.mem_filter.mpr ⟨(zco_0 _ (List.mem_of_getElem? (l := zcl9_0) (i := 20) rfl)).1, rfl⟩
theorem zcd_X2_readKinds : Cond.code mX2_readKinds.1 mX2_readKinds.2.1 mX2_readKinds.2.2.1 mX2_readKinds.2.2.2 ∈ ZTbl := List.mem_filter.mpr ⟨(zco_0 _ (List.mem_of_getElem? (l := zcl9_0) (i := 21) rfl)).1, rfl⟩
theorem zcd_X2_readWord : Cond.code mX2_readWord.1 mX2_readWord.2.1 mX2_readWord.2.2.1 mX2_readWord.2.2.2 ∈ ZTbl := List.mem_filter.mpr ⟨(zco_0 _ (List.mem_of_getElem? (l := zcl9_0) (i := 22) rfl)).1, rfl⟩
theorem zcd_X2_readNumber : Cond.code mX2_readNumber.1 mX2_readNumber.2.1 mX2_readNumber.2.2.1 mX2_readNumber.2.2.2 ∈ ZTbl := List.mem_filter.mpr ⟨(zco_0 _ (List.mem_of_getElem? (l := zcl9_0) (i := 23) rfl)).1, rfl⟩
theorem zcd_X2_token : Cond.code mX2_token.1 mX2_token.2.1 mX2_token.2.2.1 mX2_token.2.2.2 ∈ ZTbl := List.mem_filter.mpr ⟨(zco_0 _ (List.mem_of_getElem? (l := zcl9_0) (i := 24) rfl)).1, rfl⟩
theorem zcd_X2_value : Cond.code mX2_value.1 mX2_value.2.1 mX2_value.2.2.1 mX2_value.2.2.2 ∈ ZTbl := List.mem_filter.mpr ⟨(zco_0 _ (List.mem_of_getElem? (l := zcl9_0) (i := 25) rfl)).1, rfl⟩
theorem zcd_X2_fail : Cond.code mX2_fail.1 mX2_fail.2.1 mX2_fail.2.2.1 mX2_fail.2.2.2 ∈ ZTbl := List.mem_filter.mpr ⟨(zco_0 _ (List.mem_of_getElem? (l := zcl9_0) (i := 26) rfl)).1, rfl⟩
theorem zcd_X2_split : Cond.code mX2_split.1 mX2_split.2.1 mX2_split.2.2.1 mX2_split.2.2.2 ∈ ZTbl := List.mem_filter.mpr ⟨(zco_0 _ (List.mem_of_getElem? (l := zcl9_0) (i := 27) rfl)).1, rfl⟩
theorem zcd_X2_beginsToken : Cond.code mX2_beginsToken.1 mX2_beginsToken.2.1 mX2_beginsToken.2.2.1 mX2_beginsToken.2.2.2 ∈ ZTbl := List.mem_filter.mpr ⟨(zco_0 _ (List.mem_of_getElem? (l := zcl9_0) (i := 28) rfl)).1, rfl⟩
theorem zcd_X2_keepToken : Cond.code mX2_keepToken.1 mX2_keepToken.2.1 mX2_keepToken.2.2.1 mX2_keepToken.2.2.2 ∈ ZTbl := List.mem_filter.mpr ⟨(zco_0 _ (List.mem_of_getElem? (l := zcl9_0) (i := 29) rfl)).1, rfl⟩
def zcl9_1 : List Cond := [Cond.code yX2_keep cX2_keep 4 (none), Cond.code yX2_endOfLetters cX2_endOfLetters 3 (some .int), Cond.code yX2_endOfDigits cX2_endOfDigits 3 (some .int), Cond.code yX2_numberAt cX2_numberAt 5 (some .int), Cond.code yX2_wordNumber cX2_wordNumber 4 (some .int), Cond.code yX2_isWord cX2_isWord 8 (some .boolean), Cond.code yX2_isBlank cX2_isBlank 1 (some .boolean), Cond.code yX2_isLetter cX2_isLetter 1 (some .boolean), Cond.code yX2_isDigit cX2_isDigit 1 (some .boolean), Cond.code yX3_init cX3_init 1 (none), Cond.code yX3_gather cX3_gather 6 (none), Cond.code yX3_addFrame cX3_addFrame 5 (none), Cond.code yX3_countPairs cX3_countPairs 5 (none), Cond.code yX3_isMember cX3_isMember 1 (some .boolean), Cond.code yX3_size cX3_size 1 (some .int), Cond.code yX3_holding cX3_holding 2 (some .int), Cond.code yX3_membersOf cX3_membersOf 2 (some .int), Cond.code yX3_matesOf cX3_matesOf 2 (some .int), Cond.code yX3_pairsOf cX3_pairsOf 2 (some .int), Cond.code yX3_isRaised cX3_isRaised 2 (some .boolean), Cond.code yX3_keepRaising cX3_keepRaising 6 (none), Cond.code yX3_keepStep cX3_keepStep 4 (none), Cond.code yX3_mostOf cX3_mostOf 2 (some .int), Cond.code yX3_ordersOf cX3_ordersOf 2 (some .long), Cond.code yX3_stepOf cX3_stepOf 3 (some .int), Cond.code yX4_init cX4_init 1 (none), Cond.code yX4_begin cX4_begin 1 (none), Cond.code yX4_keepNumbers cX4_keepNumbers 4 (none), Cond.code yX4_shareNumber cX4_shareNumber 3 (some .boolean), Cond.code yX4_addArc cX4_addArc 4 (none)]
set_option maxRecDepth 40000 in
theorem zco_1 : GoodIn lw_tbl zcl9_1 := goodIn_p _ [768, 709, 771, 774, 712, 715, 702, 696, 699, 363, 995, 1004, 1008, 1000, 1121, 1012, 1149, 1178, 1153, 1161, 1201, 1218, 1222, 1226, 1239, 311, 866, 899, 917, 946] rfl (by decide +kernel)
theorem zcd_X2_keep : Cond.code mX2_keep.1 mX2_keep.2.1 mX2_keep.2.2.1 mX2_keep.2.2.2 ∈ ZTbl := List.mem_filter.mpr ⟨(zco_1 _ (List.mem_of_getElem? (l := zcl9_1) (i := 0) rfl)).1, rfl⟩
theorem zcd_X2_endOfLetters : Cond.code mX2_endOfLetters.1 mX2_endOfLetters.2.1 mX2_endOfLetters.2.2.1 mX2_endOfLetters.2.2.2 ∈ ZTbl := List.mem_filter.mpr ⟨(zco_1 _ (List.mem_of_getElem? (l := zcl9_1) (i := 1) rfl)).1, rfl⟩
theorem zcd_X2_endOfDigits : Cond.code mX2_endOfDigits.1 mX2_endOfDigits.2.1 mX2_endOfDigits.2.2.1 mX2_endOfDigits.2.2.2 ∈ ZTbl := List.mem_filter.mpr ⟨(zco_1 _ (List.mem_of_getElem? (l := zcl9_1) (i := 2) rfl)).1, rfl⟩
theorem zcd_X2_numberAt : Cond.code mX2_numberAt.1 mX2_numberAt.2.1 mX2_numberAt.2.2.1 mX2_numberAt.2.2.2 ∈ ZTbl := List.mem_filter.mpr ⟨(zco_1 _ (List.mem_of_getElem? (l := zcl9_1) (i := 3) rfl)).1, rfl⟩
theorem zcd_X2_wordNumber : Cond.code mX2_wordNumber.1 mX2_wordNumber.2.1 mX2_wordNumber.2.2.1 mX2_wordNumber.2.2.2 ∈ ZTbl := List.mem_filter.mpr ⟨(zco_1 _ (List.mem_of_getElem? (l := zcl9_1) (i := 4) rfl)).1, rfl⟩
theorem zcd_X2_isWord : Cond.code mX2_isWord.1 mX2_isWord.2.1 mX2_isWord.2.2.1 mX2_isWord.2.2.2 ∈ ZTbl := List.mem_filter.mpr ⟨(zco_1 _ (List.mem_of_getElem? (l := zcl9_1) (i := 5) rfl)).1, rfl⟩
theorem zcd_X2_isBlank : Cond.code mX2_isBlank.1 mX2_isBlank.2.1 mX2_isBlank.2.2.1 mX2_isBlank.2.2.2 ∈ ZTbl := List.mem_filter.mpr ⟨(zco_1 _ (List.mem_of_getElem? (l := zcl9_1) (i := 6) rfl)).1, rfl⟩
theorem zcd_X2_isLetter : Cond.code mX2_isLetter.1 mX2_isLetter.2.1 mX2_isLetter.2.2.1 mX2_isLetter.2.2.2 ∈ ZTbl := List.mem_filter.mpr ⟨(zco_1 _ (List.mem_of_getElem? (l := zcl9_1) (i := 7) rfl)).1, rfl⟩
theorem zcd_X2_isDigit : Cond.code mX2_isDigit.1 mX2_isDigit.2.1 mX2_isDigit.2.2.1 mX2_isDigit.2.2.2 ∈ ZTbl := List.mem_filter.mpr ⟨(zco_1 _ (List.mem_of_getElem? (l := zcl9_1) (i := 8) rfl)).1, rfl⟩
theorem zcd_X3_init : Cond.code mX3_init.1 mX3_init.2.1 mX3_init.2.2.1 mX3_init.2.2.2 ∈ ZTbl := List.mem_filter.mpr ⟨(zco_1 _ (List.mem_of_getElem? (l := zcl9_1) (i := 9) rfl)).1, rfl⟩
theorem zcd_X3_gather : Cond.code mX3_gather.1 mX3_gather.2.1 mX3_gather.2.2.1 mX3_gather.2.2.2 ∈ ZTbl := List.mem_filter.mpr ⟨(zco_1 _ (List.mem_of_getElem? (l := zcl9_1) (i := 10) rfl)).1, rfl⟩
theorem zcd_X3_addFrame : Cond.code mX3_addFrame.1 mX3_addFrame.2.1 mX3_addFrame.2.2.1 mX3_addFrame.2.2.2 ∈ ZTbl := List.mem_filter.mpr ⟨(zco_1 _ (List.mem_of_getElem? (l := zcl9_1) (i := 11) rfl)).1, rfl⟩
theorem zcd_X3_countPairs : Cond.code mX3_countPairs.1 mX3_countPairs.2.1 mX3_countPairs.2.2.1 mX3_countPairs.2.2.2 ∈ ZTbl := List.mem_filter.mpr ⟨(zco_1 _ (List.mem_of_getElem? (l := zcl9_1) (i := 12) rfl)).1, rfl⟩
theorem zcd_X3_isMember : Cond.code mX3_isMember.1 mX3_isMember.2.1 mX3_isMember.2.2.1 mX3_isMember.2.2.2 ∈ ZTbl := List.mem_filter.mpr ⟨(zco_1 _ (List.mem_of_getElem? (l := zcl9_1) (i := 13) rfl)).1, rfl⟩
theorem zcd_X3_size : Cond.code mX3_size.1 mX3_size.2.1 mX3_size.2.2.1 mX3_size.2.2.2 ∈ ZTbl := List.mem_filter.mpr ⟨(zco_1 _ (List.mem_of_getElem? (l := zcl9_1) (i := 14) rfl)).1, rfl⟩
theorem zcd_X3_holding : Cond.code mX3_holding.1 mX3_holding.2.1 mX3_holding.2.2.1 mX3_holding.2.2.2 ∈ ZTbl := List.mem_filter.mpr ⟨(zco_1 _ (List.mem_of_getElem? (l := zcl9_1) (i := 15) rfl)).1, rfl⟩
theorem zcd_X3_membersOf : Cond.code mX3_membersOf.1 mX3_membersOf.2.1 mX3_membersOf.2.2.1 mX3_membersOf.2.2.2 ∈ ZTbl := List.mem_filter.mpr ⟨(zco_1 _ (List.mem_of_getElem? (l := zcl9_1) (i := 16) rfl)).1, rfl⟩
theorem zcd_X3_matesOf : Cond.code mX3_matesOf.1 mX3_matesOf.2.1 mX3_matesOf.2.2.1 mX3_matesOf.2.2.2 ∈ ZTbl := List.mem_filter.mpr ⟨(zco_1 _ (List.mem_of_getElem? (l := zcl9_1) (i := 17) rfl)).1, rfl⟩
theorem zcd_X3_pairsOf : Cond.code mX3_pairsOf.1 mX3_pairsOf.2.1 mX3_pairsOf.2.2.1 mX3_pairsOf.2.2.2 ∈ ZTbl := List.mem_filter.mpr ⟨(zco_1 _ (List.mem_of_getElem? (l := zcl9_1) (i := 18) rfl)).1, rfl⟩
theorem zcd_X3_isRaised : Cond.code mX3_isRaised.1 mX3_isRaised.2.1 mX3_isRaised.2.2.1 mX3_isRaised.2.2.2 ∈ ZTbl := List.mem_filter.mpr ⟨(zco_1 _ (List.mem_of_getElem? (l := zcl9_1) (i := 19) rfl)).1, rfl⟩
theorem zcd_X3_keepRaising : Cond.code mX3_keepRaising.1 mX3_keepRaising.2.1 mX3_keepRaising.2.2.1 mX3_keepRaising.2.2.2 ∈ ZTbl := List.mem_filter.mpr ⟨(zco_1 _ (List.mem_of_getElem? (l := zcl9_1) (i := 20) rfl)).1, rfl⟩
theorem zcd_X3_keepStep : Cond.code mX3_keepStep.1 mX3_keepStep.2.1 mX3_keepStep.2.2.1 mX3_keepStep.2.2.2 ∈ ZTbl := List.mem_filter.mpr ⟨(zco_1 _ (List.mem_of_getElem? (l := zcl9_1) (i := 21) rfl)).1, rfl⟩
theorem zcd_X3_mostOf : Cond.code mX3_mostOf.1 mX3_mostOf.2.1 mX3_mostOf.2.2.1 mX3_mostOf.2.2.2 ∈ ZTbl := List.mem_filter.mpr ⟨(zco_1 _ (List.mem_of_getElem? (l := zcl9_1) (i := 22) rfl)).1, rfl⟩
theorem zcd_X3_ordersOf : Cond.code mX3_ordersOf.1 mX3_ordersOf.2.1 mX3_ordersOf.2.2.1 mX3_ordersOf.2.2.2 ∈ ZTbl := List.mem_filter.mpr ⟨(zco_1 _ (List.mem_of_getElem? (l := zcl9_1) (i := 23) rfl)).1, rfl⟩
theorem zcd_X3_stepOf : Cond.code mX3_stepOf.1 mX3_stepOf.2.1 mX3_stepOf.2.2.1 mX3_stepOf.2.2.2 ∈ ZTbl := List.mem_filter.mpr ⟨(zco_1 _ (List.mem_of_getElem? (l := zcl9_1) (i := 24) rfl)).1, rfl⟩
theorem zcd_X4_init : Cond.code mX4_init.1 mX4_init.2.1 mX4_init.2.2.1 mX4_init.2.2.2 ∈ ZTbl := List.mem_filter.mpr ⟨(zco_1 _ (List.mem_of_getElem? (l := zcl9_1) (i := 25) rfl)).1, rfl⟩
theorem zcd_X4_begin : Cond.code mX4_begin.1 mX4_begin.2.1 mX4_begin.2.2.1 mX4_begin.2.2.2 ∈ ZTbl := List.mem_filter.mpr ⟨(zco_1 _ (List.mem_of_getElem? (l := zcl9_1) (i := 26) rfl)).1, rfl⟩
theorem zcd_X4_keepNumbers : Cond.code mX4_keepNumbers.1 mX4_keepNumbers.2.1 mX4_keepNumbers.2.2.1 mX4_keepNumbers.2.2.2 ∈ ZTbl := List.mem_filter.mpr ⟨(zco_1 _ (List.mem_of_getElem? (l := zcl9_1) (i := 27) rfl)).1, rfl⟩
theorem zcd_X4_shareNumber : Cond.code mX4_shareNumber.1 mX4_shareNumber.2.1 mX4_shareNumber.2.2.1 mX4_shareNumber.2.2.2 ∈ ZTbl := List.mem_filter.mpr ⟨(zco_1 _ (List.mem_of_getElem? (l := zcl9_1) (i := 28) rfl)).1, rfl⟩
theorem zcd_X4_addArc : Cond.code mX4_addArc.1 mX4_addArc.2.1 mX4_addArc.2.2.1 mX4_addArc.2.2.2 ∈ ZTbl := List.mem_filter.mpr ⟨(zco_1 _ (List.mem_of_getElem? (l := zcl9_1) (i := 29) rfl)).1, rfl⟩
def zcl9_2 : List Cond := [Cond.code yX4_fill cX4_fill 2 (none), Cond.code yX4_chooseHoles cX4_chooseHoles 2 (none), Cond.code yX4_findForced cX4_findForced 4 (none), Cond.code yX4_pairCount cX4_pairCount 1 (some .int), Cond.code yX4_moreInAll cX4_moreInAll 1 (some .int), Cond.code yX4_forcedCount cX4_forcedCount 1 (some .int), Cond.code yX4_partnerOf cX4_partnerOf 2 (some .int), Cond.code yX4_isForced cX4_isForced 2 (some .boolean), Cond.code yX4_chooseFirstHole cX4_chooseFirstHole 4 (none), Cond.code yX4_measureTo cX4_measureTo 4 (none), Cond.code yX4_relaxArcs cX4_relaxArcs 5 (some .boolean), Cond.code yX4_relaxEnds cX4_relaxEnds 4 (some .boolean), Cond.code yX4_relax cX4_relax 4 (some .boolean), Cond.code yX4_turnOver cX4_turnOver 6 (none), Cond.code yX4_tie cX4_tie 3 (none), Cond.code yX4_has cX4_has 3 (some .boolean), Cond.code yX5_init cX5_init 1 (none), Cond.code yX5_tell cX5_tell 5 (some .boolean), Cond.code yX5_measure cX5_measure 4 (none), Cond.code yX5_isToldAnew cX5_isToldAnew 4 (some .boolean), Cond.code yX5_findRate cX5_findRate 5 (none), Cond.code yX5_measured cX5_measured 2 (some .int), Cond.code yX5_fallYear cX5_fallYear 4 (some .int), Cond.code yX6_init cX6_init 1 (none), Cond.code yX6_tell cX6_tell 7 (some .int), Cond.code yX6_isSign cX6_isSign 1 (some .boolean), Cond.code yX6_showUpTo cX6_showUpTo 4 (none), Cond.code yX6_signsOn cX6_signsOn 2 (some .int), Cond.code yX6_sideOf cX6_sideOf 2 (some .int), Cond.code yX6_signAt cX6_signAt 3 (some .int)]
set_option maxRecDepth 40000 in
theorem zco_2 : GoodIn lw_tbl zcl9_2 := goodIn_p _ [950, 982, 991, 1103, 1107, 1111, 912, 1133, 986, 954, 959, 970, 966, 974, 978, 962, 500, 1336, 1344, 1348, 1352, 1360, 1368, 279, 660, 668, 600, 875, 942, 1082] rfl (by decide +kernel)
theorem zcd_X4_fill : Cond.code mX4_fill.1 mX4_fill.2.1 mX4_fill.2.2.1 mX4_fill.2.2.2 ∈ ZTbl := List.mem_filter.mpr ⟨(zco_2 _ (List.mem_of_getElem? (l := zcl9_2) (i := 0) rfl)).1, rfl⟩
theorem zcd_X4_chooseHoles : Cond.code mX4_chooseHoles.1 mX4_chooseHoles.2.1 mX4_chooseHoles.2.2.1 mX4_chooseHoles.2.2.2 ∈ ZTbl := List.mem_filter.mpr ⟨(zco_2 _ (List.mem_of_getElem? (l := zcl9_2) (i := 1) rfl)).1, rfl⟩
theorem zcd_X4_findForced : Cond.code mX4_findForced.1 mX4_findForced.2.1 mX4_findForced.2.2.1 mX4_findForced.2.2.2 ∈ ZTbl := List.mem_filter.mpr ⟨(zco_2 _ (List.mem_of_getElem? (l := zcl9_2) (i := 2) rfl)).1, rfl⟩
theorem zcd_X4_pairCount : Cond.code mX4_pairCount.1 mX4_pairCount.2.1 mX4_pairCount.2.2.1 mX4_pairCount.2.2.2 ∈ ZTbl := List.mem_filter.mpr ⟨(zco_2 _ (List.mem_of_getElem? (l := zcl9_2) (i := 3) rfl)).1, rfl⟩
theorem zcd_X4_moreInAll : Cond.code mX4_moreInAll.1 mX4_moreInAll.2.1 mX4_moreInAll.2.2.1 mX4_moreInAll.2.2.2 ∈ ZTbl := List.mem_filter.mpr ⟨(zco_2 _ (List.mem_of_getElem? (l := zcl9_2) (i := 4) rfl)).1, rfl⟩
theorem zcd_X4_forcedCount : Cond.code mX4_forcedCount.1 mX4_forcedCount.2.1 mX4_forcedCount.2.2.1 mX4_forcedCount.2.2.2 ∈ ZTbl := List.mem_filter.mpr ⟨(zco_2 _ (List.mem_of_getElem? (l := zcl9_2) (i := 5) rfl)).1, rfl⟩
theorem zcd_X4_partnerOf : Cond.code mX4_partnerOf.1 mX4_partnerOf.2.1 mX4_partnerOf.2.2.1 mX4_partnerOf.2.2.2 ∈ ZTbl := List.mem_filter.mpr ⟨(zco_2 _ (List.mem_of_getElem? (l := zcl9_2) (i := 6) rfl)).1, rfl⟩
theorem zcd_X4_isForced : Cond.code mX4_isForced.1 mX4_isForced.2.1 mX4_isForced.2.2.1 mX4_isForced.2.2.2 ∈ ZTbl := List.mem_filter.mpr ⟨(zco_2 _ (List.mem_of_getElem? (l := zcl9_2) (i := 7) rfl)).1, rfl⟩
theorem zcd_X4_chooseFirstHole : Cond.code mX4_chooseFirstHole.1 mX4_chooseFirstHole.2.1 mX4_chooseFirstHole.2.2.1 mX4_chooseFirstHole.2.2.2 ∈ ZTbl := List.mem_filter.mpr ⟨(zco_2 _ (List.mem_of_getElem? (l := zcl9_2) (i := 8) rfl)).1, rfl⟩
theorem zcd_X4_measureTo : Cond.code mX4_measureTo.1 mX4_measureTo.2.1 mX4_measureTo.2.2.1 mX4_measureTo.2.2.2 ∈ ZTbl := List.mem_filter.mpr ⟨(zco_2 _ (List.mem_of_getElem? (l := zcl9_2) (i := 9) rfl)).1, rfl⟩
theorem zcd_X4_relaxArcs : Cond.code mX4_relaxArcs.1 mX4_relaxArcs.2.1 mX4_relaxArcs.2.2.1 mX4_relaxArcs.2.2.2 ∈ ZTbl := List.mem_filter.mpr ⟨(zco_2 _ (List.mem_of_getElem? (l := zcl9_2) (i := 10) rfl)).1, rfl⟩
theorem zcd_X4_relaxEnds : Cond.code mX4_relaxEnds.1 mX4_relaxEnds.2.1 mX4_relaxEnds.2.2.1 mX4_relaxEnds.2.2.2 ∈ ZTbl := List.mem_filter.mpr ⟨(zco_2 _ (List.mem_of_getElem? (l := zcl9_2) (i := 11) rfl)).1, rfl⟩
theorem zcd_X4_relax : Cond.code mX4_relax.1 mX4_relax.2.1 mX4_relax.2.2.1 mX4_relax.2.2.2 ∈ ZTbl := List.mem_filter.mpr ⟨(zco_2 _ (List.mem_of_getElem? (l := zcl9_2) (i := 12) rfl)).1, rfl⟩
theorem zcd_X4_turnOver : Cond.code mX4_turnOver.1 mX4_turnOver.2.1 mX4_turnOver.2.2.1 mX4_turnOver.2.2.2 ∈ ZTbl := List.mem_filter.mpr ⟨(zco_2 _ (List.mem_of_getElem? (l := zcl9_2) (i := 13) rfl)).1, rfl⟩
theorem zcd_X4_tie : Cond.code mX4_tie.1 mX4_tie.2.1 mX4_tie.2.2.1 mX4_tie.2.2.2 ∈ ZTbl := List.mem_filter.mpr ⟨(zco_2 _ (List.mem_of_getElem? (l := zcl9_2) (i := 14) rfl)).1, rfl⟩
theorem zcd_X4_has : Cond.code mX4_has.1 mX4_has.2.1 mX4_has.2.2.1 mX4_has.2.2.2 ∈ ZTbl := List.mem_filter.mpr ⟨(zco_2 _ (List.mem_of_getElem? (l := zcl9_2) (i := 15) rfl)).1, rfl⟩
theorem zcd_X5_init : Cond.code mX5_init.1 mX5_init.2.1 mX5_init.2.2.1 mX5_init.2.2.2 ∈ ZTbl := List.mem_filter.mpr ⟨(zco_2 _ (List.mem_of_getElem? (l := zcl9_2) (i := 16) rfl)).1, rfl⟩
theorem zcd_X5_tell : Cond.code mX5_tell.1 mX5_tell.2.1 mX5_tell.2.2.1 mX5_tell.2.2.2 ∈ ZTbl := List.mem_filter.mpr ⟨(zco_2 _ (List.mem_of_getElem? (l := zcl9_2) (i := 17) rfl)).1, rfl⟩
theorem zcd_X5_measure : Cond.code mX5_measure.1 mX5_measure.2.1 mX5_measure.2.2.1 mX5_measure.2.2.2 ∈ ZTbl := List.mem_filter.mpr ⟨(zco_2 _ (List.mem_of_getElem? (l := zcl9_2) (i := 18) rfl)).1, rfl⟩
theorem zcd_X5_isToldAnew : Cond.code mX5_isToldAnew.1 mX5_isToldAnew.2.1 mX5_isToldAnew.2.2.1 mX5_isToldAnew.2.2.2 ∈ ZTbl := List.mem_filter.mpr ⟨(zco_2 _ (List.mem_of_getElem? (l := zcl9_2) (i := 19) rfl)).1, rfl⟩
theorem zcd_X5_findRate : Cond.code mX5_findRate.1 mX5_findRate.2.1 mX5_findRate.2.2.1 mX5_findRate.2.2.2 ∈ ZTbl := List.mem_filter.mpr ⟨(zco_2 _ (List.mem_of_getElem? (l := zcl9_2) (i := 20) rfl)).1, rfl⟩
theorem zcd_X5_measured : Cond.code mX5_measured.1 mX5_measured.2.1 mX5_measured.2.2.1 mX5_measured.2.2.2 ∈ ZTbl := List.mem_filter.mpr ⟨(zco_2 _ (List.mem_of_getElem? (l := zcl9_2) (i := 21) rfl)).1, rfl⟩
theorem zcd_X5_fallYear : Cond.code mX5_fallYear.1 mX5_fallYear.2.1 mX5_fallYear.2.2.1 mX5_fallYear.2.2.2 ∈ ZTbl := List.mem_filter.mpr ⟨(zco_2 _ (List.mem_of_getElem? (l := zcl9_2) (i := 22) rfl)).1, rfl⟩
theorem zcd_X6_init : Cond.code mX6_init.1 mX6_init.2.1 mX6_init.2.2.1 mX6_init.2.2.2 ∈ ZTbl := List.mem_filter.mpr ⟨(zco_2 _ (List.mem_of_getElem? (l := zcl9_2) (i := 23) rfl)).1, rfl⟩
theorem zcd_X6_tell : Cond.code mX6_tell.1 mX6_tell.2.1 mX6_tell.2.2.1 mX6_tell.2.2.2 ∈ ZTbl := List.mem_filter.mpr ⟨(zco_2 _ (List.mem_of_getElem? (l := zcl9_2) (i := 24) rfl)).1, rfl⟩
theorem zcd_X6_isSign : Cond.code mX6_isSign.1 mX6_isSign.2.1 mX6_isSign.2.2.1 mX6_isSign.2.2.2 ∈ ZTbl := List.mem_filter.mpr ⟨(zco_2 _ (List.mem_of_getElem? (l := zcl9_2) (i := 25) rfl)).1, rfl⟩
theorem zcd_X6_showUpTo : Cond.code mX6_showUpTo.1 mX6_showUpTo.2.1 mX6_showUpTo.2.2.1 mX6_showUpTo.2.2.2 ∈ ZTbl := List.mem_filter.mpr ⟨(zco_2 _ (List.mem_of_getElem? (l := zcl9_2) (i := 26) rfl)).1, rfl⟩
theorem zcd_X6_signsOn : Cond.code mX6_signsOn.1 mX6_signsOn.2.1 mX6_signsOn.2.2.1 mX6_signsOn.2.2.2 ∈ ZTbl := List.mem_filter.mpr ⟨(zco_2 _ (List.mem_of_getElem? (l := zcl9_2) (i := 27) rfl)).1, rfl⟩
theorem zcd_X6_sideOf : Cond.code mX6_sideOf.1 mX6_sideOf.2.1 mX6_sideOf.2.2.1 mX6_sideOf.2.2.2 ∈ ZTbl := List.mem_filter.mpr ⟨(zco_2 _ (List.mem_of_getElem? (l := zcl9_2) (i := 28) rfl)).1, rfl⟩
theorem zcd_X6_signAt : Cond.code mX6_signAt.1 mX6_signAt.2.1 mX6_signAt.2.2.1 mX6_signAt.2.2.2 ∈ ZTbl := List.mem_filter.mpr ⟨(zco_2 _ (List.mem_of_getElem? (l := zcl9_2) (i := 29) rfl)).1, rfl⟩
def zcl9_3 : List Cond := [Cond.code yX6_numbersOn cX6_numbersOn 9 (some .long), Cond.code yX6_unitOf cX6_unitOf 1 (some .int), Cond.code yX6_isUsed cX6_isUsed 2 (some .boolean), Cond.code yX6_spells cX6_spells 9 (some .boolean), Cond.code yX6_unitSign cX6_unitSign 3 (some .int), Cond.code yX7_init cX7_init 1 (none), Cond.code yX7_raise cX7_raise 8 (none), Cond.code yX7_take cX7_take 4 (none), Cond.code yX7_link cX7_link 6 (none), Cond.code yX7_makeRoom cX7_makeRoom 1 (none), Cond.code yX7_countWays cX7_countWays 4 (none), Cond.code yX7_measureWorst cX7_measureWorst 5 (none), Cond.code yX7_props cX7_props 4 (some .int), Cond.code yX7_keepSteps cX7_keepSteps 6 (none), Cond.code yX8_init cX8_init 1 (none), Cond.code yX8_tellMaster cX8_tellMaster 3 (some .boolean), Cond.code yX8_addRing cX8_addRing 4 (some .int), Cond.code yX8_tellSap cX8_tellSap 4 (some .boolean), Cond.code yX8_ringsSeen cX8_ringsSeen 4 (some .int), Cond.code yX8_sapTold cX8_sapTold 2 (some .int), Cond.code yX8_barkTold cX8_barkTold 2 (some .boolean), Cond.code yX8_dateBy cX8_dateBy 8 (none), Cond.code yX8_agreeAt cX8_agreeAt 7 (some .int), Cond.code yX8_wayTo cX8_wayTo 3 (some .int), Cond.code yX8_way cX8_way 2 (some .int), Cond.code yX8_fell cX8_fell 4 (none), Cond.code yX8_isSure cX8_isSure 1 (some .boolean), Cond.code yX8_dated cX8_dated 2 (some .int), Cond.code yX8_felledOrUsed cX8_felledOrUsed 2 (some .int), Cond.code yX9_init cX9_init 1 (none)]
set_option maxRecDepth 40000 in
theorem zco_3 : GoodIn lw_tbl zcl9_3 := goodIn_p _ [870, 882, 885, 889, 892, 398, 1165, 1169, 1174, 1193, 1197, 1205, 1209, 1214, 430, 1247, 1256, 1264, 1053, 1057, 1062, 1272, 1277, 1284, 1280, 1291, 1312, 1296, 1300, 137] rfl (by decide +kernel)
theorem zcd_X6_numbersOn : Cond.code mX6_numbersOn.1 mX6_numbersOn.2.1 mX6_numbersOn.2.2.1 mX6_numbersOn.2.2.2 ∈ ZTbl := List.mem_filter.mpr ⟨(zco_3 _ (List.mem_of_getElem? (l := zcl9_3) (i := 0) rfl)).1, rfl⟩
theorem zcd_X6_unitOf : Cond.code mX6_unitOf.1 mX6_unitOf.2.1 mX6_unitOf.2.2.1 mX6_unitOf.2.2.2 ∈ ZTbl := List.mem_filter.mpr ⟨(zco_3 _ (List.mem_of_getElem? (l := zcl9_3) (i := 1) rfl)).1, rfl⟩
theorem zcd_X6_isUsed : Cond.code mX6_isUsed.1 mX6_isUsed.2.1 mX6_isUsed.2.2.1 mX6_isUsed.2.2.2 ∈ ZTbl := List.mem_filter.mpr ⟨(zco_3 _ (List.mem_of_getElem? (l := zcl9_3) (i := 2) rfl)).1, rfl⟩
theorem zcd_X6_spells : Cond.code mX6_spells.1 mX6_spells.2.1 mX6_spells.2.2.1 mX6_spells.2.2.2 ∈ ZTbl := List.mem_filter.mpr ⟨(zco_3 _ (List.mem_of_getElem? (l := zcl9_3) (i := 3) rfl)).1, rfl⟩
theorem zcd_X6_unitSign : Cond.code mX6_unitSign.1 mX6_unitSign.2.1 mX6_unitSign.2.2.1 mX6_unitSign.2.2.2 ∈ ZTbl := List.mem_filter.mpr ⟨(zco_3 _ (List.mem_of_getElem? (l := zcl9_3) (i := 4) rfl)).1, rfl⟩
theorem zcd_X7_init : Cond.code mX7_init.1 mX7_init.2.1 mX7_init.2.2.1 mX7_init.2.2.2 ∈ ZTbl := List.mem_filter.mpr ⟨(zco_3 _ (List.mem_of_getElem? (l := zcl9_3) (i := 5) rfl)).1, rfl⟩
theorem zcd_X7_raise : Cond.code mX7_raise.1 mX7_raise.2.1 mX7_raise.2.2.1 mX7_raise.2.2.2 ∈ ZTbl := List.mem_filter.mpr ⟨(zco_3 _ (List.mem_of_getElem? (l := zcl9_3) (i := 6) rfl)).1, rfl⟩
theorem zcd_X7_take : Cond.code mX7_take.1 mX7_take.2.1 mX7_take.2.2.1 mX7_take.2.2.2 ∈ ZTbl := List.mem_filter.mpr ⟨(zco_3 _ (List.mem_of_getElem? (l := zcl9_3) (i := 7) rfl)).1, rfl⟩
theorem zcd_X7_link : Cond.code mX7_link.1 mX7_link.2.1 mX7_link.2.2.1 mX7_link.2.2.2 ∈ ZTbl := List.mem_filter.mpr ⟨(zco_3 _ (List.mem_of_getElem? (l := zcl9_3) (i := 8) rfl)).1, rfl⟩
theorem zcd_X7_makeRoom : Cond.code mX7_makeRoom.1 mX7_makeRoom.2.1 mX7_makeRoom.2.2.1 mX7_makeRoom.2.2.2 ∈ ZTbl := List.mem_filter.mpr ⟨(zco_3 _ (List.mem_of_getElem? (l := zcl9_3) (i := 9) rfl)).1, rfl⟩
theorem zcd_X7_countWays : Cond.code mX7_countWays.1 mX7_countWays.2.1 mX7_countWays.2.2.1 mX7_countWays.2.2.2 ∈ ZTbl := List.mem_filter.mpr ⟨(zco_3 _ (List.mem_of_getElem? (l := zcl9_3) (i := 10) rfl)).1, rfl⟩
theorem zcd_X7_measureWorst : Cond.code mX7_measureWorst.1 mX7_measureWorst.2.1 mX7_measureWorst.2.2.1 mX7_measureWorst.2.2.2 ∈ ZTbl := List.mem_filter.mpr ⟨(zco_3 _ (List.mem_of_getElem? (l := zcl9_3) (i := 11) rfl)).1, rfl⟩
theorem zcd_X7_props : Cond.code mX7_props.1 mX7_props.2.1 mX7_props.2.2.1 mX7_props.2.2.2 ∈ ZTbl := List.mem_filter.mpr ⟨(zco_3 _ (List.mem_of_getElem? (l := zcl9_3) (i := 12) rfl)).1, rfl⟩
theorem zcd_X7_keepSteps : Cond.code mX7_keepSteps.1 mX7_keepSteps.2.1 mX7_keepSteps.2.2.1 mX7_keepSteps.2.2.2 ∈ ZTbl := List.mem_filter.mpr ⟨(zco_3 _ (List.mem_of_getElem? (l := zcl9_3) (i := 13) rfl)).1, rfl⟩
theorem zcd_X8_init : Cond.code mX8_init.1 mX8_init.2.1 mX8_init.2.2.1 mX8_init.2.2.2 ∈ ZTbl := List.mem_filter.mpr ⟨(zco_3 _ (List.mem_of_getElem? (l := zcl9_3) (i := 14) rfl)).1, rfl⟩
theorem zcd_X8_tellMaster : Cond.code mX8_tellMaster.1 mX8_tellMaster.2.1 mX8_tellMaster.2.2.1 mX8_tellMaster.2.2.2 ∈ ZTbl := List.mem_filter.mpr ⟨(zco_3 _ (List.mem_of_getElem? (l := zcl9_3) (i := 15) rfl)).1, rfl⟩
theorem zcd_X8_addRing : Cond.code mX8_addRing.1 mX8_addRing.2.1 mX8_addRing.2.2.1 mX8_addRing.2.2.2 ∈ ZTbl := List.mem_filter.mpr ⟨(zco_3 _ (List.mem_of_getElem? (l := zcl9_3) (i := 16) rfl)).1, rfl⟩
theorem zcd_X8_tellSap : Cond.code mX8_tellSap.1 mX8_tellSap.2.1 mX8_tellSap.2.2.1 mX8_tellSap.2.2.2 ∈ ZTbl := List.mem_filter.mpr ⟨(zco_3 _ (List.mem_of_getElem? (l := zcl9_3) (i := 17) rfl)).1, rfl⟩
theorem zcd_X8_ringsSeen : Cond.code mX8_ringsSeen.1 mX8_ringsSeen.2.1 mX8_ringsSeen.2.2.1 mX8_ringsSeen.2.2.2 ∈ ZTbl := List.mem_filter.mpr ⟨(zco_3 _ (List.mem_of_getElem? (l := zcl9_3) (i := 18) rfl)).1, rfl⟩
theorem zcd_X8_sapTold : Cond.code mX8_sapTold.1 mX8_sapTold.2.1 mX8_sapTold.2.2.1 mX8_sapTold.2.2.2 ∈ ZTbl := List.mem_filter.mpr ⟨(zco_3 _ (List.mem_of_getElem? (l := zcl9_3) (i := 19) rfl)).1, rfl⟩
theorem zcd_X8_barkTold : Cond.code mX8_barkTold.1 mX8_barkTold.2.1 mX8_barkTold.2.2.1 mX8_barkTold.2.2.2 ∈ ZTbl := List.mem_filter.mpr ⟨(zco_3 _ (List.mem_of_getElem? (l := zcl9_3) (i := 20) rfl)).1, rfl⟩
theorem zcd_X8_dateBy : Cond.code mX8_dateBy.1 mX8_dateBy.2.1 mX8_dateBy.2.2.1 mX8_dateBy.2.2.2 ∈ ZTbl := List.mem_filter.mpr ⟨(zco_3 _ (List.mem_of_getElem? (l := zcl9_3) (i := 21) rfl)).1, rfl⟩
theorem zcd_X8_agreeAt : Cond.code mX8_agreeAt.1 mX8_agreeAt.2.1 mX8_agreeAt.2.2.1 mX8_agreeAt.2.2.2 ∈ ZTbl := List.mem_filter.mpr ⟨(zco_3 _ (List.mem_of_getElem? (l := zcl9_3) (i := 22) rfl)).1, rfl⟩
theorem zcd_X8_wayTo : Cond.code mX8_wayTo.1 mX8_wayTo.2.1 mX8_wayTo.2.2.1 mX8_wayTo.2.2.2 ∈ ZTbl := List.mem_filter.mpr ⟨(zco_3 _ (List.mem_of_getElem? (l := zcl9_3) (i := 23) rfl)).1, rfl⟩
theorem zcd_X8_way : Cond.code mX8_way.1 mX8_way.2.1 mX8_way.2.2.1 mX8_way.2.2.2 ∈ ZTbl := List.mem_filter.mpr ⟨(zco_3 _ (List.mem_of_getElem? (l := zcl9_3) (i := 24) rfl)).1, rfl⟩
theorem zcd_X8_fell : Cond.code mX8_fell.1 mX8_fell.2.1 mX8_fell.2.2.1 mX8_fell.2.2.2 ∈ ZTbl := List.mem_filter.mpr ⟨(zco_3 _ (List.mem_of_getElem? (l := zcl9_3) (i := 25) rfl)).1, rfl⟩
theorem zcd_X8_isSure : Cond.code mX8_isSure.1 mX8_isSure.2.1 mX8_isSure.2.2.1 mX8_isSure.2.2.2 ∈ ZTbl := List.mem_filter.mpr ⟨(zco_3 _ (List.mem_of_getElem? (l := zcl9_3) (i := 26) rfl)).1, rfl⟩
theorem zcd_X8_dated : Cond.code mX8_dated.1 mX8_dated.2.1 mX8_dated.2.2.1 mX8_dated.2.2.2 ∈ ZTbl := List.mem_filter.mpr ⟨(zco_3 _ (List.mem_of_getElem? (l := zcl9_3) (i := 27) rfl)).1, rfl⟩
theorem zcd_X8_felledOrUsed : Cond.code mX8_felledOrUsed.1 mX8_felledOrUsed.2.1 mX8_felledOrUsed.2.2.1 mX8_felledOrUsed.2.2.2 ∈ ZTbl := List.mem_filter.mpr ⟨(zco_3 _ (List.mem_of_getElem? (l := zcl9_3) (i := 28) rfl)).1, rfl⟩
theorem zcd_X9_init : Cond.code mX9_init.1 mX9_init.2.1 mX9_init.2.2.1 mX9_init.2.2.2 ∈ ZTbl := List.mem_filter.mpr ⟨(zco_3 _ (List.mem_of_getElem? (l := zcl9_3) (i := 29) rfl)).1, rfl⟩
def zcl9_4 : List Cond := [Cond.code yX9_hasRoomFor cX9_hasRoomFor 2 (some .boolean), Cond.code yX9_push cX9_push 3 (none), Cond.code yX9_cut cX9_cut 2 (some .boolean), Cond.code yX9_clear cX9_clear 1 (none), Cond.code yX9_size cX9_size 1 (some .int), Cond.code yX9_byteAt cX9_byteAt 2 (some .int), Cond.code yX10_init cX10_init 1 (none), Cond.code yX10_addTimber cX10_addTimber 4 (some .int), Cond.code yX10_addJoint cX10_addJoint 6 (some .int), Cond.code yX10_hasTimber cX10_hasTimber 2 (some .boolean), Cond.code yX10_hasJoint cX10_hasJoint 2 (some .boolean), Cond.code yX10_timbersUpTo cX10_timbersUpTo 3 (some .int), Cond.code yX10_jointsUpTo cX10_jointsUpTo 3 (some .int), Cond.code yX10_jointsOf cX10_jointsOf 5 (some .int), Cond.code yX10_kindOf cX10_kindOf 2 (some .int), Cond.code yX10_lengthOf cX10_lengthOf 2 (some .int), Cond.code yX10_dayOf cX10_dayOf 2 (some .int), Cond.code yX10_timberOf cX10_timberOf 2 (some .int), Cond.code yX10_placeOf cX10_placeOf 2 (some .int), Cond.code yX10_sortOf cX10_sortOf 2 (some .int), Cond.code yX10_sizeOf cX10_sizeOf 2 (some .int), Cond.code yX11_init cX11_init 1 (none), Cond.code yX11_days cX11_days 2 (some .int), Cond.code yX11_view cX11_view 2 (some .boolean), Cond.code yX11_timber cX11_timber 3 (some .int), Cond.code yX11_joint cX11_joint 6 (some .int), Cond.code yX11_feed cX11_feed 6 (some .int), Cond.code yX11_end cX11_end 2 (some .boolean), Cond.code yX11_mark cX11_mark 3 (some .int), Cond.code yX11_custom cX11_custom 4 (some .int)]
set_option maxRecDepth 40000 in
theorem zco_4 : GoodIn lw_tbl zcl9_4 := goodIn_p _ [632, 636, 648, 672, 640, 665, 242, 608, 616, 620, 656, 846, 854, 624, 933, 1048, 1066, 925, 1078, 907, 929, 129, 588, 592, 604, 612, 628, 644, 652, 676] rfl (by decide +kernel)
theorem zcd_X9_hasRoomFor : Cond.code mX9_hasRoomFor.1 mX9_hasRoomFor.2.1 mX9_hasRoomFor.2.2.1 mX9_hasRoomFor.2.2.2 ∈ ZTbl := List.mem_filter.mpr ⟨(zco_4 _ (List.mem_of_getElem? (l := zcl9_4) (i := 0) rfl)).1, rfl⟩
theorem zcd_X9_push : Cond.code mX9_push.1 mX9_push.2.1 mX9_push.2.2.1 mX9_push.2.2.2 ∈ ZTbl := List.mem_filter.mpr ⟨(zco_4 _ (List.mem_of_getElem? (l := zcl9_4) (i := 1) rfl)).1, rfl⟩
theorem zcd_X9_cut : Cond.code mX9_cut.1 mX9_cut.2.1 mX9_cut.2.2.1 mX9_cut.2.2.2 ∈ ZTbl := List.mem_filter.mpr ⟨(zco_4 _ (List.mem_of_getElem? (l := zcl9_4) (i := 2) rfl)).1, rfl⟩
theorem zcd_X9_clear : Cond.code mX9_clear.1 mX9_clear.2.1 mX9_clear.2.2.1 mX9_clear.2.2.2 ∈ ZTbl := List.mem_filter.mpr ⟨(zco_4 _ (List.mem_of_getElem? (l := zcl9_4) (i := 3) rfl)).1, rfl⟩
theorem zcd_X9_size : Cond.code mX9_size.1 mX9_size.2.1 mX9_size.2.2.1 mX9_size.2.2.2 ∈ ZTbl := List.mem_filter.mpr ⟨(zco_4 _ (List.mem_of_getElem? (l := zcl9_4) (i := 4) rfl)).1, rfl⟩
theorem zcd_X9_byteAt : Cond.code mX9_byteAt.1 mX9_byteAt.2.1 mX9_byteAt.2.2.1 mX9_byteAt.2.2.2 ∈ ZTbl := List.mem_filter.mpr ⟨(zco_4 _ (List.mem_of_getElem? (l := zcl9_4) (i := 5) rfl)).1, rfl⟩
theorem zcd_X10_init : Cond.code mX10_init.1 mX10_init.2.1 mX10_init.2.2.1 mX10_init.2.2.2 ∈ ZTbl := List.mem_filter.mpr ⟨(zco_4 _ (List.mem_of_getElem? (l := zcl9_4) (i := 6) rfl)).1, rfl⟩
theorem zcd_X10_addTimber : Cond.code mX10_addTimber.1 mX10_addTimber.2.1 mX10_addTimber.2.2.1 mX10_addTimber.2.2.2 ∈ ZTbl := List.mem_filter.mpr ⟨(zco_4 _ (List.mem_of_getElem? (l := zcl9_4) (i := 7) rfl)).1, rfl⟩
theorem zcd_X10_addJoint : Cond.code mX10_addJoint.1 mX10_addJoint.2.1 mX10_addJoint.2.2.1 mX10_addJoint.2.2.2 ∈ ZTbl := List.mem_filter.mpr ⟨(zco_4 _ (List.mem_of_getElem? (l := zcl9_4) (i := 8) rfl)).1, rfl⟩
theorem zcd_X10_hasTimber : Cond.code mX10_hasTimber.1 mX10_hasTimber.2.1 mX10_hasTimber.2.2.1 mX10_hasTimber.2.2.2 ∈ ZTbl := List.mem_filter.mpr ⟨(zco_4 _ (List.mem_of_getElem? (l := zcl9_4) (i := 9) rfl)).1, rfl⟩
theorem zcd_X10_hasJoint : Cond.code mX10_hasJoint.1 mX10_hasJoint.2.1 mX10_hasJoint.2.2.1 mX10_hasJoint.2.2.2 ∈ ZTbl := List.mem_filter.mpr ⟨(zco_4 _ (List.mem_of_getElem? (l := zcl9_4) (i := 10) rfl)).1, rfl⟩
theorem zcd_X10_timbersUpTo : Cond.code mX10_timbersUpTo.1 mX10_timbersUpTo.2.1 mX10_timbersUpTo.2.2.1 mX10_timbersUpTo.2.2.2 ∈ ZTbl := List.mem_filter.mpr ⟨(zco_4 _ (List.mem_of_getElem? (l := zcl9_4) (i := 11) rfl)).1, rfl⟩
theorem zcd_X10_jointsUpTo : Cond.code mX10_jointsUpTo.1 mX10_jointsUpTo.2.1 mX10_jointsUpTo.2.2.1 mX10_jointsUpTo.2.2.2 ∈ ZTbl := List.mem_filter.mpr ⟨(zco_4 _ (List.mem_of_getElem? (l := zcl9_4) (i := 12) rfl)).1, rfl⟩
theorem zcd_X10_jointsOf : Cond.code mX10_jointsOf.1 mX10_jointsOf.2.1 mX10_jointsOf.2.2.1 mX10_jointsOf.2.2.2 ∈ ZTbl := List.mem_filter.mpr ⟨(zco_4 _ (List.mem_of_getElem? (l := zcl9_4) (i := 13) rfl)).1, rfl⟩
theorem zcd_X10_kindOf : Cond.code mX10_kindOf.1 mX10_kindOf.2.1 mX10_kindOf.2.2.1 mX10_kindOf.2.2.2 ∈ ZTbl := List.mem_filter.mpr ⟨(zco_4 _ (List.mem_of_getElem? (l := zcl9_4) (i := 14) rfl)).1, rfl⟩
theorem zcd_X10_lengthOf : Cond.code mX10_lengthOf.1 mX10_lengthOf.2.1 mX10_lengthOf.2.2.1 mX10_lengthOf.2.2.2 ∈ ZTbl := List.mem_filter.mpr ⟨(zco_4 _ (List.mem_of_getElem? (l := zcl9_4) (i := 15) rfl)).1, rfl⟩
theorem zcd_X10_dayOf : Cond.code mX10_dayOf.1 mX10_dayOf.2.1 mX10_dayOf.2.2.1 mX10_dayOf.2.2.2 ∈ ZTbl := List.mem_filter.mpr ⟨(zco_4 _ (List.mem_of_getElem? (l := zcl9_4) (i := 16) rfl)).1, rfl⟩
theorem zcd_X10_timberOf : Cond.code mX10_timberOf.1 mX10_timberOf.2.1 mX10_timberOf.2.2.1 mX10_timberOf.2.2.2 ∈ ZTbl := List.mem_filter.mpr ⟨(zco_4 _ (List.mem_of_getElem? (l := zcl9_4) (i := 17) rfl)).1, rfl⟩
theorem zcd_X10_placeOf : Cond.code mX10_placeOf.1 mX10_placeOf.2.1 mX10_placeOf.2.2.1 mX10_placeOf.2.2.2 ∈ ZTbl := List.mem_filter.mpr ⟨(zco_4 _ (List.mem_of_getElem? (l := zcl9_4) (i := 18) rfl)).1, rfl⟩
theorem zcd_X10_sortOf : Cond.code mX10_sortOf.1 mX10_sortOf.2.1 mX10_sortOf.2.2.1 mX10_sortOf.2.2.2 ∈ ZTbl := List.mem_filter.mpr ⟨(zco_4 _ (List.mem_of_getElem? (l := zcl9_4) (i := 19) rfl)).1, rfl⟩
theorem zcd_X10_sizeOf : Cond.code mX10_sizeOf.1 mX10_sizeOf.2.1 mX10_sizeOf.2.2.1 mX10_sizeOf.2.2.2 ∈ ZTbl := List.mem_filter.mpr ⟨(zco_4 _ (List.mem_of_getElem? (l := zcl9_4) (i := 20) rfl)).1, rfl⟩
theorem zcd_X11_init : Cond.code mX11_init.1 mX11_init.2.1 mX11_init.2.2.1 mX11_init.2.2.2 ∈ ZTbl := List.mem_filter.mpr ⟨(zco_4 _ (List.mem_of_getElem? (l := zcl9_4) (i := 21) rfl)).1, rfl⟩
theorem zcd_X11_days : Cond.code mX11_days.1 mX11_days.2.1 mX11_days.2.2.1 mX11_days.2.2.2 ∈ ZTbl := List.mem_filter.mpr ⟨(zco_4 _ (List.mem_of_getElem? (l := zcl9_4) (i := 22) rfl)).1, rfl⟩
theorem zcd_X11_view : Cond.code mX11_view.1 mX11_view.2.1 mX11_view.2.2.1 mX11_view.2.2.2 ∈ ZTbl := List.mem_filter.mpr ⟨(zco_4 _ (List.mem_of_getElem? (l := zcl9_4) (i := 23) rfl)).1, rfl⟩
theorem zcd_X11_timber : Cond.code mX11_timber.1 mX11_timber.2.1 mX11_timber.2.2.1 mX11_timber.2.2.2 ∈ ZTbl := List.mem_filter.mpr ⟨(zco_4 _ (List.mem_of_getElem? (l := zcl9_4) (i := 24) rfl)).1, rfl⟩
theorem zcd_X11_joint : Cond.code mX11_joint.1 mX11_joint.2.1 mX11_joint.2.2.1 mX11_joint.2.2.2 ∈ ZTbl := List.mem_filter.mpr ⟨(zco_4 _ (List.mem_of_getElem? (l := zcl9_4) (i := 25) rfl)).1, rfl⟩
theorem zcd_X11_feed : Cond.code mX11_feed.1 mX11_feed.2.1 mX11_feed.2.2.1 mX11_feed.2.2.2 ∈ ZTbl := List.mem_filter.mpr ⟨(zco_4 _ (List.mem_of_getElem? (l := zcl9_4) (i := 26) rfl)).1, rfl⟩
theorem zcd_X11_end : Cond.code mX11_end.1 mX11_end.2.1 mX11_end.2.2.1 mX11_end.2.2.2 ∈ ZTbl := List.mem_filter.mpr ⟨(zco_4 _ (List.mem_of_getElem? (l := zcl9_4) (i := 27) rfl)).1, rfl⟩
theorem zcd_X11_mark : Cond.code mX11_mark.1 mX11_mark.2.1 mX11_mark.2.2.1 mX11_mark.2.2.2 ∈ ZTbl := List.mem_filter.mpr ⟨(zco_4 _ (List.mem_of_getElem? (l := zcl9_4) (i := 28) rfl)).1, rfl⟩
theorem zcd_X11_custom : Cond.code mX11_custom.1 mX11_custom.2.1 mX11_custom.2.2.1 mX11_custom.2.2.2 ∈ ZTbl := List.mem_filter.mpr ⟨(zco_4 _ (List.mem_of_getElem? (l := zcl9_4) (i := 29) rfl)).1, rfl⟩
def zcl9_5 : List Cond := [Cond.code yX11_fault cX11_fault 2 (some .int), Cond.code yX11_look cX11_look 2 (some .int), Cond.code yX11_customs cX11_customs 3 (some .int), Cond.code yX11_of cX11_of 3 (some .int), Cond.code yX11_at cX11_at 3 (some .int), Cond.code yX11_reads cX11_reads 3 (some .long), Cond.code yX11_fits cX11_fits 4 (some .int), Cond.code yX11_join cX11_join 3 (some .int), Cond.code yX11_mate cX11_mate 3 (some .int), Cond.code yX11_forced cX11_forced 3 (some .int), Cond.code yX11_frameOf cX11_frameOf 3 (some .int), Cond.code yX11_frame cX11_frame 4 (some .int), Cond.code yX11_orders cX11_orders 3 (some .long), Cond.code yX11_raised cX11_raised 4 (some .int), Cond.code yX11_master cX11_master 3 (some .boolean), Cond.code yX11_ring cX11_ring 3 (some .int), Cond.code yX11_sap cX11_sap 4 (some .boolean), Cond.code yX11_date cX11_date 4 (some .int), Cond.code yX11_built cX11_built 5 (some .int), Cond.code yX11_lean cX11_lean 4 (some .boolean), Cond.code yX11_leans cX11_leans 3 (some .int), Cond.code yX11_falls cX11_falls 3 (some .int), Cond.code yX11_write cX11_write 4 (some .int), Cond.code yX11_out cX11_out 2 (some .int), Cond.code yX11_putNumber cX11_putNumber 2 (none), Cond.code yX11_putByte cX11_putByte 2 (none), Cond.code yX11_lastDaySeen cX11_lastDaySeen 1 (some .int), Cond.code yX11_timbersSeen cX11_timbersSeen 1 (some .int), Cond.code yX11_jointsSeen cX11_jointsSeen 1 (some .int), Cond.code yX11_isCustom cX11_isCustom 2 (some .boolean)]
set_option maxRecDepth 40000 in
theorem zco_5 : GoodIn lw_tbl zcl9_5 := goodIn_p _ [826, 838, 1023, 1040, 1070, 1086, 1091, 1099, 1125, 1129, 1137, 1141, 1231, 1235, 1243, 1251, 1260, 1268, 1304, 1332, 1340, 1364, 1372, 1384, 1376, 1380, 596, 842, 850, 680] rfl (by decide +kernel)
theorem zcd_X11_fault : Cond.code mX11_fault.1 mX11_fault.2.1 mX11_fault.2.2.1 mX11_fault.2.2.2 ∈ ZTbl := List.mem_filter.mpr ⟨(zco_5 _ (List.mem_of_getElem? (l := zcl9_5) (i := 0) rfl)).1, rfl⟩
theorem zcd_X11_look : Cond.code mX11_look.1 mX11_look.2.1 mX11_look.2.2.1 mX11_look.2.2.2 ∈ ZTbl := List.mem_filter.mpr ⟨(zco_5 _ (List.mem_of_getElem? (l := zcl9_5) (i := 1) rfl)).1, rfl⟩
theorem zcd_X11_customs : Cond.code mX11_customs.1 mX11_customs.2.1 mX11_customs.2.2.1 mX11_customs.2.2.2 ∈ ZTbl := List.mem_filter.mpr ⟨(zco_5 _ (List.mem_of_getElem? (l := zcl9_5) (i := 2) rfl)).1, rfl⟩
theorem zcd_X11_of : Cond.code mX11_of.1 mX11_of.2.1 mX11_of.2.2.1 mX11_of.2.2.2 ∈ ZTbl := List.mem_filter.mpr ⟨(zco_5 _ (List.mem_of_getElem? (l := zcl9_5) (i := 3) rfl)).1, rfl⟩
theorem zcd_X11_at : Cond.code mX11_at.1 mX11_at.2.1 mX11_at.2.2.1 mX11_at.2.2.2 ∈ ZTbl := List.mem_filter.mpr ⟨(zco_5 _ (List.mem_of_getElem? (l := zcl9_5) (i := 4) rfl)).1, rfl⟩
theorem zcd_X11_reads : Cond.code mX11_reads.1 mX11_reads.2.1 mX11_reads.2.2.1 mX11_reads.2.2.2 ∈ ZTbl := List.mem_filter.mpr ⟨(zco_5 _ (List.mem_of_getElem? (l := zcl9_5) (i := 5) rfl)).1, rfl⟩
theorem zcd_X11_fits : Cond.code mX11_fits.1 mX11_fits.2.1 mX11_fits.2.2.1 mX11_fits.2.2.2 ∈ ZTbl := List.mem_filter.mpr ⟨(zco_5 _ (List.mem_of_getElem? (l := zcl9_5) (i := 6) rfl)).1, rfl⟩
theorem zcd_X11_join : Cond.code mX11_join.1 mX11_join.2.1 mX11_join.2.2.1 mX11_join.2.2.2 ∈ ZTbl := List.mem_filter.mpr ⟨(zco_5 _ (List.mem_of_getElem? (l := zcl9_5) (i := 7) rfl)).1, rfl⟩
theorem zcd_X11_mate : Cond.code mX11_mate.1 mX11_mate.2.1 mX11_mate.2.2.1 mX11_mate.2.2.2 ∈ ZTbl := List.mem_filter.mpr ⟨(zco_5 _ (List.mem_of_getElem? (l := zcl9_5) (i := 8) rfl)).1, rfl⟩
theorem zcd_X11_forced : Cond.code mX11_forced.1 mX11_forced.2.1 mX11_forced.2.2.1 mX11_forced.2.2.2 ∈ ZTbl := List.mem_filter.mpr ⟨(zco_5 _ (List.mem_of_getElem? (l := zcl9_5) (i := 9) rfl)).1, rfl⟩
theorem zcd_X11_frameOf : Cond.code mX11_frameOf.1 mX11_frameOf.2.1 mX11_frameOf.2.2.1 mX11_frameOf.2.2.2 ∈ ZTbl := List.mem_filter.mpr ⟨(zco_5 _ (List.mem_of_getElem? (l := zcl9_5) (i := 10) rfl)).1, rfl⟩
theorem zcd_X11_frame : Cond.code mX11_frame.1 mX11_frame.2.1 mX11_frame.2.2.1 mX11_frame.2.2.2 ∈ ZTbl := List.mem_filter.mpr ⟨(zco_5 _ (List.mem_of_getElem? (l := zcl9_5) (i := 11) rfl)).1, rfl⟩
theorem zcd_X11_orders : Cond.code mX11_orders.1 mX11_orders.2.1 mX11_orders.2.2.1 mX11_orders.2.2.2 ∈ ZTbl := List.mem_filter.mpr ⟨(zco_5 _ (List.mem_of_getElem? (l := zcl9_5) (i := 12) rfl)).1, rfl⟩
theorem zcd_X11_raised : Cond.code mX11_raised.1 mX11_raised.2.1 mX11_raised.2.2.1 mX11_raised.2.2.2 ∈ ZTbl := List.mem_filter.mpr ⟨(zco_5 _ (List.mem_of_getElem? (l := zcl9_5) (i := 13) rfl)).1, rfl⟩
theorem zcd_X11_master : Cond.code mX11_master.1 mX11_master.2.1 mX11_master.2.2.1 mX11_master.2.2.2 ∈ ZTbl := List.mem_filter.mpr ⟨(zco_5 _ (List.mem_of_getElem? (l := zcl9_5) (i := 14) rfl)).1, rfl⟩
theorem zcd_X11_ring : Cond.code mX11_ring.1 mX11_ring.2.1 mX11_ring.2.2.1 mX11_ring.2.2.2 ∈ ZTbl := List.mem_filter.mpr ⟨(zco_5 _ (List.mem_of_getElem? (l := zcl9_5) (i := 15) rfl)).1, rfl⟩
theorem zcd_X11_sap : Cond.code mX11_sap.1 mX11_sap.2.1 mX11_sap.2.2.1 mX11_sap.2.2.2 ∈ ZTbl := List.mem_filter.mpr ⟨(zco_5 _ (List.mem_of_getElem? (l := zcl9_5) (i := 16) rfl)).1, rfl⟩
theorem zcd_X11_date : Cond.code mX11_date.1 mX11_date.2.1 mX11_date.2.2.1 mX11_date.2.2.2 ∈ ZTbl := List.mem_filter.mpr ⟨(zco_5 _ (List.mem_of_getElem? (l := zcl9_5) (i := 17) rfl)).1, rfl⟩
theorem zcd_X11_built : Cond.code mX11_built.1 mX11_built.2.1 mX11_built.2.2.1 mX11_built.2.2.2 ∈ ZTbl := List.mem_filter.mpr ⟨(zco_5 _ (List.mem_of_getElem? (l := zcl9_5) (i := 18) rfl)).1, rfl⟩
theorem zcd_X11_lean : Cond.code mX11_lean.1 mX11_lean.2.1 mX11_lean.2.2.1 mX11_lean.2.2.2 ∈ ZTbl := List.mem_filter.mpr ⟨(zco_5 _ (List.mem_of_getElem? (l := zcl9_5) (i := 19) rfl)).1, rfl⟩
theorem zcd_X11_leans : Cond.code mX11_leans.1 mX11_leans.2.1 mX11_leans.2.2.1 mX11_leans.2.2.2 ∈ ZTbl := List.mem_filter.mpr ⟨(zco_5 _ (List.mem_of_getElem? (l := zcl9_5) (i := 20) rfl)).1, rfl⟩
theorem zcd_X11_falls : Cond.code mX11_falls.1 mX11_falls.2.1 mX11_falls.2.2.1 mX11_falls.2.2.2 ∈ ZTbl := List.mem_filter.mpr ⟨(zco_5 _ (List.mem_of_getElem? (l := zcl9_5) (i := 21) rfl)).1, rfl⟩
theorem zcd_X11_write : Cond.code mX11_write.1 mX11_write.2.1 mX11_write.2.2.1 mX11_write.2.2.2 ∈ ZTbl := List.mem_filter.mpr ⟨(zco_5 _ (List.mem_of_getElem? (l := zcl9_5) (i := 22) rfl)).1, rfl⟩
theorem zcd_X11_out : Cond.code mX11_out.1 mX11_out.2.1 mX11_out.2.2.1 mX11_out.2.2.2 ∈ ZTbl := List.mem_filter.mpr ⟨(zco_5 _ (List.mem_of_getElem? (l := zcl9_5) (i := 23) rfl)).1, rfl⟩
theorem zcd_X11_putNumber : Cond.code mX11_putNumber.1 mX11_putNumber.2.1 mX11_putNumber.2.2.1 mX11_putNumber.2.2.2 ∈ ZTbl := List.mem_filter.mpr ⟨(zco_5 _ (List.mem_of_getElem? (l := zcl9_5) (i := 24) rfl)).1, rfl⟩
theorem zcd_X11_putByte : Cond.code mX11_putByte.1 mX11_putByte.2.1 mX11_putByte.2.2.1 mX11_putByte.2.2.2 ∈ ZTbl := List.mem_filter.mpr ⟨(zco_5 _ (List.mem_of_getElem? (l := zcl9_5) (i := 25) rfl)).1, rfl⟩
theorem zcd_X11_lastDaySeen : Cond.code mX11_lastDaySeen.1 mX11_lastDaySeen.2.1 mX11_lastDaySeen.2.2.1 mX11_lastDaySeen.2.2.2 ∈ ZTbl := List.mem_filter.mpr ⟨(zco_5 _ (List.mem_of_getElem? (l := zcl9_5) (i := 26) rfl)).1, rfl⟩
theorem zcd_X11_timbersSeen : Cond.code mX11_timbersSeen.1 mX11_timbersSeen.2.1 mX11_timbersSeen.2.2.1 mX11_timbersSeen.2.2.2 ∈ ZTbl := List.mem_filter.mpr ⟨(zco_5 _ (List.mem_of_getElem? (l := zcl9_5) (i := 27) rfl)).1, rfl⟩
theorem zcd_X11_jointsSeen : Cond.code mX11_jointsSeen.1 mX11_jointsSeen.2.1 mX11_jointsSeen.2.2.1 mX11_jointsSeen.2.2.2 ∈ ZTbl := List.mem_filter.mpr ⟨(zco_5 _ (List.mem_of_getElem? (l := zcl9_5) (i := 28) rfl)).1, rfl⟩
theorem zcd_X11_isCustom : Cond.code mX11_isCustom.1 mX11_isCustom.2.1 mX11_isCustom.2.2.1 mX11_isCustom.2.2.2 ∈ ZTbl := List.mem_filter.mpr ⟨(zco_5 _ (List.mem_of_getElem? (l := zcl9_5) (i := 29) rfl)).1, rfl⟩
def zcl9_6 : List Cond := [Cond.code yX11_isTimber cX11_isTimber 2 (some .boolean), Cond.code yX11_isJoint cX11_isJoint 2 (some .boolean), Cond.code yX11_isFrame cX11_isFrame 3 (some .boolean), Cond.code yX11_agreeInNumbers cX11_agreeInNumbers 4 (some .boolean), Cond.code yX11_canFit cX11_canFit 7 (some .boolean), Cond.code yX11_refresh cX11_refresh 5 (none), Cond.code yX11_addFits cX11_addFits 6 (none), Cond.code yX11_raise cX11_raise 4 (some (.object "FrameReader$Frames")), Cond.code yX11_countReused cX11_countReused 3 (some .int), Cond.code yX11_countIdle cX11_countIdle 5 (some .int), Cond.code yX11_pick cX11_pick 2 (some .int), Cond.code yX12_init cX12_init 1 (none), Cond.code yX12_isIn cX12_isIn 4 (some .boolean), Cond.code yX12_isSeen cX12_isSeen 2 (some .boolean), Cond.code yX12_isTimber cX12_isTimber 2 (some .boolean), Cond.code yX12_isJoint cX12_isJoint 2 (some .boolean), Cond.code yX12_days cX12_days 2 (some .int), Cond.code yX12_view cX12_view 2 (some .boolean), Cond.code yX12_timber cX12_timber 3 (some .int), Cond.code yX12_joint cX12_joint 5 (some .int), Cond.code yX12_puts cX12_puts 3 (none), Cond.code yX12_feed cX12_feed 6 (some .int), Cond.code yX12_end cX12_end 2 (some .boolean), Cond.code yX12_isSign cX12_isSign 2 (some .boolean), Cond.code yX12_mark cX12_mark 6 (some .int), Cond.code yX12_markOf cX12_markOf 3 (some .int), Cond.code yX12_signsOf cX12_signsOf 3 (some .int), Cond.code yX12_sideOf cX12_sideOf 3 (some .int), Cond.code yX12_isLetter cX12_isLetter 2 (some .boolean), Cond.code yX12_isDigit cX12_isDigit 2 (some .boolean)]
set_option maxRecDepth 40000 in
theorem zco_6 : GoodIn lw_tbl zcl9_6 := goodIn_p _ [1044, 1074, 1145, 1095, 921, 862, 903, 1157, 858, 1019, 782, 1389, 1673, 1773, 1769, 1781, 1669, 1677, 1681, 1685, 1693, 1689, 1697, 1705, 1701, 1797, 1793, 1801, 1725, 1733] rfl (by decide +kernel)
theorem zcd_X11_isTimber : Cond.code mX11_isTimber.1 mX11_isTimber.2.1 mX11_isTimber.2.2.1 mX11_isTimber.2.2.2 ∈ ZTbl := List.mem_filter.mpr ⟨(zco_6 _ (List.mem_of_getElem? (l := zcl9_6) (i := 0) rfl)).1, rfl⟩
theorem zcd_X11_isJoint : Cond.code mX11_isJoint.1 mX11_isJoint.2.1 mX11_isJoint.2.2.1 mX11_isJoint.2.2.2 ∈ ZTbl := List.mem_filter.mpr ⟨(zco_6 _ (List.mem_of_getElem? (l := zcl9_6) (i := 1) rfl)).1, rfl⟩
theorem zcd_X11_isFrame : Cond.code mX11_isFrame.1 mX11_isFrame.2.1 mX11_isFrame.2.2.1 mX11_isFrame.2.2.2 ∈ ZTbl := List.mem_filter.mpr ⟨(zco_6 _ (List.mem_of_getElem? (l := zcl9_6) (i := 2) rfl)).1, rfl⟩
theorem zcd_X11_agreeInNumbers : Cond.code mX11_agreeInNumbers.1 mX11_agreeInNumbers.2.1 mX11_agreeInNumbers.2.2.1 mX11_agreeInNumbers.2.2.2 ∈ ZTbl := List.mem_filter.mpr ⟨(zco_6 _ (List.mem_of_getElem? (l := zcl9_6) (i := 3) rfl)).1, rfl⟩
theorem zcd_X11_canFit : Cond.code mX11_canFit.1 mX11_canFit.2.1 mX11_canFit.2.2.1 mX11_canFit.2.2.2 ∈ ZTbl := List.mem_filter.mpr ⟨(zco_6 _ (List.mem_of_getElem? (l := zcl9_6) (i := 4) rfl)).1, rfl⟩
theorem zcd_X11_refresh : Cond.code mX11_refresh.1 mX11_refresh.2.1 mX11_refresh.2.2.1 mX11_refresh.2.2.2 ∈ ZTbl := List.mem_filter.mpr ⟨(zco_6 _ (List.mem_of_getElem? (l := zcl9_6) (i := 5) rfl)).1, rfl⟩
theorem zcd_X11_addFits : Cond.code mX11_addFits.1 mX11_addFits.2.1 mX11_addFits.2.2.1 mX11_addFits.2.2.2 ∈ ZTbl := List.mem_filter.mpr ⟨(zco_6 _ (List.mem_of_getElem? (l := zcl9_6) (i := 6) rfl)).1, rfl⟩
theorem zcd_X11_raise : Cond.code mX11_raise.1 mX11_raise.2.1 mX11_raise.2.2.1 mX11_raise.2.2.2 ∈ ZTbl := List.mem_filter.mpr ⟨(zco_6 _ (List.mem_of_getElem? (l := zcl9_6) (i := 7) rfl)).1, rfl⟩
theorem zcd_X11_countReused : Cond.code mX11_countReused.1 mX11_countReused.2.1 mX11_countReused.2.2.1 mX11_countReused.2.2.2 ∈ ZTbl := List.mem_filter.mpr ⟨(zco_6 _ (List.mem_of_getElem? (l := zcl9_6) (i := 8) rfl)).1, rfl⟩
theorem zcd_X11_countIdle : Cond.code mX11_countIdle.1 mX11_countIdle.2.1 mX11_countIdle.2.2.1 mX11_countIdle.2.2.2 ∈ ZTbl := List.mem_filter.mpr ⟨(zco_6 _ (List.mem_of_getElem? (l := zcl9_6) (i := 9) rfl)).1, rfl⟩
theorem zcd_X11_pick : Cond.code mX11_pick.1 mX11_pick.2.1 mX11_pick.2.2.1 mX11_pick.2.2.2 ∈ ZTbl := List.mem_filter.mpr ⟨(zco_6 _ (List.mem_of_getElem? (l := zcl9_6) (i := 10) rfl)).1, rfl⟩
theorem zcd_X12_init : Cond.code mX12_init.1 mX12_init.2.1 mX12_init.2.2.1 mX12_init.2.2.2 ∈ ZTbl := List.mem_filter.mpr ⟨(zco_6 _ (List.mem_of_getElem? (l := zcl9_6) (i := 11) rfl)).1, rfl⟩
theorem zcd_X12_isIn : Cond.code mX12_isIn.1 mX12_isIn.2.1 mX12_isIn.2.2.1 mX12_isIn.2.2.2 ∈ ZTbl := List.mem_filter.mpr ⟨(zco_6 _ (List.mem_of_getElem? (l := zcl9_6) (i := 12) rfl)).1, rfl⟩
theorem zcd_X12_isSeen : Cond.code mX12_isSeen.1 mX12_isSeen.2.1 mX12_isSeen.2.2.1 mX12_isSeen.2.2.2 ∈ ZTbl := List.mem_filter.mpr ⟨(zco_6 _ (List.mem_of_getElem? (l := zcl9_6) (i := 13) rfl)).1, rfl⟩
theorem zcd_X12_isTimber : Cond.code mX12_isTimber.1 mX12_isTimber.2.1 mX12_isTimber.2.2.1 mX12_isTimber.2.2.2 ∈ ZTbl := List.mem_filter.mpr ⟨(zco_6 _ (List.mem_of_getElem? (l := zcl9_6) (i := 14) rfl)).1, rfl⟩
theorem zcd_X12_isJoint : Cond.code mX12_isJoint.1 mX12_isJoint.2.1 mX12_isJoint.2.2.1 mX12_isJoint.2.2.2 ∈ ZTbl := List.mem_filter.mpr ⟨(zco_6 _ (List.mem_of_getElem? (l := zcl9_6) (i := 15) rfl)).1, rfl⟩
theorem zcd_X12_days : Cond.code mX12_days.1 mX12_days.2.1 mX12_days.2.2.1 mX12_days.2.2.2 ∈ ZTbl := List.mem_filter.mpr ⟨(zco_6 _ (List.mem_of_getElem? (l := zcl9_6) (i := 16) rfl)).1, rfl⟩
theorem zcd_X12_view : Cond.code mX12_view.1 mX12_view.2.1 mX12_view.2.2.1 mX12_view.2.2.2 ∈ ZTbl := List.mem_filter.mpr ⟨(zco_6 _ (List.mem_of_getElem? (l := zcl9_6) (i := 17) rfl)).1, rfl⟩
theorem zcd_X12_timber : Cond.code mX12_timber.1 mX12_timber.2.1 mX12_timber.2.2.1 mX12_timber.2.2.2 ∈ ZTbl := List.mem_filter.mpr ⟨(zco_6 _ (List.mem_of_getElem? (l := zcl9_6) (i := 18) rfl)).1, rfl⟩
theorem zcd_X12_joint : Cond.code mX12_joint.1 mX12_joint.2.1 mX12_joint.2.2.1 mX12_joint.2.2.2 ∈ ZTbl := List.mem_filter.mpr ⟨(zco_6 _ (List.mem_of_getElem? (l := zcl9_6) (i := 19) rfl)).1, rfl⟩
theorem zcd_X12_puts : Cond.code mX12_puts.1 mX12_puts.2.1 mX12_puts.2.2.1 mX12_puts.2.2.2 ∈ ZTbl := List.mem_filter.mpr ⟨(zco_6 _ (List.mem_of_getElem? (l := zcl9_6) (i := 20) rfl)).1, rfl⟩
theorem zcd_X12_feed : Cond.code mX12_feed.1 mX12_feed.2.1 mX12_feed.2.2.1 mX12_feed.2.2.2 ∈ ZTbl := List.mem_filter.mpr ⟨(zco_6 _ (List.mem_of_getElem? (l := zcl9_6) (i := 21) rfl)).1, rfl⟩
theorem zcd_X12_end : Cond.code mX12_end.1 mX12_end.2.1 mX12_end.2.2.1 mX12_end.2.2.2 ∈ ZTbl := List.mem_filter.mpr ⟨(zco_6 _ (List.mem_of_getElem? (l := zcl9_6) (i := 22) rfl)).1, rfl⟩
theorem zcd_X12_isSign : Cond.code mX12_isSign.1 mX12_isSign.2.1 mX12_isSign.2.2.1 mX12_isSign.2.2.2 ∈ ZTbl := List.mem_filter.mpr ⟨(zco_6 _ (List.mem_of_getElem? (l := zcl9_6) (i := 23) rfl)).1, rfl⟩
theorem zcd_X12_mark : Cond.code mX12_mark.1 mX12_mark.2.1 mX12_mark.2.2.1 mX12_mark.2.2.2 ∈ ZTbl := List.mem_filter.mpr ⟨(zco_6 _ (List.mem_of_getElem? (l := zcl9_6) (i := 24) rfl)).1, rfl⟩
theorem zcd_X12_markOf : Cond.code mX12_markOf.1 mX12_markOf.2.1 mX12_markOf.2.2.1 mX12_markOf.2.2.2 ∈ ZTbl := List.mem_filter.mpr ⟨(zco_6 _ (List.mem_of_getElem? (l := zcl9_6) (i := 25) rfl)).1, rfl⟩
theorem zcd_X12_signsOf : Cond.code mX12_signsOf.1 mX12_signsOf.2.1 mX12_signsOf.2.2.1 mX12_signsOf.2.2.2 ∈ ZTbl := List.mem_filter.mpr ⟨(zco_6 _ (List.mem_of_getElem? (l := zcl9_6) (i := 26) rfl)).1, rfl⟩
theorem zcd_X12_sideOf : Cond.code mX12_sideOf.1 mX12_sideOf.2.1 mX12_sideOf.2.2.1 mX12_sideOf.2.2.2 ∈ ZTbl := List.mem_filter.mpr ⟨(zco_6 _ (List.mem_of_getElem? (l := zcl9_6) (i := 27) rfl)).1, rfl⟩
theorem zcd_X12_isLetter : Cond.code mX12_isLetter.1 mX12_isLetter.2.1 mX12_isLetter.2.2.1 mX12_isLetter.2.2.2 ∈ ZTbl := List.mem_filter.mpr ⟨(zco_6 _ (List.mem_of_getElem? (l := zcl9_6) (i := 28) rfl)).1, rfl⟩
theorem zcd_X12_isDigit : Cond.code mX12_isDigit.1 mX12_isDigit.2.1 mX12_isDigit.2.2.1 mX12_isDigit.2.2.2 ∈ ZTbl := List.mem_filter.mpr ⟨(zco_6 _ (List.mem_of_getElem? (l := zcl9_6) (i := 29) rfl)).1, rfl⟩
def zcl9_7 : List Cond := [Cond.code yX12_raw cX12_raw 2 (some .int), Cond.code yX12_wordAt cX12_wordAt 6 (some .int), Cond.code yX12_next cX12_next 2 (none), Cond.code yX12_fails cX12_fails 2 (some .int), Cond.code yX12_isWord cX12_isWord 3 (some .boolean), Cond.code yX12_number cX12_number 4 (some .int), Cond.code yX12_lineComes cX12_lineComes 3 (some .int), Cond.code yX12_reads cX12_reads 2 (some .int), Cond.code yX12_custom cX12_custom 4 (some .int), Cond.code yX12_fault cX12_fault 2 (some .int), Cond.code yX12_isAhead cX12_isAhead 4 (some .boolean), Cond.code yX12_customs cX12_customs 3 (some .int), Cond.code yX12_ringsSeen cX12_ringsSeen 3 (some .int), Cond.code yX12_jointsSeen cX12_jointsSeen 4 (some .int), Cond.code yX12_of cX12_of 3 (some .int), Cond.code yX12_at cX12_at 3 (some .int), Cond.code yX12_adds cX12_adds 4 (none), Cond.code yX12_writes cX12_writes 4 (none), Cond.code yX12_isForm cX12_isForm 5 (some .boolean), Cond.code yX12_isNumber cX12_isNumber 7 (some .boolean), Cond.code yX12_numbers cX12_numbers 7 (some .long), Cond.code yX12_reads_ cX12_reads_ 3 (some .long), Cond.code yX12_isFit cX12_isFit 7 (some .boolean), Cond.code yX12_fits cX12_fits 4 (some .int), Cond.code yX12_findRows cX12_findRows 4 (none), Cond.code yX12_findFars cX12_findFars 6 (none), Cond.code yX12_grows cX12_grows 5 (some .boolean), Cond.code yX12_solves cX12_solves 4 (none), Cond.code yX12_findJoin cX12_findJoin 10 (none), Cond.code yX12_findJoins cX12_findJoins 2 (none)]
set_option maxRecDepth 40000 in
theorem zco_7 : GoodIn lw_tbl zcl9_7 := goodIn_p _ [1721, 1729, 1717, 1741, 1737, 1749, 1745, 1713, 1709, 1753, 1761, 1757, 1785, 1777, 1765, 1789, 1821, 1817, 1825, 1813, 1809, 1805, 1834, 1830, 1850, 1862, 1858, 1854, 1846, 1842] rfl (by decide +kernel)
theorem zcd_X12_raw : Cond.code mX12_raw.1 mX12_raw.2.1 mX12_raw.2.2.1 mX12_raw.2.2.2 ∈ ZTbl := List.mem_filter.mpr ⟨(zco_7 _ (List.mem_of_getElem? (l := zcl9_7) (i := 0) rfl)).1, rfl⟩
theorem zcd_X12_wordAt : Cond.code mX12_wordAt.1 mX12_wordAt.2.1 mX12_wordAt.2.2.1 mX12_wordAt.2.2.2 ∈ ZTbl := List.mem_filter.mpr ⟨(zco_7 _ (List.mem_of_getElem? (l := zcl9_7) (i := 1) rfl)).1, rfl⟩
theorem zcd_X12_next : Cond.code mX12_next.1 mX12_next.2.1 mX12_next.2.2.1 mX12_next.2.2.2 ∈ ZTbl := List.mem_filter.mpr ⟨(zco_7 _ (List.mem_of_getElem? (l := zcl9_7) (i := 2) rfl)).1, rfl⟩
theorem zcd_X12_fails : Cond.code mX12_fails.1 mX12_fails.2.1 mX12_fails.2.2.1 mX12_fails.2.2.2 ∈ ZTbl := List.mem_filter.mpr ⟨(zco_7 _ (List.mem_of_getElem? (l := zcl9_7) (i := 3) rfl)).1, rfl⟩
theorem zcd_X12_isWord : Cond.code mX12_isWord.1 mX12_isWord.2.1 mX12_isWord.2.2.1 mX12_isWord.2.2.2 ∈ ZTbl := List.mem_filter.mpr ⟨(zco_7 _ (List.mem_of_getElem? (l := zcl9_7) (i := 4) rfl)).1, rfl⟩
theorem zcd_X12_number : Cond.code mX12_number.1 mX12_number.2.1 mX12_number.2.2.1 mX12_number.2.2.2 ∈ ZTbl := List.mem_filter.mpr ⟨(zco_7 _ (List.mem_of_getElem? (l := zcl9_7) (i := 5) rfl)).1, rfl⟩
theorem zcd_X12_lineComes : Cond.code mX12_lineComes.1 mX12_lineComes.2.1 mX12_lineComes.2.2.1 mX12_lineComes.2.2.2 ∈ ZTbl := List.mem_filter.mpr ⟨(zco_7 _ (List.mem_of_getElem? (l := zcl9_7) (i := 6) rfl)).1, rfl⟩
theorem zcd_X12_reads : Cond.code mX12_reads.1 mX12_reads.2.1 mX12_reads.2.2.1 mX12_reads.2.2.2 ∈ ZTbl := List.mem_filter.mpr ⟨(zco_7 _ (List.mem_of_getElem? (l := zcl9_7) (i := 7) rfl)).1, rfl⟩
theorem zcd_X12_custom : Cond.code mX12_custom.1 mX12_custom.2.1 mX12_custom.2.2.1 mX12_custom.2.2.2 ∈ ZTbl := List.mem_filter.mpr ⟨(zco_7 _ (List.mem_of_getElem? (l := zcl9_7) (i := 8) rfl)).1, rfl⟩
theorem zcd_X12_fault : Cond.code mX12_fault.1 mX12_fault.2.1 mX12_fault.2.2.1 mX12_fault.2.2.2 ∈ ZTbl := List.mem_filter.mpr ⟨(zco_7 _ (List.mem_of_getElem? (l := zcl9_7) (i := 9) rfl)).1, rfl⟩
theorem zcd_X12_isAhead : Cond.code mX12_isAhead.1 mX12_isAhead.2.1 mX12_isAhead.2.2.1 mX12_isAhead.2.2.2 ∈ ZTbl := List.mem_filter.mpr ⟨(zco_7 _ (List.mem_of_getElem? (l := zcl9_7) (i := 10) rfl)).1, rfl⟩
theorem zcd_X12_customs : Cond.code mX12_customs.1 mX12_customs.2.1 mX12_customs.2.2.1 mX12_customs.2.2.2 ∈ ZTbl := List.mem_filter.mpr ⟨(zco_7 _ (List.mem_of_getElem? (l := zcl9_7) (i := 11) rfl)).1, rfl⟩
theorem zcd_X12_ringsSeen : Cond.code mX12_ringsSeen.1 mX12_ringsSeen.2.1 mX12_ringsSeen.2.2.1 mX12_ringsSeen.2.2.2 ∈ ZTbl := List.mem_filter.mpr ⟨(zco_7 _ (List.mem_of_getElem? (l := zcl9_7) (i := 12) rfl)).1, rfl⟩
theorem zcd_X12_jointsSeen : Cond.code mX12_jointsSeen.1 mX12_jointsSeen.2.1 mX12_jointsSeen.2.2.1 mX12_jointsSeen.2.2.2 ∈ ZTbl := List.mem_filter.mpr ⟨(zco_7 _ (List.mem_of_getElem? (l := zcl9_7) (i := 13) rfl)).1, rfl⟩
theorem zcd_X12_of : Cond.code mX12_of.1 mX12_of.2.1 mX12_of.2.2.1 mX12_of.2.2.2 ∈ ZTbl := List.mem_filter.mpr ⟨(zco_7 _ (List.mem_of_getElem? (l := zcl9_7) (i := 14) rfl)).1, rfl⟩
theorem zcd_X12_at : Cond.code mX12_at.1 mX12_at.2.1 mX12_at.2.2.1 mX12_at.2.2.2 ∈ ZTbl := List.mem_filter.mpr ⟨(zco_7 _ (List.mem_of_getElem? (l := zcl9_7) (i := 15) rfl)).1, rfl⟩
theorem zcd_X12_adds : Cond.code mX12_adds.1 mX12_adds.2.1 mX12_adds.2.2.1 mX12_adds.2.2.2 ∈ ZTbl := List.mem_filter.mpr ⟨(zco_7 _ (List.mem_of_getElem? (l := zcl9_7) (i := 16) rfl)).1, rfl⟩
theorem zcd_X12_writes : Cond.code mX12_writes.1 mX12_writes.2.1 mX12_writes.2.2.1 mX12_writes.2.2.2 ∈ ZTbl := List.mem_filter.mpr ⟨(zco_7 _ (List.mem_of_getElem? (l := zcl9_7) (i := 17) rfl)).1, rfl⟩
theorem zcd_X12_isForm : Cond.code mX12_isForm.1 mX12_isForm.2.1 mX12_isForm.2.2.1 mX12_isForm.2.2.2 ∈ ZTbl := List.mem_filter.mpr ⟨(zco_7 _ (List.mem_of_getElem? (l := zcl9_7) (i := 18) rfl)).1, rfl⟩
theorem zcd_X12_isNumber : Cond.code mX12_isNumber.1 mX12_isNumber.2.1 mX12_isNumber.2.2.1 mX12_isNumber.2.2.2 ∈ ZTbl := List.mem_filter.mpr ⟨(zco_7 _ (List.mem_of_getElem? (l := zcl9_7) (i := 19) rfl)).1, rfl⟩
theorem zcd_X12_numbers : Cond.code mX12_numbers.1 mX12_numbers.2.1 mX12_numbers.2.2.1 mX12_numbers.2.2.2 ∈ ZTbl := List.mem_filter.mpr ⟨(zco_7 _ (List.mem_of_getElem? (l := zcl9_7) (i := 20) rfl)).1, rfl⟩
theorem zcd_X12_reads_ : Cond.code mX12_reads_.1 mX12_reads_.2.1 mX12_reads_.2.2.1 mX12_reads_.2.2.2 ∈ ZTbl := List.mem_filter.mpr ⟨(zco_7 _ (List.mem_of_getElem? (l := zcl9_7) (i := 21) rfl)).1, rfl⟩
theorem zcd_X12_isFit : Cond.code mX12_isFit.1 mX12_isFit.2.1 mX12_isFit.2.2.1 mX12_isFit.2.2.2 ∈ ZTbl := List.mem_filter.mpr ⟨(zco_7 _ (List.mem_of_getElem? (l := zcl9_7) (i := 22) rfl)).1, rfl⟩
theorem zcd_X12_fits : Cond.code mX12_fits.1 mX12_fits.2.1 mX12_fits.2.2.1 mX12_fits.2.2.2 ∈ ZTbl := List.mem_filter.mpr ⟨(zco_7 _ (List.mem_of_getElem? (l := zcl9_7) (i := 23) rfl)).1, rfl⟩
theorem zcd_X12_findRows : Cond.code mX12_findRows.1 mX12_findRows.2.1 mX12_findRows.2.2.1 mX12_findRows.2.2.2 ∈ ZTbl := List.mem_filter.mpr ⟨(zco_7 _ (List.mem_of_getElem? (l := zcl9_7) (i := 24) rfl)).1, rfl⟩
theorem zcd_X12_findFars : Cond.code mX12_findFars.1 mX12_findFars.2.1 mX12_findFars.2.2.1 mX12_findFars.2.2.2 ∈ ZTbl := List.mem_filter.mpr ⟨(zco_7 _ (List.mem_of_getElem? (l := zcl9_7) (i := 25) rfl)).1, rfl⟩
theorem zcd_X12_grows : Cond.code mX12_grows.1 mX12_grows.2.1 mX12_grows.2.2.1 mX12_grows.2.2.2 ∈ ZTbl := List.mem_filter.mpr ⟨(zco_7 _ (List.mem_of_getElem? (l := zcl9_7) (i := 26) rfl)).1, rfl⟩
theorem zcd_X12_solves : Cond.code mX12_solves.1 mX12_solves.2.1 mX12_solves.2.2.1 mX12_solves.2.2.2 ∈ ZTbl := List.mem_filter.mpr ⟨(zco_7 _ (List.mem_of_getElem? (l := zcl9_7) (i := 27) rfl)).1, rfl⟩
theorem zcd_X12_findJoin : Cond.code mX12_findJoin.1 mX12_findJoin.2.1 mX12_findJoin.2.2.1 mX12_findJoin.2.2.2 ∈ ZTbl := List.mem_filter.mpr ⟨(zco_7 _ (List.mem_of_getElem? (l := zcl9_7) (i := 28) rfl)).1, rfl⟩
theorem zcd_X12_findJoins : Cond.code mX12_findJoins.1 mX12_findJoins.2.1 mX12_findJoins.2.2.1 mX12_findJoins.2.2.2 ∈ ZTbl := List.mem_filter.mpr ⟨(zco_7 _ (List.mem_of_getElem? (l := zcl9_7) (i := 29) rfl)).1, rfl⟩
def zcl9_8 : List Cond := [Cond.code yX12_join cX12_join 3 (some .int), Cond.code yX12_mate cX12_mate 3 (some .int), Cond.code yX12_forced cX12_forced 3 (some .int), Cond.code yX12_ones cX12_ones 4 (some .int), Cond.code yX12_findFrames cX12_findFrames 7 (none), Cond.code yX12_hasFrame cX12_hasFrame 3 (some .boolean), Cond.code yX12_frameOf cX12_frameOf 4 (some .int), Cond.code yX12_pairsIn cX12_pairsIn 5 (some .int), Cond.code yX12_props cX12_props 6 (some .int), Cond.code yX12_canCome cX12_canCome 3 (some .boolean), Cond.code yX12_findRaisings cX12_findRaisings 8 (none), Cond.code yX12_frame cX12_frame 5 (some .int), Cond.code yX12_orders cX12_orders 3 (some .long), Cond.code yX12_raised cX12_raised 8 (some .int), Cond.code yX12_master cX12_master 3 (some .boolean), Cond.code yX12_ring cX12_ring 3 (some .int), Cond.code yX12_sap cX12_sap 4 (some .boolean), Cond.code yX12_goes cX12_goes 3 (some .int), Cond.code yX12_agree cX12_agree 6 (some .int), Cond.code yX12_findDate cX12_findDate 7 (none), Cond.code yX12_usedTo cX12_usedTo 2 (some .int), Cond.code yX12_date cX12_date 4 (some .int), Cond.code yX12_built cX12_built 7 (some .int), Cond.code yX12_lean cX12_lean 4 (some .boolean), Cond.code yX12_counts cX12_counts 3 (some .boolean), Cond.code yX12_findLeans cX12_findLeans 5 (none), Cond.code yX12_common cX12_common 6 (some .int), Cond.code yX12_leans cX12_leans 4 (some .int), Cond.code yX12_falls cX12_falls 6 (some .int), Cond.code yX12_look cX12_look 6 (some .int)]
set_option maxRecDepth 40000 in
theorem zco_8 : GoodIn lw_tbl zcl9_8 := goodIn_p _ [1838, 1871, 1875, 1907, 1867, 1887, 1879, 1891, 1903, 1899, 1895, 1883, 1911, 1915, 1919, 1923, 1927, 1943, 1939, 1935, 1947, 1931, 1951, 1955, 1967, 1963, 1971, 1959, 1975, 1979] rfl (by decide +kernel)
theorem zcd_X12_join : Cond.code mX12_join.1 mX12_join.2.1 mX12_join.2.2.1 mX12_join.2.2.2 ∈ ZTbl := List.mem_filter.mpr ⟨(zco_8 _ (List.mem_of_getElem? (l := zcl9_8) (i := 0) rfl)).1, rfl⟩
theorem zcd_X12_mate : Cond.code mX12_mate.1 mX12_mate.2.1 mX12_mate.2.2.1 mX12_mate.2.2.2 ∈ ZTbl := List.mem_filter.mpr ⟨(zco_8 _ (List.mem_of_getElem? (l := zcl9_8) (i := 1) rfl)).1, rfl⟩
theorem zcd_X12_forced : Cond.code mX12_forced.1 mX12_forced.2.1 mX12_forced.2.2.1 mX12_forced.2.2.2 ∈ ZTbl := List.mem_filter.mpr ⟨(zco_8 _ (List.mem_of_getElem? (l := zcl9_8) (i := 2) rfl)).1, rfl⟩
theorem zcd_X12_ones : Cond.code mX12_ones.1 mX12_ones.2.1 mX12_ones.2.2.1 mX12_ones.2.2.2 ∈ ZTbl := List.mem_filter.mpr ⟨(zco_8 _ (List.mem_of_getElem? (l := zcl9_8) (i := 3) rfl)).1, rfl⟩
theorem zcd_X12_findFrames : Cond.code mX12_findFrames.1 mX12_findFrames.2.1 mX12_findFrames.2.2.1 mX12_findFrames.2.2.2 ∈ ZTbl := List.mem_filter.mpr ⟨(zco_8 _ (List.mem_of_getElem? (l := zcl9_8) (i := 4) rfl)).1, rfl⟩
theorem zcd_X12_hasFrame : Cond.code mX12_hasFrame.1 mX12_hasFrame.2.1 mX12_hasFrame.2.2.1 mX12_hasFrame.2.2.2 ∈ ZTbl := List.mem_filter.mpr ⟨(zco_8 _ (List.mem_of_getElem? (l := zcl9_8) (i := 5) rfl)).1, rfl⟩
theorem zcd_X12_frameOf : Cond.code mX12_frameOf.1 mX12_frameOf.2.1 mX12_frameOf.2.2.1 mX12_frameOf.2.2.2 ∈ ZTbl := List.mem_filter.mpr ⟨(zco_8 _ (List.mem_of_getElem? (l := zcl9_8) (i := 6) rfl)).1, rfl⟩
theorem zcd_X12_pairsIn : Cond.code mX12_pairsIn.1 mX12_pairsIn.2.1 mX12_pairsIn.2.2.1 mX12_pairsIn.2.2.2 ∈ ZTbl := List.mem_filter.mpr ⟨(zco_8 _ (List.mem_of_getElem? (l := zcl9_8) (i := 7) rfl)).1, rfl⟩
theorem zcd_X12_props : Cond.code mX12_props.1 mX12_props.2.1 mX12_props.2.2.1 mX12_props.2.2.2 ∈ ZTbl := List.mem_filter.mpr ⟨(zco_8 _ (List.mem_of_getElem? (l := zcl9_8) (i := 8) rfl)).1, rfl⟩
theorem zcd_X12_canCome : Cond.code mX12_canCome.1 mX12_canCome.2.1 mX12_canCome.2.2.1 mX12_canCome.2.2.2 ∈ ZTbl := List.mem_filter.mpr ⟨(zco_8 _ (List.mem_of_getElem? (l := zcl9_8) (i := 9) rfl)).1, rfl⟩
theorem zcd_X12_findRaisings : Cond.code mX12_findRaisings.1 mX12_findRaisings.2.1 mX12_findRaisings.2.2.1 mX12_findRaisings.2.2.2 ∈ ZTbl := List.mem_filter.mpr ⟨(zco_8 _ (List.mem_of_getElem? (l := zcl9_8) (i := 10) rfl)).1, rfl⟩
theorem zcd_X12_frame : Cond.code mX12_frame.1 mX12_frame.2.1 mX12_frame.2.2.1 mX12_frame.2.2.2 ∈ ZTbl := List.mem_filter.mpr ⟨(zco_8 _ (List.mem_of_getElem? (l := zcl9_8) (i := 11) rfl)).1, rfl⟩
theorem zcd_X12_orders : Cond.code mX12_orders.1 mX12_orders.2.1 mX12_orders.2.2.1 mX12_orders.2.2.2 ∈ ZTbl := List.mem_filter.mpr ⟨(zco_8 _ (List.mem_of_getElem? (l := zcl9_8) (i := 12) rfl)).1, rfl⟩
theorem zcd_X12_raised : Cond.code mX12_raised.1 mX12_raised.2.1 mX12_raised.2.2.1 mX12_raised.2.2.2 ∈ ZTbl := List.mem_filter.mpr ⟨(zco_8 _ (List.mem_of_getElem? (l := zcl9_8) (i := 13) rfl)).1, rfl⟩
theorem zcd_X12_master : Cond.code mX12_master.1 mX12_master.2.1 mX12_master.2.2.1 mX12_master.2.2.2 ∈ ZTbl := List.mem_filter.mpr ⟨(zco_8 _ (List.mem_of_getElem? (l := zcl9_8) (i := 14) rfl)).1, rfl⟩
theorem zcd_X12_ring : Cond.code mX12_ring.1 mX12_ring.2.1 mX12_ring.2.2.1 mX12_ring.2.2.2 ∈ ZTbl := List.mem_filter.mpr ⟨(zco_8 _ (List.mem_of_getElem? (l := zcl9_8) (i := 15) rfl)).1, rfl⟩
theorem zcd_X12_sap : Cond.code mX12_sap.1 mX12_sap.2.1 mX12_sap.2.2.1 mX12_sap.2.2.2 ∈ ZTbl := List.mem_filter.mpr ⟨(zco_8 _ (List.mem_of_getElem? (l := zcl9_8) (i := 16) rfl)).1, rfl⟩
theorem zcd_X12_goes : Cond.code mX12_goes.1 mX12_goes.2.1 mX12_goes.2.2.1 mX12_goes.2.2.2 ∈ ZTbl := List.mem_filter.mpr ⟨(zco_8 _ (List.mem_of_getElem? (l := zcl9_8) (i := 17) rfl)).1, rfl⟩
theorem zcd_X12_agree : Cond.code mX12_agree.1 mX12_agree.2.1 mX12_agree.2.2.1 mX12_agree.2.2.2 ∈ ZTbl := List.mem_filter.mpr ⟨(zco_8 _ (List.mem_of_getElem? (l := zcl9_8) (i := 18) rfl)).1, rfl⟩
theorem zcd_X12_findDate : Cond.code mX12_findDate.1 mX12_findDate.2.1 mX12_findDate.2.2.1 mX12_findDate.2.2.2 ∈ ZTbl := List.mem_filter.mpr ⟨(zco_8 _ (List.mem_of_getElem? (l := zcl9_8) (i := 19) rfl)).1, rfl⟩
theorem zcd_X12_usedTo : Cond.code mX12_usedTo.1 mX12_usedTo.2.1 mX12_usedTo.2.2.1 mX12_usedTo.2.2.2 ∈ ZTbl := List.mem_filter.mpr ⟨(zco_8 _ (List.mem_of_getElem? (l := zcl9_8) (i := 20) rfl)).1, rfl⟩
theorem zcd_X12_date : Cond.code mX12_date.1 mX12_date.2.1 mX12_date.2.2.1 mX12_date.2.2.2 ∈ ZTbl := List.mem_filter.mpr ⟨(zco_8 _ (List.mem_of_getElem? (l := zcl9_8) (i := 21) rfl)).1, rfl⟩
theorem zcd_X12_built : Cond.code mX12_built.1 mX12_built.2.1 mX12_built.2.2.1 mX12_built.2.2.2 ∈ ZTbl := List.mem_filter.mpr ⟨(zco_8 _ (List.mem_of_getElem? (l := zcl9_8) (i := 22) rfl)).1, rfl⟩
theorem zcd_X12_lean : Cond.code mX12_lean.1 mX12_lean.2.1 mX12_lean.2.2.1 mX12_lean.2.2.2 ∈ ZTbl := List.mem_filter.mpr ⟨(zco_8 _ (List.mem_of_getElem? (l := zcl9_8) (i := 23) rfl)).1, rfl⟩
theorem zcd_X12_counts : Cond.code mX12_counts.1 mX12_counts.2.1 mX12_counts.2.2.1 mX12_counts.2.2.2 ∈ ZTbl := List.mem_filter.mpr ⟨(zco_8 _ (List.mem_of_getElem? (l := zcl9_8) (i := 24) rfl)).1, rfl⟩
theorem zcd_X12_findLeans : Cond.code mX12_findLeans.1 mX12_findLeans.2.1 mX12_findLeans.2.2.1 mX12_findLeans.2.2.2 ∈ ZTbl := List.mem_filter.mpr ⟨(zco_8 _ (List.mem_of_getElem? (l := zcl9_8) (i := 25) rfl)).1, rfl⟩
theorem zcd_X12_common : Cond.code mX12_common.1 mX12_common.2.1 mX12_common.2.2.1 mX12_common.2.2.2 ∈ ZTbl := List.mem_filter.mpr ⟨(zco_8 _ (List.mem_of_getElem? (l := zcl9_8) (i := 26) rfl)).1, rfl⟩
theorem zcd_X12_leans : Cond.code mX12_leans.1 mX12_leans.2.1 mX12_leans.2.2.1 mX12_leans.2.2.2 ∈ ZTbl := List.mem_filter.mpr ⟨(zco_8 _ (List.mem_of_getElem? (l := zcl9_8) (i := 27) rfl)).1, rfl⟩
theorem zcd_X12_falls : Cond.code mX12_falls.1 mX12_falls.2.1 mX12_falls.2.2.1 mX12_falls.2.2.2 ∈ ZTbl := List.mem_filter.mpr ⟨(zco_8 _ (List.mem_of_getElem? (l := zcl9_8) (i := 28) rfl)).1, rfl⟩
theorem zcd_X12_look : Cond.code mX12_look.1 mX12_look.2.1 mX12_look.2.2.1 mX12_look.2.2.2 ∈ ZTbl := List.mem_filter.mpr ⟨(zco_8 _ (List.mem_of_getElem? (l := zcl9_8) (i := 29) rfl)).1, rfl⟩
def zcl9_9 : List Cond := [Cond.code yX12_says cX12_says 2 (none), Cond.code yX12_saysNumber cX12_saysNumber 2 (none), Cond.code yX12_write cX12_write 3 (some .int), Cond.code yX12_out cX12_out 2 (some .int), Cond.code yJ6_bitCount_0f7a4 cJ6_bitCount_0f7a4 1 (some .int), Cond.code yJ13_bitCount_95d88 cJ13_bitCount_95d88 2 (some .int), Cond.code yJ9_abs_0f7a4 cJ9_abs_0f7a4 1 (some .int), Cond.code yJ9_max_7cf53 cJ9_max_7cf53 2 (some .int), Cond.code yJ9_min_7cf53 cJ9_min_7cf53 2 (some .int), Cond.code yJ0_length_8abf5 cJ0_length_8abf5 1 (some .int), Cond.code yJ0_charAt_5068e cJ0_charAt_5068e 2 (some .char), Cond.code yJ0_coder_7d493 cJ0_coder_7d493 1 (some .byte), Cond.code yJ0_isLatin1_aae02 cJ0_isLatin1_aae02 1 (some .boolean), Cond.code yJ0_checkIndex_df160 cJ0_checkIndex_df160 2 (none), Cond.code yJ1_charAt_3b067 cJ1_charAt_3b067 2 (some .char), Cond.code yJ2_getChar_3b067 cJ2_getChar_3b067 2 (some .char), Cond.code yJ2_length_9d52b cJ2_length_9d52b 1 (some .int), Cond.code yJ2_charAt_3b067 cJ2_charAt_3b067 2 (some .char), Cond.code yJ2_checkIndex_2214a cJ2_checkIndex_2214a 2 (none), Cond.code yJ7_fill_53178 cJ7_fill_53178 4 (none), Cond.code yJ3_checkIndex_8e157 cJ3_checkIndex_8e157 3 (some .int), Cond.code Lib.objectInit ⟨#[0xb1]⟩ 1 none]
set_option maxRecDepth 40000 in
theorem zco_9 : GoodIn lw_tbl zcl9_9 := goodIn_p _ [1991, 1987, 1983, 1995, 1183, 1114, 1356, 878, 1189, 720, 730, 724, 734, 740, 737, 758, 754, 748, 751, 283, 745, 132] rfl (by decide +kernel)
theorem zcd_X12_says : Cond.code mX12_says.1 mX12_says.2.1 mX12_says.2.2.1 mX12_says.2.2.2 ∈ ZTbl := List.mem_filter.mpr ⟨(zco_9 _ (List.mem_of_getElem? (l := zcl9_9) (i := 0) rfl)).1, rfl⟩
theorem zcd_X12_saysNumber : Cond.code mX12_saysNumber.1 mX12_saysNumber.2.1 mX12_saysNumber.2.2.1 mX12_saysNumber.2.2.2 ∈ ZTbl := List.mem_filter.mpr ⟨(zco_9 _ (List.mem_of_getElem? (l := zcl9_9) (i := 1) rfl)).1, rfl⟩
theorem zcd_X12_write : Cond.code mX12_write.1 mX12_write.2.1 mX12_write.2.2.1 mX12_write.2.2.2 ∈ ZTbl := List.mem_filter.mpr ⟨(zco_9 _ (List.mem_of_getElem? (l := zcl9_9) (i := 2) rfl)).1, rfl⟩
theorem zcd_X12_out : Cond.code mX12_out.1 mX12_out.2.1 mX12_out.2.2.1 mX12_out.2.2.2 ∈ ZTbl := List.mem_filter.mpr ⟨(zco_9 _ (List.mem_of_getElem? (l := zcl9_9) (i := 3) rfl)).1, rfl⟩
theorem zcd_J6_bitCount_0f7a4 : Cond.code mJ6_bitCount_0f7a4.1 mJ6_bitCount_0f7a4.2.1 mJ6_bitCount_0f7a4.2.2.1 mJ6_bitCount_0f7a4.2.2.2 ∈ ZTbl := List.mem_filter.mpr ⟨(zco_9 _ (List.mem_of_getElem? (l := zcl9_9) (i := 4) rfl)).1, rfl⟩
theorem zcd_J13_bitCount_95d88 : Cond.code mJ13_bitCount_95d88.1 mJ13_bitCount_95d88.2.1 mJ13_bitCount_95d88.2.2.1 mJ13_bitCount_95d88.2.2.2 ∈ ZTbl := List.mem_filter.mpr ⟨(zco_9 _ (List.mem_of_getElem? (l := zcl9_9) (i := 5) rfl)).1, rfl⟩
theorem zcd_J9_abs_0f7a4 : Cond.code mJ9_abs_0f7a4.1 mJ9_abs_0f7a4.2.1 mJ9_abs_0f7a4.2.2.1 mJ9_abs_0f7a4.2.2.2 ∈ ZTbl := List.mem_filter.mpr ⟨(zco_9 _ (List.mem_of_getElem? (l := zcl9_9) (i := 6) rfl)).1, rfl⟩
theorem zcd_J9_max_7cf53 : Cond.code mJ9_max_7cf53.1 mJ9_max_7cf53.2.1 mJ9_max_7cf53.2.2.1 mJ9_max_7cf53.2.2.2 ∈ ZTbl := List.mem_filter.mpr ⟨(zco_9 _ (List.mem_of_getElem? (l := zcl9_9) (i := 7) rfl)).1, rfl⟩
theorem zcd_J9_min_7cf53 : Cond.code mJ9_min_7cf53.1 mJ9_min_7cf53.2.1 mJ9_min_7cf53.2.2.1 mJ9_min_7cf53.2.2.2 ∈ ZTbl := List.mem_filter.mpr ⟨(zco_9 _ (List.mem_of_getElem? (l := zcl9_9) (i := 8) rfl)).1, rfl⟩
theorem zcd_J0_length_8abf5 : Cond.code mJ0_length_8abf5.1 mJ0_length_8abf5.2.1 mJ0_length_8abf5.2.2.1 mJ0_length_8abf5.2.2.2 ∈ ZTbl := List.mem_filter.mpr ⟨(zco_9 _ (List.mem_of_getElem? (l := zcl9_9) (i := 9) rfl)).1, rfl⟩
theorem zcd_J0_charAt_5068e : Cond.code mJ0_charAt_5068e.1 mJ0_charAt_5068e.2.1 mJ0_charAt_5068e.2.2.1 mJ0_charAt_5068e.2.2.2 ∈ ZTbl := List.mem_filter.mpr ⟨(zco_9 _ (List.mem_of_getElem? (l := zcl9_9) (i := 10) rfl)).1, rfl⟩
theorem zcd_J0_coder_7d493 : Cond.code mJ0_coder_7d493.1 mJ0_coder_7d493.2.1 mJ0_coder_7d493.2.2.1 mJ0_coder_7d493.2.2.2 ∈ ZTbl := List.mem_filter.mpr ⟨(zco_9 _ (List.mem_of_getElem? (l := zcl9_9) (i := 11) rfl)).1, rfl⟩
theorem zcd_J0_isLatin1_aae02 : Cond.code mJ0_isLatin1_aae02.1 mJ0_isLatin1_aae02.2.1 mJ0_isLatin1_aae02.2.2.1 mJ0_isLatin1_aae02.2.2.2 ∈ ZTbl := List.mem_filter.mpr ⟨(zco_9 _ (List.mem_of_getElem? (l := zcl9_9) (i := 12) rfl)).1, rfl⟩
theorem zcd_J0_checkIndex_df160 : Cond.code mJ0_checkIndex_df160.1 mJ0_checkIndex_df160.2.1 mJ0_checkIndex_df160.2.2.1 mJ0_checkIndex_df160.2.2.2 ∈ ZTbl := List.mem_filter.mpr ⟨(zco_9 _ (List.mem_of_getElem? (l := zcl9_9) (i := 13) rfl)).1, rfl⟩
theorem zcd_J1_charAt_3b067 : Cond.code mJ1_charAt_3b067.1 mJ1_charAt_3b067.2.1 mJ1_charAt_3b067.2.2.1 mJ1_charAt_3b067.2.2.2 ∈ ZTbl := List.mem_filter.mpr ⟨(zco_9 _ (List.mem_of_getElem? (l := zcl9_9) (i := 14) rfl)).1, rfl⟩
theorem zcd_J2_getChar_3b067 : Cond.code mJ2_getChar_3b067.1 mJ2_getChar_3b067.2.1 mJ2_getChar_3b067.2.2.1 mJ2_getChar_3b067.2.2.2 ∈ ZTbl := List.mem_filter.mpr ⟨(zco_9 _ (List.mem_of_getElem? (l := zcl9_9) (i := 15) rfl)).1, rfl⟩
theorem zcd_J2_length_9d52b : Cond.code mJ2_length_9d52b.1 mJ2_length_9d52b.2.1 mJ2_length_9d52b.2.2.1 mJ2_length_9d52b.2.2.2 ∈ ZTbl := List.mem_filter.mpr ⟨(zco_9 _ (List.mem_of_getElem? (l := zcl9_9) (i := 16) rfl)).1, rfl⟩
theorem zcd_J2_charAt_3b067 : Cond.code mJ2_charAt_3b067.1 mJ2_charAt_3b067.2.1 mJ2_charAt_3b067.2.2.1 mJ2_charAt_3b067.2.2.2 ∈ ZTbl := List.mem_filter.mpr ⟨(zco_9 _ (List.mem_of_getElem? (l := zcl9_9) (i := 17) rfl)).1, rfl⟩
theorem zcd_J2_checkIndex_2214a : Cond.code mJ2_checkIndex_2214a.1 mJ2_checkIndex_2214a.2.1 mJ2_checkIndex_2214a.2.2.1 mJ2_checkIndex_2214a.2.2.2 ∈ ZTbl := List.mem_filter.mpr ⟨(zco_9 _ (List.mem_of_getElem? (l := zcl9_9) (i := 18) rfl)).1, rfl⟩
theorem zcd_J7_fill_53178 : Cond.code mJ7_fill_53178.1 mJ7_fill_53178.2.1 mJ7_fill_53178.2.2.1 mJ7_fill_53178.2.2.2 ∈ ZTbl := List.mem_filter.mpr ⟨(zco_9 _ (List.mem_of_getElem? (l := zcl9_9) (i := 19) rfl)).1, rfl⟩
theorem zcd_J3_checkIndex_8e157 : Cond.code mJ3_checkIndex_8e157.1 mJ3_checkIndex_8e157.2.1 mJ3_checkIndex_8e157.2.2.1 mJ3_checkIndex_8e157.2.2.2 ∈ ZTbl := List.mem_filter.mpr ⟨(zco_9 _ (List.mem_of_getElem? (l := zcl9_9) (i := 20) rfl)).1, rfl⟩
theorem zobC : Cond.code Lib.objectInit ⟨#[0xb1]⟩ 1 none ∈ ZTbl := List.mem_filter.mpr ⟨(zco_9 _ (List.mem_of_getElem? (l := zcl9_9) (i := 21) rfl)).1, rfl⟩
