/-! the methods: names, code, what they answer, their places, their words (by program) -/
def mNmT : List (List (MethodName)) := [[yX1_init, yX1_copy, yX1_numberAt, yX1_enter, yX1_setFirst, yX2_init, yX2_look, yX2_keep, yX2_takeBack, yX2_goBack, yX2_forget, yX2_slotAt, yX3_init, yX3_obey, yX3_refuseOrder, yX3_openWell], [yX3_lowerBottom, yX3_closeWell, yX3_dropThing, yX3_removeThing, yX3_bringRope, yX3_tieRope, yX3_pullCoin, yX3_sendDown, yX3_refuse, yX3_isIn, yX4_init, yX4_size, yX4_at, yX4_put, yX4_clear, yX4_copy], [yX4_cutLast, yX4_cutFirstVowel, yX4_cutVowels, yX4_turn, yX4_cutAt, yX6_init, yX6_countOrders, yX6_rewind, yX6_readOrder, yX6_readSign, yX6_numberAt, yX6_readName, yX6_sameSigns, yX6_readPart, yX6_readNumber, yX6_readBottom], [yX6_readLetter, yX6_readWord, yX6_note, yX6_isDigit, yX7_init, yX7_set, yX8_init, yX8_open, yX8_copy, yX9_init, yX9_go, yX9_gradeFor, yX9_pass, yX9_answer, yX9_turnAt, yX10_init], [yX10_open, yX10_copy, yX10_hasThing, yX10_kindOf, yX10_depthOf, yX10_valueOf, yX10_isAwake, yX10_add, yX10_remove, yX10_placeOf, yX10_thingAt, yX10_uppermostCoin, yX10_countOf, yX10_countOfFrogs, yX10_setFrogs, yX10_timeByKinds], [yX10_hasThingBelow, yX10_set, yX11_init, yX11_copy, yX11_wellAt, yX11_ropeAt, yX11_addWell, yX11_addRope, yX11_removeWell, yX11_ropesAt, yX11_countOfThings, yX11_countOfSleepers, yX11_wakeFrogs, yX11_enter, yX11_copyWell, yX11_copyRope], [yX12_init, yX12_dig, yX12_deepen, yX12_fill, yX12_coin, yX12_frog, yX12_moss, yX12_take, yX12_wake, yX12_rope, yX12_bind, yX12_fish, yX12_letter, yX12_shout, yX12_wellOf, yX12_thingOf], [yX12_ropeOf, yX12_bookOf, yX12_time, yX12_timeAgain, yX12_isLater, yX12_echoLength, yX12_echoLetter, yX12_losses, yX12_wouldGrade, yX12_bestWell, yX12_reach, yX12_ranked, yX12_isTold, yX12_append, yX12_run, yX12_tellEcho], [yX12_character, yX12_account, yX12_undo, yX12_save, yX12_restore, yX12_changed, yX12_areObeyed, yX12_askedWell, yX12_askedRope, yX12_sendWord, yX12_timeOnTheWay, yX12_rankOf, yX12_measureOf, yX12_isLetter, yX12_isVowel, yL_cell], [yL_chosen, yL_done, yL_says, yL_mark, yL_acts, yL_shouts, yL_sounds, yL_ropes, yL_fits, yL_dig, yL_deepen, yL_fill, yL_coin, yL_frog, yL_moss, yL_take], [yL_rope, yL_bind, yL_fish, yL_letter, yL_shout, yL_wellOf, yL_thingOf, yL_ropeOf, yL_bookOf, yL_time, yL_timeAgain, yL_isLater, yL_echoLength, yL_echoLetter, yL_losses, yL_wouldGrade], [yL_bestWell, yL_reach, yL_ranked, yL_append, yL_run, yL_character, yL_account, yL_undo, yL_restore, x]]
def mByT : List (List (ByteArray)) := [[cX1_init, cX1_copy, cX1_numberAt, cX1_enter, cX1_setFirst, cX2_init, cX2_look, cX2_keep, cX2_takeBack, cX2_goBack, cX2_forget, cX2_slotAt, cX3_init, cX3_obey, cX3_refuseOrder, cX3_openWell], [cX3_lowerBottom, cX3_closeWell, cX3_dropThing, cX3_removeThing, cX3_bringRope, cX3_tieRope, cX3_pullCoin, cX3_sendDown, cX3_refuse, cX3_isIn, cX4_init, cX4_size, cX4_at, cX4_put, cX4_clear, cX4_copy], [cX4_cutLast, cX4_cutFirstVowel, cX4_cutVowels, cX4_turn, cX4_cutAt, cX6_init, cX6_countOrders, cX6_rewind, cX6_readOrder, cX6_readSign, cX6_numberAt, cX6_readName, cX6_sameSigns, cX6_readPart, cX6_readNumber, cX6_readBottom], [cX6_readLetter, cX6_readWord, cX6_note, cX6_isDigit, cX7_init, cX7_set, cX8_init, cX8_open, cX8_copy, cX9_init, cX9_go, cX9_gradeFor, cX9_pass, cX9_answer, cX9_turnAt, cX10_init], [cX10_open, cX10_copy, cX10_hasThing, cX10_kindOf, cX10_depthOf, cX10_valueOf, cX10_isAwake, cX10_add, cX10_remove, cX10_placeOf, cX10_thingAt, cX10_uppermostCoin, cX10_countOf, cX10_countOfFrogs, cX10_setFrogs, cX10_timeByKinds], [cX10_hasThingBelow, cX10_set, cX11_init, cX11_copy, cX11_wellAt, cX11_ropeAt, cX11_addWell, cX11_addRope, cX11_removeWell, cX11_ropesAt, cX11_countOfThings, cX11_countOfSleepers, cX11_wakeFrogs, cX11_enter, cX11_copyWell, cX11_copyRope], [cX12_init, cX12_dig, cX12_deepen, cX12_fill, cX12_coin, cX12_frog, cX12_moss, cX12_take, cX12_wake, cX12_rope, cX12_bind, cX12_fish, cX12_letter, cX12_shout, cX12_wellOf, cX12_thingOf], [cX12_ropeOf, cX12_bookOf, cX12_time, cX12_timeAgain, cX12_isLater, cX12_echoLength, cX12_echoLetter, cX12_losses, cX12_wouldGrade, cX12_bestWell, cX12_reach, cX12_ranked, cX12_isTold, cX12_append, cX12_run, cX12_tellEcho], [cX12_character, cX12_account, cX12_undo, cX12_save, cX12_restore, cX12_changed, cX12_areObeyed, cX12_askedWell, cX12_askedRope, cX12_sendWord, cX12_timeOnTheWay, cX12_rankOf, cX12_measureOf, cX12_isLetter, cX12_isVowel, cL_cell], [cL_chosen, cL_done, cL_says, cL_mark, cL_acts, cL_shouts, cL_sounds, cL_ropes, cL_fits, cL_dig, cL_deepen, cL_fill, cL_coin, cL_frog, cL_moss, cL_take], [cL_rope, cL_bind, cL_fish, cL_letter, cL_shout, cL_wellOf, cL_thingOf, cL_ropeOf, cL_bookOf, cL_time, cL_timeAgain, cL_isLater, cL_echoLength, cL_echoLetter, cL_losses, cL_wouldGrade], [cL_bestWell, cL_reach, cL_ranked, cL_append, cL_run, cL_character, cL_account, cL_undo, cL_restore, code]]
def mRtT : List (List (Option FieldType)) := [[none, none, (some .int), none, none, none, none, none, none, none, none, (some (.object "EchoWells$World")), none, (some .int), none, (some .int)], [(some .int), (some .int), (some .int), (some .int), (some .int), (some .int), (some .int), (some .int), (some .int), (some .boolean), none, (some .int), (some .char), none, none, none], [none, none, none, none, none, none, (some .int), none, (some .boolean), (some .boolean), (some .int), (some (.object "EchoWells$Order")), (some .int), (some .boolean), (some .boolean), (some .boolean)], [(some .boolean), (some .boolean), none, (some .boolean), none, none, none, none, none, none, none, (some .int), none, none, none, none], [none, none, (some .boolean), (some .int), (some .int), (some .int), (some .boolean), (some .int), none, (some .int), (some .int), (some .int), (some .int), (some .int), none, (some .int)], [(some .boolean), none, none, none, (some (.object "EchoWells$Well")), (some (.object "EchoWells$Rope")), (some .int), (some .int), none, (some .int), (some .int), (some .int), (some .int), none, none, none], [none, (some .int), (some .int), (some .int), (some .int), (some .int), (some .int), (some .int), (some .int), (some .int), (some .int), (some .int), (some .int), (some .int), (some .int), (some .int)], [(some .int), (some .int), (some .int), (some .int), (some .boolean), (some .int), (some .char), (some .int), (some .int), (some .int), (some .int), (some .int), (some .boolean), (some .int), (some .int), (some .int)], [(some .char), (some .int), (some .int), (some .int), (some .int), (some .int), (some .boolean), (some (.object "EchoWells$Well")), (some (.object "EchoWells$Rope")), none, (some .int), (some .int), (some .int), (some .boolean), (some .boolean), (some .int)], [(some .int), (some .long), none, (some .long), (some .long), (some .long), (some .boolean), (some .boolean), (some .boolean), (some .long), (some .long), (some .long), (some .long), (some .long), (some .long), (some .long)], [(some .long), (some .long), (some .long), (some .long), (some .long), (some .long), (some .long), (some .long), (some .long), (some .long), (some .long), (some .long), (some .long), (some .long), (some .long), (some .long)], [(some .long), (some .long), (some .long), (some .long), (some .long), (some .long), (some .long), (some .long), (some .long), (some .boolean)]]
def mHhT : List (List (List (Nat × Nat × Nat × Nat))) := [[[], [], [], [], [], [], [], [], [], [], [], [], [], [], [], []], [[], [], [], [], [], [], [], [], [], [], [], [], [], [], [], []], [[], [], [], [], [], [], [], [], [], [], [], [], [], [], [], []], [[], [], [], [], [], [], [], [], [], [], [], [], [], [], [], []], [[], [], [], [], [], [], [], [], [], [], [], [], [], [], [], []], [[], [], [], [], [], [], [], [], [], [], [], [], [], [], [], []], [[], [], [], [], [], [], [], [], [], [], [], [], [], [], [], []], [[], [], [], [], [], [], [], [], [], [], [], [], [], [], [], []], [[], [], [], [], [], [], [], [], [], [], [], [], [], [], [], []], [[], [], [], [], [], [], [], [], [], [(0, 7, 8, 13)], [(0, 7, 8, 13)], [(0, 6, 7, 13)], [(0, 8, 9, 13)], [(0, 8, 9, 13)], [(0, 8, 9, 13)], [(0, 7, 8, 13)]], [[(0, 6, 7, 13)], [(0, 7, 8, 13)], [(0, 6, 7, 13)], [(0, 6, 7, 57), (0, 6, 12, 59)], [(0, 6, 7, 13)], [(0, 7, 8, 69), (0, 7, 13, 57)], [(0, 8, 9, 69), (0, 8, 15, 57)], [(0, 7, 8, 69), (0, 7, 13, 57)], [(0, 7, 8, 80), (0, 7, 13, 57)], [(0, 6, 7, 69)], [(0, 6, 7, 69)], [(0, 14, 15, 69)], [(0, 6, 7, 69), (0, 6, 12, 80)], [(0, 7, 8, 69), (0, 7, 13, 80)], [(0, 6, 7, 69), (0, 6, 12, 80)], [(0, 6, 7, 69), (0, 6, 12, 80)]], [[(0, 5, 6, 80)], [(0, 6, 7, 69), (0, 6, 12, 80)], [(0, 7, 8, 57), (0, 7, 13, 80)], [(0, 6, 7, 57), (0, 6, 12, 59)], [(0, 5, 6, 57), (0, 5, 11, 13)], [(0, 6, 7, 69)], [(0, 6, 7, 57)], [(0, 5, 6, 59)], [(0, 5, 6, 59)], []]]
def mLvT : List (List (Nat)) := [[2, 2, 0, 2, 0, 4, 4, 1, 4, 5, 0, 0, 3, 5, 1, 2], [2, 4, 2, 2, 2, 2, 2, 4, 1, 0, 1, 0, 0, 0, 0, 1], [0, 1, 1, 0, 0, 2, 7, 0, 6, 1, 0, 5, 4, 2, 1, 1], [1, 1, 0, 0, 1, 0, 1, 0, 0, 2, 3, 1, 2, 1, 2, 1], [0, 1, 0, 0, 0, 0, 0, 1, 1, 1, 2, 1, 1, 1, 1, 2], [1, 0, 3, 3, 0, 0, 1, 1, 3, 1, 1, 2, 3, 3, 2, 1], [5, 10, 10, 10, 10, 10, 10, 10, 10, 10, 10, 10, 9, 10, 10, 10], [10, 9, 10, 10, 10, 11, 11, 11, 11, 11, 10, 9, 5, 9, 9, 2], [9, 9, 9, 4, 9, 9, 7, 9, 9, 10, 4, 4, 3, 0, 0, 0], [0, 11, 11, 12, 13, 12, 13, 13, 14, 11, 11, 11, 11, 11, 11, 11], [11, 11, 11, 10, 11, 11, 11, 11, 10, 11, 11, 11, 12, 12, 12, 12], [12, 11, 10, 10, 10, 10, 10, 10, 10, 15]]
def mKdT : List (List (Nat)) := [[1, 1, 1, 1, 1, 2, 2, 2, 2, 2, 2, 2, 3, 3, 3, 3], [3, 3, 3, 3, 3, 3, 3, 3, 3, 0, 4, 4, 4, 4, 4, 4], [4, 4, 4, 4, 4, 6, 6, 6, 6, 6, 6, 6, 6, 6, 6, 6], [6, 6, 6, 0, 7, 7, 8, 8, 8, 9, 9, 9, 9, 9, 9, 10], [10, 10, 10, 10, 10, 10, 10, 10, 10, 10, 10, 10, 10, 10, 10, 10], [10, 10, 11, 11, 11, 11, 11, 11, 11, 11, 11, 11, 11, 11, 11, 11], [12, 12, 12, 12, 12, 12, 12, 12, 12, 12, 12, 12, 12, 12, 12, 12], [12, 12, 12, 12, 12, 12, 12, 12, 12, 12, 12, 12, 12, 12, 12, 12], [12, 12, 12, 12, 12, 12, 12, 12, 12, 12, 12, 12, 12, 0, 0, 0], [0, 0, 0, 0, 0, 0, 0, 0, 0, 0, 0, 0, 0, 0, 0, 0], [0, 0, 0, 0, 0, 0, 0, 0, 0, 0, 0, 0, 0, 0, 0, 0], [0, 0, 0, 0, 0, 0, 0, 0, 0, 0]]
def mArT : List (List (List Nat)) := [[[1], [1, 1], [1, 0, 0], [1, 0, 1, 1, 0], [1, 0, 0], [1], [1, 1], [1], [1, 1], [1, 1], [1], [1, 0], [1], [1, 1, 1, 0, 0, 0, 1], [1, 0], [1, 1, 0, 0]], [[1, 1, 0, 0], [1, 1, 0], [1, 1, 0, 0, 0, 0], [1, 1, 0, 0], [1, 1, 0], [1, 1, 0, 0], [1, 1, 0], [1, 1, 0, 1], [1, 0, 0], [0, 0, 0], [1], [1], [1, 0], [1, 0], [1], [1, 1]], [[1], [1], [1], [1], [1, 0], [1], [1, 1], [1], [1], [1, 0], [1, 0], [1], [1, 1], [1, 0], [1, 0], [1]], [[1], [1], [1, 0], [0], [1], [1, 0, 0], [1], [1, 0], [1, 1], [1], [1, 1, 1], [1, 1], [1, 1, 0, 0], [1, 0], [1, 0], [1]], [[1, 0, 0], [1, 1], [1, 0], [1, 0], [1, 0], [1, 0], [1, 0], [1, 0, 0, 0], [1, 0], [1, 0], [1, 0], [1, 0], [1, 0], [1, 0], [1, 0], [1]], [[1], [1, 0, 0, 0, 0, 0], [1], [1, 1], [1, 0], [1, 0], [1, 0, 0], [1, 0], [1, 0], [1, 0], [1], [1], [1], [1, 0, 1, 1, 0], [1, 0, 1], [1, 0, 1]], [[1], [1, 0, 0], [1, 0, 0], [1, 0], [1, 0, 0, 0], [1, 0, 0, 0], [1, 0, 0, 0], [1, 0, 0], [1], [1, 0], [1, 0, 0], [1, 0], [1, 0], [1, 0], [1, 0, 0], [1, 0, 0, 0]], [[1, 0, 0], [1, 0, 0], [1, 0], [1, 0], [1, 0, 0], [1, 0], [1, 0, 0], [1, 0], [1, 0], [1], [1, 0], [1, 0, 0], [1], [1, 0], [1], [1]], [[1, 0], [1, 0], [1], [1], [1], [1, 1, 0, 0, 0], [1, 0], [1, 0], [1, 0], [1, 0], [1, 1], [1, 0, 0], [1, 0, 0], [0], [0], [1, 0]], [[0, 0], [1, 1], [1, 1], [1], [1, 0], [1, 0], [1, 0], [1], [1, 0], [1, 0, 0], [1, 0, 0], [1, 0], [1, 0, 0, 0], [1, 0, 0, 0], [1, 0, 0, 0], [1, 0, 0]], [[1, 0], [1, 0, 0], [1, 0], [1, 0], [1, 0], [1, 0, 0], [1, 0, 0, 0], [1, 0, 0], [1, 0, 0], [1, 0], [1, 0], [1, 0, 0], [1, 0], [1, 0, 0], [1, 0], [1, 0]], [[1], [1, 0], [1, 0, 0], [1, 0], [1], [1, 0], [1, 0], [1], [1], [1]]]
def pc_X1_init : List (List Nat) := [[0, 1, 4, 5, 7, 9, 12, 13, 16, 17, 20, 23]]
def pc_X1_copy : List (List Nat) := [[0, 1, 2, 5, 8, 9, 12, 13, 16, 19, 20, 21, 22, 23, 26, 27], [30, 31, 32, 35, 36, 39, 40, 43, 44, 45, 48, 49, 50, 51, 54, 57]]
def pc_X1_numberAt : List (List Nat) := [[0, 1, 2, 3, 4, 5, 6, 7, 10, 11, 12, 15, 16, 19, 20, 23], [24, 25, 28, 29]]
def pc_X1_enter : List (List Nat) := [[0, 1, 4, 5, 6, 7, 9, 11, 12, 15, 16, 19, 21, 22, 25, 27], [28, 29, 30, 31, 34, 37, 38, 39, 40, 43, 44, 45, 46, 49, 52, 53], [54, 55, 58, 61, 64, 65, 66, 67, 70, 73, 74, 75, 77, 80, 81, 84], [85, 88, 91, 92, 95, 97, 100, 101, 102, 105, 106, 107, 110]]
def pc_X1_setFirst : List (List Nat) := [[0, 1, 4, 5, 6, 9, 10, 13, 14, 17, 18, 19, 20]]
def pc_X2_init : List (List Nat) := [[0, 1, 4, 5, 7, 10, 13, 14, 15, 16, 17, 20, 21, 24, 25, 28], [29, 32, 33, 36, 37, 40, 43]]
def pc_X2_look : List (List Nat) := [[0, 1, 2, 5, 8, 9, 10, 13, 14, 15, 18]]
def pc_X2_keep : List (List Nat) := [[0, 1, 2, 5, 7, 10, 11, 14, 15, 16, 19, 20, 23, 24, 25, 28], [29, 30, 32, 35, 38]]
def pc_X2_takeBack : List (List Nat) := [[0, 1, 2, 5, 8, 9, 10, 13, 14, 15, 18]]
def pc_X2_goBack : List (List Nat) := [[0, 1, 2, 5, 8, 9, 12, 13, 14, 17, 19, 22, 23, 24, 27, 28], [29, 32, 33, 34, 37]]
def pc_X2_forget : List (List Nat) := [[0, 1, 2, 5]]
def pc_X2_slotAt : List (List Nat) := [[0, 1, 4, 5, 6, 9, 10, 13, 14, 17, 18, 19, 22, 23]]
def pc_X3_init : List (List Nat) := [[0, 1, 4, 5, 8, 9, 12, 15, 16, 19, 20, 23, 26, 27, 30, 31], [34, 37]]
def pc_X3_obey : List (List Nat) := [[0, 1, 4, 5, 6, 9, 10, 13, 14, 72, 73, 74, 75, 77, 80, 81], [82, 83, 84, 86, 89, 90, 91, 92, 93, 96, 97, 98, 99, 100, 101, 103], [105, 108, 109, 110, 111, 112, 113, 115, 117, 120, 121, 122, 123, 124, 125, 127], [129, 132, 133, 134, 135, 136, 138, 141, 142, 143, 146, 147, 148, 149, 150, 153], [154, 155, 156, 157, 159, 162, 163, 164, 165, 166, 169, 170, 171, 172, 173, 175], [178]]
def pc_X3_refuseOrder : List (List Nat) := [[0, 1, 4, 5, 8, 11, 12, 15, 18, 21, 22, 25, 27, 28, 31]]
def pc_X3_openWell : List (List Nat) := [[0, 1, 2, 4, 7, 10, 11, 12, 13, 16, 17, 18, 19, 20, 23, 26], [27, 28, 29, 32, 33, 34, 37, 39, 42, 43, 44, 46, 49, 50, 51, 52], [53, 56]]
def pc_X3_lowerBottom : List (List Nat) := [[0, 1, 2, 5, 7, 9, 12, 13, 14, 15, 18, 19, 20, 21, 23, 26], [29, 30, 31, 32, 35, 36, 38, 41, 42, 43, 45, 48, 49, 50, 52, 54], [57, 58, 61, 62, 64, 65, 68, 69, 70, 73, 75, 78]]
def pc_X3_closeWell : List (List Nat) := [[0, 1, 2, 5, 8, 9, 10, 11, 14, 15, 16, 17, 20, 21, 24]]
def pc_X3_dropThing : List (List Nat) := [[0, 1, 2, 5, 7, 9, 12, 13, 14, 15, 18, 19, 21, 22, 24, 27], [30, 31, 32, 34, 37, 38, 39, 40, 43, 45, 48, 51, 54, 56, 57, 59], [62, 65, 66, 67, 69, 72, 73, 75, 77, 80, 83, 84, 85, 87, 90, 93], [94, 96, 99, 100, 103, 104, 105, 106, 109, 110, 112, 113, 115, 117, 120]]
def pc_X3_removeThing : List (List Nat) := [[0, 1, 2, 5, 7, 9, 12, 13, 14, 15, 18, 19, 21, 22, 25, 28], [29, 30, 31, 34, 35, 37, 38, 41, 43, 46]]
def pc_X3_bringRope : List (List Nat) := [[0, 1, 2, 4, 7, 10, 11, 12, 13, 16, 17, 18, 21, 22, 25, 26], [27, 28, 31, 32, 33, 34, 37]]
def pc_X3_tieRope : List (List Nat) := [[0, 1, 2, 5, 7, 9, 12, 13, 14, 15, 18, 19, 20, 21, 24, 27], [28, 29, 30, 33, 34, 36, 39, 40, 43, 44, 46, 47, 50, 51, 53, 54], [57, 58, 59, 62]]
def pc_X3_pullCoin : List (List Nat) := [[0, 1, 2, 5, 6, 7, 10, 11, 12, 13, 16, 17, 18, 19, 22, 25], [27, 29, 32, 33, 35, 36, 39, 42, 43, 45, 46, 49, 52, 54, 56, 57], [60, 61, 63, 65, 66, 69, 72, 73, 75, 77, 80, 82, 84, 86, 89, 90], [91, 94, 95, 96, 99, 100, 101, 104, 106, 107, 110, 112]]
def pc_X3_sendDown : List (List Nat) := [[0, 1, 2, 5, 7, 9, 12, 13, 14, 15, 18, 19, 20, 23, 26, 27], [29, 30, 33, 36, 37, 38, 41, 43, 44, 47, 48, 51, 52, 55, 57, 59], [60, 63, 65, 66, 69, 70, 71, 74, 76, 77, 80, 82, 83, 86, 87, 88], [89, 90, 93, 95, 98, 100]]
def pc_X3_refuse : List (List Nat) := [[0, 1, 4, 5, 6, 9, 10, 13, 14, 15, 18, 19]]
def pc_X3_isIn : List (List Nat) := [[0, 1, 2, 5, 6, 7, 10, 11, 14, 15]]
def pc_X4_init : List (List Nat) := [[0, 1, 4, 5, 7, 9, 12]]
def pc_X4_size : List (List Nat) := [[0, 1, 4]]
def pc_X4_at : List (List Nat) := [[0, 1, 4, 5, 6, 9, 12, 13, 14, 17, 18, 21, 22, 25, 26, 27], [30, 31]]
def pc_X4_put : List (List Nat) := [[0, 1, 4, 7, 8, 11, 12, 15, 16, 19, 20, 23, 24, 27, 28, 29], [30, 31, 34, 35, 36, 39]]
def pc_X4_clear : List (List Nat) := [[0, 1, 2, 5]]
def pc_X4_copy : List (List Nat) := [[0, 1, 4, 5, 6, 7, 8, 11, 14, 15, 16, 17, 20, 23, 26, 29]]
def pc_X4_cutLast : List (List Nat) := [[0, 1, 4, 7, 8, 9, 12, 13, 14, 17]]
def pc_X4_cutFirstVowel : List (List Nat) := [[0, 1, 2, 3, 4, 7, 10, 11, 12, 15, 18, 21, 24, 27, 28, 29], [32]]
def pc_X4_cutVowels : List (List Nat) := [[0, 1, 4, 5, 6, 9, 10, 11, 12, 13, 16, 17, 18, 21, 22, 25], [26, 29, 30, 31, 34, 37, 38, 39, 42, 43, 44, 47, 50, 53]]
def pc_X4_turn : List (List Nat) := [[0, 1, 2, 3, 6, 7, 8, 9, 10, 13, 14, 15, 18, 19, 20, 23], [24, 27, 28, 31, 32, 33, 34, 35, 38, 39, 40, 43, 44, 45, 46, 47], [50, 51, 52, 53, 56, 59, 62]]
def pc_X4_cutAt : List (List Nat) := [[0, 1, 4, 5, 6, 9, 12, 13, 14, 15, 16, 17, 18, 19, 22, 25], [26, 27, 30, 31, 34, 35, 38, 39, 40, 41, 42, 45, 46, 47, 48, 51], [54, 55, 56, 59, 60, 61, 64]]
def pc_X6_init : List (List Nat) := [[0, 1, 4, 5, 8, 9, 12, 15, 16, 19, 20, 23, 26, 27, 28, 30], [33]]
def pc_X6_countOrders : List (List Nat) := [[0, 1, 4, 5, 8, 9, 12, 13, 14, 15, 17, 20, 21, 24, 27, 28], [29, 30, 33, 34, 37, 40, 43, 44, 45, 46, 48, 51, 54, 55, 56, 59], [62, 63]]
def pc_X6_rewind : List (List Nat) := [[0, 1, 2, 5]]
def pc_X6_readOrder : List (List Nat) := [[0, 1, 2, 5, 6, 9, 12, 13, 14, 17, 20, 21, 24, 27, 28, 29], [30, 33, 36, 37, 38, 39, 40, 41, 44, 47, 48, 49, 50, 53, 56, 59], [60, 61, 64, 67, 68]]
def pc_X6_readSign : List (List Nat) := [[0, 1, 4, 5, 8, 11, 12, 15, 16, 17, 18, 19, 22, 23, 24, 27], [28]]
def pc_X6_numberAt : List (List Nat) := [[0, 1, 4, 5, 6, 9, 12, 13, 14, 17, 18, 21, 22, 25, 26, 27], [30, 31]]
def pc_X6_readName : List (List Nat) := [[0, 1, 2, 5, 6, 7, 8, 9, 10, 12, 14, 15, 18, 19, 21, 22], [24, 25, 27, 30, 33, 35, 37, 39, 42, 45, 48, 49, 50, 53, 55, 56], [59, 61, 62, 63, 65, 68, 69, 72, 75, 76, 77, 80, 81, 82, 85, 86]]
def pc_X6_sameSigns : List (List Nat) := [[0, 1, 2, 3, 4, 7, 10, 11, 14, 15, 18, 19, 20, 23, 24, 25], [28, 31, 32, 33, 36, 39, 40, 43]]
def pc_X6_readPart : List (List Nat) := [[0, 1, 52, 53, 54, 57, 58, 59, 60, 63, 64, 65, 68, 69, 70, 73], [74, 75, 78, 79, 80, 81, 84]]
def pc_X6_readNumber : List (List Nat) := [[0, 1, 2, 3, 4, 5, 6, 9, 10, 13, 14, 17, 20, 23, 26, 28], [29, 30, 31, 34, 35, 38, 41, 42, 44, 45, 46, 47, 48, 51, 52, 53], [56, 59, 62, 63, 66, 67, 68, 69, 70, 73, 74]]
def pc_X6_readBottom : List (List Nat) := [[0, 1, 4, 5, 8, 11, 12, 13, 15, 18, 19, 21, 24, 25, 27, 30], [31, 32, 33, 34, 36, 39, 40, 43, 44, 46, 49, 50, 53, 54, 57, 58], [59, 62, 63, 64, 67, 68]]
def pc_X6_readLetter : List (List Nat) := [[0, 1, 4, 5, 8, 11, 12, 13, 16, 19, 20, 21, 22, 23, 26, 27], [28, 31, 32, 33, 36, 37]]
def pc_X6_readWord : List (List Nat) := [[0, 1, 2, 3, 5, 8, 9, 12, 13, 16, 19, 22, 25, 26, 29, 30], [33, 34, 37, 40, 43, 44, 45, 48, 49, 50, 53, 56, 59, 60, 63, 66], [69, 70, 73, 74]]
def pc_X6_note : List (List Nat) := [[0, 1, 4, 7, 8, 11, 12, 15, 16, 19, 20, 23, 24, 27, 28, 29], [30, 31, 34, 35, 36, 39]]
def pc_X6_isDigit : List (List Nat) := [[0, 1, 3, 6, 7, 9, 12, 13, 16, 17]]
def pc_X7_init : List (List Nat) := [[0, 1, 4]]
def pc_X7_set : List (List Nat) := [[0, 1, 2, 5, 6, 7, 10]]
def pc_X8_init : List (List Nat) := [[0, 1, 4]]
def pc_X8_open : List (List Nat) := [[0, 1, 2, 5, 6, 7, 10, 11, 12, 15]]
def pc_X8_copy : List (List Nat) := [[0, 1, 2, 5, 8, 9, 10, 13, 16, 17, 18, 21, 24]]
def pc_X9_init : List (List Nat) := [[0, 1, 4, 5, 8, 9, 12, 15]]
def pc_X9_go : List (List Nat) := [[0, 1, 4, 5, 8, 9, 10, 13, 14, 15, 18, 19, 20, 21, 24, 25], [28, 29, 30, 31, 32, 35, 38, 39, 40, 41, 42, 45, 46, 49, 52, 55], [56, 57, 60, 63, 64, 67, 68, 69, 70, 71, 74, 75, 76, 77, 78, 81], [82, 85, 88, 91]]
def pc_X9_gradeFor : List (List Nat) := [[0, 1, 4, 5, 8, 11, 12, 13, 15, 16, 19, 20, 21, 24, 26, 27], [28, 29, 30, 31, 34]]
def pc_X9_pass : List (List Nat) := [[0, 1, 4, 7, 9, 10, 11, 14, 40, 41, 44, 47, 50, 51, 52, 55], [56, 57, 60, 61, 64, 65, 68, 71, 74, 75, 78, 79, 80, 83, 86, 87], [88, 89, 92, 95, 96, 97, 98, 101, 103, 104, 107, 110, 111, 112, 115]]
def pc_X9_answer : List (List Nat) := [[0, 1, 4, 5, 6, 9, 10, 11, 14, 15, 16, 19, 20, 21, 24, 25], [26, 29]]
def pc_X9_turnAt : List (List Nat) := [[0, 1, 4, 7, 8, 9, 10, 13, 14, 17, 20, 23, 24, 25, 28, 29], [32, 35, 36, 37, 40, 41, 42, 45, 48, 49, 50, 53]]
def pc_X10_init : List (List Nat) := [[0, 1, 4, 5, 6, 8, 11, 12, 13, 15, 18, 19, 20, 22, 25, 26], [27, 29, 32]]
def pc_X10_open : List (List Nat) := [[0, 1, 2, 5, 6, 7, 10, 11, 12, 15, 16, 17, 20, 21, 22, 25]]
def pc_X10_copy : List (List Nat) := [[0, 1, 2, 5, 8, 9, 10, 13, 16, 17, 18, 21, 24, 25, 26, 29], [32, 33, 34, 37, 40, 41, 42, 43, 44, 47, 50, 51, 52, 53, 54, 57], [58, 59, 62, 63, 64, 67, 68, 69, 72, 75, 78, 81]]
def pc_X10_hasThing : List (List Nat) := [[0, 1, 4, 5, 6, 9, 12, 13, 16, 17]]
def pc_X10_kindOf : List (List Nat) := [[0, 1, 4, 5, 6, 9, 10, 13, 14, 17, 18, 19, 22, 23]]
def pc_X10_depthOf : List (List Nat) := [[0, 1, 4, 5, 6, 9, 10, 13, 14, 17, 18, 19, 22, 23]]
def pc_X10_valueOf : List (List Nat) := [[0, 1, 4, 5, 6, 9, 10, 13, 14, 17, 18, 19, 22, 23]]
def pc_X10_isAwake : List (List Nat) := [[0, 1, 4, 5, 6, 9, 10, 13, 14, 17, 18, 19, 22, 23, 26, 27]]
def pc_X10_add : List (List Nat) := [[0, 1, 4, 6, 7, 9, 10, 11, 12, 13, 14, 17, 18, 21, 22, 25], [26, 27, 30, 31, 32, 35, 37]]
def pc_X10_remove : List (List Nat) := [[0, 1, 2, 5, 8, 9, 10, 11, 12, 13, 14, 15, 18, 21, 22, 23], [24, 25, 26, 27, 30, 31, 32, 35, 36, 37, 40, 41, 42, 45, 48, 51], [54, 55, 56, 59, 60, 61, 64]]
def pc_X10_placeOf : List (List Nat) := [[0, 1, 2, 5, 6, 7, 8, 9, 11, 13, 14, 17, 20, 22, 23, 26], [27, 30, 31, 34, 36, 37, 38, 41, 42, 45, 47, 48, 49, 52, 54, 55], [58, 61, 64, 67, 68]]
def pc_X10_thingAt : List (List Nat) := [[0, 1, 2, 3, 4, 7, 10, 11, 12, 15, 16, 19, 20, 21, 24, 27], [28]]
def pc_X10_uppermostCoin : List (List Nat) := [[0, 1, 2, 3, 4, 5, 6, 9, 12, 13, 14, 17, 20, 21, 22, 25], [26, 29, 30, 33, 34, 36, 38, 41, 42, 43, 46, 47, 48, 51, 52, 53], [56, 59, 60, 61, 64, 67, 68]]
def pc_X10_countOf : List (List Nat) := [[0, 1, 2, 3, 4, 5, 6, 9, 12, 13, 14, 17, 18, 21, 24, 27], [30, 31]]
def pc_X10_countOfFrogs : List (List Nat) := [[0, 1, 2, 3, 4, 5, 6, 9, 12, 13, 14, 17, 18, 21, 22, 23], [26, 27, 30, 33, 36, 39, 40]]
def pc_X10_setFrogs : List (List Nat) := [[0, 1, 2, 3, 4, 7, 10, 11, 12, 15, 16, 19, 20, 23, 24, 25], [28, 29, 30, 33, 34, 37, 38, 41, 42, 43, 46, 49]]
def pc_X10_timeByKinds : List (List Nat) := [[0, 1, 2, 3, 4, 5, 6, 9, 12, 13, 14, 15, 18, 19, 22, 23], [24, 27, 30, 31, 32, 33, 36, 39, 40, 41, 44, 45, 46, 47, 48, 49], [50, 51, 52, 55, 56, 57]]
def pc_X10_hasThingBelow : List (List Nat) := [[0, 1, 2, 3, 4, 7, 10, 11, 12, 15, 16, 19, 22, 23, 24, 27], [30, 31]]
def pc_X10_set : List (List Nat) := [[0, 1, 4, 5, 6, 9, 10, 13, 14, 15, 18, 19, 22, 23, 24, 27], [28, 31, 32, 33, 36, 37, 40, 41, 44, 45, 46, 47, 48, 51, 52, 53], [54, 55, 58, 59, 61, 62, 63, 66, 67, 69, 70]]
def pc_X11_init : List (List Nat) := [[0, 1, 4, 5, 7, 10, 13, 14, 15, 16, 17, 20, 21, 24, 25, 28], [29, 32, 33, 36, 37, 40, 43, 44, 45, 48, 51, 52, 53, 54, 55, 58], [59, 62, 63, 66, 67, 70, 71, 74, 75, 78, 81, 82, 85, 86, 89, 92]]
def pc_X11_copy : List (List Nat) := [[0, 1, 2, 5, 8, 9, 10, 11, 12, 15, 18, 19, 20, 21, 22, 25], [28, 31, 34, 35, 36, 39, 42, 43, 44, 45, 46, 49, 52, 53, 54, 55], [56, 59, 62, 65, 68, 69, 72, 73, 76, 79, 80, 81, 84, 87, 88, 89], [92, 95, 96, 97, 100, 103, 104, 105, 108, 111, 112, 113, 116, 119, 120, 121], [124, 127, 128, 129, 132, 135, 136, 137, 140, 143]]
def pc_X11_wellAt : List (List Nat) := [[0, 1, 4, 5, 6, 9, 12, 13, 14, 17, 18, 21, 22, 25, 26, 27], [30, 31]]
def pc_X11_ropeAt : List (List Nat) := [[0, 1, 4, 5, 6, 9, 12, 13, 14, 17, 18, 21, 22, 25, 26, 27], [30, 31]]
def pc_X11_addWell : List (List Nat) := [[0, 1, 4, 5, 6, 7, 10, 11, 12, 15, 16, 17, 20, 22, 24, 27], [29, 30, 31, 34, 35]]
def pc_X11_addRope : List (List Nat) := [[0, 1, 4, 5, 6, 7, 10, 11, 12, 15, 16, 17, 20, 21, 22, 25], [26, 27, 30, 31]]
def pc_X11_removeWell : List (List Nat) := [[0, 1, 2, 3, 4, 5, 6, 9, 12, 13, 14, 15, 16, 17, 18, 21], [24, 27, 30, 31, 32, 35, 36, 37, 40, 41, 42, 43, 44, 47, 50, 51], [52, 55, 56, 57, 60, 61, 64, 65, 68, 69, 70, 73, 76, 77, 80, 81], [84, 85, 88, 89, 90, 93, 94, 95, 98, 101, 104]]
def pc_X11_ropesAt : List (List Nat) := [[0, 1, 2, 3, 4, 5, 6, 9, 12, 13, 14, 17, 19, 21, 24, 26], [29, 30, 33, 36, 39, 42, 43]]
def pc_X11_countOfThings : List (List Nat) := [[0, 1, 2, 3, 4, 5, 6, 9, 12, 13, 14, 17, 18, 19, 20, 23], [24, 27, 28, 31, 32, 33, 36, 39, 40]]
def pc_X11_countOfSleepers : List (List Nat) := [[0, 1, 2, 3, 4, 5, 6, 9, 12, 13, 14, 17, 18, 19, 20, 23], [24, 27, 28, 29, 32, 33, 34, 37, 40, 41]]
def pc_X11_wakeFrogs : List (List Nat) := [[0, 1, 4, 5, 6, 7, 8, 9, 12, 15, 16, 17, 20, 21, 22, 25], [26, 27, 30, 33, 36, 37, 38, 41, 42, 43, 46, 47]]
def pc_X11_enter : List (List Nat) := [[0, 1, 2, 5, 6, 7, 10, 11, 12, 15, 17, 18, 21, 22, 23, 26], [27, 30, 31, 34, 35, 36, 39, 40, 43, 44, 47, 48, 49, 52, 53, 56], [57, 60, 61, 62, 65, 66, 69, 72, 73, 76, 77, 80, 81, 82, 83, 85], [88]]
def pc_X11_copyWell : List (List Nat) := [[0, 1, 2, 5, 6, 7, 10, 11, 14, 15, 16, 19]]
def pc_X11_copyRope : List (List Nat) := [[0, 1, 2, 5, 6, 7, 10, 11, 14, 15, 16, 19]]
def pc_X12_init : List (List Nat) := [[0, 1, 4, 5, 8, 9, 12, 15, 16, 19, 20, 23, 26, 27, 30, 31], [34, 37, 38, 41, 42, 45, 48, 49, 52, 53, 56, 59, 60, 63, 64, 67], [70, 71, 74, 75, 78, 81, 82, 85, 86, 89, 92, 93, 96, 97, 100, 103], [104, 107, 108, 111, 114, 115, 116, 119]]
def pc_X12_dig : List (List Nat) := [[0, 1, 4, 5, 6, 7, 10]]
def pc_X12_deepen : List (List Nat) := [[0, 1, 4, 5, 6, 7, 10]]
def pc_X12_fill : List (List Nat) := [[0, 1, 4, 5, 6, 7, 10]]
def pc_X12_coin : List (List Nat) := [[0, 1, 4, 5, 6, 7, 10]]
def pc_X12_frog : List (List Nat) := [[0, 1, 4, 5, 6, 7, 10]]
def pc_X12_moss : List (List Nat) := [[0, 1, 4, 5, 6, 7, 10]]
def pc_X12_take : List (List Nat) := [[0, 1, 4, 5, 6, 7, 10]]
def pc_X12_wake : List (List Nat) := [[0, 1, 4, 5, 6, 7, 10]]
def pc_X12_rope : List (List Nat) := [[0, 1, 4, 5, 6, 7, 10]]
def pc_X12_bind : List (List Nat) := [[0, 1, 4, 5, 6, 7, 10]]
def pc_X12_fish : List (List Nat) := [[0, 1, 4, 5, 6, 7, 10]]
def pc_X12_letter : List (List Nat) := [[0, 1, 4, 7, 10, 11, 14, 15, 16, 19, 22, 24, 27, 30, 31, 34], [35, 36, 39, 40, 43, 44, 47, 50]]
def pc_X12_shout : List (List Nat) := [[0, 1, 4, 5, 6, 7, 10, 11, 12, 15, 18, 19]]
def pc_X12_wellOf : List (List Nat) := [[0, 1, 2, 5, 6, 7, 52, 53, 56, 57, 58, 61, 62, 63, 66, 67], [68, 69, 72, 73, 74, 75, 78, 79, 80, 83, 84, 85, 88, 89, 90, 93], [94, 97, 98, 101, 102, 105]]
def pc_X12_thingOf : List (List Nat) := [[0, 1, 2, 5, 7, 9, 10, 13, 16, 19, 20, 23, 24, 25, 60, 62], [63, 66, 67, 69, 70, 73, 74, 76, 77, 80, 81, 84, 86, 87, 90, 92], [93, 96, 98, 99, 102, 103, 105, 106, 109, 112, 113, 116, 117, 118, 120, 121], [124, 125, 128, 129, 132]]
def pc_X12_ropeOf : List (List Nat) := [[0, 1, 2, 5, 6, 7, 32, 33, 36, 37, 38, 41, 42, 43, 46, 47], [50, 51, 54]]
def pc_X12_bookOf : List (List Nat) := [[0, 1, 4, 5, 6, 9, 12, 15, 18, 21, 22, 25, 26, 27, 30, 31], [32, 35, 38, 39, 42, 43, 44, 47, 50, 51, 52, 55]]
def pc_X12_time : List (List Nat) := [[0, 1, 2, 3, 6, 9]]
def pc_X12_timeAgain : List (List Nat) := [[0, 1, 2, 5, 8]]
def pc_X12_isLater : List (List Nat) := [[0, 1, 2, 5, 6, 7, 8, 11, 13, 14, 15, 18, 19, 21, 24, 27], [28, 31, 32]]
def pc_X12_echoLength : List (List Nat) := [[0, 1, 2, 5, 6, 9, 12, 15]]
def pc_X12_echoLetter : List (List Nat) := [[0, 1, 2, 5, 6, 9, 10, 11, 14, 17, 20, 23, 26, 27, 30, 31], [32, 35, 38, 39, 42]]
def pc_X12_losses : List (List Nat) := [[0, 1, 2, 5, 6, 9, 12]]
def pc_X12_wouldGrade : List (List Nat) := [[0, 1, 2, 5, 6, 9, 10, 13, 16]]
def pc_X12_bestWell : List (List Nat) := [[0, 1, 2, 3, 4, 5, 6, 7, 9, 11, 12, 15, 18, 21, 22, 24], [27, 28, 31, 32, 35, 38, 40, 42, 43, 46, 48, 49, 52, 53, 56, 59], [60, 63, 64, 67, 68, 70, 71, 72, 75, 77, 80, 82, 83, 85, 86, 87], [90, 93, 94, 97, 100, 101, 102, 105, 108, 109, 112, 113, 114]]
def pc_X12_reach : List (List Nat) := [[0, 1, 2, 5, 6, 7, 10, 11, 14, 17, 18, 19, 22, 23, 26, 27], [28, 31, 34, 36, 38, 39, 42, 45, 46, 49, 50, 52]]
def pc_X12_ranked : List (List Nat) := [[0, 1, 4, 5, 6, 9, 12, 13, 16, 17, 18, 19, 20, 21, 24, 27], [30, 31, 32, 33, 36, 37, 40, 41, 42, 45, 48, 51, 52, 55]]
def pc_X12_isTold : List (List Nat) := [[0, 1, 2, 3, 4, 7, 10, 13, 14, 17, 18, 21, 22, 23, 26, 27], [28, 31, 32, 35, 38, 39, 42, 45, 46, 47, 50, 53, 54, 57, 60, 61], [64, 67, 68, 71, 74, 75, 76, 79, 82, 83, 86, 87, 90, 91]]
def pc_X12_append : List (List Nat) := [[0, 1, 3, 6, 7, 9, 12, 15, 16, 19, 20, 21, 24, 27, 29, 32], [35, 36, 39, 40, 41, 44, 45, 48, 49, 52, 55]]
def pc_X12_run : List (List Nat) := [[0, 1, 4, 5, 8, 11, 12, 13, 16, 19, 20, 21, 22, 25, 26, 29], [32, 35, 36, 39, 40, 41, 44, 47, 48, 51, 52, 53, 56, 57, 60, 63], [64, 65, 68, 71, 72, 75, 76, 79, 82, 85, 86, 89, 90, 91, 94, 97], [98]]
def pc_X12_tellEcho : List (List Nat) := [[0, 1, 4, 5, 8, 11, 14, 17, 18, 21, 24]]
def pc_X12_character : List (List Nat) := [[0, 1, 4, 5, 6, 9, 12, 15, 18, 19, 22, 23, 24, 27, 28, 31]]
def pc_X12_account : List (List Nat) := [[0, 1, 72, 73, 76, 79, 80, 81, 84, 87, 88, 89, 92, 95, 96, 97], [100, 103, 104, 105, 108, 111, 112, 113, 116, 119, 120, 121, 124, 127, 128, 129], [132, 135, 136, 137, 140, 143, 144, 145, 148, 151, 152, 153, 156, 159, 160, 161], [164, 167, 168, 169, 172, 175, 176, 177, 180, 183, 184, 187, 188, 191]]
def pc_X12_undo : List (List Nat) := [[0, 1, 4, 7, 10, 13, 14, 17, 18, 19, 22, 23, 26, 29, 30, 33], [36]]
def pc_X12_save : List (List Nat) := [[0, 1, 4, 5, 8, 11, 12, 13, 16, 17, 20, 23]]
def pc_X12_restore : List (List Nat) := [[0, 1, 4, 7, 10, 11, 14, 15, 16, 19, 20, 23, 26, 27, 30, 33], [34, 37, 40]]
def pc_X12_changed : List (List Nat) := [[0, 1, 4, 5, 8, 11, 12, 15, 16, 19, 20, 21, 22, 24, 25, 28], [31, 33, 35, 36, 39, 42, 43, 46, 47, 48, 51, 54, 56]]
def pc_X12_areObeyed : List (List Nat) := [[0, 1, 4, 7, 8, 9, 10, 11, 14, 15, 18, 21, 22, 23, 26, 27], [30, 31, 32, 35, 36, 39, 41, 42, 45, 46, 49, 51, 52, 55, 56, 59], [60, 63, 66, 67, 69, 71, 72, 75, 78, 81, 82, 85, 86, 89, 90, 93], [94, 95, 96, 99, 101, 104, 105, 108, 111, 112]]
def pc_X12_askedWell : List (List Nat) := [[0, 1, 4, 5, 8, 9, 10, 13, 16, 17, 20, 21, 22]]
def pc_X12_askedRope : List (List Nat) := [[0, 1, 4, 5, 8, 9, 10, 13, 16, 17, 20, 21, 22]]
def pc_X12_sendWord : List (List Nat) := [[0, 1, 2, 5, 6, 7, 10, 13, 16, 19, 20, 23, 24, 25, 28, 29], [30, 33, 36]]
def pc_X12_timeOnTheWay : List (List Nat) := [[0, 1, 4, 5, 6, 9, 12, 13, 16, 19]]
def pc_X12_rankOf : List (List Nat) := [[0, 1, 2, 3, 6, 7, 8, 10, 11, 13, 15, 16, 19, 22, 25, 26], [28, 29, 32, 34, 36, 37, 40, 42, 43, 46, 48, 49, 52, 55, 58, 61], [63]]
def pc_X12_measureOf : List (List Nat) := [[0, 1, 4, 5, 8, 9, 10, 13, 14, 15, 16, 44, 45, 48, 49, 50], [53, 54, 55, 58, 59, 60, 63]]
def pc_X12_isLetter : List (List Nat) := [[0, 1, 3, 6, 7, 9, 12, 13, 16, 17]]
def pc_X12_isVowel : List (List Nat) := [[0, 1, 3, 6, 7, 9, 12, 13, 15, 18, 19, 21, 24, 25, 27, 30], [31, 34, 35]]
def pc_L_cell : List (List Nat) := [[0, 1, 2, 3, 6, 7, 8, 9, 12, 15, 16, 17, 19, 20]]
def pc_L_chosen : List (List Nat) := [[0, 1, 3, 4, 5, 6]]
def pc_L_done : List (List Nat) := [[0, 1, 2, 3, 4, 7, 10, 11, 12, 13, 16, 19, 20, 23, 26, 27], [30]]
def pc_L_says : List (List Nat) := [[0, 1, 2, 3, 4, 7, 10, 11, 12, 13, 16, 19, 20, 23, 26]]
def pc_L_mark : List (List Nat) := [[0, 3, 4, 5, 6, 7, 9, 12, 15, 16, 17, 18, 19, 22, 23, 26], [27, 28, 31, 32, 33, 36, 39, 40, 41, 42, 43, 44, 45, 48, 49, 52], [53, 55, 57, 59, 62, 65, 66, 67, 68, 69, 71, 74, 75, 76, 79, 82], [83, 85, 87, 88, 89, 90, 91, 94, 95, 98, 99, 101, 103, 104, 107, 110], [111, 112, 113, 114, 116, 118, 121, 122, 123, 126, 129, 132, 135, 138, 141, 142], [143, 144, 145, 146, 147, 150, 151, 154, 155, 157, 159, 160, 163, 166, 167, 168], [169, 170, 172, 175, 176, 177, 180, 183, 186, 189, 190, 191, 192, 194, 197, 198], [200, 202, 203, 206, 209, 210, 211, 212, 213, 215, 218, 219, 220, 223, 226, 229], [232, 233, 236, 237, 238, 239, 241, 243, 244, 245, 246, 249, 252, 253, 254, 255], [257, 260, 261, 262, 265, 268, 269]]
def pc_L_acts : List (List Nat) := [[0, 1, 3, 4, 6, 9, 10, 11, 12, 13, 16, 17, 20, 21, 22, 24], [27, 120, 121, 122, 123, 125, 126, 127, 128, 130, 131, 132, 133, 136, 137, 138], [139, 140, 143, 144, 145, 146, 147, 150, 153, 154, 155, 156, 157, 158, 159, 161], [162, 163, 166, 167, 168, 169, 170, 171, 172, 173, 175, 176, 178, 179, 180, 181], [182, 184, 185, 186, 189, 190, 191, 192, 193, 194, 195, 196, 198, 199, 201, 202], [203, 205, 206, 208, 209, 210, 211, 214, 215, 216, 217, 218, 219, 220, 221, 223], [224, 226, 227, 228, 229, 230, 232, 233, 234, 237, 238, 239, 240, 241, 242, 243], [245, 246, 247, 248, 251, 252, 253, 256, 257, 258, 259, 260, 261, 263, 264, 265], [268, 269, 270, 271, 272, 273, 274, 275, 276, 277, 278, 281, 282, 283, 284, 285], [286, 289, 290, 291, 294, 295, 297, 298, 299, 302, 303, 304, 305, 308]]
def pc_L_shouts : List (List Nat) := [[0, 1, 2, 3, 6, 7, 10, 11, 12, 13, 16, 17, 18, 21, 22, 25], [26, 28, 29, 30, 33, 34, 35, 37, 38, 39, 40, 43]]
def pc_L_sounds : List (List Nat) := [[0, 1, 2, 5, 6, 7, 10, 11, 14, 15, 17, 20, 21, 24, 25, 26], [29, 30, 31, 32, 35, 36, 39, 42, 43, 46, 47, 50, 51, 52, 53, 56], [57, 58, 59, 60, 61, 62, 65, 67, 68, 70, 72, 73, 76, 77, 79, 82], [83, 85, 88, 89, 92, 93, 95, 98, 99, 100, 103, 104, 107, 108, 110, 113], [114, 115, 118, 119, 122, 123, 124, 126, 129, 130, 131, 134, 135, 136, 139, 142], [143, 146, 148, 149, 151, 154, 156, 157, 159, 162, 164, 165, 167, 168, 171, 173], [174, 175, 178, 180, 181, 183, 186, 188, 191, 193, 194, 196, 198, 199, 201, 202], [205, 225, 209, 212, 214, 217, 218, 220, 222, 225, 226, 227, 230, 233, 235, 238], [241, 243, 245, 247, 248, 249, 251, 254, 255, 256, 259, 260, 263, 265, 266, 269], [270, 272, 275, 277, 278, 281, 282, 283, 284, 287, 289, 290, 293, 294, 295, 296], [299, 301, 302, 305, 306, 308, 309, 312, 313, 314, 317, 318, 320, 323, 325, 328], [330, 331, 332, 333, 336, 337, 340, 341, 343, 344, 347, 348, 349, 350, 352, 354], [355, 357, 358, 361, 362, 364, 367, 369, 371, 374, 375, 376, 379, 380, 381, 384], [387, 388, 391, 392, 393, 396, 398, 399, 402, 403, 404, 407, 408, 409, 412, 413], [416, 417]]
def pc_L_ropes : List (List Nat) := [[0, 1, 2, 3, 4, 5, 6, 9, 10, 13, 14, 17, 18, 19, 20, 23], [25, 26, 27, 28, 31, 32, 34, 36, 37, 38, 41, 42, 43, 46, 49, 50], [53, 54, 57, 58, 59, 62, 63, 64, 65, 67, 69, 70, 71, 74, 75, 76], [79, 80, 82, 84, 85, 86, 89, 90, 91, 92, 95, 96, 99, 100, 101, 104], [105, 106, 109, 110, 113, 114, 115, 118, 119, 122, 123, 124, 127, 128, 129, 132], [135, 136]]
def pc_L_fits : List (List Nat) := [[0, 1, 4, 7, 8, 11, 14, 15, 16, 19, 22, 23, 24, 25, 26, 27], [28, 31, 32, 33, 34, 35, 36, 37, 40, 41, 44, 45, 46, 47, 48, 49], [52, 53, 55, 56, 57, 58, 61, 62, 64, 65, 68, 69, 72, 73, 74, 77], [78, 81, 82, 84, 85, 86, 89, 90, 92, 95, 96, 98, 101, 102, 105, 106], [109, 110, 113, 114, 116, 118, 121, 122, 124, 126, 129, 130, 133, 134, 137, 138], [140, 142, 145, 146, 147, 150, 153, 156, 159, 160, 162, 165, 166, 168, 171, 172], [174, 177, 178, 179, 181, 184, 185, 186, 189, 190, 193, 194]]
def pc_L_dig : List (List Nat) := [[0, 1, 2, 3, 6, 7, 8, 9, 12]]
def pc_L_deepen : List (List Nat) := [[0, 1, 2, 3, 6, 7, 8, 9, 12]]
def pc_L_fill : List (List Nat) := [[0, 1, 2, 5, 6, 7, 8, 11]]
def pc_L_coin : List (List Nat) := [[0, 1, 2, 3, 4, 7, 8, 9, 11, 14]]
def pc_L_frog : List (List Nat) := [[0, 1, 2, 3, 4, 7, 8, 9, 11, 14]]
def pc_L_moss : List (List Nat) := [[0, 1, 2, 3, 4, 7, 8, 9, 11, 14]]
def pc_L_take : List (List Nat) := [[0, 1, 2, 3, 6, 7, 8, 9, 12]]
def pc_L_rope : List (List Nat) := [[0, 1, 2, 5, 6, 7, 8, 11]]
def pc_L_bind : List (List Nat) := [[0, 1, 2, 3, 6, 7, 8, 9, 12]]
def pc_L_fish : List (List Nat) := [[0, 1, 2, 5, 6, 7, 8, 11]]
def pc_L_letter : List (List Nat) := [[0, 1, 2, 5, 6, 7, 8, 11, 12, 13, 16]]
def pc_L_shout : List (List Nat) := [[0, 1, 2, 5, 6, 7, 8, 11]]
def pc_L_wellOf : List (List Nat) := [[0, 1, 2, 3, 6, 7, 8, 9, 12, 13, 14, 17]]
def pc_L_thingOf : List (List Nat) := [[0, 1, 2, 3, 4, 7, 8, 9, 11, 14, 15, 17, 20]]
def pc_L_ropeOf : List (List Nat) := [[0, 1, 2, 3, 6, 7, 8, 9, 12, 13, 14, 17]]
def pc_L_bookOf : List (List Nat) := [[0, 1, 2, 3, 6, 7, 8, 9, 12, 13, 14, 17]]
def pc_L_time : List (List Nat) := [[0, 1, 2, 5, 6, 7, 8, 11]]
def pc_L_timeAgain : List (List Nat) := [[0, 1, 2, 5, 6, 7, 8, 11]]
def pc_L_isLater : List (List Nat) := [[0, 1, 2, 3, 6, 9, 10, 13, 14, 15, 16, 19]]
def pc_L_echoLength : List (List Nat) := [[0, 1, 2, 5, 6, 7, 8, 11, 12, 13, 16]]
def pc_L_echoLetter : List (List Nat) := [[0, 1, 2, 3, 6, 7, 8, 9, 12, 13, 14, 17]]
def pc_L_losses : List (List Nat) := [[0, 1, 2, 5, 6, 7, 8, 11, 12, 13, 16]]
def pc_L_wouldGrade : List (List Nat) := [[0, 1, 2, 5, 6, 7, 8, 11, 12, 13, 16]]
def pc_L_bestWell : List (List Nat) := [[0, 1, 4, 5, 6, 7, 10]]
def pc_L_reach : List (List Nat) := [[0, 1, 2, 5, 6, 7, 8, 11, 12, 13, 16]]
def pc_L_ranked : List (List Nat) := [[0, 1, 2, 3, 6, 7, 8, 9, 12, 13, 14, 17]]
def pc_L_append : List (List Nat) := [[0, 1, 2, 5, 6, 7, 8, 11, 12, 13, 16]]
def pc_L_run : List (List Nat) := [[0, 1, 4, 5, 6, 7, 10, 11, 12, 15]]
def pc_L_character : List (List Nat) := [[0, 1, 2, 5, 6, 7, 8, 11]]
def pc_L_account : List (List Nat) := [[0, 1, 2, 5, 6, 7, 8, 11]]
def pc_L_undo : List (List Nat) := [[0, 1, 4, 5, 6, 7, 10]]
def pc_L_restore : List (List Nat) := [[0, 1, 4, 5, 6, 7, 10]]
def pc_L_law : List (List Nat) := [[0, 3, 4, 7, 8, 9, 10, 11, 12, 15, 16, 17, 18, 19, 22, 23], [24, 25, 26, 28, 31, 32, 33, 36, 37, 38, 39, 40, 41, 42, 45, 46], [47, 48, 49, 50, 53, 54, 56, 57, 58, 59, 60, 61, 64, 65, 68, 71], [72, 73, 74, 76, 79, 80, 81, 84, 85, 86, 89, 91, 92, 94, 97, 99], [100, 101, 104, 106, 108, 109, 110, 113, 114, 117, 119, 120, 123, 124, 126, 129], [130, 131, 134, 135, 136, 138, 139, 140, 143, 144, 145, 146, 149, 150, 153, 155], [158, 161, 162, 165, 166, 169, 171, 172, 175, 176, 177, 178, 179, 182, 183, 184], [185, 186, 189, 190, 193, 195, 196, 199, 200, 201, 202, 205, 206, 209, 210, 211], [212, 213, 214, 215, 218, 219, 220, 223, 224, 225, 228, 229, 232, 233, 236, 238], [239, 242, 243, 246, 249, 250, 253, 254, 255, 256, 257, 258, 259, 262, 263, 264], [265, 266, 269, 272, 273, 274, 277, 280, 281]]
def mPcT : List (List (List (List Nat))) := [[pc_X1_init, pc_X1_copy, pc_X1_numberAt, pc_X1_enter, pc_X1_setFirst, pc_X2_init, pc_X2_look, pc_X2_keep, pc_X2_takeBack, pc_X2_goBack, pc_X2_forget, pc_X2_slotAt, pc_X3_init, pc_X3_obey, pc_X3_refuseOrder, pc_X3_openWell], [pc_X3_lowerBottom, pc_X3_closeWell, pc_X3_dropThing, pc_X3_removeThing, pc_X3_bringRope, pc_X3_tieRope, pc_X3_pullCoin, pc_X3_sendDown, pc_X3_refuse, pc_X3_isIn, pc_X4_init, pc_X4_size, pc_X4_at, pc_X4_put, pc_X4_clear, pc_X4_copy], [pc_X4_cutLast, pc_X4_cutFirstVowel, pc_X4_cutVowels, pc_X4_turn, pc_X4_cutAt, pc_X6_init, pc_X6_countOrders, pc_X6_rewind, pc_X6_readOrder, pc_X6_readSign, pc_X6_numberAt, pc_X6_readName, pc_X6_sameSigns, pc_X6_readPart, pc_X6_readNumber, pc_X6_readBottom], [pc_X6_readLetter, pc_X6_readWord, pc_X6_note, pc_X6_isDigit, pc_X7_init, pc_X7_set, pc_X8_init, pc_X8_open, pc_X8_copy, pc_X9_init, pc_X9_go, pc_X9_gradeFor, pc_X9_pass, pc_X9_answer, pc_X9_turnAt, pc_X10_init], [pc_X10_open, pc_X10_copy, pc_X10_hasThing, pc_X10_kindOf, pc_X10_depthOf, pc_X10_valueOf, pc_X10_isAwake, pc_X10_add, pc_X10_remove, pc_X10_placeOf, pc_X10_thingAt, pc_X10_uppermostCoin, pc_X10_countOf, pc_X10_countOfFrogs, pc_X10_setFrogs, pc_X10_timeByKinds], [pc_X10_hasThingBelow, pc_X10_set, pc_X11_init, pc_X11_copy, pc_X11_wellAt, pc_X11_ropeAt, pc_X11_addWell, pc_X11_addRope, pc_X11_removeWell, pc_X11_ropesAt, pc_X11_countOfThings, pc_X11_countOfSleepers, pc_X11_wakeFrogs, pc_X11_enter, pc_X11_copyWell, pc_X11_copyRope], [pc_X12_init, pc_X12_dig, pc_X12_deepen, pc_X12_fill, pc_X12_coin, pc_X12_frog, pc_X12_moss, pc_X12_take, pc_X12_wake, pc_X12_rope, pc_X12_bind, pc_X12_fish, pc_X12_letter, pc_X12_shout, pc_X12_wellOf, pc_X12_thingOf], [pc_X12_ropeOf, pc_X12_bookOf, pc_X12_time, pc_X12_timeAgain, pc_X12_isLater, pc_X12_echoLength, pc_X12_echoLetter, pc_X12_losses, pc_X12_wouldGrade, pc_X12_bestWell, pc_X12_reach, pc_X12_ranked, pc_X12_isTold, pc_X12_append, pc_X12_run, pc_X12_tellEcho], [pc_X12_character, pc_X12_account, pc_X12_undo, pc_X12_save, pc_X12_restore, pc_X12_changed, pc_X12_areObeyed, pc_X12_askedWell, pc_X12_askedRope, pc_X12_sendWord, pc_X12_timeOnTheWay, pc_X12_rankOf, pc_X12_measureOf, pc_X12_isLetter, pc_X12_isVowel, pc_L_cell], [pc_L_chosen, pc_L_done, pc_L_says, pc_L_mark, pc_L_acts, pc_L_shouts, pc_L_sounds, pc_L_ropes, pc_L_fits, pc_L_dig, pc_L_deepen, pc_L_fill, pc_L_coin, pc_L_frog, pc_L_moss, pc_L_take], [pc_L_rope, pc_L_bind, pc_L_fish, pc_L_letter, pc_L_shout, pc_L_wellOf, pc_L_thingOf, pc_L_ropeOf, pc_L_bookOf, pc_L_time, pc_L_timeAgain, pc_L_isLater, pc_L_echoLength, pc_L_echoLetter, pc_L_losses, pc_L_wouldGrade], [pc_L_bestWell, pc_L_reach, pc_L_ranked, pc_L_append, pc_L_run, pc_L_character, pc_L_account, pc_L_undo, pc_L_restore, pc_L_law]]
def mNm (m : Nat) : MethodName := (mNmT.getD (m / 16) []).getD (m % 16) ⟨"", "", ""⟩
def mBy (m : Nat) : ByteArray := (mByT.getD (m / 16) []).getD (m % 16) ⟨#[]⟩
def mRt (m : Nat) : Option FieldType := (mRtT.getD (m / 16) []).getD (m % 16) none
def mHh (m : Nat) : List (Nat × Nat × Nat × Nat) := (mHhT.getD (m / 16) []).getD (m % 16) []
def mLv (m : Nat) : Nat := (mLvT.getD (m / 16) []).getD (m % 16) 0
/-- the kind of the receiver, 0 where there is none -/
def mKd (m : Nat) : Nat := (mKdT.getD (m / 16) []).getD (m % 16) 0
/-- the types of the arguments: 0 an int, 1 a reference; ahead of them that of the receiver -/
def mAr (m : Nat) : List Nat := (mArT.getD (m / 16) []).getD (m % 16) []
def mPc (m i : Nat) : Nat := ((((mPcT.getD (m / 16) []).getD (m % 16) []).getD (i / 16) []).getD (i % 16) 0)
def wd (j : Nat) : Option Cond := if 10000 ≤ j then (k2_sels lw_privs)[j - 10000]? else match j / 240 with
  | 0 => tables_1_1[j % 240]?
  | 1 => tables_1_2[j % 240]?
  | 2 => tables_1_3[j % 240]?
  | 3 => tables_1_4[j % 240]?
  | 4 => tables_1_5[j % 240]?
  | 5 => tables_1_6[j % 240]?
  | 6 => tables_1_7[j % 240]?
  | _ => none
theorem wd_mem {j : Nat} {w : Cond} (h : wd j = some w) : w ∈ lw_tbl := by
  unfold wd at h
  unfold lw_tbl tables_1
  split at h
  · exact List.mem_append_left _ (List.mem_of_getElem? h)
  · refine List.mem_append_right _ ?_
    simp only [List.mem_append]
    split at h
    all_goals first | (cases h; done) | (have h9 := List.mem_of_getElem? h; simp only [h9, true_or, or_true])
theorem mcw_X1_init : Cond.code (mNm 0) (mBy 0) (ewMax 0) (mRt 0) ∈ lw_tbl := wd_mem (j := 128) rfl
theorem mcw_X1_copy : Cond.code (mNm 1) (mBy 1) (ewMax 1) (mRt 1) ∈ lw_tbl := wd_mem (j := 416) rfl
theorem mcw_X1_numberAt : Cond.code (mNm 2) (mBy 2) (ewMax 2) (mRt 2) ∈ lw_tbl := wd_mem (j := 946) rfl
theorem mcw_X1_enter : Cond.code (mNm 3) (mBy 3) (ewMax 3) (mRt 3) ∈ lw_tbl := wd_mem (j := 658) rfl
theorem mcw_X1_setFirst : Cond.code (mNm 4) (mBy 4) (ewMax 4) (mRt 4) ∈ lw_tbl := wd_mem (j := 662) rfl
theorem mcw_X2_init : Cond.code (mNm 5) (mBy 5) (ewMax 5) (mRt 5) ∈ lw_tbl := wd_mem (j := 214) rfl
theorem mcw_X2_look : Cond.code (mNm 6) (mBy 6) (ewMax 6) (mRt 6) ∈ lw_tbl := wd_mem (j := 450) rfl
theorem mcw_X2_keep : Cond.code (mNm 7) (mBy 7) (ewMax 7) (mRt 7) ∈ lw_tbl := wd_mem (j := 734) rfl
theorem mcw_X2_takeBack : Cond.code (mNm 8) (mBy 8) (ewMax 8) (mRt 8) ∈ lw_tbl := wd_mem (j := 807) rfl
theorem mcw_X2_goBack : Cond.code (mNm 9) (mBy 9) (ewMax 9) (mRt 9) ∈ lw_tbl := wd_mem (j := 803) rfl
theorem mcw_X2_forget : Cond.code (mNm 10) (mBy 10) (ewMax 10) (mRt 10) ∈ lw_tbl := wd_mem (j := 818) rfl
theorem mcw_X2_slotAt : Cond.code (mNm 11) (mBy 11) (ewMax 11) (mRt 11) ∈ lw_tbl := wd_mem (j := 454) rfl
theorem mcw_X3_init : Cond.code (mNm 12) (mBy 12) (ewMax 12) (mRt 12) ∈ lw_tbl := wd_mem (j := 234) rfl
theorem mcw_X3_obey : Cond.code (mNm 13) (mBy 13) (ewMax 13) (mRt 13) ∈ lw_tbl := wd_mem (j := 459) rfl
theorem mcw_X3_refuseOrder : Cond.code (mNm 14) (mBy 14) (ewMax 14) (mRt 14) ∈ lw_tbl := wd_mem (j := 1187) rfl
theorem mcw_X3_openWell : Cond.code (mNm 15) (mBy 15) (ewMax 15) (mRt 15) ∈ lw_tbl := wd_mem (j := 471) rfl
theorem mcw_X3_lowerBottom : Cond.code (mNm 16) (mBy 16) (ewMax 16) (mRt 16) ∈ lw_tbl := wd_mem (j := 494) rfl
theorem mcw_X3_closeWell : Cond.code (mNm 17) (mBy 17) (ewMax 17) (mRt 17) ∈ lw_tbl := wd_mem (j := 499) rfl
theorem mcw_X3_dropThing : Cond.code (mNm 18) (mBy 18) (ewMax 18) (mRt 18) ∈ lw_tbl := wd_mem (j := 507) rfl
theorem mcw_X3_removeThing : Cond.code (mNm 19) (mBy 19) (ewMax 19) (mRt 19) ∈ lw_tbl := wd_mem (j := 518) rfl
theorem mcw_X3_bringRope : Cond.code (mNm 20) (mBy 20) (ewMax 20) (mRt 20) ∈ lw_tbl := wd_mem (j := 547) rfl
theorem mcw_X3_tieRope : Cond.code (mNm 21) (mBy 21) (ewMax 21) (mRt 21) ∈ lw_tbl := wd_mem (j := 559) rfl
theorem mcw_X3_pullCoin : Cond.code (mNm 22) (mBy 22) (ewMax 22) (mRt 22) ∈ lw_tbl := wd_mem (j := 568) rfl
theorem mcw_X3_sendDown : Cond.code (mNm 23) (mBy 23) (ewMax 23) (mRt 23) ∈ lw_tbl := wd_mem (j := 581) rfl
theorem mcw_X3_refuse : Cond.code (mNm 24) (mBy 24) (ewMax 24) (mRt 24) ∈ lw_tbl := wd_mem (j := 478) rfl
theorem mcw_X3_isIn : Cond.code (mNm 25) (mBy 25) (ewMax 25) (mRt 25) ∈ lw_tbl := wd_mem (j := 474) rfl
theorem mcw_X4_init : Cond.code (mNm 26) (mBy 26) (ewMax 26) (mRt 26) ∈ lw_tbl := wd_mem (j := 134) rfl
theorem mcw_X4_size : Cond.code (mNm 27) (mBy 27) (ewMax 27) (mRt 27) ∈ lw_tbl := wd_mem (j := 585) rfl
theorem mcw_X4_at : Cond.code (mNm 28) (mBy 28) (ewMax 28) (mRt 28) ∈ lw_tbl := wd_mem (j := 428) rfl
theorem mcw_X4_put : Cond.code (mNm 29) (mBy 29) (ewMax 29) (mRt 29) ∈ lw_tbl := wd_mem (j := 432) rfl
theorem mcw_X4_clear : Cond.code (mNm 30) (mBy 30) (ewMax 30) (mRt 30) ∈ lw_tbl := wd_mem (j := 424) rfl
theorem mcw_X4_copy : Cond.code (mNm 31) (mBy 31) (ewMax 31) (mRt 31) ∈ lw_tbl := wd_mem (j := 420) rfl
theorem mcw_X4_cutLast : Cond.code (mNm 32) (mBy 32) (ewMax 32) (mRt 32) ∈ lw_tbl := wd_mem (j := 608) rfl
theorem mcw_X4_cutFirstVowel : Cond.code (mNm 33) (mBy 33) (ewMax 33) (mRt 33) ∈ lw_tbl := wd_mem (j := 613) rfl
theorem mcw_X4_cutVowels : Cond.code (mNm 34) (mBy 34) (ewMax 34) (mRt 34) ∈ lw_tbl := wd_mem (j := 638) rfl
theorem mcw_X4_turn : Cond.code (mNm 35) (mBy 35) (ewMax 35) (mRt 35) ∈ lw_tbl := wd_mem (j := 634) rfl
theorem mcw_X4_cutAt : Cond.code (mNm 36) (mBy 36) (ewMax 36) (mRt 36) ∈ lw_tbl := wd_mem (j := 620) rfl
theorem mcw_X6_init : Cond.code (mNm 37) (mBy 37) (ewMax 37) (mRt 37) ∈ lw_tbl := wd_mem (j := 294) rfl
theorem mcw_X6_countOrders : Cond.code (mNm 38) (mBy 38) (ewMax 38) (mRt 38) ∈ lw_tbl := wd_mem (j := 1114) rfl
theorem mcw_X6_rewind : Cond.code (mNm 39) (mBy 39) (ewMax 39) (mRt 39) ∈ lw_tbl := wd_mem (j := 1119) rfl
theorem mcw_X6_readOrder : Cond.code (mNm 40) (mBy 40) (ewMax 40) (mRt 40) ∈ lw_tbl := wd_mem (j := 1123) rfl
theorem mcw_X6_readSign : Cond.code (mNm 41) (mBy 41) (ewMax 41) (mRt 41) ∈ lw_tbl := wd_mem (j := 1172) rfl
theorem mcw_X6_numberAt : Cond.code (mNm 42) (mBy 42) (ewMax 42) (mRt 42) ∈ lw_tbl := wd_mem (j := 1183) rfl
theorem mcw_X6_readName : Cond.code (mNm 43) (mBy 43) (ewMax 43) (mRt 43) ∈ lw_tbl := wd_mem (j := 1128) rfl
theorem mcw_X6_sameSigns : Cond.code (mNm 44) (mBy 44) (ewMax 44) (mRt 44) ∈ lw_tbl := wd_mem (j := 1134) rfl
theorem mcw_X6_readPart : Cond.code (mNm 45) (mBy 45) (ewMax 45) (mRt 45) ∈ lw_tbl := wd_mem (j := 1142) rfl
theorem mcw_X6_readNumber : Cond.code (mNm 46) (mBy 46) (ewMax 46) (mRt 46) ∈ lw_tbl := wd_mem (j := 1146) rfl
theorem mcw_X6_readBottom : Cond.code (mNm 47) (mBy 47) (ewMax 47) (mRt 47) ∈ lw_tbl := wd_mem (j := 1157) rfl
theorem mcw_X6_readLetter : Cond.code (mNm 48) (mBy 48) (ewMax 48) (mRt 48) ∈ lw_tbl := wd_mem (j := 1161) rfl
theorem mcw_X6_readWord : Cond.code (mNm 49) (mBy 49) (ewMax 49) (mRt 49) ∈ lw_tbl := wd_mem (j := 1166) rfl
theorem mcw_X6_note : Cond.code (mNm 50) (mBy 50) (ewMax 50) (mRt 50) ∈ lw_tbl := wd_mem (j := 1153) rfl
theorem mcw_X6_isDigit : Cond.code (mNm 51) (mBy 51) (ewMax 51) (mRt 51) ∈ lw_tbl := wd_mem (j := 1149) rfl
theorem mcw_X7_init : Cond.code (mNm 52) (mBy 52) (ewMax 52) (mRt 52) ∈ lw_tbl := wd_mem (j := 240) rfl
theorem mcw_X7_set : Cond.code (mNm 53) (mBy 53) (ewMax 53) (mRt 53) ∈ lw_tbl := wd_mem (j := 482) rfl
theorem mcw_X8_init : Cond.code (mNm 54) (mBy 54) (ewMax 54) (mRt 54) ∈ lw_tbl := wd_mem (j := 105) rfl
theorem mcw_X8_open : Cond.code (mNm 55) (mBy 55) (ewMax 55) (mRt 55) ∈ lw_tbl := wd_mem (j := 555) rfl
theorem mcw_X8_copy : Cond.code (mNm 56) (mBy 56) (ewMax 56) (mRt 56) ∈ lw_tbl := wd_mem (j := 412) rfl
theorem mcw_X9_init : Cond.code (mNm 57) (mBy 57) (ewMax 57) (mRt 57) ∈ lw_tbl := wd_mem (j := 255) rfl
theorem mcw_X9_go : Cond.code (mNm 58) (mBy 58) (ewMax 58) (mRt 58) ∈ lw_tbl := wd_mem (j := 589) rfl
theorem mcw_X9_gradeFor : Cond.code (mNm 59) (mBy 59) (ewMax 59) (mRt 59) ∈ lw_tbl := wd_mem (j := 642) rfl
theorem mcw_X9_pass : Cond.code (mNm 60) (mBy 60) (ewMax 60) (mRt 60) ∈ lw_tbl := wd_mem (j := 602) rfl
theorem mcw_X9_answer : Cond.code (mNm 61) (mBy 61) (ewMax 61) (mRt 61) ∈ lw_tbl := wd_mem (j := 625) rfl
theorem mcw_X9_turnAt : Cond.code (mNm 62) (mBy 62) (ewMax 62) (mRt 62) ∈ lw_tbl := wd_mem (j := 630) rfl
theorem mcw_X10_init : Cond.code (mNm 63) (mBy 63) (ewMax 63) (mRt 63) ∈ lw_tbl := wd_mem (j := 55) rfl
theorem mcw_X10_open : Cond.code (mNm 64) (mBy 64) (ewMax 64) (mRt 64) ∈ lw_tbl := wd_mem (j := 490) rfl
theorem mcw_X10_copy : Cond.code (mNm 65) (mBy 65) (ewMax 65) (mRt 65) ∈ lw_tbl := wd_mem (j := 380) rfl
theorem mcw_X10_hasThing : Cond.code (mNm 66) (mBy 66) (ewMax 66) (mRt 66) ∈ lw_tbl := wd_mem (j := 522) rfl
theorem mcw_X10_kindOf : Cond.code (mNm 67) (mBy 67) (ewMax 67) (mRt 67) ∈ lw_tbl := wd_mem (j := 384) rfl
theorem mcw_X10_depthOf : Cond.code (mNm 68) (mBy 68) (ewMax 68) (mRt 68) ∈ lw_tbl := wd_mem (j := 388) rfl
theorem mcw_X10_valueOf : Cond.code (mNm 69) (mBy 69) (ewMax 69) (mRt 69) ∈ lw_tbl := wd_mem (j := 392) rfl
theorem mcw_X10_isAwake : Cond.code (mNm 70) (mBy 70) (ewMax 70) (mRt 70) ∈ lw_tbl := wd_mem (j := 396) rfl
theorem mcw_X10_add : Cond.code (mNm 71) (mBy 71) (ewMax 71) (mRt 71) ∈ lw_tbl := wd_mem (j := 514) rfl
theorem mcw_X10_remove : Cond.code (mNm 72) (mBy 72) (ewMax 72) (mRt 72) ∈ lw_tbl := wd_mem (j := 526) rfl
theorem mcw_X10_placeOf : Cond.code (mNm 73) (mBy 73) (ewMax 73) (mRt 73) ∈ lw_tbl := wd_mem (j := 598) rfl
theorem mcw_X10_thingAt : Cond.code (mNm 74) (mBy 74) (ewMax 74) (mRt 74) ∈ lw_tbl := wd_mem (j := 594) rfl
theorem mcw_X10_uppermostCoin : Cond.code (mNm 75) (mBy 75) (ewMax 75) (mRt 75) ∈ lw_tbl := wd_mem (j := 572) rfl
theorem mcw_X10_countOf : Cond.code (mNm 76) (mBy 76) (ewMax 76) (mRt 76) ∈ lw_tbl := wd_mem (j := 576) rfl
theorem mcw_X10_countOfFrogs : Cond.code (mNm 77) (mBy 77) (ewMax 77) (mRt 77) ∈ lw_tbl := wd_mem (j := 539) rfl
theorem mcw_X10_setFrogs : Cond.code (mNm 78) (mBy 78) (ewMax 78) (mRt 78) ∈ lw_tbl := wd_mem (j := 543) rfl
theorem mcw_X10_timeByKinds : Cond.code (mNm 79) (mBy 79) (ewMax 79) (mRt 79) ∈ lw_tbl := wd_mem (j := 1230) rfl
theorem mcw_X10_hasThingBelow : Cond.code (mNm 80) (mBy 80) (ewMax 80) (mRt 80) ∈ lw_tbl := wd_mem (j := 1235) rfl
theorem mcw_X10_set : Cond.code (mNm 81) (mBy 81) (ewMax 81) (mRt 81) ∈ lw_tbl := wd_mem (j := 400) rfl
theorem mcw_X11_init : Cond.code (mNm 82) (mBy 82) (ewMax 82) (mRt 82) ∈ lw_tbl := wd_mem (j := 48) rfl
theorem mcw_X11_copy : Cond.code (mNm 83) (mBy 83) (ewMax 83) (mRt 83) ∈ lw_tbl := wd_mem (j := 368) rfl
theorem mcw_X11_wellAt : Cond.code (mNm 84) (mBy 84) (ewMax 84) (mRt 84) ∈ lw_tbl := wd_mem (j := 372) rfl
theorem mcw_X11_ropeAt : Cond.code (mNm 85) (mBy 85) (ewMax 85) (mRt 85) ∈ lw_tbl := wd_mem (j := 404) rfl
theorem mcw_X11_addWell : Cond.code (mNm 86) (mBy 86) (ewMax 86) (mRt 86) ∈ lw_tbl := wd_mem (j := 486) rfl
theorem mcw_X11_addRope : Cond.code (mNm 87) (mBy 87) (ewMax 87) (mRt 87) ∈ lw_tbl := wd_mem (j := 551) rfl
theorem mcw_X11_removeWell : Cond.code (mNm 88) (mBy 88) (ewMax 88) (mRt 88) ∈ lw_tbl := wd_mem (j := 503) rfl
theorem mcw_X11_ropesAt : Cond.code (mNm 89) (mBy 89) (ewMax 89) (mRt 89) ∈ lw_tbl := wd_mem (j := 564) rfl
theorem mcw_X11_countOfThings : Cond.code (mNm 90) (mBy 90) (ewMax 90) (mRt 90) ∈ lw_tbl := wd_mem (j := 759) rfl
theorem mcw_X11_countOfSleepers : Cond.code (mNm 91) (mBy 91) (ewMax 91) (mRt 91) ∈ lw_tbl := wd_mem (j := 535) rfl
theorem mcw_X11_wakeFrogs : Cond.code (mNm 92) (mBy 92) (ewMax 92) (mRt 92) ∈ lw_tbl := wd_mem (j := 531) rfl
theorem mcw_X11_enter : Cond.code (mNm 93) (mBy 93) (ewMax 93) (mRt 93) ∈ lw_tbl := wd_mem (j := 653) rfl
theorem mcw_X11_copyWell : Cond.code (mNm 94) (mBy 94) (ewMax 94) (mRt 94) ∈ lw_tbl := wd_mem (j := 376) rfl
theorem mcw_X11_copyRope : Cond.code (mNm 95) (mBy 95) (ewMax 95) (mRt 95) ∈ lw_tbl := wd_mem (j := 408) rfl
theorem mcw_X12_init : Cond.code (mNm 96) (mBy 96) (ewMax 96) (mRt 96) ∈ lw_tbl := wd_mem (j := 40) rfl
theorem mcw_X12_dig : Cond.code (mNm 97) (mBy 97) (ewMax 97) (mRt 97) ∈ lw_tbl := wd_mem (j := 440) rfl
theorem mcw_X12_deepen : Cond.code (mNm 98) (mBy 98) (ewMax 98) (mRt 98) ∈ lw_tbl := wd_mem (j := 980) rfl
theorem mcw_X12_fill : Cond.code (mNm 99) (mBy 99) (ewMax 99) (mRt 99) ∈ lw_tbl := wd_mem (j := 971) rfl
theorem mcw_X12_coin : Cond.code (mNm 100) (mBy 100) (ewMax 100) (mRt 100) ∈ lw_tbl := wd_mem (j := 989) rfl
theorem mcw_X12_frog : Cond.code (mNm 101) (mBy 101) (ewMax 101) (mRt 101) ∈ lw_tbl := wd_mem (j := 745) rfl
theorem mcw_X12_moss : Cond.code (mNm 102) (mBy 102) (ewMax 102) (mRt 102) ∈ lw_tbl := wd_mem (j := 998) rfl
theorem mcw_X12_take : Cond.code (mNm 103) (mBy 103) (ewMax 103) (mRt 103) ∈ lw_tbl := wd_mem (j := 1007) rfl
theorem mcw_X12_wake : Cond.code (mNm 104) (mBy 104) (ewMax 104) (mRt 104) ∈ lw_tbl := wd_mem (j := 1013) rfl
theorem mcw_X12_rope : Cond.code (mNm 105) (mBy 105) (ewMax 105) (mRt 105) ∈ lw_tbl := wd_mem (j := 1022) rfl
theorem mcw_X12_bind : Cond.code (mNm 106) (mBy 106) (ewMax 106) (mRt 106) ∈ lw_tbl := wd_mem (j := 1031) rfl
theorem mcw_X12_fish : Cond.code (mNm 107) (mBy 107) (ewMax 107) (mRt 107) ∈ lw_tbl := wd_mem (j := 1040) rfl
theorem mcw_X12_letter : Cond.code (mNm 108) (mBy 108) (ewMax 108) (mRt 108) ∈ lw_tbl := wd_mem (j := 1204) rfl
theorem mcw_X12_shout : Cond.code (mNm 109) (mBy 109) (ewMax 109) (mRt 109) ∈ lw_tbl := wd_mem (j := 1212) rfl
theorem mcw_X12_wellOf : Cond.code (mNm 110) (mBy 110) (ewMax 110) (mRt 110) ∈ lw_tbl := wd_mem (j := 870) rfl
theorem mcw_X12_thingOf : Cond.code (mNm 111) (mBy 111) (ewMax 111) (mRt 111) ∈ lw_tbl := wd_mem (j := 901) rfl
theorem mcw_X12_ropeOf : Cond.code (mNm 112) (mBy 112) (ewMax 112) (mRt 112) ∈ lw_tbl := wd_mem (j := 914) rfl
theorem mcw_X12_bookOf : Cond.code (mNm 113) (mBy 113) (ewMax 113) (mRt 113) ∈ lw_tbl := wd_mem (j := 927) rfl
theorem mcw_X12_time : Cond.code (mNm 114) (mBy 114) (ewMax 114) (mRt 114) ∈ lw_tbl := wd_mem (j := 1268) rfl
theorem mcw_X12_timeAgain : Cond.code (mNm 115) (mBy 115) (ewMax 115) (mRt 115) ∈ lw_tbl := wd_mem (j := 1275) rfl
theorem mcw_X12_isLater : Cond.code (mNm 116) (mBy 116) (ewMax 116) (mRt 116) ∈ lw_tbl := wd_mem (j := 1289) rfl
theorem mcw_X12_echoLength : Cond.code (mNm 117) (mBy 117) (ewMax 117) (mRt 117) ∈ lw_tbl := wd_mem (j := 1296) rfl
theorem mcw_X12_echoLetter : Cond.code (mNm 118) (mBy 118) (ewMax 118) (mRt 118) ∈ lw_tbl := wd_mem (j := 1431) rfl
theorem mcw_X12_losses : Cond.code (mNm 119) (mBy 119) (ewMax 119) (mRt 119) ∈ lw_tbl := wd_mem (j := 1538) rfl
theorem mcw_X12_wouldGrade : Cond.code (mNm 120) (mBy 120) (ewMax 120) (mRt 120) ∈ lw_tbl := wd_mem (j := 1282) rfl
theorem mcw_X12_bestWell : Cond.code (mNm 121) (mBy 121) (ewMax 121) (mRt 121) ∈ lw_tbl := wd_mem (j := 1256) rfl
theorem mcw_X12_reach : Cond.code (mNm 122) (mBy 122) (ewMax 122) (mRt 122) ∈ lw_tbl := wd_mem (j := 1245) rfl
theorem mcw_X12_ranked : Cond.code (mNm 123) (mBy 123) (ewMax 123) (mRt 123) ∈ lw_tbl := wd_mem (j := 1546) rfl
theorem mcw_X12_isTold : Cond.code (mNm 124) (mBy 124) (ewMax 124) (mRt 124) ∈ lw_tbl := wd_mem (j := 1221) rfl
theorem mcw_X12_append : Cond.code (mNm 125) (mBy 125) (ewMax 125) (mRt 125) ∈ lw_tbl := wd_mem (j := 1102) rfl
theorem mcw_X12_run : Cond.code (mNm 126) (mBy 126) (ewMax 126) (mRt 126) ∈ lw_tbl := wd_mem (j := 1110) rfl
theorem mcw_X12_tellEcho : Cond.code (mNm 127) (mBy 127) (ewMax 127) (mRt 127) ∈ lw_tbl := wd_mem (j := 950) rfl
theorem mcw_X12_character : Cond.code (mNm 128) (mBy 128) (ewMax 128) (mRt 128) ∈ lw_tbl := wd_mem (j := 958) rfl
theorem mcw_X12_account : Cond.code (mNm 129) (mBy 129) (ewMax 129) (mRt 129) ∈ lw_tbl := wd_mem (j := 755) rfl
theorem mcw_X12_undo : Cond.code (mNm 130) (mBy 130) (ewMax 130) (mRt 130) ∈ lw_tbl := wd_mem (j := 784) rfl
theorem mcw_X12_save : Cond.code (mNm 131) (mBy 131) (ewMax 131) (mRt 131) ∈ lw_tbl := wd_mem (j := 364) rfl
theorem mcw_X12_restore : Cond.code (mNm 132) (mBy 132) (ewMax 132) (mRt 132) ∈ lw_tbl := wd_mem (j := 814) rfl
theorem mcw_X12_changed : Cond.code (mNm 133) (mBy 133) (ewMax 133) (mRt 133) ∈ lw_tbl := wd_mem (j := 446) rfl
theorem mcw_X12_areObeyed : Cond.code (mNm 134) (mBy 134) (ewMax 134) (mRt 134) ∈ lw_tbl := wd_mem (j := 1177) rfl
theorem mcw_X12_askedWell : Cond.code (mNm 135) (mBy 135) (ewMax 135) (mRt 135) ∈ lw_tbl := wd_mem (j := 874) rfl
theorem mcw_X12_askedRope : Cond.code (mNm 136) (mBy 136) (ewMax 136) (mRt 136) ∈ lw_tbl := wd_mem (j := 918) rfl
theorem mcw_X12_sendWord : Cond.code (mNm 137) (mBy 137) (ewMax 137) (mRt 137) ∈ lw_tbl := wd_mem (j := 1260) rfl
theorem mcw_X12_timeOnTheWay : Cond.code (mNm 138) (mBy 138) (ewMax 138) (mRt 138) ∈ lw_tbl := wd_mem (j := 1225) rfl
theorem mcw_X12_rankOf : Cond.code (mNm 139) (mBy 139) (ewMax 139) (mRt 139) ∈ lw_tbl := wd_mem (j := 1550) rfl
theorem mcw_X12_measureOf : Cond.code (mNm 140) (mBy 140) (ewMax 140) (mRt 140) ∈ lw_tbl := wd_mem (j := 1554) rfl
theorem mcw_X12_isLetter : Cond.code (mNm 141) (mBy 141) (ewMax 141) (mRt 141) ∈ lw_tbl := wd_mem (j := 510) rfl
theorem mcw_X12_isVowel : Cond.code (mNm 142) (mBy 142) (ewMax 142) (mRt 142) ∈ lw_tbl := wd_mem (j := 616) rfl
theorem mcw_L_cell : Cond.code (mNm 143) (mBy 143) (ewMax 143) (mRt 143) ∈ lw_tbl := wd_mem (j := 821) rfl
theorem mcw_L_chosen : Cond.code (mNm 144) (mBy 144) (ewMax 144) (mRt 144) ∈ lw_tbl := wd_mem (j := 824) rfl
theorem mcw_L_done : Cond.code (mNm 145) (mBy 145) (ewMax 145) (mRt 145) ∈ lw_tbl := wd_mem (j := 1047) rfl
theorem mcw_L_says : Cond.code (mNm 146) (mBy 146) (ewMax 146) (mRt 146) ∈ lw_tbl := wd_mem (j := 1197) rfl
theorem mcw_L_mark : Cond.code (mNm 147) (mBy 147) (ewMax 147) (mRt 147) ∈ lw_tbl := wd_mem (j := 828) rfl
theorem mcw_L_acts : Cond.code (mNm 148) (mBy 148) (ewMax 148) (mRt 148) ∈ lw_tbl := wd_mem (j := 962) rfl
theorem mcw_L_shouts : Cond.code (mNm 149) (mBy 149) (ewMax 149) (mRt 149) ∈ lw_tbl := wd_mem (j := 1192) rfl
theorem mcw_L_sounds : Cond.code (mNm 150) (mBy 150) (ewMax 150) (mRt 150) ∈ lw_tbl := wd_mem (j := 1249) rfl
theorem mcw_L_ropes : Cond.code (mNm 151) (mBy 151) (ewMax 151) (mRt 151) ∈ lw_tbl := wd_mem (j := 1238) rfl
theorem mcw_L_fits : Cond.code (mNm 152) (mBy 152) (ewMax 152) (mRt 152) ∈ lw_tbl := wd_mem (j := 1217) rfl
theorem mcw_L_dig : Cond.codeWith (mNm 153) (mBy 153) (ewMax 153) (mRt 153) (mHh 153) ∈ lw_tbl := wd_mem (j := 435) rfl
theorem mcw_L_deepen : Cond.codeWith (mNm 154) (mBy 154) (ewMax 154) (mRt 154) (mHh 154) ∈ lw_tbl := wd_mem (j := 976) rfl
theorem mcw_L_fill : Cond.codeWith (mNm 155) (mBy 155) (ewMax 155) (mRt 155) (mHh 155) ∈ lw_tbl := wd_mem (j := 967) rfl
theorem mcw_L_coin : Cond.codeWith (mNm 156) (mBy 156) (ewMax 156) (mRt 156) (mHh 156) ∈ lw_tbl := wd_mem (j := 985) rfl
theorem mcw_L_frog : Cond.codeWith (mNm 157) (mBy 157) (ewMax 157) (mRt 157) (mHh 157) ∈ lw_tbl := wd_mem (j := 741) rfl
theorem mcw_L_moss : Cond.codeWith (mNm 158) (mBy 158) (ewMax 158) (mRt 158) (mHh 158) ∈ lw_tbl := wd_mem (j := 994) rfl
theorem mcw_L_take : Cond.codeWith (mNm 159) (mBy 159) (ewMax 159) (mRt 159) (mHh 159) ∈ lw_tbl := wd_mem (j := 1003) rfl
theorem mcw_L_rope : Cond.codeWith (mNm 160) (mBy 160) (ewMax 160) (mRt 160) (mHh 160) ∈ lw_tbl := wd_mem (j := 1018) rfl
theorem mcw_L_bind : Cond.codeWith (mNm 161) (mBy 161) (ewMax 161) (mRt 161) (mHh 161) ∈ lw_tbl := wd_mem (j := 1027) rfl
theorem mcw_L_fish : Cond.codeWith (mNm 162) (mBy 162) (ewMax 162) (mRt 162) (mHh 162) ∈ lw_tbl := wd_mem (j := 1036) rfl
theorem mcw_L_letter : Cond.codeWith (mNm 163) (mBy 163) (ewMax 163) (mRt 163) (mHh 163) ∈ lw_tbl := wd_mem (j := 1200) rfl
theorem mcw_L_shout : Cond.codeWith (mNm 164) (mBy 164) (ewMax 164) (mRt 164) (mHh 164) ∈ lw_tbl := wd_mem (j := 1208) rfl
theorem mcw_L_wellOf : Cond.codeWith (mNm 165) (mBy 165) (ewMax 165) (mRt 165) (mHh 165) ∈ lw_tbl := wd_mem (j := 833) rfl
theorem mcw_L_thingOf : Cond.codeWith (mNm 166) (mBy 166) (ewMax 166) (mRt 166) (mHh 166) ∈ lw_tbl := wd_mem (j := 897) rfl
theorem mcw_L_ropeOf : Cond.codeWith (mNm 167) (mBy 167) (ewMax 167) (mRt 167) (mHh 167) ∈ lw_tbl := wd_mem (j := 910) rfl
theorem mcw_L_bookOf : Cond.codeWith (mNm 168) (mBy 168) (ewMax 168) (mRt 168) (mHh 168) ∈ lw_tbl := wd_mem (j := 922) rfl
theorem mcw_L_time : Cond.codeWith (mNm 169) (mBy 169) (ewMax 169) (mRt 169) (mHh 169) ∈ lw_tbl := wd_mem (j := 1264) rfl
theorem mcw_L_timeAgain : Cond.codeWith (mNm 170) (mBy 170) (ewMax 170) (mRt 170) (mHh 170) ∈ lw_tbl := wd_mem (j := 1271) rfl
theorem mcw_L_isLater : Cond.codeWith (mNm 171) (mBy 171) (ewMax 171) (mRt 171) (mHh 171) ∈ lw_tbl := wd_mem (j := 1285) rfl
theorem mcw_L_echoLength : Cond.codeWith (mNm 172) (mBy 172) (ewMax 172) (mRt 172) (mHh 172) ∈ lw_tbl := wd_mem (j := 1292) rfl
theorem mcw_L_echoLetter : Cond.codeWith (mNm 173) (mBy 173) (ewMax 173) (mRt 173) (mHh 173) ∈ lw_tbl := wd_mem (j := 1427) rfl
theorem mcw_L_losses : Cond.codeWith (mNm 174) (mBy 174) (ewMax 174) (mRt 174) (mHh 174) ∈ lw_tbl := wd_mem (j := 1534) rfl
theorem mcw_L_wouldGrade : Cond.codeWith (mNm 175) (mBy 175) (ewMax 175) (mRt 175) (mHh 175) ∈ lw_tbl := wd_mem (j := 1278) rfl
theorem mcw_L_bestWell : Cond.codeWith (mNm 176) (mBy 176) (ewMax 176) (mRt 176) (mHh 176) ∈ lw_tbl := wd_mem (j := 1252) rfl
theorem mcw_L_reach : Cond.codeWith (mNm 177) (mBy 177) (ewMax 177) (mRt 177) (mHh 177) ∈ lw_tbl := wd_mem (j := 1241) rfl
theorem mcw_L_ranked : Cond.codeWith (mNm 178) (mBy 178) (ewMax 178) (mRt 178) (mHh 178) ∈ lw_tbl := wd_mem (j := 1542) rfl
theorem mcw_L_append : Cond.codeWith (mNm 179) (mBy 179) (ewMax 179) (mRt 179) (mHh 179) ∈ lw_tbl := wd_mem (j := 1098) rfl
theorem mcw_L_run : Cond.codeWith (mNm 180) (mBy 180) (ewMax 180) (mRt 180) (mHh 180) ∈ lw_tbl := wd_mem (j := 1106) rfl
theorem mcw_L_character : Cond.codeWith (mNm 181) (mBy 181) (ewMax 181) (mRt 181) (mHh 181) ∈ lw_tbl := wd_mem (j := 954) rfl
theorem mcw_L_account : Cond.codeWith (mNm 182) (mBy 182) (ewMax 182) (mRt 182) (mHh 182) ∈ lw_tbl := wd_mem (j := 750) rfl
theorem mcw_L_undo : Cond.codeWith (mNm 183) (mBy 183) (ewMax 183) (mRt 183) (mHh 183) ∈ lw_tbl := wd_mem (j := 779) rfl
theorem mcw_L_restore : Cond.codeWith (mNm 184) (mBy 184) (ewMax 184) (mRt 184) (mHh 184) ∈ lw_tbl := wd_mem (j := 810) rfl
theorem mcwA_0 : ∀ m ∈ [0, 1, 2, 3, 4, 5, 6, 7, 8, 9, 10, 11, 12, 13, 14, 15, 16, 17, 18, 19, 20, 21, 22, 23, 24, 25, 26, 27, 28, 29, 30, 31, 32, 33, 34, 35, 36, 37, 38, 39], Cond.code (mNm m) (mBy m) (ewMax m) (mRt m) ∈ lw_tbl := List.forall_mem_cons.mpr ⟨mcw_X1_init, List.forall_mem_cons.mpr ⟨mcw_X1_copy, List.forall_mem_cons.mpr ⟨mcw_X1_numberAt, List.forall_mem_cons.mpr ⟨mcw_X1_enter, List.forall_mem_cons.mpr ⟨mcw_X1_setFirst, List.forall_mem_cons.mpr ⟨mcw_X2_init, List.forall_mem_cons.mpr ⟨mcw_X2_look, List.forall_mem_cons.mpr ⟨mcw_X2_keep, List.forall_mem_cons.mpr ⟨mcw_X2_takeBack, List.forall_mem_cons.mpr ⟨mcw_X2_goBack, List.forall_mem_cons.mpr ⟨mcw_X2_forget, List.forall_mem_cons.mpr ⟨mcw_X2_slotAt, List.forall_mem_cons.mpr ⟨mcw_X3_init, List.forall_mem_cons.mpr ⟨mcw_X3_obey, List.forall_mem_cons.mpr ⟨mcw_X3_refuseOrder, List.forall_mem_cons.mpr ⟨mcw_X3_openWell, List.forall_mem_cons.mpr ⟨mcw_X3_lowerBottom, List.forall_mem_cons.mpr ⟨mcw_X3_closeWell, List.forall_mem_cons.mpr ⟨mcw_X3_dropThing, List.forall_mem_cons.mpr ⟨mcw_X3_removeThing, List.forall_mem_cons.mpr ⟨mcw_X3_bringRope, List.forall_mem_cons.mpr ⟨mcw_X3_tieRope, List.forall_mem_cons.mpr ⟨mcw_X3_pullCoin, List.forall_mem_cons.mpr ⟨mcw_X3_sendDown, List.forall_mem_cons.mpr ⟨mcw_X3_refuse, List.forall_mem_cons.mpr ⟨mcw_X3_isIn, List.forall_mem_cons.mpr ⟨mcw_X4_init, List.forall_mem_cons.mpr ⟨mcw_X4_size, List.forall_mem_cons.mpr ⟨mcw_X4_at, List.forall_mem_cons.mpr ⟨mcw_X4_put, List.forall_mem_cons.mpr ⟨mcw_X4_clear, List.forall_mem_cons.mpr ⟨mcw_X4_copy, List.forall_mem_cons.mpr ⟨mcw_X4_cutLast, List.forall_mem_cons.mpr ⟨mcw_X4_cutFirstVowel, List.forall_mem_cons.mpr ⟨mcw_X4_cutVowels, List.forall_mem_cons.mpr ⟨mcw_X4_turn, List.forall_mem_cons.mpr ⟨mcw_X4_cutAt, List.forall_mem_cons.mpr ⟨mcw_X6_init, List.forall_mem_cons.mpr ⟨mcw_X6_countOrders, List.forall_mem_cons.mpr ⟨mcw_X6_rewind, fun _ h => absurd h List.not_mem_nil⟩⟩⟩⟩⟩⟩⟩⟩⟩⟩⟩⟩⟩⟩⟩⟩⟩⟩⟩⟩⟩⟩⟩⟩⟩⟩⟩⟩⟩⟩⟩⟩⟩⟩⟩⟩⟩⟩⟩⟩
theorem mcwA_1 : ∀ m ∈ [40, 41, 42, 43, 44, 45, 46, 47, 48, 49, 50, 51, 52, 53, 54, 55, 56, 57, 58, 59, 60, 61, 62, 63, 64, 65, 66, 67, 68, 69, 70, 71, 72, 73, 74, 75, 76, 77, 78, 79], Cond.code (mNm m) (mBy m) (ewMax m) (mRt m) ∈ lw_tbl := List.forall_mem_cons.mpr ⟨mcw_X6_readOrder, List.forall_mem_cons.mpr ⟨mcw_X6_readSign, List.forall_mem_cons.mpr ⟨mcw_X6_numberAt, List.forall_mem_cons.mpr ⟨mcw_X6_readName, List.forall_mem_cons.mpr ⟨mcw_X6_sameSigns, List.forall_mem_cons.mpr ⟨mcw_X6_readPart, List.forall_mem_cons.mpr ⟨mcw_X6_readNumber, List.forall_mem_cons.mpr ⟨mcw_X6_readBottom, List.forall_mem_cons.mpr ⟨mcw_X6_readLetter, List.forall_mem_cons.mpr ⟨mcw_X6_readWord, List.forall_mem_cons.mpr ⟨mcw_X6_note, List.forall_mem_cons.mpr ⟨mcw_X6_isDigit, List.forall_mem_cons.mpr ⟨mcw_X7_init, List.forall_mem_cons.mpr ⟨mcw_X7_set, List.forall_mem_cons.mpr ⟨mcw_X8_init, List.forall_mem_cons.mpr ⟨mcw_X8_open, List.forall_mem_cons.mpr ⟨mcw_X8_copy, List.forall_mem_cons.mpr ⟨mcw_X9_init, List.forall_mem_cons.mpr ⟨mcw_X9_go, List.forall_mem_cons.mpr ⟨mcw_X9_gradeFor, List.forall_mem_cons.mpr ⟨mcw_X9_pass, List.forall_mem_cons.mpr ⟨mcw_X9_answer, List.forall_mem_cons.mpr ⟨mcw_X9_turnAt, List.forall_mem_cons.mpr ⟨mcw_X10_init, List.forall_mem_cons.mpr ⟨mcw_X10_open, List.forall_mem_cons.mpr ⟨mcw_X10_copy, List.forall_mem_cons.mpr ⟨mcw_X10_hasThing, List.forall_mem_cons.mpr ⟨mcw_X10_kindOf, List.forall_mem_cons.mpr ⟨mcw_X10_depthOf, List.forall_mem_cons.mpr ⟨mcw_X10_valueOf, List.forall_mem_cons.mpr ⟨mcw_X10_isAwake, List.forall_mem_cons.mpr ⟨mcw_X10_add, List.forall_mem_cons.mpr ⟨mcw_X10_remove, List.forall_mem_cons.mpr ⟨mcw_X10_placeOf, List.forall_mem_cons.mpr ⟨mcw_X10_thingAt, List.forall_mem_cons.mpr ⟨mcw_X10_uppermostCoin, List.forall_mem_cons.mpr ⟨mcw_X10_countOf, List.forall_mem_cons.mpr ⟨mcw_X10_countOfFrogs, List.forall_mem_cons.mpr ⟨mcw_X10_setFrogs, List.forall_mem_cons.mpr ⟨mcw_X10_timeByKinds, fun _ h => absurd h List.not_mem_nil⟩⟩⟩⟩⟩⟩⟩⟩⟩⟩⟩⟩⟩⟩⟩⟩⟩⟩⟩⟩⟩⟩⟩⟩⟩⟩⟩⟩⟩⟩⟩⟩⟩⟩⟩⟩⟩⟩⟩⟩
theorem mcwA_2 : ∀ m ∈ [80, 81, 82, 83, 84, 85, 86, 87, 88, 89, 90, 91, 92, 93, 94, 95, 96, 97, 98, 99, 100, 101, 102, 103, 104, 105, 106, 107, 108, 109, 110, 111, 112, 113, 114, 115, 116, 117, 118, 119], Cond.code (mNm m) (mBy m) (ewMax m) (mRt m) ∈ lw_tbl := List.forall_mem_cons.mpr ⟨mcw_X10_hasThingBelow, List.forall_mem_cons.mpr ⟨mcw_X10_set, List.forall_mem_cons.mpr ⟨mcw_X11_init, List.forall_mem_cons.mpr ⟨mcw_X11_copy, List.forall_mem_cons.mpr ⟨mcw_X11_wellAt, List.forall_mem_cons.mpr ⟨mcw_X11_ropeAt, List.forall_mem_cons.mpr ⟨mcw_X11_addWell, List.forall_mem_cons.mpr ⟨mcw_X11_addRope, List.forall_mem_cons.mpr ⟨mcw_X11_removeWell, List.forall_mem_cons.mpr ⟨mcw_X11_ropesAt, List.forall_mem_cons.mpr ⟨mcw_X11_countOfThings, List.forall_mem_cons.mpr ⟨mcw_X11_countOfSleepers, List.forall_mem_cons.mpr ⟨mcw_X11_wakeFrogs, List.forall_mem_cons.mpr ⟨mcw_X11_enter, List.forall_mem_cons.mpr ⟨mcw_X11_copyWell, List.forall_mem_cons.mpr ⟨mcw_X11_copyRope, List.forall_mem_cons.mpr ⟨mcw_X12_init, List.forall_mem_cons.mpr ⟨mcw_X12_dig, List.forall_mem_cons.mpr ⟨mcw_X12_deepen, List.forall_mem_cons.mpr ⟨mcw_X12_fill, List.forall_mem_cons.mpr ⟨mcw_X12_coin, List.forall_mem_cons.mpr ⟨mcw_X12_frog, List.forall_mem_cons.mpr ⟨mcw_X12_moss, List.forall_mem_cons.mpr ⟨mcw_X12_take, List.forall_mem_cons.mpr ⟨mcw_X12_wake, List.forall_mem_cons.mpr ⟨mcw_X12_rope, List.forall_mem_cons.mpr ⟨mcw_X12_bind, List.forall_mem_cons.mpr ⟨mcw_X12_fish, List.forall_mem_cons.mpr ⟨mcw_X12_letter, List.forall_mem_cons.mpr ⟨mcw_X12_shout, List.forall_mem_cons.mpr ⟨mcw_X12_wellOf, List.forall_mem_cons.mpr ⟨mcw_X12_thingOf, List.forall_mem_cons.mpr ⟨mcw_X12_ropeOf, List.forall_mem_cons.mpr ⟨mcw_X12_bookOf, List.forall_mem_cons.mpr ⟨mcw_X12_time, List.forall_mem_cons.mpr ⟨mcw_X12_timeAgain, List.forall_mem_cons.mpr ⟨mcw_X12_isLater, List.forall_mem_cons.mpr ⟨mcw_X12_echoLength, List.forall_mem_cons.mpr ⟨mcw_X12_echoLetter, List.forall_mem_cons.mpr ⟨mcw_X12_losses, fun _ h => absurd h List.not_mem_nil⟩⟩⟩⟩⟩⟩⟩⟩⟩⟩⟩⟩⟩⟩⟩⟩⟩⟩⟩⟩⟩⟩⟩⟩⟩⟩⟩⟩⟩⟩⟩⟩⟩⟩⟩⟩⟩⟩⟩⟩
theorem mcwA_3 : ∀ m ∈ [120, 121, 122, 123, 124, 125, 126, 127, 128, 129, 130, 131, 132, 133, 134, 135, 136, 137, 138, 139, 140, 141, 142, 143, 144, 145, 146, 147, 148, 149, 150, 151, 152], Cond.code (mNm m) (mBy m) (ewMax m) (mRt m) ∈ lw_tbl := List.forall_mem_cons.mpr ⟨mcw_X12_wouldGrade, List.forall_mem_cons.mpr ⟨mcw_X12_bestWell, List.forall_mem_cons.mpr ⟨mcw_X12_reach, List.forall_mem_cons.mpr ⟨mcw_X12_ranked, List.forall_mem_cons.mpr ⟨mcw_X12_isTold, List.forall_mem_cons.mpr ⟨mcw_X12_append, List.forall_mem_cons.mpr ⟨mcw_X12_run, List.forall_mem_cons.mpr ⟨mcw_X12_tellEcho, List.forall_mem_cons.mpr ⟨mcw_X12_character, List.forall_mem_cons.mpr ⟨mcw_X12_account, List.forall_mem_cons.mpr ⟨mcw_X12_undo, List.forall_mem_cons.mpr ⟨mcw_X12_save, List.forall_mem_cons.mpr ⟨mcw_X12_restore, List.forall_mem_cons.mpr ⟨mcw_X12_changed, List.forall_mem_cons.mpr ⟨mcw_X12_areObeyed, List.forall_mem_cons.mpr ⟨mcw_X12_askedWell, List.forall_mem_cons.mpr ⟨mcw_X12_askedRope, List.forall_mem_cons.mpr ⟨mcw_X12_sendWord, List.forall_mem_cons.mpr ⟨mcw_X12_timeOnTheWay, List.forall_mem_cons.mpr ⟨mcw_X12_rankOf, List.forall_mem_cons.mpr ⟨mcw_X12_measureOf, List.forall_mem_cons.mpr ⟨mcw_X12_isLetter, List.forall_mem_cons.mpr ⟨mcw_X12_isVowel, List.forall_mem_cons.mpr ⟨mcw_L_cell, List.forall_mem_cons.mpr ⟨mcw_L_chosen, List.forall_mem_cons.mpr ⟨mcw_L_done, List.forall_mem_cons.mpr ⟨mcw_L_says, List.forall_mem_cons.mpr ⟨mcw_L_mark, List.forall_mem_cons.mpr ⟨mcw_L_acts, List.forall_mem_cons.mpr ⟨mcw_L_shouts, List.forall_mem_cons.mpr ⟨mcw_L_sounds, List.forall_mem_cons.mpr ⟨mcw_L_ropes, List.forall_mem_cons.mpr ⟨mcw_L_fits, fun _ h => absurd h List.not_mem_nil⟩⟩⟩⟩⟩⟩⟩⟩⟩⟩⟩⟩⟩⟩⟩⟩⟩⟩⟩⟩⟩⟩⟩⟩⟩⟩⟩⟩⟩⟩⟩⟩⟩
theorem mcwB_0 : ∀ m ∈ [153, 154, 155, 156, 157, 158, 159, 160, 161, 162, 163, 164, 165, 166, 167, 168, 169, 170, 171, 172, 173, 174, 175, 176, 177, 178, 179, 180, 181, 182, 183, 184], Cond.codeWith (mNm m) (mBy m) (ewMax m) (mRt m) (mHh m) ∈ lw_tbl := List.forall_mem_cons.mpr ⟨mcw_L_dig, List.forall_mem_cons.mpr ⟨mcw_L_deepen, List.forall_mem_cons.mpr ⟨mcw_L_fill, List.forall_mem_cons.mpr ⟨mcw_L_coin, List.forall_mem_cons.mpr ⟨mcw_L_frog, List.forall_mem_cons.mpr ⟨mcw_L_moss, List.forall_mem_cons.mpr ⟨mcw_L_take, List.forall_mem_cons.mpr ⟨mcw_L_rope, List.forall_mem_cons.mpr ⟨mcw_L_bind, List.forall_mem_cons.mpr ⟨mcw_L_fish, List.forall_mem_cons.mpr ⟨mcw_L_letter, List.forall_mem_cons.mpr ⟨mcw_L_shout, List.forall_mem_cons.mpr ⟨mcw_L_wellOf, List.forall_mem_cons.mpr ⟨mcw_L_thingOf, List.forall_mem_cons.mpr ⟨mcw_L_ropeOf, List.forall_mem_cons.mpr ⟨mcw_L_bookOf, List.forall_mem_cons.mpr ⟨mcw_L_time, List.forall_mem_cons.mpr ⟨mcw_L_timeAgain, List.forall_mem_cons.mpr ⟨mcw_L_isLater, List.forall_mem_cons.mpr ⟨mcw_L_echoLength, List.forall_mem_cons.mpr ⟨mcw_L_echoLetter, List.forall_mem_cons.mpr ⟨mcw_L_losses, List.forall_mem_cons.mpr ⟨mcw_L_wouldGrade, List.forall_mem_cons.mpr ⟨mcw_L_bestWell, List.forall_mem_cons.mpr ⟨mcw_L_reach, List.forall_mem_cons.mpr ⟨mcw_L_ranked, List.forall_mem_cons.mpr ⟨mcw_L_append, List.forall_mem_cons.mpr ⟨mcw_L_run, List.forall_mem_cons.mpr ⟨mcw_L_character, List.forall_mem_cons.mpr ⟨mcw_L_account, List.forall_mem_cons.mpr ⟨mcw_L_undo, List.forall_mem_cons.mpr ⟨mcw_L_restore, fun _ h => absurd h List.not_mem_nil⟩⟩⟩⟩⟩⟩⟩⟩⟩⟩⟩⟩⟩⟩⟩⟩⟩⟩⟩⟩⟩⟩⟩⟩⟩⟩⟩⟩⟩⟩⟩⟩
theorem mcwA : ∀ m, m < m_L_dig → Cond.code (mNm m) (mBy m) (ewMax m) (mRt m) ∈ lw_tbl := by
  intro m hm
  have h : m ∈ [0, 1, 2, 3, 4, 5, 6, 7, 8, 9, 10, 11, 12, 13, 14, 15, 16, 17, 18, 19, 20, 21, 22, 23, 24, 25, 26, 27, 28, 29, 30, 31, 32, 33, 34, 35, 36, 37, 38, 39] ∨ m ∈ [40, 41, 42, 43, 44, 45, 46, 47, 48, 49, 50, 51, 52, 53, 54, 55, 56, 57, 58, 59, 60, 61, 62, 63, 64, 65, 66, 67, 68, 69, 70, 71, 72, 73, 74, 75, 76, 77, 78, 79] ∨ m ∈ [80, 81, 82, 83, 84, 85, 86, 87, 88, 89, 90, 91, 92, 93, 94, 95, 96, 97, 98, 99, 100, 101, 102, 103, 104, 105, 106, 107, 108, 109, 110, 111, 112, 113, 114, 115, 116, 117, 118, 119] ∨ m ∈ [120, 121, 122, 123, 124, 125, 126, 127, 128, 129, 130, 131, 132, 133, 134, 135, 136, 137, 138, 139, 140, 141, 142, 143, 144, 145, 146, 147, 148, 149, 150, 151, 152] := by
    have : ∀ m, m < 153 → (m ∈ [0, 1, 2, 3, 4, 5, 6, 7, 8, 9, 10, 11, 12, 13, 14, 15, 16, 17, 18, 19, 20, 21, 22, 23, 24, 25, 26, 27, 28, 29, 30, 31, 32, 33, 34, 35, 36, 37, 38, 39] ∨ m ∈ [40, 41, 42, 43, 44, 45, 46, 47, 48, 49, 50, 51, 52, 53, 54, 55, 56, 57, 58, 59, 60, 61, 62, 63, 64, 65, 66, 67, 68, 69, 70, 71, 72, 73, 74, 75, 76, 77, 78, 79] ∨ m ∈ [80, 81, 82, 83, 84, 85, 86, 87, 88, 89, 90, 91, 92, 93, 94, 95, 96, 97, 98, 99, 100, 101, 102, 103, 104, 105, 106, 107, 108, 109, 110, 111, 112, 113, 114, 115, 116, 117, 118, 119] ∨ m ∈ [120, 121, 122, 123, 124, 125, 126, 127, 128, 129, 130, 131, 132, 133, 134, 135, 136, 137, 138, 139, 140, 141, 142, 143, 144, 145, 146, 147, 148, 149, 150, 151, 152]) := by decide +kernel
    exact this m hm
  rcases h with h | h | h | h
  · exact mcwA_0 m h
  · exact mcwA_1 m h
  · exact mcwA_2 m h
  · exact mcwA_3 m h
theorem mcwB : ∀ m, m_L_dig ≤ m → m < m_L_law → Cond.codeWith (mNm m) (mBy m) (ewMax m) (mRt m) (mHh m) ∈ lw_tbl := by
  intro m h0 hm
  have : ∀ m, m < 185 → 153 ≤ m → m ∈ [153, 154, 155, 156, 157, 158, 159, 160, 161, 162, 163, 164, 165, 166, 167, 168, 169, 170, 171, 172, 173, 174, 175, 176, 177, 178, 179, 180, 181, 182, 183, 184] := by decide +kernel
  exact mcwB_0 m (this m hm h0)
