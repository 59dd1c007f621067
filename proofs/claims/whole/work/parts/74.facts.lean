/-! the methods: names, code, what they answer, their places, their words (by program) -/
def mNmT : List (List (MethodName)) := [[yX1_init, yX1_copy, yX1_numberAt, yX1_enter, yX1_setFirst, yX2_init, yX2_look, yX2_keep, yX2_takeBack, yX2_goBack, yX2_forget, yX2_slotAt, yX3_init, yX3_obey, yX3_refuseOrder, yX3_openWell], [yX3_lowerBottom, yX3_closeWell, yX3_dropThing, yX3_removeThing, yX3_bringRope, yX3_tieRope, yX3_pullCoin, yX3_sendDown, yX3_refuse, yX3_isIn, yX4_init, yX4_size, yX4_at, yX4_put, yX4_putNumber, yX4_clear], [yX4_copy, yX4_isSame, yX4_countOfVowels, yX4_cutLast, yX4_cutFirstVowel, yX4_cutVowels, yX4_turn, yX4_cutAt, yX6_init, yX6_countOrders, yX6_rewind, yX6_readOrder, yX6_readSign, yX6_numberAt, yX6_readName, yX6_sameSigns], [yX6_readPart, yX6_readNumber, yX6_readBottom, yX6_readLetter, yX6_readWord, yX6_note, yX6_isDigit, yX7_init, yX7_set, yX8_init, yX8_open, yX8_copy, yX9_init, yX9_go, yX9_gradeFor, yX9_pass], [yX9_answer, yX9_turnAt, yX10_init, yX10_open, yX10_copy, yX10_hasThing, yX10_kindOf, yX10_depthOf, yX10_valueOf, yX10_isAwake, yX10_add, yX10_remove, yX10_placeOf, yX10_thingAt, yX10_uppermostCoin, yX10_countOf], [yX10_countOfFrogs, yX10_setFrogs, yX10_timeByKinds, yX10_hasThingBelow, yX10_set, yX11_init, yX11_copy, yX11_wellAt, yX11_ropeAt, yX11_addWell, yX11_addRope, yX11_removeWell, yX11_ropesAt, yX11_countOfThings, yX11_countOfSleepers, yX11_wakeFrogs], [yX11_enter, yX11_copyWell, yX11_copyRope, yX12_init, yX12_dig, yX12_deepen, yX12_fill, yX12_coin, yX12_frog, yX12_moss, yX12_take, yX12_wake, yX12_rope, yX12_bind, yX12_fish, yX12_letter], [yX12_shout, yX12_wellOf, yX12_thingOf, yX12_ropeOf, yX12_bookOf, yX12_time, yX12_timeAgain, yX12_isLater, yX12_echoLength, yX12_echoLetter, yX12_losses, yX12_wouldGrade, yX12_bestWell, yX12_isWhole, yX12_vowels, yX12_reach], [yX12_ranked, yX12_isTold, yX12_append, yX12_run, yX12_faultPosition, yX12_reason, yX12_tellWord, yX12_tellEcho, yX12_tellWell, yX12_character, yX12_account, yX12_meanGrade, yX12_lostShare, yX12_undo, yX12_save, yX12_restore], [yX12_changed, yX12_areObeyed, yX12_askedWell, yX12_askedRope, yX12_sendWord, yX12_timeOnTheWay, yX12_rankOf, yX12_measureOf, yX12_tellThing, yX12_isLetter, yX12_isVowel, yX13_init, yX13_thrown, yX13_fails, yX13_isBetween, yX13_isNot], [yX13_throwsNow, yX13_reason, yX13_thinks, yX13_forgets, yX13_keepsMind, yX13_remembers, yX13_of, yX13_sets, yX13_is, yX13_isWell, yX13_isThing, yX13_isRope, yX13_ropeIs, yX13_boundTo, yX13_countThings, yX13_ropesAt], [yX13_placeOf, yX13_thingAt, yX13_notDig, yX13_digs, yX13_dig, yX13_notDeepen, yX13_deepens, yX13_deepen, yX13_notFill, yX13_fills, yX13_fill, yX13_notThing, yX13_comes, yX13_coin, yX13_frog, yX13_moss], [yX13_notTake, yX13_takes, yX13_take, yX13_asleepIn, yX13_asleep, yX13_wakes, yX13_wake, yX13_notRope, yX13_ropeComes, yX13_rope, yX13_notBind, yX13_binds, yX13_bind, yX13_reached, yX13_notFish, yX13_fishes], [yX13_fish, yX13_isLetter, yX13_isVowel, yX13_letter, yX13_saysWord, yX13_losesAt, yX13_losesVowel, yX13_passes, yX13_turns, yX13_sounds, yX13_timeOf, yX13_gradeOf, yX13_notShout, yX13_writesPage, yX13_shouts, yX13_shout], [yX13_wellOf, yX13_thingOf, yX13_ropeOf, yX13_bookOf, yX13_time, yX13_timeAgain, yX13_isLater, yX13_hasEcho, yX13_echoLength, yX13_echoLetter, yX13_losses, yX13_wouldGrade, yX13_gradeNow, yX13_isBetter, yX13_bestWell, yX13_isWhole], [yX13_vowels, yX13_reach, yX13_rank, yX13_ranked, yX13_isTold, yX13_writes, yX13_writesNumber, yX13_tellWord, yX13_tellEcho, yX13_writesThing, yX13_tellWell, yX13_character, yX13_thingsAll, yX13_account, yX13_meanGrade, yX13_lostShare], [yX13_append, yX13_faultPosition, yX13_nextSign, yX13_reads, yX13_readsDigit, yX13_readsNumber, yX13_readsRest, yX13_readsBottom, yX13_readsD, yX13_readsLetter, yX13_readsPlace, yX13_readsF, yX13_readsShout, yX13_readsTwo, yX13_readsOrder, yX13_readsAll], [yX13_notNow, yX13_doesNow, yX13_doesAll, yX13_keepsBehind, yX13_run, yX13_undo, yX13_save, yX13_restore, yL_dig, yL_deepen, yL_fill, yL_coin, yL_frog, yL_moss, yL_take, yL_rope], [yL_bind, yL_fish, yL_letter, yL_shout, yL_wellOf, yL_thingOf, yL_ropeOf, yL_bookOf, yL_time, yL_timeAgain, yL_isLater, yL_echoLength, yL_echoLetter, yL_losses, yL_wouldGrade, yL_bestWell], [yL_isWhole, yL_reach, yL_ranked, yL_append, yL_run, yL_reason, yL_tellWell, yL_character, yL_account, yL_meanGrade, yL_lostShare, yL_undo, yL_restore, x]]
def mByT : List (List (ByteArray)) := [[cX1_init, cX1_copy, cX1_numberAt, cX1_enter, cX1_setFirst, cX2_init, cX2_look, cX2_keep, cX2_takeBack, cX2_goBack, cX2_forget, cX2_slotAt, cX3_init, cX3_obey, cX3_refuseOrder, cX3_openWell], [cX3_lowerBottom, cX3_closeWell, cX3_dropThing, cX3_removeThing, cX3_bringRope, cX3_tieRope, cX3_pullCoin, cX3_sendDown, cX3_refuse, cX3_isIn, cX4_init, cX4_size, cX4_at, cX4_put, cX4_putNumber, cX4_clear], [cX4_copy, cX4_isSame, cX4_countOfVowels, cX4_cutLast, cX4_cutFirstVowel, cX4_cutVowels, cX4_turn, cX4_cutAt, cX6_init, cX6_countOrders, cX6_rewind, cX6_readOrder, cX6_readSign, cX6_numberAt, cX6_readName, cX6_sameSigns], [cX6_readPart, cX6_readNumber, cX6_readBottom, cX6_readLetter, cX6_readWord, cX6_note, cX6_isDigit, cX7_init, cX7_set, cX8_init, cX8_open, cX8_copy, cX9_init, cX9_go, cX9_gradeFor, cX9_pass], [cX9_answer, cX9_turnAt, cX10_init, cX10_open, cX10_copy, cX10_hasThing, cX10_kindOf, cX10_depthOf, cX10_valueOf, cX10_isAwake, cX10_add, cX10_remove, cX10_placeOf, cX10_thingAt, cX10_uppermostCoin, cX10_countOf], [cX10_countOfFrogs, cX10_setFrogs, cX10_timeByKinds, cX10_hasThingBelow, cX10_set, cX11_init, cX11_copy, cX11_wellAt, cX11_ropeAt, cX11_addWell, cX11_addRope, cX11_removeWell, cX11_ropesAt, cX11_countOfThings, cX11_countOfSleepers, cX11_wakeFrogs], [cX11_enter, cX11_copyWell, cX11_copyRope, cX12_init, cX12_dig, cX12_deepen, cX12_fill, cX12_coin, cX12_frog, cX12_moss, cX12_take, cX12_wake, cX12_rope, cX12_bind, cX12_fish, cX12_letter], [cX12_shout, cX12_wellOf, cX12_thingOf, cX12_ropeOf, cX12_bookOf, cX12_time, cX12_timeAgain, cX12_isLater, cX12_echoLength, cX12_echoLetter, cX12_losses, cX12_wouldGrade, cX12_bestWell, cX12_isWhole, cX12_vowels, cX12_reach], [cX12_ranked, cX12_isTold, cX12_append, cX12_run, cX12_faultPosition, cX12_reason, cX12_tellWord, cX12_tellEcho, cX12_tellWell, cX12_character, cX12_account, cX12_meanGrade, cX12_lostShare, cX12_undo, cX12_save, cX12_restore], [cX12_changed, cX12_areObeyed, cX12_askedWell, cX12_askedRope, cX12_sendWord, cX12_timeOnTheWay, cX12_rankOf, cX12_measureOf, cX12_tellThing, cX12_isLetter, cX12_isVowel, cX13_init, cX13_thrown, cX13_fails, cX13_isBetween, cX13_isNot], [cX13_throwsNow, cX13_reason, cX13_thinks, cX13_forgets, cX13_keepsMind, cX13_remembers, cX13_of, cX13_sets, cX13_is, cX13_isWell, cX13_isThing, cX13_isRope, cX13_ropeIs, cX13_boundTo, cX13_countThings, cX13_ropesAt], [cX13_placeOf, cX13_thingAt, cX13_notDig, cX13_digs, cX13_dig, cX13_notDeepen, cX13_deepens, cX13_deepen, cX13_notFill, cX13_fills, cX13_fill, cX13_notThing, cX13_comes, cX13_coin, cX13_frog, cX13_moss], [cX13_notTake, cX13_takes, cX13_take, cX13_asleepIn, cX13_asleep, cX13_wakes, cX13_wake, cX13_notRope, cX13_ropeComes, cX13_rope, cX13_notBind, cX13_binds, cX13_bind, cX13_reached, cX13_notFish, cX13_fishes], [cX13_fish, cX13_isLetter, cX13_isVowel, cX13_letter, cX13_saysWord, cX13_losesAt, cX13_losesVowel, cX13_passes, cX13_turns, cX13_sounds, cX13_timeOf, cX13_gradeOf, cX13_notShout, cX13_writesPage, cX13_shouts, cX13_shout], [cX13_wellOf, cX13_thingOf, cX13_ropeOf, cX13_bookOf, cX13_time, cX13_timeAgain, cX13_isLater, cX13_hasEcho, cX13_echoLength, cX13_echoLetter, cX13_losses, cX13_wouldGrade, cX13_gradeNow, cX13_isBetter, cX13_bestWell, cX13_isWhole], [cX13_vowels, cX13_reach, cX13_rank, cX13_ranked, cX13_isTold, cX13_writes, cX13_writesNumber, cX13_tellWord, cX13_tellEcho, cX13_writesThing, cX13_tellWell, cX13_character, cX13_thingsAll, cX13_account, cX13_meanGrade, cX13_lostShare], [cX13_append, cX13_faultPosition, cX13_nextSign, cX13_reads, cX13_readsDigit, cX13_readsNumber, cX13_readsRest, cX13_readsBottom, cX13_readsD, cX13_readsLetter, cX13_readsPlace, cX13_readsF, cX13_readsShout, cX13_readsTwo, cX13_readsOrder, cX13_readsAll], [cX13_notNow, cX13_doesNow, cX13_doesAll, cX13_keepsBehind, cX13_run, cX13_undo, cX13_save, cX13_restore, cL_dig, cL_deepen, cL_fill, cL_coin, cL_frog, cL_moss, cL_take, cL_rope], [cL_bind, cL_fish, cL_letter, cL_shout, cL_wellOf, cL_thingOf, cL_ropeOf, cL_bookOf, cL_time, cL_timeAgain, cL_isLater, cL_echoLength, cL_echoLetter, cL_losses, cL_wouldGrade, cL_bestWell], [cL_isWhole, cL_reach, cL_ranked, cL_append, cL_run, cL_reason, cL_tellWell, cL_character, cL_account, cL_meanGrade, cL_lostShare, cL_undo, cL_restore, code]]
def mRtT : List (List (Option FieldType)) := [[none, none, (some .int), none, none, none, none, none, none, none, none, (some (.object "EchoWells$World")), none, (some .int), none, (some .int)], [(some .int), (some .int), (some .int), (some .int), (some .int), (some .int), (some .int), (some .int), (some .int), (some .boolean), none, (some .int), (some .char), none, none, none], [none, (some .boolean), (some .int), none, none, none, none, none, none, (some .int), none, (some .boolean), (some .boolean), (some .int), (some (.object "EchoWells$Order")), (some .int)], [(some .boolean), (some .boolean), (some .boolean), (some .boolean), (some .boolean), none, (some .boolean), none, none, none, none, none, none, none, (some .int), none], [none, none, none, none, none, (some .boolean), (some .int), (some .int), (some .int), (some .boolean), (some .int), none, (some .int), (some .int), (some .int), (some .int)], [(some .int), none, (some .int), (some .boolean), none, none, none, (some (.object "EchoWells$Well")), (some (.object "EchoWells$Rope")), (some .int), (some .int), none, (some .int), (some .int), (some .int), (some .int)], [none, none, none, none, (some .int), (some .int), (some .int), (some .int), (some .int), (some .int), (some .int), (some .int), (some .int), (some .int), (some .int), (some .int)], [(some .int), (some .int), (some .int), (some .int), (some .int), (some .int), (some .int), (some .boolean), (some .int), (some .char), (some .int), (some .int), (some .int), (some .boolean), (some .int), (some .int)], [(some .int), (some .boolean), (some .int), (some .int), (some .int), (some .int), (some .int), (some .int), (some .int), (some .char), (some .int), (some .double), (some .float), (some .int), (some .int), (some .int)], [(some .int), (some .boolean), (some (.object "EchoWells$Well")), (some (.object "EchoWells$Rope")), none, (some .int), (some .int), (some .int), none, (some .boolean), (some .boolean), none, (some .int), (some .int), (some .boolean), (some .int)], [(some .int), (some .int), none, none, none, none, (some .int), none, (some .int), (some .boolean), (some .boolean), (some .boolean), (some .int), (some .int), (some .int), (some .int)], [(some .int), (some .int), (some .int), (some .int), (some .int), (some .int), (some .int), (some .int), (some .int), (some .int), (some .int), (some .int), (some .int), (some .int), (some .int), (some .int)], [(some .int), (some .int), (some .int), (some .int), (some .int), (some .int), (some .int), (some .int), (some .int), (some .int), (some .int), (some .int), (some .int), (some .int), (some .int), (some .int)], [(some .int), (some .boolean), (some .boolean), (some .int), none, none, none, none, none, none, (some .int), (some .int), (some .int), none, (some .int), (some .int)], [(some .int), (some .int), (some .int), (some .int), (some .int), (some .int), (some .boolean), (some .boolean), (some .int), (some .char), (some .int), (some .int), (some .int), (some .boolean), (some .int), (some .boolean)], [(some .int), (some .int), (some .int), (some .int), (some .boolean), none, none, (some .int), (some .int), none, (some .int), (some .char), (some .int), (some .int), (some .double), (some .float)], [(some .int), (some .int), (some .int), (some .boolean), (some .boolean), (some .boolean), (some .boolean), (some .boolean), (some .boolean), (some .boolean), (some .boolean), (some .boolean), (some .boolean), (some .boolean), (some .boolean), (some .boolean)], [(some .int), (some .int), (some .boolean), none, (some .int), (some .int), (some .int), (some .int), (some .int), (some .int), (some .int), (some .int), (some .int), (some .int), (some .int), (some .int)], [(some .int), (some .int), (some .int), (some .int), (some .int), (some .int), (some .int), (some .int), (some .int), (some .int), (some .int), (some .int), (some .int), (some .int), (some .int), (some .int)], [(some .int), (some .int), (some .int), (some .int), (some .int), (some .int), (some .int), (some .int), (some .int), (some .int), (some .int), (some .int), (some .int), (some .boolean)]]
def mHhT : List (List (List (Nat × Nat × Nat × Nat))) := [[[], [], [], [], [], [], [], [], [], [], [], [], [], [], [], []], [[], [], [], [], [], [], [], [], [], [], [], [], [], [], [], []], [[], [], [], [], [], [], [], [], [], [], [], [], [], [], [], []], [[], [], [], [], [], [], [], [], [], [], [], [], [], [], [], []], [[], [], [], [], [], [], [], [], [], [], [], [], [], [], [], []], [[], [], [], [], [], [], [], [], [], [], [], [], [], [], [], []], [[], [], [], [], [], [], [], [], [], [], [], [], [], [], [], []], [[], [], [], [], [], [], [], [], [], [], [], [], [], [], [], []], [[], [], [], [], [], [], [], [], [], [], [], [], [], [], [], []], [[], [], [], [], [], [], [], [], [], [], [], [], [], [], [], []], [[], [], [], [], [], [], [], [], [], [], [], [], [], [], [], []], [[], [], [], [], [], [], [], [], [], [], [], [], [], [], [], []], [[], [], [], [], [], [], [], [], [], [], [], [], [], [], [], []], [[], [], [], [], [], [], [], [], [], [], [], [], [], [], [], []], [[], [], [], [], [], [], [], [], [], [], [], [], [], [], [], []], [[], [], [], [], [], [], [], [], [], [], [], [], [], [], [], []], [[], [], [], [], [], [], [], [], [], [], [], [], [], [], [], []], [[], [], [], [], [], [], [], [], [(0, 10, 13, 13)], [(0, 10, 13, 13)], [(0, 9, 12, 13)], [(0, 12, 15, 13)], [(0, 12, 15, 13)], [(0, 12, 15, 13)], [(0, 10, 13, 13)], [(0, 9, 12, 13)]], [[(0, 10, 13, 13)], [(0, 9, 12, 13)], [(0, 9, 12, 49), (0, 9, 15, 51)], [(0, 9, 12, 13)], [(0, 10, 13, 59), (0, 10, 17, 49)], [(0, 12, 15, 59), (0, 12, 19, 49)], [(0, 10, 13, 59), (0, 10, 17, 49)], [(0, 10, 13, 70), (0, 10, 17, 49)], [(0, 9, 12, 59)], [(0, 9, 12, 59)], [(0, 17, 20, 59)], [(0, 9, 12, 59), (0, 9, 15, 70)], [(0, 10, 13, 59), (0, 10, 17, 70)], [(0, 9, 12, 59), (0, 9, 15, 70)], [(0, 9, 12, 59), (0, 9, 15, 70)], [(0, 8, 11, 70)]], [[(0, 16, 19, 59), (0, 16, 22, 70)], [(0, 9, 12, 59), (0, 9, 15, 70)], [(0, 10, 13, 49), (0, 10, 17, 70)], [(0, 9, 12, 49), (0, 9, 15, 51)], [(0, 8, 11, 49), (0, 8, 14, 13)], [(0, 10, 13, 49), (0, 10, 17, 70)], [(0, 9, 12, 59)], [(0, 9, 12, 59)], [(0, 9, 12, 49)], [(0, 7, 10, 133)], [(0, 8, 11, 133)], [(0, 8, 11, 51)], [(0, 8, 11, 51)], []]]
def mLvT : List (List (Nat)) := [[2, 2, 0, 2, 0, 4, 4, 1, 4, 5, 0, 0, 3, 5, 1, 2], [2, 4, 2, 2, 2, 2, 2, 4, 1, 0, 1, 0, 0, 0, 1, 0], [1, 1, 1, 0, 1, 1, 0, 0, 2, 7, 0, 6, 1, 0, 5, 4], [2, 1, 1, 1, 1, 0, 0, 1, 0, 1, 0, 0, 2, 3, 1, 2], [1, 2, 1, 0, 1, 0, 0, 0, 0, 0, 1, 1, 1, 2, 1, 1], [1, 1, 2, 1, 0, 3, 3, 0, 0, 1, 1, 3, 1, 1, 2, 3], [3, 2, 1, 5, 10, 10, 10, 10, 10, 10, 10, 10, 10, 10, 10, 9], [10, 10, 10, 10, 9, 10, 10, 10, 11, 11, 11, 11, 11, 11, 2, 10], [9, 5, 9, 9, 0, 9, 2, 2, 10, 9, 9, 9, 9, 9, 4, 9], [9, 7, 9, 9, 10, 4, 4, 3, 2, 0, 0, 1, 0, 0, 0, 0], [1, 1, 0, 0, 0, 1, 0, 0, 0, 1, 1, 1, 0, 1, 1, 2], [1, 2, 1, 1, 2, 2, 1, 3, 2, 2, 3, 2, 1, 3, 3, 3], [2, 1, 3, 2, 3, 4, 5, 1, 0, 2, 2, 3, 4, 3, 4, 4], [5, 1, 0, 2, 0, 0, 1, 2, 1, 3, 2, 3, 2, 3, 4, 5], [3, 2, 2, 1, 3, 4, 3, 4, 5, 5, 5, 5, 4, 5, 6, 5], [1, 4, 3, 4, 1, 0, 1, 1, 1, 2, 3, 1, 1, 4, 1, 1], [1, 0, 0, 1, 1, 2, 2, 2, 3, 2, 3, 4, 2, 2, 5, 6], [5, 5, 6, 0, 7, 1, 0, 1, 11, 11, 11, 11, 11, 11, 11, 11], [11, 11, 10, 11, 11, 11, 11, 10, 11, 11, 11, 12, 12, 12, 12, 12], [12, 11, 10, 10, 10, 10, 11, 10, 10, 10, 10, 10, 10, 13]]
def mKdT : List (List (Nat)) := [[1, 1, 1, 1, 1, 2, 2, 2, 2, 2, 2, 2, 3, 3, 3, 3], [3, 3, 3, 3, 3, 3, 3, 3, 3, 0, 4, 4, 4, 4, 4, 4], [4, 4, 4, 4, 4, 4, 4, 4, 6, 6, 6, 6, 6, 6, 6, 6], [6, 6, 6, 6, 6, 6, 0, 7, 7, 8, 8, 8, 9, 9, 9, 9], [9, 9, 10, 10, 10, 10, 10, 10, 10, 10, 10, 10, 10, 10, 10, 10], [10, 10, 10, 10, 10, 11, 11, 11, 11, 11, 11, 11, 11, 11, 11, 11], [11, 11, 11, 12, 12, 12, 12, 12, 12, 12, 12, 12, 12, 12, 12, 12], [12, 12, 12, 12, 12, 12, 12, 12, 12, 12, 12, 12, 12, 12, 12, 12], [12, 12, 12, 12, 12, 12, 12, 12, 12, 12, 12, 12, 12, 12, 12, 12], [12, 12, 12, 12, 12, 12, 12, 12, 12, 0, 0, 13, 13, 13, 0, 13], [13, 13, 13, 13, 13, 13, 13, 13, 13, 13, 13, 13, 13, 13, 13, 13], [13, 13, 13, 13, 13, 13, 13, 13, 13, 13, 13, 13, 13, 13, 13, 13], [13, 13, 13, 13, 13, 13, 13, 13, 13, 13, 13, 13, 13, 13, 13, 13], [13, 0, 0, 13, 13, 13, 13, 13, 13, 13, 13, 13, 13, 13, 13, 13], [13, 13, 13, 13, 13, 13, 13, 13, 13, 13, 13, 13, 13, 13, 13, 13], [13, 13, 13, 13, 13, 13, 13, 13, 13, 13, 13, 13, 13, 13, 13, 13], [13, 13, 13, 13, 13, 13, 13, 13, 13, 13, 13, 13, 13, 13, 13, 13], [13, 13, 13, 13, 13, 13, 13, 13, 0, 0, 0, 0, 0, 0, 0, 0], [0, 0, 0, 0, 0, 0, 0, 0, 0, 0, 0, 0, 0, 0, 0, 0], [0, 0, 0, 0, 0, 0, 0, 0, 0, 0, 0, 0, 0, 0]]
def mArT : List (List (List Nat)) := [[[1], [1, 1], [1, 0, 0], [1, 0, 1, 1, 0], [1, 0, 0], [1], [1, 1], [1], [1, 1], [1, 1], [1], [1, 0], [1], [1, 1, 1, 0, 0, 0, 1], [1, 0], [1, 1, 0, 0]], [[1, 1, 0, 0], [1, 1, 0], [1, 1, 0, 0, 0, 0], [1, 1, 0, 0], [1, 1, 0], [1, 1, 0, 0], [1, 1, 0], [1, 1, 0, 1], [1, 0, 0], [0, 0, 0], [1], [1], [1, 0], [1, 0], [1, 0], [1]], [[1, 1], [1, 1], [1], [1], [1], [1], [1], [1, 0], [1], [1, 1], [1], [1], [1, 0], [1, 0], [1], [1, 1]], [[1, 0], [1, 0], [1], [1], [1], [1, 0], [0], [1], [1, 0, 0], [1], [1, 0], [1, 1], [1], [1, 1, 1], [1, 1], [1, 1, 0, 0]], [[1, 0], [1, 0], [1], [1, 0, 0], [1, 1], [1, 0], [1, 0], [1, 0], [1, 0], [1, 0], [1, 0, 0, 0], [1, 0], [1, 0], [1, 0], [1, 0], [1, 0]], [[1, 0], [1, 0], [1], [1], [1, 0, 0, 0, 0, 0], [1], [1, 1], [1, 0], [1, 0], [1, 0, 0], [1, 0], [1, 0], [1, 0], [1], [1], [1]], [[1, 0, 1, 1, 0], [1, 0, 1], [1, 0, 1], [1], [1, 0, 0], [1, 0, 0], [1, 0], [1, 0, 0, 0], [1, 0, 0, 0], [1, 0, 0, 0], [1, 0, 0], [1], [1, 0], [1, 0, 0], [1, 0], [1, 0]], [[1, 0], [1, 0, 0], [1, 0, 0, 0], [1, 0, 0], [1, 0, 0], [1, 0], [1, 0], [1, 0, 0], [1, 0], [1, 0, 0], [1, 0], [1, 0], [1], [1, 0], [1], [1, 0]], [[1, 0, 0], [1], [1, 0], [1], [1], [1, 0, 0], [1], [1], [1, 0], [1, 0], [1, 0], [1], [1], [1], [1], [1]], [[1, 1, 0, 0, 0], [1, 0], [1, 0], [1, 0], [1, 0], [1, 1], [1, 0, 0], [1, 0, 0], [1, 1, 0], [0], [0], [1], [1], [1, 0], [0, 0, 0], [1, 0, 0]], [[1], [1, 0, 0], [1], [1], [1], [1], [1, 0, 0], [1, 0, 0, 0], [1, 0, 0, 0], [1, 0], [1, 0, 0], [1, 0], [1, 0, 0], [1, 0], [1, 0, 0, 0], [1, 0]], [[1, 0, 0], [1, 0, 0], [1, 0, 0], [1, 0, 0], [1, 0, 0], [1, 0, 0], [1, 0, 0], [1, 0, 0], [1, 0], [1, 0], [1, 0], [1, 0, 0, 0, 0, 0], [1, 0, 0, 0, 0], [1, 0, 0, 0], [1, 0, 0, 0], [1, 0, 0, 0]], [[1, 0, 0], [1, 0, 0], [1, 0, 0], [1, 0], [1], [1], [1], [1, 0], [1, 0], [1, 0], [1, 0, 0], [1, 0, 0], [1, 0, 0], [1, 0], [1, 0], [1, 0]], [[1, 0], [0], [0], [1, 0], [1], [1, 0], [1], [1, 0, 0, 0], [1, 0], [1, 0], [1, 0], [1, 0], [1, 0, 0], [1, 0, 0], [1, 0], [1, 0]], [[1, 0, 0], [1, 0, 0, 0], [1, 0, 0], [1, 0, 0], [1, 0], [1, 0], [1, 0, 0], [1, 0], [1, 0], [1, 0, 0], [1, 0], [1, 0], [1, 0], [1, 0, 0], [1], [1, 0]], [[1], [1, 0], [1, 0, 0], [1, 0, 0], [1], [1, 0], [1, 0], [1], [1], [1, 0, 0], [1, 0], [1, 0], [1], [1, 0], [1], [1]], [[1, 0], [1], [1], [1, 0], [1, 0], [1, 0], [1, 0, 0, 0], [1], [1], [1], [1], [1], [1], [1], [1], [1]], [[1], [1], [1], [1], [1], [1], [1], [1], [1, 0, 0, 1], [1, 0, 0, 1], [1, 0, 1], [1, 0, 0, 0, 1], [1, 0, 0, 0, 1], [1, 0, 0, 0, 1], [1, 0, 0, 1], [1, 0, 1]], [[1, 0, 0, 1], [1, 0, 1], [1, 0, 1], [1, 0, 1], [1, 0, 0, 1], [1, 0, 0, 0, 1], [1, 0, 0, 1], [1, 0, 0, 1], [1, 0, 1], [1, 0, 1], [1, 0, 0, 1], [1, 0, 1], [1, 0, 0, 1], [1, 0, 1], [1, 0, 1], [1, 1]], [[1, 0, 1], [1, 0, 1], [1, 0, 0, 1], [1, 0, 1], [1, 1], [1, 0, 0, 1], [1, 0, 1], [1, 0, 1], [1, 0, 1], [1, 1], [1, 1], [1, 1], [1, 1], [1]]]
def pc_X1_init : List (List Nat) := [[0, 1, 4, 5, 7, 9, 12, 13, 16, 17, 20, 23]]
def pc_X1_copy : List (List Nat) := [[0, 1, 2, 5, 8, 9, 12, 13, 16, 19, 20, 21, 22, 23, 26, 27], [30, 31, 32, 35, 36, 39, 40, 43, 44, 45, 48, 49, 50, 51, 54, 57]]
def pc_X1_numberAt : List (List Nat) := [[0, 1, 2, 3, 4, 5, 6, 7, 10, 11, 12, 15, 16, 19, 20, 23], [24, 25, 28, 29]]
def pc_X1_enter : List (List Nat) := [[0, 1, 4, 5, 6, 7, 9, 11, 12, 15, 16, 19, 21, 22, 25, 27], [28, 29, 30, 31, 34, 37, 38, 39, 40, 43, 44, 45, 46, 49, 52, 53], [54, 55, 58, 61, 64, 65, 66, 67, 70, 73, 74, 75, 77, 80, 81, 84], [85, 88, 91, 92, 95, 97, 100, 101, 102, 105, 106, 107, 110]]
def pc_X1_setFirst : List (List Nat) := [[0, 1, 4, 5, 6, 9, 10, 13, 14, 17, 18, 19, 20]]
def pc_X2_init : List (List Nat) := [[0, 1, 4, 5, 7, 10, 13, 14, 15, 16, 17, 20, 21, 24, 25, 28], [29, 32, 33, 36, 37, 40, 43]]
def pc_X2_look : List (List Nat) := [[0, 1, 2, 5, 8, 9, 10, 13, 14, 15, 18]]
def pc_X2_keep : List (List Nat) := [[0, 1, 2, 5, 7, 10, 11, 14, 15, 16, 19, 20, 23, 24, 25, 28], [29, 30, 32, 35, 38]]
def pc_X2_takeBack : List (List Nat) := [[0, 1, 2, 5, 8, 9, 10, 13, 14, 15, 18]]
def pc_X2_goBack : List (List Nat) := [[0, 1, 2, 5, 8, 9, 12, 13, 14, 17, 19, 22, 23, 24, 27, 28], [29, 32, 33, 34, 37]]
def pc_X2_forget : List (List Nat) := [[0, 1, 2, 5]]
def pc_X2_slotAt : List (List Nat) := [[0, 1, 4, 5, 6, 9, 10, 13, 14, 17, 18, 19, 22, 23]]
def pc_X3_init : List (List Nat) := [[0, 1, 4, 5, 8, 9, 12, 15, 16, 19, 20, 23, 26, 27, 30, 31], [34, 37]]
def pc_X3_obey : List (List Nat) := [[0, 1, 4, 5, 6, 9, 10, 13, 14, 72, 73, 74, 75, 77, 80, 81], [82, 83, 84, 86, 89, 90, 91, 92, 93, 96, 97, 98, 99, 100, 101, 103], [105, 108, 109, 110, 111, 112, 113, 115, 117, 120, 121, 122, 123, 124, 125, 127], [129, 132, 133, 134, 135, 136, 138, 141, 142, 143, 146, 147, 148, 149, 150, 153], [154, 155, 156, 157, 159, 162, 163, 164, 165, 166, 169, 170, 171, 172, 173, 175], [178]]
def pc_X3_refuseOrder : List (List Nat) := [[0, 1, 4, 5, 8, 11, 12, 15, 18, 21, 22, 25, 27, 28, 31]]
def pc_X3_openWell : List (List Nat) := [[0, 1, 2, 4, 7, 10, 11, 12, 13, 16, 17, 18, 19, 20, 23, 26], [27, 28, 29, 32, 33, 34, 37, 39, 42, 43, 44, 46, 49, 50, 51, 52], [53, 56]]
def pc_X3_lowerBottom : List (List Nat) := [[0, 1, 2, 5, 7, 9, 12, 13, 14, 15, 18, 19, 20, 21, 23, 26], [29, 30, 31, 32, 35, 36, 38, 41, 42, 43, 45, 48, 49, 50, 52, 54], [57, 58, 61, 62, 64, 65, 68, 69, 70, 73, 75, 78]]
def pc_X3_closeWell : List (List Nat) := [[0, 1, 2, 5, 8, 9, 10, 11, 14, 15, 16, 17, 20, 21, 24]]
def pc_X3_dropThing : List (List Nat) := [[0, 1, 2, 5, 7, 9, 12, 13, 14, 15, 18, 19, 21, 22, 24, 27], [30, 31, 32, 34, 37, 38, 39, 40, 43, 45, 48, 51, 54, 56, 57, 59], [62, 65, 66, 67, 69, 72, 73, 75, 77, 80, 83, 84, 85, 87, 90, 93], [94, 96, 99, 100, 103, 104, 105, 106, 109, 110, 112, 113, 115, 117, 120]]
def pc_X3_removeThing : List (List Nat) := [[0, 1, 2, 5, 7, 9, 12, 13, 14, 15, 18, 19, 21, 22, 25, 28], [29, 30, 31, 34, 35, 37, 38, 41, 43, 46]]
def pc_X3_bringRope : List (List Nat) := [[0, 1, 2, 4, 7, 10, 11, 12, 13, 16, 17, 18, 21, 22, 25, 26], [27, 28, 31, 32, 33, 34, 37]]
def pc_X3_tieRope : List (List Nat) := [[0, 1, 2, 5, 7, 9, 12, 13, 14, 15, 18, 19, 20, 21, 24, 27], [28, 29, 30, 33, 34, 36, 39, 40, 43, 44, 46, 47, 50, 51, 53, 54], [57, 58, 59, 62]]
def pc_X3_pullCoin : List (List Nat) := [[0, 1, 2, 5, 6, 7, 10, 11, 12, 13, 16, 17, 18, 19, 22, 25], [27, 29, 32, 33, 35, 36, 39, 42, 43, 45, 46, 49, 52, 54, 56, 57], [60, 61, 63, 65, 66, 69, 72, 73, 75, 77, 80, 82, 84, 86, 89, 90], [91, 94, 95, 96, 99, 100, 101, 104, 106, 107, 110, 112]]
def pc_X3_sendDown : List (List Nat) := [[0, 1, 2, 5, 7, 9, 12, 13, 14, 15, 18, 19, 20, 23, 26, 27], [29, 30, 33, 36, 37, 38, 41, 43, 44, 47, 48, 51, 52, 55, 57, 59], [60, 63, 65, 66, 69, 70, 71, 74, 76, 77, 80, 82, 83, 86, 87, 88], [89, 90, 93, 95, 98, 100]]
def pc_X3_refuse : List (List Nat) := [[0, 1, 4, 5, 6, 9, 10, 13, 14, 15, 18, 19]]
def pc_X3_isIn : List (List Nat) := [[0, 1, 2, 5, 6, 7, 10, 11, 14, 15]]
def pc_X4_init : List (List Nat) := [[0, 1, 4, 5, 7, 9, 12]]
def pc_X4_size : List (List Nat) := [[0, 1, 4]]
def pc_X4_at : List (List Nat) := [[0, 1, 4, 5, 6, 9, 12, 13, 14, 17, 18, 21, 22, 25, 26, 27], [30, 31]]
def pc_X4_put : List (List Nat) := [[0, 1, 4, 7, 8, 11, 12, 15, 16, 19, 20, 23, 24, 27, 28, 29], [30, 31, 34, 35, 36, 39]]
def pc_X4_putNumber : List (List Nat) := [[0, 1, 3, 6, 7, 9, 10, 12, 13, 15, 16, 17, 18, 21, 22, 24], [25, 27, 28, 29, 30, 33]]
def pc_X4_clear : List (List Nat) := [[0, 1, 2, 5]]
def pc_X4_copy : List (List Nat) := [[0, 1, 4, 5, 6, 7, 8, 11, 14, 15, 16, 17, 20, 23, 26, 29]]
def pc_X4_isSame : List (List Nat) := [[0, 1, 4, 5, 8, 11, 12, 13, 14, 15, 16, 17, 20, 23, 24, 25], [28, 29, 30, 33, 36, 37, 38, 41, 44, 45]]
def pc_X4_countOfVowels : List (List Nat) := [[0, 1, 2, 3, 4, 5, 6, 9, 12, 13, 14, 17, 20, 23, 26, 29], [32, 33]]
def pc_X4_cutLast : List (List Nat) := [[0, 1, 4, 7, 8, 9, 12, 13, 14, 17]]
def pc_X4_cutFirstVowel : List (List Nat) := [[0, 1, 2, 3, 4, 7, 10, 11, 12, 15, 18, 21, 24, 27, 28, 29], [32]]
def pc_X4_cutVowels : List (List Nat) := [[0, 1, 4, 5, 6, 9, 10, 11, 12, 13, 16, 17, 18, 21, 22, 25], [26, 29, 30, 31, 34, 37, 38, 39, 42, 43, 44, 47, 50, 53]]
def pc_X4_turn : List (List Nat) := [[0, 1, 2, 3, 6, 7, 8, 9, 10, 13, 14, 15, 18, 19, 20, 23], [24, 27, 28, 31, 32, 33, 34, 35, 38, 39, 40, 43, 44, 45, 46, 47], [50, 51, 52, 53, 56, 59, 62]]
def pc_X4_cutAt : List (List Nat) := [[0, 1, 4, 5, 6, 9, 12, 13, 14, 15, 16, 17, 18, 19, 22, 25], [26, 27, 30, 31, 34, 35, 38, 39, 40, 41, 42, 45, 46, 47, 48, 51], [54, 55, 56, 59, 60, 61, 64]]
def pc_X6_init : List (List Nat) := [[0, 1, 4, 5, 8, 9, 12, 15, 16, 19, 20, 23, 26, 27, 28, 30], [33]]
def pc_X6_countOrders : List (List Nat) := [[0, 1, 4, 5, 8, 9, 12, 13, 14, 15, 17, 20, 21, 24, 27, 28], [29, 30, 33, 34, 37, 40, 43, 44, 45, 46, 48, 51, 54, 55, 56, 59], [62, 63]]
def pc_X6_rewind : List (List Nat) := [[0, 1, 2, 5]]
def pc_X6_readOrder : List (List Nat) := [[0, 1, 2, 5, 6, 9, 12, 13, 14, 17, 20, 21, 24, 27, 28, 29], [30, 33, 36, 37, 38, 39, 40, 41, 44, 47, 48, 49, 50, 53, 56, 59], [60, 61, 64, 67, 68]]
def pc_X6_readSign : List (List Nat) := [[0, 1, 4, 5, 8, 11, 12, 15, 16, 17, 18, 19, 22, 23, 24, 27], [28]]
def pc_X6_numberAt : List (List Nat) := [[0, 1, 4, 5, 6, 9, 12, 13, 14, 17, 18, 21, 22, 25, 26, 27], [30, 31]]
def pc_X6_readName : List (List Nat) := [[0, 1, 2, 5, 6, 7, 8, 9, 10, 12, 14, 15, 18, 19, 21, 22], [24, 25, 27, 30, 33, 35, 37, 39, 42, 45, 48, 49, 50, 53, 55, 56], [59, 61, 62, 63, 65, 68, 69, 72, 75, 76, 77, 80, 81, 82, 85, 86]]
def pc_X6_sameSigns : List (List Nat) := [[0, 1, 2, 3, 4, 7, 10, 11, 14, 15, 18, 19, 20, 23, 24, 25], [28, 31, 32, 33, 36, 39, 40, 43]]
def pc_X6_readPart : List (List Nat) := [[0, 1, 52, 53, 54, 57, 58, 59, 60, 63, 64, 65, 68, 69, 70, 73], [74, 75, 78, 79, 80, 81, 84]]
def pc_X6_readNumber : List (List Nat) := [[0, 1, 2, 3, 4, 5, 6, 9, 10, 13, 14, 17, 20, 23, 26, 28], [29, 30, 31, 34, 35, 38, 41, 42, 44, 45, 46, 47, 48, 51, 52, 53], [56, 59, 62, 63, 66, 67, 68, 69, 70, 73, 74]]
def pc_X6_readBottom : List (List Nat) := [[0, 1, 4, 5, 8, 11, 12, 13, 15, 18, 19, 21, 24, 25, 27, 30], [31, 32, 33, 34, 36, 39, 40, 43, 44, 46, 49, 50, 53, 54, 57, 58], [59, 62, 63, 64, 67, 68]]
def pc_X6_readLetter : List (List Nat) := [[0, 1, 4, 5, 8, 11, 12, 13, 16, 19, 20, 21, 22, 23, 26, 27], [28, 31, 32, 33, 36, 37]]
def pc_X6_readWord : List (List Nat) := [[0, 1, 2, 3, 5, 8, 9, 12, 13, 16, 19, 22, 25, 26, 29, 30], [33, 34, 37, 40, 43, 44, 45, 48, 49, 50, 53, 56, 59, 60, 63, 66], [69, 70, 73, 74]]
def pc_X6_note : List (List Nat) := [[0, 1, 4, 7, 8, 11, 12, 15, 16, 19, 20, 23, 24, 27, 28, 29], [30, 31, 34, 35, 36, 39]]
def pc_X6_isDigit : List (List Nat) := [[0, 1, 3, 6, 7, 9, 12, 13, 16, 17]]
def pc_X7_init : List (List Nat) := [[0, 1, 4]]
def pc_X7_set : List (List Nat) := [[0, 1, 2, 5, 6, 7, 10]]
def pc_X8_init : List (List Nat) := [[0, 1, 4]]
def pc_X8_open : List (List Nat) := [[0, 1, 2, 5, 6, 7, 10, 11, 12, 15]]
def pc_X8_copy : List (List Nat) := [[0, 1, 2, 5, 8, 9, 10, 13, 16, 17, 18, 21, 24]]
def pc_X9_init : List (List Nat) := [[0, 1, 4, 5, 8, 9, 12, 15]]
def pc_X9_go : List (List Nat) := [[0, 1, 4, 5, 8, 9, 10, 13, 14, 15, 18, 19, 20, 21, 24, 25], [28, 29, 30, 31, 32, 35, 38, 39, 40, 41, 42, 45, 46, 49, 52, 55], [56, 57, 60, 63, 64, 67, 68, 69, 70, 71, 74, 75, 76, 77, 78, 81], [82, 85, 88, 91]]
def pc_X9_gradeFor : List (List Nat) := [[0, 1, 4, 5, 8, 11, 12, 13, 15, 16, 19, 20, 21, 24, 26, 27], [28, 29, 30, 31, 34]]
def pc_X9_pass : List (List Nat) := [[0, 1, 4, 7, 9, 10, 11, 14, 40, 41, 44, 47, 50, 51, 52, 55], [56, 57, 60, 61, 64, 65, 68, 71, 74, 75, 78, 79, 80, 83, 86, 87], [88, 89, 92, 95, 96, 97, 98, 101, 103, 104, 107, 110, 111, 112, 115]]
def pc_X9_answer : List (List Nat) := [[0, 1, 4, 5, 6, 9, 10, 11, 14, 15, 16, 19, 20, 21, 24, 25], [26, 29]]
def pc_X9_turnAt : List (List Nat) := [[0, 1, 4, 7, 8, 9, 10, 13, 14, 17, 20, 23, 24, 25, 28, 29], [32, 35, 36, 37, 40, 41, 42, 45, 48, 49, 50, 53]]
def pc_X10_init : List (List Nat) := [[0, 1, 4, 5, 6, 8, 11, 12, 13, 15, 18, 19, 20, 22, 25, 26], [27, 29, 32]]
def pc_X10_open : List (List Nat) := [[0, 1, 2, 5, 6, 7, 10, 11, 12, 15, 16, 17, 20, 21, 22, 25]]
def pc_X10_copy : List (List Nat) := [[0, 1, 2, 5, 8, 9, 10, 13, 16, 17, 18, 21, 24, 25, 26, 29], [32, 33, 34, 37, 40, 41, 42, 43, 44, 47, 50, 51, 52, 53, 54, 57], [58, 59, 62, 63, 64, 67, 68, 69, 72, 75, 78, 81]]
def pc_X10_hasThing : List (List Nat) := [[0, 1, 4, 5, 6, 9, 12, 13, 16, 17]]
def pc_X10_kindOf : List (List Nat) := [[0, 1, 4, 5, 6, 9, 10, 13, 14, 17, 18, 19, 22, 23]]
def pc_X10_depthOf : List (List Nat) := [[0, 1, 4, 5, 6, 9, 10, 13, 14, 17, 18, 19, 22, 23]]
def pc_X10_valueOf : List (List Nat) := [[0, 1, 4, 5, 6, 9, 10, 13, 14, 17, 18, 19, 22, 23]]
def pc_X10_isAwake : List (List Nat) := [[0, 1, 4, 5, 6, 9, 10, 13, 14, 17, 18, 19, 22, 23, 26, 27]]
def pc_X10_add : List (List Nat) := [[0, 1, 4, 6, 7, 9, 10, 11, 12, 13, 14, 17, 18, 21, 22, 25], [26, 27, 30, 31, 32, 35, 37]]
def pc_X10_remove : List (List Nat) := [[0, 1, 2, 5, 8, 9, 10, 11, 12, 13, 14, 15, 18, 21, 22, 23], [24, 25, 26, 27, 30, 31, 32, 35, 36, 37, 40, 41, 42, 45, 48, 51], [54, 55, 56, 59, 60, 61, 64]]
def pc_X10_placeOf : List (List Nat) := [[0, 1, 2, 5, 6, 7, 8, 9, 11, 13, 14, 17, 20, 22, 23, 26], [27, 30, 31, 34, 36, 37, 38, 41, 42, 45, 47, 48, 49, 52, 54, 55], [58, 61, 64, 67, 68]]
def pc_X10_thingAt : List (List Nat) := [[0, 1, 2, 3, 4, 7, 10, 11, 12, 15, 16, 19, 20, 21, 24, 27], [28]]
def pc_X10_uppermostCoin : List (List Nat) := [[0, 1, 2, 3, 4, 5, 6, 9, 12, 13, 14, 17, 20, 21, 22, 25], [26, 29, 30, 33, 34, 36, 38, 41, 42, 43, 46, 47, 48, 51, 52, 53], [56, 59, 60, 61, 64, 67, 68]]
def pc_X10_countOf : List (List Nat) := [[0, 1, 2, 3, 4, 5, 6, 9, 12, 13, 14, 17, 18, 21, 24, 27], [30, 31]]
def pc_X10_countOfFrogs : List (List Nat) := [[0, 1, 2, 3, 4, 5, 6, 9, 12, 13, 14, 17, 18, 21, 22, 23], [26, 27, 30, 33, 36, 39, 40]]
def pc_X10_setFrogs : List (List Nat) := [[0, 1, 2, 3, 4, 7, 10, 11, 12, 15, 16, 19, 20, 23, 24, 25], [28, 29, 30, 33, 34, 37, 38, 41, 42, 43, 46, 49]]
def pc_X10_timeByKinds : List (List Nat) := [[0, 1, 2, 3, 4, 5, 6, 9, 12, 13, 14, 15, 18, 19, 22, 23], [24, 27, 30, 31, 32, 33, 36, 39, 40, 41, 44, 45, 46, 47, 48, 49], [50, 51, 52, 55, 56, 57]]
def pc_X10_hasThingBelow : List (List Nat) := [[0, 1, 2, 3, 4, 7, 10, 11, 12, 15, 16, 19, 22, 23, 24, 27], [30, 31]]
def pc_X10_set : List (List Nat) := [[0, 1, 4, 5, 6, 9, 10, 13, 14, 15, 18, 19, 22, 23, 24, 27], [28, 31, 32, 33, 36, 37, 40, 41, 44, 45, 46, 47, 48, 51, 52, 53], [54, 55, 58, 59, 61, 62, 63, 66, 67, 69, 70]]
def pc_X11_init : List (List Nat) := [[0, 1, 4, 5, 7, 10, 13, 14, 15, 16, 17, 20, 21, 24, 25, 28], [29, 32, 33, 36, 37, 40, 43, 44, 45, 48, 51, 52, 53, 54, 55, 58], [59, 62, 63, 66, 67, 70, 71, 74, 75, 78, 81, 82, 85, 86, 89, 92]]
def pc_X11_copy : List (List Nat) := [[0, 1, 2, 5, 8, 9, 10, 11, 12, 15, 18, 19, 20, 21, 22, 25], [28, 31, 34, 35, 36, 39, 42, 43, 44, 45, 46, 49, 52, 53, 54, 55], [56, 59, 62, 65, 68, 69, 72, 73, 76, 79, 80, 81, 84, 87, 88, 89], [92, 95, 96, 97, 100, 103, 104, 105, 108, 111, 112, 113, 116, 119, 120, 121], [124, 127, 128, 129, 132, 135, 136, 137, 140, 143]]
def pc_X11_wellAt : List (List Nat) := [[0, 1, 4, 5, 6, 9, 12, 13, 14, 17, 18, 21, 22, 25, 26, 27], [30, 31]]
def pc_X11_ropeAt : List (List Nat) := [[0, 1, 4, 5, 6, 9, 12, 13, 14, 17, 18, 21, 22, 25, 26, 27], [30, 31]]
def pc_X11_addWell : List (List Nat) := [[0, 1, 4, 5, 6, 7, 10, 11, 12, 15, 16, 17, 20, 22, 24, 27], [29, 30, 31, 34, 35]]
def pc_X11_addRope : List (List Nat) := [[0, 1, 4, 5, 6, 7, 10, 11, 12, 15, 16, 17, 20, 21, 22, 25], [26, 27, 30, 31]]
def pc_X11_removeWell : List (List Nat) := [[0, 1, 2, 3, 4, 5, 6, 9, 12, 13, 14, 15, 16, 17, 18, 21], [24, 27, 30, 31, 32, 35, 36, 37, 40, 41, 42, 43, 44, 47, 50, 51], [52, 55, 56, 57, 60, 61, 64, 65, 68, 69, 70, 73, 76, 77, 80, 81], [84, 85, 88, 89, 90, 93, 94, 95, 98, 101, 104]]
def pc_X11_ropesAt : List (List Nat) := [[0, 1, 2, 3, 4, 5, 6, 9, 12, 13, 14, 17, 19, 21, 24, 26], [29, 30, 33, 36, 39, 42, 43]]
def pc_X11_countOfThings : List (List Nat) := [[0, 1, 2, 3, 4, 5, 6, 9, 12, 13, 14, 17, 18, 19, 20, 23], [24, 27, 28, 31, 32, 33, 36, 39, 40]]
def pc_X11_countOfSleepers : List (List Nat) := [[0, 1, 2, 3, 4, 5, 6, 9, 12, 13, 14, 17, 18, 19, 20, 23], [24, 27, 28, 29, 32, 33, 34, 37, 40, 41]]
def pc_X11_wakeFrogs : List (List Nat) := [[0, 1, 4, 5, 6, 7, 8, 9, 12, 15, 16, 17, 20, 21, 22, 25], [26, 27, 30, 33, 36, 37, 38, 41, 42, 43, 46, 47]]
def pc_X11_enter : List (List Nat) := [[0, 1, 2, 5, 6, 7, 10, 11, 12, 15, 17, 18, 21, 22, 23, 26], [27, 30, 31, 34, 35, 36, 39, 40, 43, 44, 47, 48, 49, 52, 53, 56], [57, 60, 61, 62, 65, 66, 69, 72, 73, 76, 77, 80, 81, 82, 83, 85], [88]]
def pc_X11_copyWell : List (List Nat) := [[0, 1, 2, 5, 6, 7, 10, 11, 14, 15, 16, 19]]
def pc_X11_copyRope : List (List Nat) := [[0, 1, 2, 5, 6, 7, 10, 11, 14, 15, 16, 19]]
def pc_X12_init : List (List Nat) := [[0, 1, 4, 5, 8, 9, 12, 15, 16, 19, 20, 23, 26, 27, 30, 31], [34, 37, 38, 41, 42, 45, 48, 49, 52, 53, 56, 59, 60, 63, 64, 67], [70, 71, 74, 75, 78, 81, 82, 85, 86, 89, 92, 93, 96, 97, 100, 103], [104, 107, 108, 111, 114, 115, 116, 119]]
def pc_X12_dig : List (List Nat) := [[0, 1, 4, 5, 6, 7, 10]]
def pc_X12_deepen : List (List Nat) := [[0, 1, 4, 5, 6, 7, 10]]
def pc_X12_fill : List (List Nat) := [[0, 1, 4, 5, 6, 7, 10]]
def pc_X12_coin : List (List Nat) := [[0, 1, 4, 5, 6, 7, 10]]
def pc_X12_frog : List (List Nat) := [[0, 1, 4, 5, 6, 7, 10]]
def pc_X12_moss : List (List Nat) := [[0, 1, 4, 5, 6, 7, 10]]
def pc_X12_take : List (List Nat) := [[0, 1, 4, 5, 6, 7, 10]]
def pc_X12_wake : List (List Nat) := [[0, 1, 4, 5, 6, 7, 10]]
def pc_X12_rope : List (List Nat) := [[0, 1, 4, 5, 6, 7, 10]]
def pc_X12_bind : List (List Nat) := [[0, 1, 4, 5, 6, 7, 10]]
def pc_X12_fish : List (List Nat) := [[0, 1, 4, 5, 6, 7, 10]]
def pc_X12_letter : List (List Nat) := [[0, 1, 4, 7, 10, 11, 14, 15, 16, 19, 22, 24, 27, 30, 31, 34], [35, 36, 39, 40, 43, 44, 47, 50]]
def pc_X12_shout : List (List Nat) := [[0, 1, 4, 5, 6, 7, 10, 11, 12, 15, 18, 19]]
def pc_X12_wellOf : List (List Nat) := [[0, 1, 2, 5, 6, 7, 52, 53, 56, 57, 58, 61, 62, 63, 66, 67], [68, 69, 72, 73, 74, 75, 78, 79, 80, 83, 84, 85, 88, 89, 90, 93], [94, 97, 98, 101, 102, 105]]
def pc_X12_thingOf : List (List Nat) := [[0, 1, 2, 5, 7, 9, 10, 13, 16, 19, 20, 23, 24, 25, 60, 62], [63, 66, 67, 69, 70, 73, 74, 76, 77, 80, 81, 84, 86, 87, 90, 92], [93, 96, 98, 99, 102, 103, 105, 106, 109, 112, 113, 116, 117, 118, 120, 121], [124, 125, 128, 129, 132]]
def pc_X12_ropeOf : List (List Nat) := [[0, 1, 2, 5, 6, 7, 32, 33, 36, 37, 38, 41, 42, 43, 46, 47], [50, 51, 54]]
def pc_X12_bookOf : List (List Nat) := [[0, 1, 4, 5, 6, 9, 12, 15, 18, 21, 22, 25, 26, 27, 30, 31], [32, 35, 38, 39, 42, 43, 44, 47, 50, 51, 52, 55]]
def pc_X12_time : List (List Nat) := [[0, 1, 2, 3, 6, 9]]
def pc_X12_timeAgain : List (List Nat) := [[0, 1, 2, 5, 8]]
def pc_X12_isLater : List (List Nat) := [[0, 1, 2, 5, 6, 7, 8, 11, 13, 14, 15, 18, 19, 21, 24, 27], [28, 31, 32]]
def pc_X12_echoLength : List (List Nat) := [[0, 1, 2, 5, 6, 9, 12, 15]]
def pc_X12_echoLetter : List (List Nat) := [[0, 1, 2, 5, 6, 9, 10, 11, 14, 17, 20, 23, 26, 27, 30, 31], [32, 35, 38, 39, 42]]
def pc_X12_losses : List (List Nat) := [[0, 1, 2, 5, 6, 9, 12]]
def pc_X12_wouldGrade : List (List Nat) := [[0, 1, 2, 5, 6, 9, 10, 13, 16]]
def pc_X12_bestWell : List (List Nat) := [[0, 1, 2, 3, 4, 5, 6, 7, 9, 11, 12, 15, 18, 21, 22, 24], [27, 28, 31, 32, 35, 38, 40, 42, 43, 46, 48, 49, 52, 53, 56, 59], [60, 63, 64, 67, 68, 70, 71, 72, 75, 77, 80, 82, 83, 85, 86, 87], [90, 93, 94, 97, 100, 101, 102, 105, 108, 109, 112, 113, 114]]
def pc_X12_isWhole : List (List Nat) := [[0, 1, 2, 5, 6, 9, 12, 13, 16, 19]]
def pc_X12_vowels : List (List Nat) := [[0, 1, 4, 7]]
def pc_X12_reach : List (List Nat) := [[0, 1, 2, 5, 6, 7, 10, 11, 14, 17, 18, 19, 22, 23, 26, 27], [28, 31, 34, 36, 38, 39, 42, 45, 46, 49, 50, 52]]
def pc_X12_ranked : List (List Nat) := [[0, 1, 4, 5, 6, 9, 12, 13, 16, 17, 18, 19, 20, 21, 24, 27], [30, 31, 32, 33, 36, 37, 40, 41, 42, 45, 48, 51, 52, 55]]
def pc_X12_isTold : List (List Nat) := [[0, 1, 2, 3, 4, 7, 10, 13, 14, 17, 18, 21, 22, 23, 26, 27], [28, 31, 32, 35, 38, 39, 42, 45, 46, 47, 50, 53, 54, 57, 60, 61], [64, 67, 68, 71, 74, 75, 76, 79, 82, 83, 86, 87, 90, 91]]
def pc_X12_append : List (List Nat) := [[0, 1, 3, 6, 7, 9, 12, 15, 16, 19, 20, 21, 24, 27, 29, 32], [35, 36, 39, 40, 41, 44, 45, 48, 49, 52, 55]]
def pc_X12_run : List (List Nat) := [[0, 1, 4, 5, 8, 11, 12, 13, 16, 19, 20, 21, 22, 25, 26, 29], [32, 35, 36, 39, 40, 41, 44, 47, 48, 51, 52, 53, 56, 57, 60, 63], [64, 65, 68, 71, 72, 75, 76, 79, 82, 85, 86, 89, 90, 91, 94, 97], [98]]
def pc_X12_faultPosition : List (List Nat) := [[0, 1, 4]]
def pc_X12_reason : List (List Nat) := [[0, 1, 4, 5, 6, 9, 12, 13, 16, 17, 18, 21, 22, 25, 28, 31], [32, 35, 38, 39, 40, 43, 46, 49, 50, 53, 54, 55, 58, 59, 62, 65], [66, 69]]
def pc_X12_tellWord : List (List Nat) := [[0, 1, 4, 5, 8, 11, 12, 15, 18]]
def pc_X12_tellEcho : List (List Nat) := [[0, 1, 4, 5, 8, 11, 14, 17, 18, 21, 24]]
def pc_X12_tellWell : List (List Nat) := [[0, 1, 2, 5, 6, 7, 10, 13, 14, 17, 18, 21, 24, 25, 28, 29], [32, 35, 37, 40, 41, 44, 45, 48, 50, 53, 55, 58, 59, 60, 61, 62], [65, 68, 69, 70, 71, 74, 77, 80, 81, 84, 87]]
def pc_X12_character : List (List Nat) := [[0, 1, 4, 5, 6, 9, 12, 15, 18, 19, 22, 23, 24, 27, 28, 31]]
def pc_X12_account : List (List Nat) := [[0, 1, 72, 73, 76, 79, 80, 81, 84, 87, 88, 89, 92, 95, 96, 97], [100, 103, 104, 105, 108, 111, 112, 113, 116, 119, 120, 121, 124, 127, 128, 129], [132, 135, 136, 137, 140, 143, 144, 145, 148, 151, 152, 153, 156, 159, 160, 161], [164, 167, 168, 169, 172, 175, 176, 177, 180, 183, 184, 187, 188, 191]]
def pc_X12_meanGrade : List (List Nat) := [[0, 1, 4, 7, 10, 13, 14, 17, 18, 19, 22, 25, 26, 27, 30, 33], [34, 35]]
def pc_X12_lostShare : List (List Nat) := [[0, 1, 4, 7, 8, 11, 14, 15, 16, 17, 20, 23, 26, 27, 30, 33], [34, 37, 38, 39, 42, 45, 46, 47, 48, 49]]
def pc_X12_undo : List (List Nat) := [[0, 1, 4, 7, 10, 13, 14, 17, 18, 19, 22, 23, 26, 29, 30, 33], [36]]
def pc_X12_save : List (List Nat) := [[0, 1, 4, 5, 8, 11, 12, 13, 16, 17, 20, 23]]
def pc_X12_restore : List (List Nat) := [[0, 1, 4, 7, 10, 11, 14, 15, 16, 19, 20, 23, 26, 27, 30, 33], [34, 37, 40]]
def pc_X12_changed : List (List Nat) := [[0, 1, 4, 5, 8, 11, 12, 15, 16, 19, 20, 21, 22, 24, 25, 28], [31, 33, 35, 36, 39, 42, 43, 46, 47, 48, 51, 54, 56]]
def pc_X12_areObeyed : List (List Nat) := [[0, 1, 4, 7, 8, 9, 10, 11, 14, 15, 18, 21, 22, 23, 26, 27], [30, 31, 32, 35, 36, 39, 41, 42, 45, 46, 49, 51, 52, 55, 56, 59], [60, 63, 66, 67, 69, 71, 72, 75, 78, 81, 82, 85, 86, 89, 90, 93], [94, 95, 96, 99, 101, 104, 105, 108, 111, 112]]
def pc_X12_askedWell : List (List Nat) := [[0, 1, 4, 5, 8, 9, 10, 13, 16, 17, 20, 21, 22]]
def pc_X12_askedRope : List (List Nat) := [[0, 1, 4, 5, 8, 9, 10, 13, 16, 17, 20, 21, 22]]
def pc_X12_sendWord : List (List Nat) := [[0, 1, 2, 5, 6, 7, 10, 13, 16, 19, 20, 23, 24, 25, 28, 29], [30, 33, 36]]
def pc_X12_timeOnTheWay : List (List Nat) := [[0, 1, 4, 5, 6, 9, 12, 13, 16, 19]]
def pc_X12_rankOf : List (List Nat) := [[0, 1, 2, 3, 6, 7, 8, 10, 11, 13, 15, 16, 19, 22, 25, 26], [28, 29, 32, 34, 36, 37, 40, 42, 43, 46, 48, 49, 52, 55, 58, 61], [63]]
def pc_X12_measureOf : List (List Nat) := [[0, 1, 4, 5, 8, 9, 10, 13, 14, 15, 16, 44, 45, 48, 49, 50], [53, 54, 55, 58, 59, 60, 63]]
def pc_X12_tellThing : List (List Nat) := [[0, 1, 2, 5, 6, 7, 8, 11, 13, 14, 17, 19, 22, 23, 26, 27], [30, 32, 35, 36, 37, 40, 42, 45, 47, 50, 51, 52, 55, 56, 59, 60], [61, 64, 67, 69, 71, 72, 74, 75, 78, 80, 81, 84, 87, 88, 91, 93], [96, 97, 100, 102, 105, 106, 109, 110, 111, 114, 117]]
def pc_X12_isLetter : List (List Nat) := [[0, 1, 3, 6, 7, 9, 12, 13, 16, 17]]
def pc_X12_isVowel : List (List Nat) := [[0, 1, 3, 6, 7, 9, 12, 13, 15, 18, 19, 21, 24, 25, 27, 30], [31, 34, 35]]
def pc_X13_init : List (List Nat) := [[0, 1, 4, 5, 8, 10, 13, 14, 17, 19, 22, 23, 26, 28, 31, 32], [35, 37, 40, 41, 43, 45, 48, 49, 51, 53, 56, 57, 59, 61, 64, 65], [67, 69, 72, 73, 75, 77, 80, 81, 82, 85, 86, 87, 89, 92]]
def pc_X13_thrown : List (List Nat) := [[0, 1, 4]]
def pc_X13_fails : List (List Nat) := [[0, 1, 2, 5, 6]]
def pc_X13_isBetween : List (List Nat) := [[0, 1, 2, 5, 6, 7, 10, 11, 14, 15]]
def pc_X13_isNot : List (List Nat) := [[0, 1, 2, 5, 6, 7, 10, 11]]
def pc_X13_throwsNow : List (List Nat) := [[0, 1, 2, 5, 8, 9, 10, 13, 16, 17, 18, 21, 22, 23, 26]]
def pc_X13_reason : List (List Nat) := [[0, 1, 2, 5, 6, 7, 8, 11, 14, 15, 16, 19, 20, 21, 24, 27], [28, 29, 32, 33, 36, 39, 40, 41, 44, 45, 46, 49, 50, 53, 54, 57], [60, 61, 64, 65, 66, 69, 70, 73, 76, 77, 80]]
def pc_X13_thinks : List (List Nat) := [[0, 1, 2, 3, 6, 9, 10, 13, 14, 15, 18, 19, 20, 21, 24, 27]]
def pc_X13_forgets : List (List Nat) := [[0, 1, 2, 3, 6, 9, 10, 13, 14, 15, 18, 19, 20, 21, 24, 27]]
def pc_X13_keepsMind : List (List Nat) := [[0, 1, 4, 6, 9, 10, 11, 14, 15, 16, 18, 19, 22, 23, 24, 27], [28, 29, 32, 33, 36, 37, 40, 41, 43, 44, 45, 46, 47, 48, 51, 54], [55, 58, 61, 62, 63, 64, 65, 66, 69, 70, 71, 72, 75, 78, 79, 80], [83, 84, 85, 88]]
def pc_X13_remembers : List (List Nat) := [[0, 1, 4, 5, 8]]
def pc_X13_of : List (List Nat) := [[0, 1, 4, 6, 8, 9, 10, 11, 12, 13, 14]]
def pc_X13_sets : List (List Nat) := [[0, 1, 4, 6, 8, 9, 10, 11, 12, 13, 14, 15]]
def pc_X13_is : List (List Nat) := [[0, 1, 4, 6, 8, 9, 10, 11, 12, 13, 14, 15, 16, 17, 18, 19], [20]]
def pc_X13_isWell : List (List Nat) := [[0, 1, 2, 3, 6, 7, 8, 9, 10, 13]]
def pc_X13_isThing : List (List Nat) := [[0, 1, 2, 3, 4, 5, 8, 9, 10, 13]]
def pc_X13_isRope : List (List Nat) := [[0, 1, 2, 3, 6, 7, 8, 9, 10, 13]]
def pc_X13_ropeIs : List (List Nat) := [[0, 1, 4, 6, 7, 8, 9, 10, 11, 12, 13]]
def pc_X13_boundTo : List (List Nat) := [[0, 1, 2, 3, 6, 7, 8]]
def pc_X13_countThings : List (List Nat) := [[0, 1, 3, 4, 6, 8, 9, 10, 11, 14, 17, 19, 20, 21, 23, 24], [27, 28, 31, 32, 35, 36, 37, 39, 40, 43, 44, 47, 48, 51, 52, 53], [55, 58, 61, 63]]
def pc_X13_ropesAt : List (List Nat) := [[0, 1, 2, 3, 4, 5, 6, 9, 10, 11, 14, 15, 16, 17, 20, 21], [24, 25, 28, 29, 30, 31, 34, 37, 38]]
def pc_X13_placeOf : List (List Nat) := [[0, 1, 2, 3, 5, 7, 8, 9, 10, 13, 16, 17, 18, 20, 21, 24], [25, 26, 27, 28, 31, 34, 35, 36, 38, 39, 42, 43, 44, 45, 46, 49], [52, 54, 55, 58, 59, 62, 63, 65, 66, 68, 71, 72, 75, 76, 77, 78], [81, 84, 85]]
def pc_X13_thingAt : List (List Nat) := [[0, 1, 2, 3, 4, 5, 8, 9, 12, 15, 18, 19]]
def pc_X13_notDig : List (List Nat) := [[0, 1, 2, 4, 7, 10, 11, 12, 13, 16, 17, 18, 19, 20, 23, 26], [27, 28, 29, 32, 33, 34, 37, 38, 39, 41, 44, 45, 46, 48, 51, 54], [55]]
def pc_X13_digs : List (List Nat) := [[0, 1, 4, 5, 6, 7, 8, 10, 12, 14, 17, 18, 19, 21, 22, 25], [28, 31, 32, 33, 34, 35, 38, 39, 40, 41, 42, 45, 46, 49, 50, 51], [52, 53, 54, 55, 56]]
def pc_X13_dig : List (List Nat) := [[0, 1, 2, 5, 6, 7, 8, 11, 14, 15, 18, 19, 20, 23, 24, 25], [26, 29]]
def pc_X13_notDeepen : List (List Nat) := [[0, 1, 2, 5, 8, 9, 10, 11, 14, 15, 16, 17, 19, 22, 25, 26], [27, 28, 31, 32, 33, 34, 35, 38, 39, 40, 42, 45, 46, 47, 49, 50], [51, 52, 55, 56, 59, 62, 63]]
def pc_X13_deepens : List (List Nat) := [[0, 1, 2, 3, 4, 5, 6, 9, 10, 11, 14, 15, 16, 17, 20]]
def pc_X13_deepen : List (List Nat) := [[0, 1, 2, 5, 6, 7, 8, 11, 14, 15, 18, 19, 20, 23, 24, 25], [26, 29]]
def pc_X13_notFill : List (List Nat) := [[0, 1, 2, 5, 8, 9, 12, 13, 14, 15, 18]]
def pc_X13_fills : List (List Nat) := [[0, 1, 4, 5, 6, 7, 8, 9, 10, 12, 14, 15, 18, 19, 20, 21], [22, 23, 25, 27, 28, 29, 30, 31, 32, 33, 36, 37, 40, 41, 42, 45], [46, 48, 49, 50, 51, 54, 57, 58, 59, 60, 62, 65, 66, 69, 70, 71], [72, 73, 74, 77, 80, 81, 82, 83, 84, 87, 88, 89, 92, 93, 94, 97], [99, 101, 102, 105, 106, 109, 111, 112, 113, 114, 115, 116, 117, 118, 119, 121], [122, 125, 126, 129, 131, 132, 133, 134, 135, 136, 137, 139, 140, 143, 146, 147], [150, 151, 152]]
def pc_X13_fill : List (List Nat) := [[0, 1, 2, 5, 6, 7, 10, 13, 14, 17, 18, 19, 22, 23, 24, 27]]
def pc_X13_notThing : List (List Nat) := [[0, 1, 2, 5, 8, 9, 10, 11, 14, 15, 16, 17, 19, 22, 25, 26], [27, 28, 31, 32, 33, 35, 37, 40, 43, 44, 45, 46, 49, 50, 51, 52], [53, 54, 57, 60, 61, 62, 63, 64, 65, 68, 71, 72, 73, 74, 75, 78], [79, 82, 83, 84, 85, 88, 91, 92]]
def pc_X13_comes : List (List Nat) := [[0, 1, 2, 3, 6, 8, 10, 12, 13, 14, 15, 16, 17, 18, 20, 21], [22, 24, 25, 28, 30, 31, 32, 34, 35, 36, 39, 41, 42, 43, 44, 45], [46, 49, 51, 52, 53, 54, 55, 56, 59, 61, 62, 63, 65, 66, 69, 70], [73, 74, 75, 76, 77, 78, 80, 81, 82, 85, 87]]
def pc_X13_coin : List (List Nat) := [[0, 1, 2, 5, 6, 7, 8, 9, 10, 12, 15, 18, 19, 22, 23, 24], [27, 28, 29, 30, 31, 32, 35]]
def pc_X13_frog : List (List Nat) := [[0, 1, 2, 5, 6, 7, 8, 9, 11, 13, 16, 19, 20, 23, 24, 25], [28, 29, 30, 31, 32, 33, 36]]
def pc_X13_moss : List (List Nat) := [[0, 1, 2, 5, 6, 7, 8, 9, 10, 12, 15, 18, 19, 22, 23, 24], [27, 28, 29, 30, 31, 32, 35]]
def pc_X13_notTake : List (List Nat) := [[0, 1, 2, 5, 8, 9, 10, 11, 14, 15, 16, 17, 18, 21, 24, 25], [28, 29, 30, 31, 34]]
def pc_X13_takes : List (List Nat) := [[0, 1, 2, 3, 6, 7, 8, 9, 11, 13, 14, 15, 16, 17, 18, 19], [20, 21, 22, 24, 26, 28, 29, 30, 31, 32, 33, 34, 35, 36, 37, 39], [41, 43, 46, 47, 50, 52, 53, 56, 58, 59, 60, 61, 62, 65, 68, 69], [71, 73, 74, 77, 78, 81, 83, 85, 86, 87, 88, 91, 94, 95, 96, 97], [98, 101, 102]]
def pc_X13_take : List (List Nat) := [[0, 1, 2, 5, 6, 7, 8, 11, 14, 15, 18, 19, 20, 23, 24, 25], [26, 29]]
def pc_X13_asleepIn : List (List Nat) := [[0, 1, 2, 3, 4, 7, 8, 9, 10, 11, 14, 15]]
def pc_X13_asleep : List (List Nat) := [[0, 1, 2, 3, 4, 5, 6, 9, 10, 11, 14, 15, 16, 17, 20, 21], [22, 25, 28, 29]]
def pc_X13_wakes : List (List Nat) := [[0, 1, 4, 5, 6, 7, 8, 9, 12, 13, 14, 17, 18, 19, 20, 21], [22, 23, 26, 29, 30, 33, 35, 37, 38, 39, 40, 41, 42, 43, 44, 45], [46, 47, 48, 49, 50, 51, 52, 55, 56, 59, 60, 63, 64, 65, 68, 71], [74, 77, 78, 81, 83, 84, 85, 86, 87, 88, 89]]
def pc_X13_wake : List (List Nat) := [[0, 1, 2, 5, 6, 9, 10, 13]]
def pc_X13_notRope : List (List Nat) := [[0, 1, 2, 4, 7, 10, 11, 12, 13, 16, 17, 18, 21, 22, 23, 24], [27, 28, 29, 30, 33, 36, 37]]
def pc_X13_ropeComes : List (List Nat) := [[0, 2, 3, 4, 7, 8, 9, 10, 11, 12, 13, 16, 17, 18, 19, 20], [23, 24, 25, 26, 27, 28, 29, 32, 33, 34, 35, 36, 37, 38, 41, 42], [43, 44, 45, 46, 47, 48, 51, 52, 53, 54, 55]]
def pc_X13_rope : List (List Nat) := [[0, 1, 2, 5, 6, 7, 10, 13, 14, 17, 18, 19, 22, 23, 24, 27]]
def pc_X13_notBind : List (List Nat) := [[0, 1, 2, 5, 8, 9, 10, 11, 14, 15, 16, 17, 20, 23, 24, 25], [26, 29, 30, 31, 32, 35, 36, 39, 40, 42, 43, 46, 49, 50]]
def pc_X13_binds : List (List Nat) := [[0, 1, 4, 6, 7, 8, 9, 10, 11, 12, 13, 14, 15, 16, 17, 18], [21]]
def pc_X13_bind : List (List Nat) := [[0, 1, 2, 5, 6, 7, 8, 11, 14, 15, 18, 19, 20, 23, 24, 25], [26, 29]]
def pc_X13_reached : List (List Nat) := [[0, 1, 2, 5, 6, 7, 8, 9, 10, 11, 12, 15, 18, 19, 20, 21], [24, 26, 27, 28, 30, 31, 34, 37, 38, 39, 41, 42, 45, 46, 47, 48], [51, 54, 56, 59, 60, 61, 64, 67, 68]]
def pc_X13_notFish : List (List Nat) := [[0, 1, 2, 5, 8, 9, 10, 11, 14, 15, 16, 17, 20, 23, 24, 26], [27, 28, 29, 32, 35, 36, 37, 38, 41, 44, 45, 47, 48, 49, 50, 53], [54, 55, 58, 61, 64, 65]]
def pc_X13_fishes : List (List Nat) := [[0, 1, 2, 5, 6, 7, 8, 11, 12, 13, 14, 15, 16, 19, 21, 22], [23, 24, 27, 28, 29, 32, 34, 35, 36, 37, 38, 39, 40, 41, 42, 43], [44, 45, 46, 49, 51, 52, 53, 55, 56, 57, 59]]
def pc_X13_fish : List (List Nat) := [[0, 1, 2, 5, 6, 7, 10, 13, 14, 17, 18, 19, 22, 23, 24, 27]]
def pc_X13_isLetter : List (List Nat) := [[0, 1, 3, 5, 8]]
def pc_X13_isVowel : List (List Nat) := [[0, 1, 3, 6, 7, 9, 12, 13, 15, 18, 19, 21, 24, 25, 27, 30], [31, 34, 35]]
def pc_X13_letter : List (List Nat) := [[0, 1, 2, 5, 6, 9, 12, 13, 14, 17, 18, 19, 22, 24, 27, 28], [29, 32, 33, 34, 37, 38, 41, 42, 43, 44, 45, 48, 49, 50, 53, 54], [57]]
def pc_X13_saysWord : List (List Nat) := [[0, 1, 2, 3, 4, 7, 10, 11, 14, 15, 16, 19, 20, 21, 22, 25], [28, 29, 30, 33, 36]]
def pc_X13_losesAt : List (List Nat) := [[0, 1, 2, 5, 6, 7, 10, 11, 12, 15, 16, 17, 20, 21, 22, 23], [24, 27, 30, 31, 34, 35, 36, 39, 40, 41, 42, 43, 44, 47, 50]]
def pc_X13_losesVowel : List (List Nat) := [[0, 1, 2, 3, 4, 7, 10, 11, 14, 15, 16, 19, 22, 25, 26, 27], [30, 31, 34, 37]]
def pc_X13_passes : List (List Nat) := [[0, 1, 2, 3, 4, 7, 9, 11, 14, 15, 18, 21, 22, 23, 26, 27], [28, 31, 33, 34, 37, 38, 41, 43, 44, 47, 48, 51, 52, 53, 54, 55], [58, 59, 62, 63, 66, 67, 70, 71, 72, 73, 74, 77, 78, 79, 80, 83], [84, 85, 88]]
def pc_X13_turns : List (List Nat) := [[0, 1, 2, 5, 6, 7, 8, 9, 12, 13, 14, 17, 18, 21, 22, 23], [24, 25, 28, 29, 30, 33, 34, 37, 38, 39, 40, 41, 42, 43, 44, 47], [48, 51, 52, 53, 54, 55, 56, 57, 60, 63, 64, 65, 68, 69, 70, 73], [74, 75, 76, 77, 80, 81, 84, 85, 86, 89, 92, 93, 94, 97, 100, 103]]
def pc_X13_sounds : List (List Nat) := [[0, 1, 2, 3, 4, 7, 10, 11, 14, 15, 16, 19, 20, 21, 22, 25], [28, 29, 30, 33, 36, 37, 38, 41, 42, 43, 44, 47, 48, 49, 50, 51], [52, 55, 56, 57, 58, 59, 60, 63, 64, 67, 70, 73, 74, 75, 76, 77], [80, 83, 84, 85, 86, 87, 88, 91, 92, 93, 94, 95, 96, 99, 100, 103], [106, 109]]
def pc_X13_timeOf : List (List Nat) := [[0, 1, 2, 3, 4, 7, 8, 9, 10, 11, 12, 13, 16, 17, 18, 19], [20, 21, 22, 23, 24, 25, 28, 31, 32, 33, 34, 35, 36, 39, 40, 43], [44, 45, 46, 47, 48, 51, 52, 55, 56, 57, 58, 61, 64, 65]]
def pc_X13_gradeOf : List (List Nat) := [[0, 1, 4, 5, 8, 11, 12, 15, 16, 19, 20, 23, 24, 27, 28, 31], [32, 33, 35, 36, 37, 38, 39, 42, 44, 45, 46, 47, 48, 51, 52, 55], [56]]
def pc_X13_notShout : List (List Nat) := [[0, 1, 2, 5, 8, 9, 10, 11, 14, 15, 16, 19, 20, 22, 23, 26], [27, 28, 31, 34, 35]]
def pc_X13_writesPage : List (List Nat) := [[0, 2, 3, 4, 6, 9, 10, 13, 14, 15, 18, 19, 20, 21, 22, 23], [26, 29, 30, 33, 35, 36, 37, 38, 41, 43, 44, 47, 48, 49, 52, 54], [55, 58, 59, 60, 63, 65, 66, 67, 70, 71, 72, 75, 77, 78, 79, 80], [83, 85, 86, 87, 88, 91, 93, 94, 96, 99, 100, 103, 104, 105, 106, 107], [110, 112, 113, 116, 117, 118, 119, 120, 122, 125, 126, 129, 131, 132, 133, 134], [135, 138, 141, 142, 145, 146, 147, 150, 151, 152, 155, 158]]
def pc_X13_shouts : List (List Nat) := [[0, 1, 2, 5, 6, 7, 10, 11, 12, 13, 14, 17, 18, 21, 22, 23], [24, 25, 26, 27, 28, 31, 32, 33, 34, 35, 38, 39, 40, 41, 44, 45], [46, 47, 48, 51, 52, 53, 54, 57, 58, 59, 60, 61, 62, 63, 64, 67], [68, 69, 70, 73, 75, 76, 77, 78, 81, 82, 83, 84, 87, 89, 90, 91], [92, 93, 94, 95, 96, 97, 98, 99, 100, 103, 104, 105, 108, 109, 110, 111], [112, 113, 114, 117, 118, 119, 122, 123, 124, 125, 126, 127, 128, 131, 134, 135], [138, 140, 142, 143, 144, 145, 146, 147, 148, 149, 150, 151, 152, 153, 154, 155], [158, 161, 162]]
def pc_X13_shout : List (List Nat) := [[0, 1, 2, 5, 6, 7, 8, 11, 14, 17, 18, 21, 22, 23, 26, 27], [30, 31, 32, 35, 36, 37, 40]]
def pc_X13_wellOf : List (List Nat) := [[0, 1, 2, 5, 6, 7, 10, 13, 14, 15, 18, 19, 20, 68, 69, 70], [71, 74, 75, 76, 77, 78, 79, 82, 83, 84, 85, 86, 87, 90, 91, 92], [93, 94, 97, 98, 99, 100, 101, 104, 105, 106, 107, 110, 111, 112, 113, 116]]
def pc_X13_thingOf : List (List Nat) := [[0, 1, 2, 5, 6, 7, 10, 13, 14, 15, 16, 19, 22, 23, 24, 27], [28, 29, 64, 65, 66, 67, 68, 71, 72, 73, 74, 75, 76, 79, 80, 81], [82, 83, 84, 87, 88, 89, 90, 91, 94, 95, 98, 100, 103, 104, 105, 106], [107, 108, 109, 110, 113, 114, 115, 116, 117, 120, 121, 122, 123, 126]]
def pc_X13_ropeOf : List (List Nat) := [[0, 1, 2, 5, 6, 7, 10, 13, 14, 15, 18, 19, 20, 21, 22, 25], [28, 29, 30, 33, 34, 35, 36, 39, 40, 41, 44, 47, 48, 49, 50, 53]]
def pc_X13_bookOf : List (List Nat) := [[0, 1, 2, 5, 6, 7, 8, 11, 13, 14, 15, 16, 19, 22, 23, 24], [27, 28, 29, 30, 31, 34, 37, 38, 41, 43, 44, 45, 46, 47, 48, 49], [50, 53, 54, 55, 58]]
def pc_X13_time : List (List Nat) := [[0, 1, 2, 5, 6, 7, 10, 13, 14, 15, 18, 21, 22, 23, 26]]
def pc_X13_timeAgain : List (List Nat) := [[0, 1, 2, 5]]
def pc_X13_isLater : List (List Nat) := [[0, 1, 2, 5, 6, 7, 10, 13, 14, 15, 18, 21, 22, 23, 26, 29], [30, 33, 34, 35, 36, 37, 40, 41, 42, 45, 48, 49, 52, 53]]
def pc_X13_hasEcho : List (List Nat) := [[0, 1, 2, 5, 6, 7, 10, 13, 14, 15, 18, 21, 22, 25, 26, 27], [28, 31, 34, 35, 36, 39, 42, 43, 46, 47, 48, 49, 52, 53, 54, 57], [58]]
def pc_X13_echoLength : List (List Nat) := [[0, 1, 2, 5, 8, 9, 12, 15, 16]]
def pc_X13_echoLetter : List (List Nat) := [[0, 1, 2, 5, 8, 9, 10, 11, 12, 13, 16, 17, 18, 21, 24, 25], [28, 29, 30, 31, 34, 35, 36, 39, 40]]
def pc_X13_losses : List (List Nat) := [[0, 1, 2, 5, 8, 9, 12, 15, 16]]
def pc_X13_wouldGrade : List (List Nat) := [[0, 1, 2, 5, 8, 9, 10, 13, 16, 17]]
def pc_X13_gradeNow : List (List Nat) := [[0, 1, 2, 5, 6, 7, 10]]
def pc_X13_isBetter : List (List Nat) := [[0, 1, 2, 5, 6, 7, 10, 11, 12, 13, 16, 17, 20, 21, 24, 25], [28, 29, 30, 33, 34, 35, 38, 41, 42, 45, 46]]
def pc_X13_bestWell : List (List Nat) := [[0, 1, 2, 5, 6, 9, 12, 13, 16, 17, 18, 21, 22, 23, 26, 27], [28, 31, 32, 33, 34, 35, 36, 37, 40, 41, 42, 45, 46, 47, 48, 51], [54, 55, 58, 59, 60, 63, 66, 67]]
def pc_X13_isWhole : List (List Nat) := [[0, 1, 2, 5, 8, 9, 12, 13, 16, 19, 20, 21, 22, 23, 24, 25], [28, 31, 32, 35, 36, 37, 38, 41, 42, 43, 46, 47, 48, 51, 54, 55]]
def pc_X13_vowels : List (List Nat) := [[0, 1, 2, 5, 6, 7, 8, 9, 10, 11, 14, 17, 18, 19, 22, 23], [24, 27, 30, 31, 34, 35, 36, 37, 40, 43, 44]]
def pc_X13_reach : List (List Nat) := [[0, 1, 2, 5, 6, 7, 10, 13, 14, 15, 18, 19, 20, 21, 24, 27], [28, 29, 32, 35, 36, 37, 40, 43, 44, 45, 48]]
def pc_X13_rank : List (List Nat) := [[0, 1, 4, 5, 6, 7, 10, 11, 12, 13, 16, 17, 18, 21, 22, 23], [24, 25, 26, 29, 30, 33, 34, 37]]
def pc_X13_ranked : List (List Nat) := [[0, 1, 2, 5, 6, 7, 8, 11, 14, 15, 16, 19, 20, 21, 22, 23], [24, 27, 28, 29, 32, 33, 35, 36, 38, 40, 41, 44, 45, 46, 49, 51], [52, 53, 55, 58, 59, 60, 61, 64, 67, 68, 69, 71, 74, 75, 76, 77], [80, 83, 85, 86, 89, 90, 93, 94, 95, 97, 100, 103, 105, 106, 109, 110], [111, 114, 117, 118, 119, 122]]
def pc_X13_isTold : List (List Nat) := [[0, 1, 2, 5, 6, 7, 8, 9, 12, 13, 14, 17, 18, 19, 20, 21], [22, 23, 26, 29, 30, 31, 32, 33, 36, 37, 38, 39, 42, 45, 46, 47], [50, 53, 56, 59, 60, 63, 65, 66, 67, 70, 71, 72, 73, 76, 77, 78], [79, 80, 83, 84, 85, 86, 89, 90, 93, 94]]
def pc_X13_writes : List (List Nat) := [[0, 1, 4, 5, 8, 9, 10, 11, 12, 13, 16, 17, 18, 21]]
def pc_X13_writesNumber : List (List Nat) := [[0, 1, 3, 6, 7, 9, 10, 12, 13, 14, 17, 18, 20, 21, 23, 24], [25, 28]]
def pc_X13_tellWord : List (List Nat) := [[0, 1, 2, 5, 6, 7, 10, 11, 12, 13, 14, 17, 20, 21, 22, 25], [26, 27, 30, 33, 36, 37, 40]]
def pc_X13_tellEcho : List (List Nat) := [[0, 1, 2, 5, 6, 7, 10, 11, 12, 13, 14, 17, 19, 20, 23, 24], [25, 28, 30, 31, 32, 33, 36, 39, 42, 43, 46]]
def pc_X13_writesThing : List (List Nat) := [[0, 1, 2, 3, 4, 7, 8, 9, 10, 11, 12, 15, 17, 18, 20, 23], [24, 25, 28, 30, 33, 34, 35, 38, 40, 43, 45, 48, 49, 50, 51, 54], [56, 57, 58, 59, 60, 63, 64, 67, 69, 72, 73, 74, 77, 79, 81, 82], [85, 86, 88, 91, 92, 93, 94, 95, 96, 99, 102]]
def pc_X13_tellWell : List (List Nat) := [[0, 1, 2, 5, 6, 7, 10, 13, 14, 15, 18, 19, 20, 21, 24, 25], [26, 27, 28, 31, 34, 35, 36, 37, 40, 41, 42, 43, 46, 48, 51, 52], [53, 56, 58, 61, 63, 66, 67, 68, 69, 70, 71, 72, 75, 78, 79, 80], [81, 84, 87, 90, 91, 94]]
def pc_X13_character : List (List Nat) := [[0, 1, 2, 5, 6, 7, 8, 11, 12, 13, 16, 19, 20, 23, 24, 25], [26, 27, 28, 31, 32]]
def pc_X13_thingsAll : List (List Nat) := [[0, 1, 2, 3, 4, 5, 6, 9, 10, 11, 14, 15, 16, 17, 18, 21], [22, 23, 26, 29, 30]]
def pc_X13_account : List (List Nat) := [[0, 1, 2, 5, 6, 76, 77, 80, 81, 82, 83, 84, 87, 88, 89, 92], [93, 94, 97, 98, 99, 100, 101, 104, 105, 106, 109, 110, 111, 112, 113, 116], [117, 118, 119, 120, 123, 124, 125, 126, 127, 130, 131, 132, 133, 134, 137, 139], [140, 141, 142, 145, 147, 148, 149, 150, 153, 155, 156, 157, 158, 161, 162, 163], [166, 167, 168, 169, 172]]
def pc_X13_meanGrade : List (List Nat) := [[0, 1, 2, 5, 6, 9, 10, 11, 14, 15, 16, 19, 20, 23, 24, 27], [29, 30, 31, 32, 35, 36, 37, 38, 39]]
def pc_X13_lostShare : List (List Nat) := [[0, 1, 2, 5, 6, 9, 10, 11, 14, 15, 16, 19, 20, 23, 24, 27], [28, 29, 30, 31, 34, 35, 36, 37, 40, 41, 42, 43, 44, 45]]
def pc_X13_append : List (List Nat) := [[0, 1, 2, 5, 6, 8, 10, 13, 16, 17, 18, 21, 22, 23, 26, 28], [31, 32, 33, 36, 37, 38, 41, 42, 45, 46, 47, 48, 49, 52, 53, 54], [57, 58, 61]]
def pc_X13_faultPosition : List (List Nat) := [[0, 1, 2, 5, 6, 9]]
def pc_X13_nextSign : List (List Nat) := [[0, 1, 4, 5, 8, 11, 12, 15, 16, 19, 20, 23, 24]]
def pc_X13_reads : List (List Nat) := [[0, 1, 4, 5, 8, 9, 10, 11, 12, 15, 16, 17, 20, 21]]
def pc_X13_readsDigit : List (List Nat) := [[0, 1, 4, 6, 8, 11, 14, 15, 16, 17, 20, 21, 22, 25, 27, 28], [29, 30, 31, 34, 35, 36, 39, 40]]
def pc_X13_readsNumber : List (List Nat) := [[0, 1, 2, 5, 8, 9, 10, 11, 14, 16, 18, 21, 24, 25, 26, 27], [30, 31, 33, 34, 37, 38, 39, 40, 41, 44, 45, 47, 48, 49, 50, 51], [54, 55, 56, 59, 60]]
def pc_X13_readsRest : List (List Nat) := [[0, 1, 2, 5, 8, 9, 10, 13, 16, 17, 18, 21, 24, 25, 27, 30], [33, 34, 37, 38]]
def pc_X13_readsBottom : List (List Nat) := [[0, 1, 4, 5, 6, 9, 10, 11, 13, 16, 17, 20, 21, 23, 26, 27], [30, 31, 32, 33, 35, 38, 41, 42, 44, 47, 50, 51, 53, 56, 59, 60], [63, 64]]
def pc_X13_readsD : List (List Nat) := [[0, 1, 3, 6, 9, 10, 12, 15, 18, 19, 21, 24, 27, 28, 29, 32], [35, 36, 38, 41, 44, 45, 48, 51, 52, 55, 56, 57, 58, 60, 63, 64], [66, 69, 72, 73, 75, 78, 81, 82, 84, 86, 88, 91, 94, 95, 96, 99], [102, 103, 105, 108, 111, 112, 113, 116, 119, 120, 123, 124]]
def pc_X13_readsLetter : List (List Nat) := [[0, 1, 4, 5, 6, 9, 10, 11, 14, 17, 20, 21, 22, 23, 24, 27], [28, 29, 32, 33]]
def pc_X13_readsPlace : List (List Nat) := [[0, 1, 2, 5, 8, 9, 11, 14, 17, 18, 19, 22, 25, 26, 28, 31], [34, 35, 38, 39]]
def pc_X13_readsF : List (List Nat) := [[0, 1, 3, 6, 7, 9, 12, 15, 16, 18, 21, 24, 25, 27, 30, 33], [34, 36, 39, 42, 43, 46, 49, 50, 53, 56, 57, 60, 61, 62, 63, 65], [68, 71, 72, 73, 74, 76, 79, 80, 82, 85, 88, 89, 91, 94, 97, 98], [100, 103, 106, 107, 108, 111, 114, 115, 118, 119, 120, 121, 123, 126, 127, 129], [132, 135, 136, 138, 141, 144, 145, 147, 150, 153, 154, 155, 158, 161, 162, 165], [166]]
def pc_X13_readsShout : List (List Nat) := [[0, 1, 3, 6, 9, 10, 12, 15, 18, 19, 21, 24, 27, 28, 30, 33], [36, 37, 39, 42, 45, 46, 47, 50, 53, 54, 56, 59, 62, 63, 64, 65], [66, 69, 70, 73, 75, 78, 79, 82, 85, 88, 89, 92, 93, 96, 97, 100], [101, 102, 103, 106, 107, 108, 111, 112, 113, 116, 117, 118, 121, 124, 125, 128], [131, 132, 135, 136]]
def pc_X13_readsTwo : List (List Nat) := [[0, 1, 2, 5, 8, 9, 11, 14, 17, 18, 19, 22, 25, 26, 29, 30]]
def pc_X13_readsOrder : List (List Nat) := [[0, 1, 2, 5, 8, 9, 11, 14, 17, 18, 21, 22, 23, 25, 28, 31], [32, 35, 36, 37, 39, 42, 45, 46, 48, 50, 52, 55, 58, 59, 62, 65], [66, 67, 70, 73, 74, 77, 78, 79, 80, 82, 85, 88, 89, 91, 93, 95], [98, 101, 102, 105, 108, 109, 110, 113, 116, 117, 120, 121, 122, 123, 125, 128], [131, 132, 134, 136, 138, 141, 144, 145, 148, 151, 152, 155, 156, 157, 158, 160], [163, 166, 167, 169, 172, 175, 176, 178, 181, 184, 185, 187, 190, 193, 194, 197], [198, 199, 200, 202, 205, 208, 209, 211, 213, 215, 218, 221, 222, 223, 226, 229], [230, 233, 234, 235, 236, 238, 241, 244, 245, 247, 249, 251, 254, 257, 258, 261], [264, 265, 268, 269, 270, 271, 273, 276, 279, 280, 283, 286, 287, 290, 291]]
def pc_X13_readsAll : List (List Nat) := [[0, 1, 2, 5, 6, 7, 8, 11, 12, 15, 18, 19, 20, 21, 23, 26], [27, 30, 31, 34, 35, 38, 41, 42, 45, 46]]
def pc_X13_notNow : List (List Nat) := [[0, 1, 4, 5, 6, 7, 8, 11, 12, 13, 14, 15, 18, 19, 20, 21], [22, 25, 128, 129, 130, 131, 134, 135, 136, 137, 138, 141, 142, 143, 144, 147], [148, 149, 150, 151, 152, 153, 155, 158, 159, 160, 161, 162, 163, 165, 167, 170], [171, 172, 173, 174, 177, 178, 179, 180, 181, 182, 185, 186, 187, 188, 189, 192], [193, 194, 195, 198, 199, 200, 201, 202, 205, 208]]
def pc_X13_doesNow : List (List Nat) := [[0, 1, 4, 5, 6, 7, 8, 11, 12, 13, 14, 15, 18, 19, 20, 21], [22, 25, 128, 129, 130, 131, 134, 135, 136, 137, 138, 141, 142, 143, 144, 147], [148, 149, 150, 151, 152, 153, 156, 157, 158, 159, 160, 161, 162, 165, 166, 167], [168, 169, 170, 171, 174, 175, 176, 177, 178, 181, 182, 183, 186, 187, 188, 189], [192, 193, 194, 195, 196, 199, 200, 201, 202, 205, 206, 207, 208, 211]]
def pc_X13_doesAll : List (List Nat) := [[0, 1, 2, 5, 6, 7, 10, 11, 12, 13, 16, 17, 20, 21, 22, 25], [28, 29, 30, 31, 34, 35, 36, 37, 40, 41, 42, 45, 46, 48, 51, 52], [55, 56]]
def pc_X13_keepsBehind : List (List Nat) := [[0, 1, 3, 6, 7, 8, 11, 14, 15, 16, 19, 22, 23, 24, 27, 30]]
def pc_X13_run : List (List Nat) := [[0, 1, 2, 5, 6, 7, 10, 11, 14, 17, 18, 19, 22, 25, 26, 27], [30, 31, 32, 35, 36, 37, 40, 41, 44, 45, 46, 47, 50, 51, 54, 55], [58, 59, 62, 63, 64, 67, 68, 71, 72, 73, 76]]
def pc_X13_undo : List (List Nat) := [[0, 1, 2, 5, 6, 9, 12, 13, 14, 17, 18, 19, 20, 23, 24, 25], [28, 29, 32, 33, 36, 37, 39, 40, 41, 42, 43, 44, 47, 50, 51, 54], [55, 56, 59, 62, 63, 64, 65, 66, 67, 68, 71, 74, 75, 78]]
def pc_X13_save : List (List Nat) := [[0, 1, 2, 5, 6, 7, 8, 11, 14, 15, 18, 19, 20, 23, 24, 25], [26, 29, 32, 33, 34, 37, 38, 41, 42, 43]]
def pc_X13_restore : List (List Nat) := [[0, 1, 2, 5, 6, 9, 12, 13, 14, 17, 18, 19, 20, 21, 24, 27], [28, 31, 32, 33, 36, 37, 38, 39, 42, 45, 46, 47, 50, 51, 52, 55], [56, 59, 60, 61]]
def pc_L_dig : List (List Nat) := [[0, 1, 2, 3, 4, 5, 8, 9, 10, 13, 15, 16, 17, 18]]
def pc_L_deepen : List (List Nat) := [[0, 1, 2, 3, 4, 5, 8, 9, 10, 13, 15, 16, 17, 18]]
def pc_L_fill : List (List Nat) := [[0, 1, 2, 3, 4, 7, 8, 9, 12, 13, 14, 15, 16]]
def pc_L_coin : List (List Nat) := [[0, 2, 3, 4, 5, 6, 7, 10, 11, 12, 15, 17, 18, 19, 20]]
def pc_L_frog : List (List Nat) := [[0, 2, 3, 4, 5, 6, 7, 10, 11, 12, 15, 17, 18, 19, 20]]
def pc_L_moss : List (List Nat) := [[0, 2, 3, 4, 5, 6, 7, 10, 11, 12, 15, 17, 18, 19, 20]]
def pc_L_take : List (List Nat) := [[0, 1, 2, 3, 4, 5, 8, 9, 10, 13, 15, 16, 17, 18]]
def pc_L_rope : List (List Nat) := [[0, 1, 2, 3, 4, 7, 8, 9, 12, 13, 14, 15, 16]]
def pc_L_bind : List (List Nat) := [[0, 1, 2, 3, 4, 5, 8, 9, 10, 13, 15, 16, 17, 18]]
def pc_L_fish : List (List Nat) := [[0, 1, 2, 3, 4, 7, 8, 9, 12, 13, 14, 15, 16]]
def pc_L_letter : List (List Nat) := [[0, 1, 2, 3, 4, 7, 8, 9, 12, 13, 14, 15, 16, 17, 18, 19]]
def pc_L_shout : List (List Nat) := [[0, 1, 2, 3, 4, 7, 8, 9, 12, 13, 14, 15, 16]]
def pc_L_wellOf : List (List Nat) := [[0, 1, 2, 3, 4, 5, 8, 9, 10, 13, 15, 16, 17, 19, 20, 21], [22]]
def pc_L_thingOf : List (List Nat) := [[0, 2, 3, 4, 5, 6, 7, 10, 11, 12, 15, 17, 18, 19, 21, 22], [23, 24]]
def pc_L_ropeOf : List (List Nat) := [[0, 1, 2, 3, 4, 5, 8, 9, 10, 13, 15, 16, 17, 19, 20, 21], [22]]
def pc_L_bookOf : List (List Nat) := [[0, 1, 2, 3, 4, 5, 8, 9, 10, 13, 15, 16, 17, 19, 20, 21], [22]]
def pc_L_time : List (List Nat) := [[0, 1, 2, 3, 4, 7, 8, 9, 12, 13, 14, 15, 16]]
def pc_L_timeAgain : List (List Nat) := [[0, 1, 2, 3, 4, 7, 8, 9, 12, 13, 14, 15, 16]]
def pc_L_isLater : List (List Nat) := [[0, 1, 2, 3, 4, 5, 8, 11, 12, 15, 16, 17, 20, 22, 23, 24], [25]]
def pc_L_echoLength : List (List Nat) := [[0, 1, 2, 3, 4, 7, 8, 9, 12, 13, 14, 15, 16, 17, 18, 19]]
def pc_L_echoLetter : List (List Nat) := [[0, 1, 2, 3, 4, 5, 8, 9, 10, 13, 15, 16, 17, 19, 20, 21], [22]]
def pc_L_losses : List (List Nat) := [[0, 1, 2, 3, 4, 7, 8, 9, 12, 13, 14, 15, 16, 17, 18, 19]]
def pc_L_wouldGrade : List (List Nat) := [[0, 1, 2, 3, 4, 7, 8, 9, 12, 13, 14, 15, 16, 17, 18, 19]]
def pc_L_bestWell : List (List Nat) := [[0, 1, 2, 3, 6, 7, 8, 11, 12, 13, 14, 15]]
def pc_L_isWhole : List (List Nat) := [[0, 1, 2, 3, 4, 7, 10, 11, 14, 15, 16, 19, 20, 21, 22, 23], [24, 25, 26]]
def pc_L_reach : List (List Nat) := [[0, 1, 2, 3, 4, 7, 8, 9, 12, 13, 14, 15, 16, 17, 18, 19]]
def pc_L_ranked : List (List Nat) := [[0, 1, 2, 3, 4, 5, 8, 9, 10, 13, 15, 16, 17, 19, 20, 21], [22]]
def pc_L_append : List (List Nat) := [[0, 1, 2, 3, 4, 7, 8, 9, 12, 13, 14, 15, 16, 17, 18, 19]]
def pc_L_run : List (List Nat) := [[0, 1, 2, 3, 6, 7, 8, 11, 12, 13, 14, 15, 16, 17, 18]]
def pc_L_reason : List (List Nat) := [[0, 1, 2, 3, 4, 5, 8, 9, 10, 13, 15, 16, 17, 19, 20, 21], [22]]
def pc_L_tellWell : List (List Nat) := [[0, 1, 2, 3, 4, 7, 8, 9, 12, 13, 14, 15, 16]]
def pc_L_character : List (List Nat) := [[0, 1, 2, 3, 4, 7, 8, 9, 12, 13, 14, 15, 16]]
def pc_L_account : List (List Nat) := [[0, 1, 2, 3, 4, 7, 8, 9, 12, 13, 14, 15, 16]]
def pc_L_meanGrade : List (List Nat) := [[0, 1, 2, 3, 6, 7, 10, 11, 12, 13, 14]]
def pc_L_lostShare : List (List Nat) := [[0, 1, 2, 3, 6, 7, 8, 11, 12, 13, 14, 15]]
def pc_L_undo : List (List Nat) := [[0, 1, 2, 3, 6, 7, 8, 11, 12, 13, 14, 15]]
def pc_L_restore : List (List Nat) := [[0, 1, 2, 3, 6, 7, 8, 11, 12, 13, 14, 15]]
def pc_L_law : List (List Nat) := [[0, 3, 4, 7, 8, 11, 12, 15, 16, 17, 19, 20, 21, 23, 25, 26], [28, 30, 31, 32, 33, 34, 37, 38, 40, 41, 43, 44, 236, 237, 238, 240], [241, 242, 243, 244, 246, 247, 248, 249, 250, 253, 255, 256, 257, 259, 260, 261], [262, 263, 265, 266, 267, 268, 271, 273, 274, 277, 279, 282, 283, 284, 286, 289], [290, 291, 292, 294, 295, 296, 299, 300, 301, 304, 305, 306, 308, 309, 310, 311], [312, 314, 315, 316, 317, 318, 321, 323, 324, 325, 327, 328, 329, 330, 331, 333], [334, 335, 336, 339, 341, 342, 345, 347, 350, 351, 352, 354, 357, 358, 359, 360], [362, 363, 364, 367, 368, 369, 372, 373, 374, 376, 377, 378, 379, 380, 383, 385], [386, 387, 389, 390, 391, 392, 395, 397, 398, 401, 403, 406, 407, 408, 410, 413], [414, 415, 416, 418, 419, 420, 423, 424, 425, 428, 429, 430, 432, 433, 434, 435], [436, 438, 439, 440, 441, 442, 444, 445, 446, 447, 448, 451, 453, 454, 455, 457], [458, 459, 460, 461, 463, 464, 465, 466, 467, 469, 470, 471, 472, 475, 477, 478], [481, 483, 486, 487, 488, 490, 493, 494, 495, 496, 498, 499, 500, 503, 504, 505], [508, 509, 510, 512, 513, 514, 515, 516, 518, 519, 520, 521, 522, 524, 525, 526], [527, 528, 529, 532, 534, 535, 536, 538, 539, 540, 541, 542, 544, 545, 546, 547], [548, 550, 551, 552, 553, 554, 557, 559, 560, 563, 565, 568, 569, 570, 572, 575], [576, 577, 578, 580, 581, 582, 585, 586, 587, 590, 591, 592, 594, 595, 596, 597], [598, 600, 601, 602, 603, 604, 606, 607, 608, 609, 610, 613, 615, 616, 617, 619], [620, 621, 622, 623, 625, 626, 627, 628, 629, 631, 632, 633, 634, 637, 639, 640], [643, 645, 648, 649, 650, 652, 655, 656, 657, 658, 660, 661, 662, 665, 666, 667], [670, 671, 672, 674, 675, 676, 677, 678, 680, 681, 682, 683, 684, 687, 689, 690], [691, 693, 694, 695, 696, 697, 699, 700, 701, 702, 705, 707, 708, 711, 713, 716], [717, 718, 720, 723, 724, 725, 726, 728, 729, 730, 733, 734, 735, 738, 739, 742], [743, 746, 749, 750, 751, 752, 753, 755, 756, 757, 758, 759, 762, 764, 765, 766], [768, 769, 770, 771, 774, 776, 777, 780, 782, 785, 786, 787, 789, 792, 793, 794], [795, 797, 798, 799, 802, 803, 804, 807, 808, 809, 811, 812, 813, 814, 815, 817], [818, 819, 820, 821, 824, 826, 827, 828, 830, 831, 832, 833, 834, 836, 837, 838], [839, 842, 844, 845, 848, 850, 853, 854, 855, 857, 860, 861, 862, 863, 865, 866], [867, 870, 871, 872, 875, 876, 877, 879, 880, 881, 882, 883, 886, 888, 889, 890], [892, 893, 894, 895, 898, 900, 901, 904, 906, 909, 910, 911, 913, 916, 917, 918], [919, 921, 922, 923, 926, 927, 928, 931, 932, 933, 935, 936, 937, 938, 939, 940], [943, 945, 946, 947, 949, 950, 951, 952, 953, 956, 958, 959, 962, 964, 967, 968], [969, 971, 974, 975, 976, 977, 979, 980, 981, 984, 985, 986, 989, 990, 991, 993], [994, 995, 996, 997, 1000, 1002, 1003, 1004, 1006, 1007, 1008, 1009, 1012, 1014, 1015, 1018], [1020, 1023, 1024, 1025, 1027, 1030, 1031, 1032, 1033, 1035, 1036, 1037, 1040, 1041, 1042, 1045], [1046, 1047, 1049, 1050, 1051, 1052, 1053, 1055, 1056, 1057, 1058, 1059, 1062, 1064, 1065, 1066], [1068, 1069, 1070, 1071, 1072, 1074, 1075, 1076, 1077, 1080, 1082, 1083, 1086, 1088, 1091, 1092], [1093, 1095, 1098, 1099, 1100, 1101, 1103, 1104, 1105, 1108, 1109, 1110, 1113, 1114, 1115, 1117], [1118, 1119, 1120, 1121, 1123, 1124, 1125, 1126, 1127, 1129, 1130, 1131, 1132, 1133, 1136, 1138], [1139, 1140, 1142, 1143, 1144, 1145, 1146, 1148, 1149, 1150, 1151, 1152, 1154, 1155, 1156, 1157], [1160, 1162, 1163, 1166, 1168, 1171, 1172, 1173, 1175, 1178, 1179, 1180, 1181, 1183, 1184, 1185], [1188, 1189, 1190, 1193, 1194, 1195, 1197, 1198, 1199, 1200, 1201, 1203, 1204, 1205, 1206, 1207], [1210, 1212, 1213, 1214, 1216, 1217, 1218, 1219, 1220, 1222, 1223, 1224, 1225, 1228, 1230, 1231], [1234, 1236, 1239, 1240, 1241, 1243, 1246, 1247, 1248, 1249, 1251, 1252, 1253, 1256, 1257, 1258], [1261, 1262, 1263, 1265, 1266, 1267, 1268, 1269, 1271, 1272, 1273, 1274, 1275, 1278, 1280, 1281], [1282, 1284, 1285, 1286, 1287, 1288, 1290, 1291, 1292, 1293, 1296, 1298, 1299, 1302, 1304, 1307], [1308, 1309, 1311, 1314, 1315, 1316, 1317, 1319, 1320, 1321, 1324, 1325, 1326, 1329, 1330, 1331], [1333, 1334, 1335, 1336, 1337, 1340, 1342, 1343, 1344, 1346, 1347, 1348, 1349, 1352, 1354, 1355], [1358, 1360, 1363, 1364, 1365, 1367, 1370, 1371, 1372, 1373, 1375, 1376, 1377, 1380, 1381, 1382], [1385, 1386, 1387, 1389, 1390, 1391, 1392, 1393, 1396, 1398, 1399, 1400, 1402, 1403, 1404, 1405], [1408, 1410, 1411, 1414, 1416, 1419, 1420, 1421, 1423, 1426, 1427, 1428, 1429, 1431, 1432, 1433], [1436, 1437, 1438, 1441, 1442, 1443, 1445, 1446, 1447, 1448, 1449, 1451, 1452, 1453, 1454, 1455], [1458, 1460, 1461, 1462, 1464, 1465, 1466, 1467, 1468, 1470, 1471, 1472, 1473, 1476, 1478, 1479], [1482, 1484, 1487, 1488, 1489, 1491, 1494, 1495, 1496, 1497, 1499, 1502, 1503, 1506, 1507, 1508], [1511, 1512, 1513, 1516, 1517, 1518, 1520, 1521, 1522, 1523, 1524, 1527, 1529, 1530, 1531, 1533], [1534, 1535, 1536, 1539, 1541, 1542, 1545, 1547, 1550, 1551, 1552, 1554, 1557, 1558, 1559, 1560], [1562, 1563, 1564, 1567, 1568, 1569, 1572, 1573, 1574, 1576, 1577, 1578, 1579, 1580, 1582, 1583], [1584, 1585, 1586, 1589, 1591, 1592, 1593, 1595, 1596, 1597, 1598, 1599, 1601, 1602, 1603, 1604], [1607, 1609, 1610, 1613, 1615, 1618, 1619, 1620, 1622, 1625, 1626, 1627, 1628, 1630, 1631, 1632], [1635, 1636, 1637, 1640, 1641, 1642, 1644, 1645, 1646, 1647, 1648, 1651, 1653, 1654, 1655, 1657], [1658, 1659, 1660, 1663, 1665, 1666, 1669, 1671, 1674, 1675, 1676, 1678, 1681, 1682, 1683, 1684], [1686, 1687, 1688, 1691, 1692, 1693, 1696, 1697, 1698, 1700, 1701, 1702, 1703, 1704, 1707, 1709], [1710, 1711, 1713, 1714, 1715, 1716, 1719, 1721, 1722, 1725, 1727, 1730, 1731, 1732, 1734, 1737], [1738, 1739, 1740, 1742, 1743, 1744, 1747, 1748, 1749, 1752, 1753, 1754, 1757, 1759, 1760, 1763], [1765, 1766, 1769, 1771, 1774, 1775, 1776, 1778, 1781, 1782, 1783, 1784, 1786, 1787, 1788, 1791], [1792, 1793, 1796, 1797, 1798, 1800, 1801, 1802, 1803, 1804, 1807, 1809, 1810, 1811, 1813, 1814], [1815, 1816, 1819, 1821, 1822, 1825, 1827, 1830, 1831, 1832, 1834, 1837, 1838, 1839, 1840, 1842], [1845, 1846, 1849, 1850, 1851, 1854, 1855, 1856, 1859, 1860, 1863, 1864, 1867, 1870, 1871, 1872], [1873, 1874, 1876, 1877, 1878, 1879, 1880, 1883, 1885, 1886, 1887, 1889, 1890, 1891, 1892, 1895], [1897, 1898, 1901, 1903, 1906, 1907, 1908, 1910, 1913, 1914, 1915, 1916, 1918, 1919, 1920, 1923], [1924, 1925, 1928, 1929, 1930, 1932, 1933, 1934, 1935, 1936, 1938, 1939, 1940, 1941, 1942, 1945], [1947, 1948, 1949, 1951, 1952, 1953, 1954, 1955, 1957, 1958, 1959, 1960, 1963, 1965, 1966, 1969], [1971, 1974, 1975, 1976, 1978, 1981, 1982, 1983, 1984, 1986, 1987, 1988, 1991, 1992, 1993, 1996], [1997, 2000, 2001, 2004, 2007, 2008, 2009, 2010, 2011, 2013, 2014, 2015, 2016, 2017, 2018, 2021], [2023, 2024, 2025, 2027, 2028, 2029, 2030, 2031, 2034, 2036, 2037, 2040, 2042, 2045, 2046, 2047], [2049, 2052, 2053, 2054, 2055, 2057, 2058, 2059, 2062, 2063, 2064, 2067, 2068, 2069, 2072, 2074], [2075, 2078, 2080, 2081, 2084, 2086, 2089, 2090, 2091, 2093, 2096, 2097, 2098, 2099, 2101, 2102], [2103, 2106, 2107, 2108, 2111, 2112, 2115, 2116, 2119, 2122, 2123, 2124, 2125, 2126, 2128, 2129], [2130, 2131, 2132, 2134, 2135, 2136, 2137, 2140, 2141, 2144, 2145, 2146, 2149, 2151, 2152, 2153], [2155, 2156, 2157, 2158, 2159, 2161, 2162, 2163, 2164, 2167, 2168, 2171, 2172, 2175, 2177, 2178], [2181, 2183, 2186, 2187, 2188, 2190, 2193, 2194, 2195, 2196, 2198, 2199, 2200, 2203, 2204, 2205], [2208, 2209, 2212, 2213, 2216, 2219, 2220, 2221, 2222, 2225, 2226, 2229, 2232, 2233, 2234, 2235], [2236, 2238, 2239, 2240, 2241, 2242, 2245, 2247, 2248, 2249, 2251, 2252, 2253, 2254, 2257, 2259], [2260, 2263, 2265, 2268, 2269, 2270, 2272, 2275, 2276, 2277, 2278, 2280, 2281, 2282, 2285, 2286], [2287, 2290, 2291, 2292, 2294, 2295, 2296, 2297, 2298, 2301, 2303, 2304, 2305, 2307, 2308, 2309], [2310, 2313, 2315, 2316, 2319, 2321, 2324, 2325, 2326, 2328, 2331, 2332, 2333, 2334, 2336, 2337], [2338, 2341, 2342, 2343, 2346, 2347, 2348, 2350, 2351, 2352, 2353, 2354, 2357, 2359, 2360, 2361], [2363, 2364, 2365, 2366, 2369, 2371, 2372, 2375, 2377, 2380, 2381, 2382, 2384, 2387, 2388, 2389], [2390, 2392, 2393, 2394, 2397, 2398, 2399, 2402, 2403, 2405, 2408, 2410, 2411, 2414, 2416, 2417], [2420, 2422, 2425, 2426, 2427, 2429, 2432, 2434, 2435, 2436, 2438, 2439, 2442, 2444, 2445, 2446], [2448, 2449, 2450, 2451, 2454, 2456, 2458, 2459, 2462, 2463, 2464, 2467, 2468, 2470, 2473, 2475], [2476, 2479, 2481, 2482, 2485, 2487, 2490, 2491, 2492, 2494, 2497, 2499, 2500, 2501, 2503, 2504], [2505, 2508, 2510, 2511, 2512, 2514, 2515, 2516, 2517, 2520, 2522, 2524, 2525, 2528, 2529, 2530], [2533, 2534, 2535, 2538, 2540, 2541, 2544, 2546, 2547, 2550, 2552, 2555, 2556, 2557, 2559, 2562], [2563, 2564, 2565, 2567, 2568, 2569, 2572, 2573, 2574, 2577, 2578, 2581, 2582, 2585, 2588, 2589], [2590, 2591, 2592, 2595, 2597, 2598, 2601, 2603, 2604, 2607, 2609, 2612, 2613, 2614, 2616, 2619], [2620, 2621, 2622, 2624, 2625, 2626, 2629, 2630, 2631, 2634, 2637, 2640, 2641]]
def mPcT : List (List (List (List Nat))) := [[pc_X1_init, pc_X1_copy, pc_X1_numberAt, pc_X1_enter, pc_X1_setFirst, pc_X2_init, pc_X2_look, pc_X2_keep, pc_X2_takeBack, pc_X2_goBack, pc_X2_forget, pc_X2_slotAt, pc_X3_init, pc_X3_obey, pc_X3_refuseOrder, pc_X3_openWell], [pc_X3_lowerBottom, pc_X3_closeWell, pc_X3_dropThing, pc_X3_removeThing, pc_X3_bringRope, pc_X3_tieRope, pc_X3_pullCoin, pc_X3_sendDown, pc_X3_refuse, pc_X3_isIn, pc_X4_init, pc_X4_size, pc_X4_at, pc_X4_put, pc_X4_putNumber, pc_X4_clear], [pc_X4_copy, pc_X4_isSame, pc_X4_countOfVowels, pc_X4_cutLast, pc_X4_cutFirstVowel, pc_X4_cutVowels, pc_X4_turn, pc_X4_cutAt, pc_X6_init, pc_X6_countOrders, pc_X6_rewind, pc_X6_readOrder, pc_X6_readSign, pc_X6_numberAt, pc_X6_readName, pc_X6_sameSigns], [pc_X6_readPart, pc_X6_readNumber, pc_X6_readBottom, pc_X6_readLetter, pc_X6_readWord, pc_X6_note, pc_X6_isDigit, pc_X7_init, pc_X7_set, pc_X8_init, pc_X8_open, pc_X8_copy, pc_X9_init, pc_X9_go, pc_X9_gradeFor, pc_X9_pass], [pc_X9_answer, pc_X9_turnAt, pc_X10_init, pc_X10_open, pc_X10_copy, pc_X10_hasThing, pc_X10_kindOf, pc_X10_depthOf, pc_X10_valueOf, pc_X10_isAwake, pc_X10_add, pc_X10_remove, pc_X10_placeOf, pc_X10_thingAt, pc_X10_uppermostCoin, pc_X10_countOf], [pc_X10_countOfFrogs, pc_X10_setFrogs, pc_X10_timeByKinds, pc_X10_hasThingBelow, pc_X10_set, pc_X11_init, pc_X11_copy, pc_X11_wellAt, pc_X11_ropeAt, pc_X11_addWell, pc_X11_addRope, pc_X11_removeWell, pc_X11_ropesAt, pc_X11_countOfThings, pc_X11_countOfSleepers, pc_X11_wakeFrogs], [pc_X11_enter, pc_X11_copyWell, pc_X11_copyRope, pc_X12_init, pc_X12_dig, pc_X12_deepen, pc_X12_fill, pc_X12_coin, pc_X12_frog, pc_X12_moss, pc_X12_take, pc_X12_wake, pc_X12_rope, pc_X12_bind, pc_X12_fish, pc_X12_letter], [pc_X12_shout, pc_X12_wellOf, pc_X12_thingOf, pc_X12_ropeOf, pc_X12_bookOf, pc_X12_time, pc_X12_timeAgain, pc_X12_isLater, pc_X12_echoLength, pc_X12_echoLetter, pc_X12_losses, pc_X12_wouldGrade, pc_X12_bestWell, pc_X12_isWhole, pc_X12_vowels, pc_X12_reach], [pc_X12_ranked, pc_X12_isTold, pc_X12_append, pc_X12_run, pc_X12_faultPosition, pc_X12_reason, pc_X12_tellWord, pc_X12_tellEcho, pc_X12_tellWell, pc_X12_character, pc_X12_account, pc_X12_meanGrade, pc_X12_lostShare, pc_X12_undo, pc_X12_save, pc_X12_restore], [pc_X12_changed, pc_X12_areObeyed, pc_X12_askedWell, pc_X12_askedRope, pc_X12_sendWord, pc_X12_timeOnTheWay, pc_X12_rankOf, pc_X12_measureOf, pc_X12_tellThing, pc_X12_isLetter, pc_X12_isVowel, pc_X13_init, pc_X13_thrown, pc_X13_fails, pc_X13_isBetween, pc_X13_isNot], [pc_X13_throwsNow, pc_X13_reason, pc_X13_thinks, pc_X13_forgets, pc_X13_keepsMind, pc_X13_remembers, pc_X13_of, pc_X13_sets, pc_X13_is, pc_X13_isWell, pc_X13_isThing, pc_X13_isRope, pc_X13_ropeIs, pc_X13_boundTo, pc_X13_countThings, pc_X13_ropesAt], [pc_X13_placeOf, pc_X13_thingAt, pc_X13_notDig, pc_X13_digs, pc_X13_dig, pc_X13_notDeepen, pc_X13_deepens, pc_X13_deepen, pc_X13_notFill, pc_X13_fills, pc_X13_fill, pc_X13_notThing, pc_X13_comes, pc_X13_coin, pc_X13_frog, pc_X13_moss], [pc_X13_notTake, pc_X13_takes, pc_X13_take, pc_X13_asleepIn, pc_X13_asleep, pc_X13_wakes, pc_X13_wake, pc_X13_notRope, pc_X13_ropeComes, pc_X13_rope, pc_X13_notBind, pc_X13_binds, pc_X13_bind, pc_X13_reached, pc_X13_notFish, pc_X13_fishes], [pc_X13_fish, pc_X13_isLetter, pc_X13_isVowel, pc_X13_letter, pc_X13_saysWord, pc_X13_losesAt, pc_X13_losesVowel, pc_X13_passes, pc_X13_turns, pc_X13_sounds, pc_X13_timeOf, pc_X13_gradeOf, pc_X13_notShout, pc_X13_writesPage, pc_X13_shouts, pc_X13_shout], [pc_X13_wellOf, pc_X13_thingOf, pc_X13_ropeOf, pc_X13_bookOf, pc_X13_time, pc_X13_timeAgain, pc_X13_isLater, pc_X13_hasEcho, pc_X13_echoLength, pc_X13_echoLetter, pc_X13_losses, pc_X13_wouldGrade, pc_X13_gradeNow, pc_X13_isBetter, pc_X13_bestWell, pc_X13_isWhole], [pc_X13_vowels, pc_X13_reach, pc_X13_rank, pc_X13_ranked, pc_X13_isTold, pc_X13_writes, pc_X13_writesNumber, pc_X13_tellWord, pc_X13_tellEcho, pc_X13_writesThing, pc_X13_tellWell, pc_X13_character, pc_X13_thingsAll, pc_X13_account, pc_X13_meanGrade, pc_X13_lostShare], [pc_X13_append, pc_X13_faultPosition, pc_X13_nextSign, pc_X13_reads, pc_X13_readsDigit, pc_X13_readsNumber, pc_X13_readsRest, pc_X13_readsBottom, pc_X13_readsD, pc_X13_readsLetter, pc_X13_readsPlace, pc_X13_readsF, pc_X13_readsShout, pc_X13_readsTwo, pc_X13_readsOrder, pc_X13_readsAll], [pc_X13_notNow, pc_X13_doesNow, pc_X13_doesAll, pc_X13_keepsBehind, pc_X13_run, pc_X13_undo, pc_X13_save, pc_X13_restore, pc_L_dig, pc_L_deepen, pc_L_fill, pc_L_coin, pc_L_frog, pc_L_moss, pc_L_take, pc_L_rope], [pc_L_bind, pc_L_fish, pc_L_letter, pc_L_shout, pc_L_wellOf, pc_L_thingOf, pc_L_ropeOf, pc_L_bookOf, pc_L_time, pc_L_timeAgain, pc_L_isLater, pc_L_echoLength, pc_L_echoLetter, pc_L_losses, pc_L_wouldGrade, pc_L_bestWell], [pc_L_isWhole, pc_L_reach, pc_L_ranked, pc_L_append, pc_L_run, pc_L_reason, pc_L_tellWell, pc_L_character, pc_L_account, pc_L_meanGrade, pc_L_lostShare, pc_L_undo, pc_L_restore, pc_L_law]]
def mNm (m : Nat) : MethodName := (mNmT.getD (m / 16) []).getD (m % 16) ⟨"", "", ""⟩
def mBy (m : Nat) : ByteArray := (mByT.getD (m / 16) []).getD (m % 16) ⟨#[]⟩
def mRt (m : Nat) : Option FieldType := (mRtT.getD (m / 16) []).getD (m % 16) none
def mHh (m : Nat) : List (Nat × Nat × Nat × Nat) := (mHhT.getD (m / 16) []).getD (m % 16) []
def mLv (m : Nat) : Nat := (mLvT.getD (m / 16) []).getD (m % 16) 0
/-- the kind of the receiver, 0 where there is none -/
def mKd (m : Nat) : Nat := (mKdT.getD (m / 16) []).getD (m % 16) 0
/-- the types of the arguments: 0 an int, 1 a reference; ahead of them that of the receiver -/
def mAr (m : Nat) : List Nat := (mArT.getD (m / 16) []).getD (m % 16) []
def mPc (m i : Nat) : Nat := ((((mPcT.getD (m / 16) []).getD (m % 16) []).getD (i / 16) []).getD (i % 16) 0)
def wd (j : Nat) : Option Cond := if 10000 ≤ j then (k2_sels lw_privs)[j - 10000]? else match j / 240 with
  | 0 => tables_1_1[j % 240]?
  | 1 => tables_1_2[j % 240]?
  | 2 => tables_1_3[j % 240]?
  | 3 => tables_1_4[j % 240]?
  | 4 => tables_1_5[j % 240]?
  | 5 => tables_1_6[j % 240]?
  | 6 => tables_1_7[j % 240]?
  | 7 => tables_1_8[j % 240]?
  | 8 => tables_1_9[j % 240]?
  | _ => none
theorem wd_mem {j : Nat} {w : Cond} (h : wd j = some w) : w ∈ lw_tbl := by
  unfold wd at h
  unfold lw_tbl tables_1
  split at h
  · exact List.mem_append_left _ (List.mem_of_getElem? h)
  · refine List.mem_append_right _ ?_
    simp only [List.mem_append]
    split at h
    all_goals first | (cases h; done) | (have h9 := List.mem_of_getElem? h; simp only [h9, true_or, or_true])
theorem mcw_X1_init : Cond.code (mNm 0) (mBy 0) (ewMax 0) (mRt 0) ∈ lw_tbl := wd_mem (j := 123) rfl
theorem mcw_X1_copy : Cond.code (mNm 1) (mBy 1) (ewMax 1) (mRt 1) ∈ lw_tbl := wd_mem (j := 430) rfl
theorem mcw_X1_numberAt : Cond.code (mNm 2) (mBy 2) (ewMax 2) (mRt 2) ∈ lw_tbl := wd_mem (j := 1031) rfl
theorem mcw_X1_enter : Cond.code (mNm 3) (mBy 3) (ewMax 3) (mRt 3) ∈ lw_tbl := wd_mem (j := 649) rfl
theorem mcw_X1_setFirst : Cond.code (mNm 4) (mBy 4) (ewMax 4) (mRt 4) ∈ lw_tbl := wd_mem (j := 653) rfl
theorem mcw_X2_init : Cond.code (mNm 5) (mBy 5) (ewMax 5) (mRt 5) ∈ lw_tbl := wd_mem (j := 210) rfl
theorem mcw_X2_look : Cond.code (mNm 6) (mBy 6) (ewMax 6) (mRt 6) ∈ lw_tbl := wd_mem (j := 374) rfl
theorem mcw_X2_keep : Cond.code (mNm 7) (mBy 7) (ewMax 7) (mRt 7) ∈ lw_tbl := wd_mem (j := 726) rfl
theorem mcw_X2_takeBack : Cond.code (mNm 8) (mBy 8) (ewMax 8) (mRt 8) ∈ lw_tbl := wd_mem (j := 1268) rfl
theorem mcw_X2_goBack : Cond.code (mNm 9) (mBy 9) (ewMax 9) (mRt 9) ∈ lw_tbl := wd_mem (j := 1353) rfl
theorem mcw_X2_forget : Cond.code (mNm 10) (mBy 10) (ewMax 10) (mRt 10) ∈ lw_tbl := wd_mem (j := 1365) rfl
theorem mcw_X2_slotAt : Cond.code (mNm 11) (mBy 11) (ewMax 11) (mRt 11) ∈ lw_tbl := wd_mem (j := 378) rfl
theorem mcw_X3_init : Cond.code (mNm 12) (mBy 12) (ewMax 12) (mRt 12) ∈ lw_tbl := wd_mem (j := 230) rfl
theorem mcw_X3_obey : Cond.code (mNm 13) (mBy 13) (ewMax 13) (mRt 13) ∈ lw_tbl := wd_mem (j := 450) rfl
theorem mcw_X3_refuseOrder : Cond.code (mNm 14) (mBy 14) (ewMax 14) (mRt 14) ∈ lw_tbl := wd_mem (j := 1263) rfl
theorem mcw_X3_openWell : Cond.code (mNm 15) (mBy 15) (ewMax 15) (mRt 15) ∈ lw_tbl := wd_mem (j := 462) rfl
theorem mcw_X3_lowerBottom : Cond.code (mNm 16) (mBy 16) (ewMax 16) (mRt 16) ∈ lw_tbl := wd_mem (j := 485) rfl
theorem mcw_X3_closeWell : Cond.code (mNm 17) (mBy 17) (ewMax 17) (mRt 17) ∈ lw_tbl := wd_mem (j := 490) rfl
theorem mcw_X3_dropThing : Cond.code (mNm 18) (mBy 18) (ewMax 18) (mRt 18) ∈ lw_tbl := wd_mem (j := 498) rfl
theorem mcw_X3_removeThing : Cond.code (mNm 19) (mBy 19) (ewMax 19) (mRt 19) ∈ lw_tbl := wd_mem (j := 509) rfl
theorem mcw_X3_bringRope : Cond.code (mNm 20) (mBy 20) (ewMax 20) (mRt 20) ∈ lw_tbl := wd_mem (j := 538) rfl
theorem mcw_X3_tieRope : Cond.code (mNm 21) (mBy 21) (ewMax 21) (mRt 21) ∈ lw_tbl := wd_mem (j := 550) rfl
theorem mcw_X3_pullCoin : Cond.code (mNm 22) (mBy 22) (ewMax 22) (mRt 22) ∈ lw_tbl := wd_mem (j := 559) rfl
theorem mcw_X3_sendDown : Cond.code (mNm 23) (mBy 23) (ewMax 23) (mRt 23) ∈ lw_tbl := wd_mem (j := 572) rfl
theorem mcw_X3_refuse : Cond.code (mNm 24) (mBy 24) (ewMax 24) (mRt 24) ∈ lw_tbl := wd_mem (j := 469) rfl
theorem mcw_X3_isIn : Cond.code (mNm 25) (mBy 25) (ewMax 25) (mRt 25) ∈ lw_tbl := wd_mem (j := 465) rfl
theorem mcw_X4_init : Cond.code (mNm 26) (mBy 26) (ewMax 26) (mRt 26) ∈ lw_tbl := wd_mem (j := 129) rfl
theorem mcw_X4_size : Cond.code (mNm 27) (mBy 27) (ewMax 27) (mRt 27) ∈ lw_tbl := wd_mem (j := 576) rfl
theorem mcw_X4_at : Cond.code (mNm 28) (mBy 28) (ewMax 28) (mRt 28) ∈ lw_tbl := wd_mem (j := 442) rfl
theorem mcw_X4_put : Cond.code (mNm 29) (mBy 29) (ewMax 29) (mRt 29) ∈ lw_tbl := wd_mem (j := 446) rfl
theorem mcw_X4_putNumber : Cond.code (mNm 30) (mBy 30) (ewMax 30) (mRt 30) ∈ lw_tbl := wd_mem (j := 1286) rfl
theorem mcw_X4_clear : Cond.code (mNm 31) (mBy 31) (ewMax 31) (mRt 31) ∈ lw_tbl := wd_mem (j := 438) rfl
theorem mcw_X4_copy : Cond.code (mNm 32) (mBy 32) (ewMax 32) (mRt 32) ∈ lw_tbl := wd_mem (j := 434) rfl
theorem mcw_X4_isSame : Cond.code (mNm 33) (mBy 33) (ewMax 33) (mRt 33) ∈ lw_tbl := wd_mem (j := 1104) rfl
theorem mcw_X4_countOfVowels : Cond.code (mNm 34) (mBy 34) (ewMax 34) (mRt 34) ∈ lw_tbl := wd_mem (j := 737) rfl
theorem mcw_X4_cutLast : Cond.code (mNm 35) (mBy 35) (ewMax 35) (mRt 35) ∈ lw_tbl := wd_mem (j := 599) rfl
theorem mcw_X4_cutFirstVowel : Cond.code (mNm 36) (mBy 36) (ewMax 36) (mRt 36) ∈ lw_tbl := wd_mem (j := 604) rfl
theorem mcw_X4_cutVowels : Cond.code (mNm 37) (mBy 37) (ewMax 37) (mRt 37) ∈ lw_tbl := wd_mem (j := 629) rfl
theorem mcw_X4_turn : Cond.code (mNm 38) (mBy 38) (ewMax 38) (mRt 38) ∈ lw_tbl := wd_mem (j := 625) rfl
theorem mcw_X4_cutAt : Cond.code (mNm 39) (mBy 39) (ewMax 39) (mRt 39) ∈ lw_tbl := wd_mem (j := 611) rfl
theorem mcw_X6_init : Cond.code (mNm 40) (mBy 40) (ewMax 40) (mRt 40) ∈ lw_tbl := wd_mem (j := 294) rfl
theorem mcw_X6_countOrders : Cond.code (mNm 41) (mBy 41) (ewMax 41) (mRt 41) ∈ lw_tbl := wd_mem (j := 1145) rfl
theorem mcw_X6_rewind : Cond.code (mNm 42) (mBy 42) (ewMax 42) (mRt 42) ∈ lw_tbl := wd_mem (j := 1150) rfl
theorem mcw_X6_readOrder : Cond.code (mNm 43) (mBy 43) (ewMax 43) (mRt 43) ∈ lw_tbl := wd_mem (j := 1154) rfl
theorem mcw_X6_readSign : Cond.code (mNm 44) (mBy 44) (ewMax 44) (mRt 44) ∈ lw_tbl := wd_mem (j := 1249) rfl
theorem mcw_X6_numberAt : Cond.code (mNm 45) (mBy 45) (ewMax 45) (mRt 45) ∈ lw_tbl := wd_mem (j := 1259) rfl
theorem mcw_X6_readName : Cond.code (mNm 46) (mBy 46) (ewMax 46) (mRt 46) ∈ lw_tbl := wd_mem (j := 1159) rfl
theorem mcw_X6_sameSigns : Cond.code (mNm 47) (mBy 47) (ewMax 47) (mRt 47) ∈ lw_tbl := wd_mem (j := 1165) rfl
theorem mcw_X6_readPart : Cond.code (mNm 48) (mBy 48) (ewMax 48) (mRt 48) ∈ lw_tbl := wd_mem (j := 1219) rfl
theorem mcw_X6_readNumber : Cond.code (mNm 49) (mBy 49) (ewMax 49) (mRt 49) ∈ lw_tbl := wd_mem (j := 1223) rfl
theorem mcw_X6_readBottom : Cond.code (mNm 50) (mBy 50) (ewMax 50) (mRt 50) ∈ lw_tbl := wd_mem (j := 1234) rfl
theorem mcw_X6_readLetter : Cond.code (mNm 51) (mBy 51) (ewMax 51) (mRt 51) ∈ lw_tbl := wd_mem (j := 1238) rfl
theorem mcw_X6_readWord : Cond.code (mNm 52) (mBy 52) (ewMax 52) (mRt 52) ∈ lw_tbl := wd_mem (j := 1243) rfl
theorem mcw_X6_note : Cond.code (mNm 53) (mBy 53) (ewMax 53) (mRt 53) ∈ lw_tbl := wd_mem (j := 1230) rfl
theorem mcw_X6_isDigit : Cond.code (mNm 54) (mBy 54) (ewMax 54) (mRt 54) ∈ lw_tbl := wd_mem (j := 1226) rfl
theorem mcw_X7_init : Cond.code (mNm 55) (mBy 55) (ewMax 55) (mRt 55) ∈ lw_tbl := wd_mem (j := 236) rfl
theorem mcw_X7_set : Cond.code (mNm 56) (mBy 56) (ewMax 56) (mRt 56) ∈ lw_tbl := wd_mem (j := 473) rfl
theorem mcw_X8_init : Cond.code (mNm 57) (mBy 57) (ewMax 57) (mRt 57) ∈ lw_tbl := wd_mem (j := 100) rfl
theorem mcw_X8_open : Cond.code (mNm 58) (mBy 58) (ewMax 58) (mRt 58) ∈ lw_tbl := wd_mem (j := 546) rfl
theorem mcw_X8_copy : Cond.code (mNm 59) (mBy 59) (ewMax 59) (mRt 59) ∈ lw_tbl := wd_mem (j := 426) rfl
theorem mcw_X9_init : Cond.code (mNm 60) (mBy 60) (ewMax 60) (mRt 60) ∈ lw_tbl := wd_mem (j := 253) rfl
theorem mcw_X9_go : Cond.code (mNm 61) (mBy 61) (ewMax 61) (mRt 61) ∈ lw_tbl := wd_mem (j := 580) rfl
theorem mcw_X9_gradeFor : Cond.code (mNm 62) (mBy 62) (ewMax 62) (mRt 62) ∈ lw_tbl := wd_mem (j := 633) rfl
theorem mcw_X9_pass : Cond.code (mNm 63) (mBy 63) (ewMax 63) (mRt 63) ∈ lw_tbl := wd_mem (j := 593) rfl
theorem mcw_X9_answer : Cond.code (mNm 64) (mBy 64) (ewMax 64) (mRt 64) ∈ lw_tbl := wd_mem (j := 616) rfl
theorem mcw_X9_turnAt : Cond.code (mNm 65) (mBy 65) (ewMax 65) (mRt 65) ∈ lw_tbl := wd_mem (j := 621) rfl
theorem mcw_X10_init : Cond.code (mNm 66) (mBy 66) (ewMax 66) (mRt 66) ∈ lw_tbl := wd_mem (j := 50) rfl
theorem mcw_X10_open : Cond.code (mNm 67) (mBy 67) (ewMax 67) (mRt 67) ∈ lw_tbl := wd_mem (j := 481) rfl
theorem mcw_X10_copy : Cond.code (mNm 68) (mBy 68) (ewMax 68) (mRt 68) ∈ lw_tbl := wd_mem (j := 394) rfl
theorem mcw_X10_hasThing : Cond.code (mNm 69) (mBy 69) (ewMax 69) (mRt 69) ∈ lw_tbl := wd_mem (j := 513) rfl
theorem mcw_X10_kindOf : Cond.code (mNm 70) (mBy 70) (ewMax 70) (mRt 70) ∈ lw_tbl := wd_mem (j := 398) rfl
theorem mcw_X10_depthOf : Cond.code (mNm 71) (mBy 71) (ewMax 71) (mRt 71) ∈ lw_tbl := wd_mem (j := 402) rfl
theorem mcw_X10_valueOf : Cond.code (mNm 72) (mBy 72) (ewMax 72) (mRt 72) ∈ lw_tbl := wd_mem (j := 406) rfl
theorem mcw_X10_isAwake : Cond.code (mNm 73) (mBy 73) (ewMax 73) (mRt 73) ∈ lw_tbl := wd_mem (j := 410) rfl
theorem mcw_X10_add : Cond.code (mNm 74) (mBy 74) (ewMax 74) (mRt 74) ∈ lw_tbl := wd_mem (j := 505) rfl
theorem mcw_X10_remove : Cond.code (mNm 75) (mBy 75) (ewMax 75) (mRt 75) ∈ lw_tbl := wd_mem (j := 517) rfl
theorem mcw_X10_placeOf : Cond.code (mNm 76) (mBy 76) (ewMax 76) (mRt 76) ∈ lw_tbl := wd_mem (j := 589) rfl
theorem mcw_X10_thingAt : Cond.code (mNm 77) (mBy 77) (ewMax 77) (mRt 77) ∈ lw_tbl := wd_mem (j := 585) rfl
theorem mcw_X10_uppermostCoin : Cond.code (mNm 78) (mBy 78) (ewMax 78) (mRt 78) ∈ lw_tbl := wd_mem (j := 563) rfl
theorem mcw_X10_countOf : Cond.code (mNm 79) (mBy 79) (ewMax 79) (mRt 79) ∈ lw_tbl := wd_mem (j := 567) rfl
theorem mcw_X10_countOfFrogs : Cond.code (mNm 80) (mBy 80) (ewMax 80) (mRt 80) ∈ lw_tbl := wd_mem (j := 530) rfl
theorem mcw_X10_setFrogs : Cond.code (mNm 81) (mBy 81) (ewMax 81) (mRt 81) ∈ lw_tbl := wd_mem (j := 534) rfl
theorem mcw_X10_timeByKinds : Cond.code (mNm 82) (mBy 82) (ewMax 82) (mRt 82) ∈ lw_tbl := wd_mem (j := 751) rfl
theorem mcw_X10_hasThingBelow : Cond.code (mNm 83) (mBy 83) (ewMax 83) (mRt 83) ∈ lw_tbl := wd_mem (j := 756) rfl
theorem mcw_X10_set : Cond.code (mNm 84) (mBy 84) (ewMax 84) (mRt 84) ∈ lw_tbl := wd_mem (j := 414) rfl
theorem mcw_X11_init : Cond.code (mNm 85) (mBy 85) (ewMax 85) (mRt 85) ∈ lw_tbl := wd_mem (j := 43) rfl
theorem mcw_X11_copy : Cond.code (mNm 86) (mBy 86) (ewMax 86) (mRt 86) ∈ lw_tbl := wd_mem (j := 382) rfl
theorem mcw_X11_wellAt : Cond.code (mNm 87) (mBy 87) (ewMax 87) (mRt 87) ∈ lw_tbl := wd_mem (j := 386) rfl
theorem mcw_X11_ropeAt : Cond.code (mNm 88) (mBy 88) (ewMax 88) (mRt 88) ∈ lw_tbl := wd_mem (j := 418) rfl
theorem mcw_X11_addWell : Cond.code (mNm 89) (mBy 89) (ewMax 89) (mRt 89) ∈ lw_tbl := wd_mem (j := 477) rfl
theorem mcw_X11_addRope : Cond.code (mNm 90) (mBy 90) (ewMax 90) (mRt 90) ∈ lw_tbl := wd_mem (j := 542) rfl
theorem mcw_X11_removeWell : Cond.code (mNm 91) (mBy 91) (ewMax 91) (mRt 91) ∈ lw_tbl := wd_mem (j := 494) rfl
theorem mcw_X11_ropesAt : Cond.code (mNm 92) (mBy 92) (ewMax 92) (mRt 92) ∈ lw_tbl := wd_mem (j := 555) rfl
theorem mcw_X11_countOfThings : Cond.code (mNm 93) (mBy 93) (ewMax 93) (mRt 93) ∈ lw_tbl := wd_mem (j := 1308) rfl
theorem mcw_X11_countOfSleepers : Cond.code (mNm 94) (mBy 94) (ewMax 94) (mRt 94) ∈ lw_tbl := wd_mem (j := 526) rfl
theorem mcw_X11_wakeFrogs : Cond.code (mNm 95) (mBy 95) (ewMax 95) (mRt 95) ∈ lw_tbl := wd_mem (j := 522) rfl
theorem mcw_X11_enter : Cond.code (mNm 96) (mBy 96) (ewMax 96) (mRt 96) ∈ lw_tbl := wd_mem (j := 644) rfl
theorem mcw_X11_copyWell : Cond.code (mNm 97) (mBy 97) (ewMax 97) (mRt 97) ∈ lw_tbl := wd_mem (j := 390) rfl
theorem mcw_X11_copyRope : Cond.code (mNm 98) (mBy 98) (ewMax 98) (mRt 98) ∈ lw_tbl := wd_mem (j := 422) rfl
theorem mcw_X12_init : Cond.code (mNm 99) (mBy 99) (ewMax 99) (mRt 99) ∈ lw_tbl := wd_mem (j := 35) rfl
theorem mcw_X12_dig : Cond.code (mNm 100) (mBy 100) (ewMax 100) (mRt 100) ∈ lw_tbl := wd_mem (j := 783) rfl
theorem mcw_X12_deepen : Cond.code (mNm 101) (mBy 101) (ewMax 101) (mRt 101) ∈ lw_tbl := wd_mem (j := 792) rfl
theorem mcw_X12_fill : Cond.code (mNm 102) (mBy 102) (ewMax 102) (mRt 102) ∈ lw_tbl := wd_mem (j := 801) rfl
theorem mcw_X12_coin : Cond.code (mNm 103) (mBy 103) (ewMax 103) (mRt 103) ∈ lw_tbl := wd_mem (j := 810) rfl
theorem mcw_X12_frog : Cond.code (mNm 104) (mBy 104) (ewMax 104) (mRt 104) ∈ lw_tbl := wd_mem (j := 819) rfl
theorem mcw_X12_moss : Cond.code (mNm 105) (mBy 105) (ewMax 105) (mRt 105) ∈ lw_tbl := wd_mem (j := 828) rfl
theorem mcw_X12_take : Cond.code (mNm 106) (mBy 106) (ewMax 106) (mRt 106) ∈ lw_tbl := wd_mem (j := 837) rfl
theorem mcw_X12_wake : Cond.code (mNm 107) (mBy 107) (ewMax 107) (mRt 107) ∈ lw_tbl := wd_mem (j := 364) rfl
theorem mcw_X12_rope : Cond.code (mNm 108) (mBy 108) (ewMax 108) (mRt 108) ∈ lw_tbl := wd_mem (j := 846) rfl
theorem mcw_X12_bind : Cond.code (mNm 109) (mBy 109) (ewMax 109) (mRt 109) ∈ lw_tbl := wd_mem (j := 855) rfl
theorem mcw_X12_fish : Cond.code (mNm 110) (mBy 110) (ewMax 110) (mRt 110) ∈ lw_tbl := wd_mem (j := 864) rfl
theorem mcw_X12_letter : Cond.code (mNm 111) (mBy 111) (ewMax 111) (mRt 111) ∈ lw_tbl := wd_mem (j := 875) rfl
theorem mcw_X12_shout : Cond.code (mNm 112) (mBy 112) (ewMax 112) (mRt 112) ∈ lw_tbl := wd_mem (j := 914) rfl
theorem mcw_X12_wellOf : Cond.code (mNm 113) (mBy 113) (ewMax 113) (mRt 113) ∈ lw_tbl := wd_mem (j := 957) rfl
theorem mcw_X12_thingOf : Cond.code (mNm 114) (mBy 114) (ewMax 114) (mRt 114) ∈ lw_tbl := wd_mem (j := 986) rfl
theorem mcw_X12_ropeOf : Cond.code (mNm 115) (mBy 115) (ewMax 115) (mRt 115) ∈ lw_tbl := wd_mem (j := 999) rfl
theorem mcw_X12_bookOf : Cond.code (mNm 116) (mBy 116) (ewMax 116) (mRt 116) ∈ lw_tbl := wd_mem (j := 1012) rfl
theorem mcw_X12_time : Cond.code (mNm 117) (mBy 117) (ewMax 117) (mRt 117) ∈ lw_tbl := wd_mem (j := 1038) rfl
theorem mcw_X12_timeAgain : Cond.code (mNm 118) (mBy 118) (ewMax 118) (mRt 118) ∈ lw_tbl := wd_mem (j := 1045) rfl
theorem mcw_X12_isLater : Cond.code (mNm 119) (mBy 119) (ewMax 119) (mRt 119) ∈ lw_tbl := wd_mem (j := 1052) rfl
theorem mcw_X12_echoLength : Cond.code (mNm 120) (mBy 120) (ewMax 120) (mRt 120) ∈ lw_tbl := wd_mem (j := 1059) rfl
theorem mcw_X12_echoLetter : Cond.code (mNm 121) (mBy 121) (ewMax 121) (mRt 121) ∈ lw_tbl := wd_mem (j := 1070) rfl
theorem mcw_X12_losses : Cond.code (mNm 122) (mBy 122) (ewMax 122) (mRt 122) ∈ lw_tbl := wd_mem (j := 1078) rfl
theorem mcw_X12_wouldGrade : Cond.code (mNm 123) (mBy 123) (ewMax 123) (mRt 123) ∈ lw_tbl := wd_mem (j := 1085) rfl
theorem mcw_X12_bestWell : Cond.code (mNm 124) (mBy 124) (ewMax 124) (mRt 124) ∈ lw_tbl := wd_mem (j := 1093) rfl
theorem mcw_X12_isWhole : Cond.code (mNm 125) (mBy 125) (ewMax 125) (mRt 125) ∈ lw_tbl := wd_mem (j := 1100) rfl
theorem mcw_X12_vowels : Cond.code (mNm 126) (mBy 126) (ewMax 126) (mRt 126) ∈ lw_tbl := wd_mem (j := 733) rfl
theorem mcw_X12_reach : Cond.code (mNm 127) (mBy 127) (ewMax 127) (mRt 127) ∈ lw_tbl := wd_mem (j := 1111) rfl
theorem mcw_X12_ranked : Cond.code (mNm 128) (mBy 128) (ewMax 128) (mRt 128) ∈ lw_tbl := wd_mem (j := 1119) rfl
theorem mcw_X12_isTold : Cond.code (mNm 129) (mBy 129) (ewMax 129) (mRt 129) ∈ lw_tbl := wd_mem (j := 741) rfl
theorem mcw_X12_append : Cond.code (mNm 130) (mBy 130) (ewMax 130) (mRt 130) ∈ lw_tbl := wd_mem (j := 1134) rfl
theorem mcw_X12_run : Cond.code (mNm 131) (mBy 131) (ewMax 131) (mRt 131) ∈ lw_tbl := wd_mem (j := 1141) rfl
theorem mcw_X12_faultPosition : Cond.code (mNm 132) (mBy 132) (ewMax 132) (mRt 132) ∈ lw_tbl := wd_mem (j := 760) rfl
theorem mcw_X12_reason : Cond.code (mNm 133) (mBy 133) (ewMax 133) (mRt 133) ∈ lw_tbl := wd_mem (j := 1275) rfl
theorem mcw_X12_tellWord : Cond.code (mNm 134) (mBy 134) (ewMax 134) (mRt 134) ∈ lw_tbl := wd_mem (j := 764) rfl
theorem mcw_X12_tellEcho : Cond.code (mNm 135) (mBy 135) (ewMax 135) (mRt 135) ∈ lw_tbl := wd_mem (j := 770) rfl
theorem mcw_X12_tellWell : Cond.code (mNm 136) (mBy 136) (ewMax 136) (mRt 136) ∈ lw_tbl := wd_mem (j := 1282) rfl
theorem mcw_X12_character : Cond.code (mNm 137) (mBy 137) (ewMax 137) (mRt 137) ∈ lw_tbl := wd_mem (j := 1297) rfl
theorem mcw_X12_account : Cond.code (mNm 138) (mBy 138) (ewMax 138) (mRt 138) ∈ lw_tbl := wd_mem (j := 1304) rfl
theorem mcw_X12_meanGrade : Cond.code (mNm 139) (mBy 139) (ewMax 139) (mRt 139) ∈ lw_tbl := wd_mem (j := 1330) rfl
theorem mcw_X12_lostShare : Cond.code (mNm 140) (mBy 140) (ewMax 140) (mRt 140) ∈ lw_tbl := wd_mem (j := 1342) rfl
theorem mcw_X12_undo : Cond.code (mNm 141) (mBy 141) (ewMax 141) (mRt 141) ∈ lw_tbl := wd_mem (j := 1349) rfl
theorem mcw_X12_save : Cond.code (mNm 142) (mBy 142) (ewMax 142) (mRt 142) ∈ lw_tbl := wd_mem (j := 774) rfl
theorem mcw_X12_restore : Cond.code (mNm 143) (mBy 143) (ewMax 143) (mRt 143) ∈ lw_tbl := wd_mem (j := 1361) rfl
theorem mcw_X12_changed : Cond.code (mNm 144) (mBy 144) (ewMax 144) (mRt 144) ∈ lw_tbl := wd_mem (j := 370) rfl
theorem mcw_X12_areObeyed : Cond.code (mNm 145) (mBy 145) (ewMax 145) (mRt 145) ∈ lw_tbl := wd_mem (j := 1253) rfl
theorem mcw_X12_askedWell : Cond.code (mNm 146) (mBy 146) (ewMax 146) (mRt 146) ∈ lw_tbl := wd_mem (j := 961) rfl
theorem mcw_X12_askedRope : Cond.code (mNm 147) (mBy 147) (ewMax 147) (mRt 147) ∈ lw_tbl := wd_mem (j := 1003) rfl
theorem mcw_X12_sendWord : Cond.code (mNm 148) (mBy 148) (ewMax 148) (mRt 148) ∈ lw_tbl := wd_mem (j := 1063) rfl
theorem mcw_X12_timeOnTheWay : Cond.code (mNm 149) (mBy 149) (ewMax 149) (mRt 149) ∈ lw_tbl := wd_mem (j := 746) rfl
theorem mcw_X12_rankOf : Cond.code (mNm 150) (mBy 150) (ewMax 150) (mRt 150) ∈ lw_tbl := wd_mem (j := 1123) rfl
theorem mcw_X12_measureOf : Cond.code (mNm 151) (mBy 151) (ewMax 151) (mRt 151) ∈ lw_tbl := wd_mem (j := 1127) rfl
theorem mcw_X12_tellThing : Cond.code (mNm 152) (mBy 152) (ewMax 152) (mRt 152) ∈ lw_tbl := wd_mem (j := 1290) rfl
theorem mcw_X12_isLetter : Cond.code (mNm 153) (mBy 153) (ewMax 153) (mRt 153) ∈ lw_tbl := wd_mem (j := 501) rfl
theorem mcw_X12_isVowel : Cond.code (mNm 154) (mBy 154) (ewMax 154) (mRt 154) ∈ lw_tbl := wd_mem (j := 607) rfl
theorem mcw_X13_init : Cond.code (mNm 155) (mBy 155) (ewMax 155) (mRt 155) ∈ lw_tbl := wd_mem (j := 1370) rfl
theorem mcw_X13_thrown : Cond.code (mNm 156) (mBy 156) (ewMax 156) (mRt 156) ∈ lw_tbl := wd_mem (j := 1466) rfl
theorem mcw_X13_fails : Cond.code (mNm 157) (mBy 157) (ewMax 157) (mRt 157) ∈ lw_tbl := wd_mem (j := 1477) rfl
theorem mcw_X13_isBetween : Cond.code (mNm 158) (mBy 158) (ewMax 158) (mRt 158) ∈ lw_tbl := wd_mem (j := 1473) rfl
theorem mcw_X13_isNot : Cond.code (mNm 159) (mBy 159) (ewMax 159) (mRt 159) ∈ lw_tbl := wd_mem (j := 1489) rfl
theorem mcw_X13_throwsNow : Cond.code (mNm 160) (mBy 160) (ewMax 160) (mRt 160) ∈ lw_tbl := wd_mem (j := 1493) rfl
theorem mcw_X13_reason : Cond.code (mNm 161) (mBy 161) (ewMax 161) (mRt 161) ∈ lw_tbl := wd_mem (j := 1470) rfl
theorem mcw_X13_thinks : Cond.code (mNm 162) (mBy 162) (ewMax 162) (mRt 162) ∈ lw_tbl := wd_mem (j := 1501) rfl
theorem mcw_X13_forgets : Cond.code (mNm 163) (mBy 163) (ewMax 163) (mRt 163) ∈ lw_tbl := wd_mem (j := 1940) rfl
theorem mcw_X13_keepsMind : Cond.code (mNm 164) (mBy 164) (ewMax 164) (mRt 164) ∈ lw_tbl := wd_mem (j := 1505) rfl
theorem mcw_X13_remembers : Cond.code (mNm 165) (mBy 165) (ewMax 165) (mRt 165) ∈ lw_tbl := wd_mem (j := 1497) rfl
theorem mcw_X13_of : Cond.code (mNm 166) (mBy 166) (ewMax 166) (mRt 166) ∈ lw_tbl := wd_mem (j := 1529) rfl
theorem mcw_X13_sets : Cond.code (mNm 167) (mBy 167) (ewMax 167) (mRt 167) ∈ lw_tbl := wd_mem (j := 1513) rfl
theorem mcw_X13_is : Cond.code (mNm 168) (mBy 168) (ewMax 168) (mRt 168) ∈ lw_tbl := wd_mem (j := 1613) rfl
theorem mcw_X13_isWell : Cond.code (mNm 169) (mBy 169) (ewMax 169) (mRt 169) ∈ lw_tbl := wd_mem (j := 1525) rfl
theorem mcw_X13_isThing : Cond.code (mNm 170) (mBy 170) (ewMax 170) (mRt 170) ∈ lw_tbl := wd_mem (j := 1585) rfl
theorem mcw_X13_isRope : Cond.code (mNm 171) (mBy 171) (ewMax 171) (mRt 171) ∈ lw_tbl := wd_mem (j := 1637) rfl
theorem mcw_X13_ropeIs : Cond.code (mNm 172) (mBy 172) (ewMax 172) (mRt 172) ∈ lw_tbl := wd_mem (j := 1553) rfl
theorem mcw_X13_boundTo : Cond.code (mNm 173) (mBy 173) (ewMax 173) (mRt 173) ∈ lw_tbl := wd_mem (j := 1549) rfl
theorem mcw_X13_countThings : Cond.code (mNm 174) (mBy 174) (ewMax 174) (mRt 174) ∈ lw_tbl := wd_mem (j := 1609) rfl
theorem mcw_X13_ropesAt : Cond.code (mNm 175) (mBy 175) (ewMax 175) (mRt 175) ∈ lw_tbl := wd_mem (j := 1645) rfl
theorem mcw_X13_placeOf : Cond.code (mNm 176) (mBy 176) (ewMax 176) (mRt 176) ∈ lw_tbl := wd_mem (j := 1665) rfl
theorem mcw_X13_thingAt : Cond.code (mNm 177) (mBy 177) (ewMax 177) (mRt 177) ∈ lw_tbl := wd_mem (j := 1661) rfl
theorem mcw_X13_notDig : Cond.code (mNm 178) (mBy 178) (ewMax 178) (mRt 178) ∈ lw_tbl := wd_mem (j := 1485) rfl
theorem mcw_X13_digs : Cond.code (mNm 179) (mBy 179) (ewMax 179) (mRt 179) ∈ lw_tbl := wd_mem (j := 1509) rfl
theorem mcw_X13_dig : Cond.code (mNm 180) (mBy 180) (ewMax 180) (mRt 180) ∈ lw_tbl := wd_mem (j := 1481) rfl
theorem mcw_X13_notDeepen : Cond.code (mNm 181) (mBy 181) (ewMax 181) (mRt 181) ∈ lw_tbl := wd_mem (j := 1521) rfl
theorem mcw_X13_deepens : Cond.code (mNm 182) (mBy 182) (ewMax 182) (mRt 182) ∈ lw_tbl := wd_mem (j := 1533) rfl
theorem mcw_X13_deepen : Cond.code (mNm 183) (mBy 183) (ewMax 183) (mRt 183) ∈ lw_tbl := wd_mem (j := 1517) rfl
theorem mcw_X13_notFill : Cond.code (mNm 184) (mBy 184) (ewMax 184) (mRt 184) ∈ lw_tbl := wd_mem (j := 1541) rfl
theorem mcw_X13_fills : Cond.code (mNm 185) (mBy 185) (ewMax 185) (mRt 185) ∈ lw_tbl := wd_mem (j := 1545) rfl
theorem mcw_X13_fill : Cond.code (mNm 186) (mBy 186) (ewMax 186) (mRt 186) ∈ lw_tbl := wd_mem (j := 1537) rfl
theorem mcw_X13_notThing : Cond.code (mNm 187) (mBy 187) (ewMax 187) (mRt 187) ∈ lw_tbl := wd_mem (j := 1561) rfl
theorem mcw_X13_comes : Cond.code (mNm 188) (mBy 188) (ewMax 188) (mRt 188) ∈ lw_tbl := wd_mem (j := 1565) rfl
theorem mcw_X13_coin : Cond.code (mNm 189) (mBy 189) (ewMax 189) (mRt 189) ∈ lw_tbl := wd_mem (j := 1557) rfl
theorem mcw_X13_frog : Cond.code (mNm 190) (mBy 190) (ewMax 190) (mRt 190) ∈ lw_tbl := wd_mem (j := 1569) rfl
theorem mcw_X13_moss : Cond.code (mNm 191) (mBy 191) (ewMax 191) (mRt 191) ∈ lw_tbl := wd_mem (j := 1573) rfl
theorem mcw_X13_notTake : Cond.code (mNm 192) (mBy 192) (ewMax 192) (mRt 192) ∈ lw_tbl := wd_mem (j := 1581) rfl
theorem mcw_X13_takes : Cond.code (mNm 193) (mBy 193) (ewMax 193) (mRt 193) ∈ lw_tbl := wd_mem (j := 1589) rfl
theorem mcw_X13_take : Cond.code (mNm 194) (mBy 194) (ewMax 194) (mRt 194) ∈ lw_tbl := wd_mem (j := 1577) rfl
theorem mcw_X13_asleepIn : Cond.code (mNm 195) (mBy 195) (ewMax 195) (mRt 195) ∈ lw_tbl := wd_mem (j := 1605) rfl
theorem mcw_X13_asleep : Cond.code (mNm 196) (mBy 196) (ewMax 196) (mRt 196) ∈ lw_tbl := wd_mem (j := 1601) rfl
theorem mcw_X13_wakes : Cond.code (mNm 197) (mBy 197) (ewMax 197) (mRt 197) ∈ lw_tbl := wd_mem (j := 1597) rfl
theorem mcw_X13_wake : Cond.code (mNm 198) (mBy 198) (ewMax 198) (mRt 198) ∈ lw_tbl := wd_mem (j := 1593) rfl
theorem mcw_X13_notRope : Cond.code (mNm 199) (mBy 199) (ewMax 199) (mRt 199) ∈ lw_tbl := wd_mem (j := 1621) rfl
theorem mcw_X13_ropeComes : Cond.code (mNm 200) (mBy 200) (ewMax 200) (mRt 200) ∈ lw_tbl := wd_mem (j := 1625) rfl
theorem mcw_X13_rope : Cond.code (mNm 201) (mBy 201) (ewMax 201) (mRt 201) ∈ lw_tbl := wd_mem (j := 1617) rfl
theorem mcw_X13_notBind : Cond.code (mNm 202) (mBy 202) (ewMax 202) (mRt 202) ∈ lw_tbl := wd_mem (j := 1633) rfl
theorem mcw_X13_binds : Cond.code (mNm 203) (mBy 203) (ewMax 203) (mRt 203) ∈ lw_tbl := wd_mem (j := 1641) rfl
theorem mcw_X13_bind : Cond.code (mNm 204) (mBy 204) (ewMax 204) (mRt 204) ∈ lw_tbl := wd_mem (j := 1629) rfl
theorem mcw_X13_reached : Cond.code (mNm 205) (mBy 205) (ewMax 205) (mRt 205) ∈ lw_tbl := wd_mem (j := 1657) rfl
theorem mcw_X13_notFish : Cond.code (mNm 206) (mBy 206) (ewMax 206) (mRt 206) ∈ lw_tbl := wd_mem (j := 1653) rfl
theorem mcw_X13_fishes : Cond.code (mNm 207) (mBy 207) (ewMax 207) (mRt 207) ∈ lw_tbl := wd_mem (j := 1669) rfl
theorem mcw_X13_fish : Cond.code (mNm 208) (mBy 208) (ewMax 208) (mRt 208) ∈ lw_tbl := wd_mem (j := 1649) rfl
theorem mcw_X13_isLetter : Cond.code (mNm 209) (mBy 209) (ewMax 209) (mRt 209) ∈ lw_tbl := wd_mem (j := 1676) rfl
theorem mcw_X13_isVowel : Cond.code (mNm 210) (mBy 210) (ewMax 210) (mRt 210) ∈ lw_tbl := wd_mem (j := 1711) rfl
theorem mcw_X13_letter : Cond.code (mNm 211) (mBy 211) (ewMax 211) (mRt 211) ∈ lw_tbl := wd_mem (j := 1673) rfl
theorem mcw_X13_saysWord : Cond.code (mNm 212) (mBy 212) (ewMax 212) (mRt 212) ∈ lw_tbl := wd_mem (j := 1688) rfl
theorem mcw_X13_losesAt : Cond.code (mNm 213) (mBy 213) (ewMax 213) (mRt 213) ∈ lw_tbl := wd_mem (j := 1704) rfl
theorem mcw_X13_losesVowel : Cond.code (mNm 214) (mBy 214) (ewMax 214) (mRt 214) ∈ lw_tbl := wd_mem (j := 1708) rfl
theorem mcw_X13_passes : Cond.code (mNm 215) (mBy 215) (ewMax 215) (mRt 215) ∈ lw_tbl := wd_mem (j := 1700) rfl
theorem mcw_X13_turns : Cond.code (mNm 216) (mBy 216) (ewMax 216) (mRt 216) ∈ lw_tbl := wd_mem (j := 1715) rfl
theorem mcw_X13_sounds : Cond.code (mNm 217) (mBy 217) (ewMax 217) (mRt 217) ∈ lw_tbl := wd_mem (j := 1696) rfl
theorem mcw_X13_timeOf : Cond.code (mNm 218) (mBy 218) (ewMax 218) (mRt 218) ∈ lw_tbl := wd_mem (j := 1723) rfl
theorem mcw_X13_gradeOf : Cond.code (mNm 219) (mBy 219) (ewMax 219) (mRt 219) ∈ lw_tbl := wd_mem (j := 1719) rfl
theorem mcw_X13_notShout : Cond.code (mNm 220) (mBy 220) (ewMax 220) (mRt 220) ∈ lw_tbl := wd_mem (j := 1684) rfl
theorem mcw_X13_writesPage : Cond.code (mNm 221) (mBy 221) (ewMax 221) (mRt 221) ∈ lw_tbl := wd_mem (j := 1727) rfl
theorem mcw_X13_shouts : Cond.code (mNm 222) (mBy 222) (ewMax 222) (mRt 222) ∈ lw_tbl := wd_mem (j := 1692) rfl
theorem mcw_X13_shout : Cond.code (mNm 223) (mBy 223) (ewMax 223) (mRt 223) ∈ lw_tbl := wd_mem (j := 1680) rfl
theorem mcw_X13_wellOf : Cond.code (mNm 224) (mBy 224) (ewMax 224) (mRt 224) ∈ lw_tbl := wd_mem (j := 1731) rfl
theorem mcw_X13_thingOf : Cond.code (mNm 225) (mBy 225) (ewMax 225) (mRt 225) ∈ lw_tbl := wd_mem (j := 1735) rfl
theorem mcw_X13_ropeOf : Cond.code (mNm 226) (mBy 226) (ewMax 226) (mRt 226) ∈ lw_tbl := wd_mem (j := 1739) rfl
theorem mcw_X13_bookOf : Cond.code (mNm 227) (mBy 227) (ewMax 227) (mRt 227) ∈ lw_tbl := wd_mem (j := 1743) rfl
theorem mcw_X13_time : Cond.code (mNm 228) (mBy 228) (ewMax 228) (mRt 228) ∈ lw_tbl := wd_mem (j := 1747) rfl
theorem mcw_X13_timeAgain : Cond.code (mNm 229) (mBy 229) (ewMax 229) (mRt 229) ∈ lw_tbl := wd_mem (j := 1751) rfl
theorem mcw_X13_isLater : Cond.code (mNm 230) (mBy 230) (ewMax 230) (mRt 230) ∈ lw_tbl := wd_mem (j := 1756) rfl
theorem mcw_X13_hasEcho : Cond.code (mNm 231) (mBy 231) (ewMax 231) (mRt 231) ∈ lw_tbl := wd_mem (j := 1764) rfl
theorem mcw_X13_echoLength : Cond.code (mNm 232) (mBy 232) (ewMax 232) (mRt 232) ∈ lw_tbl := wd_mem (j := 1760) rfl
theorem mcw_X13_echoLetter : Cond.code (mNm 233) (mBy 233) (ewMax 233) (mRt 233) ∈ lw_tbl := wd_mem (j := 1768) rfl
theorem mcw_X13_losses : Cond.code (mNm 234) (mBy 234) (ewMax 234) (mRt 234) ∈ lw_tbl := wd_mem (j := 1772) rfl
theorem mcw_X13_wouldGrade : Cond.code (mNm 235) (mBy 235) (ewMax 235) (mRt 235) ∈ lw_tbl := wd_mem (j := 1776) rfl
theorem mcw_X13_gradeNow : Cond.code (mNm 236) (mBy 236) (ewMax 236) (mRt 236) ∈ lw_tbl := wd_mem (j := 1788) rfl
theorem mcw_X13_isBetter : Cond.code (mNm 237) (mBy 237) (ewMax 237) (mRt 237) ∈ lw_tbl := wd_mem (j := 1784) rfl
theorem mcw_X13_bestWell : Cond.code (mNm 238) (mBy 238) (ewMax 238) (mRt 238) ∈ lw_tbl := wd_mem (j := 1780) rfl
theorem mcw_X13_isWhole : Cond.code (mNm 239) (mBy 239) (ewMax 239) (mRt 239) ∈ lw_tbl := wd_mem (j := 1792) rfl
theorem mcw_X13_vowels : Cond.code (mNm 240) (mBy 240) (ewMax 240) (mRt 240) ∈ lw_tbl := wd_mem (j := 1796) rfl
theorem mcw_X13_reach : Cond.code (mNm 241) (mBy 241) (ewMax 241) (mRt 241) ∈ lw_tbl := wd_mem (j := 1800) rfl
theorem mcw_X13_rank : Cond.code (mNm 242) (mBy 242) (ewMax 242) (mRt 242) ∈ lw_tbl := wd_mem (j := 1808) rfl
theorem mcw_X13_ranked : Cond.code (mNm 243) (mBy 243) (ewMax 243) (mRt 243) ∈ lw_tbl := wd_mem (j := 1804) rfl
theorem mcw_X13_isTold : Cond.code (mNm 244) (mBy 244) (ewMax 244) (mRt 244) ∈ lw_tbl := wd_mem (j := 1812) rfl
theorem mcw_X13_writes : Cond.code (mNm 245) (mBy 245) (ewMax 245) (mRt 245) ∈ lw_tbl := wd_mem (j := 1820) rfl
theorem mcw_X13_writesNumber : Cond.code (mNm 246) (mBy 246) (ewMax 246) (mRt 246) ∈ lw_tbl := wd_mem (j := 1832) rfl
theorem mcw_X13_tellWord : Cond.code (mNm 247) (mBy 247) (ewMax 247) (mRt 247) ∈ lw_tbl := wd_mem (j := 1816) rfl
theorem mcw_X13_tellEcho : Cond.code (mNm 248) (mBy 248) (ewMax 248) (mRt 248) ∈ lw_tbl := wd_mem (j := 1824) rfl
theorem mcw_X13_writesThing : Cond.code (mNm 249) (mBy 249) (ewMax 249) (mRt 249) ∈ lw_tbl := wd_mem (j := 1836) rfl
theorem mcw_X13_tellWell : Cond.code (mNm 250) (mBy 250) (ewMax 250) (mRt 250) ∈ lw_tbl := wd_mem (j := 1828) rfl
theorem mcw_X13_character : Cond.code (mNm 251) (mBy 251) (ewMax 251) (mRt 251) ∈ lw_tbl := wd_mem (j := 1840) rfl
theorem mcw_X13_thingsAll : Cond.code (mNm 252) (mBy 252) (ewMax 252) (mRt 252) ∈ lw_tbl := wd_mem (j := 1848) rfl
theorem mcw_X13_account : Cond.code (mNm 253) (mBy 253) (ewMax 253) (mRt 253) ∈ lw_tbl := wd_mem (j := 1844) rfl
theorem mcw_X13_meanGrade : Cond.code (mNm 254) (mBy 254) (ewMax 254) (mRt 254) ∈ lw_tbl := wd_mem (j := 1852) rfl
theorem mcw_X13_lostShare : Cond.code (mNm 255) (mBy 255) (ewMax 255) (mRt 255) ∈ lw_tbl := wd_mem (j := 1856) rfl
theorem mcw_X13_append : Cond.code (mNm 256) (mBy 256) (ewMax 256) (mRt 256) ∈ lw_tbl := wd_mem (j := 1860) rfl
theorem mcw_X13_faultPosition : Cond.code (mNm 257) (mBy 257) (ewMax 257) (mRt 257) ∈ lw_tbl := wd_mem (j := 1864) rfl
theorem mcw_X13_nextSign : Cond.code (mNm 258) (mBy 258) (ewMax 258) (mRt 258) ∈ lw_tbl := wd_mem (j := 1880) rfl
theorem mcw_X13_reads : Cond.code (mNm 259) (mBy 259) (ewMax 259) (mRt 259) ∈ lw_tbl := wd_mem (j := 1884) rfl
theorem mcw_X13_readsDigit : Cond.code (mNm 260) (mBy 260) (ewMax 260) (mRt 260) ∈ lw_tbl := wd_mem (j := 1896) rfl
theorem mcw_X13_readsNumber : Cond.code (mNm 261) (mBy 261) (ewMax 261) (mRt 261) ∈ lw_tbl := wd_mem (j := 1892) rfl
theorem mcw_X13_readsRest : Cond.code (mNm 262) (mBy 262) (ewMax 262) (mRt 262) ∈ lw_tbl := wd_mem (j := 1904) rfl
theorem mcw_X13_readsBottom : Cond.code (mNm 263) (mBy 263) (ewMax 263) (mRt 263) ∈ lw_tbl := wd_mem (j := 1900) rfl
theorem mcw_X13_readsD : Cond.code (mNm 264) (mBy 264) (ewMax 264) (mRt 264) ∈ lw_tbl := wd_mem (j := 1888) rfl
theorem mcw_X13_readsLetter : Cond.code (mNm 265) (mBy 265) (ewMax 265) (mRt 265) ∈ lw_tbl := wd_mem (j := 1916) rfl
theorem mcw_X13_readsPlace : Cond.code (mNm 266) (mBy 266) (ewMax 266) (mRt 266) ∈ lw_tbl := wd_mem (j := 1912) rfl
theorem mcw_X13_readsF : Cond.code (mNm 267) (mBy 267) (ewMax 267) (mRt 267) ∈ lw_tbl := wd_mem (j := 1908) rfl
theorem mcw_X13_readsShout : Cond.code (mNm 268) (mBy 268) (ewMax 268) (mRt 268) ∈ lw_tbl := wd_mem (j := 1924) rfl
theorem mcw_X13_readsTwo : Cond.code (mNm 269) (mBy 269) (ewMax 269) (mRt 269) ∈ lw_tbl := wd_mem (j := 1920) rfl
theorem mcw_X13_readsOrder : Cond.code (mNm 270) (mBy 270) (ewMax 270) (mRt 270) ∈ lw_tbl := wd_mem (j := 1876) rfl
theorem mcw_X13_readsAll : Cond.code (mNm 271) (mBy 271) (ewMax 271) (mRt 271) ∈ lw_tbl := wd_mem (j := 1872) rfl
theorem mcw_X13_notNow : Cond.code (mNm 272) (mBy 272) (ewMax 272) (mRt 272) ∈ lw_tbl := wd_mem (j := 1932) rfl
theorem mcw_X13_doesNow : Cond.code (mNm 273) (mBy 273) (ewMax 273) (mRt 273) ∈ lw_tbl := wd_mem (j := 1936) rfl
theorem mcw_X13_doesAll : Cond.code (mNm 274) (mBy 274) (ewMax 274) (mRt 274) ∈ lw_tbl := wd_mem (j := 1928) rfl
theorem mcw_X13_keepsBehind : Cond.code (mNm 275) (mBy 275) (ewMax 275) (mRt 275) ∈ lw_tbl := wd_mem (j := 1944) rfl
theorem mcw_X13_run : Cond.code (mNm 276) (mBy 276) (ewMax 276) (mRt 276) ∈ lw_tbl := wd_mem (j := 1868) rfl
theorem mcw_X13_undo : Cond.code (mNm 277) (mBy 277) (ewMax 277) (mRt 277) ∈ lw_tbl := wd_mem (j := 1948) rfl
theorem mcw_X13_save : Cond.code (mNm 278) (mBy 278) (ewMax 278) (mRt 278) ∈ lw_tbl := wd_mem (j := 1952) rfl
theorem mcw_X13_restore : Cond.code (mNm 279) (mBy 279) (ewMax 279) (mRt 279) ∈ lw_tbl := wd_mem (j := 1956) rfl
theorem mcw_L_dig : Cond.codeWith (mNm 280) (mBy 280) (ewMax 280) (mRt 280) (mHh 280) ∈ lw_tbl := wd_mem (j := 778) rfl
theorem mcw_L_deepen : Cond.codeWith (mNm 281) (mBy 281) (ewMax 281) (mRt 281) (mHh 281) ∈ lw_tbl := wd_mem (j := 788) rfl
theorem mcw_L_fill : Cond.codeWith (mNm 282) (mBy 282) (ewMax 282) (mRt 282) (mHh 282) ∈ lw_tbl := wd_mem (j := 797) rfl
theorem mcw_L_coin : Cond.codeWith (mNm 283) (mBy 283) (ewMax 283) (mRt 283) (mHh 283) ∈ lw_tbl := wd_mem (j := 806) rfl
theorem mcw_L_frog : Cond.codeWith (mNm 284) (mBy 284) (ewMax 284) (mRt 284) (mHh 284) ∈ lw_tbl := wd_mem (j := 815) rfl
theorem mcw_L_moss : Cond.codeWith (mNm 285) (mBy 285) (ewMax 285) (mRt 285) (mHh 285) ∈ lw_tbl := wd_mem (j := 824) rfl
theorem mcw_L_take : Cond.codeWith (mNm 286) (mBy 286) (ewMax 286) (mRt 286) (mHh 286) ∈ lw_tbl := wd_mem (j := 833) rfl
theorem mcw_L_rope : Cond.codeWith (mNm 287) (mBy 287) (ewMax 287) (mRt 287) (mHh 287) ∈ lw_tbl := wd_mem (j := 842) rfl
theorem mcw_L_bind : Cond.codeWith (mNm 288) (mBy 288) (ewMax 288) (mRt 288) (mHh 288) ∈ lw_tbl := wd_mem (j := 851) rfl
theorem mcw_L_fish : Cond.codeWith (mNm 289) (mBy 289) (ewMax 289) (mRt 289) (mHh 289) ∈ lw_tbl := wd_mem (j := 860) rfl
theorem mcw_L_letter : Cond.codeWith (mNm 290) (mBy 290) (ewMax 290) (mRt 290) (mHh 290) ∈ lw_tbl := wd_mem (j := 869) rfl
theorem mcw_L_shout : Cond.codeWith (mNm 291) (mBy 291) (ewMax 291) (mRt 291) (mHh 291) ∈ lw_tbl := wd_mem (j := 910) rfl
theorem mcw_L_wellOf : Cond.codeWith (mNm 292) (mBy 292) (ewMax 292) (mRt 292) (mHh 292) ∈ lw_tbl := wd_mem (j := 920) rfl
theorem mcw_L_thingOf : Cond.codeWith (mNm 293) (mBy 293) (ewMax 293) (mRt 293) (mHh 293) ∈ lw_tbl := wd_mem (j := 982) rfl
theorem mcw_L_ropeOf : Cond.codeWith (mNm 294) (mBy 294) (ewMax 294) (mRt 294) (mHh 294) ∈ lw_tbl := wd_mem (j := 995) rfl
theorem mcw_L_bookOf : Cond.codeWith (mNm 295) (mBy 295) (ewMax 295) (mRt 295) (mHh 295) ∈ lw_tbl := wd_mem (j := 1007) rfl
theorem mcw_L_time : Cond.codeWith (mNm 296) (mBy 296) (ewMax 296) (mRt 296) (mHh 296) ∈ lw_tbl := wd_mem (j := 1034) rfl
theorem mcw_L_timeAgain : Cond.codeWith (mNm 297) (mBy 297) (ewMax 297) (mRt 297) (mHh 297) ∈ lw_tbl := wd_mem (j := 1041) rfl
theorem mcw_L_isLater : Cond.codeWith (mNm 298) (mBy 298) (ewMax 298) (mRt 298) (mHh 298) ∈ lw_tbl := wd_mem (j := 1048) rfl
theorem mcw_L_echoLength : Cond.codeWith (mNm 299) (mBy 299) (ewMax 299) (mRt 299) (mHh 299) ∈ lw_tbl := wd_mem (j := 1055) rfl
theorem mcw_L_echoLetter : Cond.codeWith (mNm 300) (mBy 300) (ewMax 300) (mRt 300) (mHh 300) ∈ lw_tbl := wd_mem (j := 1066) rfl
theorem mcw_L_losses : Cond.codeWith (mNm 301) (mBy 301) (ewMax 301) (mRt 301) (mHh 301) ∈ lw_tbl := wd_mem (j := 1074) rfl
theorem mcw_L_wouldGrade : Cond.codeWith (mNm 302) (mBy 302) (ewMax 302) (mRt 302) (mHh 302) ∈ lw_tbl := wd_mem (j := 1081) rfl
theorem mcw_L_bestWell : Cond.codeWith (mNm 303) (mBy 303) (ewMax 303) (mRt 303) (mHh 303) ∈ lw_tbl := wd_mem (j := 1089) rfl
theorem mcw_L_isWhole : Cond.codeWith (mNm 304) (mBy 304) (ewMax 304) (mRt 304) (mHh 304) ∈ lw_tbl := wd_mem (j := 1096) rfl
theorem mcw_L_reach : Cond.codeWith (mNm 305) (mBy 305) (ewMax 305) (mRt 305) (mHh 305) ∈ lw_tbl := wd_mem (j := 1107) rfl
theorem mcw_L_ranked : Cond.codeWith (mNm 306) (mBy 306) (ewMax 306) (mRt 306) (mHh 306) ∈ lw_tbl := wd_mem (j := 1115) rfl
theorem mcw_L_append : Cond.codeWith (mNm 307) (mBy 307) (ewMax 307) (mRt 307) (mHh 307) ∈ lw_tbl := wd_mem (j := 1130) rfl
theorem mcw_L_run : Cond.codeWith (mNm 308) (mBy 308) (ewMax 308) (mRt 308) (mHh 308) ∈ lw_tbl := wd_mem (j := 1137) rfl
theorem mcw_L_reason : Cond.codeWith (mNm 309) (mBy 309) (ewMax 309) (mRt 309) (mHh 309) ∈ lw_tbl := wd_mem (j := 1271) rfl
theorem mcw_L_tellWell : Cond.codeWith (mNm 310) (mBy 310) (ewMax 310) (mRt 310) (mHh 310) ∈ lw_tbl := wd_mem (j := 1278) rfl
theorem mcw_L_character : Cond.codeWith (mNm 311) (mBy 311) (ewMax 311) (mRt 311) (mHh 311) ∈ lw_tbl := wd_mem (j := 1293) rfl
theorem mcw_L_account : Cond.codeWith (mNm 312) (mBy 312) (ewMax 312) (mRt 312) (mHh 312) ∈ lw_tbl := wd_mem (j := 1300) rfl
theorem mcw_L_meanGrade : Cond.codeWith (mNm 313) (mBy 313) (ewMax 313) (mRt 313) (mHh 313) ∈ lw_tbl := wd_mem (j := 1312) rfl
theorem mcw_L_lostShare : Cond.codeWith (mNm 314) (mBy 314) (ewMax 314) (mRt 314) (mHh 314) ∈ lw_tbl := wd_mem (j := 1338) rfl
theorem mcw_L_undo : Cond.codeWith (mNm 315) (mBy 315) (ewMax 315) (mRt 315) (mHh 315) ∈ lw_tbl := wd_mem (j := 1345) rfl
theorem mcw_L_restore : Cond.codeWith (mNm 316) (mBy 316) (ewMax 316) (mRt 316) (mHh 316) ∈ lw_tbl := wd_mem (j := 1357) rfl
theorem mcwA_0 : ∀ m ∈ [0, 1, 2, 3, 4, 5, 6, 7, 8, 9, 10, 11, 12, 13, 14, 15, 16, 17, 18, 19, 20, 21, 22, 23, 24, 25, 26, 27, 28, 29, 30, 31, 32, 33, 34, 35, 36, 37, 38, 39], Cond.code (mNm m) (mBy m) (ewMax m) (mRt m) ∈ lw_tbl := List.forall_mem_cons.mpr ⟨mcw_X1_init, List.forall_mem_cons.mpr ⟨mcw_X1_copy, List.forall_mem_cons.mpr ⟨mcw_X1_numberAt, List.forall_mem_cons.mpr ⟨mcw_X1_enter, List.forall_mem_cons.mpr ⟨mcw_X1_setFirst, List.forall_mem_cons.mpr ⟨mcw_X2_init, List.forall_mem_cons.mpr ⟨mcw_X2_look, List.forall_mem_cons.mpr ⟨mcw_X2_keep, List.forall_mem_cons.mpr ⟨mcw_X2_takeBack, List.forall_mem_cons.mpr ⟨mcw_X2_goBack, List.forall_mem_cons.mpr ⟨mcw_X2_forget, List.forall_mem_cons.mpr ⟨mcw_X2_slotAt, List.forall_mem_cons.mpr ⟨mcw_X3_init, List.forall_mem_cons.mpr ⟨mcw_X3_obey, List.forall_mem_cons.mpr ⟨mcw_X3_refuseOrder, List.forall_mem_cons.mpr ⟨mcw_X3_openWell, List.forall_mem_cons.mpr ⟨mcw_X3_lowerBottom, List.forall_mem_cons.mpr ⟨mcw_X3_closeWell, List.forall_mem_cons.mpr ⟨mcw_X3_dropThing, List.forall_mem_cons.mpr ⟨mcw_X3_removeThing, List.forall_mem_cons.mpr ⟨mcw_X3_bringRope, List.forall_mem_cons.mpr ⟨mcw_X3_tieRope, List.forall_mem_cons.mpr ⟨mcw_X3_pullCoin, List.forall_mem_cons.mpr ⟨mcw_X3_sendDown, List.forall_mem_cons.mpr ⟨mcw_X3_refuse, List.forall_mem_cons.mpr ⟨mcw_X3_isIn, List.forall_mem_cons.mpr ⟨mcw_X4_init, List.forall_mem_cons.mpr ⟨mcw_X4_size, List.forall_mem_cons.mpr ⟨mcw_X4_at, List.forall_mem_cons.mpr ⟨mcw_X4_put, List.forall_mem_cons.mpr ⟨mcw_X4_putNumber, List.forall_mem_cons.mpr ⟨mcw_X4_clear, List.forall_mem_cons.mpr ⟨mcw_X4_copy, List.forall_mem_cons.mpr ⟨mcw_X4_isSame, List.forall_mem_cons.mpr ⟨mcw_X4_countOfVowels, List.forall_mem_cons.mpr ⟨mcw_X4_cutLast, List.forall_mem_cons.mpr ⟨mcw_X4_cutFirstVowel, List.forall_mem_cons.mpr ⟨mcw_X4_cutVowels, List.forall_mem_cons.mpr ⟨mcw_X4_turn, List.forall_mem_cons.mpr ⟨mcw_X4_cutAt, fun _ h => absurd h List.not_mem_nil⟩⟩⟩⟩⟩⟩⟩⟩⟩⟩⟩⟩⟩⟩⟩⟩⟩⟩⟩⟩⟩⟩⟩⟩⟩⟩⟩⟩⟩⟩⟩⟩⟩⟩⟩⟩⟩⟩⟩⟩
theorem mcwA_1 : ∀ m ∈ [40, 41, 42, 43, 44, 45, 46, 47, 48, 49, 50, 51, 52, 53, 54, 55, 56, 57, 58, 59, 60, 61, 62, 63, 64, 65, 66, 67, 68, 69, 70, 71, 72, 73, 74, 75, 76, 77, 78, 79], Cond.code (mNm m) (mBy m) (ewMax m) (mRt m) ∈ lw_tbl := List.forall_mem_cons.mpr ⟨mcw_X6_init, List.forall_mem_cons.mpr ⟨mcw_X6_countOrders, List.forall_mem_cons.mpr ⟨mcw_X6_rewind, List.forall_mem_cons.mpr ⟨mcw_X6_readOrder, List.forall_mem_cons.mpr ⟨mcw_X6_readSign, List.forall_mem_cons.mpr ⟨mcw_X6_numberAt, List.forall_mem_cons.mpr ⟨mcw_X6_readName, List.forall_mem_cons.mpr ⟨mcw_X6_sameSigns, List.forall_mem_cons.mpr ⟨mcw_X6_readPart, List.forall_mem_cons.mpr ⟨mcw_X6_readNumber, List.forall_mem_cons.mpr ⟨mcw_X6_readBottom, List.forall_mem_cons.mpr ⟨mcw_X6_readLetter, List.forall_mem_cons.mpr ⟨mcw_X6_readWord, List.forall_mem_cons.mpr ⟨mcw_X6_note, List.forall_mem_cons.mpr ⟨mcw_X6_isDigit, List.forall_mem_cons.mpr ⟨mcw_X7_init, List.forall_mem_cons.mpr ⟨mcw_X7_set, List.forall_mem_cons.mpr ⟨mcw_X8_init, List.forall_mem_cons.mpr ⟨mcw_X8_open, List.forall_mem_cons.mpr ⟨mcw_X8_copy, List.forall_mem_cons.mpr ⟨mcw_X9_init, List.forall_mem_cons.mpr ⟨mcw_X9_go, List.forall_mem_cons.mpr ⟨mcw_X9_gradeFor, List.forall_mem_cons.mpr ⟨mcw_X9_pass, List.forall_mem_cons.mpr ⟨mcw_X9_answer, List.forall_mem_cons.mpr ⟨mcw_X9_turnAt, List.forall_mem_cons.mpr ⟨mcw_X10_init, List.forall_mem_cons.mpr ⟨mcw_X10_open, List.forall_mem_cons.mpr ⟨mcw_X10_copy, List.forall_mem_cons.mpr ⟨mcw_X10_hasThing, List.forall_mem_cons.mpr ⟨mcw_X10_kindOf, List.forall_mem_cons.mpr ⟨mcw_X10_depthOf, List.forall_mem_cons.mpr ⟨mcw_X10_valueOf, List.forall_mem_cons.mpr ⟨mcw_X10_isAwake, List.forall_mem_cons.mpr ⟨mcw_X10_add, List.forall_mem_cons.mpr ⟨mcw_X10_remove, List.forall_mem_cons.mpr ⟨mcw_X10_placeOf, List.forall_mem_cons.mpr ⟨mcw_X10_thingAt, List.forall_mem_cons.mpr ⟨mcw_X10_uppermostCoin, List.forall_mem_cons.mpr ⟨mcw_X10_countOf, fun _ h => absurd h List.not_mem_nil⟩⟩⟩⟩⟩⟩⟩⟩⟩⟩⟩⟩⟩⟩⟩⟩⟩⟩⟩⟩⟩⟩⟩⟩⟩⟩⟩⟩⟩⟩⟩⟩⟩⟩⟩⟩⟩⟩⟩⟩
theorem mcwA_2 : ∀ m ∈ [80, 81, 82, 83, 84, 85, 86, 87, 88, 89, 90, 91, 92, 93, 94, 95, 96, 97, 98, 99, 100, 101, 102, 103, 104, 105, 106, 107, 108, 109, 110, 111, 112, 113, 114, 115, 116, 117, 118, 119], Cond.code (mNm m) (mBy m) (ewMax m) (mRt m) ∈ lw_tbl := List.forall_mem_cons.mpr ⟨mcw_X10_countOfFrogs, List.forall_mem_cons.mpr ⟨mcw_X10_setFrogs, List.forall_mem_cons.mpr ⟨mcw_X10_timeByKinds, List.forall_mem_cons.mpr ⟨mcw_X10_hasThingBelow, List.forall_mem_cons.mpr ⟨mcw_X10_set, List.forall_mem_cons.mpr ⟨mcw_X11_init, List.forall_mem_cons.mpr ⟨mcw_X11_copy, List.forall_mem_cons.mpr ⟨mcw_X11_wellAt, List.forall_mem_cons.mpr ⟨mcw_X11_ropeAt, List.forall_mem_cons.mpr ⟨mcw_X11_addWell, List.forall_mem_cons.mpr ⟨mcw_X11_addRope, List.forall_mem_cons.mpr ⟨mcw_X11_removeWell, List.forall_mem_cons.mpr ⟨mcw_X11_ropesAt, List.forall_mem_cons.mpr ⟨mcw_X11_countOfThings, List.forall_mem_cons.mpr ⟨mcw_X11_countOfSleepers, List.forall_mem_cons.mpr ⟨mcw_X11_wakeFrogs, List.forall_mem_cons.mpr ⟨mcw_X11_enter, List.forall_mem_cons.mpr ⟨mcw_X11_copyWell, List.forall_mem_cons.mpr ⟨mcw_X11_copyRope, List.forall_mem_cons.mpr ⟨mcw_X12_init, List.forall_mem_cons.mpr ⟨mcw_X12_dig, List.forall_mem_cons.mpr ⟨mcw_X12_deepen, List.forall_mem_cons.mpr ⟨mcw_X12_fill, List.forall_mem_cons.mpr ⟨mcw_X12_coin, List.forall_mem_cons.mpr ⟨mcw_X12_frog, List.forall_mem_cons.mpr ⟨mcw_X12_moss, List.forall_mem_cons.mpr ⟨mcw_X12_take, List.forall_mem_cons.mpr ⟨mcw_X12_wake, List.forall_mem_cons.mpr ⟨mcw_X12_rope, List.forall_mem_cons.mpr ⟨mcw_X12_bind, List.forall_mem_cons.mpr ⟨mcw_X12_fish, List.forall_mem_cons.mpr ⟨mcw_X12_letter, List.forall_mem_cons.mpr ⟨mcw_X12_shout, List.forall_mem_cons.mpr ⟨mcw_X12_wellOf, List.forall_mem_cons.mpr ⟨mcw_X12_thingOf, List.forall_mem_cons.mpr ⟨mcw_X12_ropeOf, List.forall_mem_cons.mpr ⟨mcw_X12_bookOf, List.forall_mem_cons.mpr ⟨mcw_X12_time, List.forall_mem_cons.mpr ⟨mcw_X12_timeAgain, List.forall_mem_cons.mpr ⟨mcw_X12_isLater, fun _ h => absurd h List.not_mem_nil⟩⟩⟩⟩⟩⟩⟩⟩⟩⟩⟩⟩⟩⟩⟩⟩⟩⟩⟩⟩⟩⟩⟩⟩⟩⟩⟩⟩⟩⟩⟩⟩⟩⟩⟩⟩⟩⟩⟩⟩
theorem mcwA_3 : ∀ m ∈ [120, 121, 122, 123, 124, 125, 126, 127, 128, 129, 130, 131, 132, 133, 134, 135, 136, 137, 138, 139, 140, 141, 142, 143, 144, 145, 146, 147, 148, 149, 150, 151, 152, 153, 154, 155, 156, 157, 158, 159], Cond.code (mNm m) (mBy m) (ewMax m) (mRt m) ∈ lw_tbl := List.forall_mem_cons.mpr ⟨mcw_X12_echoLength, List.forall_mem_cons.mpr ⟨mcw_X12_echoLetter, List.forall_mem_cons.mpr ⟨mcw_X12_losses, List.forall_mem_cons.mpr ⟨mcw_X12_wouldGrade, List.forall_mem_cons.mpr ⟨mcw_X12_bestWell, List.forall_mem_cons.mpr ⟨mcw_X12_isWhole, List.forall_mem_cons.mpr ⟨mcw_X12_vowels, List.forall_mem_cons.mpr ⟨mcw_X12_reach, List.forall_mem_cons.mpr ⟨mcw_X12_ranked, List.forall_mem_cons.mpr ⟨mcw_X12_isTold, List.forall_mem_cons.mpr ⟨mcw_X12_append, List.forall_mem_cons.mpr ⟨mcw_X12_run, List.forall_mem_cons.mpr ⟨mcw_X12_faultPosition, List.forall_mem_cons.mpr ⟨mcw_X12_reason, List.forall_mem_cons.mpr ⟨mcw_X12_tellWord, List.forall_mem_cons.mpr ⟨mcw_X12_tellEcho, List.forall_mem_cons.mpr ⟨mcw_X12_tellWell, List.forall_mem_cons.mpr ⟨mcw_X12_character, List.forall_mem_cons.mpr ⟨mcw_X12_account, List.forall_mem_cons.mpr ⟨mcw_X12_meanGrade, List.forall_mem_cons.mpr ⟨mcw_X12_lostShare, List.forall_mem_cons.mpr ⟨mcw_X12_undo, List.forall_mem_cons.mpr ⟨mcw_X12_save, List.forall_mem_cons.mpr ⟨mcw_X12_restore, List.forall_mem_cons.mpr ⟨mcw_X12_changed, List.forall_mem_cons.mpr ⟨mcw_X12_areObeyed, List.forall_mem_cons.mpr ⟨mcw_X12_askedWell, List.forall_mem_cons.mpr ⟨mcw_X12_askedRope, List.forall_mem_cons.mpr ⟨mcw_X12_sendWord, List.forall_mem_cons.mpr ⟨mcw_X12_timeOnTheWay, List.forall_mem_cons.mpr ⟨mcw_X12_rankOf, List.forall_mem_cons.mpr ⟨mcw_X12_measureOf, List.forall_mem_cons.mpr ⟨mcw_X12_tellThing, List.forall_mem_cons.mpr ⟨mcw_X12_isLetter, List.forall_mem_cons.mpr ⟨mcw_X12_isVowel, List.forall_mem_cons.mpr ⟨mcw_X13_init, List.forall_mem_cons.mpr ⟨mcw_X13_thrown, List.forall_mem_cons.mpr ⟨mcw_X13_fails, List.forall_mem_cons.mpr ⟨mcw_X13_isBetween, List.forall_mem_cons.mpr ⟨mcw_X13_isNot, fun _ h => absurd h List.not_mem_nil⟩⟩⟩⟩⟩⟩⟩⟩⟩⟩⟩⟩⟩⟩⟩⟩⟩⟩⟩⟩⟩⟩⟩⟩⟩⟩⟩⟩⟩⟩⟩⟩⟩⟩⟩⟩⟩⟩⟩⟩
theorem mcwA_4 : ∀ m ∈ [160, 161, 162, 163, 164, 165, 166, 167, 168, 169, 170, 171, 172, 173, 174, 175, 176, 177, 178, 179, 180, 181, 182, 183, 184, 185, 186, 187, 188, 189, 190, 191, 192, 193, 194, 195, 196, 197, 198, 199], Cond.code (mNm m) (mBy m) (ewMax m) (mRt m) ∈ lw_tbl := List.forall_mem_cons.mpr ⟨mcw_X13_throwsNow, List.forall_mem_cons.mpr ⟨mcw_X13_reason, List.forall_mem_cons.mpr ⟨mcw_X13_thinks, List.forall_mem_cons.mpr ⟨mcw_X13_forgets, List.forall_mem_cons.mpr ⟨mcw_X13_keepsMind, List.forall_mem_cons.mpr ⟨mcw_X13_remembers, List.forall_mem_cons.mpr ⟨mcw_X13_of, List.forall_mem_cons.mpr ⟨mcw_X13_sets, List.forall_mem_cons.mpr ⟨mcw_X13_is, List.forall_mem_cons.mpr ⟨mcw_X13_isWell, List.forall_mem_cons.mpr ⟨mcw_X13_isThing, List.forall_mem_cons.mpr ⟨mcw_X13_isRope, List.forall_mem_cons.mpr ⟨mcw_X13_ropeIs, List.forall_mem_cons.mpr ⟨mcw_X13_boundTo, List.forall_mem_cons.mpr ⟨mcw_X13_countThings, List.forall_mem_cons.mpr ⟨mcw_X13_ropesAt, List.forall_mem_cons.mpr ⟨mcw_X13_placeOf, List.forall_mem_cons.mpr ⟨mcw_X13_thingAt, List.forall_mem_cons.mpr ⟨mcw_X13_notDig, List.forall_mem_cons.mpr ⟨mcw_X13_digs, List.forall_mem_cons.mpr ⟨mcw_X13_dig, List.forall_mem_cons.mpr ⟨mcw_X13_notDeepen, List.forall_mem_cons.mpr ⟨mcw_X13_deepens, List.forall_mem_cons.mpr ⟨mcw_X13_deepen, List.forall_mem_cons.mpr ⟨mcw_X13_notFill, List.forall_mem_cons.mpr ⟨mcw_X13_fills, List.forall_mem_cons.mpr ⟨mcw_X13_fill, List.forall_mem_cons.mpr ⟨mcw_X13_notThing, List.forall_mem_cons.mpr ⟨mcw_X13_comes, List.forall_mem_cons.mpr ⟨mcw_X13_coin, List.forall_mem_cons.mpr ⟨mcw_X13_frog, List.forall_mem_cons.mpr ⟨mcw_X13_moss, List.forall_mem_cons.mpr ⟨mcw_X13_notTake, List.forall_mem_cons.mpr ⟨mcw_X13_takes, List.forall_mem_cons.mpr ⟨mcw_X13_take, List.forall_mem_cons.mpr ⟨mcw_X13_asleepIn, List.forall_mem_cons.mpr ⟨mcw_X13_asleep, List.forall_mem_cons.mpr ⟨mcw_X13_wakes, List.forall_mem_cons.mpr ⟨mcw_X13_wake, List.forall_mem_cons.mpr ⟨mcw_X13_notRope, fun _ h => absurd h List.not_mem_nil⟩⟩⟩⟩⟩⟩⟩⟩⟩⟩⟩⟩⟩⟩⟩⟩⟩⟩⟩⟩⟩⟩⟩⟩⟩⟩⟩⟩⟩⟩⟩⟩⟩⟩⟩⟩⟩⟩⟩⟩
theorem mcwA_5 : ∀ m ∈ [200, 201, 202, 203, 204, 205, 206, 207, 208, 209, 210, 211, 212, 213, 214, 215, 216, 217, 218, 219, 220, 221, 222, 223, 224, 225, 226, 227, 228, 229, 230, 231, 232, 233, 234, 235, 236, 237, 238, 239], Cond.code (mNm m) (mBy m) (ewMax m) (mRt m) ∈ lw_tbl := List.forall_mem_cons.mpr ⟨mcw_X13_ropeComes, List.forall_mem_cons.mpr ⟨mcw_X13_rope, List.forall_mem_cons.mpr ⟨mcw_X13_notBind, List.forall_mem_cons.mpr ⟨mcw_X13_binds, List.forall_mem_cons.mpr ⟨mcw_X13_bind, List.forall_mem_cons.mpr ⟨mcw_X13_reached, List.forall_mem_cons.mpr ⟨mcw_X13_notFish, List.forall_mem_cons.mpr ⟨mcw_X13_fishes, List.forall_mem_cons.mpr ⟨mcw_X13_fish, List.forall_mem_cons.mpr ⟨mcw_X13_isLetter, List.forall_mem_cons.mpr ⟨mcw_X13_isVowel, List.forall_mem_cons.mpr ⟨mcw_X13_letter, List.forall_mem_cons.mpr ⟨mcw_X13_saysWord, List.forall_mem_cons.mpr ⟨mcw_X13_losesAt, List.forall_mem_cons.mpr ⟨mcw_X13_losesVowel, List.forall_mem_cons.mpr ⟨mcw_X13_passes, List.forall_mem_cons.mpr ⟨mcw_X13_turns, List.forall_mem_cons.mpr ⟨mcw_X13_sounds, List.forall_mem_cons.mpr ⟨mcw_X13_timeOf, List.forall_mem_cons.mpr ⟨mcw_X13_gradeOf, List.forall_mem_cons.mpr ⟨mcw_X13_notShout, List.forall_mem_cons.mpr ⟨mcw_X13_writesPage, List.forall_mem_cons.mpr ⟨mcw_X13_shouts, List.forall_mem_cons.mpr ⟨mcw_X13_shout, List.forall_mem_cons.mpr ⟨mcw_X13_wellOf, List.forall_mem_cons.mpr ⟨mcw_X13_thingOf, List.forall_mem_cons.mpr ⟨mcw_X13_ropeOf, List.forall_mem_cons.mpr ⟨mcw_X13_bookOf, List.forall_mem_cons.mpr ⟨mcw_X13_time, List.forall_mem_cons.mpr ⟨mcw_X13_timeAgain, List.forall_mem_cons.mpr ⟨mcw_X13_isLater, List.forall_mem_cons.mpr ⟨mcw_X13_hasEcho, List.forall_mem_cons.mpr ⟨mcw_X13_echoLength, List.forall_mem_cons.mpr ⟨mcw_X13_echoLetter, List.forall_mem_cons.mpr ⟨mcw_X13_losses, List.forall_mem_cons.mpr ⟨mcw_X13_wouldGrade, List.forall_mem_cons.mpr ⟨mcw_X13_gradeNow, List.forall_mem_cons.mpr ⟨mcw_X13_isBetter, List.forall_mem_cons.mpr ⟨mcw_X13_bestWell, List.forall_mem_cons.mpr ⟨mcw_X13_isWhole, fun _ h => absurd h List.not_mem_nil⟩⟩⟩⟩⟩⟩⟩⟩⟩⟩⟩⟩⟩⟩⟩⟩⟩⟩⟩⟩⟩⟩⟩⟩⟩⟩⟩⟩⟩⟩⟩⟩⟩⟩⟩⟩⟩⟩⟩⟩
theorem mcwA_6 : ∀ m ∈ [240, 241, 242, 243, 244, 245, 246, 247, 248, 249, 250, 251, 252, 253, 254, 255, 256, 257, 258, 259, 260, 261, 262, 263, 264, 265, 266, 267, 268, 269, 270, 271, 272, 273, 274, 275, 276, 277, 278, 279], Cond.code (mNm m) (mBy m) (ewMax m) (mRt m) ∈ lw_tbl := List.forall_mem_cons.mpr ⟨mcw_X13_vowels, List.forall_mem_cons.mpr ⟨mcw_X13_reach, List.forall_mem_cons.mpr ⟨mcw_X13_rank, List.forall_mem_cons.mpr ⟨mcw_X13_ranked, List.forall_mem_cons.mpr ⟨mcw_X13_isTold, List.forall_mem_cons.mpr ⟨mcw_X13_writes, List.forall_mem_cons.mpr ⟨mcw_X13_writesNumber, List.forall_mem_cons.mpr ⟨mcw_X13_tellWord, List.forall_mem_cons.mpr ⟨mcw_X13_tellEcho, List.forall_mem_cons.mpr ⟨mcw_X13_writesThing, List.forall_mem_cons.mpr ⟨mcw_X13_tellWell, List.forall_mem_cons.mpr ⟨mcw_X13_character, List.forall_mem_cons.mpr ⟨mcw_X13_thingsAll, List.forall_mem_cons.mpr ⟨mcw_X13_account, List.forall_mem_cons.mpr ⟨mcw_X13_meanGrade, List.forall_mem_cons.mpr ⟨mcw_X13_lostShare, List.forall_mem_cons.mpr ⟨mcw_X13_append, List.forall_mem_cons.mpr ⟨mcw_X13_faultPosition, List.forall_mem_cons.mpr ⟨mcw_X13_nextSign, List.forall_mem_cons.mpr ⟨mcw_X13_reads, List.forall_mem_cons.mpr ⟨mcw_X13_readsDigit, List.forall_mem_cons.mpr ⟨mcw_X13_readsNumber, List.forall_mem_cons.mpr ⟨mcw_X13_readsRest, List.forall_mem_cons.mpr ⟨mcw_X13_readsBottom, List.forall_mem_cons.mpr ⟨mcw_X13_readsD, List.forall_mem_cons.mpr ⟨mcw_X13_readsLetter, List.forall_mem_cons.mpr ⟨mcw_X13_readsPlace, List.forall_mem_cons.mpr ⟨mcw_X13_readsF, List.forall_mem_cons.mpr ⟨mcw_X13_readsShout, List.forall_mem_cons.mpr ⟨mcw_X13_readsTwo, List.forall_mem_cons.mpr ⟨mcw_X13_readsOrder, List.forall_mem_cons.mpr ⟨mcw_X13_readsAll, List.forall_mem_cons.mpr ⟨mcw_X13_notNow, List.forall_mem_cons.mpr ⟨mcw_X13_doesNow, List.forall_mem_cons.mpr ⟨mcw_X13_doesAll, List.forall_mem_cons.mpr ⟨mcw_X13_keepsBehind, List.forall_mem_cons.mpr ⟨mcw_X13_run, List.forall_mem_cons.mpr ⟨mcw_X13_undo, List.forall_mem_cons.mpr ⟨mcw_X13_save, List.forall_mem_cons.mpr ⟨mcw_X13_restore, fun _ h => absurd h List.not_mem_nil⟩⟩⟩⟩⟩⟩⟩⟩⟩⟩⟩⟩⟩⟩⟩⟩⟩⟩⟩⟩⟩⟩⟩⟩⟩⟩⟩⟩⟩⟩⟩⟩⟩⟩⟩⟩⟩⟩⟩⟩
theorem mcwB_0 : ∀ m ∈ [280, 281, 282, 283, 284, 285, 286, 287, 288, 289, 290, 291, 292, 293, 294, 295, 296, 297, 298, 299, 300, 301, 302, 303, 304, 305, 306, 307, 308, 309, 310, 311, 312, 313, 314, 315, 316], Cond.codeWith (mNm m) (mBy m) (ewMax m) (mRt m) (mHh m) ∈ lw_tbl := List.forall_mem_cons.mpr ⟨mcw_L_dig, List.forall_mem_cons.mpr ⟨mcw_L_deepen, List.forall_mem_cons.mpr ⟨mcw_L_fill, List.forall_mem_cons.mpr ⟨mcw_L_coin, List.forall_mem_cons.mpr ⟨mcw_L_frog, List.forall_mem_cons.mpr ⟨mcw_L_moss, List.forall_mem_cons.mpr ⟨mcw_L_take, List.forall_mem_cons.mpr ⟨mcw_L_rope, List.forall_mem_cons.mpr ⟨mcw_L_bind, List.forall_mem_cons.mpr ⟨mcw_L_fish, List.forall_mem_cons.mpr ⟨mcw_L_letter, List.forall_mem_cons.mpr ⟨mcw_L_shout, List.forall_mem_cons.mpr ⟨mcw_L_wellOf, List.forall_mem_cons.mpr ⟨mcw_L_thingOf, List.forall_mem_cons.mpr ⟨mcw_L_ropeOf, List.forall_mem_cons.mpr ⟨mcw_L_bookOf, List.forall_mem_cons.mpr ⟨mcw_L_time, List.forall_mem_cons.mpr ⟨mcw_L_timeAgain, List.forall_mem_cons.mpr ⟨mcw_L_isLater, List.forall_mem_cons.mpr ⟨mcw_L_echoLength, List.forall_mem_cons.mpr ⟨mcw_L_echoLetter, List.forall_mem_cons.mpr ⟨mcw_L_losses, List.forall_mem_cons.mpr ⟨mcw_L_wouldGrade, List.forall_mem_cons.mpr ⟨mcw_L_bestWell, List.forall_mem_cons.mpr ⟨mcw_L_isWhole, List.forall_mem_cons.mpr ⟨mcw_L_reach, List.forall_mem_cons.mpr ⟨mcw_L_ranked, List.forall_mem_cons.mpr ⟨mcw_L_append, List.forall_mem_cons.mpr ⟨mcw_L_run, List.forall_mem_cons.mpr ⟨mcw_L_reason, List.forall_mem_cons.mpr ⟨mcw_L_tellWell, List.forall_mem_cons.mpr ⟨mcw_L_character, List.forall_mem_cons.mpr ⟨mcw_L_account, List.forall_mem_cons.mpr ⟨mcw_L_meanGrade, List.forall_mem_cons.mpr ⟨mcw_L_lostShare, List.forall_mem_cons.mpr ⟨mcw_L_undo, List.forall_mem_cons.mpr ⟨mcw_L_restore, fun _ h => absurd h List.not_mem_nil⟩⟩⟩⟩⟩⟩⟩⟩⟩⟩⟩⟩⟩⟩⟩⟩⟩⟩⟩⟩⟩⟩⟩⟩⟩⟩⟩⟩⟩⟩⟩⟩⟩⟩⟩⟩⟩
theorem mcwA : ∀ m, m < m_L_dig → Cond.code (mNm m) (mBy m) (ewMax m) (mRt m) ∈ lw_tbl := by
  intro m hm
  have h : m ∈ [0, 1, 2, 3, 4, 5, 6, 7, 8, 9, 10, 11, 12, 13, 14, 15, 16, 17, 18, 19, 20, 21, 22, 23, 24, 25, 26, 27, 28, 29, 30, 31, 32, 33, 34, 35, 36, 37, 38, 39] ∨ m ∈ [40, 41, 42, 43, 44, 45, 46, 47, 48, 49, 50, 51, 52, 53, 54, 55, 56, 57, 58, 59, 60, 61, 62, 63, 64, 65, 66, 67, 68, 69, 70, 71, 72, 73, 74, 75, 76, 77, 78, 79] ∨ m ∈ [80, 81, 82, 83, 84, 85, 86, 87, 88, 89, 90, 91, 92, 93, 94, 95, 96, 97, 98, 99, 100, 101, 102, 103, 104, 105, 106, 107, 108, 109, 110, 111, 112, 113, 114, 115, 116, 117, 118, 119] ∨ m ∈ [120, 121, 122, 123, 124, 125, 126, 127, 128, 129, 130, 131, 132, 133, 134, 135, 136, 137, 138, 139, 140, 141, 142, 143, 144, 145, 146, 147, 148, 149, 150, 151, 152, 153, 154, 155, 156, 157, 158, 159] ∨ m ∈ [160, 161, 162, 163, 164, 165, 166, 167, 168, 169, 170, 171, 172, 173, 174, 175, 176, 177, 178, 179, 180, 181, 182, 183, 184, 185, 186, 187, 188, 189, 190, 191, 192, 193, 194, 195, 196, 197, 198, 199] ∨ m ∈ [200, 201, 202, 203, 204, 205, 206, 207, 208, 209, 210, 211, 212, 213, 214, 215, 216, 217, 218, 219, 220, 221, 222, 223, 224, 225, 226, 227, 228, 229, 230, 231, 232, 233, 234, 235, 236, 237, 238, 239] ∨ m ∈ [240, 241, 242, 243, 244, 245, 246, 247, 248, 249, 250, 251, 252, 253, 254, 255, 256, 257, 258, 259, 260, 261, 262, 263, 264, 265, 266, 267, 268, 269, 270, 271, 272, 273, 274, 275, 276, 277, 278, 279] := by
    have : ∀ m, m < 280 → (m ∈ [0, 1, 2, 3, 4, 5, 6, 7, 8, 9, 10, 11, 12, 13, 14, 15, 16, 17, 18, 19, 20, 21, 22, 23, 24, 25, 26, 27, 28, 29, 30, 31, 32, 33, 34, 35, 36, 37, 38, 39] ∨ m ∈ [40, 41, 42, 43, 44, 45, 46, 47, 48, 49, 50, 51, 52, 53, 54, 55, 56, 57, 58, 59, 60, 61, 62, 63, 64, 65, 66, 67, 68, 69, 70, 71, 72, 73, 74, 75, 76, 77, 78, 79] ∨ m ∈ [80, 81, 82, 83, 84, 85, 86, 87, 88, 89, 90, 91, 92, 93, 94, 95, 96, 97, 98, 99, 100, 101, 102, 103, 104, 105, 106, 107, 108, 109, 110, 111, 112, 113, 114, 115, 116, 117, 118, 119] ∨ m ∈ [120, 121, 122, 123, 124, 125, 126, 127, 128, 129, 130, 131, 132, 133, 134, 135, 136, 137, 138, 139, 140, 141, 142, 143, 144, 145, 146, 147, 148, 149, 150, 151, 152, 153, 154, 155, 156, 157, 158, 159] ∨ m ∈ [160, 161, 162, 163, 164, 165, 166, 167, 168, 169, 170, 171, 172, 173, 174, 175, 176, 177, 178, 179, 180, 181, 182, 183, 184, 185, 186, 187, 188, 189, 190, 191, 192, 193, 194, 195, 196, 197, 198, 199] ∨ m ∈ [200, 201, 202, 203, 204, 205, 206, 207, 208, 209, 210, 211, 212, 213, 214, 215, 216, 217, 218, 219, 220, 221, 222, 223, 224, 225, 226, 227, 228, 229, 230, 231, 232, 233, 234, 235, 236, 237, 238, 239] ∨ m ∈ [240, 241, 242, 243, 244, 245, 246, 247, 248, 249, 250, 251, 252, 253, 254, 255, 256, 257, 258, 259, 260, 261, 262, 263, 264, 265, 266, 267, 268, 269, 270, 271, 272, 273, 274, 275, 276, 277, 278, 279]) := by decide +kernel
    exact this m hm
  rcases h with h | h | h | h | h | h | h
  · exact mcwA_0 m h
  · exact mcwA_1 m h
  · exact mcwA_2 m h
  · exact mcwA_3 m h
  · exact mcwA_4 m h
  · exact mcwA_5 m h
  · exact mcwA_6 m h
theorem mcwB : ∀ m, m_L_dig ≤ m → m < m_L_law → Cond.codeWith (mNm m) (mBy m) (ewMax m) (mRt m) (mHh m) ∈ lw_tbl := by
  intro m h0 hm
  have : ∀ m, m < 317 → 280 ≤ m → m ∈ [280, 281, 282, 283, 284, 285, 286, 287, 288, 289, 290, 291, 292, 293, 294, 295, 296, 297, 298, 299, 300, 301, 302, 303, 304, 305, 306, 307, 308, 309, 310, 311, 312, 313, 314, 315, 316] := by decide +kernel
  exact mcwB_0 m (this m hm h0)
