def mX0_init : z_MI := (yX0_init, cX0_init, 2, none)
def mX0_face : z_MI := (yX0_face, cX0_face, 4, none)
def mX0_faceHour : z_MI := (yX0_faceHour, cX0_faceHour, 6, none)
def mX0_faceHeats : z_MI := (yX0_faceHeats, cX0_faceHeats, 8, none)
def mX0_takeLine : z_MI := (yX0_takeLine, cX0_takeLine, 4, none)
def mX0_leftBehind : z_MI := (yX0_leftBehind, cX0_leftBehind, 5, some .int)
def mX0_leftAfterEven : z_MI := (yX0_leftAfterEven, cX0_leftAfterEven, 5, some .int)
def mX0_leftAfterSplits : z_MI := (yX0_leftAfterSplits, cX0_leftAfterSplits, 6, some .int)
def mX0_paceThatTakes : z_MI := (yX0_paceThatTakes, cX0_paceThatTakes, 2, some .int)
def mX0_evenPace : z_MI := (yX0_evenPace, cX0_evenPace, 2, some .int)
def mX0_leastTime : z_MI := (yX0_leastTime, cX0_leastTime, 1, some .int)
def mX0_solve : z_MI := (yX0_solve, cX0_solve, 3, none)
def mX0_chooseTries : z_MI := (yX0_chooseTries, cX0_chooseTries, 5, none)
def mX0_leastAt : z_MI := (yX0_leastAt, cX0_leastAt, 10, some .int)
def mX0_leastFrom : z_MI := (yX0_leastFrom, cX0_leastFrom, 3, some .int)
def mX0_paceOfBest : z_MI := (yX0_paceOfBest, cX0_paceOfBest, 5, some .int)
def mX0_firstPace : z_MI := (yX0_firstPace, cX0_firstPace, 5, some .int)
def mX1_init : z_MI := (yX1_init, cX1_init, 1, none)
def mX1_start : z_MI := (yX1_start, cX1_start, 4, none)
def mX1_changePace : z_MI := (yX1_changePace, cX1_changePace, 2, none)
def mX1_isShelteredBy : z_MI := (yX1_isShelteredBy, cX1_isShelteredBy, 3, some .boolean)
def mX1_run : z_MI := (yX1_run, cX1_run, 5, none)
def mX2_init : z_MI := (yX2_init, cX2_init, 1, none)
def mX2_clear : z_MI := (yX2_clear, cX2_clear, 1, none)
def mX2_become : z_MI := (yX2_become, cX2_become, 2, none)
def mX2_hasMile : z_MI := (yX2_hasMile, cX2_hasMile, 2, some .boolean)
def mX2_hasRunner : z_MI := (yX2_hasRunner, cX2_hasRunner, 2, some .boolean)
def mX2_hasRabbits : z_MI := (yX2_hasRabbits, cX2_hasRabbits, 2, some .boolean)
def mX2_rulesOfAll : z_MI := (yX2_rulesOfAll, cX2_rulesOfAll, 3, some .int)
def mX2_costOf : z_MI := (yX2_costOf, cX2_costOf, 4, some .int)
def mX2_needOf : z_MI := (yX2_needOf, cX2_needOf, 6, some .int)
def mX2_easyPace : z_MI := (yX2_easyPace, cX2_easyPace, 4, some .int)
def mX2_isShelteredBy : z_MI := (yX2_isShelteredBy, cX2_isShelteredBy, 5, some .boolean)
def mX3_init : z_MI := (yX3_init, cX3_init, 2, none)
def mX3_runAll : z_MI := (yX3_runAll, cX3_runAll, 8, none)
def mX3_feel : z_MI := (yX3_feel, cX3_feel, 5, none)
def mX3_leastTime : z_MI := (yX3_leastTime, cX3_leastTime, 3, some .int)
def mX3_stepByRules : z_MI := (yX3_stepByRules, cX3_stepByRules, 10, some .int)
def mX3_stepBySlip : z_MI := (yX3_stepBySlip, cX3_stepBySlip, 3, some .int)
def mX3_runMile : z_MI := (yX3_runMile, cX3_runMile, 4, none)
def mX3_isBehindSomeone : z_MI := (yX3_isBehindSomeone, cX3_isBehindSomeone, 3, some .boolean)
def mX3_rank : z_MI := (yX3_rank, cX3_rank, 6, none)
def mX3_timeByFeeling : z_MI := (yX3_timeByFeeling, cX3_timeByFeeling, 8, some .int)
def mX4_init : z_MI := (yX4_init, cX4_init, 1, none)
def mX4_play : z_MI := (yX4_play, cX4_play, 12, some .int)
def mX4_stepByPlan : z_MI := (yX4_stepByPlan, cX4_stepByPlan, 2, some .int)
def mX4_playAll : z_MI := (yX4_playAll, cX4_playAll, 5, none)
def mX4_restsAt : z_MI := (yX4_restsAt, cX4_restsAt, 6, some .boolean)
def mX5_init : z_MI := (yX5_init, cX5_init, 1, none)
def mX5_takes : z_MI := (yX5_takes, cX5_takes, 5, some .boolean)
def mX5_readsAll : z_MI := (yX5_readsAll, cX5_readsAll, 3, some .boolean)
def mX5_readsMile : z_MI := (yX5_readsMile, cX5_readsMile, 2, some .boolean)
def mX5_readsRunner : z_MI := (yX5_readsRunner, cX5_readsRunner, 2, some .boolean)
def mX5_readsRule : z_MI := (yX5_readsRule, cX5_readsRule, 5, some .boolean)
def mX5_readsRabbit : z_MI := (yX5_readsRabbit, cX5_readsRabbit, 2, some .boolean)
def mX5_readsNumber : z_MI := (yX5_readsNumber, cX5_readsNumber, 3, some .boolean)
def mX5_readsSemicolon : z_MI := (yX5_readsSemicolon, cX5_readsSemicolon, 1, some .boolean)
def mX5_fails : z_MI := (yX5_fails, cX5_fails, 2, some .boolean)
def mX5_isWord : z_MI := (yX5_isWord, cX5_isWord, 3, some .boolean)
def mX5_next : z_MI := (yX5_next, cX5_next, 2, none)
def mX5_takeName : z_MI := (yX5_takeName, cX5_takeName, 1, none)
def mX5_takeNumber : z_MI := (yX5_takeNumber, cX5_takeNumber, 4, none)
def mX5_byteAt : z_MI := (yX5_byteAt, cX5_byteAt, 2, some .int)
def mX5_isBlank : z_MI := (yX5_isBlank, cX5_isBlank, 1, some .boolean)
def mX5_isLetter : z_MI := (yX5_isLetter, cX5_isLetter, 1, some .boolean)
def mX5_isFigure : z_MI := (yX5_isFigure, cX5_isFigure, 1, some .boolean)
def mX6_init : z_MI := (yX6_init, cX6_init, 1, none)
def mX6_become : z_MI := (yX6_become, cX6_become, 3, none)
def mX6_record : z_MI := (yX6_record, cX6_record, 5, none)
def mX6_told : z_MI := (yX6_told, cX6_told, 4, some .int)
def mX6_runnerAt : z_MI := (yX6_runnerAt, cX6_runnerAt, 3, some .int)
def mX6_kindOf : z_MI := (yX6_kindOf, cX6_kindOf, 4, some .int)
def mX7_init : z_MI := (yX7_init, cX7_init, 1, none)
def mX7_isMissing : z_MI := (yX7_isMissing, cX7_isMissing, 1, some .boolean)
def mX7_begin : z_MI := (yX7_begin, cX7_begin, 3, none)
def mX7_end : z_MI := (yX7_end, cX7_end, 1, none)
def mX7_reaches : z_MI := (yX7_reaches, cX7_reaches, 3, some .boolean)
def mX7_at : z_MI := (yX7_at, cX7_at, 2, some .int)
def mX7_put : z_MI := (yX7_put, cX7_put, 4, some .int)
def mX8_init : z_MI := (yX8_init, cX8_init, 1, none)
def mX8_isOne : z_MI := (yX8_isOne, cX8_isOne, 4, some .boolean)
def mX8_take : z_MI := (yX8_take, cX8_take, 4, none)
def mX8_size : z_MI := (yX8_size, cX8_size, 1, some .int)
def mX8_mark : z_MI := (yX8_mark, cX8_mark, 1, some .int)
def mX8_answer : z_MI := (yX8_answer, cX8_answer, 3, some .int)
def mX8_leaveNumber : z_MI := (yX8_leaveNumber, cX8_leaveNumber, 2, none)
def mX9_init : z_MI := (yX9_init, cX9_init, 2, none)
def mX9_sheet : z_MI := (yX9_sheet, cX9_sheet, 4, some .int)
def mX9_set : z_MI := (yX9_set, cX9_set, 5, some .int)
def mX9_copy : z_MI := (yX9_copy, cX9_copy, 8, some .int)
def mX9_drop : z_MI := (yX9_drop, cX9_drop, 3, some .int)
def mX9_feed : z_MI := (yX9_feed, cX9_feed, 4, some .int)
def mX9_course : z_MI := (yX9_course, cX9_course, 2, some .int)
def mX9_fault : z_MI := (yX9_fault, cX9_fault, 1, some .int)
def mX9_need : z_MI := (yX9_need, cX9_need, 4, some .int)
def mX9_race : z_MI := (yX9_race, cX9_race, 5, some .int)
def mX9_ran : z_MI := (yX9_ran, cX9_ran, 4, some .int)
def mX9_place : z_MI := (yX9_place, cX9_place, 2, some .int)
def mX9_best : z_MI := (yX9_best, cX9_best, 5, some .int)
def mX9_even : z_MI := (yX9_even, cX9_even, 5, some .int)
def mX9_early : z_MI := (yX9_early, cX9_early, 6, some .int)
def mX9_hired : z_MI := (yX9_hired, cX9_hired, 10, some .int)
def mX9_stays : z_MI := (yX9_stays, cX9_stays, 6, some .int)
def mX9_rests : z_MI := (yX9_rests, cX9_rests, 6, some .int)
def mX9_wins : z_MI := (yX9_wins, cX9_wins, 6, some .int)
def mX9_line : z_MI := (yX9_line, cX9_line, 5, some .int)
def mX9_leastLine : z_MI := (yX9_leastLine, cX9_leastLine, 5, some .int)
def mX9_parts : z_MI := (yX9_parts, cX9_parts, 8, some .int)
def mX9_takenOffInAllOrders : z_MI := (yX9_takenOffInAllOrders, cX9_takenOffInAllOrders, 7, some .int)
def mX9_commonDivisor : z_MI := (yX9_commonDivisor, cX9_commonDivisor, 6, some .int)
def mX9_hour : z_MI := (yX9_hour, cX9_hour, 7, some .int)
def mX9_bestHour : z_MI := (yX9_bestHour, cX9_bestHour, 10, some .int)
def mX9_feeling : z_MI := (yX9_feeling, cX9_feeling, 8, some .int)
def mX9_image : z_MI := (yX9_image, cX9_image, 2, some .int)
def mX9_restore : z_MI := (yX9_restore, cX9_restore, 2, some .int)
def mX9_kind : z_MI := (yX9_kind, cX9_kind, 3, some .int)
def mX9_as : z_MI := (yX9_as, cX9_as, 4, some .int)
def mX9_ask : z_MI := (yX9_ask, cX9_ask, 4, some .int)
def mX9_trace : z_MI := (yX9_trace, cX9_trace, 2, some .int)
def mX9_count : z_MI := (yX9_count, cX9_count, 2, some .int)
def mX9_status : z_MI := (yX9_status, cX9_status, 1, some .int)
def mX9_sheetsThere : z_MI := (yX9_sheetsThere, cX9_sheetsThere, 3, some .int)
def mX9_found : z_MI := (yX9_found, cX9_found, 2, some .int)
def mX9_foundNothing : z_MI := (yX9_foundNothing, cX9_foundNothing, 2, some .int)
def mX9_findingAt : z_MI := (yX9_findingAt, cX9_findingAt, 4, some .int)
def mX9_itemsWithin : z_MI := (yX9_itemsWithin, cX9_itemsWithin, 6, some .boolean)
def mX9_within : z_MI := (yX9_within, cX9_within, 3, some .boolean)
def mX9_isPace : z_MI := (yX9_isPace, cX9_isPace, 1, some .boolean)
def mX9_asPace : z_MI := (yX9_asPace, cX9_asPace, 1, some .int)
def mX9_secondsBy : z_MI := (yX9_secondsBy, cX9_secondsBy, 1, some .int)
def mX9_changeBy : z_MI := (yX9_changeBy, cX9_changeBy, 4, some .int)
def mX10_init : z_MI := (yX10_init, cX10_init, 1, none)
def mX10_in : z_MI := (yX10_in, cX10_in, 6, some .boolean)
def mX10_isSheet : z_MI := (yX10_isSheet, cX10_isSheet, 1, some .boolean)
def mX10_found : z_MI := (yX10_found, cX10_found, 2, some .int)
def mX10_through : z_MI := (yX10_through, cX10_through, 2, some .int)
def mX10_sheet : z_MI := (yX10_sheet, cX10_sheet, 5, some .int)
def mX10_set : z_MI := (yX10_set, cX10_set, 5, some .int)
def mX10_holds : z_MI := (yX10_holds, cX10_holds, 4, some .boolean)
def mX10_copy : z_MI := (yX10_copy, cX10_copy, 7, some .int)
def mX10_drop : z_MI := (yX10_drop, cX10_drop, 2, some .int)
def mX10_item : z_MI := (yX10_item, cX10_item, 3, some .int)
def mX10_feed : z_MI := (yX10_feed, cX10_feed, 5, some .int)
def mX10_isSmall : z_MI := (yX10_isSmall, cX10_isSmall, 1, some .boolean)
def mX10_isFigureAt : z_MI := (yX10_isFigureAt, cX10_isFigureAt, 2, some .boolean)
def mX10_look : z_MI := (yX10_look, cX10_look, 4, none)
def mX10_next : z_MI := (yX10_next, cX10_next, 1, none)
def mX10_isWord : z_MI := (yX10_isWord, cX10_isWord, 10, some .boolean)
def mX10_faulty : z_MI := (yX10_faulty, cX10_faulty, 2, some .boolean)
def mX10_readNumber : z_MI := (yX10_readNumber, cX10_readNumber, 3, some .boolean)
def mX10_readStop : z_MI := (yX10_readStop, cX10_readStop, 1, some .boolean)
def mX10_readMile : z_MI := (yX10_readMile, cX10_readMile, 3, some .boolean)
def mX10_readRunner : z_MI := (yX10_readRunner, cX10_readRunner, 3, some .boolean)
def mX10_readRule : z_MI := (yX10_readRule, cX10_readRule, 7, some .boolean)
def mX10_readRabbit : z_MI := (yX10_readRabbit, cX10_readRabbit, 3, some .boolean)
def mX10_isMileWord : z_MI := (yX10_isMileWord, cX10_isMileWord, 1, some .boolean)
def mX10_isRunnerWord : z_MI := (yX10_isRunnerWord, cX10_isRunnerWord, 1, some .boolean)
def mX10_readAll : z_MI := (yX10_readAll, cX10_readAll, 1, some .boolean)
def mX10_course : z_MI := (yX10_course, cX10_course, 2, some .int)
def mX10_fault : z_MI := (yX10_fault, cX10_fault, 1, some .int)
def mX10_miles : z_MI := (yX10_miles, cX10_miles, 1, some .int)
def mX10_runners : z_MI := (yX10_runners, cX10_runners, 1, some .int)
def mX10_rabbits : z_MI := (yX10_rabbits, cX10_rabbits, 1, some .int)
def mX10_isMile : z_MI := (yX10_isMile, cX10_isMile, 2, some .boolean)
def mX10_isRunner : z_MI := (yX10_isRunner, cX10_isRunner, 2, some .boolean)
def mX10_isPace : z_MI := (yX10_isPace, cX10_isPace, 1, some .boolean)
def mX10_ofRunner : z_MI := (yX10_ofRunner, cX10_ofRunner, 3, some .int)
def mX10_ofRabbit : z_MI := (yX10_ofRabbit, cX10_ofRabbit, 3, some .int)
def mX10_needOf : z_MI := (yX10_needOf, cX10_needOf, 5, some .int)
def mX10_secondsBy : z_MI := (yX10_secondsBy, cX10_secondsBy, 1, some .int)
def mX10_need : z_MI := (yX10_need, cX10_need, 4, some .int)
def mX10_leftBehind : z_MI := (yX10_leftBehind, cX10_leftBehind, 6, some .int)
def mX10_easyPace : z_MI := (yX10_easyPace, cX10_easyPace, 4, some .int)
def mX10_goMile : z_MI := (yX10_goMile, cX10_goMile, 5, none)
def mX10_isSheltered : z_MI := (yX10_isSheltered, cX10_isSheltered, 4, some .boolean)
def mX10_startRace : z_MI := (yX10_startRace, cX10_startRace, 2, none)
def mX10_brought : z_MI := (yX10_brought, cX10_brought, 1, some .int)
def mX10_leastTime : z_MI := (yX10_leastTime, cX10_leastTime, 3, some .int)
def mX10_paceByRules : z_MI := (yX10_paceByRules, cX10_paceByRules, 9, some .int)
def mX10_findShelters : z_MI := (yX10_findShelters, cX10_findShelters, 2, none)
def mX10_race : z_MI := (yX10_race, cX10_race, 10, some .int)
def mX10_ranOf : z_MI := (yX10_ranOf, cX10_ranOf, 4, some .int)
def mX10_ran : z_MI := (yX10_ran, cX10_ran, 4, some .int)
def mX10_place : z_MI := (yX10_place, cX10_place, 6, some .int)
def mX10_isBehindRabbit : z_MI := (yX10_isBehindRabbit, cX10_isBehindRabbit, 6, some .boolean)
def mX10_leftAlone : z_MI := (yX10_leftAlone, cX10_leftAlone, 6, some .int)
def mX10_timeBy : z_MI := (yX10_timeBy, cX10_timeBy, 7, some .int)
def mX10_findLeast : z_MI := (yX10_findLeast, cX10_findLeast, 8, none)
def mX10_leastAll : z_MI := (yX10_leastAll, cX10_leastAll, 3, some .int)
def mX10_paceFor : z_MI := (yX10_paceFor, cX10_paceFor, 6, some .int)
def mX10_isSet : z_MI := (yX10_isSet, cX10_isSet, 2, some .boolean)
def mX10_best : z_MI := (yX10_best, cX10_best, 8, some .int)
def mX10_evenTime : z_MI := (yX10_evenTime, cX10_evenTime, 6, some .int)
def mX10_even : z_MI := (yX10_even, cX10_even, 8, some .int)
def mX10_early : z_MI := (yX10_early, cX10_early, 6, some .int)
def mX10_coinOf : z_MI := (yX10_coinOf, cX10_coinOf, 4, some .int)
def mX10_hired : z_MI := (yX10_hired, cX10_hired, 9, some .int)
def mX10_stays : z_MI := (yX10_stays, cX10_stays, 7, some .int)
def mX10_planPace : z_MI := (yX10_planPace, cX10_planPace, 7, some .int)
def mX10_gameOf : z_MI := (yX10_gameOf, cX10_gameOf, 6, some .int)
def mX10_isGame : z_MI := (yX10_isGame, cX10_isGame, 3, some .boolean)
def mX10_worthTo : z_MI := (yX10_worthTo, cX10_worthTo, 2, some .int)
def mX10_isRest : z_MI := (yX10_isRest, cX10_isRest, 5, some .boolean)
def mX10_rests : z_MI := (yX10_rests, cX10_rests, 6, some .int)
def mX10_wins : z_MI := (yX10_wins, cX10_wins, 6, some .int)
def mX10_paceOf : z_MI := (yX10_paceOf, cX10_paceOf, 2, some .int)
def mX10_isBorne : z_MI := (yX10_isBorne, cX10_isBorne, 7, some .boolean)
def mX10_line : z_MI := (yX10_line, cX10_line, 5, some .int)
def mX10_parts : z_MI := (yX10_parts, cX10_parts, 9, some .int)
def mX10_hour : z_MI := (yX10_hour, cX10_hour, 10, some .int)
def mX10_feltTime : z_MI := (yX10_feltTime, cX10_feltTime, 8, some .int)
def mX10_feeling : z_MI := (yX10_feeling, cX10_feeling, 8, some .int)
def mX10_isStep : z_MI := (yX10_isStep, cX10_isStep, 3, some .boolean)
def mX10_kindOf : z_MI := (yX10_kindOf, cX10_kindOf, 5, some .int)
def mX10_kind : z_MI := (yX10_kind, cX10_kind, 3, some .int)
def mX10_isOf : z_MI := (yX10_isOf, cX10_isOf, 2, some .boolean)
def mX10_as : z_MI := (yX10_as, cX10_as, 4, some .int)
def mX10_leave : z_MI := (yX10_leave, cX10_leave, 3, none)
def mX10_sizeOf : z_MI := (yX10_sizeOf, cX10_sizeOf, 5, some .int)
def mX10_hardMark : z_MI := (yX10_hardMark, cX10_hardMark, 4, some .int)
def mX10_markOf : z_MI := (yX10_markOf, cX10_markOf, 5, some .int)
def mX10_ask : z_MI := (yX10_ask, cX10_ask, 5, some .int)
def mX10_trace : z_MI := (yX10_trace, cX10_trace, 2, some .int)
def mX10_image : z_MI := (yX10_image, cX10_image, 3, some .int)
def mX10_restore : z_MI := (yX10_restore, cX10_restore, 3, some .int)
def mX10_count : z_MI := (yX10_count, cX10_count, 4, some .int)
def mX10_status : z_MI := (yX10_status, cX10_status, 1, some .int)
def mJ6_compare_7cf53 : z_MI := (yJ6_compare_7cf53, cJ6_compare_7cf53, 2, some .int)
def mJ6_bitCount_0f7a4 : z_MI := (yJ6_bitCount_0f7a4, cJ6_bitCount_0f7a4, 1, some .int)
def mJ9_abs_0f7a4 : z_MI := (yJ9_abs_0f7a4, cJ9_abs_0f7a4, 1, some .int)
def mJ9_max_7cf53 : z_MI := (yJ9_max_7cf53, cJ9_max_7cf53, 2, some .int)
def mJ9_min_7cf53 : z_MI := (yJ9_min_7cf53, cJ9_min_7cf53, 2, some .int)
def mJ0_length_8abf5 : z_MI := (yJ0_length_8abf5, cJ0_length_8abf5, 1, some .int)
def mJ0_charAt_5068e : z_MI := (yJ0_charAt_5068e, cJ0_charAt_5068e, 2, some .char)
def mJ0_coder_7d493 : z_MI := (yJ0_coder_7d493, cJ0_coder_7d493, 1, some .byte)
def mJ0_isLatin1_aae02 : z_MI := (yJ0_isLatin1_aae02, cJ0_isLatin1_aae02, 1, some .boolean)
def mJ0_checkIndex_df160 : z_MI := (yJ0_checkIndex_df160, cJ0_checkIndex_df160, 2, none)
def mJ1_charAt_3b067 : z_MI := (yJ1_charAt_3b067, cJ1_charAt_3b067, 2, some .char)
def mJ2_getChar_3b067 : z_MI := (yJ2_getChar_3b067, cJ2_getChar_3b067, 2, some .char)
def mJ2_length_9d52b : z_MI := (yJ2_length_9d52b, cJ2_length_9d52b, 1, some .int)
def mJ2_charAt_3b067 : z_MI := (yJ2_charAt_3b067, cJ2_charAt_3b067, 2, some .char)
def mJ2_checkIndex_2214a : z_MI := (yJ2_checkIndex_2214a, cJ2_checkIndex_2214a, 2, none)
def mJ7_fill_53178 : z_MI := (yJ7_fill_53178, cJ7_fill_53178, 4, none)
def mJ3_checkIndex_8e157 : z_MI := (yJ3_checkIndex_8e157, cJ3_checkIndex_8e157, 3, some .int)
def mL_law : z_MI := (x, code, maxLocals, ret)
theorem z_fn {P : Cond → Prop} : ∀ w ∈ ([] : List Cond), P w := fun r h => by cases h
theorem z_fc {P : Cond → Prop} {a : Cond} {l : List Cond} (h : P a) (hl : ∀ w ∈ l, P w) : ∀ w ∈ a :: l, P w := fun r hr => (List.mem_cons.mp hr).elim (fun e => e ▸ h) (hl r)
theorem z_U_p {i : Nat} {w : Cond} (h : (k2_sels lw_privs)[i]? = some w) (hg : goodWord w = true) : w ∈ z_U := List.mem_filter.mpr ⟨List.mem_append_left _ (List.mem_of_getElem? h), hg⟩
theorem z_U_1 {i : Nat} {w : Cond} (h : tables_1_1[i]? = some w) (hg : goodWord w = true) : w ∈ z_U := List.mem_filter.mpr ⟨List.mem_append_right _ (List.mem_append_left _ (List.mem_of_getElem? h)), hg⟩
theorem z_U_2 {i : Nat} {w : Cond} (h : tables_1_2[i]? = some w) (hg : goodWord w = true) : w ∈ z_U := List.mem_filter.mpr ⟨List.mem_append_right _ (List.mem_append_right _ (List.mem_append_left _ (List.mem_of_getElem? h))), hg⟩
theorem z_U_3 {i : Nat} {w : Cond} (h : tables_1_3[i]? = some w) (hg : goodWord w = true) : w ∈ z_U := List.mem_filter.mpr ⟨List.mem_append_right _ (List.mem_append_right _ (List.mem_append_right _ (List.mem_append_left _ (List.mem_of_getElem? h)))), hg⟩
theorem z_U_4 {i : Nat} {w : Cond} (h : tables_1_4[i]? = some w) (hg : goodWord w = true) : w ∈ z_U := List.mem_filter.mpr ⟨List.mem_append_right _ (List.mem_append_right _ (List.mem_append_right _ (List.mem_append_right _ (List.mem_append_left _ (List.mem_of_getElem? h))))), hg⟩
theorem z_U_5 {i : Nat} {w : Cond} (h : tables_1_5[i]? = some w) (hg : goodWord w = true) : w ∈ z_U := List.mem_filter.mpr ⟨List.mem_append_right _ (List.mem_append_right _ (List.mem_append_right _ (List.mem_append_right _ (List.mem_append_right _ (List.mem_append_left _ (List.mem_of_getElem? h)))))), hg⟩
theorem z_U_6 {i : Nat} {w : Cond} (h : tables_1_6[i]? = some w) (hg : goodWord w = true) : w ∈ z_U := List.mem_filter.mpr ⟨List.mem_append_right _ (List.mem_append_right _ (List.mem_append_right _ (List.mem_append_right _ (List.mem_append_right _ (List.mem_append_right _ (List.mem_append_left _ (List.mem_of_getElem? h))))))), hg⟩
theorem z_U_7 {i : Nat} {w : Cond} (h : tables_1_7[i]? = some w) (hg : goodWord w = true) : w ∈ z_U := List.mem_filter.mpr ⟨List.mem_append_right _ (List.mem_append_right _ (List.mem_append_right _ (List.mem_append_right _ (List.mem_append_right _ (List.mem_append_right _ (List.mem_append_right _ (List.mem_of_getElem? h))))))), hg⟩
theorem u_0 : Cond.selects "PaceStore" ⟨"PaceStore", "found", "(I)I"⟩ ⟨"PaceStore", "found", "(I)I"⟩ ∈ z_U := z_U_p (i := 0) rfl rfl
theorem u_1 : Cond.selects "PaceStore" ⟨"PaceStore", "foundNothing", "(I)I"⟩ ⟨"PaceStore", "foundNothing", "(I)I"⟩ ∈ z_U := z_U_p (i := 1) rfl rfl
theorem u_2 : Cond.selects "PaceStore" ⟨"PaceStore", "findingAt", "(III)I"⟩ ⟨"PaceStore", "findingAt", "(III)I"⟩ ∈ z_U := z_U_p (i := 2) rfl rfl
theorem u_3 : Cond.selects "PaceStore$Reader" ⟨"PaceStore$Reader", "next", "()V"⟩ ⟨"PaceStore$Reader", "next", "()V"⟩ ∈ z_U := z_U_p (i := 3) rfl rfl
theorem u_4 : Cond.selects "PaceStore$Reader" ⟨"PaceStore$Reader", "byteAt", "(I)I"⟩ ⟨"PaceStore$Reader", "byteAt", "(I)I"⟩ ∈ z_U := z_U_p (i := 4) rfl rfl
theorem u_5 : Cond.selects "PaceStore$Reader" ⟨"PaceStore$Reader", "takeName", "()V"⟩ ⟨"PaceStore$Reader", "takeName", "()V"⟩ ∈ z_U := z_U_p (i := 5) rfl rfl
theorem u_6 : Cond.selects "PaceStore$Reader" ⟨"PaceStore$Reader", "takeNumber", "(Z)V"⟩ ⟨"PaceStore$Reader", "takeNumber", "(Z)V"⟩ ∈ z_U := z_U_p (i := 6) rfl rfl
theorem u_7 : Cond.selects "PaceStore$Reader" ⟨"PaceStore$Reader", "readsMile", "()Z"⟩ ⟨"PaceStore$Reader", "readsMile", "()Z"⟩ ∈ z_U := z_U_p (i := 7) rfl rfl
theorem u_8 : Cond.selects "PaceStore$Reader" ⟨"PaceStore$Reader", "isWord", "(Ljava/lang/String;)Z"⟩ ⟨"PaceStore$Reader", "isWord", "(Ljava/lang/String;)Z"⟩ ∈ z_U := z_U_p (i := 8) rfl rfl
theorem u_9 : Cond.selects "PaceStore$Reader" ⟨"PaceStore$Reader", "fails", "(I)Z"⟩ ⟨"PaceStore$Reader", "fails", "(I)Z"⟩ ∈ z_U := z_U_p (i := 9) rfl rfl
theorem u_10 : Cond.selects "PaceStore$Reader" ⟨"PaceStore$Reader", "readsNumber", "(II)Z"⟩ ⟨"PaceStore$Reader", "readsNumber", "(II)Z"⟩ ∈ z_U := z_U_p (i := 10) rfl rfl
theorem u_11 : Cond.selects "PaceStore$Reader" ⟨"PaceStore$Reader", "readsSemicolon", "()Z"⟩ ⟨"PaceStore$Reader", "readsSemicolon", "()Z"⟩ ∈ z_U := z_U_p (i := 11) rfl rfl
theorem u_12 : Cond.selects "PaceStore$Reader" ⟨"PaceStore$Reader", "readsRunner", "()Z"⟩ ⟨"PaceStore$Reader", "readsRunner", "()Z"⟩ ∈ z_U := z_U_p (i := 12) rfl rfl
theorem u_13 : Cond.selects "PaceStore$Reader" ⟨"PaceStore$Reader", "readsRule", "(I)Z"⟩ ⟨"PaceStore$Reader", "readsRule", "(I)Z"⟩ ∈ z_U := z_U_p (i := 13) rfl rfl
theorem u_14 : Cond.selects "PaceStore$Reader" ⟨"PaceStore$Reader", "readsRabbit", "()Z"⟩ ⟨"PaceStore$Reader", "readsRabbit", "()Z"⟩ ∈ z_U := z_U_p (i := 14) rfl rfl
theorem u_15 : Cond.selects "PaceStore$Field" ⟨"PaceStore$Field", "feel", "(LPaceStore$Course;I)V"⟩ ⟨"PaceStore$Field", "feel", "(LPaceStore$Course;I)V"⟩ ∈ z_U := z_U_p (i := 15) rfl rfl
theorem u_16 : Cond.selects "PaceStore$Field" ⟨"PaceStore$Field", "leastTime", "()I"⟩ ⟨"PaceStore$Field", "leastTime", "()I"⟩ ∈ z_U := z_U_p (i := 16) rfl rfl
theorem u_17 : Cond.selects "PaceStore$Field" ⟨"PaceStore$Field", "stepByRules", "(LPaceStore$Course;III)I"⟩ ⟨"PaceStore$Field", "stepByRules", "(LPaceStore$Course;III)I"⟩ ∈ z_U := z_U_p (i := 17) rfl rfl
theorem u_18 : Cond.selects "PaceStore$Field" ⟨"PaceStore$Field", "stepBySlip", "()I"⟩ ⟨"PaceStore$Field", "stepBySlip", "()I"⟩ ∈ z_U := z_U_p (i := 18) rfl rfl
theorem u_19 : Cond.selects "PaceStore$Field" ⟨"PaceStore$Field", "isBehindSomeone", "(I)Z"⟩ ⟨"PaceStore$Field", "isBehindSomeone", "(I)Z"⟩ ∈ z_U := z_U_p (i := 19) rfl rfl
theorem u_20 : Cond.selects "PaceStore$Field" ⟨"PaceStore$Field", "rank", "(LPaceStore$Results;)V"⟩ ⟨"PaceStore$Field", "rank", "(LPaceStore$Results;)V"⟩ ∈ z_U := z_U_p (i := 20) rfl rfl
theorem u_21 : Cond.selects "PaceStore$Alone" ⟨"PaceStore$Alone", "faceHeats", "(LPaceStore$Course;II)V"⟩ ⟨"PaceStore$Alone", "faceHeats", "(LPaceStore$Course;II)V"⟩ ∈ z_U := z_U_p (i := 21) rfl rfl
theorem u_22 : Cond.selects "PaceStore$Alone" ⟨"PaceStore$Alone", "chooseTries", "(I)V"⟩ ⟨"PaceStore$Alone", "chooseTries", "(I)V"⟩ ∈ z_U := z_U_p (i := 22) rfl rfl
theorem u_23 : Cond.selects "PaceStore$Alone" ⟨"PaceStore$Alone", "leastAt", "(II)I"⟩ ⟨"PaceStore$Alone", "leastAt", "(II)I"⟩ ∈ z_U := z_U_p (i := 23) rfl rfl
theorem u_24 : Cond.selects "PaceStore$Alone" ⟨"PaceStore$Alone", "firstPace", "(II)I"⟩ ⟨"PaceStore$Alone", "firstPace", "(II)I"⟩ ∈ z_U := z_U_p (i := 24) rfl rfl
theorem u_25 : Cond.selects "PaceStore$Alone" ⟨"PaceStore$Alone", "leftBehind", "(III)I"⟩ ⟨"PaceStore$Alone", "leftBehind", "(III)I"⟩ ∈ z_U := z_U_p (i := 25) rfl rfl
theorem u_26 : Cond.selects "PaceStore" ⟨"PaceStore", "leastLine", "(ILPaceStore$Sheet;I)I"⟩ ⟨"PaceStore", "leastLine", "(ILPaceStore$Sheet;I)I"⟩ ∈ z_U := z_U_p (i := 26) rfl rfl
theorem u_27 : Cond.selects "PaceStore" ⟨"PaceStore", "bestHour", "(ILPaceStore$Sheet;III)I"⟩ ⟨"PaceStore", "bestHour", "(ILPaceStore$Sheet;III)I"⟩ ∈ z_U := z_U_p (i := 27) rfl rfl
theorem u_28 : Cond.selects "PaceStore$Step" ⟨"PaceStore$Step", "answer", "(II)I"⟩ ⟨"PaceStore$Step", "answer", "(II)I"⟩ ∈ z_U := z_U_p (i := 28) rfl rfl
theorem u_29 : Cond.selects "PaceStore$Step" ⟨"PaceStore$Step", "leaveNumber", "(I)V"⟩ ⟨"PaceStore$Step", "leaveNumber", "(I)V"⟩ ∈ z_U := z_U_p (i := 29) rfl rfl
theorem u_30 : Cond.selects "PaceStore" ⟨"PaceStore", "sheetsThere", "()I"⟩ ⟨"PaceStore", "sheetsThere", "()I"⟩ ∈ z_U := z_U_p (i := 30) rfl rfl
theorem u_31 : Cond.selects "PaceStoreModel" ⟨"PaceStoreModel", "found", "(I)I"⟩ ⟨"PaceStoreModel", "found", "(I)I"⟩ ∈ z_U := z_U_p (i := 31) rfl rfl
theorem u_32 : Cond.selects "PaceStoreModel" ⟨"PaceStoreModel", "through", "(I)I"⟩ ⟨"PaceStoreModel", "through", "(I)I"⟩ ∈ z_U := z_U_p (i := 32) rfl rfl
theorem u_33 : Cond.selects "PaceStoreModel" ⟨"PaceStoreModel", "holds", "(III)Z"⟩ ⟨"PaceStoreModel", "holds", "(III)Z"⟩ ∈ z_U := z_U_p (i := 33) rfl rfl
theorem u_34 : Cond.selects "PaceStoreModel" ⟨"PaceStoreModel", "readAll", "()Z"⟩ ⟨"PaceStoreModel", "readAll", "()Z"⟩ ∈ z_U := z_U_p (i := 34) rfl rfl
theorem u_35 : Cond.selects "PaceStoreModel" ⟨"PaceStoreModel", "look", "(I)V"⟩ ⟨"PaceStoreModel", "look", "(I)V"⟩ ∈ z_U := z_U_p (i := 35) rfl rfl
theorem u_36 : Cond.selects "PaceStoreModel" ⟨"PaceStoreModel", "isFigureAt", "(I)Z"⟩ ⟨"PaceStoreModel", "isFigureAt", "(I)Z"⟩ ∈ z_U := z_U_p (i := 36) rfl rfl
theorem u_37 : Cond.selects "PaceStoreModel" ⟨"PaceStoreModel", "isMileWord", "()Z"⟩ ⟨"PaceStoreModel", "isMileWord", "()Z"⟩ ∈ z_U := z_U_p (i := 37) rfl rfl
theorem u_38 : Cond.selects "PaceStoreModel" ⟨"PaceStoreModel", "isWord", "(IIIIII)Z"⟩ ⟨"PaceStoreModel", "isWord", "(IIIIII)Z"⟩ ∈ z_U := z_U_p (i := 38) rfl rfl
theorem u_39 : Cond.selects "PaceStoreModel" ⟨"PaceStoreModel", "faulty", "(I)Z"⟩ ⟨"PaceStoreModel", "faulty", "(I)Z"⟩ ∈ z_U := z_U_p (i := 39) rfl rfl
theorem u_40 : Cond.selects "PaceStoreModel" ⟨"PaceStoreModel", "readMile", "()Z"⟩ ⟨"PaceStoreModel", "readMile", "()Z"⟩ ∈ z_U := z_U_p (i := 40) rfl rfl
theorem u_41 : Cond.selects "PaceStoreModel" ⟨"PaceStoreModel", "next", "()V"⟩ ⟨"PaceStoreModel", "next", "()V"⟩ ∈ z_U := z_U_p (i := 41) rfl rfl
theorem u_42 : Cond.selects "PaceStoreModel" ⟨"PaceStoreModel", "readNumber", "(II)Z"⟩ ⟨"PaceStoreModel", "readNumber", "(II)Z"⟩ ∈ z_U := z_U_p (i := 42) rfl rfl
theorem u_43 : Cond.selects "PaceStoreModel" ⟨"PaceStoreModel", "readStop", "()Z"⟩ ⟨"PaceStoreModel", "readStop", "()Z"⟩ ∈ z_U := z_U_p (i := 43) rfl rfl
theorem u_44 : Cond.selects "PaceStoreModel" ⟨"PaceStoreModel", "isRunnerWord", "()Z"⟩ ⟨"PaceStoreModel", "isRunnerWord", "()Z"⟩ ∈ z_U := z_U_p (i := 44) rfl rfl
theorem u_45 : Cond.selects "PaceStoreModel" ⟨"PaceStoreModel", "readRunner", "()Z"⟩ ⟨"PaceStoreModel", "readRunner", "()Z"⟩ ∈ z_U := z_U_p (i := 45) rfl rfl
theorem u_46 : Cond.selects "PaceStoreModel" ⟨"PaceStoreModel", "readRule", "(I)Z"⟩ ⟨"PaceStoreModel", "readRule", "(I)Z"⟩ ∈ z_U := z_U_p (i := 46) rfl rfl
theorem u_47 : Cond.selects "PaceStoreModel" ⟨"PaceStoreModel", "readRabbit", "()Z"⟩ ⟨"PaceStoreModel", "readRabbit", "()Z"⟩ ∈ z_U := z_U_p (i := 47) rfl rfl
theorem u_48 : Cond.selects "PaceStoreModel" ⟨"PaceStoreModel", "miles", "()I"⟩ ⟨"PaceStoreModel", "miles", "()I"⟩ ∈ z_U := z_U_p (i := 48) rfl rfl
theorem u_49 : Cond.selects "PaceStoreModel" ⟨"PaceStoreModel", "isMile", "(I)Z"⟩ ⟨"PaceStoreModel", "isMile", "(I)Z"⟩ ∈ z_U := z_U_p (i := 49) rfl rfl
theorem u_50 : Cond.selects "PaceStoreModel" ⟨"PaceStoreModel", "needOf", "(IIZ)I"⟩ ⟨"PaceStoreModel", "needOf", "(IIZ)I"⟩ ∈ z_U := z_U_p (i := 50) rfl rfl
theorem u_51 : Cond.selects "PaceStoreModel" ⟨"PaceStoreModel", "runners", "()I"⟩ ⟨"PaceStoreModel", "runners", "()I"⟩ ∈ z_U := z_U_p (i := 51) rfl rfl
theorem u_52 : Cond.selects "PaceStoreModel" ⟨"PaceStoreModel", "item", "(II)I"⟩ ⟨"PaceStoreModel", "item", "(II)I"⟩ ∈ z_U := z_U_p (i := 52) rfl rfl
theorem u_53 : Cond.selects "PaceStoreModel" ⟨"PaceStoreModel", "startRace", "()V"⟩ ⟨"PaceStoreModel", "startRace", "()V"⟩ ∈ z_U := z_U_p (i := 53) rfl rfl
theorem u_54 : Cond.selects "PaceStoreModel" ⟨"PaceStoreModel", "ofRunner", "(II)I"⟩ ⟨"PaceStoreModel", "ofRunner", "(II)I"⟩ ∈ z_U := z_U_p (i := 54) rfl rfl
theorem u_55 : Cond.selects "PaceStoreModel" ⟨"PaceStoreModel", "leastTime", "()I"⟩ ⟨"PaceStoreModel", "leastTime", "()I"⟩ ∈ z_U := z_U_p (i := 55) rfl rfl
theorem u_56 : Cond.selects "PaceStoreModel" ⟨"PaceStoreModel", "paceByRules", "(III)I"⟩ ⟨"PaceStoreModel", "paceByRules", "(III)I"⟩ ∈ z_U := z_U_p (i := 56) rfl rfl
theorem u_57 : Cond.selects "PaceStoreModel" ⟨"PaceStoreModel", "findShelters", "()V"⟩ ⟨"PaceStoreModel", "findShelters", "()V"⟩ ∈ z_U := z_U_p (i := 57) rfl rfl
theorem u_58 : Cond.selects "PaceStoreModel" ⟨"PaceStoreModel", "isSheltered", "(I)Z"⟩ ⟨"PaceStoreModel", "isSheltered", "(I)Z"⟩ ∈ z_U := z_U_p (i := 58) rfl rfl
theorem u_59 : Cond.selects "PaceStoreModel" ⟨"PaceStoreModel", "goMile", "(IIZ)V"⟩ ⟨"PaceStoreModel", "goMile", "(IIZ)V"⟩ ∈ z_U := z_U_p (i := 59) rfl rfl
theorem u_60 : Cond.selects "PaceStoreModel" ⟨"PaceStoreModel", "leftBehind", "(IIII)I"⟩ ⟨"PaceStoreModel", "leftBehind", "(IIII)I"⟩ ∈ z_U := z_U_p (i := 60) rfl rfl
theorem u_61 : Cond.selects "PaceStoreModel" ⟨"PaceStoreModel", "easyPace", "(II)I"⟩ ⟨"PaceStoreModel", "easyPace", "(II)I"⟩ ∈ z_U := z_U_p (i := 61) rfl rfl
theorem u_62 : Cond.selects "PaceStoreModel" ⟨"PaceStoreModel", "isRunner", "(I)Z"⟩ ⟨"PaceStoreModel", "isRunner", "(I)Z"⟩ ∈ z_U := z_U_p (i := 62) rfl rfl
theorem u_63 : Cond.selects "PaceStoreModel" ⟨"PaceStoreModel", "ranOf", "(III)I"⟩ ⟨"PaceStoreModel", "ranOf", "(III)I"⟩ ∈ z_U := z_U_p (i := 63) rfl rfl
theorem u_64 : Cond.selects "PaceStoreModel" ⟨"PaceStoreModel", "isSet", "(I)Z"⟩ ⟨"PaceStoreModel", "isSet", "(I)Z"⟩ ∈ z_U := z_U_p (i := 64) rfl rfl
theorem u_65 : Cond.selects "PaceStoreModel" ⟨"PaceStoreModel", "rabbits", "()I"⟩ ⟨"PaceStoreModel", "rabbits", "()I"⟩ ∈ z_U := z_U_p (i := 65) rfl rfl
theorem u_66 : Cond.selects "PaceStoreModel" ⟨"PaceStoreModel", "leastAll", "(II)I"⟩ ⟨"PaceStoreModel", "leastAll", "(II)I"⟩ ∈ z_U := z_U_p (i := 66) rfl rfl
theorem u_67 : Cond.selects "PaceStoreModel" ⟨"PaceStoreModel", "findLeast", "(II)V"⟩ ⟨"PaceStoreModel", "findLeast", "(II)V"⟩ ∈ z_U := z_U_p (i := 67) rfl rfl
theorem u_68 : Cond.selects "PaceStoreModel" ⟨"PaceStoreModel", "timeBy", "(IIIII)I"⟩ ⟨"PaceStoreModel", "timeBy", "(IIIII)I"⟩ ∈ z_U := z_U_p (i := 68) rfl rfl
theorem u_69 : Cond.selects "PaceStoreModel" ⟨"PaceStoreModel", "leftAlone", "(IIIII)I"⟩ ⟨"PaceStoreModel", "leftAlone", "(IIIII)I"⟩ ∈ z_U := z_U_p (i := 69) rfl rfl
theorem u_70 : Cond.selects "PaceStoreModel" ⟨"PaceStoreModel", "isBehindRabbit", "(III)Z"⟩ ⟨"PaceStoreModel", "isBehindRabbit", "(III)Z"⟩ ∈ z_U := z_U_p (i := 70) rfl rfl
theorem u_71 : Cond.selects "PaceStoreModel" ⟨"PaceStoreModel", "ofRabbit", "(II)I"⟩ ⟨"PaceStoreModel", "ofRabbit", "(II)I"⟩ ∈ z_U := z_U_p (i := 71) rfl rfl
theorem u_72 : Cond.selects "PaceStoreModel" ⟨"PaceStoreModel", "paceFor", "(IIII)I"⟩ ⟨"PaceStoreModel", "paceFor", "(IIII)I"⟩ ∈ z_U := z_U_p (i := 72) rfl rfl
theorem u_73 : Cond.selects "PaceStoreModel" ⟨"PaceStoreModel", "evenTime", "(III)I"⟩ ⟨"PaceStoreModel", "evenTime", "(III)I"⟩ ∈ z_U := z_U_p (i := 73) rfl rfl
theorem u_74 : Cond.selects "PaceStoreModel" ⟨"PaceStoreModel", "coinOf", "(I)I"⟩ ⟨"PaceStoreModel", "coinOf", "(I)I"⟩ ∈ z_U := z_U_p (i := 74) rfl rfl
theorem u_75 : Cond.selects "PaceStoreModel" ⟨"PaceStoreModel", "isGame", "(II)Z"⟩ ⟨"PaceStoreModel", "isGame", "(II)Z"⟩ ∈ z_U := z_U_p (i := 75) rfl rfl
theorem u_76 : Cond.selects "PaceStoreModel" ⟨"PaceStoreModel", "gameOf", "(IIII)I"⟩ ⟨"PaceStoreModel", "gameOf", "(IIII)I"⟩ ∈ z_U := z_U_p (i := 76) rfl rfl
theorem u_77 : Cond.selects "PaceStoreModel" ⟨"PaceStoreModel", "planPace", "(III)I"⟩ ⟨"PaceStoreModel", "planPace", "(III)I"⟩ ∈ z_U := z_U_p (i := 77) rfl rfl
theorem u_78 : Cond.selects "PaceStoreModel" ⟨"PaceStoreModel", "isRest", "(II)Z"⟩ ⟨"PaceStoreModel", "isRest", "(II)Z"⟩ ∈ z_U := z_U_p (i := 78) rfl rfl
theorem u_79 : Cond.selects "PaceStoreModel" ⟨"PaceStoreModel", "isBorne", "(IIII)Z"⟩ ⟨"PaceStoreModel", "isBorne", "(IIII)Z"⟩ ∈ z_U := z_U_p (i := 79) rfl rfl
theorem u_80 : Cond.selects "PaceStoreModel" ⟨"PaceStoreModel", "feltTime", "(IIII)I"⟩ ⟨"PaceStoreModel", "feltTime", "(IIII)I"⟩ ∈ z_U := z_U_p (i := 80) rfl rfl
theorem u_81 : Cond.selects "PaceStoreModel" ⟨"PaceStoreModel", "isStep", "(II)Z"⟩ ⟨"PaceStoreModel", "isStep", "(II)Z"⟩ ∈ z_U := z_U_p (i := 81) rfl rfl
theorem u_82 : Cond.selects "PaceStoreModel" ⟨"PaceStoreModel", "kindOf", "(II)I"⟩ ⟨"PaceStoreModel", "kindOf", "(II)I"⟩ ∈ z_U := z_U_p (i := 82) rfl rfl
theorem u_83 : Cond.selects "PaceStoreModel" ⟨"PaceStoreModel", "sizeOf", "(III)I"⟩ ⟨"PaceStoreModel", "sizeOf", "(III)I"⟩ ∈ z_U := z_U_p (i := 83) rfl rfl
theorem u_84 : Cond.selects "PaceStoreModel" ⟨"PaceStoreModel", "leave", "(IZ)V"⟩ ⟨"PaceStoreModel", "leave", "(IZ)V"⟩ ∈ z_U := z_U_p (i := 84) rfl rfl
theorem u_85 : Cond.selects "PaceStoreModel" ⟨"PaceStoreModel", "hardMark", "(III)I"⟩ ⟨"PaceStoreModel", "hardMark", "(III)I"⟩ ∈ z_U := z_U_p (i := 85) rfl rfl
theorem u_86 : Cond.selects "PaceStoreModel" ⟨"PaceStoreModel", "markOf", "(III)I"⟩ ⟨"PaceStoreModel", "markOf", "(III)I"⟩ ∈ z_U := z_U_p (i := 86) rfl rfl
theorem u_88 : (Jvm.Cond.initialized "PaceStore") ∈ z_U := z_U_1 (i := 1) rfl rfl
theorem u_89 : (Jvm.Cond.initialized "PaceStore$Reader") ∈ z_U := z_U_1 (i := 2) rfl rfl
theorem u_90 : (Jvm.Cond.initialized "PaceStore$Course") ∈ z_U := z_U_1 (i := 3) rfl rfl
theorem u_91 : (Jvm.Cond.initialized "PaceStore$Results") ∈ z_U := z_U_1 (i := 4) rfl rfl
theorem u_92 : (Jvm.Cond.initialized "PaceStore$Field") ∈ z_U := z_U_1 (i := 5) rfl rfl
theorem u_93 : (Jvm.Cond.initialized "PaceStore$Body") ∈ z_U := z_U_1 (i := 6) rfl rfl
theorem u_94 : (Jvm.Cond.initialized "PaceStore$Alone") ∈ z_U := z_U_1 (i := 7) rfl rfl
theorem u_95 : (Jvm.Cond.initialized "java/lang/Math") ∈ z_U := z_U_1 (i := 8) rfl rfl
theorem u_96 : (Jvm.Cond.initialized "PaceStore$Game") ∈ z_U := z_U_1 (i := 9) rfl rfl
theorem u_97 : (Jvm.Cond.initialized "PaceStore$Step") ∈ z_U := z_U_1 (i := 10) rfl rfl
theorem u_98 : (Jvm.Cond.initialized "PaceStore$Sheet") ∈ z_U := z_U_1 (i := 11) rfl rfl
theorem u_99 : (Jvm.Cond.initialized "PaceStoreModel") ∈ z_U := z_U_1 (i := 12) rfl rfl
theorem u_100 : (Jvm.Cond.initialized "java/util/Arrays") ∈ z_U := z_U_1 (i := 13) rfl rfl
theorem u_101 : (Jvm.Cond.initialized "java/lang/System") ∈ z_U := z_U_1 (i := 14) rfl rfl
theorem u_102 : (Jvm.Cond.initialized "java/lang/String") ∈ z_U := z_U_1 (i := 15) rfl rfl
theorem u_106 : (Jvm.Cond.initialized "java/lang/Integer") ∈ z_U := z_U_1 (i := 19) rfl rfl
theorem u_129 : (Jvm.Cond.fieldLink "PaceStore$Course" (70 : Nat) "PaceStore$Course" "isThere" "Z") ∈ z_U := z_U_1 (i := 42) rfl rfl
theorem u_130 : (Jvm.Cond.fieldLink "PaceStore$Reader" (70 : Nat) "PaceStore$Course" "isThere" "Z") ∈ z_U := z_U_1 (i := 43) rfl rfl
theorem u_131 : (Jvm.Cond.fieldLink "PaceStore" (169 : Nat) "PaceStore$Course" "isThere" "Z") ∈ z_U := z_U_1 (i := 44) rfl rfl
theorem u_132 : (Jvm.Cond.fieldLink "PaceStore$Course" (54 : Nat) "PaceStore$Course" "miles" "I") ∈ z_U := z_U_1 (i := 45) rfl rfl
theorem u_133 : (Jvm.Cond.fieldLink "PaceStore$Field" (41 : Nat) "PaceStore$Course" "miles" "I") ∈ z_U := z_U_1 (i := 46) rfl rfl
theorem u_134 : (Jvm.Cond.fieldLink "PaceStore$Game" (45 : Nat) "PaceStore$Course" "miles" "I") ∈ z_U := z_U_1 (i := 47) rfl rfl
theorem u_135 : (Jvm.Cond.fieldLink "PaceStore$Alone" (54 : Nat) "PaceStore$Course" "miles" "I") ∈ z_U := z_U_1 (i := 48) rfl rfl
theorem u_136 : (Jvm.Cond.fieldLink "PaceStore$Reader" (74 : Nat) "PaceStore$Course" "miles" "I") ∈ z_U := z_U_1 (i := 49) rfl rfl
theorem u_137 : (Jvm.Cond.fieldLink "PaceStore" (151 : Nat) "PaceStore$Course" "miles" "I") ∈ z_U := z_U_1 (i := 50) rfl rfl
theorem u_138 : (Jvm.Cond.fieldLink "PaceStore$Course" (9 : Nat) "PaceStore$Course" "hills" "[I") ∈ z_U := z_U_1 (i := 51) rfl rfl
theorem u_139 : (Jvm.Cond.fieldLink "PaceStore$Reader" (81 : Nat) "PaceStore$Course" "hills" "[I") ∈ z_U := z_U_1 (i := 52) rfl rfl
theorem u_140 : (Jvm.Cond.fieldLink "PaceStore$Course" (15 : Nat) "PaceStore$Course" "heats" "[I") ∈ z_U := z_U_1 (i := 53) rfl rfl
theorem u_141 : (Jvm.Cond.fieldLink "PaceStore$Reader" (88 : Nat) "PaceStore$Course" "heats" "[I") ∈ z_U := z_U_1 (i := 54) rfl rfl
theorem u_142 : (Jvm.Cond.fieldLink "PaceStore$Course" (18 : Nat) "PaceStore$Course" "winds" "[I") ∈ z_U := z_U_1 (i := 55) rfl rfl
theorem u_143 : (Jvm.Cond.fieldLink "PaceStore$Reader" (91 : Nat) "PaceStore$Course" "winds" "[I") ∈ z_U := z_U_1 (i := 56) rfl rfl
theorem u_144 : (Jvm.Cond.fieldLink "PaceStore$Field" (18 : Nat) "PaceStore$Course" "runners" "I") ∈ z_U := z_U_1 (i := 57) rfl rfl
theorem u_145 : (Jvm.Cond.fieldLink "PaceStore$Course" (58 : Nat) "PaceStore$Course" "runners" "I") ∈ z_U := z_U_1 (i := 58) rfl rfl
theorem u_146 : (Jvm.Cond.fieldLink "PaceStore$Reader" (52 : Nat) "PaceStore$Course" "runners" "I") ∈ z_U := z_U_1 (i := 59) rfl rfl
theorem u_147 : (Jvm.Cond.fieldLink "PaceStore" (171 : Nat) "PaceStore$Course" "runners" "I") ∈ z_U := z_U_1 (i := 60) rfl rfl
theorem u_148 : (Jvm.Cond.fieldLink "PaceStore$Course" (21 : Nat) "PaceStore$Course" "lines" "[I") ∈ z_U := z_U_1 (i := 61) rfl rfl
theorem u_149 : (Jvm.Cond.fieldLink "PaceStore$Body" (7 : Nat) "PaceStore$Course" "lines" "[I") ∈ z_U := z_U_1 (i := 62) rfl rfl
theorem u_150 : (Jvm.Cond.fieldLink "PaceStore$Alone" (80 : Nat) "PaceStore$Course" "lines" "[I") ∈ z_U := z_U_1 (i := 63) rfl rfl
theorem u_151 : (Jvm.Cond.fieldLink "PaceStore$Reader" (97 : Nat) "PaceStore$Course" "lines" "[I") ∈ z_U := z_U_1 (i := 64) rfl rfl
theorem u_152 : (Jvm.Cond.fieldLink "PaceStore$Course" (24 : Nat) "PaceStore$Course" "stores" "[I") ∈ z_U := z_U_1 (i := 65) rfl rfl
theorem u_153 : (Jvm.Cond.fieldLink "PaceStore$Body" (19 : Nat) "PaceStore$Course" "stores" "[I") ∈ z_U := z_U_1 (i := 66) rfl rfl
theorem u_154 : (Jvm.Cond.fieldLink "PaceStore$Alone" (61 : Nat) "PaceStore$Course" "stores" "[I") ∈ z_U := z_U_1 (i := 67) rfl rfl
theorem u_155 : (Jvm.Cond.fieldLink "PaceStore$Reader" (100 : Nat) "PaceStore$Course" "stores" "[I") ∈ z_U := z_U_1 (i := 68) rfl rfl
theorem u_156 : (Jvm.Cond.fieldLink "PaceStore$Course" (27 : Nat) "PaceStore$Course" "fills" "[I") ∈ z_U := z_U_1 (i := 69) rfl rfl
theorem u_157 : (Jvm.Cond.fieldLink "PaceStore$Body" (25 : Nat) "PaceStore$Course" "fills" "[I") ∈ z_U := z_U_1 (i := 70) rfl rfl
theorem u_158 : (Jvm.Cond.fieldLink "PaceStore$Alone" (67 : Nat) "PaceStore$Course" "fills" "[I") ∈ z_U := z_U_1 (i := 71) rfl rfl
theorem u_159 : (Jvm.Cond.fieldLink "PaceStore$Reader" (103 : Nat) "PaceStore$Course" "fills" "[I") ∈ z_U := z_U_1 (i := 72) rfl rfl
theorem u_160 : (Jvm.Cond.fieldLink "PaceStore$Course" (30 : Nat) "PaceStore$Course" "rules" "[I") ∈ z_U := z_U_1 (i := 73) rfl rfl
theorem u_161 : (Jvm.Cond.fieldLink "PaceStore$Field" (86 : Nat) "PaceStore$Course" "rules" "[I") ∈ z_U := z_U_1 (i := 74) rfl rfl
theorem u_162 : (Jvm.Cond.fieldLink "PaceStore$Reader" (109 : Nat) "PaceStore$Course" "rules" "[I") ∈ z_U := z_U_1 (i := 75) rfl rfl
theorem u_163 : (Jvm.Cond.fieldLink "PaceStore$Course" (33 : Nat) "PaceStore$Course" "ruleWhats" "[I") ∈ z_U := z_U_1 (i := 76) rfl rfl
theorem u_164 : (Jvm.Cond.fieldLink "PaceStore$Field" (90 : Nat) "PaceStore$Course" "ruleWhats" "[I") ∈ z_U := z_U_1 (i := 77) rfl rfl
theorem u_165 : (Jvm.Cond.fieldLink "PaceStore$Reader" (115 : Nat) "PaceStore$Course" "ruleWhats" "[I") ∈ z_U := z_U_1 (i := 78) rfl rfl
theorem u_166 : (Jvm.Cond.fieldLink "PaceStore$Course" (36 : Nat) "PaceStore$Course" "ruleSides" "[I") ∈ z_U := z_U_1 (i := 79) rfl rfl
theorem u_167 : (Jvm.Cond.fieldLink "PaceStore$Field" (99 : Nat) "PaceStore$Course" "ruleSides" "[I") ∈ z_U := z_U_1 (i := 80) rfl rfl
theorem u_168 : (Jvm.Cond.fieldLink "PaceStore$Reader" (118 : Nat) "PaceStore$Course" "ruleSides" "[I") ∈ z_U := z_U_1 (i := 81) rfl rfl
theorem u_169 : (Jvm.Cond.fieldLink "PaceStore$Course" (39 : Nat) "PaceStore$Course" "ruleNumbers" "[I") ∈ z_U := z_U_1 (i := 82) rfl rfl
theorem u_170 : (Jvm.Cond.fieldLink "PaceStore$Field" (96 : Nat) "PaceStore$Course" "ruleNumbers" "[I") ∈ z_U := z_U_1 (i := 83) rfl rfl
theorem u_171 : (Jvm.Cond.fieldLink "PaceStore$Reader" (125 : Nat) "PaceStore$Course" "ruleNumbers" "[I") ∈ z_U := z_U_1 (i := 84) rfl rfl
theorem u_172 : (Jvm.Cond.fieldLink "PaceStore$Course" (42 : Nat) "PaceStore$Course" "ruleSteps" "[I") ∈ z_U := z_U_1 (i := 85) rfl rfl
theorem u_173 : (Jvm.Cond.fieldLink "PaceStore$Field" (102 : Nat) "PaceStore$Course" "ruleSteps" "[I") ∈ z_U := z_U_1 (i := 86) rfl rfl
theorem u_174 : (Jvm.Cond.fieldLink "PaceStore$Reader" (132 : Nat) "PaceStore$Course" "ruleSteps" "[I") ∈ z_U := z_U_1 (i := 87) rfl rfl
theorem u_175 : (Jvm.Cond.fieldLink "PaceStore$Course" (61 : Nat) "PaceStore$Course" "rabbits" "I") ∈ z_U := z_U_1 (i := 88) rfl rfl
theorem u_176 : (Jvm.Cond.fieldLink "PaceStore$Reader" (135 : Nat) "PaceStore$Course" "rabbits" "I") ∈ z_U := z_U_1 (i := 89) rfl rfl
theorem u_177 : (Jvm.Cond.fieldLink "PaceStore" (227 : Nat) "PaceStore$Course" "rabbits" "I") ∈ z_U := z_U_1 (i := 90) rfl rfl
theorem u_178 : (Jvm.Cond.fieldLink "PaceStore$Course" (45 : Nat) "PaceStore$Course" "rabbitPaces" "[I") ∈ z_U := z_U_1 (i := 91) rfl rfl
theorem u_179 : (Jvm.Cond.fieldLink "PaceStore$Reader" (138 : Nat) "PaceStore$Course" "rabbitPaces" "[I") ∈ z_U := z_U_1 (i := 92) rfl rfl
theorem u_180 : (Jvm.Cond.fieldLink "PaceStore" (233 : Nat) "PaceStore$Course" "rabbitPaces" "[I") ∈ z_U := z_U_1 (i := 93) rfl rfl
theorem u_181 : (Jvm.Cond.fieldLink "PaceStore$Course" (48 : Nat) "PaceStore$Course" "tills" "[I") ∈ z_U := z_U_1 (i := 94) rfl rfl
theorem u_182 : (Jvm.Cond.fieldLink "PaceStore$Reader" (141 : Nat) "PaceStore$Course" "tills" "[I") ∈ z_U := z_U_1 (i := 95) rfl rfl
theorem u_183 : (Jvm.Cond.fieldLink "PaceStore" (230 : Nat) "PaceStore$Course" "tills" "[I") ∈ z_U := z_U_1 (i := 96) rfl rfl
theorem u_184 : (Jvm.Cond.fieldLink "PaceStore$Course" (51 : Nat) "PaceStore$Course" "coins" "[I") ∈ z_U := z_U_1 (i := 97) rfl rfl
theorem u_185 : (Jvm.Cond.fieldLink "PaceStore$Reader" (144 : Nat) "PaceStore$Course" "coins" "[I") ∈ z_U := z_U_1 (i := 98) rfl rfl
theorem u_186 : (Jvm.Cond.lays "PaceStore$Course" "PaceStore$Course" "isThere" "Z") ∈ z_U := z_U_1 (i := 99) rfl rfl
theorem u_188 : (Jvm.Cond.lays "PaceStore$Course" "PaceStore$Course" "miles" "I") ∈ z_U := z_U_1 (i := 101) rfl rfl
theorem u_190 : (Jvm.Cond.laysFinal "PaceStore$Course" "PaceStore$Course" "hills" "[I") ∈ z_U := z_U_1 (i := 103) rfl rfl
theorem u_192 : (Jvm.Cond.laysFinal "PaceStore$Course" "PaceStore$Course" "heats" "[I") ∈ z_U := z_U_1 (i := 105) rfl rfl
theorem u_194 : (Jvm.Cond.laysFinal "PaceStore$Course" "PaceStore$Course" "winds" "[I") ∈ z_U := z_U_1 (i := 107) rfl rfl
theorem u_196 : (Jvm.Cond.lays "PaceStore$Course" "PaceStore$Course" "runners" "I") ∈ z_U := z_U_1 (i := 109) rfl rfl
theorem u_198 : (Jvm.Cond.laysFinal "PaceStore$Course" "PaceStore$Course" "lines" "[I") ∈ z_U := z_U_1 (i := 111) rfl rfl
theorem u_200 : (Jvm.Cond.laysFinal "PaceStore$Course" "PaceStore$Course" "stores" "[I") ∈ z_U := z_U_1 (i := 113) rfl rfl
theorem u_202 : (Jvm.Cond.laysFinal "PaceStore$Course" "PaceStore$Course" "fills" "[I") ∈ z_U := z_U_1 (i := 115) rfl rfl
theorem u_204 : (Jvm.Cond.laysFinal "PaceStore$Course" "PaceStore$Course" "rules" "[I") ∈ z_U := z_U_1 (i := 117) rfl rfl
theorem u_206 : (Jvm.Cond.laysFinal "PaceStore$Course" "PaceStore$Course" "ruleWhats" "[I") ∈ z_U := z_U_1 (i := 119) rfl rfl
theorem u_208 : (Jvm.Cond.laysFinal "PaceStore$Course" "PaceStore$Course" "ruleSides" "[I") ∈ z_U := z_U_1 (i := 121) rfl rfl
theorem u_210 : (Jvm.Cond.laysFinal "PaceStore$Course" "PaceStore$Course" "ruleNumbers" "[I") ∈ z_U := z_U_1 (i := 123) rfl rfl
theorem u_212 : (Jvm.Cond.laysFinal "PaceStore$Course" "PaceStore$Course" "ruleSteps" "[I") ∈ z_U := z_U_1 (i := 125) rfl rfl
theorem u_214 : (Jvm.Cond.lays "PaceStore$Course" "PaceStore$Course" "rabbits" "I") ∈ z_U := z_U_1 (i := 127) rfl rfl
theorem u_216 : (Jvm.Cond.laysFinal "PaceStore$Course" "PaceStore$Course" "rabbitPaces" "[I") ∈ z_U := z_U_1 (i := 129) rfl rfl
theorem u_218 : (Jvm.Cond.laysFinal "PaceStore$Course" "PaceStore$Course" "tills" "[I") ∈ z_U := z_U_1 (i := 131) rfl rfl
theorem u_220 : (Jvm.Cond.laysFinal "PaceStore$Course" "PaceStore$Course" "coins" "[I") ∈ z_U := z_U_1 (i := 133) rfl rfl
theorem u_225 : (Jvm.Cond.fieldLink "PaceStore$Reader" (11 : Nat) "PaceStore$Reader" "tape" "[B") ∈ z_U := z_U_1 (i := 138) rfl rfl
theorem u_226 : (Jvm.Cond.fieldLink "PaceStore$Reader" (18 : Nat) "PaceStore$Reader" "draft" "LPaceStore$Course;") ∈ z_U := z_U_1 (i := 139) rfl rfl
theorem u_227 : (Jvm.Cond.fieldLink "PaceStore" (140 : Nat) "PaceStore$Reader" "draft" "LPaceStore$Course;") ∈ z_U := z_U_1 (i := 140) rfl rfl
theorem u_228 : (Jvm.Cond.fieldLink "PaceStore$Reader" (22 : Nat) "PaceStore$Reader" "length" "I") ∈ z_U := z_U_1 (i := 141) rfl rfl
theorem u_229 : (Jvm.Cond.fieldLink "PaceStore" (129 : Nat) "PaceStore$Reader" "length" "I") ∈ z_U := z_U_1 (i := 142) rfl rfl
theorem u_230 : (Jvm.Cond.fieldLink "PaceStore" (154 : Nat) "PaceStore$Reader" "fault" "I") ∈ z_U := z_U_1 (i := 143) rfl rfl
theorem u_231 : (Jvm.Cond.fieldLink "PaceStore$Reader" (154 : Nat) "PaceStore$Reader" "fault" "I") ∈ z_U := z_U_1 (i := 144) rfl rfl
theorem u_232 : (Jvm.Cond.fieldLink "PaceStore" (137 : Nat) "PaceStore$Reader" "first" "I") ∈ z_U := z_U_1 (i := 145) rfl rfl
theorem u_233 : (Jvm.Cond.fieldLink "PaceStore$Reader" (157 : Nat) "PaceStore$Reader" "first" "I") ∈ z_U := z_U_1 (i := 146) rfl rfl
theorem u_234 : (Jvm.Cond.fieldLink "PaceStore$Reader" (29 : Nat) "PaceStore$Reader" "behind" "I") ∈ z_U := z_U_1 (i := 147) rfl rfl
theorem u_235 : (Jvm.Cond.fieldLink "PaceStore$Reader" (64 : Nat) "PaceStore$Reader" "sort" "I") ∈ z_U := z_U_1 (i := 148) rfl rfl
theorem u_236 : (Jvm.Cond.fieldLink "PaceStore$Reader" (147 : Nat) "PaceStore$Reader" "value" "I") ∈ z_U := z_U_1 (i := 149) rfl rfl
theorem u_237 : (Jvm.Cond.fieldLink "PaceStore$Reader" (85 : Nat) "PaceStore$Reader" "taken" "I") ∈ z_U := z_U_1 (i := 150) rfl rfl
theorem u_238 : (Jvm.Cond.laysFinal "PaceStore$Reader" "PaceStore$Reader" "tape" "[B") ∈ z_U := z_U_1 (i := 151) rfl rfl
theorem u_240 : (Jvm.Cond.laysFinal "PaceStore$Reader" "PaceStore$Reader" "draft" "LPaceStore$Course;") ∈ z_U := z_U_1 (i := 153) rfl rfl
theorem u_242 : (Jvm.Cond.lays "PaceStore$Reader" "PaceStore$Reader" "length" "I") ∈ z_U := z_U_1 (i := 155) rfl rfl
theorem u_244 : (Jvm.Cond.lays "PaceStore$Reader" "PaceStore$Reader" "fault" "I") ∈ z_U := z_U_1 (i := 157) rfl rfl
theorem u_246 : (Jvm.Cond.lays "PaceStore$Reader" "PaceStore$Reader" "first" "I") ∈ z_U := z_U_1 (i := 159) rfl rfl
theorem u_248 : (Jvm.Cond.lays "PaceStore$Reader" "PaceStore$Reader" "behind" "I") ∈ z_U := z_U_1 (i := 161) rfl rfl
theorem u_250 : (Jvm.Cond.lays "PaceStore$Reader" "PaceStore$Reader" "sort" "I") ∈ z_U := z_U_1 (i := 163) rfl rfl
theorem u_252 : (Jvm.Cond.lays "PaceStore$Reader" "PaceStore$Reader" "value" "I") ∈ z_U := z_U_1 (i := 165) rfl rfl
theorem u_254 : (Jvm.Cond.lays "PaceStore$Reader" "PaceStore$Reader" "taken" "I") ∈ z_U := z_U_1 (i := 167) rfl rfl
theorem u_267 : (Jvm.Cond.fieldLink "PaceStore$Results" (13 : Nat) "PaceStore$Results" "rows" "[[I") ∈ z_U := z_U_1 (i := 180) rfl rfl
theorem u_268 : (Jvm.Cond.fieldLink "PaceStore$Results" (16 : Nat) "PaceStore$Results" "places" "[I") ∈ z_U := z_U_1 (i := 181) rfl rfl
theorem u_269 : (Jvm.Cond.fieldLink "PaceStore$Field" (126 : Nat) "PaceStore$Results" "places" "[I") ∈ z_U := z_U_1 (i := 182) rfl rfl
theorem u_270 : (Jvm.Cond.fieldLink "PaceStore" (191 : Nat) "PaceStore$Results" "places" "[I") ∈ z_U := z_U_1 (i := 183) rfl rfl
theorem u_271 : (Jvm.Cond.fieldLink "PaceStore$Results" (24 : Nat) "PaceStore$Results" "runners" "I") ∈ z_U := z_U_1 (i := 184) rfl rfl
theorem u_272 : (Jvm.Cond.fieldLink "PaceStore$Field" (129 : Nat) "PaceStore$Results" "runners" "I") ∈ z_U := z_U_1 (i := 185) rfl rfl
theorem u_273 : (Jvm.Cond.fieldLink "PaceStore$Results" (20 : Nat) "PaceStore$Results" "isThere" "Z") ∈ z_U := z_U_1 (i := 186) rfl rfl
theorem u_274 : (Jvm.Cond.fieldLink "PaceStore" (147 : Nat) "PaceStore$Results" "isThere" "Z") ∈ z_U := z_U_1 (i := 187) rfl rfl
theorem u_275 : (Jvm.Cond.fieldLink "PaceStore$Field" (130 : Nat) "PaceStore$Results" "isThere" "Z") ∈ z_U := z_U_1 (i := 188) rfl rfl
theorem u_276 : (Jvm.Cond.laysFinal "PaceStore$Results" "PaceStore$Results" "rows" "[[I") ∈ z_U := z_U_1 (i := 189) rfl rfl
theorem u_278 : (Jvm.Cond.laysFinal "PaceStore$Results" "PaceStore$Results" "places" "[I") ∈ z_U := z_U_1 (i := 191) rfl rfl
theorem u_280 : (Jvm.Cond.lays "PaceStore$Results" "PaceStore$Results" "runners" "I") ∈ z_U := z_U_1 (i := 193) rfl rfl
theorem u_282 : (Jvm.Cond.lays "PaceStore$Results" "PaceStore$Results" "isThere" "Z") ∈ z_U := z_U_1 (i := 195) rfl rfl
theorem u_300 : (Jvm.Cond.fieldLink "PaceStore$Body" (13 : Nat) "PaceStore$Body" "line" "I") ∈ z_U := z_U_1 (i := 213) rfl rfl
theorem u_301 : (Jvm.Cond.fieldLink "PaceStore$Game" (36 : Nat) "PaceStore$Body" "line" "I") ∈ z_U := z_U_1 (i := 214) rfl rfl
theorem u_302 : (Jvm.Cond.fieldLink "PaceStore$Body" (22 : Nat) "PaceStore$Body" "store" "I") ∈ z_U := z_U_1 (i := 215) rfl rfl
theorem u_303 : (Jvm.Cond.fieldLink "PaceStore$Body" (28 : Nat) "PaceStore$Body" "fill" "I") ∈ z_U := z_U_1 (i := 216) rfl rfl
theorem u_304 : (Jvm.Cond.fieldLink "PaceStore$Body" (31 : Nat) "PaceStore$Body" "left" "I") ∈ z_U := z_U_1 (i := 217) rfl rfl
theorem u_305 : (Jvm.Cond.fieldLink "PaceStore$Results" (42 : Nat) "PaceStore$Body" "left" "I") ∈ z_U := z_U_1 (i := 218) rfl rfl
theorem u_306 : (Jvm.Cond.fieldLink "PaceStore$Field" (93 : Nat) "PaceStore$Body" "left" "I") ∈ z_U := z_U_1 (i := 219) rfl rfl
theorem u_307 : (Jvm.Cond.fieldLink "PaceStore$Body" (34 : Nat) "PaceStore$Body" "time" "I") ∈ z_U := z_U_1 (i := 220) rfl rfl
theorem u_308 : (Jvm.Cond.fieldLink "PaceStore$Game" (63 : Nat) "PaceStore$Body" "time" "I") ∈ z_U := z_U_1 (i := 221) rfl rfl
theorem u_309 : (Jvm.Cond.fieldLink "PaceStore$Results" (51 : Nat) "PaceStore$Body" "time" "I") ∈ z_U := z_U_1 (i := 222) rfl rfl
theorem u_310 : (Jvm.Cond.fieldLink "PaceStore$Field" (77 : Nat) "PaceStore$Body" "time" "I") ∈ z_U := z_U_1 (i := 223) rfl rfl
theorem u_311 : (Jvm.Cond.fieldLink "PaceStore$Body" (37 : Nat) "PaceStore$Body" "pace" "I") ∈ z_U := z_U_1 (i := 224) rfl rfl
theorem u_312 : (Jvm.Cond.fieldLink "PaceStore$Game" (56 : Nat) "PaceStore$Body" "pace" "I") ∈ z_U := z_U_1 (i := 225) rfl rfl
theorem u_313 : (Jvm.Cond.fieldLink "PaceStore$Results" (39 : Nat) "PaceStore$Body" "pace" "I") ∈ z_U := z_U_1 (i := 226) rfl rfl
theorem u_314 : (Jvm.Cond.fieldLink "PaceStore$Results" (34 : Nat) "PaceStore$Body" "seconds" "I") ∈ z_U := z_U_1 (i := 227) rfl rfl
theorem u_315 : (Jvm.Cond.fieldLink "PaceStore$Body" (79 : Nat) "PaceStore$Body" "seconds" "I") ∈ z_U := z_U_1 (i := 228) rfl rfl
theorem u_316 : (Jvm.Cond.fieldLink "PaceStore$Body" (40 : Nat) "PaceStore$Body" "isSheltered" "Z") ∈ z_U := z_U_1 (i := 229) rfl rfl
theorem u_317 : (Jvm.Cond.fieldLink "PaceStore$Results" (45 : Nat) "PaceStore$Body" "isSheltered" "Z") ∈ z_U := z_U_1 (i := 230) rfl rfl
theorem u_318 : (Jvm.Cond.fieldLink "PaceStore$Field" (115 : Nat) "PaceStore$Body" "isSheltered" "Z") ∈ z_U := z_U_1 (i := 231) rfl rfl
theorem u_319 : (Jvm.Cond.fieldLink "PaceStore$Results" (54 : Nat) "PaceStore$Body" "isHard" "Z") ∈ z_U := z_U_1 (i := 232) rfl rfl
theorem u_320 : (Jvm.Cond.fieldLink "PaceStore$Body" (58 : Nat) "PaceStore$Body" "isHard" "Z") ∈ z_U := z_U_1 (i := 233) rfl rfl
theorem u_321 : (Jvm.Cond.fieldLink "PaceStore$Results" (48 : Nat) "PaceStore$Body" "isSpentOut" "Z") ∈ z_U := z_U_1 (i := 234) rfl rfl
theorem u_322 : (Jvm.Cond.fieldLink "PaceStore$Body" (61 : Nat) "PaceStore$Body" "isSpentOut" "Z") ∈ z_U := z_U_1 (i := 235) rfl rfl
theorem u_323 : (Jvm.Cond.lays "PaceStore$Body" "PaceStore$Body" "line" "I") ∈ z_U := z_U_1 (i := 236) rfl rfl
theorem u_325 : (Jvm.Cond.lays "PaceStore$Body" "PaceStore$Body" "store" "I") ∈ z_U := z_U_1 (i := 238) rfl rfl
theorem u_327 : (Jvm.Cond.lays "PaceStore$Body" "PaceStore$Body" "fill" "I") ∈ z_U := z_U_2 (i := 0) rfl rfl
theorem u_329 : (Jvm.Cond.lays "PaceStore$Body" "PaceStore$Body" "left" "I") ∈ z_U := z_U_2 (i := 2) rfl rfl
theorem u_331 : (Jvm.Cond.lays "PaceStore$Body" "PaceStore$Body" "time" "I") ∈ z_U := z_U_2 (i := 4) rfl rfl
theorem u_333 : (Jvm.Cond.lays "PaceStore$Body" "PaceStore$Body" "pace" "I") ∈ z_U := z_U_2 (i := 6) rfl rfl
theorem u_335 : (Jvm.Cond.lays "PaceStore$Body" "PaceStore$Body" "seconds" "I") ∈ z_U := z_U_2 (i := 8) rfl rfl
theorem u_337 : (Jvm.Cond.lays "PaceStore$Body" "PaceStore$Body" "isSheltered" "Z") ∈ z_U := z_U_2 (i := 10) rfl rfl
theorem u_339 : (Jvm.Cond.lays "PaceStore$Body" "PaceStore$Body" "isHard" "Z") ∈ z_U := z_U_2 (i := 12) rfl rfl
theorem u_341 : (Jvm.Cond.lays "PaceStore$Body" "PaceStore$Body" "isSpentOut" "Z") ∈ z_U := z_U_2 (i := 14) rfl rfl
theorem u_344 : (Jvm.Cond.fieldLink "PaceStore$Field" (11 : Nat) "PaceStore$Field" "bodies" "[LPaceStore$Body;") ∈ z_U := z_U_2 (i := 17) rfl rfl
theorem u_345 : (Jvm.Cond.fieldLink "PaceStore$Game" (22 : Nat) "PaceStore$Field" "bodies" "[LPaceStore$Body;") ∈ z_U := z_U_2 (i := 18) rfl rfl
theorem u_346 : (Jvm.Cond.fieldLink "PaceStore$Field" (24 : Nat) "PaceStore$Field" "running" "I") ∈ z_U := z_U_2 (i := 19) rfl rfl
theorem u_347 : (Jvm.Cond.fieldLink "PaceStore$Game" (26 : Nat) "PaceStore$Field" "running" "I") ∈ z_U := z_U_2 (i := 20) rfl rfl
theorem u_348 : (Jvm.Cond.fieldLink "PaceStore$Field" (27 : Nat) "PaceStore$Field" "slip" "J") ∈ z_U := z_U_2 (i := 21) rfl rfl
theorem u_349 : (Jvm.Cond.laysFinal "PaceStore$Field" "PaceStore$Field" "bodies" "[LPaceStore$Body;") ∈ z_U := z_U_2 (i := 22) rfl rfl
theorem u_351 : (Jvm.Cond.lays "PaceStore$Field" "PaceStore$Field" "running" "I") ∈ z_U := z_U_2 (i := 24) rfl rfl
theorem u_353 : (Jvm.Cond.lays "PaceStore$Field" "PaceStore$Field" "slip" "J") ∈ z_U := z_U_2 (i := 26) rfl rfl
theorem u_364 : (Jvm.Cond.static ({ cls := "PaceStore", name := "secondsBy", desc := "(I)I" } : Jvm.MethodName)) ∈ z_U := z_U_2 (i := 37) rfl rfl
theorem u_365 : (Jvm.Cond.code ({ cls := "PaceStore", name := "secondsBy", desc := "(I)I" } : Jvm.MethodName) prog_1_method_44_code (1 : Nat) (Option.some Jvm.ClassFile.FieldType.int)) ∈ z_U := z_U_2 (i := 38) rfl rfl
theorem u_366 : (Jvm.Cond.methodLink "PaceStore" (335 : Nat) ({ cls := "java/lang/Math", name := "max", desc := "(II)I" } : Jvm.MethodName)) ∈ z_U := z_U_2 (i := 39) rfl rfl
theorem u_367 : (Jvm.Cond.static ({ cls := "java/lang/Math", name := "max", desc := "(II)I" } : Jvm.MethodName)) ∈ z_U := z_U_2 (i := 40) rfl rfl
theorem u_368 : (Jvm.Cond.code ({ cls := "java/lang/Math", name := "max", desc := "(II)I" } : Jvm.MethodName) prog_14_method_65_code (2 : Nat) (Option.some Jvm.ClassFile.FieldType.int)) ∈ z_U := z_U_2 (i := 41) rfl rfl
theorem u_369 : (Jvm.Cond.fieldLink "PaceStore$Alone" (9 : Nat) "PaceStore$Alone" "seconds" "[I") ∈ z_U := z_U_2 (i := 42) rfl rfl
theorem u_370 : (Jvm.Cond.fieldLink "PaceStore$Alone" (17 : Nat) "PaceStore$Alone" "needs" "[[I") ∈ z_U := z_U_2 (i := 43) rfl rfl
theorem u_371 : (Jvm.Cond.fieldLink "PaceStore$Alone" (20 : Nat) "PaceStore$Alone" "changes" "[[I") ∈ z_U := z_U_2 (i := 44) rfl rfl
theorem u_372 : (Jvm.Cond.fieldLink "PaceStore$Alone" (23 : Nat) "PaceStore$Alone" "tries" "[[I") ∈ z_U := z_U_2 (i := 45) rfl rfl
theorem u_373 : (Jvm.Cond.fieldLink "PaceStore$Alone" (26 : Nat) "PaceStore$Alone" "tried" "[I") ∈ z_U := z_U_2 (i := 46) rfl rfl
theorem u_374 : (Jvm.Cond.fieldLink "PaceStore$Alone" (29 : Nat) "PaceStore$Alone" "least" "[[I") ∈ z_U := z_U_2 (i := 47) rfl rfl
theorem u_375 : (Jvm.Cond.fieldLink "PaceStore" (242 : Nat) "PaceStore$Alone" "least" "[[I") ∈ z_U := z_U_2 (i := 48) rfl rfl
theorem u_376 : (Jvm.Cond.fieldLink "PaceStore$Alone" (32 : Nat) "PaceStore$Alone" "moreHeats" "[I") ∈ z_U := z_U_2 (i := 49) rfl rfl
theorem u_377 : (Jvm.Cond.fieldLink "PaceStore$Alone" (60 : Nat) "PaceStore$Alone" "miles" "I") ∈ z_U := z_U_2 (i := 50) rfl rfl
theorem u_378 : (Jvm.Cond.fieldLink "PaceStore$Alone" (87 : Nat) "PaceStore$Alone" "line" "I") ∈ z_U := z_U_2 (i := 51) rfl rfl
theorem u_379 : (Jvm.Cond.fieldLink "PaceStore$Alone" (64 : Nat) "PaceStore$Alone" "store" "I") ∈ z_U := z_U_2 (i := 52) rfl rfl
theorem u_380 : (Jvm.Cond.fieldLink "PaceStore$Alone" (70 : Nat) "PaceStore$Alone" "fill" "I") ∈ z_U := z_U_2 (i := 53) rfl rfl
theorem u_381 : (Jvm.Cond.laysFinal "PaceStore$Alone" "PaceStore$Alone" "seconds" "[I") ∈ z_U := z_U_2 (i := 54) rfl rfl
theorem u_383 : (Jvm.Cond.laysFinal "PaceStore$Alone" "PaceStore$Alone" "needs" "[[I") ∈ z_U := z_U_2 (i := 56) rfl rfl
theorem u_385 : (Jvm.Cond.laysFinal "PaceStore$Alone" "PaceStore$Alone" "changes" "[[I") ∈ z_U := z_U_2 (i := 58) rfl rfl
theorem u_387 : (Jvm.Cond.laysFinal "PaceStore$Alone" "PaceStore$Alone" "tries" "[[I") ∈ z_U := z_U_2 (i := 60) rfl rfl
theorem u_389 : (Jvm.Cond.laysFinal "PaceStore$Alone" "PaceStore$Alone" "tried" "[I") ∈ z_U := z_U_2 (i := 62) rfl rfl
theorem u_391 : (Jvm.Cond.laysFinal "PaceStore$Alone" "PaceStore$Alone" "least" "[[I") ∈ z_U := z_U_2 (i := 64) rfl rfl
theorem u_393 : (Jvm.Cond.laysFinal "PaceStore$Alone" "PaceStore$Alone" "moreHeats" "[I") ∈ z_U := z_U_2 (i := 66) rfl rfl
theorem u_395 : (Jvm.Cond.lays "PaceStore$Alone" "PaceStore$Alone" "miles" "I") ∈ z_U := z_U_2 (i := 68) rfl rfl
theorem u_397 : (Jvm.Cond.lays "PaceStore$Alone" "PaceStore$Alone" "line" "I") ∈ z_U := z_U_2 (i := 70) rfl rfl
theorem u_399 : (Jvm.Cond.lays "PaceStore$Alone" "PaceStore$Alone" "store" "I") ∈ z_U := z_U_2 (i := 72) rfl rfl
theorem u_401 : (Jvm.Cond.lays "PaceStore$Alone" "PaceStore$Alone" "fill" "I") ∈ z_U := z_U_2 (i := 74) rfl rfl
theorem u_412 : (Jvm.Cond.fieldLink "PaceStore$Game" (12 : Nat) "PaceStore$Game" "field" "LPaceStore$Field;") ∈ z_U := z_U_2 (i := 85) rfl rfl
theorem u_413 : (Jvm.Cond.fieldLink "PaceStore$Game" (18 : Nat) "PaceStore$Game" "scores" "[I") ∈ z_U := z_U_2 (i := 86) rfl rfl
theorem u_414 : (Jvm.Cond.laysFinal "PaceStore$Game" "PaceStore$Game" "field" "LPaceStore$Field;") ∈ z_U := z_U_2 (i := 87) rfl rfl
theorem u_416 : (Jvm.Cond.laysFinal "PaceStore$Game" "PaceStore$Game" "scores" "[I") ∈ z_U := z_U_2 (i := 89) rfl rfl
theorem u_425 : (Jvm.Cond.fieldLink "PaceStore$Step" (9 : Nat) "PaceStore$Step" "numbers" "[I") ∈ z_U := z_U_2 (i := 98) rfl rfl
theorem u_426 : (Jvm.Cond.fieldLink "PaceStore" (322 : Nat) "PaceStore$Step" "numbers" "[I") ∈ z_U := z_U_2 (i := 99) rfl rfl
theorem u_427 : (Jvm.Cond.fieldLink "PaceStore$Step" (22 : Nat) "PaceStore$Step" "traced" "I") ∈ z_U := z_U_2 (i := 100) rfl rfl
theorem u_428 : (Jvm.Cond.fieldLink "PaceStore" (319 : Nat) "PaceStore$Step" "traced" "I") ∈ z_U := z_U_2 (i := 101) rfl rfl
theorem u_429 : (Jvm.Cond.fieldLink "PaceStore$Step" (32 : Nat) "PaceStore$Step" "kind" "I") ∈ z_U := z_U_2 (i := 102) rfl rfl
theorem u_430 : (Jvm.Cond.fieldLink "PaceStore$Step" (35 : Nat) "PaceStore$Step" "mile" "I") ∈ z_U := z_U_2 (i := 103) rfl rfl
theorem u_431 : (Jvm.Cond.fieldLink "PaceStore$Step" (42 : Nat) "PaceStore$Step" "seconds" "I") ∈ z_U := z_U_2 (i := 104) rfl rfl
theorem u_432 : (Jvm.Cond.fieldLink "PaceStore$Step" (45 : Nat) "PaceStore$Step" "pace" "I") ∈ z_U := z_U_2 (i := 105) rfl rfl
theorem u_433 : (Jvm.Cond.fieldLink "PaceStore$Step" (48 : Nat) "PaceStore$Step" "leftBehind" "I") ∈ z_U := z_U_2 (i := 106) rfl rfl
theorem u_434 : (Jvm.Cond.laysFinal "PaceStore$Step" "PaceStore$Step" "numbers" "[I") ∈ z_U := z_U_2 (i := 107) rfl rfl
theorem u_436 : (Jvm.Cond.lays "PaceStore$Step" "PaceStore$Step" "traced" "I") ∈ z_U := z_U_2 (i := 109) rfl rfl
theorem u_438 : (Jvm.Cond.lays "PaceStore$Step" "PaceStore$Step" "kind" "I") ∈ z_U := z_U_2 (i := 111) rfl rfl
theorem u_440 : (Jvm.Cond.lays "PaceStore$Step" "PaceStore$Step" "mile" "I") ∈ z_U := z_U_2 (i := 113) rfl rfl
theorem u_442 : (Jvm.Cond.lays "PaceStore$Step" "PaceStore$Step" "seconds" "I") ∈ z_U := z_U_2 (i := 115) rfl rfl
theorem u_444 : (Jvm.Cond.lays "PaceStore$Step" "PaceStore$Step" "pace" "I") ∈ z_U := z_U_2 (i := 117) rfl rfl
theorem u_446 : (Jvm.Cond.lays "PaceStore$Step" "PaceStore$Step" "leftBehind" "I") ∈ z_U := z_U_2 (i := 119) rfl rfl
theorem u_454 : (Jvm.Cond.fieldLink "PaceStore$Sheet" (9 : Nat) "PaceStore$Sheet" "items" "[I") ∈ z_U := z_U_2 (i := 127) rfl rfl
theorem u_455 : (Jvm.Cond.fieldLink "PaceStore" (109 : Nat) "PaceStore$Sheet" "items" "[I") ∈ z_U := z_U_2 (i := 128) rfl rfl
theorem u_456 : (Jvm.Cond.fieldLink "PaceStore$Sheet" (15 : Nat) "PaceStore$Sheet" "lane" "I") ∈ z_U := z_U_2 (i := 129) rfl rfl
theorem u_457 : (Jvm.Cond.fieldLink "PaceStore" (101 : Nat) "PaceStore$Sheet" "lane" "I") ∈ z_U := z_U_2 (i := 130) rfl rfl
theorem u_458 : (Jvm.Cond.fieldLink "PaceStore$Sheet" (25 : Nat) "PaceStore$Sheet" "size" "I") ∈ z_U := z_U_2 (i := 131) rfl rfl
theorem u_459 : (Jvm.Cond.fieldLink "PaceStore" (119 : Nat) "PaceStore$Sheet" "size" "I") ∈ z_U := z_U_2 (i := 132) rfl rfl
theorem u_460 : (Jvm.Cond.laysFinal "PaceStore$Sheet" "PaceStore$Sheet" "items" "[I") ∈ z_U := z_U_2 (i := 133) rfl rfl
theorem u_462 : (Jvm.Cond.lays "PaceStore$Sheet" "PaceStore$Sheet" "lane" "I") ∈ z_U := z_U_2 (i := 135) rfl rfl
theorem u_464 : (Jvm.Cond.lays "PaceStore$Sheet" "PaceStore$Sheet" "size" "I") ∈ z_U := z_U_2 (i := 137) rfl rfl
theorem u_467 : (Jvm.Cond.fieldLink "PaceStore" (11 : Nat) "PaceStore" "sheets" "[LPaceStore$Sheet;") ∈ z_U := z_U_2 (i := 140) rfl rfl
theorem u_468 : (Jvm.Cond.fieldLink "PaceStore" (18 : Nat) "PaceStore" "reader" "LPaceStore$Reader;") ∈ z_U := z_U_2 (i := 141) rfl rfl
theorem u_469 : (Jvm.Cond.fieldLink "PaceStore" (25 : Nat) "PaceStore" "course" "LPaceStore$Course;") ∈ z_U := z_U_2 (i := 142) rfl rfl
theorem u_470 : (Jvm.Cond.fieldLink "PaceStore" (32 : Nat) "PaceStore" "results" "LPaceStore$Results;") ∈ z_U := z_U_2 (i := 143) rfl rfl
theorem u_471 : (Jvm.Cond.fieldLink "PaceStore" (36 : Nat) "PaceStore" "keptCourses" "[LPaceStore$Course;") ∈ z_U := z_U_2 (i := 144) rfl rfl
theorem u_472 : (Jvm.Cond.fieldLink "PaceStore" (40 : Nat) "PaceStore" "keptResults" "[LPaceStore$Results;") ∈ z_U := z_U_2 (i := 145) rfl rfl
theorem u_473 : (Jvm.Cond.fieldLink "PaceStore" (47 : Nat) "PaceStore" "field" "LPaceStore$Field;") ∈ z_U := z_U_2 (i := 146) rfl rfl
theorem u_474 : (Jvm.Cond.fieldLink "PaceStore" (54 : Nat) "PaceStore" "alone" "LPaceStore$Alone;") ∈ z_U := z_U_2 (i := 147) rfl rfl
theorem u_475 : (Jvm.Cond.fieldLink "PaceStore" (61 : Nat) "PaceStore" "game" "LPaceStore$Game;") ∈ z_U := z_U_2 (i := 148) rfl rfl
theorem u_476 : (Jvm.Cond.fieldLink "PaceStore" (68 : Nat) "PaceStore" "step" "LPaceStore$Step;") ∈ z_U := z_U_2 (i := 149) rfl rfl
theorem u_477 : (Jvm.Cond.fieldLink "PaceStore" (331 : Nat) "PaceStore" "status" "I") ∈ z_U := z_U_2 (i := 150) rfl rfl
theorem u_478 : (Jvm.Cond.laysFinal "PaceStore" "PaceStore" "sheets" "[LPaceStore$Sheet;") ∈ z_U := z_U_2 (i := 151) rfl rfl
theorem u_480 : (Jvm.Cond.laysFinal "PaceStore" "PaceStore" "reader" "LPaceStore$Reader;") ∈ z_U := z_U_2 (i := 153) rfl rfl
theorem u_482 : (Jvm.Cond.laysFinal "PaceStore" "PaceStore" "course" "LPaceStore$Course;") ∈ z_U := z_U_2 (i := 155) rfl rfl
theorem u_484 : (Jvm.Cond.laysFinal "PaceStore" "PaceStore" "results" "LPaceStore$Results;") ∈ z_U := z_U_2 (i := 157) rfl rfl
theorem u_486 : (Jvm.Cond.laysFinal "PaceStore" "PaceStore" "keptCourses" "[LPaceStore$Course;") ∈ z_U := z_U_2 (i := 159) rfl rfl
theorem u_488 : (Jvm.Cond.laysFinal "PaceStore" "PaceStore" "keptResults" "[LPaceStore$Results;") ∈ z_U := z_U_2 (i := 161) rfl rfl
theorem u_490 : (Jvm.Cond.laysFinal "PaceStore" "PaceStore" "field" "LPaceStore$Field;") ∈ z_U := z_U_2 (i := 163) rfl rfl
theorem u_492 : (Jvm.Cond.laysFinal "PaceStore" "PaceStore" "alone" "LPaceStore$Alone;") ∈ z_U := z_U_2 (i := 165) rfl rfl
theorem u_494 : (Jvm.Cond.laysFinal "PaceStore" "PaceStore" "game" "LPaceStore$Game;") ∈ z_U := z_U_2 (i := 167) rfl rfl
theorem u_496 : (Jvm.Cond.laysFinal "PaceStore" "PaceStore" "step" "LPaceStore$Step;") ∈ z_U := z_U_2 (i := 169) rfl rfl
theorem u_498 : (Jvm.Cond.lays "PaceStore" "PaceStore" "status" "I") ∈ z_U := z_U_2 (i := 171) rfl rfl
theorem u_501 : (Jvm.Cond.methodLink "PaceStoreLaw" (13 : Nat) ({ cls := "PaceStore", name := "sheet", desc := "(III)I" } : Jvm.MethodName)) ∈ z_U := z_U_2 (i := 174) rfl rfl
theorem u_502 : (Jvm.Cond.instanceMethod ({ cls := "PaceStore", name := "sheet", desc := "(III)I" } : Jvm.MethodName)) ∈ z_U := z_U_2 (i := 175) rfl rfl
theorem u_503 : (Jvm.Cond.selects "PaceStore" ({ cls := "PaceStore", name := "sheet", desc := "(III)I" } : Jvm.MethodName) ({ cls := "PaceStore", name := "sheet", desc := "(III)I" } : Jvm.MethodName)) ∈ z_U := z_U_2 (i := 176) rfl rfl
theorem u_504 : (Jvm.Cond.code ({ cls := "PaceStore", name := "sheet", desc := "(III)I" } : Jvm.MethodName) prog_1_method_2_code (4 : Nat) (Option.some Jvm.ClassFile.FieldType.int)) ∈ z_U := z_U_2 (i := 177) rfl rfl
theorem u_505 : (Jvm.Cond.methodLink "PaceStore" (73 : Nat) ({ cls := "PaceStore", name := "within", desc := "(III)Z" } : Jvm.MethodName)) ∈ z_U := z_U_2 (i := 178) rfl rfl
theorem u_506 : (Jvm.Cond.static ({ cls := "PaceStore", name := "within", desc := "(III)Z" } : Jvm.MethodName)) ∈ z_U := z_U_2 (i := 179) rfl rfl
theorem u_507 : (Jvm.Cond.code ({ cls := "PaceStore", name := "within", desc := "(III)Z" } : Jvm.MethodName) prog_1_method_41_code (3 : Nat) (Option.some Jvm.ClassFile.FieldType.boolean)) ∈ z_U := z_U_2 (i := 180) rfl rfl
theorem u_508 : (Jvm.Cond.constant "PaceStore" (77 : Nat) (-1000001 : Int32)) ∈ z_U := z_U_2 (i := 181) rfl rfl
theorem u_509 : (Jvm.Cond.methodLink "PaceStore" (78 : Nat) ({ cls := "PaceStore", name := "found", desc := "(I)I" } : Jvm.MethodName)) ∈ z_U := z_U_2 (i := 182) rfl rfl
theorem u_511 : (Jvm.Cond.instanceMethod ({ cls := "PaceStore", name := "found", desc := "(I)I" } : Jvm.MethodName)) ∈ z_U := z_U_2 (i := 184) rfl rfl
theorem u_512 : (Jvm.Cond.code ({ cls := "PaceStore", name := "found", desc := "(I)I" } : Jvm.MethodName) prog_1_method_37_code (2 : Nat) (Option.some Jvm.ClassFile.FieldType.int)) ∈ z_U := z_U_2 (i := 185) rfl rfl
theorem u_513 : (Jvm.Cond.constant "PaceStore" (334 : Nat) (-1000010 : Int32)) ∈ z_U := z_U_2 (i := 186) rfl rfl
theorem u_514 : (Jvm.Cond.methodLink "PaceStore" (82 : Nat) ({ cls := "PaceStore$Sheet", name := "begin", desc := "(II)V" } : Jvm.MethodName)) ∈ z_U := z_U_2 (i := 187) rfl rfl
theorem u_515 : (Jvm.Cond.instanceMethod ({ cls := "PaceStore$Sheet", name := "begin", desc := "(II)V" } : Jvm.MethodName)) ∈ z_U := z_U_2 (i := 188) rfl rfl
theorem u_516 : (Jvm.Cond.selects "PaceStore$Sheet" ({ cls := "PaceStore$Sheet", name := "begin", desc := "(II)V" } : Jvm.MethodName) ({ cls := "PaceStore$Sheet", name := "begin", desc := "(II)V" } : Jvm.MethodName)) ∈ z_U := z_U_2 (i := 189) rfl rfl
theorem u_517 : (Jvm.Cond.code ({ cls := "PaceStore$Sheet", name := "begin", desc := "(II)V" } : Jvm.MethodName) prog_9_method_3_code (3 : Nat) (Option.none : Option Jvm.ClassFile.FieldType)) ∈ z_U := z_U_2 (i := 190) rfl rfl
theorem u_518 : (Jvm.Cond.methodLink "PaceStore$Sheet" (19 : Nat) ({ cls := "java/util/Arrays", name := "fill", desc := "([II)V" } : Jvm.MethodName)) ∈ z_U := z_U_2 (i := 191) rfl rfl
theorem u_519 : (Jvm.Cond.static ({ cls := "java/util/Arrays", name := "fill", desc := "([II)V" } : Jvm.MethodName)) ∈ z_U := z_U_2 (i := 192) rfl rfl
theorem u_520 : (Jvm.Cond.code ({ cls := "java/util/Arrays", name := "fill", desc := "([II)V" } : Jvm.MethodName) prog_19_method_103_code (4 : Nat) (Option.none : Option Jvm.ClassFile.FieldType)) ∈ z_U := z_U_2 (i := 193) rfl rfl
theorem u_521 : (Jvm.Cond.methodLink "PaceStore" (86 : Nat) ({ cls := "PaceStore", name := "foundNothing", desc := "(I)I" } : Jvm.MethodName)) ∈ z_U := z_U_2 (i := 194) rfl rfl
theorem u_523 : (Jvm.Cond.instanceMethod ({ cls := "PaceStore", name := "foundNothing", desc := "(I)I" } : Jvm.MethodName)) ∈ z_U := z_U_2 (i := 196) rfl rfl
theorem u_524 : (Jvm.Cond.code ({ cls := "PaceStore", name := "foundNothing", desc := "(I)I" } : Jvm.MethodName) prog_1_method_38_code (2 : Nat) (Option.some Jvm.ClassFile.FieldType.int)) ∈ z_U := z_U_2 (i := 197) rfl rfl
theorem u_525 : (Jvm.Cond.methodLink "PaceStoreLaw" (18 : Nat) ({ cls := "PaceStore", name := "set", desc := "(III)I" } : Jvm.MethodName)) ∈ z_U := z_U_2 (i := 198) rfl rfl
theorem u_526 : (Jvm.Cond.instanceMethod ({ cls := "PaceStore", name := "set", desc := "(III)I" } : Jvm.MethodName)) ∈ z_U := z_U_2 (i := 199) rfl rfl
theorem u_527 : (Jvm.Cond.selects "PaceStore" ({ cls := "PaceStore", name := "set", desc := "(III)I" } : Jvm.MethodName) ({ cls := "PaceStore", name := "set", desc := "(III)I" } : Jvm.MethodName)) ∈ z_U := z_U_2 (i := 200) rfl rfl
theorem u_528 : (Jvm.Cond.code ({ cls := "PaceStore", name := "set", desc := "(III)I" } : Jvm.MethodName) prog_1_method_3_code (5 : Nat) (Option.some Jvm.ClassFile.FieldType.int)) ∈ z_U := z_U_2 (i := 201) rfl rfl
theorem u_529 : (Jvm.Cond.methodLink "PaceStore" (89 : Nat) ({ cls := "PaceStore", name := "findingAt", desc := "(III)I" } : Jvm.MethodName)) ∈ z_U := z_U_2 (i := 202) rfl rfl
theorem u_531 : (Jvm.Cond.instanceMethod ({ cls := "PaceStore", name := "findingAt", desc := "(III)I" } : Jvm.MethodName)) ∈ z_U := z_U_2 (i := 204) rfl rfl
theorem u_532 : (Jvm.Cond.code ({ cls := "PaceStore", name := "findingAt", desc := "(III)I" } : Jvm.MethodName) prog_1_method_39_code (4 : Nat) (Option.some Jvm.ClassFile.FieldType.int)) ∈ z_U := z_U_2 (i := 205) rfl rfl
theorem u_533 : (Jvm.Cond.methodLink "PaceStore" (97 : Nat) ({ cls := "PaceStore$Sheet", name := "isMissing", desc := "()Z" } : Jvm.MethodName)) ∈ z_U := z_U_2 (i := 206) rfl rfl
theorem u_534 : (Jvm.Cond.instanceMethod ({ cls := "PaceStore$Sheet", name := "isMissing", desc := "()Z" } : Jvm.MethodName)) ∈ z_U := z_U_2 (i := 207) rfl rfl
theorem u_535 : (Jvm.Cond.selects "PaceStore$Sheet" ({ cls := "PaceStore$Sheet", name := "isMissing", desc := "()Z" } : Jvm.MethodName) ({ cls := "PaceStore$Sheet", name := "isMissing", desc := "()Z" } : Jvm.MethodName)) ∈ z_U := z_U_2 (i := 208) rfl rfl
theorem u_536 : (Jvm.Cond.code ({ cls := "PaceStore$Sheet", name := "isMissing", desc := "()Z" } : Jvm.MethodName) prog_9_method_2_code (1 : Nat) (Option.some Jvm.ClassFile.FieldType.boolean)) ∈ z_U := z_U_2 (i := 209) rfl rfl
theorem u_537 : (Jvm.Cond.methodLink "PaceStore" (105 : Nat) ({ cls := "PaceStore$Sheet", name := "reaches", desc := "(II)Z" } : Jvm.MethodName)) ∈ z_U := z_U_2 (i := 210) rfl rfl
theorem u_538 : (Jvm.Cond.instanceMethod ({ cls := "PaceStore$Sheet", name := "reaches", desc := "(II)Z" } : Jvm.MethodName)) ∈ z_U := z_U_2 (i := 211) rfl rfl
theorem u_539 : (Jvm.Cond.selects "PaceStore$Sheet" ({ cls := "PaceStore$Sheet", name := "reaches", desc := "(II)Z" } : Jvm.MethodName) ({ cls := "PaceStore$Sheet", name := "reaches", desc := "(II)Z" } : Jvm.MethodName)) ∈ z_U := z_U_2 (i := 212) rfl rfl
theorem u_540 : (Jvm.Cond.code ({ cls := "PaceStore$Sheet", name := "reaches", desc := "(II)Z" } : Jvm.MethodName) prog_9_method_5_code (3 : Nat) (Option.some Jvm.ClassFile.FieldType.boolean)) ∈ z_U := z_U_2 (i := 213) rfl rfl
theorem u_541 : (Jvm.Cond.methodLink "PaceStore" (93 : Nat) ({ cls := "PaceStore$Sheet", name := "put", desc := "(II)I" } : Jvm.MethodName)) ∈ z_U := z_U_2 (i := 214) rfl rfl
theorem u_542 : (Jvm.Cond.instanceMethod ({ cls := "PaceStore$Sheet", name := "put", desc := "(II)I" } : Jvm.MethodName)) ∈ z_U := z_U_2 (i := 215) rfl rfl
theorem u_543 : (Jvm.Cond.selects "PaceStore$Sheet" ({ cls := "PaceStore$Sheet", name := "put", desc := "(II)I" } : Jvm.MethodName) ({ cls := "PaceStore$Sheet", name := "put", desc := "(II)I" } : Jvm.MethodName)) ∈ z_U := z_U_2 (i := 216) rfl rfl
theorem u_544 : (Jvm.Cond.code ({ cls := "PaceStore$Sheet", name := "put", desc := "(II)I" } : Jvm.MethodName) prog_9_method_7_code (4 : Nat) (Option.some Jvm.ClassFile.FieldType.int)) ∈ z_U := z_U_2 (i := 217) rfl rfl
theorem u_546 : (Jvm.Cond.methodLink "PaceStoreLaw" (22 : Nat) ({ cls := "PaceStore", name := "copy", desc := "(IIIII)I" } : Jvm.MethodName)) ∈ z_U := z_U_2 (i := 219) rfl rfl
theorem u_547 : (Jvm.Cond.instanceMethod ({ cls := "PaceStore", name := "copy", desc := "(IIIII)I" } : Jvm.MethodName)) ∈ z_U := z_U_2 (i := 220) rfl rfl
theorem u_548 : (Jvm.Cond.selects "PaceStore" ({ cls := "PaceStore", name := "copy", desc := "(IIIII)I" } : Jvm.MethodName) ({ cls := "PaceStore", name := "copy", desc := "(IIIII)I" } : Jvm.MethodName)) ∈ z_U := z_U_2 (i := 221) rfl rfl
theorem u_549 : (Jvm.Cond.code ({ cls := "PaceStore", name := "copy", desc := "(IIIII)I" } : Jvm.MethodName) prog_1_method_4_code (8 : Nat) (Option.some Jvm.ClassFile.FieldType.int)) ∈ z_U := z_U_2 (i := 222) rfl rfl
theorem u_550 : (Jvm.Cond.methodLink "PaceStore" (113 : Nat) ({ cls := "java/lang/System", name := "arraycopy", desc := "(Ljava/lang/Object;ILjava/lang/Object;II)V" } : Jvm.MethodName)) ∈ z_U := z_U_2 (i := 223) rfl rfl
theorem u_551 : (Jvm.Cond.static ({ cls := "java/lang/System", name := "arraycopy", desc := "(Ljava/lang/Object;ILjava/lang/Object;II)V" } : Jvm.MethodName)) ∈ z_U := z_U_2 (i := 224) rfl rfl
theorem u_552 : (Jvm.Cond.native ({ cls := "java/lang/System", name := "arraycopy", desc := "(Ljava/lang/Object;ILjava/lang/Object;II)V" } : Jvm.MethodName)) ∈ z_U := z_U_2 (i := 225) rfl rfl
theorem u_553 : (Jvm.Cond.methodLink "PaceStoreLaw" (27 : Nat) ({ cls := "PaceStore", name := "drop", desc := "(I)I" } : Jvm.MethodName)) ∈ z_U := z_U_2 (i := 226) rfl rfl
theorem u_554 : (Jvm.Cond.instanceMethod ({ cls := "PaceStore", name := "drop", desc := "(I)I" } : Jvm.MethodName)) ∈ z_U := z_U_2 (i := 227) rfl rfl
theorem u_555 : (Jvm.Cond.selects "PaceStore" ({ cls := "PaceStore", name := "drop", desc := "(I)I" } : Jvm.MethodName) ({ cls := "PaceStore", name := "drop", desc := "(I)I" } : Jvm.MethodName)) ∈ z_U := z_U_2 (i := 228) rfl rfl
theorem u_556 : (Jvm.Cond.code ({ cls := "PaceStore", name := "drop", desc := "(I)I" } : Jvm.MethodName) prog_1_method_5_code (3 : Nat) (Option.some Jvm.ClassFile.FieldType.int)) ∈ z_U := z_U_2 (i := 229) rfl rfl
theorem u_557 : (Jvm.Cond.methodLink "PaceStore" (122 : Nat) ({ cls := "PaceStore$Sheet", name := "end", desc := "()V" } : Jvm.MethodName)) ∈ z_U := z_U_2 (i := 230) rfl rfl
theorem u_558 : (Jvm.Cond.instanceMethod ({ cls := "PaceStore$Sheet", name := "end", desc := "()V" } : Jvm.MethodName)) ∈ z_U := z_U_2 (i := 231) rfl rfl
theorem u_559 : (Jvm.Cond.selects "PaceStore$Sheet" ({ cls := "PaceStore$Sheet", name := "end", desc := "()V" } : Jvm.MethodName) ({ cls := "PaceStore$Sheet", name := "end", desc := "()V" } : Jvm.MethodName)) ∈ z_U := z_U_2 (i := 232) rfl rfl
theorem u_560 : (Jvm.Cond.code ({ cls := "PaceStore$Sheet", name := "end", desc := "()V" } : Jvm.MethodName) prog_9_method_4_code (1 : Nat) (Option.none : Option Jvm.ClassFile.FieldType)) ∈ z_U := z_U_2 (i := 233) rfl rfl
theorem u_561 : (Jvm.Cond.methodLink "PaceStoreLaw" (34 : Nat) ({ cls := "PaceStore", name := "feed", desc := "(JI)I" } : Jvm.MethodName)) ∈ z_U := z_U_2 (i := 234) rfl rfl
theorem u_562 : (Jvm.Cond.instanceMethod ({ cls := "PaceStore", name := "feed", desc := "(JI)I" } : Jvm.MethodName)) ∈ z_U := z_U_2 (i := 235) rfl rfl
theorem u_563 : (Jvm.Cond.selects "PaceStore" ({ cls := "PaceStore", name := "feed", desc := "(JI)I" } : Jvm.MethodName) ({ cls := "PaceStore", name := "feed", desc := "(JI)I" } : Jvm.MethodName)) ∈ z_U := z_U_2 (i := 236) rfl rfl
theorem u_564 : (Jvm.Cond.code ({ cls := "PaceStore", name := "feed", desc := "(JI)I" } : Jvm.MethodName) prog_1_method_6_code (4 : Nat) (Option.some Jvm.ClassFile.FieldType.int)) ∈ z_U := z_U_2 (i := 237) rfl rfl
theorem u_565 : (Jvm.Cond.methodLink "PaceStore" (125 : Nat) ({ cls := "PaceStore$Reader", name := "takes", desc := "(JI)Z" } : Jvm.MethodName)) ∈ z_U := z_U_2 (i := 238) rfl rfl
theorem u_566 : (Jvm.Cond.instanceMethod ({ cls := "PaceStore$Reader", name := "takes", desc := "(JI)Z" } : Jvm.MethodName)) ∈ z_U := z_U_2 (i := 239) rfl rfl
theorem u_567 : (Jvm.Cond.selects "PaceStore$Reader" ({ cls := "PaceStore$Reader", name := "takes", desc := "(JI)Z" } : Jvm.MethodName) ({ cls := "PaceStore$Reader", name := "takes", desc := "(JI)Z" } : Jvm.MethodName)) ∈ z_U := z_U_3 (i := 0) rfl rfl
theorem u_568 : (Jvm.Cond.code ({ cls := "PaceStore$Reader", name := "takes", desc := "(JI)Z" } : Jvm.MethodName) prog_7_method_2_code (5 : Nat) (Option.some Jvm.ClassFile.FieldType.boolean)) ∈ z_U := z_U_3 (i := 1) rfl rfl
theorem u_569 : (Jvm.Cond.constant "PaceStore" (132 : Nat) (-1000003 : Int32)) ∈ z_U := z_U_3 (i := 2) rfl rfl
theorem u_570 : (Jvm.Cond.methodLink "PaceStoreLaw" (39 : Nat) ({ cls := "PaceStore", name := "course", desc := "()I" } : Jvm.MethodName)) ∈ z_U := z_U_3 (i := 3) rfl rfl
theorem u_571 : (Jvm.Cond.instanceMethod ({ cls := "PaceStore", name := "course", desc := "()I" } : Jvm.MethodName)) ∈ z_U := z_U_3 (i := 4) rfl rfl
theorem u_572 : (Jvm.Cond.selects "PaceStore" ({ cls := "PaceStore", name := "course", desc := "()I" } : Jvm.MethodName) ({ cls := "PaceStore", name := "course", desc := "()I" } : Jvm.MethodName)) ∈ z_U := z_U_3 (i := 5) rfl rfl
theorem u_573 : (Jvm.Cond.code ({ cls := "PaceStore", name := "course", desc := "()I" } : Jvm.MethodName) prog_1_method_7_code (2 : Nat) (Option.some Jvm.ClassFile.FieldType.int)) ∈ z_U := z_U_3 (i := 6) rfl rfl
theorem u_574 : (Jvm.Cond.methodLink "PaceStore" (133 : Nat) ({ cls := "PaceStore$Reader", name := "readsAll", desc := "()Z" } : Jvm.MethodName)) ∈ z_U := z_U_3 (i := 7) rfl rfl
theorem u_575 : (Jvm.Cond.instanceMethod ({ cls := "PaceStore$Reader", name := "readsAll", desc := "()Z" } : Jvm.MethodName)) ∈ z_U := z_U_3 (i := 8) rfl rfl
theorem u_576 : (Jvm.Cond.selects "PaceStore$Reader" ({ cls := "PaceStore$Reader", name := "readsAll", desc := "()Z" } : Jvm.MethodName) ({ cls := "PaceStore$Reader", name := "readsAll", desc := "()Z" } : Jvm.MethodName)) ∈ z_U := z_U_3 (i := 9) rfl rfl
theorem u_577 : (Jvm.Cond.code ({ cls := "PaceStore$Reader", name := "readsAll", desc := "()Z" } : Jvm.MethodName) prog_7_method_3_code (3 : Nat) (Option.some Jvm.ClassFile.FieldType.boolean)) ∈ z_U := z_U_3 (i := 10) rfl rfl
theorem u_578 : (Jvm.Cond.methodLink "PaceStore$Reader" (26 : Nat) ({ cls := "PaceStore$Course", name := "clear", desc := "()V" } : Jvm.MethodName)) ∈ z_U := z_U_3 (i := 11) rfl rfl
theorem u_579 : (Jvm.Cond.instanceMethod ({ cls := "PaceStore$Course", name := "clear", desc := "()V" } : Jvm.MethodName)) ∈ z_U := z_U_3 (i := 12) rfl rfl
theorem u_580 : (Jvm.Cond.selects "PaceStore$Course" ({ cls := "PaceStore$Course", name := "clear", desc := "()V" } : Jvm.MethodName) ({ cls := "PaceStore$Course", name := "clear", desc := "()V" } : Jvm.MethodName)) ∈ z_U := z_U_3 (i := 13) rfl rfl
theorem u_581 : (Jvm.Cond.code ({ cls := "PaceStore$Course", name := "clear", desc := "()V" } : Jvm.MethodName) prog_4_method_2_code (1 : Nat) (Option.none : Option Jvm.ClassFile.FieldType)) ∈ z_U := z_U_3 (i := 14) rfl rfl
theorem u_582 : (Jvm.Cond.methodLink "PaceStore$Course" (64 : Nat) ({ cls := "java/util/Arrays", name := "fill", desc := "([II)V" } : Jvm.MethodName)) ∈ z_U := z_U_3 (i := 15) rfl rfl
theorem u_583 : (Jvm.Cond.methodLink "PaceStore$Reader" (32 : Nat) ({ cls := "PaceStore$Reader", name := "next", desc := "()V" } : Jvm.MethodName)) ∈ z_U := z_U_3 (i := 16) rfl rfl
theorem u_585 : (Jvm.Cond.instanceMethod ({ cls := "PaceStore$Reader", name := "next", desc := "()V" } : Jvm.MethodName)) ∈ z_U := z_U_3 (i := 18) rfl rfl
theorem u_586 : (Jvm.Cond.code ({ cls := "PaceStore$Reader", name := "next", desc := "()V" } : Jvm.MethodName) prog_7_method_12_code (2 : Nat) (Option.none : Option Jvm.ClassFile.FieldType)) ∈ z_U := z_U_3 (i := 19) rfl rfl
theorem u_587 : (Jvm.Cond.methodLink "PaceStore$Reader" (165 : Nat) ({ cls := "PaceStore$Reader", name := "byteAt", desc := "(I)I" } : Jvm.MethodName)) ∈ z_U := z_U_3 (i := 20) rfl rfl
theorem u_589 : (Jvm.Cond.instanceMethod ({ cls := "PaceStore$Reader", name := "byteAt", desc := "(I)I" } : Jvm.MethodName)) ∈ z_U := z_U_3 (i := 22) rfl rfl
theorem u_590 : (Jvm.Cond.code ({ cls := "PaceStore$Reader", name := "byteAt", desc := "(I)I" } : Jvm.MethodName) prog_7_method_15_code (2 : Nat) (Option.some Jvm.ClassFile.FieldType.int)) ∈ z_U := z_U_3 (i := 23) rfl rfl
theorem u_591 : (Jvm.Cond.methodLink "PaceStore$Reader" (173 : Nat) ({ cls := "PaceStore$Reader", name := "isBlank", desc := "(I)Z" } : Jvm.MethodName)) ∈ z_U := z_U_3 (i := 24) rfl rfl
theorem u_592 : (Jvm.Cond.static ({ cls := "PaceStore$Reader", name := "isBlank", desc := "(I)Z" } : Jvm.MethodName)) ∈ z_U := z_U_3 (i := 25) rfl rfl
theorem u_593 : (Jvm.Cond.code ({ cls := "PaceStore$Reader", name := "isBlank", desc := "(I)Z" } : Jvm.MethodName) prog_7_method_16_code (1 : Nat) (Option.some Jvm.ClassFile.FieldType.boolean)) ∈ z_U := z_U_3 (i := 26) rfl rfl
theorem u_594 : (Jvm.Cond.methodLink "PaceStore$Reader" (176 : Nat) ({ cls := "PaceStore$Reader", name := "isLetter", desc := "(I)Z" } : Jvm.MethodName)) ∈ z_U := z_U_3 (i := 27) rfl rfl
theorem u_595 : (Jvm.Cond.static ({ cls := "PaceStore$Reader", name := "isLetter", desc := "(I)Z" } : Jvm.MethodName)) ∈ z_U := z_U_3 (i := 28) rfl rfl
theorem u_596 : (Jvm.Cond.code ({ cls := "PaceStore$Reader", name := "isLetter", desc := "(I)Z" } : Jvm.MethodName) prog_7_method_17_code (1 : Nat) (Option.some Jvm.ClassFile.FieldType.boolean)) ∈ z_U := z_U_3 (i := 29) rfl rfl
theorem u_597 : (Jvm.Cond.methodLink "PaceStore$Reader" (179 : Nat) ({ cls := "PaceStore$Reader", name := "takeName", desc := "()V" } : Jvm.MethodName)) ∈ z_U := z_U_3 (i := 30) rfl rfl
theorem u_599 : (Jvm.Cond.instanceMethod ({ cls := "PaceStore$Reader", name := "takeName", desc := "()V" } : Jvm.MethodName)) ∈ z_U := z_U_3 (i := 32) rfl rfl
theorem u_600 : (Jvm.Cond.code ({ cls := "PaceStore$Reader", name := "takeName", desc := "()V" } : Jvm.MethodName) prog_7_method_13_code (1 : Nat) (Option.none : Option Jvm.ClassFile.FieldType)) ∈ z_U := z_U_3 (i := 33) rfl rfl
theorem u_601 : (Jvm.Cond.methodLink "PaceStore$Reader" (182 : Nat) ({ cls := "PaceStore$Reader", name := "isFigure", desc := "(I)Z" } : Jvm.MethodName)) ∈ z_U := z_U_3 (i := 34) rfl rfl
theorem u_602 : (Jvm.Cond.static ({ cls := "PaceStore$Reader", name := "isFigure", desc := "(I)Z" } : Jvm.MethodName)) ∈ z_U := z_U_3 (i := 35) rfl rfl
theorem u_603 : (Jvm.Cond.code ({ cls := "PaceStore$Reader", name := "isFigure", desc := "(I)Z" } : Jvm.MethodName) prog_7_method_18_code (1 : Nat) (Option.some Jvm.ClassFile.FieldType.boolean)) ∈ z_U := z_U_3 (i := 36) rfl rfl
theorem u_604 : (Jvm.Cond.methodLink "PaceStore$Reader" (185 : Nat) ({ cls := "PaceStore$Reader", name := "takeNumber", desc := "(Z)V" } : Jvm.MethodName)) ∈ z_U := z_U_3 (i := 37) rfl rfl
theorem u_606 : (Jvm.Cond.instanceMethod ({ cls := "PaceStore$Reader", name := "takeNumber", desc := "(Z)V" } : Jvm.MethodName)) ∈ z_U := z_U_3 (i := 39) rfl rfl
theorem u_607 : (Jvm.Cond.code ({ cls := "PaceStore$Reader", name := "takeNumber", desc := "(Z)V" } : Jvm.MethodName) prog_7_method_14_code (4 : Nat) (Option.none : Option Jvm.ClassFile.FieldType)) ∈ z_U := z_U_3 (i := 40) rfl rfl
theorem u_609 : (Jvm.Cond.methodLink "PaceStore$Reader" (35 : Nat) ({ cls := "PaceStore$Reader", name := "readsMile", desc := "()Z" } : Jvm.MethodName)) ∈ z_U := z_U_3 (i := 42) rfl rfl
theorem u_611 : (Jvm.Cond.instanceMethod ({ cls := "PaceStore$Reader", name := "readsMile", desc := "()Z" } : Jvm.MethodName)) ∈ z_U := z_U_3 (i := 44) rfl rfl
theorem u_612 : (Jvm.Cond.code ({ cls := "PaceStore$Reader", name := "readsMile", desc := "()Z" } : Jvm.MethodName) prog_7_method_4_code (2 : Nat) (Option.some Jvm.ClassFile.FieldType.boolean)) ∈ z_U := z_U_3 (i := 45) rfl rfl
theorem u_614 : (Jvm.Cond.methodLink "PaceStore$Reader" (41 : Nat) ({ cls := "PaceStore$Reader", name := "isWord", desc := "(Ljava/lang/String;)Z" } : Jvm.MethodName)) ∈ z_U := z_U_3 (i := 47) rfl rfl
theorem u_616 : (Jvm.Cond.instanceMethod ({ cls := "PaceStore$Reader", name := "isWord", desc := "(Ljava/lang/String;)Z" } : Jvm.MethodName)) ∈ z_U := z_U_3 (i := 49) rfl rfl
theorem u_617 : (Jvm.Cond.code ({ cls := "PaceStore$Reader", name := "isWord", desc := "(Ljava/lang/String;)Z" } : Jvm.MethodName) prog_7_method_11_code (3 : Nat) (Option.some Jvm.ClassFile.FieldType.boolean)) ∈ z_U := z_U_3 (i := 50) rfl rfl
theorem u_618 : (Jvm.Cond.methodLink "PaceStore$Reader" (160 : Nat) ({ cls := "java/lang/String", name := "length", desc := "()I" } : Jvm.MethodName)) ∈ z_U := z_U_3 (i := 51) rfl rfl
theorem u_621 : (Jvm.Cond.code ({ cls := "java/lang/String", name := "length", desc := "()I" } : Jvm.MethodName) prog_15_method_54_code (1 : Nat) (Option.some Jvm.ClassFile.FieldType.int)) ∈ z_U := z_U_3 (i := 54) rfl rfl
theorem u_628 : (Jvm.Cond.methodLink "PaceStore$Reader" (169 : Nat) ({ cls := "java/lang/String", name := "charAt", desc := "(I)C" } : Jvm.MethodName)) ∈ z_U := z_U_3 (i := 61) rfl rfl
theorem u_631 : (Jvm.Cond.code ({ cls := "java/lang/String", name := "charAt", desc := "(I)C" } : Jvm.MethodName) prog_15_method_56_code (2 : Nat) (Option.some Jvm.ClassFile.FieldType.char)) ∈ z_U := z_U_3 (i := 64) rfl rfl
theorem u_666 : (Jvm.Cond.methodLink "PaceStore$Reader" (67 : Nat) ({ cls := "PaceStore$Reader", name := "fails", desc := "(I)Z" } : Jvm.MethodName)) ∈ z_U := z_U_3 (i := 99) rfl rfl
theorem u_668 : (Jvm.Cond.instanceMethod ({ cls := "PaceStore$Reader", name := "fails", desc := "(I)Z" } : Jvm.MethodName)) ∈ z_U := z_U_3 (i := 101) rfl rfl
theorem u_669 : (Jvm.Cond.code ({ cls := "PaceStore$Reader", name := "fails", desc := "(I)Z" } : Jvm.MethodName) prog_7_method_10_code (2 : Nat) (Option.some Jvm.ClassFile.FieldType.boolean)) ∈ z_U := z_U_3 (i := 102) rfl rfl
theorem u_670 : (Jvm.Cond.methodLink "PaceStore$Reader" (77 : Nat) ({ cls := "PaceStore$Reader", name := "readsNumber", desc := "(II)Z" } : Jvm.MethodName)) ∈ z_U := z_U_3 (i := 103) rfl rfl
theorem u_672 : (Jvm.Cond.instanceMethod ({ cls := "PaceStore$Reader", name := "readsNumber", desc := "(II)Z" } : Jvm.MethodName)) ∈ z_U := z_U_3 (i := 105) rfl rfl
theorem u_673 : (Jvm.Cond.code ({ cls := "PaceStore$Reader", name := "readsNumber", desc := "(II)Z" } : Jvm.MethodName) prog_7_method_8_code (3 : Nat) (Option.some Jvm.ClassFile.FieldType.boolean)) ∈ z_U := z_U_3 (i := 106) rfl rfl
theorem u_674 : (Jvm.Cond.methodLink "PaceStore$Reader" (94 : Nat) ({ cls := "PaceStore$Reader", name := "readsSemicolon", desc := "()Z" } : Jvm.MethodName)) ∈ z_U := z_U_3 (i := 107) rfl rfl
theorem u_676 : (Jvm.Cond.instanceMethod ({ cls := "PaceStore$Reader", name := "readsSemicolon", desc := "()Z" } : Jvm.MethodName)) ∈ z_U := z_U_3 (i := 109) rfl rfl
theorem u_677 : (Jvm.Cond.code ({ cls := "PaceStore$Reader", name := "readsSemicolon", desc := "()Z" } : Jvm.MethodName) prog_7_method_9_code (1 : Nat) (Option.some Jvm.ClassFile.FieldType.boolean)) ∈ z_U := z_U_3 (i := 110) rfl rfl
theorem u_678 : (Jvm.Cond.methodLink "PaceStore$Reader" (45 : Nat) ({ cls := "PaceStore$Reader", name := "readsRunner", desc := "()Z" } : Jvm.MethodName)) ∈ z_U := z_U_3 (i := 111) rfl rfl
theorem u_680 : (Jvm.Cond.instanceMethod ({ cls := "PaceStore$Reader", name := "readsRunner", desc := "()Z" } : Jvm.MethodName)) ∈ z_U := z_U_3 (i := 113) rfl rfl
theorem u_681 : (Jvm.Cond.code ({ cls := "PaceStore$Reader", name := "readsRunner", desc := "()Z" } : Jvm.MethodName) prog_7_method_5_code (2 : Nat) (Option.some Jvm.ClassFile.FieldType.boolean)) ∈ z_U := z_U_3 (i := 114) rfl rfl
theorem u_684 : (Jvm.Cond.methodLink "PaceStore$Reader" (55 : Nat) ({ cls := "PaceStore$Reader", name := "readsRule", desc := "(I)Z" } : Jvm.MethodName)) ∈ z_U := z_U_3 (i := 117) rfl rfl
theorem u_686 : (Jvm.Cond.instanceMethod ({ cls := "PaceStore$Reader", name := "readsRule", desc := "(I)Z" } : Jvm.MethodName)) ∈ z_U := z_U_3 (i := 119) rfl rfl
theorem u_687 : (Jvm.Cond.code ({ cls := "PaceStore$Reader", name := "readsRule", desc := "(I)Z" } : Jvm.MethodName) prog_7_method_6_code (5 : Nat) (Option.some Jvm.ClassFile.FieldType.boolean)) ∈ z_U := z_U_3 (i := 120) rfl rfl
theorem u_688 : (Jvm.Cond.methodLink "PaceStore$Reader" (106 : Nat) ({ cls := "PaceStore$Course", name := "hasRunner", desc := "(I)Z" } : Jvm.MethodName)) ∈ z_U := z_U_3 (i := 121) rfl rfl
theorem u_689 : (Jvm.Cond.instanceMethod ({ cls := "PaceStore$Course", name := "hasRunner", desc := "(I)Z" } : Jvm.MethodName)) ∈ z_U := z_U_3 (i := 122) rfl rfl
theorem u_690 : (Jvm.Cond.selects "PaceStore$Course" ({ cls := "PaceStore$Course", name := "hasRunner", desc := "(I)Z" } : Jvm.MethodName) ({ cls := "PaceStore$Course", name := "hasRunner", desc := "(I)Z" } : Jvm.MethodName)) ∈ z_U := z_U_3 (i := 123) rfl rfl
theorem u_691 : (Jvm.Cond.code ({ cls := "PaceStore$Course", name := "hasRunner", desc := "(I)Z" } : Jvm.MethodName) prog_4_method_5_code (2 : Nat) (Option.some Jvm.ClassFile.FieldType.boolean)) ∈ z_U := z_U_3 (i := 124) rfl rfl
theorem u_700 : (Jvm.Cond.methodLink "PaceStore$Reader" (61 : Nat) ({ cls := "PaceStore$Reader", name := "readsRabbit", desc := "()Z" } : Jvm.MethodName)) ∈ z_U := z_U_3 (i := 133) rfl rfl
theorem u_702 : (Jvm.Cond.instanceMethod ({ cls := "PaceStore$Reader", name := "readsRabbit", desc := "()Z" } : Jvm.MethodName)) ∈ z_U := z_U_3 (i := 135) rfl rfl
theorem u_703 : (Jvm.Cond.code ({ cls := "PaceStore$Reader", name := "readsRabbit", desc := "()Z" } : Jvm.MethodName) prog_7_method_7_code (2 : Nat) (Option.some Jvm.ClassFile.FieldType.boolean)) ∈ z_U := z_U_3 (i := 136) rfl rfl
theorem u_704 : (Jvm.Cond.constant "PaceStore" (136 : Nat) (-1000100 : Int32)) ∈ z_U := z_U_3 (i := 137) rfl rfl
theorem u_705 : (Jvm.Cond.methodLink "PaceStore" (143 : Nat) ({ cls := "PaceStore$Course", name := "become", desc := "(LPaceStore$Course;)V" } : Jvm.MethodName)) ∈ z_U := z_U_3 (i := 138) rfl rfl
theorem u_706 : (Jvm.Cond.instanceMethod ({ cls := "PaceStore$Course", name := "become", desc := "(LPaceStore$Course;)V" } : Jvm.MethodName)) ∈ z_U := z_U_3 (i := 139) rfl rfl
theorem u_707 : (Jvm.Cond.selects "PaceStore$Course" ({ cls := "PaceStore$Course", name := "become", desc := "(LPaceStore$Course;)V" } : Jvm.MethodName) ({ cls := "PaceStore$Course", name := "become", desc := "(LPaceStore$Course;)V" } : Jvm.MethodName)) ∈ z_U := z_U_3 (i := 140) rfl rfl
theorem u_708 : (Jvm.Cond.code ({ cls := "PaceStore$Course", name := "become", desc := "(LPaceStore$Course;)V" } : Jvm.MethodName) prog_4_method_3_code (2 : Nat) (Option.none : Option Jvm.ClassFile.FieldType)) ∈ z_U := z_U_3 (i := 141) rfl rfl
theorem u_709 : (Jvm.Cond.methodLink "PaceStore$Course" (74 : Nat) ({ cls := "java/lang/System", name := "arraycopy", desc := "(Ljava/lang/Object;ILjava/lang/Object;II)V" } : Jvm.MethodName)) ∈ z_U := z_U_3 (i := 142) rfl rfl
theorem u_710 : (Jvm.Cond.methodLink "PaceStoreLaw" (44 : Nat) ({ cls := "PaceStore", name := "fault", desc := "()I" } : Jvm.MethodName)) ∈ z_U := z_U_3 (i := 143) rfl rfl
theorem u_711 : (Jvm.Cond.instanceMethod ({ cls := "PaceStore", name := "fault", desc := "()I" } : Jvm.MethodName)) ∈ z_U := z_U_3 (i := 144) rfl rfl
theorem u_712 : (Jvm.Cond.selects "PaceStore" ({ cls := "PaceStore", name := "fault", desc := "()I" } : Jvm.MethodName) ({ cls := "PaceStore", name := "fault", desc := "()I" } : Jvm.MethodName)) ∈ z_U := z_U_3 (i := 145) rfl rfl
theorem u_713 : (Jvm.Cond.code ({ cls := "PaceStore", name := "fault", desc := "()I" } : Jvm.MethodName) prog_1_method_8_code (1 : Nat) (Option.some Jvm.ClassFile.FieldType.int)) ∈ z_U := z_U_3 (i := 146) rfl rfl
theorem u_714 : (Jvm.Cond.methodLink "PaceStoreLaw" (48 : Nat) ({ cls := "PaceStore", name := "need", desc := "(III)I" } : Jvm.MethodName)) ∈ z_U := z_U_3 (i := 147) rfl rfl
theorem u_715 : (Jvm.Cond.instanceMethod ({ cls := "PaceStore", name := "need", desc := "(III)I" } : Jvm.MethodName)) ∈ z_U := z_U_3 (i := 148) rfl rfl
theorem u_716 : (Jvm.Cond.selects "PaceStore" ({ cls := "PaceStore", name := "need", desc := "(III)I" } : Jvm.MethodName) ({ cls := "PaceStore", name := "need", desc := "(III)I" } : Jvm.MethodName)) ∈ z_U := z_U_3 (i := 149) rfl rfl
theorem u_717 : (Jvm.Cond.code ({ cls := "PaceStore", name := "need", desc := "(III)I" } : Jvm.MethodName) prog_1_method_9_code (4 : Nat) (Option.some Jvm.ClassFile.FieldType.int)) ∈ z_U := z_U_3 (i := 150) rfl rfl
theorem u_718 : (Jvm.Cond.methodLink "PaceStore" (157 : Nat) ({ cls := "PaceStore$Course", name := "hasMile", desc := "(I)Z" } : Jvm.MethodName)) ∈ z_U := z_U_3 (i := 151) rfl rfl
theorem u_719 : (Jvm.Cond.instanceMethod ({ cls := "PaceStore$Course", name := "hasMile", desc := "(I)Z" } : Jvm.MethodName)) ∈ z_U := z_U_3 (i := 152) rfl rfl
theorem u_720 : (Jvm.Cond.selects "PaceStore$Course" ({ cls := "PaceStore$Course", name := "hasMile", desc := "(I)Z" } : Jvm.MethodName) ({ cls := "PaceStore$Course", name := "hasMile", desc := "(I)Z" } : Jvm.MethodName)) ∈ z_U := z_U_3 (i := 153) rfl rfl
theorem u_721 : (Jvm.Cond.code ({ cls := "PaceStore$Course", name := "hasMile", desc := "(I)Z" } : Jvm.MethodName) prog_4_method_4_code (2 : Nat) (Option.some Jvm.ClassFile.FieldType.boolean)) ∈ z_U := z_U_3 (i := 154) rfl rfl
theorem u_722 : (Jvm.Cond.methodLink "PaceStore" (161 : Nat) ({ cls := "PaceStore", name := "isPace", desc := "(I)Z" } : Jvm.MethodName)) ∈ z_U := z_U_3 (i := 155) rfl rfl
theorem u_723 : (Jvm.Cond.static ({ cls := "PaceStore", name := "isPace", desc := "(I)Z" } : Jvm.MethodName)) ∈ z_U := z_U_3 (i := 156) rfl rfl
theorem u_724 : (Jvm.Cond.code ({ cls := "PaceStore", name := "isPace", desc := "(I)Z" } : Jvm.MethodName) prog_1_method_42_code (1 : Nat) (Option.some Jvm.ClassFile.FieldType.boolean)) ∈ z_U := z_U_3 (i := 157) rfl rfl
theorem u_725 : (Jvm.Cond.methodLink "PaceStore" (164 : Nat) ({ cls := "PaceStore$Course", name := "needOf", desc := "(IIZI)I" } : Jvm.MethodName)) ∈ z_U := z_U_3 (i := 158) rfl rfl
theorem u_726 : (Jvm.Cond.instanceMethod ({ cls := "PaceStore$Course", name := "needOf", desc := "(IIZI)I" } : Jvm.MethodName)) ∈ z_U := z_U_3 (i := 159) rfl rfl
theorem u_727 : (Jvm.Cond.selects "PaceStore$Course" ({ cls := "PaceStore$Course", name := "needOf", desc := "(IIZI)I" } : Jvm.MethodName) ({ cls := "PaceStore$Course", name := "needOf", desc := "(IIZI)I" } : Jvm.MethodName)) ∈ z_U := z_U_3 (i := 160) rfl rfl
theorem u_728 : (Jvm.Cond.code ({ cls := "PaceStore$Course", name := "needOf", desc := "(IIZI)I" } : Jvm.MethodName) prog_4_method_9_code (6 : Nat) (Option.some Jvm.ClassFile.FieldType.int)) ∈ z_U := z_U_3 (i := 161) rfl rfl
theorem u_729 : (Jvm.Cond.methodLink "PaceStoreLaw" (52 : Nat) ({ cls := "PaceStore", name := "race", desc := "(III)I" } : Jvm.MethodName)) ∈ z_U := z_U_3 (i := 162) rfl rfl
theorem u_730 : (Jvm.Cond.instanceMethod ({ cls := "PaceStore", name := "race", desc := "(III)I" } : Jvm.MethodName)) ∈ z_U := z_U_3 (i := 163) rfl rfl
theorem u_731 : (Jvm.Cond.selects "PaceStore" ({ cls := "PaceStore", name := "race", desc := "(III)I" } : Jvm.MethodName) ({ cls := "PaceStore", name := "race", desc := "(III)I" } : Jvm.MethodName)) ∈ z_U := z_U_3 (i := 164) rfl rfl
theorem u_732 : (Jvm.Cond.code ({ cls := "PaceStore", name := "race", desc := "(III)I" } : Jvm.MethodName) prog_1_method_10_code (5 : Nat) (Option.some Jvm.ClassFile.FieldType.int)) ∈ z_U := z_U_3 (i := 165) rfl rfl
theorem u_733 : (Jvm.Cond.constant "PaceStore" (168 : Nat) (999999 : Int32)) ∈ z_U := z_U_3 (i := 166) rfl rfl
theorem u_734 : (Jvm.Cond.constant "PaceStore" (170 : Nat) (-1000002 : Int32)) ∈ z_U := z_U_3 (i := 167) rfl rfl
theorem u_735 : (Jvm.Cond.methodLink "PaceStore" (174 : Nat) ({ cls := "PaceStore", name := "itemsWithin", desc := "(LPaceStore$Sheet;IIII)Z" } : Jvm.MethodName)) ∈ z_U := z_U_3 (i := 168) rfl rfl
theorem u_736 : (Jvm.Cond.static ({ cls := "PaceStore", name := "itemsWithin", desc := "(LPaceStore$Sheet;IIII)Z" } : Jvm.MethodName)) ∈ z_U := z_U_3 (i := 169) rfl rfl
theorem u_737 : (Jvm.Cond.code ({ cls := "PaceStore", name := "itemsWithin", desc := "(LPaceStore$Sheet;IIII)Z" } : Jvm.MethodName) prog_1_method_40_code (6 : Nat) (Option.some Jvm.ClassFile.FieldType.boolean)) ∈ z_U := z_U_3 (i := 170) rfl rfl
theorem u_738 : (Jvm.Cond.methodLink "PaceStore" (287 : Nat) ({ cls := "PaceStore$Sheet", name := "at", desc := "(I)I" } : Jvm.MethodName)) ∈ z_U := z_U_3 (i := 171) rfl rfl
theorem u_739 : (Jvm.Cond.instanceMethod ({ cls := "PaceStore$Sheet", name := "at", desc := "(I)I" } : Jvm.MethodName)) ∈ z_U := z_U_3 (i := 172) rfl rfl
theorem u_740 : (Jvm.Cond.selects "PaceStore$Sheet" ({ cls := "PaceStore$Sheet", name := "at", desc := "(I)I" } : Jvm.MethodName) ({ cls := "PaceStore$Sheet", name := "at", desc := "(I)I" } : Jvm.MethodName)) ∈ z_U := z_U_3 (i := 173) rfl rfl
theorem u_741 : (Jvm.Cond.code ({ cls := "PaceStore$Sheet", name := "at", desc := "(I)I" } : Jvm.MethodName) prog_9_method_6_code (2 : Nat) (Option.some Jvm.ClassFile.FieldType.int)) ∈ z_U := z_U_3 (i := 174) rfl rfl
theorem u_742 : (Jvm.Cond.methodLink "PaceStore" (178 : Nat) ({ cls := "PaceStore$Field", name := "runAll", desc := "(LPaceStore$Course;LPaceStore$Sheet;IILPaceStore$Results;)V" } : Jvm.MethodName)) ∈ z_U := z_U_3 (i := 175) rfl rfl
theorem u_743 : (Jvm.Cond.instanceMethod ({ cls := "PaceStore$Field", name := "runAll", desc := "(LPaceStore$Course;LPaceStore$Sheet;IILPaceStore$Results;)V" } : Jvm.MethodName)) ∈ z_U := z_U_3 (i := 176) rfl rfl
theorem u_744 : (Jvm.Cond.selects "PaceStore$Field" ({ cls := "PaceStore$Field", name := "runAll", desc := "(LPaceStore$Course;LPaceStore$Sheet;IILPaceStore$Results;)V" } : Jvm.MethodName) ({ cls := "PaceStore$Field", name := "runAll", desc := "(LPaceStore$Course;LPaceStore$Sheet;IILPaceStore$Results;)V" } : Jvm.MethodName)) ∈ z_U := z_U_3 (i := 177) rfl rfl
theorem u_745 : (Jvm.Cond.code ({ cls := "PaceStore$Field", name := "runAll", desc := "(LPaceStore$Course;LPaceStore$Sheet;IILPaceStore$Results;)V" } : Jvm.MethodName) prog_5_method_2_code (8 : Nat) (Option.none : Option Jvm.ClassFile.FieldType)) ∈ z_U := z_U_3 (i := 178) rfl rfl
theorem u_746 : (Jvm.Cond.methodLink "PaceStore$Field" (31 : Nat) ({ cls := "PaceStore$Sheet", name := "at", desc := "(I)I" } : Jvm.MethodName)) ∈ z_U := z_U_3 (i := 179) rfl rfl
theorem u_747 : (Jvm.Cond.methodLink "PaceStore$Field" (37 : Nat) ({ cls := "PaceStore$Body", name := "start", desc := "(LPaceStore$Course;II)V" } : Jvm.MethodName)) ∈ z_U := z_U_3 (i := 180) rfl rfl
theorem u_748 : (Jvm.Cond.instanceMethod ({ cls := "PaceStore$Body", name := "start", desc := "(LPaceStore$Course;II)V" } : Jvm.MethodName)) ∈ z_U := z_U_3 (i := 181) rfl rfl
theorem u_749 : (Jvm.Cond.selects "PaceStore$Body" ({ cls := "PaceStore$Body", name := "start", desc := "(LPaceStore$Course;II)V" } : Jvm.MethodName) ({ cls := "PaceStore$Body", name := "start", desc := "(LPaceStore$Course;II)V" } : Jvm.MethodName)) ∈ z_U := z_U_3 (i := 182) rfl rfl
theorem u_750 : (Jvm.Cond.code ({ cls := "PaceStore$Body", name := "start", desc := "(LPaceStore$Course;II)V" } : Jvm.MethodName) prog_3_method_2_code (4 : Nat) (Option.none : Option Jvm.ClassFile.FieldType)) ∈ z_U := z_U_3 (i := 183) rfl rfl
theorem u_751 : (Jvm.Cond.methodLink "PaceStore$Field" (44 : Nat) ({ cls := "PaceStore$Field", name := "feel", desc := "(LPaceStore$Course;I)V" } : Jvm.MethodName)) ∈ z_U := z_U_3 (i := 184) rfl rfl
theorem u_753 : (Jvm.Cond.instanceMethod ({ cls := "PaceStore$Field", name := "feel", desc := "(LPaceStore$Course;I)V" } : Jvm.MethodName)) ∈ z_U := z_U_3 (i := 186) rfl rfl
theorem u_754 : (Jvm.Cond.code ({ cls := "PaceStore$Field", name := "feel", desc := "(LPaceStore$Course;I)V" } : Jvm.MethodName) prog_5_method_3_code (5 : Nat) (Option.none : Option Jvm.ClassFile.FieldType)) ∈ z_U := z_U_3 (i := 187) rfl rfl
theorem u_755 : (Jvm.Cond.methodLink "PaceStore$Field" (61 : Nat) ({ cls := "PaceStore$Field", name := "leastTime", desc := "()I" } : Jvm.MethodName)) ∈ z_U := z_U_3 (i := 188) rfl rfl
theorem u_757 : (Jvm.Cond.instanceMethod ({ cls := "PaceStore$Field", name := "leastTime", desc := "()I" } : Jvm.MethodName)) ∈ z_U := z_U_3 (i := 190) rfl rfl
theorem u_758 : (Jvm.Cond.code ({ cls := "PaceStore$Field", name := "leastTime", desc := "()I" } : Jvm.MethodName) prog_5_method_4_code (3 : Nat) (Option.some Jvm.ClassFile.FieldType.int)) ∈ z_U := z_U_3 (i := 191) rfl rfl
theorem u_759 : (Jvm.Cond.constant "PaceStore$Field" (76 : Nat) (1000000000 : Int32)) ∈ z_U := z_U_3 (i := 192) rfl rfl
theorem u_760 : (Jvm.Cond.methodLink "PaceStore$Field" (80 : Nat) ({ cls := "java/lang/Math", name := "min", desc := "(II)I" } : Jvm.MethodName)) ∈ z_U := z_U_3 (i := 193) rfl rfl
theorem u_761 : (Jvm.Cond.static ({ cls := "java/lang/Math", name := "min", desc := "(II)I" } : Jvm.MethodName)) ∈ z_U := z_U_3 (i := 194) rfl rfl
theorem u_762 : (Jvm.Cond.code ({ cls := "java/lang/Math", name := "min", desc := "(II)I" } : Jvm.MethodName) prog_14_method_69_code (2 : Nat) (Option.some Jvm.ClassFile.FieldType.int)) ∈ z_U := z_U_3 (i := 195) rfl rfl
theorem u_763 : (Jvm.Cond.methodLink "PaceStore$Field" (65 : Nat) ({ cls := "PaceStore$Field", name := "stepByRules", desc := "(LPaceStore$Course;III)I" } : Jvm.MethodName)) ∈ z_U := z_U_3 (i := 196) rfl rfl
theorem u_765 : (Jvm.Cond.instanceMethod ({ cls := "PaceStore$Field", name := "stepByRules", desc := "(LPaceStore$Course;III)I" } : Jvm.MethodName)) ∈ z_U := z_U_3 (i := 198) rfl rfl
theorem u_766 : (Jvm.Cond.code ({ cls := "PaceStore$Field", name := "stepByRules", desc := "(LPaceStore$Course;III)I" } : Jvm.MethodName) prog_5_method_5_code (10 : Nat) (Option.some Jvm.ClassFile.FieldType.int)) ∈ z_U := z_U_3 (i := 199) rfl rfl
theorem u_767 : (Jvm.Cond.methodLink "PaceStore$Field" (69 : Nat) ({ cls := "PaceStore$Body", name := "changePace", desc := "(I)V" } : Jvm.MethodName)) ∈ z_U := z_U_3 (i := 200) rfl rfl
theorem u_768 : (Jvm.Cond.instanceMethod ({ cls := "PaceStore$Body", name := "changePace", desc := "(I)V" } : Jvm.MethodName)) ∈ z_U := z_U_3 (i := 201) rfl rfl
theorem u_769 : (Jvm.Cond.selects "PaceStore$Body" ({ cls := "PaceStore$Body", name := "changePace", desc := "(I)V" } : Jvm.MethodName) ({ cls := "PaceStore$Body", name := "changePace", desc := "(I)V" } : Jvm.MethodName)) ∈ z_U := z_U_3 (i := 202) rfl rfl
theorem u_770 : (Jvm.Cond.code ({ cls := "PaceStore$Body", name := "changePace", desc := "(I)V" } : Jvm.MethodName) prog_3_method_3_code (2 : Nat) (Option.none : Option Jvm.ClassFile.FieldType)) ∈ z_U := z_U_3 (i := 203) rfl rfl
theorem u_772 : (Jvm.Cond.static ({ cls := "PaceStore", name := "asPace", desc := "(I)I" } : Jvm.MethodName)) ∈ z_U := z_U_3 (i := 205) rfl rfl
theorem u_773 : (Jvm.Cond.code ({ cls := "PaceStore", name := "asPace", desc := "(I)I" } : Jvm.MethodName) prog_1_method_43_code (1 : Nat) (Option.some Jvm.ClassFile.FieldType.int)) ∈ z_U := z_U_3 (i := 206) rfl rfl
theorem u_774 : (Jvm.Cond.methodLink "PaceStore" (216 : Nat) ({ cls := "java/lang/Math", name := "min", desc := "(II)I" } : Jvm.MethodName)) ∈ z_U := z_U_3 (i := 207) rfl rfl
theorem u_775 : (Jvm.Cond.methodLink "PaceStore$Field" (73 : Nat) ({ cls := "PaceStore$Field", name := "stepBySlip", desc := "()I" } : Jvm.MethodName)) ∈ z_U := z_U_3 (i := 208) rfl rfl
theorem u_777 : (Jvm.Cond.instanceMethod ({ cls := "PaceStore$Field", name := "stepBySlip", desc := "()I" } : Jvm.MethodName)) ∈ z_U := z_U_3 (i := 210) rfl rfl
theorem u_778 : (Jvm.Cond.code ({ cls := "PaceStore$Field", name := "stepBySlip", desc := "()I" } : Jvm.MethodName) prog_5_method_6_code (3 : Nat) (Option.some Jvm.ClassFile.FieldType.int)) ∈ z_U := z_U_3 (i := 211) rfl rfl
theorem u_779 : (Jvm.Cond.constantLong "PaceStore$Field" (105 : Nat) (16807 : Int64)) ∈ z_U := z_U_3 (i := 212) rfl rfl
theorem u_780 : (Jvm.Cond.constantLong "PaceStore$Field" (107 : Nat) (2147483647 : Int64)) ∈ z_U := z_U_3 (i := 213) rfl rfl
theorem u_781 : (Jvm.Cond.constantLong "PaceStore$Field" (109 : Nat) (7 : Int64)) ∈ z_U := z_U_3 (i := 214) rfl rfl
theorem u_782 : (Jvm.Cond.methodLink "PaceStore$Field" (48 : Nat) ({ cls := "PaceStore$Field", name := "runMile", desc := "(LPaceStore$Course;I)V" } : Jvm.MethodName)) ∈ z_U := z_U_3 (i := 215) rfl rfl
theorem u_783 : (Jvm.Cond.instanceMethod ({ cls := "PaceStore$Field", name := "runMile", desc := "(LPaceStore$Course;I)V" } : Jvm.MethodName)) ∈ z_U := z_U_3 (i := 216) rfl rfl
theorem u_784 : (Jvm.Cond.selects "PaceStore$Field" ({ cls := "PaceStore$Field", name := "runMile", desc := "(LPaceStore$Course;I)V" } : Jvm.MethodName) ({ cls := "PaceStore$Field", name := "runMile", desc := "(LPaceStore$Course;I)V" } : Jvm.MethodName)) ∈ z_U := z_U_3 (i := 217) rfl rfl
theorem u_785 : (Jvm.Cond.code ({ cls := "PaceStore$Field", name := "runMile", desc := "(LPaceStore$Course;I)V" } : Jvm.MethodName) prog_5_method_7_code (4 : Nat) (Option.none : Option Jvm.ClassFile.FieldType)) ∈ z_U := z_U_3 (i := 218) rfl rfl
theorem u_786 : (Jvm.Cond.methodLink "PaceStore$Field" (111 : Nat) ({ cls := "PaceStore$Field", name := "isBehindSomeone", desc := "(I)Z" } : Jvm.MethodName)) ∈ z_U := z_U_3 (i := 219) rfl rfl
theorem u_788 : (Jvm.Cond.instanceMethod ({ cls := "PaceStore$Field", name := "isBehindSomeone", desc := "(I)Z" } : Jvm.MethodName)) ∈ z_U := z_U_3 (i := 221) rfl rfl
theorem u_789 : (Jvm.Cond.code ({ cls := "PaceStore$Field", name := "isBehindSomeone", desc := "(I)Z" } : Jvm.MethodName) prog_5_method_8_code (3 : Nat) (Option.some Jvm.ClassFile.FieldType.boolean)) ∈ z_U := z_U_3 (i := 222) rfl rfl
theorem u_790 : (Jvm.Cond.methodLink "PaceStore$Field" (122 : Nat) ({ cls := "PaceStore$Body", name := "isShelteredBy", desc := "(LPaceStore$Body;)Z" } : Jvm.MethodName)) ∈ z_U := z_U_3 (i := 223) rfl rfl
theorem u_791 : (Jvm.Cond.instanceMethod ({ cls := "PaceStore$Body", name := "isShelteredBy", desc := "(LPaceStore$Body;)Z" } : Jvm.MethodName)) ∈ z_U := z_U_3 (i := 224) rfl rfl
theorem u_792 : (Jvm.Cond.selects "PaceStore$Body" ({ cls := "PaceStore$Body", name := "isShelteredBy", desc := "(LPaceStore$Body;)Z" } : Jvm.MethodName) ({ cls := "PaceStore$Body", name := "isShelteredBy", desc := "(LPaceStore$Body;)Z" } : Jvm.MethodName)) ∈ z_U := z_U_3 (i := 225) rfl rfl
theorem u_793 : (Jvm.Cond.code ({ cls := "PaceStore$Body", name := "isShelteredBy", desc := "(LPaceStore$Body;)Z" } : Jvm.MethodName) prog_3_method_4_code (3 : Nat) (Option.some Jvm.ClassFile.FieldType.boolean)) ∈ z_U := z_U_3 (i := 226) rfl rfl
theorem u_794 : (Jvm.Cond.methodLink "PaceStore$Field" (119 : Nat) ({ cls := "PaceStore$Body", name := "run", desc := "(LPaceStore$Course;I)V" } : Jvm.MethodName)) ∈ z_U := z_U_3 (i := 227) rfl rfl
theorem u_795 : (Jvm.Cond.instanceMethod ({ cls := "PaceStore$Body", name := "run", desc := "(LPaceStore$Course;I)V" } : Jvm.MethodName)) ∈ z_U := z_U_3 (i := 228) rfl rfl
theorem u_796 : (Jvm.Cond.selects "PaceStore$Body" ({ cls := "PaceStore$Body", name := "run", desc := "(LPaceStore$Course;I)V" } : Jvm.MethodName) ({ cls := "PaceStore$Body", name := "run", desc := "(LPaceStore$Course;I)V" } : Jvm.MethodName)) ∈ z_U := z_U_3 (i := 229) rfl rfl
theorem u_797 : (Jvm.Cond.code ({ cls := "PaceStore$Body", name := "run", desc := "(LPaceStore$Course;I)V" } : Jvm.MethodName) prog_3_method_5_code (5 : Nat) (Option.none : Option Jvm.ClassFile.FieldType)) ∈ z_U := z_U_3 (i := 230) rfl rfl
theorem u_798 : (Jvm.Cond.methodLink "PaceStore$Body" (50 : Nat) ({ cls := "PaceStore$Course", name := "needOf", desc := "(IIZI)I" } : Jvm.MethodName)) ∈ z_U := z_U_3 (i := 231) rfl rfl
theorem u_800 : (Jvm.Cond.static ({ cls := "PaceStore", name := "changeBy", desc := "(III)I" } : Jvm.MethodName)) ∈ z_U := z_U_3 (i := 233) rfl rfl
theorem u_801 : (Jvm.Cond.code ({ cls := "PaceStore", name := "changeBy", desc := "(III)I" } : Jvm.MethodName) prog_1_method_45_code (4 : Nat) (Option.some Jvm.ClassFile.FieldType.int)) ∈ z_U := z_U_3 (i := 234) rfl rfl
theorem u_802 : (Jvm.Cond.methodLink "PaceStore$Body" (64 : Nat) ({ cls := "java/lang/Math", name := "min", desc := "(II)I" } : Jvm.MethodName)) ∈ z_U := z_U_3 (i := 235) rfl rfl
theorem u_803 : (Jvm.Cond.methodLink "PaceStore$Body" (70 : Nat) ({ cls := "java/lang/Math", name := "max", desc := "(II)I" } : Jvm.MethodName)) ∈ z_U := z_U_3 (i := 236) rfl rfl
theorem u_804 : (Jvm.Cond.methodLink "PaceStore$Body" (73 : Nat) ({ cls := "PaceStore$Course", name := "easyPace", desc := "(II)I" } : Jvm.MethodName)) ∈ z_U := z_U_3 (i := 237) rfl rfl
theorem u_805 : (Jvm.Cond.instanceMethod ({ cls := "PaceStore$Course", name := "easyPace", desc := "(II)I" } : Jvm.MethodName)) ∈ z_U := z_U_3 (i := 238) rfl rfl
theorem u_806 : (Jvm.Cond.selects "PaceStore$Course" ({ cls := "PaceStore$Course", name := "easyPace", desc := "(II)I" } : Jvm.MethodName) ({ cls := "PaceStore$Course", name := "easyPace", desc := "(II)I" } : Jvm.MethodName)) ∈ z_U := z_U_3 (i := 239) rfl rfl
theorem u_807 : (Jvm.Cond.code ({ cls := "PaceStore$Course", name := "easyPace", desc := "(II)I" } : Jvm.MethodName) prog_4_method_10_code (4 : Nat) (Option.some Jvm.ClassFile.FieldType.int)) ∈ z_U := z_U_4 (i := 0) rfl rfl
theorem u_808 : (Jvm.Cond.methodLink "PaceStore$Course" (84 : Nat) ({ cls := "PaceStore$Course", name := "needOf", desc := "(IIZI)I" } : Jvm.MethodName)) ∈ z_U := z_U_4 (i := 1) rfl rfl
theorem u_810 : (Jvm.Cond.methodLink "PaceStore$Field" (51 : Nat) ({ cls := "PaceStore$Results", name := "record", desc := "(LPaceStore$Body;II)V" } : Jvm.MethodName)) ∈ z_U := z_U_4 (i := 3) rfl rfl
theorem u_811 : (Jvm.Cond.instanceMethod ({ cls := "PaceStore$Results", name := "record", desc := "(LPaceStore$Body;II)V" } : Jvm.MethodName)) ∈ z_U := z_U_4 (i := 4) rfl rfl
theorem u_812 : (Jvm.Cond.selects "PaceStore$Results" ({ cls := "PaceStore$Results", name := "record", desc := "(LPaceStore$Body;II)V" } : Jvm.MethodName) ({ cls := "PaceStore$Results", name := "record", desc := "(LPaceStore$Body;II)V" } : Jvm.MethodName)) ∈ z_U := z_U_4 (i := 5) rfl rfl
theorem u_813 : (Jvm.Cond.code ({ cls := "PaceStore$Results", name := "record", desc := "(LPaceStore$Body;II)V" } : Jvm.MethodName) prog_8_method_3_code (5 : Nat) (Option.none : Option Jvm.ClassFile.FieldType)) ∈ z_U := z_U_4 (i := 6) rfl rfl
theorem u_814 : (Jvm.Cond.methodLink "PaceStore$Field" (57 : Nat) ({ cls := "PaceStore$Field", name := "rank", desc := "(LPaceStore$Results;)V" } : Jvm.MethodName)) ∈ z_U := z_U_4 (i := 7) rfl rfl
theorem u_816 : (Jvm.Cond.instanceMethod ({ cls := "PaceStore$Field", name := "rank", desc := "(LPaceStore$Results;)V" } : Jvm.MethodName)) ∈ z_U := z_U_4 (i := 9) rfl rfl
theorem u_817 : (Jvm.Cond.code ({ cls := "PaceStore$Field", name := "rank", desc := "(LPaceStore$Results;)V" } : Jvm.MethodName) prog_5_method_9_code (6 : Nat) (Option.none : Option Jvm.ClassFile.FieldType)) ∈ z_U := z_U_4 (i := 10) rfl rfl
theorem u_818 : (Jvm.Cond.methodLink "PaceStore" (182 : Nat) ({ cls := "PaceStore$Results", name := "runnerAt", desc := "(I)I" } : Jvm.MethodName)) ∈ z_U := z_U_4 (i := 11) rfl rfl
theorem u_819 : (Jvm.Cond.instanceMethod ({ cls := "PaceStore$Results", name := "runnerAt", desc := "(I)I" } : Jvm.MethodName)) ∈ z_U := z_U_4 (i := 12) rfl rfl
theorem u_820 : (Jvm.Cond.selects "PaceStore$Results" ({ cls := "PaceStore$Results", name := "runnerAt", desc := "(I)I" } : Jvm.MethodName) ({ cls := "PaceStore$Results", name := "runnerAt", desc := "(I)I" } : Jvm.MethodName)) ∈ z_U := z_U_4 (i := 13) rfl rfl
theorem u_821 : (Jvm.Cond.code ({ cls := "PaceStore$Results", name := "runnerAt", desc := "(I)I" } : Jvm.MethodName) prog_8_method_5_code (3 : Nat) (Option.some Jvm.ClassFile.FieldType.int)) ∈ z_U := z_U_4 (i := 14) rfl rfl
theorem u_822 : (Jvm.Cond.constant "PaceStore$Results" (57 : Nat) (-1000000 : Int32)) ∈ z_U := z_U_4 (i := 15) rfl rfl
theorem u_823 : (Jvm.Cond.methodLink "PaceStoreLaw" (56 : Nat) ({ cls := "PaceStore", name := "ran", desc := "(III)I" } : Jvm.MethodName)) ∈ z_U := z_U_4 (i := 16) rfl rfl
theorem u_824 : (Jvm.Cond.instanceMethod ({ cls := "PaceStore", name := "ran", desc := "(III)I" } : Jvm.MethodName)) ∈ z_U := z_U_4 (i := 17) rfl rfl
theorem u_825 : (Jvm.Cond.selects "PaceStore" ({ cls := "PaceStore", name := "ran", desc := "(III)I" } : Jvm.MethodName) ({ cls := "PaceStore", name := "ran", desc := "(III)I" } : Jvm.MethodName)) ∈ z_U := z_U_4 (i := 18) rfl rfl
theorem u_826 : (Jvm.Cond.code ({ cls := "PaceStore", name := "ran", desc := "(III)I" } : Jvm.MethodName) prog_1_method_11_code (4 : Nat) (Option.some Jvm.ClassFile.FieldType.int)) ∈ z_U := z_U_4 (i := 19) rfl rfl
theorem u_827 : (Jvm.Cond.methodLink "PaceStore" (185 : Nat) ({ cls := "PaceStore$Course", name := "hasRunner", desc := "(I)Z" } : Jvm.MethodName)) ∈ z_U := z_U_4 (i := 20) rfl rfl
theorem u_828 : (Jvm.Cond.methodLink "PaceStore" (188 : Nat) ({ cls := "PaceStore$Results", name := "told", desc := "(III)I" } : Jvm.MethodName)) ∈ z_U := z_U_4 (i := 21) rfl rfl
theorem u_829 : (Jvm.Cond.instanceMethod ({ cls := "PaceStore$Results", name := "told", desc := "(III)I" } : Jvm.MethodName)) ∈ z_U := z_U_4 (i := 22) rfl rfl
theorem u_830 : (Jvm.Cond.selects "PaceStore$Results" ({ cls := "PaceStore$Results", name := "told", desc := "(III)I" } : Jvm.MethodName) ({ cls := "PaceStore$Results", name := "told", desc := "(III)I" } : Jvm.MethodName)) ∈ z_U := z_U_4 (i := 23) rfl rfl
theorem u_831 : (Jvm.Cond.code ({ cls := "PaceStore$Results", name := "told", desc := "(III)I" } : Jvm.MethodName) prog_8_method_4_code (4 : Nat) (Option.some Jvm.ClassFile.FieldType.int)) ∈ z_U := z_U_4 (i := 24) rfl rfl
theorem u_832 : (Jvm.Cond.methodLink "PaceStoreLaw" (60 : Nat) ({ cls := "PaceStore", name := "place", desc := "(I)I" } : Jvm.MethodName)) ∈ z_U := z_U_4 (i := 25) rfl rfl
theorem u_833 : (Jvm.Cond.instanceMethod ({ cls := "PaceStore", name := "place", desc := "(I)I" } : Jvm.MethodName)) ∈ z_U := z_U_4 (i := 26) rfl rfl
theorem u_834 : (Jvm.Cond.selects "PaceStore" ({ cls := "PaceStore", name := "place", desc := "(I)I" } : Jvm.MethodName) ({ cls := "PaceStore", name := "place", desc := "(I)I" } : Jvm.MethodName)) ∈ z_U := z_U_4 (i := 27) rfl rfl
theorem u_835 : (Jvm.Cond.code ({ cls := "PaceStore", name := "place", desc := "(I)I" } : Jvm.MethodName) prog_1_method_12_code (2 : Nat) (Option.some Jvm.ClassFile.FieldType.int)) ∈ z_U := z_U_4 (i := 28) rfl rfl
theorem u_836 : (Jvm.Cond.methodLink "PaceStoreLaw" (64 : Nat) ({ cls := "PaceStore", name := "best", desc := "(III)I" } : Jvm.MethodName)) ∈ z_U := z_U_4 (i := 29) rfl rfl
theorem u_837 : (Jvm.Cond.instanceMethod ({ cls := "PaceStore", name := "best", desc := "(III)I" } : Jvm.MethodName)) ∈ z_U := z_U_4 (i := 30) rfl rfl
theorem u_838 : (Jvm.Cond.selects "PaceStore" ({ cls := "PaceStore", name := "best", desc := "(III)I" } : Jvm.MethodName) ({ cls := "PaceStore", name := "best", desc := "(III)I" } : Jvm.MethodName)) ∈ z_U := z_U_4 (i := 31) rfl rfl
theorem u_839 : (Jvm.Cond.code ({ cls := "PaceStore", name := "best", desc := "(III)I" } : Jvm.MethodName) prog_1_method_13_code (5 : Nat) (Option.some Jvm.ClassFile.FieldType.int)) ∈ z_U := z_U_4 (i := 32) rfl rfl
theorem u_840 : (Jvm.Cond.methodLink "PaceStore" (194 : Nat) ({ cls := "PaceStore$Course", name := "hasRabbits", desc := "(I)Z" } : Jvm.MethodName)) ∈ z_U := z_U_4 (i := 33) rfl rfl
theorem u_841 : (Jvm.Cond.instanceMethod ({ cls := "PaceStore$Course", name := "hasRabbits", desc := "(I)Z" } : Jvm.MethodName)) ∈ z_U := z_U_4 (i := 34) rfl rfl
theorem u_842 : (Jvm.Cond.selects "PaceStore$Course" ({ cls := "PaceStore$Course", name := "hasRabbits", desc := "(I)Z" } : Jvm.MethodName) ({ cls := "PaceStore$Course", name := "hasRabbits", desc := "(I)Z" } : Jvm.MethodName)) ∈ z_U := z_U_4 (i := 35) rfl rfl
theorem u_843 : (Jvm.Cond.code ({ cls := "PaceStore$Course", name := "hasRabbits", desc := "(I)Z" } : Jvm.MethodName) prog_4_method_6_code (2 : Nat) (Option.some Jvm.ClassFile.FieldType.boolean)) ∈ z_U := z_U_4 (i := 36) rfl rfl
theorem u_844 : (Jvm.Cond.methodLink "PaceStore" (197 : Nat) ({ cls := "PaceStore$Alone", name := "face", desc := "(LPaceStore$Course;II)V" } : Jvm.MethodName)) ∈ z_U := z_U_4 (i := 37) rfl rfl
theorem u_845 : (Jvm.Cond.instanceMethod ({ cls := "PaceStore$Alone", name := "face", desc := "(LPaceStore$Course;II)V" } : Jvm.MethodName)) ∈ z_U := z_U_4 (i := 38) rfl rfl
theorem u_846 : (Jvm.Cond.selects "PaceStore$Alone" ({ cls := "PaceStore$Alone", name := "face", desc := "(LPaceStore$Course;II)V" } : Jvm.MethodName) ({ cls := "PaceStore$Alone", name := "face", desc := "(LPaceStore$Course;II)V" } : Jvm.MethodName)) ∈ z_U := z_U_4 (i := 39) rfl rfl
theorem u_847 : (Jvm.Cond.code ({ cls := "PaceStore$Alone", name := "face", desc := "(LPaceStore$Course;II)V" } : Jvm.MethodName) prog_2_method_2_code (4 : Nat) (Option.none : Option Jvm.ClassFile.FieldType)) ∈ z_U := z_U_4 (i := 40) rfl rfl
theorem u_848 : (Jvm.Cond.methodLink "PaceStore$Alone" (39 : Nat) ({ cls := "java/util/Arrays", name := "fill", desc := "([II)V" } : Jvm.MethodName)) ∈ z_U := z_U_4 (i := 41) rfl rfl
theorem u_849 : (Jvm.Cond.methodLink "PaceStore$Alone" (45 : Nat) ({ cls := "PaceStore$Alone", name := "faceHeats", desc := "(LPaceStore$Course;II)V" } : Jvm.MethodName)) ∈ z_U := z_U_4 (i := 42) rfl rfl
theorem u_851 : (Jvm.Cond.instanceMethod ({ cls := "PaceStore$Alone", name := "faceHeats", desc := "(LPaceStore$Course;II)V" } : Jvm.MethodName)) ∈ z_U := z_U_4 (i := 44) rfl rfl
theorem u_852 : (Jvm.Cond.code ({ cls := "PaceStore$Alone", name := "faceHeats", desc := "(LPaceStore$Course;II)V" } : Jvm.MethodName) prog_2_method_4_code (8 : Nat) (Option.none : Option Jvm.ClassFile.FieldType)) ∈ z_U := z_U_4 (i := 45) rfl rfl
theorem u_853 : (Jvm.Cond.methodLink "PaceStore$Alone" (72 : Nat) ({ cls := "PaceStore$Course", name := "isShelteredBy", desc := "(III)Z" } : Jvm.MethodName)) ∈ z_U := z_U_4 (i := 46) rfl rfl
theorem u_854 : (Jvm.Cond.instanceMethod ({ cls := "PaceStore$Course", name := "isShelteredBy", desc := "(III)Z" } : Jvm.MethodName)) ∈ z_U := z_U_4 (i := 47) rfl rfl
theorem u_855 : (Jvm.Cond.selects "PaceStore$Course" ({ cls := "PaceStore$Course", name := "isShelteredBy", desc := "(III)Z" } : Jvm.MethodName) ({ cls := "PaceStore$Course", name := "isShelteredBy", desc := "(III)Z" } : Jvm.MethodName)) ∈ z_U := z_U_4 (i := 48) rfl rfl
theorem u_856 : (Jvm.Cond.code ({ cls := "PaceStore$Course", name := "isShelteredBy", desc := "(III)Z" } : Jvm.MethodName) prog_4_method_11_code (5 : Nat) (Option.some Jvm.ClassFile.FieldType.boolean)) ∈ z_U := z_U_4 (i := 49) rfl rfl
theorem u_857 : (Jvm.Cond.methodLink "PaceStore$Alone" (76 : Nat) ({ cls := "PaceStore$Course", name := "needOf", desc := "(IIZI)I" } : Jvm.MethodName)) ∈ z_U := z_U_4 (i := 50) rfl rfl
theorem u_858 : (Jvm.Cond.methodLink "PaceStore$Alone" (83 : Nat) ({ cls := "PaceStore$Alone", name := "takeLine", desc := "(I)V" } : Jvm.MethodName)) ∈ z_U := z_U_4 (i := 51) rfl rfl
theorem u_859 : (Jvm.Cond.instanceMethod ({ cls := "PaceStore$Alone", name := "takeLine", desc := "(I)V" } : Jvm.MethodName)) ∈ z_U := z_U_4 (i := 52) rfl rfl
theorem u_860 : (Jvm.Cond.selects "PaceStore$Alone" ({ cls := "PaceStore$Alone", name := "takeLine", desc := "(I)V" } : Jvm.MethodName) ({ cls := "PaceStore$Alone", name := "takeLine", desc := "(I)V" } : Jvm.MethodName)) ∈ z_U := z_U_4 (i := 53) rfl rfl
theorem u_861 : (Jvm.Cond.code ({ cls := "PaceStore$Alone", name := "takeLine", desc := "(I)V" } : Jvm.MethodName) prog_2_method_5_code (4 : Nat) (Option.none : Option Jvm.ClassFile.FieldType)) ∈ z_U := z_U_4 (i := 54) rfl rfl
theorem u_863 : (Jvm.Cond.methodLink "PaceStore" (201 : Nat) ({ cls := "PaceStore$Alone", name := "leastTime", desc := "()I" } : Jvm.MethodName)) ∈ z_U := z_U_4 (i := 56) rfl rfl
theorem u_864 : (Jvm.Cond.instanceMethod ({ cls := "PaceStore$Alone", name := "leastTime", desc := "()I" } : Jvm.MethodName)) ∈ z_U := z_U_4 (i := 57) rfl rfl
theorem u_865 : (Jvm.Cond.selects "PaceStore$Alone" ({ cls := "PaceStore$Alone", name := "leastTime", desc := "()I" } : Jvm.MethodName) ({ cls := "PaceStore$Alone", name := "leastTime", desc := "()I" } : Jvm.MethodName)) ∈ z_U := z_U_4 (i := 58) rfl rfl
theorem u_866 : (Jvm.Cond.code ({ cls := "PaceStore$Alone", name := "leastTime", desc := "()I" } : Jvm.MethodName) prog_2_method_11_code (1 : Nat) (Option.some Jvm.ClassFile.FieldType.int)) ∈ z_U := z_U_4 (i := 59) rfl rfl
theorem u_867 : (Jvm.Cond.methodLink "PaceStore$Alone" (112 : Nat) ({ cls := "PaceStore$Alone", name := "solve", desc := "()V" } : Jvm.MethodName)) ∈ z_U := z_U_4 (i := 60) rfl rfl
theorem u_868 : (Jvm.Cond.instanceMethod ({ cls := "PaceStore$Alone", name := "solve", desc := "()V" } : Jvm.MethodName)) ∈ z_U := z_U_4 (i := 61) rfl rfl
theorem u_869 : (Jvm.Cond.selects "PaceStore$Alone" ({ cls := "PaceStore$Alone", name := "solve", desc := "()V" } : Jvm.MethodName) ({ cls := "PaceStore$Alone", name := "solve", desc := "()V" } : Jvm.MethodName)) ∈ z_U := z_U_4 (i := 62) rfl rfl
theorem u_870 : (Jvm.Cond.code ({ cls := "PaceStore$Alone", name := "solve", desc := "()V" } : Jvm.MethodName) prog_2_method_12_code (3 : Nat) (Option.none : Option Jvm.ClassFile.FieldType)) ∈ z_U := z_U_4 (i := 63) rfl rfl
theorem u_871 : (Jvm.Cond.methodLink "PaceStore$Alone" (115 : Nat) ({ cls := "PaceStore$Alone", name := "chooseTries", desc := "(I)V" } : Jvm.MethodName)) ∈ z_U := z_U_4 (i := 64) rfl rfl
theorem u_873 : (Jvm.Cond.instanceMethod ({ cls := "PaceStore$Alone", name := "chooseTries", desc := "(I)V" } : Jvm.MethodName)) ∈ z_U := z_U_4 (i := 66) rfl rfl
theorem u_874 : (Jvm.Cond.code ({ cls := "PaceStore$Alone", name := "chooseTries", desc := "(I)V" } : Jvm.MethodName) prog_2_method_13_code (5 : Nat) (Option.none : Option Jvm.ClassFile.FieldType)) ∈ z_U := z_U_4 (i := 67) rfl rfl
theorem u_875 : (Jvm.Cond.methodLink "PaceStore$Alone" (118 : Nat) ({ cls := "PaceStore$Alone", name := "leastAt", desc := "(II)I" } : Jvm.MethodName)) ∈ z_U := z_U_4 (i := 68) rfl rfl
theorem u_877 : (Jvm.Cond.instanceMethod ({ cls := "PaceStore$Alone", name := "leastAt", desc := "(II)I" } : Jvm.MethodName)) ∈ z_U := z_U_4 (i := 70) rfl rfl
theorem u_878 : (Jvm.Cond.code ({ cls := "PaceStore$Alone", name := "leastAt", desc := "(II)I" } : Jvm.MethodName) prog_2_method_14_code (10 : Nat) (Option.some Jvm.ClassFile.FieldType.int)) ∈ z_U := z_U_4 (i := 71) rfl rfl
theorem u_879 : (Jvm.Cond.constant "PaceStore$Alone" (121 : Nat) (1000000000 : Int32)) ∈ z_U := z_U_4 (i := 72) rfl rfl
theorem u_880 : (Jvm.Cond.methodLink "PaceStore$Alone" (97 : Nat) ({ cls := "java/lang/Math", name := "min", desc := "(II)I" } : Jvm.MethodName)) ∈ z_U := z_U_4 (i := 73) rfl rfl
theorem u_881 : (Jvm.Cond.constant "PaceStore" (205 : Nat) (1000000000 : Int32)) ∈ z_U := z_U_4 (i := 74) rfl rfl
theorem u_882 : (Jvm.Cond.constant "PaceStore" (206 : Nat) (-1000000 : Int32)) ∈ z_U := z_U_4 (i := 75) rfl rfl
theorem u_883 : (Jvm.Cond.methodLink "PaceStore" (207 : Nat) ({ cls := "PaceStore$Alone", name := "paceOfBest", desc := "(I)I" } : Jvm.MethodName)) ∈ z_U := z_U_4 (i := 76) rfl rfl
theorem u_884 : (Jvm.Cond.instanceMethod ({ cls := "PaceStore$Alone", name := "paceOfBest", desc := "(I)I" } : Jvm.MethodName)) ∈ z_U := z_U_4 (i := 77) rfl rfl
theorem u_885 : (Jvm.Cond.selects "PaceStore$Alone" ({ cls := "PaceStore$Alone", name := "paceOfBest", desc := "(I)I" } : Jvm.MethodName) ({ cls := "PaceStore$Alone", name := "paceOfBest", desc := "(I)I" } : Jvm.MethodName)) ∈ z_U := z_U_4 (i := 78) rfl rfl
theorem u_886 : (Jvm.Cond.code ({ cls := "PaceStore$Alone", name := "paceOfBest", desc := "(I)I" } : Jvm.MethodName) prog_2_method_16_code (5 : Nat) (Option.some Jvm.ClassFile.FieldType.int)) ∈ z_U := z_U_4 (i := 79) rfl rfl
theorem u_887 : (Jvm.Cond.methodLink "PaceStore$Alone" (122 : Nat) ({ cls := "PaceStore$Alone", name := "firstPace", desc := "(II)I" } : Jvm.MethodName)) ∈ z_U := z_U_4 (i := 80) rfl rfl
theorem u_889 : (Jvm.Cond.instanceMethod ({ cls := "PaceStore$Alone", name := "firstPace", desc := "(II)I" } : Jvm.MethodName)) ∈ z_U := z_U_4 (i := 82) rfl rfl
theorem u_890 : (Jvm.Cond.code ({ cls := "PaceStore$Alone", name := "firstPace", desc := "(II)I" } : Jvm.MethodName) prog_2_method_17_code (5 : Nat) (Option.some Jvm.ClassFile.FieldType.int)) ∈ z_U := z_U_4 (i := 83) rfl rfl
theorem u_891 : (Jvm.Cond.methodLink "PaceStore$Alone" (103 : Nat) ({ cls := "PaceStore$Alone", name := "leftBehind", desc := "(III)I" } : Jvm.MethodName)) ∈ z_U := z_U_4 (i := 84) rfl rfl
theorem u_893 : (Jvm.Cond.instanceMethod ({ cls := "PaceStore$Alone", name := "leftBehind", desc := "(III)I" } : Jvm.MethodName)) ∈ z_U := z_U_4 (i := 86) rfl rfl
theorem u_894 : (Jvm.Cond.code ({ cls := "PaceStore$Alone", name := "leftBehind", desc := "(III)I" } : Jvm.MethodName) prog_2_method_6_code (5 : Nat) (Option.some Jvm.ClassFile.FieldType.int)) ∈ z_U := z_U_4 (i := 87) rfl rfl
theorem u_896 : (Jvm.Cond.methodLink "PaceStoreLaw" (68 : Nat) ({ cls := "PaceStore", name := "even", desc := "(III)I" } : Jvm.MethodName)) ∈ z_U := z_U_4 (i := 89) rfl rfl
theorem u_897 : (Jvm.Cond.instanceMethod ({ cls := "PaceStore", name := "even", desc := "(III)I" } : Jvm.MethodName)) ∈ z_U := z_U_4 (i := 90) rfl rfl
theorem u_898 : (Jvm.Cond.selects "PaceStore" ({ cls := "PaceStore", name := "even", desc := "(III)I" } : Jvm.MethodName) ({ cls := "PaceStore", name := "even", desc := "(III)I" } : Jvm.MethodName)) ∈ z_U := z_U_4 (i := 91) rfl rfl
theorem u_899 : (Jvm.Cond.code ({ cls := "PaceStore", name := "even", desc := "(III)I" } : Jvm.MethodName) prog_1_method_14_code (5 : Nat) (Option.some Jvm.ClassFile.FieldType.int)) ∈ z_U := z_U_4 (i := 92) rfl rfl
theorem u_900 : (Jvm.Cond.methodLink "PaceStore" (210 : Nat) ({ cls := "PaceStore$Alone", name := "evenPace", desc := "()I" } : Jvm.MethodName)) ∈ z_U := z_U_4 (i := 93) rfl rfl
theorem u_901 : (Jvm.Cond.instanceMethod ({ cls := "PaceStore$Alone", name := "evenPace", desc := "()I" } : Jvm.MethodName)) ∈ z_U := z_U_4 (i := 94) rfl rfl
theorem u_902 : (Jvm.Cond.selects "PaceStore$Alone" ({ cls := "PaceStore$Alone", name := "evenPace", desc := "()I" } : Jvm.MethodName) ({ cls := "PaceStore$Alone", name := "evenPace", desc := "()I" } : Jvm.MethodName)) ∈ z_U := z_U_4 (i := 95) rfl rfl
theorem u_903 : (Jvm.Cond.code ({ cls := "PaceStore$Alone", name := "evenPace", desc := "()I" } : Jvm.MethodName) prog_2_method_10_code (2 : Nat) (Option.some Jvm.ClassFile.FieldType.int)) ∈ z_U := z_U_4 (i := 96) rfl rfl
theorem u_904 : (Jvm.Cond.methodLink "PaceStore$Alone" (109 : Nat) ({ cls := "PaceStore$Alone", name := "leftAfterEven", desc := "(II)I" } : Jvm.MethodName)) ∈ z_U := z_U_4 (i := 97) rfl rfl
theorem u_905 : (Jvm.Cond.instanceMethod ({ cls := "PaceStore$Alone", name := "leftAfterEven", desc := "(II)I" } : Jvm.MethodName)) ∈ z_U := z_U_4 (i := 98) rfl rfl
theorem u_906 : (Jvm.Cond.selects "PaceStore$Alone" ({ cls := "PaceStore$Alone", name := "leftAfterEven", desc := "(II)I" } : Jvm.MethodName) ({ cls := "PaceStore$Alone", name := "leftAfterEven", desc := "(II)I" } : Jvm.MethodName)) ∈ z_U := z_U_4 (i := 99) rfl rfl
theorem u_907 : (Jvm.Cond.code ({ cls := "PaceStore$Alone", name := "leftAfterEven", desc := "(II)I" } : Jvm.MethodName) prog_2_method_7_code (5 : Nat) (Option.some Jvm.ClassFile.FieldType.int)) ∈ z_U := z_U_4 (i := 100) rfl rfl
theorem u_908 : (Jvm.Cond.methodLink "PaceStore" (213 : Nat) ({ cls := "PaceStore", name := "secondsBy", desc := "(I)I" } : Jvm.MethodName)) ∈ z_U := z_U_4 (i := 101) rfl rfl
theorem u_909 : (Jvm.Cond.methodLink "PaceStoreLaw" (72 : Nat) ({ cls := "PaceStore", name := "early", desc := "(II)I" } : Jvm.MethodName)) ∈ z_U := z_U_4 (i := 102) rfl rfl
theorem u_910 : (Jvm.Cond.instanceMethod ({ cls := "PaceStore", name := "early", desc := "(II)I" } : Jvm.MethodName)) ∈ z_U := z_U_4 (i := 103) rfl rfl
theorem u_911 : (Jvm.Cond.selects "PaceStore" ({ cls := "PaceStore", name := "early", desc := "(II)I" } : Jvm.MethodName) ({ cls := "PaceStore", name := "early", desc := "(II)I" } : Jvm.MethodName)) ∈ z_U := z_U_4 (i := 104) rfl rfl
theorem u_912 : (Jvm.Cond.code ({ cls := "PaceStore", name := "early", desc := "(II)I" } : Jvm.MethodName) prog_1_method_15_code (6 : Nat) (Option.some Jvm.ClassFile.FieldType.int)) ∈ z_U := z_U_4 (i := 105) rfl rfl
theorem u_913 : (Jvm.Cond.methodLink "PaceStore" (221 : Nat) ({ cls := "PaceStore$Alone", name := "leastFrom", desc := "(I)I" } : Jvm.MethodName)) ∈ z_U := z_U_4 (i := 106) rfl rfl
theorem u_914 : (Jvm.Cond.instanceMethod ({ cls := "PaceStore$Alone", name := "leastFrom", desc := "(I)I" } : Jvm.MethodName)) ∈ z_U := z_U_4 (i := 107) rfl rfl
theorem u_915 : (Jvm.Cond.selects "PaceStore$Alone" ({ cls := "PaceStore$Alone", name := "leastFrom", desc := "(I)I" } : Jvm.MethodName) ({ cls := "PaceStore$Alone", name := "leastFrom", desc := "(I)I" } : Jvm.MethodName)) ∈ z_U := z_U_4 (i := 108) rfl rfl
theorem u_916 : (Jvm.Cond.code ({ cls := "PaceStore$Alone", name := "leastFrom", desc := "(I)I" } : Jvm.MethodName) prog_2_method_15_code (3 : Nat) (Option.some Jvm.ClassFile.FieldType.int)) ∈ z_U := z_U_4 (i := 109) rfl rfl
theorem u_917 : (Jvm.Cond.methodLink "PaceStoreLaw" (77 : Nat) ({ cls := "PaceStore", name := "hired", desc := "(III)I" } : Jvm.MethodName)) ∈ z_U := z_U_4 (i := 110) rfl rfl
theorem u_918 : (Jvm.Cond.instanceMethod ({ cls := "PaceStore", name := "hired", desc := "(III)I" } : Jvm.MethodName)) ∈ z_U := z_U_4 (i := 111) rfl rfl
theorem u_919 : (Jvm.Cond.selects "PaceStore" ({ cls := "PaceStore", name := "hired", desc := "(III)I" } : Jvm.MethodName) ({ cls := "PaceStore", name := "hired", desc := "(III)I" } : Jvm.MethodName)) ∈ z_U := z_U_4 (i := 112) rfl rfl
theorem u_920 : (Jvm.Cond.code ({ cls := "PaceStore", name := "hired", desc := "(III)I" } : Jvm.MethodName) prog_1_method_16_code (10 : Nat) (Option.some Jvm.ClassFile.FieldType.int)) ∈ z_U := z_U_4 (i := 113) rfl rfl
theorem u_921 : (Jvm.Cond.methodLink "PaceStore" (224 : Nat) ({ cls := "PaceStore$Course", name := "costOf", desc := "(I)I" } : Jvm.MethodName)) ∈ z_U := z_U_4 (i := 114) rfl rfl
theorem u_922 : (Jvm.Cond.instanceMethod ({ cls := "PaceStore$Course", name := "costOf", desc := "(I)I" } : Jvm.MethodName)) ∈ z_U := z_U_4 (i := 115) rfl rfl
theorem u_923 : (Jvm.Cond.selects "PaceStore$Course" ({ cls := "PaceStore$Course", name := "costOf", desc := "(I)I" } : Jvm.MethodName) ({ cls := "PaceStore$Course", name := "costOf", desc := "(I)I" } : Jvm.MethodName)) ∈ z_U := z_U_4 (i := 116) rfl rfl
theorem u_924 : (Jvm.Cond.code ({ cls := "PaceStore$Course", name := "costOf", desc := "(I)I" } : Jvm.MethodName) prog_4_method_8_code (4 : Nat) (Option.some Jvm.ClassFile.FieldType.int)) ∈ z_U := z_U_4 (i := 117) rfl rfl
theorem u_925 : (Jvm.Cond.methodLink "PaceStoreLaw" (81 : Nat) ({ cls := "PaceStore", name := "stays", desc := "(II)I" } : Jvm.MethodName)) ∈ z_U := z_U_4 (i := 118) rfl rfl
theorem u_926 : (Jvm.Cond.instanceMethod ({ cls := "PaceStore", name := "stays", desc := "(II)I" } : Jvm.MethodName)) ∈ z_U := z_U_4 (i := 119) rfl rfl
theorem u_927 : (Jvm.Cond.selects "PaceStore" ({ cls := "PaceStore", name := "stays", desc := "(II)I" } : Jvm.MethodName) ({ cls := "PaceStore", name := "stays", desc := "(II)I" } : Jvm.MethodName)) ∈ z_U := z_U_4 (i := 120) rfl rfl
theorem u_928 : (Jvm.Cond.code ({ cls := "PaceStore", name := "stays", desc := "(II)I" } : Jvm.MethodName) prog_1_method_17_code (6 : Nat) (Option.some Jvm.ClassFile.FieldType.int)) ∈ z_U := z_U_4 (i := 121) rfl rfl
theorem u_929 : (Jvm.Cond.methodLink "PaceStore" (236 : Nat) ({ cls := "PaceStore$Alone", name := "leftAfterEven", desc := "(II)I" } : Jvm.MethodName)) ∈ z_U := z_U_4 (i := 122) rfl rfl
theorem u_930 : (Jvm.Cond.methodLink "PaceStore" (239 : Nat) ({ cls := "PaceStore$Alone", name := "solve", desc := "()V" } : Jvm.MethodName)) ∈ z_U := z_U_4 (i := 123) rfl rfl
theorem u_931 : (Jvm.Cond.methodLink "PaceStoreLaw" (85 : Nat) ({ cls := "PaceStore", name := "rests", desc := "(III)I" } : Jvm.MethodName)) ∈ z_U := z_U_4 (i := 124) rfl rfl
theorem u_932 : (Jvm.Cond.instanceMethod ({ cls := "PaceStore", name := "rests", desc := "(III)I" } : Jvm.MethodName)) ∈ z_U := z_U_4 (i := 125) rfl rfl
theorem u_933 : (Jvm.Cond.selects "PaceStore" ({ cls := "PaceStore", name := "rests", desc := "(III)I" } : Jvm.MethodName) ({ cls := "PaceStore", name := "rests", desc := "(III)I" } : Jvm.MethodName)) ∈ z_U := z_U_4 (i := 126) rfl rfl
theorem u_934 : (Jvm.Cond.code ({ cls := "PaceStore", name := "rests", desc := "(III)I" } : Jvm.MethodName) prog_1_method_18_code (6 : Nat) (Option.some Jvm.ClassFile.FieldType.int)) ∈ z_U := z_U_4 (i := 127) rfl rfl
theorem u_935 : (Jvm.Cond.methodLink "PaceStore" (246 : Nat) ({ cls := "PaceStore$Game", name := "playAll", desc := "(LPaceStore$Course;II)V" } : Jvm.MethodName)) ∈ z_U := z_U_4 (i := 128) rfl rfl
theorem u_936 : (Jvm.Cond.instanceMethod ({ cls := "PaceStore$Game", name := "playAll", desc := "(LPaceStore$Course;II)V" } : Jvm.MethodName)) ∈ z_U := z_U_4 (i := 129) rfl rfl
theorem u_937 : (Jvm.Cond.selects "PaceStore$Game" ({ cls := "PaceStore$Game", name := "playAll", desc := "(LPaceStore$Course;II)V" } : Jvm.MethodName) ({ cls := "PaceStore$Game", name := "playAll", desc := "(LPaceStore$Course;II)V" } : Jvm.MethodName)) ∈ z_U := z_U_4 (i := 130) rfl rfl
theorem u_938 : (Jvm.Cond.code ({ cls := "PaceStore$Game", name := "playAll", desc := "(LPaceStore$Course;II)V" } : Jvm.MethodName) prog_6_method_4_code (5 : Nat) (Option.none : Option Jvm.ClassFile.FieldType)) ∈ z_U := z_U_4 (i := 131) rfl rfl
theorem u_939 : (Jvm.Cond.methodLink "PaceStore$Game" (71 : Nat) ({ cls := "PaceStore$Game", name := "play", desc := "(LPaceStore$Course;IIII)I" } : Jvm.MethodName)) ∈ z_U := z_U_4 (i := 132) rfl rfl
theorem u_940 : (Jvm.Cond.instanceMethod ({ cls := "PaceStore$Game", name := "play", desc := "(LPaceStore$Course;IIII)I" } : Jvm.MethodName)) ∈ z_U := z_U_4 (i := 133) rfl rfl
theorem u_941 : (Jvm.Cond.selects "PaceStore$Game" ({ cls := "PaceStore$Game", name := "play", desc := "(LPaceStore$Course;IIII)I" } : Jvm.MethodName) ({ cls := "PaceStore$Game", name := "play", desc := "(LPaceStore$Course;IIII)I" } : Jvm.MethodName)) ∈ z_U := z_U_4 (i := 134) rfl rfl
theorem u_942 : (Jvm.Cond.code ({ cls := "PaceStore$Game", name := "play", desc := "(LPaceStore$Course;IIII)I" } : Jvm.MethodName) prog_6_method_2_code (12 : Nat) (Option.some Jvm.ClassFile.FieldType.int)) ∈ z_U := z_U_4 (i := 135) rfl rfl
theorem u_943 : (Jvm.Cond.methodLink "PaceStore$Game" (30 : Nat) ({ cls := "PaceStore$Body", name := "start", desc := "(LPaceStore$Course;II)V" } : Jvm.MethodName)) ∈ z_U := z_U_4 (i := 136) rfl rfl
theorem u_944 : (Jvm.Cond.methodLink "PaceStore$Game" (39 : Nat) ({ cls := "PaceStore$Course", name := "easyPace", desc := "(II)I" } : Jvm.MethodName)) ∈ z_U := z_U_4 (i := 137) rfl rfl
theorem u_945 : (Jvm.Cond.methodLink "PaceStore$Game" (48 : Nat) ({ cls := "PaceStore$Game", name := "stepByPlan", desc := "(IZ)I" } : Jvm.MethodName)) ∈ z_U := z_U_4 (i := 138) rfl rfl
theorem u_946 : (Jvm.Cond.static ({ cls := "PaceStore$Game", name := "stepByPlan", desc := "(IZ)I" } : Jvm.MethodName)) ∈ z_U := z_U_4 (i := 139) rfl rfl
theorem u_947 : (Jvm.Cond.code ({ cls := "PaceStore$Game", name := "stepByPlan", desc := "(IZ)I" } : Jvm.MethodName) prog_6_method_3_code (2 : Nat) (Option.some Jvm.ClassFile.FieldType.int)) ∈ z_U := z_U_4 (i := 140) rfl rfl
theorem u_949 : (Jvm.Cond.methodLink "PaceStore$Game" (59 : Nat) ({ cls := "PaceStore$Field", name := "runMile", desc := "(LPaceStore$Course;I)V" } : Jvm.MethodName)) ∈ z_U := z_U_4 (i := 142) rfl rfl
theorem u_950 : (Jvm.Cond.methodLink "PaceStore$Game" (66 : Nat) ({ cls := "java/lang/Integer", name := "compare", desc := "(II)I" } : Jvm.MethodName)) ∈ z_U := z_U_4 (i := 143) rfl rfl
theorem u_951 : (Jvm.Cond.static ({ cls := "java/lang/Integer", name := "compare", desc := "(II)I" } : Jvm.MethodName)) ∈ z_U := z_U_4 (i := 144) rfl rfl
theorem u_952 : (Jvm.Cond.code ({ cls := "java/lang/Integer", name := "compare", desc := "(II)I" } : Jvm.MethodName) prog_13_method_40_code (2 : Nat) (Option.some Jvm.ClassFile.FieldType.int)) ∈ z_U := z_U_4 (i := 145) rfl rfl
theorem u_953 : (Jvm.Cond.methodLink "PaceStore" (249 : Nat) ({ cls := "PaceStore$Game", name := "restsAt", desc := "(I)Z" } : Jvm.MethodName)) ∈ z_U := z_U_4 (i := 146) rfl rfl
theorem u_954 : (Jvm.Cond.instanceMethod ({ cls := "PaceStore$Game", name := "restsAt", desc := "(I)Z" } : Jvm.MethodName)) ∈ z_U := z_U_4 (i := 147) rfl rfl
theorem u_955 : (Jvm.Cond.selects "PaceStore$Game" ({ cls := "PaceStore$Game", name := "restsAt", desc := "(I)Z" } : Jvm.MethodName) ({ cls := "PaceStore$Game", name := "restsAt", desc := "(I)Z" } : Jvm.MethodName)) ∈ z_U := z_U_4 (i := 148) rfl rfl
theorem u_956 : (Jvm.Cond.code ({ cls := "PaceStore$Game", name := "restsAt", desc := "(I)Z" } : Jvm.MethodName) prog_6_method_5_code (6 : Nat) (Option.some Jvm.ClassFile.FieldType.boolean)) ∈ z_U := z_U_4 (i := 149) rfl rfl
theorem u_957 : (Jvm.Cond.methodLink "PaceStoreLaw" (89 : Nat) ({ cls := "PaceStore", name := "wins", desc := "(IIII)I" } : Jvm.MethodName)) ∈ z_U := z_U_4 (i := 150) rfl rfl
theorem u_958 : (Jvm.Cond.instanceMethod ({ cls := "PaceStore", name := "wins", desc := "(IIII)I" } : Jvm.MethodName)) ∈ z_U := z_U_4 (i := 151) rfl rfl
theorem u_959 : (Jvm.Cond.selects "PaceStore" ({ cls := "PaceStore", name := "wins", desc := "(IIII)I" } : Jvm.MethodName) ({ cls := "PaceStore", name := "wins", desc := "(IIII)I" } : Jvm.MethodName)) ∈ z_U := z_U_4 (i := 152) rfl rfl
theorem u_960 : (Jvm.Cond.code ({ cls := "PaceStore", name := "wins", desc := "(IIII)I" } : Jvm.MethodName) prog_1_method_19_code (6 : Nat) (Option.some Jvm.ClassFile.FieldType.int)) ∈ z_U := z_U_4 (i := 153) rfl rfl
theorem u_961 : (Jvm.Cond.methodLink "PaceStore" (252 : Nat) ({ cls := "PaceStore$Game", name := "play", desc := "(LPaceStore$Course;IIII)I" } : Jvm.MethodName)) ∈ z_U := z_U_4 (i := 154) rfl rfl
theorem u_962 : (Jvm.Cond.methodLink "PaceStoreLaw" (94 : Nat) ({ cls := "PaceStore", name := "line", desc := "(III)I" } : Jvm.MethodName)) ∈ z_U := z_U_4 (i := 155) rfl rfl
theorem u_963 : (Jvm.Cond.instanceMethod ({ cls := "PaceStore", name := "line", desc := "(III)I" } : Jvm.MethodName)) ∈ z_U := z_U_4 (i := 156) rfl rfl
theorem u_964 : (Jvm.Cond.selects "PaceStore" ({ cls := "PaceStore", name := "line", desc := "(III)I" } : Jvm.MethodName) ({ cls := "PaceStore", name := "line", desc := "(III)I" } : Jvm.MethodName)) ∈ z_U := z_U_4 (i := 157) rfl rfl
theorem u_965 : (Jvm.Cond.code ({ cls := "PaceStore", name := "line", desc := "(III)I" } : Jvm.MethodName) prog_1_method_20_code (5 : Nat) (Option.some Jvm.ClassFile.FieldType.int)) ∈ z_U := z_U_4 (i := 158) rfl rfl
theorem u_966 : (Jvm.Cond.methodLink "PaceStore" (256 : Nat) ({ cls := "PaceStore", name := "leastLine", desc := "(ILPaceStore$Sheet;I)I" } : Jvm.MethodName)) ∈ z_U := z_U_4 (i := 159) rfl rfl
theorem u_968 : (Jvm.Cond.instanceMethod ({ cls := "PaceStore", name := "leastLine", desc := "(ILPaceStore$Sheet;I)I" } : Jvm.MethodName)) ∈ z_U := z_U_4 (i := 161) rfl rfl
theorem u_969 : (Jvm.Cond.code ({ cls := "PaceStore", name := "leastLine", desc := "(ILPaceStore$Sheet;I)I" } : Jvm.MethodName) prog_1_method_21_code (5 : Nat) (Option.some Jvm.ClassFile.FieldType.int)) ∈ z_U := z_U_4 (i := 162) rfl rfl
theorem u_970 : (Jvm.Cond.methodLink "PaceStore" (260 : Nat) ({ cls := "PaceStore$Alone", name := "takeLine", desc := "(I)V" } : Jvm.MethodName)) ∈ z_U := z_U_4 (i := 163) rfl rfl
theorem u_971 : (Jvm.Cond.methodLink "PaceStore" (264 : Nat) ({ cls := "PaceStore$Alone", name := "leftAfterSplits", desc := "(LPaceStore$Sheet;I)I" } : Jvm.MethodName)) ∈ z_U := z_U_4 (i := 164) rfl rfl
theorem u_972 : (Jvm.Cond.instanceMethod ({ cls := "PaceStore$Alone", name := "leftAfterSplits", desc := "(LPaceStore$Sheet;I)I" } : Jvm.MethodName)) ∈ z_U := z_U_4 (i := 165) rfl rfl
theorem u_973 : (Jvm.Cond.selects "PaceStore$Alone" ({ cls := "PaceStore$Alone", name := "leftAfterSplits", desc := "(LPaceStore$Sheet;I)I" } : Jvm.MethodName) ({ cls := "PaceStore$Alone", name := "leftAfterSplits", desc := "(LPaceStore$Sheet;I)I" } : Jvm.MethodName)) ∈ z_U := z_U_4 (i := 166) rfl rfl
theorem u_974 : (Jvm.Cond.code ({ cls := "PaceStore$Alone", name := "leftAfterSplits", desc := "(LPaceStore$Sheet;I)I" } : Jvm.MethodName) prog_2_method_8_code (6 : Nat) (Option.some Jvm.ClassFile.FieldType.int)) ∈ z_U := z_U_4 (i := 167) rfl rfl
theorem u_975 : (Jvm.Cond.methodLink "PaceStore$Alone" (49 : Nat) ({ cls := "PaceStore$Sheet", name := "at", desc := "(I)I" } : Jvm.MethodName)) ∈ z_U := z_U_4 (i := 168) rfl rfl
theorem u_976 : (Jvm.Cond.methodLink "PaceStore$Alone" (106 : Nat) ({ cls := "PaceStore$Alone", name := "paceThatTakes", desc := "(I)I" } : Jvm.MethodName)) ∈ z_U := z_U_4 (i := 169) rfl rfl
theorem u_977 : (Jvm.Cond.static ({ cls := "PaceStore$Alone", name := "paceThatTakes", desc := "(I)I" } : Jvm.MethodName)) ∈ z_U := z_U_4 (i := 170) rfl rfl
theorem u_978 : (Jvm.Cond.code ({ cls := "PaceStore$Alone", name := "paceThatTakes", desc := "(I)I" } : Jvm.MethodName) prog_2_method_9_code (2 : Nat) (Option.some Jvm.ClassFile.FieldType.int)) ∈ z_U := z_U_4 (i := 171) rfl rfl
theorem u_979 : (Jvm.Cond.methodLink "PaceStoreLaw" (98 : Nat) ({ cls := "PaceStore", name := "parts", desc := "(IIII)I" } : Jvm.MethodName)) ∈ z_U := z_U_4 (i := 172) rfl rfl
theorem u_980 : (Jvm.Cond.instanceMethod ({ cls := "PaceStore", name := "parts", desc := "(IIII)I" } : Jvm.MethodName)) ∈ z_U := z_U_4 (i := 173) rfl rfl
theorem u_981 : (Jvm.Cond.selects "PaceStore" ({ cls := "PaceStore", name := "parts", desc := "(IIII)I" } : Jvm.MethodName) ({ cls := "PaceStore", name := "parts", desc := "(IIII)I" } : Jvm.MethodName)) ∈ z_U := z_U_4 (i := 174) rfl rfl
theorem u_982 : (Jvm.Cond.code ({ cls := "PaceStore", name := "parts", desc := "(IIII)I" } : Jvm.MethodName) prog_1_method_22_code (8 : Nat) (Option.some Jvm.ClassFile.FieldType.int)) ∈ z_U := z_U_4 (i := 175) rfl rfl
theorem u_983 : (Jvm.Cond.constant "PaceStore" (268 : Nat) (99999 : Int32)) ∈ z_U := z_U_4 (i := 176) rfl rfl
theorem u_984 : (Jvm.Cond.methodLink "PaceStore" (269 : Nat) ({ cls := "PaceStore", name := "takenOffInAllOrders", desc := "(LPaceStore$Sheet;II)I" } : Jvm.MethodName)) ∈ z_U := z_U_4 (i := 177) rfl rfl
theorem u_985 : (Jvm.Cond.static ({ cls := "PaceStore", name := "takenOffInAllOrders", desc := "(LPaceStore$Sheet;II)I" } : Jvm.MethodName)) ∈ z_U := z_U_4 (i := 178) rfl rfl
theorem u_986 : (Jvm.Cond.code ({ cls := "PaceStore", name := "takenOffInAllOrders", desc := "(LPaceStore$Sheet;II)I" } : Jvm.MethodName) prog_1_method_23_code (7 : Nat) (Option.some Jvm.ClassFile.FieldType.int)) ∈ z_U := z_U_4 (i := 179) rfl rfl
theorem u_987 : (Jvm.Cond.methodLink "PaceStore" (279 : Nat) ({ cls := "java/lang/Integer", name := "bitCount", desc := "(I)I" } : Jvm.MethodName)) ∈ z_U := z_U_4 (i := 180) rfl rfl
theorem u_988 : (Jvm.Cond.static ({ cls := "java/lang/Integer", name := "bitCount", desc := "(I)I" } : Jvm.MethodName)) ∈ z_U := z_U_4 (i := 181) rfl rfl
theorem u_989 : (Jvm.Cond.code ({ cls := "java/lang/Integer", name := "bitCount", desc := "(I)I" } : Jvm.MethodName) prog_13_method_49_code (1 : Nat) (Option.some Jvm.ClassFile.FieldType.int)) ∈ z_U := z_U_4 (i := 182) rfl rfl
theorem u_990 : (Jvm.Cond.constant "java/lang/Integer" (265 : Nat) (1431655765 : Int32)) ∈ z_U := z_U_4 (i := 183) rfl rfl
theorem u_991 : (Jvm.Cond.constant "java/lang/Integer" (266 : Nat) (858993459 : Int32)) ∈ z_U := z_U_4 (i := 184) rfl rfl
theorem u_992 : (Jvm.Cond.constant "java/lang/Integer" (267 : Nat) (252645135 : Int32)) ∈ z_U := z_U_4 (i := 185) rfl rfl
theorem u_993 : (Jvm.Cond.fieldLink "PaceStore" (284 : Nat) "PaceStore" "ORDERS_BEHIND" "[I") ∈ z_U := z_U_4 (i := 186) rfl rfl
theorem u_995 : (Jvm.Cond.methodLink "PaceStore" (273 : Nat) ({ cls := "java/lang/Math", name := "abs", desc := "(I)I" } : Jvm.MethodName)) ∈ z_U := z_U_4 (i := 188) rfl rfl
theorem u_996 : (Jvm.Cond.static ({ cls := "java/lang/Math", name := "abs", desc := "(I)I" } : Jvm.MethodName)) ∈ z_U := z_U_4 (i := 189) rfl rfl
theorem u_997 : (Jvm.Cond.code ({ cls := "java/lang/Math", name := "abs", desc := "(I)I" } : Jvm.MethodName) prog_14_method_59_code (1 : Nat) (Option.some Jvm.ClassFile.FieldType.int)) ∈ z_U := z_U_4 (i := 190) rfl rfl
theorem u_998 : (Jvm.Cond.methodLink "PaceStore" (276 : Nat) ({ cls := "PaceStore", name := "commonDivisor", desc := "(II)I" } : Jvm.MethodName)) ∈ z_U := z_U_4 (i := 191) rfl rfl
theorem u_999 : (Jvm.Cond.static ({ cls := "PaceStore", name := "commonDivisor", desc := "(II)I" } : Jvm.MethodName)) ∈ z_U := z_U_4 (i := 192) rfl rfl
theorem u_1000 : (Jvm.Cond.code ({ cls := "PaceStore", name := "commonDivisor", desc := "(II)I" } : Jvm.MethodName) prog_1_method_24_code (6 : Nat) (Option.some Jvm.ClassFile.FieldType.int)) ∈ z_U := z_U_4 (i := 193) rfl rfl
theorem u_1001 : (Jvm.Cond.methodLink "PaceStoreLaw" (102 : Nat) ({ cls := "PaceStore", name := "hour", desc := "(IIIII)I" } : Jvm.MethodName)) ∈ z_U := z_U_4 (i := 194) rfl rfl
theorem u_1002 : (Jvm.Cond.instanceMethod ({ cls := "PaceStore", name := "hour", desc := "(IIIII)I" } : Jvm.MethodName)) ∈ z_U := z_U_4 (i := 195) rfl rfl
theorem u_1003 : (Jvm.Cond.selects "PaceStore" ({ cls := "PaceStore", name := "hour", desc := "(IIIII)I" } : Jvm.MethodName) ({ cls := "PaceStore", name := "hour", desc := "(IIIII)I" } : Jvm.MethodName)) ∈ z_U := z_U_4 (i := 196) rfl rfl
theorem u_1004 : (Jvm.Cond.code ({ cls := "PaceStore", name := "hour", desc := "(IIIII)I" } : Jvm.MethodName) prog_1_method_25_code (7 : Nat) (Option.some Jvm.ClassFile.FieldType.int)) ∈ z_U := z_U_4 (i := 197) rfl rfl
theorem u_1005 : (Jvm.Cond.methodLink "PaceStore" (290 : Nat) ({ cls := "PaceStore", name := "bestHour", desc := "(ILPaceStore$Sheet;III)I" } : Jvm.MethodName)) ∈ z_U := z_U_4 (i := 198) rfl rfl
theorem u_1007 : (Jvm.Cond.instanceMethod ({ cls := "PaceStore", name := "bestHour", desc := "(ILPaceStore$Sheet;III)I" } : Jvm.MethodName)) ∈ z_U := z_U_4 (i := 200) rfl rfl
theorem u_1008 : (Jvm.Cond.code ({ cls := "PaceStore", name := "bestHour", desc := "(ILPaceStore$Sheet;III)I" } : Jvm.MethodName) prog_1_method_26_code (10 : Nat) (Option.some Jvm.ClassFile.FieldType.int)) ∈ z_U := z_U_4 (i := 201) rfl rfl
theorem u_1009 : (Jvm.Cond.methodLink "PaceStore" (294 : Nat) ({ cls := "PaceStore$Alone", name := "faceHour", desc := "(LPaceStore$Course;ILPaceStore$Sheet;I)V" } : Jvm.MethodName)) ∈ z_U := z_U_4 (i := 202) rfl rfl
theorem u_1010 : (Jvm.Cond.instanceMethod ({ cls := "PaceStore$Alone", name := "faceHour", desc := "(LPaceStore$Course;ILPaceStore$Sheet;I)V" } : Jvm.MethodName)) ∈ z_U := z_U_4 (i := 203) rfl rfl
theorem u_1011 : (Jvm.Cond.selects "PaceStore$Alone" ({ cls := "PaceStore$Alone", name := "faceHour", desc := "(LPaceStore$Course;ILPaceStore$Sheet;I)V" } : Jvm.MethodName) ({ cls := "PaceStore$Alone", name := "faceHour", desc := "(LPaceStore$Course;ILPaceStore$Sheet;I)V" } : Jvm.MethodName)) ∈ z_U := z_U_4 (i := 204) rfl rfl
theorem u_1012 : (Jvm.Cond.code ({ cls := "PaceStore$Alone", name := "faceHour", desc := "(LPaceStore$Course;ILPaceStore$Sheet;I)V" } : Jvm.MethodName) prog_2_method_3_code (6 : Nat) (Option.none : Option Jvm.ClassFile.FieldType)) ∈ z_U := z_U_4 (i := 205) rfl rfl
theorem u_1013 : (Jvm.Cond.methodLink "PaceStoreLaw" (106 : Nat) ({ cls := "PaceStore", name := "feeling", desc := "(III)I" } : Jvm.MethodName)) ∈ z_U := z_U_4 (i := 206) rfl rfl
theorem u_1014 : (Jvm.Cond.instanceMethod ({ cls := "PaceStore", name := "feeling", desc := "(III)I" } : Jvm.MethodName)) ∈ z_U := z_U_4 (i := 207) rfl rfl
theorem u_1015 : (Jvm.Cond.selects "PaceStore" ({ cls := "PaceStore", name := "feeling", desc := "(III)I" } : Jvm.MethodName) ({ cls := "PaceStore", name := "feeling", desc := "(III)I" } : Jvm.MethodName)) ∈ z_U := z_U_4 (i := 208) rfl rfl
theorem u_1016 : (Jvm.Cond.code ({ cls := "PaceStore", name := "feeling", desc := "(III)I" } : Jvm.MethodName) prog_1_method_27_code (8 : Nat) (Option.some Jvm.ClassFile.FieldType.int)) ∈ z_U := z_U_4 (i := 209) rfl rfl
theorem u_1017 : (Jvm.Cond.methodLink "PaceStore" (298 : Nat) ({ cls := "PaceStore$Field", name := "timeByFeeling", desc := "(LPaceStore$Course;IIII)I" } : Jvm.MethodName)) ∈ z_U := z_U_4 (i := 210) rfl rfl
theorem u_1018 : (Jvm.Cond.instanceMethod ({ cls := "PaceStore$Field", name := "timeByFeeling", desc := "(LPaceStore$Course;IIII)I" } : Jvm.MethodName)) ∈ z_U := z_U_4 (i := 211) rfl rfl
theorem u_1019 : (Jvm.Cond.selects "PaceStore$Field" ({ cls := "PaceStore$Field", name := "timeByFeeling", desc := "(LPaceStore$Course;IIII)I" } : Jvm.MethodName) ({ cls := "PaceStore$Field", name := "timeByFeeling", desc := "(LPaceStore$Course;IIII)I" } : Jvm.MethodName)) ∈ z_U := z_U_4 (i := 212) rfl rfl
theorem u_1020 : (Jvm.Cond.code ({ cls := "PaceStore$Field", name := "timeByFeeling", desc := "(LPaceStore$Course;IIII)I" } : Jvm.MethodName) prog_5_method_10_code (8 : Nat) (Option.some Jvm.ClassFile.FieldType.int)) ∈ z_U := z_U_4 (i := 213) rfl rfl
theorem u_1021 : (Jvm.Cond.methodLink "PaceStoreLaw" (110 : Nat) ({ cls := "PaceStore", name := "image", desc := "(I)I" } : Jvm.MethodName)) ∈ z_U := z_U_4 (i := 214) rfl rfl
theorem u_1022 : (Jvm.Cond.instanceMethod ({ cls := "PaceStore", name := "image", desc := "(I)I" } : Jvm.MethodName)) ∈ z_U := z_U_4 (i := 215) rfl rfl
theorem u_1023 : (Jvm.Cond.selects "PaceStore" ({ cls := "PaceStore", name := "image", desc := "(I)I" } : Jvm.MethodName) ({ cls := "PaceStore", name := "image", desc := "(I)I" } : Jvm.MethodName)) ∈ z_U := z_U_4 (i := 216) rfl rfl
theorem u_1024 : (Jvm.Cond.code ({ cls := "PaceStore", name := "image", desc := "(I)I" } : Jvm.MethodName) prog_1_method_28_code (2 : Nat) (Option.some Jvm.ClassFile.FieldType.int)) ∈ z_U := z_U_4 (i := 217) rfl rfl
theorem u_1025 : (Jvm.Cond.methodLink "PaceStore" (301 : Nat) ({ cls := "PaceStore$Results", name := "become", desc := "(LPaceStore$Results;)V" } : Jvm.MethodName)) ∈ z_U := z_U_4 (i := 218) rfl rfl
theorem u_1026 : (Jvm.Cond.instanceMethod ({ cls := "PaceStore$Results", name := "become", desc := "(LPaceStore$Results;)V" } : Jvm.MethodName)) ∈ z_U := z_U_4 (i := 219) rfl rfl
theorem u_1027 : (Jvm.Cond.selects "PaceStore$Results" ({ cls := "PaceStore$Results", name := "become", desc := "(LPaceStore$Results;)V" } : Jvm.MethodName) ({ cls := "PaceStore$Results", name := "become", desc := "(LPaceStore$Results;)V" } : Jvm.MethodName)) ∈ z_U := z_U_4 (i := 220) rfl rfl
theorem u_1028 : (Jvm.Cond.code ({ cls := "PaceStore$Results", name := "become", desc := "(LPaceStore$Results;)V" } : Jvm.MethodName) prog_8_method_2_code (3 : Nat) (Option.none : Option Jvm.ClassFile.FieldType)) ∈ z_U := z_U_4 (i := 221) rfl rfl
theorem u_1029 : (Jvm.Cond.methodLink "PaceStore$Results" (28 : Nat) ({ cls := "java/lang/System", name := "arraycopy", desc := "(Ljava/lang/Object;ILjava/lang/Object;II)V" } : Jvm.MethodName)) ∈ z_U := z_U_4 (i := 222) rfl rfl
theorem u_1030 : (Jvm.Cond.methodLink "PaceStoreLaw" (114 : Nat) ({ cls := "PaceStore", name := "restore", desc := "(I)I" } : Jvm.MethodName)) ∈ z_U := z_U_4 (i := 223) rfl rfl
theorem u_1031 : (Jvm.Cond.instanceMethod ({ cls := "PaceStore", name := "restore", desc := "(I)I" } : Jvm.MethodName)) ∈ z_U := z_U_4 (i := 224) rfl rfl
theorem u_1032 : (Jvm.Cond.selects "PaceStore" ({ cls := "PaceStore", name := "restore", desc := "(I)I" } : Jvm.MethodName) ({ cls := "PaceStore", name := "restore", desc := "(I)I" } : Jvm.MethodName)) ∈ z_U := z_U_4 (i := 225) rfl rfl
theorem u_1033 : (Jvm.Cond.code ({ cls := "PaceStore", name := "restore", desc := "(I)I" } : Jvm.MethodName) prog_1_method_29_code (2 : Nat) (Option.some Jvm.ClassFile.FieldType.int)) ∈ z_U := z_U_4 (i := 226) rfl rfl
theorem u_1034 : (Jvm.Cond.methodLink "PaceStoreLaw" (118 : Nat) ({ cls := "PaceStore", name := "kind", desc := "(II)I" } : Jvm.MethodName)) ∈ z_U := z_U_4 (i := 227) rfl rfl
theorem u_1035 : (Jvm.Cond.instanceMethod ({ cls := "PaceStore", name := "kind", desc := "(II)I" } : Jvm.MethodName)) ∈ z_U := z_U_4 (i := 228) rfl rfl
theorem u_1036 : (Jvm.Cond.selects "PaceStore" ({ cls := "PaceStore", name := "kind", desc := "(II)I" } : Jvm.MethodName) ({ cls := "PaceStore", name := "kind", desc := "(II)I" } : Jvm.MethodName)) ∈ z_U := z_U_4 (i := 229) rfl rfl
theorem u_1037 : (Jvm.Cond.code ({ cls := "PaceStore", name := "kind", desc := "(II)I" } : Jvm.MethodName) prog_1_method_30_code (3 : Nat) (Option.some Jvm.ClassFile.FieldType.int)) ∈ z_U := z_U_4 (i := 230) rfl rfl
theorem u_1038 : (Jvm.Cond.methodLink "PaceStore" (304 : Nat) ({ cls := "PaceStore$Results", name := "kindOf", desc := "(II)I" } : Jvm.MethodName)) ∈ z_U := z_U_4 (i := 231) rfl rfl
theorem u_1039 : (Jvm.Cond.instanceMethod ({ cls := "PaceStore$Results", name := "kindOf", desc := "(II)I" } : Jvm.MethodName)) ∈ z_U := z_U_4 (i := 232) rfl rfl
theorem u_1040 : (Jvm.Cond.selects "PaceStore$Results" ({ cls := "PaceStore$Results", name := "kindOf", desc := "(II)I" } : Jvm.MethodName) ({ cls := "PaceStore$Results", name := "kindOf", desc := "(II)I" } : Jvm.MethodName)) ∈ z_U := z_U_4 (i := 233) rfl rfl
theorem u_1041 : (Jvm.Cond.code ({ cls := "PaceStore$Results", name := "kindOf", desc := "(II)I" } : Jvm.MethodName) prog_8_method_6_code (4 : Nat) (Option.some Jvm.ClassFile.FieldType.int)) ∈ z_U := z_U_4 (i := 234) rfl rfl
theorem u_1042 : (Jvm.Cond.methodLink "PaceStore$Results" (58 : Nat) ({ cls := "PaceStore$Results", name := "told", desc := "(III)I" } : Jvm.MethodName)) ∈ z_U := z_U_4 (i := 235) rfl rfl
theorem u_1043 : (Jvm.Cond.methodLink "PaceStoreLaw" (122 : Nat) ({ cls := "PaceStore", name := "as", desc := "(III)I" } : Jvm.MethodName)) ∈ z_U := z_U_4 (i := 236) rfl rfl
theorem u_1044 : (Jvm.Cond.instanceMethod ({ cls := "PaceStore", name := "as", desc := "(III)I" } : Jvm.MethodName)) ∈ z_U := z_U_4 (i := 237) rfl rfl
theorem u_1045 : (Jvm.Cond.selects "PaceStore" ({ cls := "PaceStore", name := "as", desc := "(III)I" } : Jvm.MethodName) ({ cls := "PaceStore", name := "as", desc := "(III)I" } : Jvm.MethodName)) ∈ z_U := z_U_4 (i := 238) rfl rfl
theorem u_1046 : (Jvm.Cond.code ({ cls := "PaceStore", name := "as", desc := "(III)I" } : Jvm.MethodName) prog_1_method_31_code (4 : Nat) (Option.some Jvm.ClassFile.FieldType.int)) ∈ z_U := z_U_4 (i := 239) rfl rfl
theorem u_1047 : (Jvm.Cond.methodLink "PaceStore" (307 : Nat) ({ cls := "PaceStore$Step", name := "isOne", desc := "(II)Z" } : Jvm.MethodName)) ∈ z_U := z_U_5 (i := 0) rfl rfl
theorem u_1048 : (Jvm.Cond.static ({ cls := "PaceStore$Step", name := "isOne", desc := "(II)Z" } : Jvm.MethodName)) ∈ z_U := z_U_5 (i := 1) rfl rfl
theorem u_1049 : (Jvm.Cond.code ({ cls := "PaceStore$Step", name := "isOne", desc := "(II)Z" } : Jvm.MethodName) prog_10_method_2_code (4 : Nat) (Option.some Jvm.ClassFile.FieldType.boolean)) ∈ z_U := z_U_5 (i := 2) rfl rfl
theorem u_1051 : (Jvm.Cond.fieldLink "PaceStore$Step" (19 : Nat) "PaceStore$Step" "NEAREST" "[I") ∈ z_U := z_U_5 (i := 4) rfl rfl
theorem u_1053 : (Jvm.Cond.methodLink "PaceStoreLaw" (126 : Nat) ({ cls := "PaceStore", name := "ask", desc := "(III)I" } : Jvm.MethodName)) ∈ z_U := z_U_5 (i := 6) rfl rfl
theorem u_1054 : (Jvm.Cond.instanceMethod ({ cls := "PaceStore", name := "ask", desc := "(III)I" } : Jvm.MethodName)) ∈ z_U := z_U_5 (i := 7) rfl rfl
theorem u_1055 : (Jvm.Cond.selects "PaceStore" ({ cls := "PaceStore", name := "ask", desc := "(III)I" } : Jvm.MethodName) ({ cls := "PaceStore", name := "ask", desc := "(III)I" } : Jvm.MethodName)) ∈ z_U := z_U_5 (i := 8) rfl rfl
theorem u_1056 : (Jvm.Cond.code ({ cls := "PaceStore", name := "ask", desc := "(III)I" } : Jvm.MethodName) prog_1_method_32_code (4 : Nat) (Option.some Jvm.ClassFile.FieldType.int)) ∈ z_U := z_U_5 (i := 9) rfl rfl
theorem u_1057 : (Jvm.Cond.methodLink "PaceStore" (310 : Nat) ({ cls := "PaceStore$Step", name := "take", desc := "(LPaceStore$Results;II)V" } : Jvm.MethodName)) ∈ z_U := z_U_5 (i := 10) rfl rfl
theorem u_1058 : (Jvm.Cond.instanceMethod ({ cls := "PaceStore$Step", name := "take", desc := "(LPaceStore$Results;II)V" } : Jvm.MethodName)) ∈ z_U := z_U_5 (i := 11) rfl rfl
theorem u_1059 : (Jvm.Cond.selects "PaceStore$Step" ({ cls := "PaceStore$Step", name := "take", desc := "(LPaceStore$Results;II)V" } : Jvm.MethodName) ({ cls := "PaceStore$Step", name := "take", desc := "(LPaceStore$Results;II)V" } : Jvm.MethodName)) ∈ z_U := z_U_5 (i := 12) rfl rfl
theorem u_1060 : (Jvm.Cond.code ({ cls := "PaceStore$Step", name := "take", desc := "(LPaceStore$Results;II)V" } : Jvm.MethodName) prog_10_method_3_code (4 : Nat) (Option.none : Option Jvm.ClassFile.FieldType)) ∈ z_U := z_U_5 (i := 13) rfl rfl
theorem u_1061 : (Jvm.Cond.methodLink "PaceStore$Step" (26 : Nat) ({ cls := "PaceStore$Results", name := "kindOf", desc := "(II)I" } : Jvm.MethodName)) ∈ z_U := z_U_5 (i := 14) rfl rfl
theorem u_1062 : (Jvm.Cond.methodLink "PaceStore$Step" (38 : Nat) ({ cls := "PaceStore$Results", name := "told", desc := "(III)I" } : Jvm.MethodName)) ∈ z_U := z_U_5 (i := 15) rfl rfl
theorem u_1063 : (Jvm.Cond.methodLink "PaceStore" (314 : Nat) ({ cls := "PaceStore$Step", name := "size", desc := "()I" } : Jvm.MethodName)) ∈ z_U := z_U_5 (i := 16) rfl rfl
theorem u_1064 : (Jvm.Cond.instanceMethod ({ cls := "PaceStore$Step", name := "size", desc := "()I" } : Jvm.MethodName)) ∈ z_U := z_U_5 (i := 17) rfl rfl
theorem u_1065 : (Jvm.Cond.selects "PaceStore$Step" ({ cls := "PaceStore$Step", name := "size", desc := "()I" } : Jvm.MethodName) ({ cls := "PaceStore$Step", name := "size", desc := "()I" } : Jvm.MethodName)) ∈ z_U := z_U_5 (i := 18) rfl rfl
theorem u_1066 : (Jvm.Cond.code ({ cls := "PaceStore$Step", name := "size", desc := "()I" } : Jvm.MethodName) prog_10_method_4_code (1 : Nat) (Option.some Jvm.ClassFile.FieldType.int)) ∈ z_U := z_U_5 (i := 19) rfl rfl
theorem u_1067 : (Jvm.Cond.fieldLink "PaceStore$Step" (51 : Nat) "PaceStore$Step" "SIZE_BODIES" "[I") ∈ z_U := z_U_5 (i := 20) rfl rfl
theorem u_1069 : (Jvm.Cond.methodLink "PaceStore$Step" (54 : Nat) ({ cls := "PaceStore$Step", name := "answer", desc := "(II)I" } : Jvm.MethodName)) ∈ z_U := z_U_5 (i := 22) rfl rfl
theorem u_1071 : (Jvm.Cond.instanceMethod ({ cls := "PaceStore$Step", name := "answer", desc := "(II)I" } : Jvm.MethodName)) ∈ z_U := z_U_5 (i := 24) rfl rfl
theorem u_1072 : (Jvm.Cond.code ({ cls := "PaceStore$Step", name := "answer", desc := "(II)I" } : Jvm.MethodName) prog_10_method_6_code (3 : Nat) (Option.some Jvm.ClassFile.FieldType.int)) ∈ z_U := z_U_5 (i := 25) rfl rfl
theorem u_1073 : (Jvm.Cond.methodLink "PaceStore$Step" (60 : Nat) ({ cls := "PaceStore$Step", name := "leaveNumber", desc := "(I)V" } : Jvm.MethodName)) ∈ z_U := z_U_5 (i := 26) rfl rfl
theorem u_1075 : (Jvm.Cond.instanceMethod ({ cls := "PaceStore$Step", name := "leaveNumber", desc := "(I)V" } : Jvm.MethodName)) ∈ z_U := z_U_5 (i := 28) rfl rfl
theorem u_1076 : (Jvm.Cond.code ({ cls := "PaceStore$Step", name := "leaveNumber", desc := "(I)V" } : Jvm.MethodName) prog_10_method_7_code (2 : Nat) (Option.none : Option Jvm.ClassFile.FieldType)) ∈ z_U := z_U_5 (i := 29) rfl rfl
theorem u_1077 : (Jvm.Cond.fieldLink "PaceStore$Step" (57 : Nat) "PaceStore$Step" "MARK_BODIES" "[I") ∈ z_U := z_U_5 (i := 30) rfl rfl
theorem u_1079 : (Jvm.Cond.methodLink "PaceStore" (316 : Nat) ({ cls := "PaceStore$Step", name := "mark", desc := "()I" } : Jvm.MethodName)) ∈ z_U := z_U_5 (i := 32) rfl rfl
theorem u_1080 : (Jvm.Cond.instanceMethod ({ cls := "PaceStore$Step", name := "mark", desc := "()I" } : Jvm.MethodName)) ∈ z_U := z_U_5 (i := 33) rfl rfl
theorem u_1081 : (Jvm.Cond.selects "PaceStore$Step" ({ cls := "PaceStore$Step", name := "mark", desc := "()I" } : Jvm.MethodName) ({ cls := "PaceStore$Step", name := "mark", desc := "()I" } : Jvm.MethodName)) ∈ z_U := z_U_5 (i := 34) rfl rfl
theorem u_1082 : (Jvm.Cond.code ({ cls := "PaceStore$Step", name := "mark", desc := "()I" } : Jvm.MethodName) prog_10_method_5_code (1 : Nat) (Option.some Jvm.ClassFile.FieldType.int)) ∈ z_U := z_U_5 (i := 35) rfl rfl
theorem u_1083 : (Jvm.Cond.methodLink "PaceStoreLaw" (130 : Nat) ({ cls := "PaceStore", name := "trace", desc := "(I)I" } : Jvm.MethodName)) ∈ z_U := z_U_5 (i := 36) rfl rfl
theorem u_1084 : (Jvm.Cond.instanceMethod ({ cls := "PaceStore", name := "trace", desc := "(I)I" } : Jvm.MethodName)) ∈ z_U := z_U_5 (i := 37) rfl rfl
theorem u_1085 : (Jvm.Cond.selects "PaceStore" ({ cls := "PaceStore", name := "trace", desc := "(I)I" } : Jvm.MethodName) ({ cls := "PaceStore", name := "trace", desc := "(I)I" } : Jvm.MethodName)) ∈ z_U := z_U_5 (i := 38) rfl rfl
theorem u_1086 : (Jvm.Cond.code ({ cls := "PaceStore", name := "trace", desc := "(I)I" } : Jvm.MethodName) prog_1_method_33_code (2 : Nat) (Option.some Jvm.ClassFile.FieldType.int)) ∈ z_U := z_U_5 (i := 39) rfl rfl
theorem u_1087 : (Jvm.Cond.methodLink "PaceStoreLaw" (134 : Nat) ({ cls := "PaceStore", name := "count", desc := "(I)I" } : Jvm.MethodName)) ∈ z_U := z_U_5 (i := 40) rfl rfl
theorem u_1088 : (Jvm.Cond.instanceMethod ({ cls := "PaceStore", name := "count", desc := "(I)I" } : Jvm.MethodName)) ∈ z_U := z_U_5 (i := 41) rfl rfl
theorem u_1089 : (Jvm.Cond.selects "PaceStore" ({ cls := "PaceStore", name := "count", desc := "(I)I" } : Jvm.MethodName) ({ cls := "PaceStore", name := "count", desc := "(I)I" } : Jvm.MethodName)) ∈ z_U := z_U_5 (i := 42) rfl rfl
theorem u_1090 : (Jvm.Cond.code ({ cls := "PaceStore", name := "count", desc := "(I)I" } : Jvm.MethodName) prog_1_method_34_code (2 : Nat) (Option.some Jvm.ClassFile.FieldType.int)) ∈ z_U := z_U_5 (i := 43) rfl rfl
theorem u_1091 : (Jvm.Cond.methodLink "PaceStore" (325 : Nat) ({ cls := "PaceStore", name := "sheetsThere", desc := "()I" } : Jvm.MethodName)) ∈ z_U := z_U_5 (i := 44) rfl rfl
theorem u_1093 : (Jvm.Cond.instanceMethod ({ cls := "PaceStore", name := "sheetsThere", desc := "()I" } : Jvm.MethodName)) ∈ z_U := z_U_5 (i := 46) rfl rfl
theorem u_1094 : (Jvm.Cond.code ({ cls := "PaceStore", name := "sheetsThere", desc := "()I" } : Jvm.MethodName) prog_1_method_36_code (3 : Nat) (Option.some Jvm.ClassFile.FieldType.int)) ∈ z_U := z_U_5 (i := 47) rfl rfl
theorem u_1095 : (Jvm.Cond.methodLink "PaceStore" (328 : Nat) ({ cls := "PaceStore$Course", name := "rulesOfAll", desc := "()I" } : Jvm.MethodName)) ∈ z_U := z_U_5 (i := 48) rfl rfl
theorem u_1096 : (Jvm.Cond.instanceMethod ({ cls := "PaceStore$Course", name := "rulesOfAll", desc := "()I" } : Jvm.MethodName)) ∈ z_U := z_U_5 (i := 49) rfl rfl
theorem u_1097 : (Jvm.Cond.selects "PaceStore$Course" ({ cls := "PaceStore$Course", name := "rulesOfAll", desc := "()I" } : Jvm.MethodName) ({ cls := "PaceStore$Course", name := "rulesOfAll", desc := "()I" } : Jvm.MethodName)) ∈ z_U := z_U_5 (i := 50) rfl rfl
theorem u_1098 : (Jvm.Cond.code ({ cls := "PaceStore$Course", name := "rulesOfAll", desc := "()I" } : Jvm.MethodName) prog_4_method_7_code (3 : Nat) (Option.some Jvm.ClassFile.FieldType.int)) ∈ z_U := z_U_5 (i := 51) rfl rfl
theorem u_1099 : (Jvm.Cond.methodLink "PaceStoreLaw" (138 : Nat) ({ cls := "PaceStore", name := "status", desc := "()I" } : Jvm.MethodName)) ∈ z_U := z_U_5 (i := 52) rfl rfl
theorem u_1100 : (Jvm.Cond.instanceMethod ({ cls := "PaceStore", name := "status", desc := "()I" } : Jvm.MethodName)) ∈ z_U := z_U_5 (i := 53) rfl rfl
theorem u_1101 : (Jvm.Cond.selects "PaceStore" ({ cls := "PaceStore", name := "status", desc := "()I" } : Jvm.MethodName) ({ cls := "PaceStore", name := "status", desc := "()I" } : Jvm.MethodName)) ∈ z_U := z_U_5 (i := 54) rfl rfl
theorem u_1102 : (Jvm.Cond.code ({ cls := "PaceStore", name := "status", desc := "()I" } : Jvm.MethodName) prog_1_method_35_code (1 : Nat) (Option.some Jvm.ClassFile.FieldType.int)) ∈ z_U := z_U_5 (i := 55) rfl rfl
theorem u_1109 : (Jvm.Cond.fieldLink "PaceStoreModel" (7 : Nat) "PaceStoreModel" "now" "[I") ∈ z_U := z_U_5 (i := 62) rfl rfl
theorem u_1110 : (Jvm.Cond.fieldLink "PaceStoreModel" (13 : Nat) "PaceStoreModel" "spare" "[I") ∈ z_U := z_U_5 (i := 63) rfl rfl
theorem u_1111 : (Jvm.Cond.fieldLink "PaceStoreModel" (16 : Nat) "PaceStoreModel" "kept" "[I") ∈ z_U := z_U_5 (i := 64) rfl rfl
theorem u_1112 : (Jvm.Cond.fieldLink "PaceStoreModel" (19 : Nat) "PaceStoreModel" "isKept" "[Z") ∈ z_U := z_U_5 (i := 65) rfl rfl
theorem u_1113 : (Jvm.Cond.fieldLink "PaceStoreModel" (23 : Nat) "PaceStoreModel" "tape" "[I") ∈ z_U := z_U_5 (i := 66) rfl rfl
theorem u_1114 : (Jvm.Cond.fieldLink "PaceStoreModel" (96 : Nat) "PaceStoreModel" "tapeLong" "I") ∈ z_U := z_U_5 (i := 67) rfl rfl
theorem u_1115 : (Jvm.Cond.fieldLink "PaceStoreModel" (135 : Nat) "PaceStoreModel" "faultNumber" "I") ∈ z_U := z_U_5 (i := 68) rfl rfl
theorem u_1116 : (Jvm.Cond.fieldLink "PaceStoreModel" (71 : Nat) "PaceStoreModel" "finding" "I") ∈ z_U := z_U_5 (i := 69) rfl rfl
theorem u_1117 : (Jvm.Cond.fieldLink "PaceStoreModel" (26 : Nat) "PaceStoreModel" "lanes" "[I") ∈ z_U := z_U_5 (i := 70) rfl rfl
theorem u_1118 : (Jvm.Cond.fieldLink "PaceStoreModel" (29 : Nat) "PaceStoreModel" "sizes" "[I") ∈ z_U := z_U_5 (i := 71) rfl rfl
theorem u_1119 : (Jvm.Cond.fieldLink "PaceStoreModel" (32 : Nat) "PaceStoreModel" "isThere" "[Z") ∈ z_U := z_U_5 (i := 72) rfl rfl
theorem u_1120 : (Jvm.Cond.fieldLink "PaceStoreModel" (35 : Nat) "PaceStoreModel" "items" "[I") ∈ z_U := z_U_5 (i := 73) rfl rfl
theorem u_1121 : (Jvm.Cond.fieldLink "PaceStoreModel" (113 : Nat) "PaceStoreModel" "at" "I") ∈ z_U := z_U_5 (i := 74) rfl rfl
theorem u_1122 : (Jvm.Cond.fieldLink "PaceStoreModel" (116 : Nat) "PaceStoreModel" "size" "I") ∈ z_U := z_U_5 (i := 75) rfl rfl
theorem u_1123 : (Jvm.Cond.fieldLink "PaceStoreModel" (119 : Nat) "PaceStoreModel" "token" "I") ∈ z_U := z_U_5 (i := 76) rfl rfl
theorem u_1124 : (Jvm.Cond.fieldLink "PaceStoreModel" (122 : Nat) "PaceStoreModel" "value" "I") ∈ z_U := z_U_5 (i := 77) rfl rfl
theorem u_1125 : (Jvm.Cond.fieldLink "PaceStoreModel" (106 : Nat) "PaceStoreModel" "tapeEnd" "I") ∈ z_U := z_U_5 (i := 78) rfl rfl
theorem u_1126 : (Jvm.Cond.fieldLink "PaceStoreModel" (141 : Nat) "PaceStoreModel" "read" "I") ∈ z_U := z_U_5 (i := 79) rfl rfl
theorem u_1127 : (Jvm.Cond.fieldLink "PaceStoreModel" (38 : Nat) "PaceStoreModel" "hourHeat" "[I") ∈ z_U := z_U_5 (i := 80) rfl rfl
theorem u_1128 : (Jvm.Cond.fieldLink "PaceStoreModel" (41 : Nat) "PaceStoreModel" "paces" "[I") ∈ z_U := z_U_5 (i := 81) rfl rfl
theorem u_1129 : (Jvm.Cond.fieldLink "PaceStoreModel" (44 : Nat) "PaceStoreModel" "lefts" "[I") ∈ z_U := z_U_5 (i := 82) rfl rfl
theorem u_1130 : (Jvm.Cond.fieldLink "PaceStoreModel" (47 : Nat) "PaceStoreModel" "times" "[I") ∈ z_U := z_U_5 (i := 83) rfl rfl
theorem u_1131 : (Jvm.Cond.fieldLink "PaceStoreModel" (50 : Nat) "PaceStoreModel" "runs" "[Z") ∈ z_U := z_U_5 (i := 84) rfl rfl
theorem u_1132 : (Jvm.Cond.fieldLink "PaceStoreModel" (53 : Nat) "PaceStoreModel" "shelters" "[Z") ∈ z_U := z_U_5 (i := 85) rfl rfl
theorem u_1133 : (Jvm.Cond.fieldLink "PaceStoreModel" (220 : Nat) "PaceStoreModel" "took" "I") ∈ z_U := z_U_5 (i := 86) rfl rfl
theorem u_1134 : (Jvm.Cond.fieldLink "PaceStoreModel" (210 : Nat) "PaceStoreModel" "isOut" "Z") ∈ z_U := z_U_5 (i := 87) rfl rfl
theorem u_1135 : (Jvm.Cond.fieldLink "PaceStoreModel" (56 : Nat) "PaceStoreModel" "least" "[I") ∈ z_U := z_U_5 (i := 88) rfl rfl
theorem u_1136 : (Jvm.Cond.fieldLink "PaceStoreModel" (59 : Nat) "PaceStoreModel" "games" "[I") ∈ z_U := z_U_5 (i := 89) rfl rfl
theorem u_1137 : (Jvm.Cond.fieldLink "PaceStoreModel" (62 : Nat) "PaceStoreModel" "traced" "[I") ∈ z_U := z_U_5 (i := 90) rfl rfl
theorem u_1138 : (Jvm.Cond.fieldLink "PaceStoreModel" (345 : Nat) "PaceStoreModel" "traceMany" "I") ∈ z_U := z_U_5 (i := 91) rfl rfl
theorem u_1139 : (Jvm.Cond.lays "PaceStoreModel" "PaceStoreModel" "now" "[I") ∈ z_U := z_U_5 (i := 92) rfl rfl
theorem u_1141 : (Jvm.Cond.lays "PaceStoreModel" "PaceStoreModel" "spare" "[I") ∈ z_U := z_U_5 (i := 94) rfl rfl
theorem u_1143 : (Jvm.Cond.laysFinal "PaceStoreModel" "PaceStoreModel" "kept" "[I") ∈ z_U := z_U_5 (i := 96) rfl rfl
theorem u_1145 : (Jvm.Cond.laysFinal "PaceStoreModel" "PaceStoreModel" "isKept" "[Z") ∈ z_U := z_U_5 (i := 98) rfl rfl
theorem u_1147 : (Jvm.Cond.laysFinal "PaceStoreModel" "PaceStoreModel" "tape" "[I") ∈ z_U := z_U_5 (i := 100) rfl rfl
theorem u_1149 : (Jvm.Cond.lays "PaceStoreModel" "PaceStoreModel" "tapeLong" "I") ∈ z_U := z_U_5 (i := 102) rfl rfl
theorem u_1151 : (Jvm.Cond.lays "PaceStoreModel" "PaceStoreModel" "faultNumber" "I") ∈ z_U := z_U_5 (i := 104) rfl rfl
theorem u_1153 : (Jvm.Cond.lays "PaceStoreModel" "PaceStoreModel" "finding" "I") ∈ z_U := z_U_5 (i := 106) rfl rfl
theorem u_1155 : (Jvm.Cond.laysFinal "PaceStoreModel" "PaceStoreModel" "lanes" "[I") ∈ z_U := z_U_5 (i := 108) rfl rfl
theorem u_1157 : (Jvm.Cond.laysFinal "PaceStoreModel" "PaceStoreModel" "sizes" "[I") ∈ z_U := z_U_5 (i := 110) rfl rfl
theorem u_1159 : (Jvm.Cond.laysFinal "PaceStoreModel" "PaceStoreModel" "isThere" "[Z") ∈ z_U := z_U_5 (i := 112) rfl rfl
theorem u_1161 : (Jvm.Cond.laysFinal "PaceStoreModel" "PaceStoreModel" "items" "[I") ∈ z_U := z_U_5 (i := 114) rfl rfl
theorem u_1163 : (Jvm.Cond.lays "PaceStoreModel" "PaceStoreModel" "at" "I") ∈ z_U := z_U_5 (i := 116) rfl rfl
theorem u_1165 : (Jvm.Cond.lays "PaceStoreModel" "PaceStoreModel" "size" "I") ∈ z_U := z_U_5 (i := 118) rfl rfl
theorem u_1167 : (Jvm.Cond.lays "PaceStoreModel" "PaceStoreModel" "token" "I") ∈ z_U := z_U_5 (i := 120) rfl rfl
theorem u_1169 : (Jvm.Cond.lays "PaceStoreModel" "PaceStoreModel" "value" "I") ∈ z_U := z_U_5 (i := 122) rfl rfl
theorem u_1171 : (Jvm.Cond.lays "PaceStoreModel" "PaceStoreModel" "tapeEnd" "I") ∈ z_U := z_U_5 (i := 124) rfl rfl
theorem u_1173 : (Jvm.Cond.lays "PaceStoreModel" "PaceStoreModel" "read" "I") ∈ z_U := z_U_5 (i := 126) rfl rfl
theorem u_1175 : (Jvm.Cond.laysFinal "PaceStoreModel" "PaceStoreModel" "hourHeat" "[I") ∈ z_U := z_U_5 (i := 128) rfl rfl
theorem u_1177 : (Jvm.Cond.laysFinal "PaceStoreModel" "PaceStoreModel" "paces" "[I") ∈ z_U := z_U_5 (i := 130) rfl rfl
theorem u_1179 : (Jvm.Cond.laysFinal "PaceStoreModel" "PaceStoreModel" "lefts" "[I") ∈ z_U := z_U_5 (i := 132) rfl rfl
theorem u_1181 : (Jvm.Cond.laysFinal "PaceStoreModel" "PaceStoreModel" "times" "[I") ∈ z_U := z_U_5 (i := 134) rfl rfl
theorem u_1183 : (Jvm.Cond.laysFinal "PaceStoreModel" "PaceStoreModel" "runs" "[Z") ∈ z_U := z_U_5 (i := 136) rfl rfl
theorem u_1185 : (Jvm.Cond.laysFinal "PaceStoreModel" "PaceStoreModel" "shelters" "[Z") ∈ z_U := z_U_5 (i := 138) rfl rfl
theorem u_1187 : (Jvm.Cond.lays "PaceStoreModel" "PaceStoreModel" "took" "I") ∈ z_U := z_U_5 (i := 140) rfl rfl
theorem u_1189 : (Jvm.Cond.lays "PaceStoreModel" "PaceStoreModel" "isOut" "Z") ∈ z_U := z_U_5 (i := 142) rfl rfl
theorem u_1191 : (Jvm.Cond.laysFinal "PaceStoreModel" "PaceStoreModel" "least" "[I") ∈ z_U := z_U_5 (i := 144) rfl rfl
theorem u_1193 : (Jvm.Cond.laysFinal "PaceStoreModel" "PaceStoreModel" "games" "[I") ∈ z_U := z_U_5 (i := 146) rfl rfl
theorem u_1195 : (Jvm.Cond.laysFinal "PaceStoreModel" "PaceStoreModel" "traced" "[I") ∈ z_U := z_U_5 (i := 148) rfl rfl
theorem u_1197 : (Jvm.Cond.lays "PaceStoreModel" "PaceStoreModel" "traceMany" "I") ∈ z_U := z_U_5 (i := 150) rfl rfl
theorem u_1201 : (Jvm.Cond.methodLink "PaceStoreLaw" (17 : Nat) ({ cls := "PaceStoreModel", name := "sheet", desc := "(III)I" } : Jvm.MethodName)) ∈ z_U := z_U_5 (i := 154) rfl rfl
theorem u_1202 : (Jvm.Cond.instanceMethod ({ cls := "PaceStoreModel", name := "sheet", desc := "(III)I" } : Jvm.MethodName)) ∈ z_U := z_U_5 (i := 155) rfl rfl
theorem u_1203 : (Jvm.Cond.selects "PaceStoreModel" ({ cls := "PaceStoreModel", name := "sheet", desc := "(III)I" } : Jvm.MethodName) ({ cls := "PaceStoreModel", name := "sheet", desc := "(III)I" } : Jvm.MethodName)) ∈ z_U := z_U_5 (i := 156) rfl rfl
theorem u_1204 : (Jvm.Cond.code ({ cls := "PaceStoreModel", name := "sheet", desc := "(III)I" } : Jvm.MethodName) prog_12_method_7_code (5 : Nat) (Option.some Jvm.ClassFile.FieldType.int)) ∈ z_U := z_U_5 (i := 157) rfl rfl
theorem u_1205 : (Jvm.Cond.methodLink "PaceStoreModel" (76 : Nat) ({ cls := "PaceStoreModel", name := "isSheet", desc := "(I)Z" } : Jvm.MethodName)) ∈ z_U := z_U_5 (i := 158) rfl rfl
theorem u_1206 : (Jvm.Cond.static ({ cls := "PaceStoreModel", name := "isSheet", desc := "(I)Z" } : Jvm.MethodName)) ∈ z_U := z_U_5 (i := 159) rfl rfl
theorem u_1207 : (Jvm.Cond.code ({ cls := "PaceStoreModel", name := "isSheet", desc := "(I)Z" } : Jvm.MethodName) prog_12_method_4_code (1 : Nat) (Option.some Jvm.ClassFile.FieldType.boolean)) ∈ z_U := z_U_5 (i := 160) rfl rfl
theorem u_1208 : (Jvm.Cond.constantLong "PaceStoreModel" (65 : Nat) (7 : Int64)) ∈ z_U := z_U_5 (i := 161) rfl rfl
theorem u_1209 : (Jvm.Cond.methodLink "PaceStoreModel" (67 : Nat) ({ cls := "PaceStoreModel", name := "in", desc := "(JJJ)Z" } : Jvm.MethodName)) ∈ z_U := z_U_5 (i := 162) rfl rfl
theorem u_1210 : (Jvm.Cond.static ({ cls := "PaceStoreModel", name := "in", desc := "(JJJ)Z" } : Jvm.MethodName)) ∈ z_U := z_U_5 (i := 163) rfl rfl
theorem u_1211 : (Jvm.Cond.code ({ cls := "PaceStoreModel", name := "in", desc := "(JJJ)Z" } : Jvm.MethodName) prog_12_method_3_code (6 : Nat) (Option.some Jvm.ClassFile.FieldType.boolean)) ∈ z_U := z_U_5 (i := 164) rfl rfl
theorem u_1212 : (Jvm.Cond.constantLong "PaceStoreModel" (80 : Nat) (2 : Int64)) ∈ z_U := z_U_5 (i := 165) rfl rfl
theorem u_1213 : (Jvm.Cond.constant "PaceStoreModel" (82 : Nat) (-1000001 : Int32)) ∈ z_U := z_U_5 (i := 166) rfl rfl
theorem u_1214 : (Jvm.Cond.methodLink "PaceStoreModel" (83 : Nat) ({ cls := "PaceStoreModel", name := "found", desc := "(I)I" } : Jvm.MethodName)) ∈ z_U := z_U_5 (i := 167) rfl rfl
theorem u_1216 : (Jvm.Cond.instanceMethod ({ cls := "PaceStoreModel", name := "found", desc := "(I)I" } : Jvm.MethodName)) ∈ z_U := z_U_5 (i := 169) rfl rfl
theorem u_1217 : (Jvm.Cond.code ({ cls := "PaceStoreModel", name := "found", desc := "(I)I" } : Jvm.MethodName) prog_12_method_5_code (2 : Nat) (Option.some Jvm.ClassFile.FieldType.int)) ∈ z_U := z_U_5 (i := 170) rfl rfl
theorem u_1218 : (Jvm.Cond.constant "PaceStoreModel" (75 : Nat) (-1000010 : Int32)) ∈ z_U := z_U_5 (i := 171) rfl rfl
theorem u_1219 : (Jvm.Cond.methodLink "PaceStoreModel" (87 : Nat) ({ cls := "PaceStoreModel", name := "through", desc := "(I)I" } : Jvm.MethodName)) ∈ z_U := z_U_5 (i := 172) rfl rfl
theorem u_1221 : (Jvm.Cond.instanceMethod ({ cls := "PaceStoreModel", name := "through", desc := "(I)I" } : Jvm.MethodName)) ∈ z_U := z_U_5 (i := 174) rfl rfl
theorem u_1222 : (Jvm.Cond.code ({ cls := "PaceStoreModel", name := "through", desc := "(I)I" } : Jvm.MethodName) prog_12_method_6_code (2 : Nat) (Option.some Jvm.ClassFile.FieldType.int)) ∈ z_U := z_U_5 (i := 175) rfl rfl
theorem u_1223 : (Jvm.Cond.methodLink "PaceStoreLaw" (21 : Nat) ({ cls := "PaceStoreModel", name := "set", desc := "(III)I" } : Jvm.MethodName)) ∈ z_U := z_U_5 (i := 176) rfl rfl
theorem u_1224 : (Jvm.Cond.instanceMethod ({ cls := "PaceStoreModel", name := "set", desc := "(III)I" } : Jvm.MethodName)) ∈ z_U := z_U_5 (i := 177) rfl rfl
theorem u_1225 : (Jvm.Cond.selects "PaceStoreModel" ({ cls := "PaceStoreModel", name := "set", desc := "(III)I" } : Jvm.MethodName) ({ cls := "PaceStoreModel", name := "set", desc := "(III)I" } : Jvm.MethodName)) ∈ z_U := z_U_5 (i := 178) rfl rfl
theorem u_1226 : (Jvm.Cond.code ({ cls := "PaceStoreModel", name := "set", desc := "(III)I" } : Jvm.MethodName) prog_12_method_8_code (5 : Nat) (Option.some Jvm.ClassFile.FieldType.int)) ∈ z_U := z_U_5 (i := 179) rfl rfl
theorem u_1227 : (Jvm.Cond.methodLink "PaceStoreLaw" (26 : Nat) ({ cls := "PaceStoreModel", name := "copy", desc := "(IIIII)I" } : Jvm.MethodName)) ∈ z_U := z_U_5 (i := 180) rfl rfl
theorem u_1228 : (Jvm.Cond.instanceMethod ({ cls := "PaceStoreModel", name := "copy", desc := "(IIIII)I" } : Jvm.MethodName)) ∈ z_U := z_U_5 (i := 181) rfl rfl
theorem u_1229 : (Jvm.Cond.selects "PaceStoreModel" ({ cls := "PaceStoreModel", name := "copy", desc := "(IIIII)I" } : Jvm.MethodName) ({ cls := "PaceStoreModel", name := "copy", desc := "(IIIII)I" } : Jvm.MethodName)) ∈ z_U := z_U_5 (i := 182) rfl rfl
theorem u_1230 : (Jvm.Cond.code ({ cls := "PaceStoreModel", name := "copy", desc := "(IIIII)I" } : Jvm.MethodName) prog_12_method_10_code (7 : Nat) (Option.some Jvm.ClassFile.FieldType.int)) ∈ z_U := z_U_5 (i := 183) rfl rfl
theorem u_1231 : (Jvm.Cond.methodLink "PaceStoreModel" (90 : Nat) ({ cls := "PaceStoreModel", name := "holds", desc := "(III)Z" } : Jvm.MethodName)) ∈ z_U := z_U_5 (i := 184) rfl rfl
theorem u_1233 : (Jvm.Cond.instanceMethod ({ cls := "PaceStoreModel", name := "holds", desc := "(III)Z" } : Jvm.MethodName)) ∈ z_U := z_U_5 (i := 186) rfl rfl
theorem u_1234 : (Jvm.Cond.code ({ cls := "PaceStoreModel", name := "holds", desc := "(III)Z" } : Jvm.MethodName) prog_12_method_9_code (4 : Nat) (Option.some Jvm.ClassFile.FieldType.boolean)) ∈ z_U := z_U_5 (i := 187) rfl rfl
theorem u_1235 : (Jvm.Cond.methodLink "PaceStoreLaw" (31 : Nat) ({ cls := "PaceStoreModel", name := "drop", desc := "(I)I" } : Jvm.MethodName)) ∈ z_U := z_U_5 (i := 188) rfl rfl
theorem u_1236 : (Jvm.Cond.instanceMethod ({ cls := "PaceStoreModel", name := "drop", desc := "(I)I" } : Jvm.MethodName)) ∈ z_U := z_U_5 (i := 189) rfl rfl
theorem u_1237 : (Jvm.Cond.selects "PaceStoreModel" ({ cls := "PaceStoreModel", name := "drop", desc := "(I)I" } : Jvm.MethodName) ({ cls := "PaceStoreModel", name := "drop", desc := "(I)I" } : Jvm.MethodName)) ∈ z_U := z_U_5 (i := 190) rfl rfl
theorem u_1238 : (Jvm.Cond.code ({ cls := "PaceStoreModel", name := "drop", desc := "(I)I" } : Jvm.MethodName) prog_12_method_11_code (2 : Nat) (Option.some Jvm.ClassFile.FieldType.int)) ∈ z_U := z_U_5 (i := 191) rfl rfl
theorem u_1239 : (Jvm.Cond.methodLink "PaceStoreLaw" (38 : Nat) ({ cls := "PaceStoreModel", name := "feed", desc := "(JI)I" } : Jvm.MethodName)) ∈ z_U := z_U_5 (i := 192) rfl rfl
theorem u_1240 : (Jvm.Cond.instanceMethod ({ cls := "PaceStoreModel", name := "feed", desc := "(JI)I" } : Jvm.MethodName)) ∈ z_U := z_U_5 (i := 193) rfl rfl
theorem u_1241 : (Jvm.Cond.selects "PaceStoreModel" ({ cls := "PaceStoreModel", name := "feed", desc := "(JI)I" } : Jvm.MethodName) ({ cls := "PaceStoreModel", name := "feed", desc := "(JI)I" } : Jvm.MethodName)) ∈ z_U := z_U_5 (i := 194) rfl rfl
theorem u_1242 : (Jvm.Cond.code ({ cls := "PaceStoreModel", name := "feed", desc := "(JI)I" } : Jvm.MethodName) prog_12_method_13_code (5 : Nat) (Option.some Jvm.ClassFile.FieldType.int)) ∈ z_U := z_U_5 (i := 195) rfl rfl
theorem u_1243 : (Jvm.Cond.constantLong "PaceStoreModel" (94 : Nat) (8 : Int64)) ∈ z_U := z_U_5 (i := 196) rfl rfl
theorem u_1244 : (Jvm.Cond.constant "PaceStoreModel" (99 : Nat) (-1000003 : Int32)) ∈ z_U := z_U_5 (i := 197) rfl rfl
theorem u_1245 : (Jvm.Cond.constantLong "PaceStoreModel" (100 : Nat) (255 : Int64)) ∈ z_U := z_U_5 (i := 198) rfl rfl
theorem u_1246 : (Jvm.Cond.methodLink "PaceStoreLaw" (43 : Nat) ({ cls := "PaceStoreModel", name := "course", desc := "()I" } : Jvm.MethodName)) ∈ z_U := z_U_5 (i := 199) rfl rfl
theorem u_1247 : (Jvm.Cond.instanceMethod ({ cls := "PaceStoreModel", name := "course", desc := "()I" } : Jvm.MethodName)) ∈ z_U := z_U_5 (i := 200) rfl rfl
theorem u_1248 : (Jvm.Cond.selects "PaceStoreModel" ({ cls := "PaceStoreModel", name := "course", desc := "()I" } : Jvm.MethodName) ({ cls := "PaceStoreModel", name := "course", desc := "()I" } : Jvm.MethodName)) ∈ z_U := z_U_5 (i := 201) rfl rfl
theorem u_1249 : (Jvm.Cond.code ({ cls := "PaceStoreModel", name := "course", desc := "()I" } : Jvm.MethodName) prog_12_method_29_code (2 : Nat) (Option.some Jvm.ClassFile.FieldType.int)) ∈ z_U := z_U_5 (i := 202) rfl rfl
theorem u_1250 : (Jvm.Cond.methodLink "PaceStoreModel" (177 : Nat) ({ cls := "PaceStoreModel", name := "readAll", desc := "()Z" } : Jvm.MethodName)) ∈ z_U := z_U_5 (i := 203) rfl rfl
theorem u_1252 : (Jvm.Cond.instanceMethod ({ cls := "PaceStoreModel", name := "readAll", desc := "()Z" } : Jvm.MethodName)) ∈ z_U := z_U_5 (i := 205) rfl rfl
theorem u_1253 : (Jvm.Cond.code ({ cls := "PaceStoreModel", name := "readAll", desc := "()Z" } : Jvm.MethodName) prog_12_method_28_code (1 : Nat) (Option.some Jvm.ClassFile.FieldType.boolean)) ∈ z_U := z_U_5 (i := 206) rfl rfl
theorem u_1254 : (Jvm.Cond.methodLink "PaceStoreModel" (131 : Nat) ({ cls := "PaceStoreModel", name := "look", desc := "(I)V" } : Jvm.MethodName)) ∈ z_U := z_U_5 (i := 207) rfl rfl
theorem u_1256 : (Jvm.Cond.instanceMethod ({ cls := "PaceStoreModel", name := "look", desc := "(I)V" } : Jvm.MethodName)) ∈ z_U := z_U_5 (i := 209) rfl rfl
theorem u_1257 : (Jvm.Cond.code ({ cls := "PaceStoreModel", name := "look", desc := "(I)V" } : Jvm.MethodName) prog_12_method_16_code (4 : Nat) (Option.none : Option Jvm.ClassFile.FieldType)) ∈ z_U := z_U_5 (i := 210) rfl rfl
theorem u_1258 : (Jvm.Cond.methodLink "PaceStoreModel" (125 : Nat) ({ cls := "PaceStoreModel", name := "isFigureAt", desc := "(I)Z" } : Jvm.MethodName)) ∈ z_U := z_U_5 (i := 211) rfl rfl
theorem u_1260 : (Jvm.Cond.instanceMethod ({ cls := "PaceStoreModel", name := "isFigureAt", desc := "(I)Z" } : Jvm.MethodName)) ∈ z_U := z_U_5 (i := 213) rfl rfl
theorem u_1261 : (Jvm.Cond.code ({ cls := "PaceStoreModel", name := "isFigureAt", desc := "(I)Z" } : Jvm.MethodName) prog_12_method_15_code (2 : Nat) (Option.some Jvm.ClassFile.FieldType.boolean)) ∈ z_U := z_U_5 (i := 214) rfl rfl
theorem u_1262 : (Jvm.Cond.constantLong "PaceStoreModel" (109 : Nat) (48 : Int64)) ∈ z_U := z_U_5 (i := 215) rfl rfl
theorem u_1263 : (Jvm.Cond.constantLong "PaceStoreModel" (111 : Nat) (57 : Int64)) ∈ z_U := z_U_5 (i := 216) rfl rfl
theorem u_1264 : (Jvm.Cond.methodLink "PaceStoreModel" (128 : Nat) ({ cls := "PaceStoreModel", name := "isSmall", desc := "(I)Z" } : Jvm.MethodName)) ∈ z_U := z_U_5 (i := 217) rfl rfl
theorem u_1265 : (Jvm.Cond.static ({ cls := "PaceStoreModel", name := "isSmall", desc := "(I)Z" } : Jvm.MethodName)) ∈ z_U := z_U_5 (i := 218) rfl rfl
theorem u_1266 : (Jvm.Cond.code ({ cls := "PaceStoreModel", name := "isSmall", desc := "(I)Z" } : Jvm.MethodName) prog_12_method_14_code (1 : Nat) (Option.some Jvm.ClassFile.FieldType.boolean)) ∈ z_U := z_U_5 (i := 219) rfl rfl
theorem u_1267 : (Jvm.Cond.constantLong "PaceStoreModel" (102 : Nat) (97 : Int64)) ∈ z_U := z_U_5 (i := 220) rfl rfl
theorem u_1268 : (Jvm.Cond.constantLong "PaceStoreModel" (104 : Nat) (122 : Int64)) ∈ z_U := z_U_5 (i := 221) rfl rfl
theorem u_1269 : (Jvm.Cond.methodLink "PaceStoreModel" (162 : Nat) ({ cls := "PaceStoreModel", name := "isMileWord", desc := "()Z" } : Jvm.MethodName)) ∈ z_U := z_U_5 (i := 222) rfl rfl
theorem u_1271 : (Jvm.Cond.instanceMethod ({ cls := "PaceStoreModel", name := "isMileWord", desc := "()Z" } : Jvm.MethodName)) ∈ z_U := z_U_5 (i := 224) rfl rfl
theorem u_1272 : (Jvm.Cond.code ({ cls := "PaceStoreModel", name := "isMileWord", desc := "()Z" } : Jvm.MethodName) prog_12_method_26_code (1 : Nat) (Option.some Jvm.ClassFile.FieldType.boolean)) ∈ z_U := z_U_5 (i := 225) rfl rfl
theorem u_1273 : (Jvm.Cond.methodLink "PaceStoreModel" (155 : Nat) ({ cls := "PaceStoreModel", name := "isWord", desc := "(IIIIII)Z" } : Jvm.MethodName)) ∈ z_U := z_U_5 (i := 226) rfl rfl
theorem u_1275 : (Jvm.Cond.instanceMethod ({ cls := "PaceStoreModel", name := "isWord", desc := "(IIIIII)Z" } : Jvm.MethodName)) ∈ z_U := z_U_5 (i := 228) rfl rfl
theorem u_1276 : (Jvm.Cond.code ({ cls := "PaceStoreModel", name := "isWord", desc := "(IIIIII)Z" } : Jvm.MethodName) prog_12_method_18_code (10 : Nat) (Option.some Jvm.ClassFile.FieldType.boolean)) ∈ z_U := z_U_5 (i := 229) rfl rfl
theorem u_1277 : (Jvm.Cond.methodLink "PaceStoreModel" (138 : Nat) ({ cls := "PaceStoreModel", name := "faulty", desc := "(I)Z" } : Jvm.MethodName)) ∈ z_U := z_U_5 (i := 230) rfl rfl
theorem u_1279 : (Jvm.Cond.instanceMethod ({ cls := "PaceStoreModel", name := "faulty", desc := "(I)Z" } : Jvm.MethodName)) ∈ z_U := z_U_5 (i := 232) rfl rfl
theorem u_1280 : (Jvm.Cond.code ({ cls := "PaceStoreModel", name := "faulty", desc := "(I)Z" } : Jvm.MethodName) prog_12_method_19_code (2 : Nat) (Option.some Jvm.ClassFile.FieldType.boolean)) ∈ z_U := z_U_5 (i := 233) rfl rfl
theorem u_1281 : (Jvm.Cond.methodLink "PaceStoreModel" (165 : Nat) ({ cls := "PaceStoreModel", name := "readMile", desc := "()Z" } : Jvm.MethodName)) ∈ z_U := z_U_5 (i := 234) rfl rfl
theorem u_1283 : (Jvm.Cond.instanceMethod ({ cls := "PaceStoreModel", name := "readMile", desc := "()Z" } : Jvm.MethodName)) ∈ z_U := z_U_5 (i := 236) rfl rfl
theorem u_1284 : (Jvm.Cond.code ({ cls := "PaceStoreModel", name := "readMile", desc := "()Z" } : Jvm.MethodName) prog_12_method_22_code (3 : Nat) (Option.some Jvm.ClassFile.FieldType.boolean)) ∈ z_U := z_U_5 (i := 237) rfl rfl
theorem u_1285 : (Jvm.Cond.methodLink "PaceStoreModel" (144 : Nat) ({ cls := "PaceStoreModel", name := "next", desc := "()V" } : Jvm.MethodName)) ∈ z_U := z_U_5 (i := 238) rfl rfl
theorem u_1287 : (Jvm.Cond.instanceMethod ({ cls := "PaceStoreModel", name := "next", desc := "()V" } : Jvm.MethodName)) ∈ z_U := z_U_6 (i := 0) rfl rfl
theorem u_1288 : (Jvm.Cond.code ({ cls := "PaceStoreModel", name := "next", desc := "()V" } : Jvm.MethodName) prog_12_method_17_code (1 : Nat) (Option.none : Option Jvm.ClassFile.FieldType)) ∈ z_U := z_U_6 (i := 1) rfl rfl
theorem u_1289 : (Jvm.Cond.methodLink "PaceStoreModel" (147 : Nat) ({ cls := "PaceStoreModel", name := "readNumber", desc := "(II)Z" } : Jvm.MethodName)) ∈ z_U := z_U_6 (i := 2) rfl rfl
theorem u_1291 : (Jvm.Cond.instanceMethod ({ cls := "PaceStoreModel", name := "readNumber", desc := "(II)Z" } : Jvm.MethodName)) ∈ z_U := z_U_6 (i := 4) rfl rfl
theorem u_1292 : (Jvm.Cond.code ({ cls := "PaceStoreModel", name := "readNumber", desc := "(II)Z" } : Jvm.MethodName) prog_12_method_20_code (3 : Nat) (Option.some Jvm.ClassFile.FieldType.boolean)) ∈ z_U := z_U_6 (i := 5) rfl rfl
theorem u_1293 : (Jvm.Cond.methodLink "PaceStoreModel" (151 : Nat) ({ cls := "PaceStoreModel", name := "readStop", desc := "()Z" } : Jvm.MethodName)) ∈ z_U := z_U_6 (i := 6) rfl rfl
theorem u_1295 : (Jvm.Cond.instanceMethod ({ cls := "PaceStoreModel", name := "readStop", desc := "()Z" } : Jvm.MethodName)) ∈ z_U := z_U_6 (i := 8) rfl rfl
theorem u_1296 : (Jvm.Cond.code ({ cls := "PaceStoreModel", name := "readStop", desc := "()Z" } : Jvm.MethodName) prog_12_method_21_code (1 : Nat) (Option.some Jvm.ClassFile.FieldType.boolean)) ∈ z_U := z_U_6 (i := 9) rfl rfl
theorem u_1297 : (Jvm.Cond.methodLink "PaceStoreModel" (168 : Nat) ({ cls := "PaceStoreModel", name := "isRunnerWord", desc := "()Z" } : Jvm.MethodName)) ∈ z_U := z_U_6 (i := 10) rfl rfl
theorem u_1299 : (Jvm.Cond.instanceMethod ({ cls := "PaceStoreModel", name := "isRunnerWord", desc := "()Z" } : Jvm.MethodName)) ∈ z_U := z_U_6 (i := 12) rfl rfl
theorem u_1300 : (Jvm.Cond.code ({ cls := "PaceStoreModel", name := "isRunnerWord", desc := "()Z" } : Jvm.MethodName) prog_12_method_27_code (1 : Nat) (Option.some Jvm.ClassFile.FieldType.boolean)) ∈ z_U := z_U_6 (i := 13) rfl rfl
theorem u_1301 : (Jvm.Cond.methodLink "PaceStoreModel" (171 : Nat) ({ cls := "PaceStoreModel", name := "readRunner", desc := "()Z" } : Jvm.MethodName)) ∈ z_U := z_U_6 (i := 14) rfl rfl
theorem u_1303 : (Jvm.Cond.instanceMethod ({ cls := "PaceStoreModel", name := "readRunner", desc := "()Z" } : Jvm.MethodName)) ∈ z_U := z_U_6 (i := 16) rfl rfl
theorem u_1304 : (Jvm.Cond.code ({ cls := "PaceStoreModel", name := "readRunner", desc := "()Z" } : Jvm.MethodName) prog_12_method_23_code (3 : Nat) (Option.some Jvm.ClassFile.FieldType.boolean)) ∈ z_U := z_U_6 (i := 17) rfl rfl
theorem u_1305 : (Jvm.Cond.methodLink "PaceStoreModel" (159 : Nat) ({ cls := "PaceStoreModel", name := "readRule", desc := "(I)Z" } : Jvm.MethodName)) ∈ z_U := z_U_6 (i := 18) rfl rfl
theorem u_1307 : (Jvm.Cond.instanceMethod ({ cls := "PaceStoreModel", name := "readRule", desc := "(I)Z" } : Jvm.MethodName)) ∈ z_U := z_U_6 (i := 20) rfl rfl
theorem u_1308 : (Jvm.Cond.code ({ cls := "PaceStoreModel", name := "readRule", desc := "(I)Z" } : Jvm.MethodName) prog_12_method_24_code (7 : Nat) (Option.some Jvm.ClassFile.FieldType.boolean)) ∈ z_U := z_U_6 (i := 21) rfl rfl
theorem u_1309 : (Jvm.Cond.methodLink "PaceStoreModel" (174 : Nat) ({ cls := "PaceStoreModel", name := "readRabbit", desc := "()Z" } : Jvm.MethodName)) ∈ z_U := z_U_6 (i := 22) rfl rfl
theorem u_1311 : (Jvm.Cond.instanceMethod ({ cls := "PaceStoreModel", name := "readRabbit", desc := "()Z" } : Jvm.MethodName)) ∈ z_U := z_U_6 (i := 24) rfl rfl
theorem u_1312 : (Jvm.Cond.code ({ cls := "PaceStoreModel", name := "readRabbit", desc := "()Z" } : Jvm.MethodName) prog_12_method_25_code (3 : Nat) (Option.some Jvm.ClassFile.FieldType.boolean)) ∈ z_U := z_U_6 (i := 25) rfl rfl
theorem u_1313 : (Jvm.Cond.constant "PaceStoreModel" (180 : Nat) (-1000100 : Int32)) ∈ z_U := z_U_6 (i := 26) rfl rfl
theorem u_1314 : (Jvm.Cond.methodLink "PaceStoreModel" (181 : Nat) ({ cls := "PaceStoreModel", name := "miles", desc := "()I" } : Jvm.MethodName)) ∈ z_U := z_U_6 (i := 27) rfl rfl
theorem u_1316 : (Jvm.Cond.instanceMethod ({ cls := "PaceStoreModel", name := "miles", desc := "()I" } : Jvm.MethodName)) ∈ z_U := z_U_6 (i := 29) rfl rfl
theorem u_1317 : (Jvm.Cond.code ({ cls := "PaceStoreModel", name := "miles", desc := "()I" } : Jvm.MethodName) prog_12_method_31_code (1 : Nat) (Option.some Jvm.ClassFile.FieldType.int)) ∈ z_U := z_U_6 (i := 30) rfl rfl
theorem u_1318 : (Jvm.Cond.methodLink "PaceStoreLaw" (47 : Nat) ({ cls := "PaceStoreModel", name := "fault", desc := "()I" } : Jvm.MethodName)) ∈ z_U := z_U_6 (i := 31) rfl rfl
theorem u_1319 : (Jvm.Cond.instanceMethod ({ cls := "PaceStoreModel", name := "fault", desc := "()I" } : Jvm.MethodName)) ∈ z_U := z_U_6 (i := 32) rfl rfl
theorem u_1320 : (Jvm.Cond.selects "PaceStoreModel" ({ cls := "PaceStoreModel", name := "fault", desc := "()I" } : Jvm.MethodName) ({ cls := "PaceStoreModel", name := "fault", desc := "()I" } : Jvm.MethodName)) ∈ z_U := z_U_6 (i := 33) rfl rfl
theorem u_1321 : (Jvm.Cond.code ({ cls := "PaceStoreModel", name := "fault", desc := "()I" } : Jvm.MethodName) prog_12_method_30_code (1 : Nat) (Option.some Jvm.ClassFile.FieldType.int)) ∈ z_U := z_U_6 (i := 34) rfl rfl
theorem u_1322 : (Jvm.Cond.methodLink "PaceStoreLaw" (51 : Nat) ({ cls := "PaceStoreModel", name := "need", desc := "(III)I" } : Jvm.MethodName)) ∈ z_U := z_U_6 (i := 35) rfl rfl
theorem u_1323 : (Jvm.Cond.instanceMethod ({ cls := "PaceStoreModel", name := "need", desc := "(III)I" } : Jvm.MethodName)) ∈ z_U := z_U_6 (i := 36) rfl rfl
theorem u_1324 : (Jvm.Cond.selects "PaceStoreModel" ({ cls := "PaceStoreModel", name := "need", desc := "(III)I" } : Jvm.MethodName) ({ cls := "PaceStoreModel", name := "need", desc := "(III)I" } : Jvm.MethodName)) ∈ z_U := z_U_6 (i := 37) rfl rfl
theorem u_1325 : (Jvm.Cond.code ({ cls := "PaceStoreModel", name := "need", desc := "(III)I" } : Jvm.MethodName) prog_12_method_41_code (4 : Nat) (Option.some Jvm.ClassFile.FieldType.int)) ∈ z_U := z_U_6 (i := 38) rfl rfl
theorem u_1326 : (Jvm.Cond.methodLink "PaceStoreModel" (192 : Nat) ({ cls := "PaceStoreModel", name := "isMile", desc := "(I)Z" } : Jvm.MethodName)) ∈ z_U := z_U_6 (i := 39) rfl rfl
theorem u_1328 : (Jvm.Cond.instanceMethod ({ cls := "PaceStoreModel", name := "isMile", desc := "(I)Z" } : Jvm.MethodName)) ∈ z_U := z_U_6 (i := 41) rfl rfl
theorem u_1329 : (Jvm.Cond.code ({ cls := "PaceStoreModel", name := "isMile", desc := "(I)Z" } : Jvm.MethodName) prog_12_method_34_code (2 : Nat) (Option.some Jvm.ClassFile.FieldType.boolean)) ∈ z_U := z_U_6 (i := 42) rfl rfl
theorem u_1330 : (Jvm.Cond.methodLink "PaceStoreModel" (195 : Nat) ({ cls := "PaceStoreModel", name := "isPace", desc := "(I)Z" } : Jvm.MethodName)) ∈ z_U := z_U_6 (i := 43) rfl rfl
theorem u_1331 : (Jvm.Cond.static ({ cls := "PaceStoreModel", name := "isPace", desc := "(I)Z" } : Jvm.MethodName)) ∈ z_U := z_U_6 (i := 44) rfl rfl
theorem u_1332 : (Jvm.Cond.code ({ cls := "PaceStoreModel", name := "isPace", desc := "(I)Z" } : Jvm.MethodName) prog_12_method_36_code (1 : Nat) (Option.some Jvm.ClassFile.FieldType.boolean)) ∈ z_U := z_U_6 (i := 45) rfl rfl
theorem u_1333 : (Jvm.Cond.constantLong "PaceStoreModel" (188 : Nat) (10 : Int64)) ∈ z_U := z_U_6 (i := 46) rfl rfl
theorem u_1334 : (Jvm.Cond.constantLong "PaceStoreModel" (190 : Nat) (40 : Int64)) ∈ z_U := z_U_6 (i := 47) rfl rfl
theorem u_1335 : (Jvm.Cond.methodLink "PaceStoreModel" (198 : Nat) ({ cls := "PaceStoreModel", name := "needOf", desc := "(IIZ)I" } : Jvm.MethodName)) ∈ z_U := z_U_6 (i := 48) rfl rfl
theorem u_1337 : (Jvm.Cond.instanceMethod ({ cls := "PaceStoreModel", name := "needOf", desc := "(IIZ)I" } : Jvm.MethodName)) ∈ z_U := z_U_6 (i := 50) rfl rfl
theorem u_1338 : (Jvm.Cond.code ({ cls := "PaceStoreModel", name := "needOf", desc := "(IIZ)I" } : Jvm.MethodName) prog_12_method_39_code (5 : Nat) (Option.some Jvm.ClassFile.FieldType.int)) ∈ z_U := z_U_6 (i := 51) rfl rfl
theorem u_1339 : (Jvm.Cond.methodLink "PaceStoreLaw" (55 : Nat) ({ cls := "PaceStoreModel", name := "race", desc := "(III)I" } : Jvm.MethodName)) ∈ z_U := z_U_6 (i := 52) rfl rfl
theorem u_1340 : (Jvm.Cond.instanceMethod ({ cls := "PaceStoreModel", name := "race", desc := "(III)I" } : Jvm.MethodName)) ∈ z_U := z_U_6 (i := 53) rfl rfl
theorem u_1341 : (Jvm.Cond.selects "PaceStoreModel" ({ cls := "PaceStoreModel", name := "race", desc := "(III)I" } : Jvm.MethodName) ({ cls := "PaceStoreModel", name := "race", desc := "(III)I" } : Jvm.MethodName)) ∈ z_U := z_U_6 (i := 54) rfl rfl
theorem u_1342 : (Jvm.Cond.code ({ cls := "PaceStoreModel", name := "race", desc := "(III)I" } : Jvm.MethodName) prog_12_method_51_code (10 : Nat) (Option.some Jvm.ClassFile.FieldType.int)) ∈ z_U := z_U_6 (i := 55) rfl rfl
theorem u_1343 : (Jvm.Cond.constantLong "PaceStoreModel" (232 : Nat) (999999 : Int64)) ∈ z_U := z_U_6 (i := 56) rfl rfl
theorem u_1344 : (Jvm.Cond.constant "PaceStoreModel" (234 : Nat) (-1000002 : Int32)) ∈ z_U := z_U_6 (i := 57) rfl rfl
theorem u_1345 : (Jvm.Cond.methodLink "PaceStoreModel" (185 : Nat) ({ cls := "PaceStoreModel", name := "runners", desc := "()I" } : Jvm.MethodName)) ∈ z_U := z_U_6 (i := 58) rfl rfl
theorem u_1347 : (Jvm.Cond.instanceMethod ({ cls := "PaceStoreModel", name := "runners", desc := "()I" } : Jvm.MethodName)) ∈ z_U := z_U_6 (i := 60) rfl rfl
theorem u_1348 : (Jvm.Cond.code ({ cls := "PaceStoreModel", name := "runners", desc := "()I" } : Jvm.MethodName) prog_12_method_32_code (1 : Nat) (Option.some Jvm.ClassFile.FieldType.int)) ∈ z_U := z_U_6 (i := 61) rfl rfl
theorem u_1349 : (Jvm.Cond.methodLink "PaceStoreModel" (235 : Nat) ({ cls := "PaceStoreModel", name := "item", desc := "(II)I" } : Jvm.MethodName)) ∈ z_U := z_U_6 (i := 62) rfl rfl
theorem u_1351 : (Jvm.Cond.instanceMethod ({ cls := "PaceStoreModel", name := "item", desc := "(II)I" } : Jvm.MethodName)) ∈ z_U := z_U_6 (i := 64) rfl rfl
theorem u_1352 : (Jvm.Cond.code ({ cls := "PaceStoreModel", name := "item", desc := "(II)I" } : Jvm.MethodName) prog_12_method_12_code (3 : Nat) (Option.some Jvm.ClassFile.FieldType.int)) ∈ z_U := z_U_6 (i := 65) rfl rfl
theorem u_1353 : (Jvm.Cond.methodLink "PaceStoreModel" (238 : Nat) ({ cls := "PaceStoreModel", name := "startRace", desc := "()V" } : Jvm.MethodName)) ∈ z_U := z_U_6 (i := 66) rfl rfl
theorem u_1355 : (Jvm.Cond.instanceMethod ({ cls := "PaceStoreModel", name := "startRace", desc := "()V" } : Jvm.MethodName)) ∈ z_U := z_U_6 (i := 68) rfl rfl
theorem u_1356 : (Jvm.Cond.code ({ cls := "PaceStoreModel", name := "startRace", desc := "()V" } : Jvm.MethodName) prog_12_method_46_code (2 : Nat) (Option.none : Option Jvm.ClassFile.FieldType)) ∈ z_U := z_U_6 (i := 69) rfl rfl
theorem u_1357 : (Jvm.Cond.methodLink "PaceStoreModel" (202 : Nat) ({ cls := "PaceStoreModel", name := "ofRunner", desc := "(II)I" } : Jvm.MethodName)) ∈ z_U := z_U_6 (i := 70) rfl rfl
theorem u_1359 : (Jvm.Cond.instanceMethod ({ cls := "PaceStoreModel", name := "ofRunner", desc := "(II)I" } : Jvm.MethodName)) ∈ z_U := z_U_6 (i := 72) rfl rfl
theorem u_1360 : (Jvm.Cond.code ({ cls := "PaceStoreModel", name := "ofRunner", desc := "(II)I" } : Jvm.MethodName) prog_12_method_37_code (3 : Nat) (Option.some Jvm.ClassFile.FieldType.int)) ∈ z_U := z_U_6 (i := 73) rfl rfl
theorem u_1361 : (Jvm.Cond.methodLink "PaceStoreModel" (241 : Nat) ({ cls := "PaceStoreModel", name := "leastTime", desc := "()I" } : Jvm.MethodName)) ∈ z_U := z_U_6 (i := 74) rfl rfl
theorem u_1363 : (Jvm.Cond.instanceMethod ({ cls := "PaceStoreModel", name := "leastTime", desc := "()I" } : Jvm.MethodName)) ∈ z_U := z_U_6 (i := 76) rfl rfl
theorem u_1364 : (Jvm.Cond.code ({ cls := "PaceStoreModel", name := "leastTime", desc := "()I" } : Jvm.MethodName) prog_12_method_48_code (3 : Nat) (Option.some Jvm.ClassFile.FieldType.int)) ∈ z_U := z_U_6 (i := 77) rfl rfl
theorem u_1365 : (Jvm.Cond.constant "PaceStoreModel" (225 : Nat) (100000000 : Int32)) ∈ z_U := z_U_6 (i := 78) rfl rfl
theorem u_1366 : (Jvm.Cond.methodLink "PaceStoreModel" (244 : Nat) ({ cls := "PaceStoreModel", name := "paceByRules", desc := "(III)I" } : Jvm.MethodName)) ∈ z_U := z_U_6 (i := 79) rfl rfl
theorem u_1368 : (Jvm.Cond.instanceMethod ({ cls := "PaceStoreModel", name := "paceByRules", desc := "(III)I" } : Jvm.MethodName)) ∈ z_U := z_U_6 (i := 81) rfl rfl
theorem u_1369 : (Jvm.Cond.code ({ cls := "PaceStoreModel", name := "paceByRules", desc := "(III)I" } : Jvm.MethodName) prog_12_method_49_code (9 : Nat) (Option.some Jvm.ClassFile.FieldType.int)) ∈ z_U := z_U_6 (i := 82) rfl rfl
theorem u_1370 : (Jvm.Cond.methodLink "PaceStoreModel" (226 : Nat) ({ cls := "PaceStoreModel", name := "brought", desc := "(I)I" } : Jvm.MethodName)) ∈ z_U := z_U_6 (i := 83) rfl rfl
theorem u_1371 : (Jvm.Cond.static ({ cls := "PaceStoreModel", name := "brought", desc := "(I)I" } : Jvm.MethodName)) ∈ z_U := z_U_6 (i := 84) rfl rfl
theorem u_1372 : (Jvm.Cond.code ({ cls := "PaceStoreModel", name := "brought", desc := "(I)I" } : Jvm.MethodName) prog_12_method_47_code (1 : Nat) (Option.some Jvm.ClassFile.FieldType.int)) ∈ z_U := z_U_6 (i := 85) rfl rfl
theorem u_1373 : (Jvm.Cond.constantLong "PaceStoreModel" (248 : Nat) (16807 : Int64)) ∈ z_U := z_U_6 (i := 86) rfl rfl
theorem u_1374 : (Jvm.Cond.constantLong "PaceStoreModel" (250 : Nat) (2147483647 : Int64)) ∈ z_U := z_U_6 (i := 87) rfl rfl
theorem u_1375 : (Jvm.Cond.methodLink "PaceStoreModel" (252 : Nat) ({ cls := "PaceStoreModel", name := "findShelters", desc := "()V" } : Jvm.MethodName)) ∈ z_U := z_U_6 (i := 88) rfl rfl
theorem u_1377 : (Jvm.Cond.instanceMethod ({ cls := "PaceStoreModel", name := "findShelters", desc := "()V" } : Jvm.MethodName)) ∈ z_U := z_U_6 (i := 90) rfl rfl
theorem u_1378 : (Jvm.Cond.code ({ cls := "PaceStoreModel", name := "findShelters", desc := "()V" } : Jvm.MethodName) prog_12_method_50_code (2 : Nat) (Option.none : Option Jvm.ClassFile.FieldType)) ∈ z_U := z_U_6 (i := 91) rfl rfl
theorem u_1379 : (Jvm.Cond.methodLink "PaceStoreModel" (229 : Nat) ({ cls := "PaceStoreModel", name := "isSheltered", desc := "(I)Z" } : Jvm.MethodName)) ∈ z_U := z_U_6 (i := 92) rfl rfl
theorem u_1381 : (Jvm.Cond.instanceMethod ({ cls := "PaceStoreModel", name := "isSheltered", desc := "(I)Z" } : Jvm.MethodName)) ∈ z_U := z_U_6 (i := 94) rfl rfl
theorem u_1382 : (Jvm.Cond.code ({ cls := "PaceStoreModel", name := "isSheltered", desc := "(I)Z" } : Jvm.MethodName) prog_12_method_45_code (4 : Nat) (Option.some Jvm.ClassFile.FieldType.boolean)) ∈ z_U := z_U_6 (i := 95) rfl rfl
theorem u_1383 : (Jvm.Cond.constantLong "PaceStoreModel" (223 : Nat) (5 : Int64)) ∈ z_U := z_U_6 (i := 96) rfl rfl
theorem u_1384 : (Jvm.Cond.methodLink "PaceStoreModel" (255 : Nat) ({ cls := "PaceStoreModel", name := "goMile", desc := "(IIZ)V" } : Jvm.MethodName)) ∈ z_U := z_U_6 (i := 97) rfl rfl
theorem u_1386 : (Jvm.Cond.instanceMethod ({ cls := "PaceStoreModel", name := "goMile", desc := "(IIZ)V" } : Jvm.MethodName)) ∈ z_U := z_U_6 (i := 99) rfl rfl
theorem u_1387 : (Jvm.Cond.code ({ cls := "PaceStoreModel", name := "goMile", desc := "(IIZ)V" } : Jvm.MethodName) prog_12_method_44_code (5 : Nat) (Option.none : Option Jvm.ClassFile.FieldType)) ∈ z_U := z_U_6 (i := 100) rfl rfl
theorem u_1388 : (Jvm.Cond.methodLink "PaceStoreModel" (206 : Nat) ({ cls := "PaceStoreModel", name := "leftBehind", desc := "(IIII)I" } : Jvm.MethodName)) ∈ z_U := z_U_6 (i := 101) rfl rfl
theorem u_1390 : (Jvm.Cond.instanceMethod ({ cls := "PaceStoreModel", name := "leftBehind", desc := "(IIII)I" } : Jvm.MethodName)) ∈ z_U := z_U_6 (i := 103) rfl rfl
theorem u_1391 : (Jvm.Cond.code ({ cls := "PaceStoreModel", name := "leftBehind", desc := "(IIII)I" } : Jvm.MethodName) prog_12_method_42_code (6 : Nat) (Option.some Jvm.ClassFile.FieldType.int)) ∈ z_U := z_U_6 (i := 104) rfl rfl
theorem u_1392 : (Jvm.Cond.methodLink "PaceStoreModel" (214 : Nat) ({ cls := "PaceStoreModel", name := "easyPace", desc := "(II)I" } : Jvm.MethodName)) ∈ z_U := z_U_6 (i := 105) rfl rfl
theorem u_1394 : (Jvm.Cond.instanceMethod ({ cls := "PaceStoreModel", name := "easyPace", desc := "(II)I" } : Jvm.MethodName)) ∈ z_U := z_U_6 (i := 107) rfl rfl
theorem u_1395 : (Jvm.Cond.code ({ cls := "PaceStoreModel", name := "easyPace", desc := "(II)I" } : Jvm.MethodName) prog_12_method_43_code (4 : Nat) (Option.some Jvm.ClassFile.FieldType.int)) ∈ z_U := z_U_6 (i := 108) rfl rfl
theorem u_1396 : (Jvm.Cond.methodLink "PaceStoreModel" (217 : Nat) ({ cls := "PaceStoreModel", name := "secondsBy", desc := "(I)I" } : Jvm.MethodName)) ∈ z_U := z_U_6 (i := 109) rfl rfl
theorem u_1397 : (Jvm.Cond.static ({ cls := "PaceStoreModel", name := "secondsBy", desc := "(I)I" } : Jvm.MethodName)) ∈ z_U := z_U_6 (i := 110) rfl rfl
theorem u_1398 : (Jvm.Cond.code ({ cls := "PaceStoreModel", name := "secondsBy", desc := "(I)I" } : Jvm.MethodName) prog_12_method_40_code (1 : Nat) (Option.some Jvm.ClassFile.FieldType.int)) ∈ z_U := z_U_6 (i := 111) rfl rfl
theorem u_1399 : (Jvm.Cond.methodLink "PaceStoreLaw" (59 : Nat) ({ cls := "PaceStoreModel", name := "ran", desc := "(III)I" } : Jvm.MethodName)) ∈ z_U := z_U_6 (i := 112) rfl rfl
theorem u_1400 : (Jvm.Cond.instanceMethod ({ cls := "PaceStoreModel", name := "ran", desc := "(III)I" } : Jvm.MethodName)) ∈ z_U := z_U_6 (i := 113) rfl rfl
theorem u_1401 : (Jvm.Cond.selects "PaceStoreModel" ({ cls := "PaceStoreModel", name := "ran", desc := "(III)I" } : Jvm.MethodName) ({ cls := "PaceStoreModel", name := "ran", desc := "(III)I" } : Jvm.MethodName)) ∈ z_U := z_U_6 (i := 114) rfl rfl
theorem u_1402 : (Jvm.Cond.code ({ cls := "PaceStoreModel", name := "ran", desc := "(III)I" } : Jvm.MethodName) prog_12_method_53_code (4 : Nat) (Option.some Jvm.ClassFile.FieldType.int)) ∈ z_U := z_U_6 (i := 115) rfl rfl
theorem u_1403 : (Jvm.Cond.methodLink "PaceStoreModel" (259 : Nat) ({ cls := "PaceStoreModel", name := "isRunner", desc := "(I)Z" } : Jvm.MethodName)) ∈ z_U := z_U_6 (i := 116) rfl rfl
theorem u_1405 : (Jvm.Cond.instanceMethod ({ cls := "PaceStoreModel", name := "isRunner", desc := "(I)Z" } : Jvm.MethodName)) ∈ z_U := z_U_6 (i := 118) rfl rfl
theorem u_1406 : (Jvm.Cond.code ({ cls := "PaceStoreModel", name := "isRunner", desc := "(I)Z" } : Jvm.MethodName) prog_12_method_35_code (2 : Nat) (Option.some Jvm.ClassFile.FieldType.boolean)) ∈ z_U := z_U_6 (i := 119) rfl rfl
theorem u_1407 : (Jvm.Cond.methodLink "PaceStoreModel" (262 : Nat) ({ cls := "PaceStoreModel", name := "ranOf", desc := "(III)I" } : Jvm.MethodName)) ∈ z_U := z_U_6 (i := 120) rfl rfl
theorem u_1409 : (Jvm.Cond.instanceMethod ({ cls := "PaceStoreModel", name := "ranOf", desc := "(III)I" } : Jvm.MethodName)) ∈ z_U := z_U_6 (i := 122) rfl rfl
theorem u_1410 : (Jvm.Cond.code ({ cls := "PaceStoreModel", name := "ranOf", desc := "(III)I" } : Jvm.MethodName) prog_12_method_52_code (4 : Nat) (Option.some Jvm.ClassFile.FieldType.int)) ∈ z_U := z_U_6 (i := 123) rfl rfl
theorem u_1411 : (Jvm.Cond.methodLink "PaceStoreLaw" (63 : Nat) ({ cls := "PaceStoreModel", name := "place", desc := "(I)I" } : Jvm.MethodName)) ∈ z_U := z_U_6 (i := 124) rfl rfl
theorem u_1412 : (Jvm.Cond.instanceMethod ({ cls := "PaceStoreModel", name := "place", desc := "(I)I" } : Jvm.MethodName)) ∈ z_U := z_U_6 (i := 125) rfl rfl
theorem u_1413 : (Jvm.Cond.selects "PaceStoreModel" ({ cls := "PaceStoreModel", name := "place", desc := "(I)I" } : Jvm.MethodName) ({ cls := "PaceStoreModel", name := "place", desc := "(I)I" } : Jvm.MethodName)) ∈ z_U := z_U_6 (i := 126) rfl rfl
theorem u_1414 : (Jvm.Cond.code ({ cls := "PaceStoreModel", name := "place", desc := "(I)I" } : Jvm.MethodName) prog_12_method_54_code (6 : Nat) (Option.some Jvm.ClassFile.FieldType.int)) ∈ z_U := z_U_6 (i := 127) rfl rfl
theorem u_1415 : (Jvm.Cond.methodLink "PaceStoreLaw" (67 : Nat) ({ cls := "PaceStoreModel", name := "best", desc := "(III)I" } : Jvm.MethodName)) ∈ z_U := z_U_6 (i := 128) rfl rfl
theorem u_1416 : (Jvm.Cond.instanceMethod ({ cls := "PaceStoreModel", name := "best", desc := "(III)I" } : Jvm.MethodName)) ∈ z_U := z_U_6 (i := 129) rfl rfl
theorem u_1417 : (Jvm.Cond.selects "PaceStoreModel" ({ cls := "PaceStoreModel", name := "best", desc := "(III)I" } : Jvm.MethodName) ({ cls := "PaceStoreModel", name := "best", desc := "(III)I" } : Jvm.MethodName)) ∈ z_U := z_U_6 (i := 130) rfl rfl
theorem u_1418 : (Jvm.Cond.code ({ cls := "PaceStoreModel", name := "best", desc := "(III)I" } : Jvm.MethodName) prog_12_method_62_code (8 : Nat) (Option.some Jvm.ClassFile.FieldType.int)) ∈ z_U := z_U_6 (i := 131) rfl rfl
theorem u_1419 : (Jvm.Cond.methodLink "PaceStoreModel" (285 : Nat) ({ cls := "PaceStoreModel", name := "isSet", desc := "(I)Z" } : Jvm.MethodName)) ∈ z_U := z_U_6 (i := 132) rfl rfl
theorem u_1421 : (Jvm.Cond.instanceMethod ({ cls := "PaceStoreModel", name := "isSet", desc := "(I)Z" } : Jvm.MethodName)) ∈ z_U := z_U_6 (i := 134) rfl rfl
theorem u_1422 : (Jvm.Cond.code ({ cls := "PaceStoreModel", name := "isSet", desc := "(I)Z" } : Jvm.MethodName) prog_12_method_61_code (2 : Nat) (Option.some Jvm.ClassFile.FieldType.boolean)) ∈ z_U := z_U_6 (i := 135) rfl rfl
theorem u_1423 : (Jvm.Cond.methodLink "PaceStoreModel" (265 : Nat) ({ cls := "PaceStoreModel", name := "rabbits", desc := "()I" } : Jvm.MethodName)) ∈ z_U := z_U_6 (i := 136) rfl rfl
theorem u_1425 : (Jvm.Cond.instanceMethod ({ cls := "PaceStoreModel", name := "rabbits", desc := "()I" } : Jvm.MethodName)) ∈ z_U := z_U_6 (i := 138) rfl rfl
theorem u_1426 : (Jvm.Cond.code ({ cls := "PaceStoreModel", name := "rabbits", desc := "()I" } : Jvm.MethodName) prog_12_method_33_code (1 : Nat) (Option.some Jvm.ClassFile.FieldType.int)) ∈ z_U := z_U_6 (i := 139) rfl rfl
theorem u_1427 : (Jvm.Cond.methodLink "PaceStoreModel" (288 : Nat) ({ cls := "PaceStoreModel", name := "leastAll", desc := "(II)I" } : Jvm.MethodName)) ∈ z_U := z_U_6 (i := 140) rfl rfl
theorem u_1429 : (Jvm.Cond.instanceMethod ({ cls := "PaceStoreModel", name := "leastAll", desc := "(II)I" } : Jvm.MethodName)) ∈ z_U := z_U_6 (i := 142) rfl rfl
theorem u_1430 : (Jvm.Cond.code ({ cls := "PaceStoreModel", name := "leastAll", desc := "(II)I" } : Jvm.MethodName) prog_12_method_59_code (3 : Nat) (Option.some Jvm.ClassFile.FieldType.int)) ∈ z_U := z_U_6 (i := 143) rfl rfl
theorem u_1431 : (Jvm.Cond.methodLink "PaceStoreModel" (281 : Nat) ({ cls := "PaceStoreModel", name := "findLeast", desc := "(II)V" } : Jvm.MethodName)) ∈ z_U := z_U_6 (i := 144) rfl rfl
theorem u_1433 : (Jvm.Cond.instanceMethod ({ cls := "PaceStoreModel", name := "findLeast", desc := "(II)V" } : Jvm.MethodName)) ∈ z_U := z_U_6 (i := 146) rfl rfl
theorem u_1434 : (Jvm.Cond.code ({ cls := "PaceStoreModel", name := "findLeast", desc := "(II)V" } : Jvm.MethodName) prog_12_method_58_code (8 : Nat) (Option.none : Option Jvm.ClassFile.FieldType)) ∈ z_U := z_U_6 (i := 147) rfl rfl
theorem u_1435 : (Jvm.Cond.methodLink "PaceStoreModel" (278 : Nat) ({ cls := "PaceStoreModel", name := "timeBy", desc := "(IIIII)I" } : Jvm.MethodName)) ∈ z_U := z_U_6 (i := 148) rfl rfl
theorem u_1437 : (Jvm.Cond.instanceMethod ({ cls := "PaceStoreModel", name := "timeBy", desc := "(IIIII)I" } : Jvm.MethodName)) ∈ z_U := z_U_6 (i := 150) rfl rfl
theorem u_1438 : (Jvm.Cond.code ({ cls := "PaceStoreModel", name := "timeBy", desc := "(IIIII)I" } : Jvm.MethodName) prog_12_method_57_code (7 : Nat) (Option.some Jvm.ClassFile.FieldType.int)) ∈ z_U := z_U_6 (i := 151) rfl rfl
theorem u_1439 : (Jvm.Cond.methodLink "PaceStoreModel" (274 : Nat) ({ cls := "PaceStoreModel", name := "leftAlone", desc := "(IIIII)I" } : Jvm.MethodName)) ∈ z_U := z_U_6 (i := 152) rfl rfl
theorem u_1441 : (Jvm.Cond.instanceMethod ({ cls := "PaceStoreModel", name := "leftAlone", desc := "(IIIII)I" } : Jvm.MethodName)) ∈ z_U := z_U_6 (i := 154) rfl rfl
theorem u_1442 : (Jvm.Cond.code ({ cls := "PaceStoreModel", name := "leftAlone", desc := "(IIIII)I" } : Jvm.MethodName) prog_12_method_56_code (6 : Nat) (Option.some Jvm.ClassFile.FieldType.int)) ∈ z_U := z_U_6 (i := 155) rfl rfl
theorem u_1443 : (Jvm.Cond.methodLink "PaceStoreModel" (271 : Nat) ({ cls := "PaceStoreModel", name := "isBehindRabbit", desc := "(III)Z" } : Jvm.MethodName)) ∈ z_U := z_U_6 (i := 156) rfl rfl
theorem u_1445 : (Jvm.Cond.instanceMethod ({ cls := "PaceStoreModel", name := "isBehindRabbit", desc := "(III)Z" } : Jvm.MethodName)) ∈ z_U := z_U_6 (i := 158) rfl rfl
theorem u_1446 : (Jvm.Cond.code ({ cls := "PaceStoreModel", name := "isBehindRabbit", desc := "(III)Z" } : Jvm.MethodName) prog_12_method_55_code (6 : Nat) (Option.some Jvm.ClassFile.FieldType.boolean)) ∈ z_U := z_U_6 (i := 159) rfl rfl
theorem u_1447 : (Jvm.Cond.methodLink "PaceStoreModel" (268 : Nat) ({ cls := "PaceStoreModel", name := "ofRabbit", desc := "(II)I" } : Jvm.MethodName)) ∈ z_U := z_U_6 (i := 160) rfl rfl
theorem u_1449 : (Jvm.Cond.instanceMethod ({ cls := "PaceStoreModel", name := "ofRabbit", desc := "(II)I" } : Jvm.MethodName)) ∈ z_U := z_U_6 (i := 162) rfl rfl
theorem u_1450 : (Jvm.Cond.code ({ cls := "PaceStoreModel", name := "ofRabbit", desc := "(II)I" } : Jvm.MethodName) prog_12_method_38_code (3 : Nat) (Option.some Jvm.ClassFile.FieldType.int)) ∈ z_U := z_U_6 (i := 163) rfl rfl
theorem u_1451 : (Jvm.Cond.constant "PaceStoreModel" (291 : Nat) (-1000000 : Int32)) ∈ z_U := z_U_6 (i := 164) rfl rfl
theorem u_1452 : (Jvm.Cond.methodLink "PaceStoreModel" (292 : Nat) ({ cls := "PaceStoreModel", name := "paceFor", desc := "(IIII)I" } : Jvm.MethodName)) ∈ z_U := z_U_6 (i := 165) rfl rfl
theorem u_1454 : (Jvm.Cond.instanceMethod ({ cls := "PaceStoreModel", name := "paceFor", desc := "(IIII)I" } : Jvm.MethodName)) ∈ z_U := z_U_6 (i := 167) rfl rfl
theorem u_1455 : (Jvm.Cond.code ({ cls := "PaceStoreModel", name := "paceFor", desc := "(IIII)I" } : Jvm.MethodName) prog_12_method_60_code (6 : Nat) (Option.some Jvm.ClassFile.FieldType.int)) ∈ z_U := z_U_6 (i := 168) rfl rfl
theorem u_1456 : (Jvm.Cond.methodLink "PaceStoreLaw" (71 : Nat) ({ cls := "PaceStoreModel", name := "even", desc := "(III)I" } : Jvm.MethodName)) ∈ z_U := z_U_6 (i := 169) rfl rfl
theorem u_1457 : (Jvm.Cond.instanceMethod ({ cls := "PaceStoreModel", name := "even", desc := "(III)I" } : Jvm.MethodName)) ∈ z_U := z_U_6 (i := 170) rfl rfl
theorem u_1458 : (Jvm.Cond.selects "PaceStoreModel" ({ cls := "PaceStoreModel", name := "even", desc := "(III)I" } : Jvm.MethodName) ({ cls := "PaceStoreModel", name := "even", desc := "(III)I" } : Jvm.MethodName)) ∈ z_U := z_U_6 (i := 171) rfl rfl
theorem u_1459 : (Jvm.Cond.code ({ cls := "PaceStoreModel", name := "even", desc := "(III)I" } : Jvm.MethodName) prog_12_method_64_code (8 : Nat) (Option.some Jvm.ClassFile.FieldType.int)) ∈ z_U := z_U_6 (i := 172) rfl rfl
theorem u_1460 : (Jvm.Cond.methodLink "PaceStoreModel" (295 : Nat) ({ cls := "PaceStoreModel", name := "evenTime", desc := "(III)I" } : Jvm.MethodName)) ∈ z_U := z_U_6 (i := 173) rfl rfl
theorem u_1462 : (Jvm.Cond.instanceMethod ({ cls := "PaceStoreModel", name := "evenTime", desc := "(III)I" } : Jvm.MethodName)) ∈ z_U := z_U_6 (i := 175) rfl rfl
theorem u_1463 : (Jvm.Cond.code ({ cls := "PaceStoreModel", name := "evenTime", desc := "(III)I" } : Jvm.MethodName) prog_12_method_63_code (6 : Nat) (Option.some Jvm.ClassFile.FieldType.int)) ∈ z_U := z_U_6 (i := 176) rfl rfl
theorem u_1464 : (Jvm.Cond.methodLink "PaceStoreLaw" (76 : Nat) ({ cls := "PaceStoreModel", name := "early", desc := "(II)I" } : Jvm.MethodName)) ∈ z_U := z_U_6 (i := 177) rfl rfl
theorem u_1465 : (Jvm.Cond.instanceMethod ({ cls := "PaceStoreModel", name := "early", desc := "(II)I" } : Jvm.MethodName)) ∈ z_U := z_U_6 (i := 178) rfl rfl
theorem u_1466 : (Jvm.Cond.selects "PaceStoreModel" ({ cls := "PaceStoreModel", name := "early", desc := "(II)I" } : Jvm.MethodName) ({ cls := "PaceStoreModel", name := "early", desc := "(II)I" } : Jvm.MethodName)) ∈ z_U := z_U_6 (i := 179) rfl rfl
theorem u_1467 : (Jvm.Cond.code ({ cls := "PaceStoreModel", name := "early", desc := "(II)I" } : Jvm.MethodName) prog_12_method_65_code (6 : Nat) (Option.some Jvm.ClassFile.FieldType.int)) ∈ z_U := z_U_6 (i := 180) rfl rfl
theorem u_1468 : (Jvm.Cond.constantLong "PaceStoreModel" (298 : Nat) (20 : Int64)) ∈ z_U := z_U_6 (i := 181) rfl rfl
theorem u_1469 : (Jvm.Cond.methodLink "PaceStoreLaw" (80 : Nat) ({ cls := "PaceStoreModel", name := "hired", desc := "(III)I" } : Jvm.MethodName)) ∈ z_U := z_U_6 (i := 182) rfl rfl
theorem u_1470 : (Jvm.Cond.instanceMethod ({ cls := "PaceStoreModel", name := "hired", desc := "(III)I" } : Jvm.MethodName)) ∈ z_U := z_U_6 (i := 183) rfl rfl
theorem u_1471 : (Jvm.Cond.selects "PaceStoreModel" ({ cls := "PaceStoreModel", name := "hired", desc := "(III)I" } : Jvm.MethodName) ({ cls := "PaceStoreModel", name := "hired", desc := "(III)I" } : Jvm.MethodName)) ∈ z_U := z_U_6 (i := 184) rfl rfl
theorem u_1472 : (Jvm.Cond.code ({ cls := "PaceStoreModel", name := "hired", desc := "(III)I" } : Jvm.MethodName) prog_12_method_67_code (9 : Nat) (Option.some Jvm.ClassFile.FieldType.int)) ∈ z_U := z_U_6 (i := 185) rfl rfl
theorem u_1473 : (Jvm.Cond.constantLong "PaceStoreModel" (300 : Nat) (999 : Int64)) ∈ z_U := z_U_6 (i := 186) rfl rfl
theorem u_1474 : (Jvm.Cond.methodLink "PaceStoreModel" (302 : Nat) ({ cls := "PaceStoreModel", name := "coinOf", desc := "(I)I" } : Jvm.MethodName)) ∈ z_U := z_U_6 (i := 187) rfl rfl
theorem u_1476 : (Jvm.Cond.instanceMethod ({ cls := "PaceStoreModel", name := "coinOf", desc := "(I)I" } : Jvm.MethodName)) ∈ z_U := z_U_6 (i := 189) rfl rfl
theorem u_1477 : (Jvm.Cond.code ({ cls := "PaceStoreModel", name := "coinOf", desc := "(I)I" } : Jvm.MethodName) prog_12_method_66_code (4 : Nat) (Option.some Jvm.ClassFile.FieldType.int)) ∈ z_U := z_U_6 (i := 190) rfl rfl
theorem u_1478 : (Jvm.Cond.methodLink "PaceStoreLaw" (84 : Nat) ({ cls := "PaceStoreModel", name := "stays", desc := "(II)I" } : Jvm.MethodName)) ∈ z_U := z_U_6 (i := 191) rfl rfl
theorem u_1479 : (Jvm.Cond.instanceMethod ({ cls := "PaceStoreModel", name := "stays", desc := "(II)I" } : Jvm.MethodName)) ∈ z_U := z_U_6 (i := 192) rfl rfl
theorem u_1480 : (Jvm.Cond.selects "PaceStoreModel" ({ cls := "PaceStoreModel", name := "stays", desc := "(II)I" } : Jvm.MethodName) ({ cls := "PaceStoreModel", name := "stays", desc := "(II)I" } : Jvm.MethodName)) ∈ z_U := z_U_6 (i := 193) rfl rfl
theorem u_1481 : (Jvm.Cond.code ({ cls := "PaceStoreModel", name := "stays", desc := "(II)I" } : Jvm.MethodName) prog_12_method_68_code (7 : Nat) (Option.some Jvm.ClassFile.FieldType.int)) ∈ z_U := z_U_6 (i := 194) rfl rfl
theorem u_1482 : (Jvm.Cond.methodLink "PaceStoreLaw" (88 : Nat) ({ cls := "PaceStoreModel", name := "rests", desc := "(III)I" } : Jvm.MethodName)) ∈ z_U := z_U_6 (i := 195) rfl rfl
theorem u_1483 : (Jvm.Cond.instanceMethod ({ cls := "PaceStoreModel", name := "rests", desc := "(III)I" } : Jvm.MethodName)) ∈ z_U := z_U_6 (i := 196) rfl rfl
theorem u_1484 : (Jvm.Cond.selects "PaceStoreModel" ({ cls := "PaceStoreModel", name := "rests", desc := "(III)I" } : Jvm.MethodName) ({ cls := "PaceStoreModel", name := "rests", desc := "(III)I" } : Jvm.MethodName)) ∈ z_U := z_U_6 (i := 197) rfl rfl
theorem u_1485 : (Jvm.Cond.code ({ cls := "PaceStoreModel", name := "rests", desc := "(III)I" } : Jvm.MethodName) prog_12_method_74_code (6 : Nat) (Option.some Jvm.ClassFile.FieldType.int)) ∈ z_U := z_U_6 (i := 198) rfl rfl
theorem u_1486 : (Jvm.Cond.methodLink "PaceStoreModel" (311 : Nat) ({ cls := "PaceStoreModel", name := "isGame", desc := "(II)Z" } : Jvm.MethodName)) ∈ z_U := z_U_6 (i := 199) rfl rfl
theorem u_1488 : (Jvm.Cond.instanceMethod ({ cls := "PaceStoreModel", name := "isGame", desc := "(II)Z" } : Jvm.MethodName)) ∈ z_U := z_U_6 (i := 201) rfl rfl
theorem u_1489 : (Jvm.Cond.code ({ cls := "PaceStoreModel", name := "isGame", desc := "(II)Z" } : Jvm.MethodName) prog_12_method_71_code (3 : Nat) (Option.some Jvm.ClassFile.FieldType.boolean)) ∈ z_U := z_U_6 (i := 202) rfl rfl
theorem u_1490 : (Jvm.Cond.methodLink "PaceStoreModel" (314 : Nat) ({ cls := "PaceStoreModel", name := "gameOf", desc := "(IIII)I" } : Jvm.MethodName)) ∈ z_U := z_U_6 (i := 203) rfl rfl
theorem u_1492 : (Jvm.Cond.instanceMethod ({ cls := "PaceStoreModel", name := "gameOf", desc := "(IIII)I" } : Jvm.MethodName)) ∈ z_U := z_U_6 (i := 205) rfl rfl
theorem u_1493 : (Jvm.Cond.code ({ cls := "PaceStoreModel", name := "gameOf", desc := "(IIII)I" } : Jvm.MethodName) prog_12_method_70_code (6 : Nat) (Option.some Jvm.ClassFile.FieldType.int)) ∈ z_U := z_U_6 (i := 206) rfl rfl
theorem u_1494 : (Jvm.Cond.methodLink "PaceStoreModel" (305 : Nat) ({ cls := "PaceStoreModel", name := "planPace", desc := "(III)I" } : Jvm.MethodName)) ∈ z_U := z_U_6 (i := 207) rfl rfl
theorem u_1496 : (Jvm.Cond.instanceMethod ({ cls := "PaceStoreModel", name := "planPace", desc := "(III)I" } : Jvm.MethodName)) ∈ z_U := z_U_6 (i := 209) rfl rfl
theorem u_1497 : (Jvm.Cond.code ({ cls := "PaceStoreModel", name := "planPace", desc := "(III)I" } : Jvm.MethodName) prog_12_method_69_code (7 : Nat) (Option.some Jvm.ClassFile.FieldType.int)) ∈ z_U := z_U_6 (i := 210) rfl rfl
theorem u_1498 : (Jvm.Cond.methodLink "PaceStoreModel" (317 : Nat) ({ cls := "PaceStoreModel", name := "isRest", desc := "(II)Z" } : Jvm.MethodName)) ∈ z_U := z_U_6 (i := 211) rfl rfl
theorem u_1500 : (Jvm.Cond.instanceMethod ({ cls := "PaceStoreModel", name := "isRest", desc := "(II)Z" } : Jvm.MethodName)) ∈ z_U := z_U_6 (i := 213) rfl rfl
theorem u_1501 : (Jvm.Cond.code ({ cls := "PaceStoreModel", name := "isRest", desc := "(II)Z" } : Jvm.MethodName) prog_12_method_73_code (5 : Nat) (Option.some Jvm.ClassFile.FieldType.boolean)) ∈ z_U := z_U_6 (i := 214) rfl rfl
theorem u_1502 : (Jvm.Cond.methodLink "PaceStoreModel" (308 : Nat) ({ cls := "PaceStoreModel", name := "worthTo", desc := "(II)I" } : Jvm.MethodName)) ∈ z_U := z_U_6 (i := 215) rfl rfl
theorem u_1503 : (Jvm.Cond.static ({ cls := "PaceStoreModel", name := "worthTo", desc := "(II)I" } : Jvm.MethodName)) ∈ z_U := z_U_6 (i := 216) rfl rfl
theorem u_1504 : (Jvm.Cond.code ({ cls := "PaceStoreModel", name := "worthTo", desc := "(II)I" } : Jvm.MethodName) prog_12_method_72_code (2 : Nat) (Option.some Jvm.ClassFile.FieldType.int)) ∈ z_U := z_U_6 (i := 217) rfl rfl
theorem u_1505 : (Jvm.Cond.methodLink "PaceStoreLaw" (93 : Nat) ({ cls := "PaceStoreModel", name := "wins", desc := "(IIII)I" } : Jvm.MethodName)) ∈ z_U := z_U_6 (i := 218) rfl rfl
theorem u_1506 : (Jvm.Cond.instanceMethod ({ cls := "PaceStoreModel", name := "wins", desc := "(IIII)I" } : Jvm.MethodName)) ∈ z_U := z_U_6 (i := 219) rfl rfl
theorem u_1507 : (Jvm.Cond.selects "PaceStoreModel" ({ cls := "PaceStoreModel", name := "wins", desc := "(IIII)I" } : Jvm.MethodName) ({ cls := "PaceStoreModel", name := "wins", desc := "(IIII)I" } : Jvm.MethodName)) ∈ z_U := z_U_6 (i := 220) rfl rfl
theorem u_1508 : (Jvm.Cond.code ({ cls := "PaceStoreModel", name := "wins", desc := "(IIII)I" } : Jvm.MethodName) prog_12_method_75_code (6 : Nat) (Option.some Jvm.ClassFile.FieldType.int)) ∈ z_U := z_U_6 (i := 221) rfl rfl
theorem u_1509 : (Jvm.Cond.constantLong "PaceStoreModel" (320 : Nat) (3 : Int64)) ∈ z_U := z_U_6 (i := 222) rfl rfl
theorem u_1510 : (Jvm.Cond.methodLink "PaceStoreLaw" (97 : Nat) ({ cls := "PaceStoreModel", name := "line", desc := "(III)I" } : Jvm.MethodName)) ∈ z_U := z_U_6 (i := 223) rfl rfl
theorem u_1511 : (Jvm.Cond.instanceMethod ({ cls := "PaceStoreModel", name := "line", desc := "(III)I" } : Jvm.MethodName)) ∈ z_U := z_U_6 (i := 224) rfl rfl
theorem u_1512 : (Jvm.Cond.selects "PaceStoreModel" ({ cls := "PaceStoreModel", name := "line", desc := "(III)I" } : Jvm.MethodName) ({ cls := "PaceStoreModel", name := "line", desc := "(III)I" } : Jvm.MethodName)) ∈ z_U := z_U_6 (i := 225) rfl rfl
theorem u_1513 : (Jvm.Cond.code ({ cls := "PaceStoreModel", name := "line", desc := "(III)I" } : Jvm.MethodName) prog_12_method_78_code (5 : Nat) (Option.some Jvm.ClassFile.FieldType.int)) ∈ z_U := z_U_6 (i := 226) rfl rfl
theorem u_1514 : (Jvm.Cond.methodLink "PaceStoreModel" (322 : Nat) ({ cls := "PaceStoreModel", name := "paceOf", desc := "(I)I" } : Jvm.MethodName)) ∈ z_U := z_U_6 (i := 227) rfl rfl
theorem u_1515 : (Jvm.Cond.static ({ cls := "PaceStoreModel", name := "paceOf", desc := "(I)I" } : Jvm.MethodName)) ∈ z_U := z_U_6 (i := 228) rfl rfl
theorem u_1516 : (Jvm.Cond.code ({ cls := "PaceStoreModel", name := "paceOf", desc := "(I)I" } : Jvm.MethodName) prog_12_method_76_code (2 : Nat) (Option.some Jvm.ClassFile.FieldType.int)) ∈ z_U := z_U_6 (i := 229) rfl rfl
theorem u_1517 : (Jvm.Cond.methodLink "PaceStoreModel" (325 : Nat) ({ cls := "PaceStoreModel", name := "isBorne", desc := "(IIII)Z" } : Jvm.MethodName)) ∈ z_U := z_U_6 (i := 230) rfl rfl
theorem u_1519 : (Jvm.Cond.instanceMethod ({ cls := "PaceStoreModel", name := "isBorne", desc := "(IIII)Z" } : Jvm.MethodName)) ∈ z_U := z_U_6 (i := 232) rfl rfl
theorem u_1520 : (Jvm.Cond.code ({ cls := "PaceStoreModel", name := "isBorne", desc := "(IIII)Z" } : Jvm.MethodName) prog_12_method_77_code (7 : Nat) (Option.some Jvm.ClassFile.FieldType.boolean)) ∈ z_U := z_U_6 (i := 233) rfl rfl
theorem u_1521 : (Jvm.Cond.methodLink "PaceStoreLaw" (101 : Nat) ({ cls := "PaceStoreModel", name := "parts", desc := "(IIII)I" } : Jvm.MethodName)) ∈ z_U := z_U_6 (i := 234) rfl rfl
theorem u_1522 : (Jvm.Cond.instanceMethod ({ cls := "PaceStoreModel", name := "parts", desc := "(IIII)I" } : Jvm.MethodName)) ∈ z_U := z_U_6 (i := 235) rfl rfl
theorem u_1523 : (Jvm.Cond.selects "PaceStoreModel" ({ cls := "PaceStoreModel", name := "parts", desc := "(IIII)I" } : Jvm.MethodName) ({ cls := "PaceStoreModel", name := "parts", desc := "(IIII)I" } : Jvm.MethodName)) ∈ z_U := z_U_6 (i := 236) rfl rfl
theorem u_1524 : (Jvm.Cond.code ({ cls := "PaceStoreModel", name := "parts", desc := "(IIII)I" } : Jvm.MethodName) prog_12_method_79_code (9 : Nat) (Option.some Jvm.ClassFile.FieldType.int)) ∈ z_U := z_U_6 (i := 237) rfl rfl
theorem u_1525 : (Jvm.Cond.constantLong "PaceStoreModel" (329 : Nat) (99999 : Int64)) ∈ z_U := z_U_6 (i := 238) rfl rfl
theorem u_1526 : (Jvm.Cond.methodLink "PaceStoreLaw" (105 : Nat) ({ cls := "PaceStoreModel", name := "hour", desc := "(IIIII)I" } : Jvm.MethodName)) ∈ z_U := z_U_6 (i := 239) rfl rfl
theorem u_1527 : (Jvm.Cond.instanceMethod ({ cls := "PaceStoreModel", name := "hour", desc := "(IIIII)I" } : Jvm.MethodName)) ∈ z_U := z_U_7 (i := 0) rfl rfl
theorem u_1528 : (Jvm.Cond.selects "PaceStoreModel" ({ cls := "PaceStoreModel", name := "hour", desc := "(IIIII)I" } : Jvm.MethodName) ({ cls := "PaceStoreModel", name := "hour", desc := "(IIIII)I" } : Jvm.MethodName)) ∈ z_U := z_U_7 (i := 1) rfl rfl
theorem u_1529 : (Jvm.Cond.code ({ cls := "PaceStoreModel", name := "hour", desc := "(IIIII)I" } : Jvm.MethodName) prog_12_method_80_code (10 : Nat) (Option.some Jvm.ClassFile.FieldType.int)) ∈ z_U := z_U_7 (i := 2) rfl rfl
theorem u_1530 : (Jvm.Cond.constantLong "PaceStoreModel" (331 : Nat) (24 : Int64)) ∈ z_U := z_U_7 (i := 3) rfl rfl
theorem u_1531 : (Jvm.Cond.methodLink "PaceStoreLaw" (109 : Nat) ({ cls := "PaceStoreModel", name := "feeling", desc := "(III)I" } : Jvm.MethodName)) ∈ z_U := z_U_7 (i := 4) rfl rfl
theorem u_1532 : (Jvm.Cond.instanceMethod ({ cls := "PaceStoreModel", name := "feeling", desc := "(III)I" } : Jvm.MethodName)) ∈ z_U := z_U_7 (i := 5) rfl rfl
theorem u_1533 : (Jvm.Cond.selects "PaceStoreModel" ({ cls := "PaceStoreModel", name := "feeling", desc := "(III)I" } : Jvm.MethodName) ({ cls := "PaceStoreModel", name := "feeling", desc := "(III)I" } : Jvm.MethodName)) ∈ z_U := z_U_7 (i := 6) rfl rfl
theorem u_1534 : (Jvm.Cond.code ({ cls := "PaceStoreModel", name := "feeling", desc := "(III)I" } : Jvm.MethodName) prog_12_method_82_code (8 : Nat) (Option.some Jvm.ClassFile.FieldType.int)) ∈ z_U := z_U_7 (i := 7) rfl rfl
theorem u_1535 : (Jvm.Cond.methodLink "PaceStoreModel" (333 : Nat) ({ cls := "PaceStoreModel", name := "feltTime", desc := "(IIII)I" } : Jvm.MethodName)) ∈ z_U := z_U_7 (i := 8) rfl rfl
theorem u_1537 : (Jvm.Cond.instanceMethod ({ cls := "PaceStoreModel", name := "feltTime", desc := "(IIII)I" } : Jvm.MethodName)) ∈ z_U := z_U_7 (i := 10) rfl rfl
theorem u_1538 : (Jvm.Cond.code ({ cls := "PaceStoreModel", name := "feltTime", desc := "(IIII)I" } : Jvm.MethodName) prog_12_method_81_code (8 : Nat) (Option.some Jvm.ClassFile.FieldType.int)) ∈ z_U := z_U_7 (i := 11) rfl rfl
theorem u_1539 : (Jvm.Cond.methodLink "PaceStoreLaw" (121 : Nat) ({ cls := "PaceStoreModel", name := "kind", desc := "(II)I" } : Jvm.MethodName)) ∈ z_U := z_U_7 (i := 12) rfl rfl
theorem u_1540 : (Jvm.Cond.instanceMethod ({ cls := "PaceStoreModel", name := "kind", desc := "(II)I" } : Jvm.MethodName)) ∈ z_U := z_U_7 (i := 13) rfl rfl
theorem u_1541 : (Jvm.Cond.selects "PaceStoreModel" ({ cls := "PaceStoreModel", name := "kind", desc := "(II)I" } : Jvm.MethodName) ({ cls := "PaceStoreModel", name := "kind", desc := "(II)I" } : Jvm.MethodName)) ∈ z_U := z_U_7 (i := 14) rfl rfl
theorem u_1542 : (Jvm.Cond.code ({ cls := "PaceStoreModel", name := "kind", desc := "(II)I" } : Jvm.MethodName) prog_12_method_85_code (3 : Nat) (Option.some Jvm.ClassFile.FieldType.int)) ∈ z_U := z_U_7 (i := 15) rfl rfl
theorem u_1543 : (Jvm.Cond.methodLink "PaceStoreModel" (336 : Nat) ({ cls := "PaceStoreModel", name := "isStep", desc := "(II)Z" } : Jvm.MethodName)) ∈ z_U := z_U_7 (i := 16) rfl rfl
theorem u_1545 : (Jvm.Cond.instanceMethod ({ cls := "PaceStoreModel", name := "isStep", desc := "(II)Z" } : Jvm.MethodName)) ∈ z_U := z_U_7 (i := 18) rfl rfl
theorem u_1546 : (Jvm.Cond.code ({ cls := "PaceStoreModel", name := "isStep", desc := "(II)Z" } : Jvm.MethodName) prog_12_method_83_code (3 : Nat) (Option.some Jvm.ClassFile.FieldType.boolean)) ∈ z_U := z_U_7 (i := 19) rfl rfl
theorem u_1547 : (Jvm.Cond.methodLink "PaceStoreModel" (339 : Nat) ({ cls := "PaceStoreModel", name := "kindOf", desc := "(II)I" } : Jvm.MethodName)) ∈ z_U := z_U_7 (i := 20) rfl rfl
theorem u_1549 : (Jvm.Cond.instanceMethod ({ cls := "PaceStoreModel", name := "kindOf", desc := "(II)I" } : Jvm.MethodName)) ∈ z_U := z_U_7 (i := 22) rfl rfl
theorem u_1550 : (Jvm.Cond.code ({ cls := "PaceStoreModel", name := "kindOf", desc := "(II)I" } : Jvm.MethodName) prog_12_method_84_code (5 : Nat) (Option.some Jvm.ClassFile.FieldType.int)) ∈ z_U := z_U_7 (i := 23) rfl rfl
theorem u_1551 : (Jvm.Cond.methodLink "PaceStoreLaw" (125 : Nat) ({ cls := "PaceStoreModel", name := "as", desc := "(III)I" } : Jvm.MethodName)) ∈ z_U := z_U_7 (i := 24) rfl rfl
theorem u_1552 : (Jvm.Cond.instanceMethod ({ cls := "PaceStoreModel", name := "as", desc := "(III)I" } : Jvm.MethodName)) ∈ z_U := z_U_7 (i := 25) rfl rfl
theorem u_1553 : (Jvm.Cond.selects "PaceStoreModel" ({ cls := "PaceStoreModel", name := "as", desc := "(III)I" } : Jvm.MethodName) ({ cls := "PaceStoreModel", name := "as", desc := "(III)I" } : Jvm.MethodName)) ∈ z_U := z_U_7 (i := 26) rfl rfl
theorem u_1554 : (Jvm.Cond.code ({ cls := "PaceStoreModel", name := "as", desc := "(III)I" } : Jvm.MethodName) prog_12_method_87_code (4 : Nat) (Option.some Jvm.ClassFile.FieldType.int)) ∈ z_U := z_U_7 (i := 27) rfl rfl
theorem u_1555 : (Jvm.Cond.methodLink "PaceStoreModel" (342 : Nat) ({ cls := "PaceStoreModel", name := "isOf", desc := "(II)Z" } : Jvm.MethodName)) ∈ z_U := z_U_7 (i := 28) rfl rfl
theorem u_1556 : (Jvm.Cond.static ({ cls := "PaceStoreModel", name := "isOf", desc := "(II)Z" } : Jvm.MethodName)) ∈ z_U := z_U_7 (i := 29) rfl rfl
theorem u_1557 : (Jvm.Cond.code ({ cls := "PaceStoreModel", name := "isOf", desc := "(II)Z" } : Jvm.MethodName) prog_12_method_86_code (2 : Nat) (Option.some Jvm.ClassFile.FieldType.boolean)) ∈ z_U := z_U_7 (i := 30) rfl rfl
theorem u_1558 : (Jvm.Cond.methodLink "PaceStoreLaw" (129 : Nat) ({ cls := "PaceStoreModel", name := "ask", desc := "(III)I" } : Jvm.MethodName)) ∈ z_U := z_U_7 (i := 31) rfl rfl
theorem u_1559 : (Jvm.Cond.instanceMethod ({ cls := "PaceStoreModel", name := "ask", desc := "(III)I" } : Jvm.MethodName)) ∈ z_U := z_U_7 (i := 32) rfl rfl
theorem u_1560 : (Jvm.Cond.selects "PaceStoreModel" ({ cls := "PaceStoreModel", name := "ask", desc := "(III)I" } : Jvm.MethodName) ({ cls := "PaceStoreModel", name := "ask", desc := "(III)I" } : Jvm.MethodName)) ∈ z_U := z_U_7 (i := 33) rfl rfl
theorem u_1561 : (Jvm.Cond.code ({ cls := "PaceStoreModel", name := "ask", desc := "(III)I" } : Jvm.MethodName) prog_12_method_92_code (5 : Nat) (Option.some Jvm.ClassFile.FieldType.int)) ∈ z_U := z_U_7 (i := 34) rfl rfl
theorem u_1562 : (Jvm.Cond.methodLink "PaceStoreModel" (355 : Nat) ({ cls := "PaceStoreModel", name := "sizeOf", desc := "(III)I" } : Jvm.MethodName)) ∈ z_U := z_U_7 (i := 35) rfl rfl
theorem u_1564 : (Jvm.Cond.instanceMethod ({ cls := "PaceStoreModel", name := "sizeOf", desc := "(III)I" } : Jvm.MethodName)) ∈ z_U := z_U_7 (i := 37) rfl rfl
theorem u_1565 : (Jvm.Cond.code ({ cls := "PaceStoreModel", name := "sizeOf", desc := "(III)I" } : Jvm.MethodName) prog_12_method_89_code (5 : Nat) (Option.some Jvm.ClassFile.FieldType.int)) ∈ z_U := z_U_7 (i := 38) rfl rfl
theorem u_1566 : (Jvm.Cond.methodLink "PaceStoreModel" (348 : Nat) ({ cls := "PaceStoreModel", name := "leave", desc := "(IZ)V" } : Jvm.MethodName)) ∈ z_U := z_U_7 (i := 39) rfl rfl
theorem u_1568 : (Jvm.Cond.instanceMethod ({ cls := "PaceStoreModel", name := "leave", desc := "(IZ)V" } : Jvm.MethodName)) ∈ z_U := z_U_7 (i := 41) rfl rfl
theorem u_1569 : (Jvm.Cond.code ({ cls := "PaceStoreModel", name := "leave", desc := "(IZ)V" } : Jvm.MethodName) prog_12_method_88_code (3 : Nat) (Option.none : Option Jvm.ClassFile.FieldType)) ∈ z_U := z_U_7 (i := 42) rfl rfl
theorem u_1570 : (Jvm.Cond.methodLink "PaceStoreModel" (352 : Nat) ({ cls := "PaceStoreModel", name := "hardMark", desc := "(III)I" } : Jvm.MethodName)) ∈ z_U := z_U_7 (i := 43) rfl rfl
theorem u_1572 : (Jvm.Cond.instanceMethod ({ cls := "PaceStoreModel", name := "hardMark", desc := "(III)I" } : Jvm.MethodName)) ∈ z_U := z_U_7 (i := 45) rfl rfl
theorem u_1573 : (Jvm.Cond.code ({ cls := "PaceStoreModel", name := "hardMark", desc := "(III)I" } : Jvm.MethodName) prog_12_method_90_code (4 : Nat) (Option.some Jvm.ClassFile.FieldType.int)) ∈ z_U := z_U_7 (i := 46) rfl rfl
theorem u_1574 : (Jvm.Cond.methodLink "PaceStoreModel" (358 : Nat) ({ cls := "PaceStoreModel", name := "markOf", desc := "(III)I" } : Jvm.MethodName)) ∈ z_U := z_U_7 (i := 47) rfl rfl
theorem u_1576 : (Jvm.Cond.instanceMethod ({ cls := "PaceStoreModel", name := "markOf", desc := "(III)I" } : Jvm.MethodName)) ∈ z_U := z_U_7 (i := 49) rfl rfl
theorem u_1577 : (Jvm.Cond.code ({ cls := "PaceStoreModel", name := "markOf", desc := "(III)I" } : Jvm.MethodName) prog_12_method_91_code (5 : Nat) (Option.some Jvm.ClassFile.FieldType.int)) ∈ z_U := z_U_7 (i := 50) rfl rfl
theorem u_1578 : (Jvm.Cond.methodLink "PaceStoreLaw" (133 : Nat) ({ cls := "PaceStoreModel", name := "trace", desc := "(I)I" } : Jvm.MethodName)) ∈ z_U := z_U_7 (i := 51) rfl rfl
theorem u_1579 : (Jvm.Cond.instanceMethod ({ cls := "PaceStoreModel", name := "trace", desc := "(I)I" } : Jvm.MethodName)) ∈ z_U := z_U_7 (i := 52) rfl rfl
theorem u_1580 : (Jvm.Cond.selects "PaceStoreModel" ({ cls := "PaceStoreModel", name := "trace", desc := "(I)I" } : Jvm.MethodName) ({ cls := "PaceStoreModel", name := "trace", desc := "(I)I" } : Jvm.MethodName)) ∈ z_U := z_U_7 (i := 53) rfl rfl
theorem u_1581 : (Jvm.Cond.code ({ cls := "PaceStoreModel", name := "trace", desc := "(I)I" } : Jvm.MethodName) prog_12_method_93_code (2 : Nat) (Option.some Jvm.ClassFile.FieldType.int)) ∈ z_U := z_U_7 (i := 54) rfl rfl
theorem u_1582 : (Jvm.Cond.methodLink "PaceStoreLaw" (113 : Nat) ({ cls := "PaceStoreModel", name := "image", desc := "(I)I" } : Jvm.MethodName)) ∈ z_U := z_U_7 (i := 55) rfl rfl
theorem u_1583 : (Jvm.Cond.instanceMethod ({ cls := "PaceStoreModel", name := "image", desc := "(I)I" } : Jvm.MethodName)) ∈ z_U := z_U_7 (i := 56) rfl rfl
theorem u_1584 : (Jvm.Cond.selects "PaceStoreModel" ({ cls := "PaceStoreModel", name := "image", desc := "(I)I" } : Jvm.MethodName) ({ cls := "PaceStoreModel", name := "image", desc := "(I)I" } : Jvm.MethodName)) ∈ z_U := z_U_7 (i := 57) rfl rfl
theorem u_1585 : (Jvm.Cond.code ({ cls := "PaceStoreModel", name := "image", desc := "(I)I" } : Jvm.MethodName) prog_12_method_94_code (3 : Nat) (Option.some Jvm.ClassFile.FieldType.int)) ∈ z_U := z_U_7 (i := 58) rfl rfl
theorem u_1586 : (Jvm.Cond.methodLink "PaceStoreLaw" (117 : Nat) ({ cls := "PaceStoreModel", name := "restore", desc := "(I)I" } : Jvm.MethodName)) ∈ z_U := z_U_7 (i := 59) rfl rfl
theorem u_1587 : (Jvm.Cond.instanceMethod ({ cls := "PaceStoreModel", name := "restore", desc := "(I)I" } : Jvm.MethodName)) ∈ z_U := z_U_7 (i := 60) rfl rfl
theorem u_1588 : (Jvm.Cond.selects "PaceStoreModel" ({ cls := "PaceStoreModel", name := "restore", desc := "(I)I" } : Jvm.MethodName) ({ cls := "PaceStoreModel", name := "restore", desc := "(I)I" } : Jvm.MethodName)) ∈ z_U := z_U_7 (i := 61) rfl rfl
theorem u_1589 : (Jvm.Cond.code ({ cls := "PaceStoreModel", name := "restore", desc := "(I)I" } : Jvm.MethodName) prog_12_method_95_code (3 : Nat) (Option.some Jvm.ClassFile.FieldType.int)) ∈ z_U := z_U_7 (i := 62) rfl rfl
theorem u_1590 : (Jvm.Cond.methodLink "PaceStoreLaw" (137 : Nat) ({ cls := "PaceStoreModel", name := "count", desc := "(I)I" } : Jvm.MethodName)) ∈ z_U := z_U_7 (i := 63) rfl rfl
theorem u_1591 : (Jvm.Cond.instanceMethod ({ cls := "PaceStoreModel", name := "count", desc := "(I)I" } : Jvm.MethodName)) ∈ z_U := z_U_7 (i := 64) rfl rfl
theorem u_1592 : (Jvm.Cond.selects "PaceStoreModel" ({ cls := "PaceStoreModel", name := "count", desc := "(I)I" } : Jvm.MethodName) ({ cls := "PaceStoreModel", name := "count", desc := "(I)I" } : Jvm.MethodName)) ∈ z_U := z_U_7 (i := 65) rfl rfl
theorem u_1593 : (Jvm.Cond.code ({ cls := "PaceStoreModel", name := "count", desc := "(I)I" } : Jvm.MethodName) prog_12_method_96_code (4 : Nat) (Option.some Jvm.ClassFile.FieldType.int)) ∈ z_U := z_U_7 (i := 66) rfl rfl
theorem u_1594 : (Jvm.Cond.methodLink "PaceStoreLaw" (141 : Nat) ({ cls := "PaceStoreModel", name := "status", desc := "()I" } : Jvm.MethodName)) ∈ z_U := z_U_7 (i := 67) rfl rfl
theorem u_1595 : (Jvm.Cond.instanceMethod ({ cls := "PaceStoreModel", name := "status", desc := "()I" } : Jvm.MethodName)) ∈ z_U := z_U_7 (i := 68) rfl rfl
theorem u_1596 : (Jvm.Cond.selects "PaceStoreModel" ({ cls := "PaceStoreModel", name := "status", desc := "()I" } : Jvm.MethodName) ({ cls := "PaceStoreModel", name := "status", desc := "()I" } : Jvm.MethodName)) ∈ z_U := z_U_7 (i := 69) rfl rfl
theorem u_1597 : (Jvm.Cond.code ({ cls := "PaceStoreModel", name := "status", desc := "()I" } : Jvm.MethodName) prog_12_method_97_code (1 : Nat) (Option.some Jvm.ClassFile.FieldType.int)) ∈ z_U := z_U_7 (i := 70) rfl rfl
theorem u_1598 : (Jvm.Cond.constantLong "PaceStoreLaw" (32 : Nat) (4294967295 : Int64)) ∈ z_U := z_U_7 (i := 71) rfl rfl
theorem z_i9 : ∀ w ∈ u_ws RX9 TX9 11, w ∈ z_U := z_fc u_478 (z_fc u_480 (z_fc u_482 (z_fc u_484 (z_fc u_486 (z_fc u_488 (z_fc u_490 (z_fc u_492 (z_fc u_494 (z_fc u_496 (z_fc u_498 (z_fn)))))))))))
theorem z_i7 : ∀ w ∈ u_ws RX7 TX7 3, w ∈ z_U := z_fc u_460 (z_fc u_462 (z_fc u_464 (z_fn)))
theorem z_i5 : ∀ w ∈ u_ws RX5 TX5 9, w ∈ z_U := z_fc u_238 (z_fc u_240 (z_fc u_242 (z_fc u_244 (z_fc u_246 (z_fc u_248 (z_fc u_250 (z_fc u_252 (z_fc u_254 (z_fn)))))))))
theorem z_i2 : ∀ w ∈ u_ws RX2 TX2 18, w ∈ z_U := z_fc u_186 (z_fc u_188 (z_fc u_190 (z_fc u_192 (z_fc u_194 (z_fc u_196 (z_fc u_198 (z_fc u_200 (z_fc u_202 (z_fc u_204 (z_fc u_206 (z_fc u_208 (z_fc u_210 (z_fc u_212 (z_fc u_214 (z_fc u_216 (z_fc u_218 (z_fc u_220 (z_fn))))))))))))))))))
theorem z_i6 : ∀ w ∈ u_ws RX6 TX6 4, w ∈ z_U := z_fc u_276 (z_fc u_278 (z_fc u_280 (z_fc u_282 (z_fn))))
theorem z_i3 : ∀ w ∈ u_ws RX3 TX3 3, w ∈ z_U := z_fc u_349 (z_fc u_351 (z_fc u_353 (z_fn)))
theorem z_i1 : ∀ w ∈ u_ws RX1 TX1 10, w ∈ z_U := z_fc u_323 (z_fc u_325 (z_fc u_327 (z_fc u_329 (z_fc u_331 (z_fc u_333 (z_fc u_335 (z_fc u_337 (z_fc u_339 (z_fc u_341 (z_fn))))))))))
theorem z_i0 : ∀ w ∈ u_ws RX0 TX0 11, w ∈ z_U := z_fc u_381 (z_fc u_383 (z_fc u_385 (z_fc u_387 (z_fc u_389 (z_fc u_391 (z_fc u_393 (z_fc u_395 (z_fc u_397 (z_fc u_399 (z_fc u_401 (z_fn)))))))))))
theorem z_i4 : ∀ w ∈ u_ws RX4 TX4 2, w ∈ z_U := z_fc u_414 (z_fc u_416 (z_fn))
theorem z_i8 : ∀ w ∈ u_ws RX8 TX8 7, w ∈ z_U := z_fc u_434 (z_fc u_436 (z_fc u_438 (z_fc u_440 (z_fc u_442 (z_fc u_444 (z_fc u_446 (z_fn)))))))
theorem z_i10 : ∀ w ∈ u_ws RX10 TX10 30, w ∈ z_U := z_fc u_1139 (z_fc u_1141 (z_fc u_1143 (z_fc u_1145 (z_fc u_1147 (z_fc u_1149 (z_fc u_1151 (z_fc u_1153 (z_fc u_1155 (z_fc u_1157 (z_fc u_1159 (z_fc u_1161 (z_fc u_1163 (z_fc u_1165 (z_fc u_1167 (z_fc u_1169 (z_fc u_1171 (z_fc u_1173 (z_fc u_1175 (z_fc u_1177 (z_fc u_1179 (z_fc u_1181 (z_fc u_1183 (z_fc u_1185 (z_fc u_1187 (z_fc u_1189 (z_fc u_1191 (z_fc u_1193 (z_fc u_1195 (z_fc u_1197 (z_fn))))))))))))))))))))))))))))))
theorem z_c9 : z_Cl 0 9 11 RX9 TX9 := ⟨by decide, rfl, rfl, z_i9⟩
theorem z_c7 : z_Cl 2 7 3 RX7 TX7 := ⟨by decide, rfl, rfl, z_i7⟩
theorem z_c5 : z_Cl 4 5 9 RX5 TX5 := ⟨by decide, rfl, rfl, z_i5⟩
theorem z_c2 : z_Cl 6 2 18 RX2 TX2 := ⟨by decide, rfl, rfl, z_i2⟩
theorem z_c6 : z_Cl 21 6 4 RX6 TX6 := ⟨by decide, rfl, rfl, z_i6⟩
theorem z_c3 : z_Cl 27 3 3 RX3 TX3 := ⟨by decide, rfl, rfl, z_i3⟩
theorem z_c1 : z_Cl 29 1 10 RX1 TX1 := ⟨by decide, rfl, rfl, z_i1⟩
theorem z_c0 : z_Cl 30 0 11 RX0 TX0 := ⟨by decide, rfl, rfl, z_i0⟩
theorem z_c4 : z_Cl 42 4 2 RX4 TX4 := ⟨by decide, rfl, rfl, z_i4⟩
theorem z_c8 : z_Cl 44 8 7 RX8 TX8 := ⟨by decide, rfl, rfl, z_i8⟩
theorem z_c10 : z_Cl 46 10 30 RX10 TX10 := ⟨by decide, rfl, rfl, z_i10⟩
theorem z_only27 : ∀ j, j ≠ 2 → (z_ft 27 j).1 ≠ 1 := fun j => match j with
  | 0 => fun _ => by decide
  | 1 => fun _ => by decide
  | 2 => fun h => absurd rfl h
  | n + 3 => fun _ => (by show (0 : Nat) ≠ 1; decide)
theorem z_only46_0 : ∀ j, j ≠ 0 → (z_ft 46 j).1 ≤ 2 ∨ (z_ft 46 j).2.2.1 ≠ 0 := fun j => match j with
  | 0 => fun h => absurd rfl h
  | 1 => fun _ => by decide
  | 2 => fun _ => by decide
  | 3 => fun _ => by decide
  | 4 => fun _ => by decide
  | 5 => fun _ => by decide
  | 6 => fun _ => by decide
  | 7 => fun _ => by decide
  | 8 => fun _ => by decide
  | 9 => fun _ => by decide
  | 10 => fun _ => by decide
  | 11 => fun _ => by decide
  | 12 => fun _ => by decide
  | 13 => fun _ => by decide
  | 14 => fun _ => by decide
  | 15 => fun _ => by decide
  | 16 => fun _ => by decide
  | 17 => fun _ => by decide
  | 18 => fun _ => by decide
  | 19 => fun _ => by decide
  | 20 => fun _ => by decide
  | 21 => fun _ => by decide
  | 22 => fun _ => by decide
  | 23 => fun _ => by decide
  | 24 => fun _ => by decide
  | 25 => fun _ => by decide
  | 26 => fun _ => by decide
  | 27 => fun _ => by decide
  | 28 => fun _ => by decide
  | 29 => fun _ => by decide
  | n + 30 => fun _ => Or.inl (by show (0 : Nat) ≤ 2; decide)
theorem z_only46_1 : ∀ j, j ≠ 1 → (z_ft 46 j).1 ≤ 2 ∨ (z_ft 46 j).2.2.1 ≠ 1 := fun j => match j with
  | 0 => fun _ => by decide
  | 1 => fun h => absurd rfl h
  | 2 => fun _ => by decide
  | 3 => fun _ => by decide
  | 4 => fun _ => by decide
  | 5 => fun _ => by decide
  | 6 => fun _ => by decide
  | 7 => fun _ => by decide
  | 8 => fun _ => by decide
  | 9 => fun _ => by decide
  | 10 => fun _ => by decide
  | 11 => fun _ => by decide
  | 12 => fun _ => by decide
  | 13 => fun _ => by decide
  | 14 => fun _ => by decide
  | 15 => fun _ => by decide
  | 16 => fun _ => by decide
  | 17 => fun _ => by decide
  | 18 => fun _ => by decide
  | 19 => fun _ => by decide
  | 20 => fun _ => by decide
  | 21 => fun _ => by decide
  | 22 => fun _ => by decide
  | 23 => fun _ => by decide
  | 24 => fun _ => by decide
  | 25 => fun _ => by decide
  | 26 => fun _ => by decide
  | 27 => fun _ => by decide
  | 28 => fun _ => by decide
  | 29 => fun _ => by decide
  | n + 30 => fun _ => Or.inl (by show (0 : Nat) ≤ 2; decide)
