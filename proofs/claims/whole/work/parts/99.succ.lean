/-! LOOPS: one turn more -/
theorem f_X0_fitTo_L19_s {n : Nat} {m : Nat} : f_X0_fitTo_L19 n (m + 1) = f_X0_fitTo_L19_B n (f_X0_fitTo_L19 n m) := rfl
theorem f_X0_noteLost_L13_s {n : Nat} {m : Nat} : f_X0_noteLost_L13 n (m + 1) = f_X0_noteLost_L13_B n (f_X0_noteLost_L13 n m) := rfl
theorem f_X0_layOut_L125_s {n : Nat} {m : Nat} : f_X0_layOut_L125 n (m + 1) = f_X0_layOut_L125_B n (f_X0_layOut_L125 n m) := rfl
theorem f_X0_layOut_L96_s {n : Nat} {m : Nat} : f_X0_layOut_L96 n (m + 1) = f_X0_layOut_L96_B n (f_X0_layOut_L96 n m) := rfl
theorem f_X0_layOut_L39_s {n : Nat} {q14 : Int32 → hq_S → Option hq_S} {m : Nat} : f_X0_layOut_L39 n q14 (m + 1) = f_X0_layOut_L39_B n q14 (f_X0_layOut_L39 n q14 m) := rfl
theorem f_X0_layOut_L14_s {n : Nat} {m : Nat} : f_X0_layOut_L14 n (m + 1) = f_X0_layOut_L14_B n (f_X0_layOut_L14 n m) := rfl
theorem f_X0_lostOnTurn_L9_s {n : Nat} {m : Nat} : f_X0_lostOnTurn_L9 n (m + 1) = f_X0_lostOnTurn_L9_B n (f_X0_lostOnTurn_L9 n m) := rfl
theorem f_X0_spreadOneGuard_L39_s {n : Nat} {q16 : Int32 → Int32 → hq_S → Option hq_S} {m : Nat} : f_X0_spreadOneGuard_L39 n q16 (m + 1) = f_X0_spreadOneGuard_L39_B n q16 (f_X0_spreadOneGuard_L39 n q16 m) := rfl
theorem f_X0_spreadOneGuard_L16_s {n : Nat} {m : Nat} : f_X0_spreadOneGuard_L16 n (m + 1) = f_X0_spreadOneGuard_L16_B n (f_X0_spreadOneGuard_L16 n m) := rfl
theorem f_X0_solveRound_L62_s {n : Nat} {m : Nat} : f_X0_solveRound_L62 n (m + 1) = f_X0_solveRound_L62_B n (f_X0_solveRound_L62 n m) := rfl
theorem f_X0_solveRound_L31_s {n : Nat} {m : Nat} : f_X0_solveRound_L31 n (m + 1) = f_X0_solveRound_L31_B n (f_X0_solveRound_L31 n m) := rfl
theorem f_X0_solveRound_L2_s {n : Nat} {m : Nat} : f_X0_solveRound_L2 n (m + 1) = f_X0_solveRound_L2_B n (f_X0_solveRound_L2 n m) := rfl
theorem f_X0_solve_L36_s {n : Nat} {m : Nat} : f_X0_solve_L36 n (m + 1) = f_X0_solve_L36_B n (f_X0_solve_L36 n m) := rfl
theorem f_X0_cornerIn_L15_s {n : Nat} {m : Nat} : f_X0_cornerIn_L15 n (m + 1) = f_X0_cornerIn_L15_B n (f_X0_cornerIn_L15 n m) := rfl
theorem f_X0_isTurn_L2_s {n : Nat} {m : Nat} : f_X0_isTurn_L2 n (m + 1) = f_X0_isTurn_L2_B n (f_X0_isTurn_L2 n m) := rfl
theorem f_X0_safest_L8_s {n : Nat} {m : Nat} : f_X0_safest_L8 n (m + 1) = f_X0_safest_L8_B n (f_X0_safest_L8 n m) := rfl
theorem f_X0_firstRow_L12_s {n : Nat} {m : Nat} : f_X0_firstRow_L12 n (m + 1) = f_X0_firstRow_L12_B n (f_X0_firstRow_L12 n m) := rfl
theorem f_X0_firstPostRow_L2_s {n : Nat} {m : Nat} : f_X0_firstPostRow_L2 n (m + 1) = f_X0_firstPostRow_L2_B n (f_X0_firstPostRow_L2 n m) := rfl
theorem f_X0_findPosts_L25_s {n : Nat} {m : Nat} : f_X0_findPosts_L25 n (m + 1) = f_X0_findPosts_L25_B n (f_X0_findPosts_L25 n m) := rfl
theorem f_X2_standing_L11_s {n : Nat} {m : Nat} : f_X2_standing_L11 n (m + 1) = f_X2_standing_L11_B n (f_X2_standing_L11 n m) := rfl
theorem f_X8_onward_L2_s {n : Nat} {m : Nat} : f_X8_onward_L2 n (m + 1) = f_X8_onward_L2_B n (f_X8_onward_L2 n m) := rfl
theorem f_X3_walkBeats_L2_s {n : Nat} {m : Nat} : f_X3_walkBeats_L2 n (m + 1) = f_X3_walkBeats_L2_B n (f_X3_walkBeats_L2 n m) := rfl
theorem f_X3_nearest_L5_s {n : Nat} {m : Nat} : f_X3_nearest_L5 n (m + 1) = f_X3_nearest_L5_B n (f_X3_nearest_L5 n m) := rfl
theorem f_X4_valueOf_L10_s {n : Nat} {m : Nat} : f_X4_valueOf_L10 n (m + 1) = f_X4_valueOf_L10_B n (f_X4_valueOf_L10 n m) := rfl
theorem f_X3_lawValue_L24_s {n : Nat} {m : Nat} : f_X3_lawValue_L24 n (m + 1) = f_X3_lawValue_L24_B n (f_X3_lawValue_L24 n m) := rfl
theorem f_X3_goWhereDreadIsLeast_L23_s {n : Nat} {m : Nat} : f_X3_goWhereDreadIsLeast_L23 n (m + 1) = f_X3_goWhereDreadIsLeast_L23_B n (f_X3_goWhereDreadIsLeast_L23 n m) := rfl
theorem f_X3_catchBy_L2_s {n : Nat} {m : Nat} : f_X3_catchBy_L2 n (m + 1) = f_X3_catchBy_L2_B n (f_X3_catchBy_L2 n m) := rfl
theorem f_X3_pass_L73_s {n : Nat} {m : Nat} : f_X3_pass_L73 n (m + 1) = f_X3_pass_L73_B n (f_X3_pass_L73 n m) := rfl
theorem f_X3_pass_L49_s {n : Nat} {m : Nat} : f_X3_pass_L49 n (m + 1) = f_X3_pass_L49_B n (f_X3_pass_L49 n m) := rfl
theorem f_X3_pass_L6_s {n : Nat} {m : Nat} : f_X3_pass_L6 n (m + 1) = f_X3_pass_L6_B n (f_X3_pass_L6 n m) := rfl
theorem f_X2_areSo_L3_s {n : Nat} {m : Nat} : f_X2_areSo_L3 n (m + 1) = f_X2_areSo_L3_B n (f_X2_areSo_L3 n m) := rfl
theorem f_X2_boldsOf_L33_s {n : Nat} {q12 : Int32 → Nat → Int32 → Int32 → Int32 → Int32 → hq_S → Option (Int32 × hq_S)} {m : Nat} : f_X2_boldsOf_L33 n q12 (m + 1) = f_X2_boldsOf_L33_B n q12 (f_X2_boldsOf_L33 n q12 m) := rfl
theorem f_X2_boldsOf_L12_s {n : Nat} {m : Nat} : f_X2_boldsOf_L12 n (m + 1) = f_X2_boldsOf_L12_B n (f_X2_boldsOf_L12 n m) := rfl
theorem f_X2_lastHour_L4_s {n : Nat} {m : Nat} : f_X2_lastHour_L4 n (m + 1) = f_X2_lastHour_L4_B n (f_X2_lastHour_L4 n m) := rfl
theorem f_X2_worstLeft_L18_s {n : Nat} {q5 : Int32 → Int32 → Int32 → Int32 → hq_S → Option (Int32 × hq_S)} {m : Nat} : f_X2_worstLeft_L18 n q5 (m + 1) = f_X2_worstLeft_L18_B n q5 (f_X2_worstLeft_L18 n q5 m) := rfl
theorem f_X2_worstLeft_L5_s {n : Nat} {m : Nat} : f_X2_worstLeft_L5 n (m + 1) = f_X2_worstLeft_L5_B n (f_X2_worstLeft_L5 n m) := rfl
theorem f_X2_chooseQuestion_L17_s {n : Nat} {m : Nat} : f_X2_chooseQuestion_L17 n (m + 1) = f_X2_chooseQuestion_L17_B n (f_X2_chooseQuestion_L17 n m) := rfl
theorem f_X3_passMany_L2_s {n : Nat} {m : Nat} : f_X3_passMany_L2 n (m + 1) = f_X3_passMany_L2_B n (f_X3_passMany_L2 n m) := rfl
theorem f_J7_fill_53178_L5_s {n : Nat} {m : Nat} : f_J7_fill_53178_L5 n (m + 1) = f_J7_fill_53178_L5_B n (f_J7_fill_53178_L5 n m) := rfl
theorem f_X5_howManyCaught_L4_s {n : Nat} {m : Nat} : f_X5_howManyCaught_L4 n (m + 1) = f_X5_howManyCaught_L4_B n (f_X5_howManyCaught_L4 n m) := rfl
theorem f_X5_lootOfAll_L4_s {n : Nat} {m : Nat} : f_X5_lootOfAll_L4 n (m + 1) = f_X5_lootOfAll_L4_B n (f_X5_lootOfAll_L4 n m) := rfl
theorem f_X5_hadByAll_L4_s {n : Nat} {m : Nat} : f_X5_hadByAll_L4 n (m + 1) = f_X5_hadByAll_L4_B n (f_X5_hadByAll_L4 n m) := rfl
theorem f_X9_takeWord_L124_s {n : Nat} {m : Nat} : f_X9_takeWord_L124 n (m + 1) = f_X9_takeWord_L124_B n (f_X9_takeWord_L124 n m) := rfl
theorem f_X9_takeWord_L0_s {n : Nat} {m : Nat} : f_X9_takeWord_L0 n (m + 1) = f_X9_takeWord_L0_B n (f_X9_takeWord_L0 n m) := rfl
theorem f_X9_takeNumber_L5_s {n : Nat} {m : Nat} : f_X9_takeNumber_L5 n (m + 1) = f_X9_takeNumber_L5_B n (f_X9_takeNumber_L5 n m) := rfl
theorem f_X9_advance_L0_s {n : Nat} {m : Nat} : f_X9_advance_L0 n (m + 1) = f_X9_advance_L0_B n (f_X9_advance_L0 n m) := rfl
theorem f_X10_placeOf_L2_s {n : Nat} {m : Nat} : f_X10_placeOf_L2 n (m + 1) = f_X10_placeOf_L2_B n (f_X10_placeOf_L2 n m) := rfl
theorem f_X10_hasLane_L3_s {n : Nat} {m : Nat} : f_X10_hasLane_L3 n (m + 1) = f_X10_hasLane_L3_B n (f_X10_hasLane_L3 n m) := rfl
theorem f_X6_readBeat_L77_s {n : Nat} {m : Nat} : f_X6_readBeat_L77 n (m + 1) = f_X6_readBeat_L77_B n (f_X6_readBeat_L77 n m) := rfl
theorem f_X6_settle_L0_s {n : Nat} {m : Nat} : f_X6_settle_L0 n (m + 1) = f_X6_settle_L0_B n (f_X6_settle_L0 n m) := rfl
theorem f_X6_readLaw_L110_s {n : Nat} {m : Nat} : f_X6_readLaw_L110 n (m + 1) = f_X6_readLaw_L110_B n (f_X6_readLaw_L110 n m) := rfl
theorem f_X6_readText_L36_s {n : Nat} {m : Nat} : f_X6_readText_L36 n (m + 1) = f_X6_readText_L36_B n (f_X6_readText_L36 n m) := rfl
theorem f_X7_letGo_L39_s {n : Nat} {q6 : Nat → Nat → Int32 → hq_S → Option hq_S} {m : Nat} : f_X7_letGo_L39 n q6 (m + 1) = f_X7_letGo_L39_B n q6 (f_X7_letGo_L39 n q6 m) := rfl
theorem f_X7_letGo_L6_s {n : Nat} {m : Nat} : f_X7_letGo_L6 n (m + 1) = f_X7_letGo_L6_B n (f_X7_letGo_L6 n m) := rfl
theorem f_X7_solveAround_L14_s {n : Nat} {m : Nat} : f_X7_solveAround_L14 n (m + 1) = f_X7_solveAround_L14_B n (f_X7_solveAround_L14 n m) := rfl
theorem f_X7_nightsToSweep_L71_s {n : Nat} {q44 : Nat → Int32 → Int32 → Int32 → Int32 → hq_S → Option (Int32 × hq_S)} {m : Nat} : f_X7_nightsToSweep_L71 n q44 (m + 1) = f_X7_nightsToSweep_L71_B n q44 (f_X7_nightsToSweep_L71 n q44 m) := rfl
theorem f_X7_nightsToSweep_L44_s {n : Nat} {m : Nat} : f_X7_nightsToSweep_L44 n (m + 1) = f_X7_nightsToSweep_L44_B n (f_X7_nightsToSweep_L44 n m) := rfl
theorem f_X7_firstLook_L29_s {n : Nat} {m : Nat} : f_X7_firstLook_L29 n (m + 1) = f_X7_firstLook_L29_B n (f_X7_firstLook_L29 n m) := rfl
theorem f_X8_nextToAny_L4_s {n : Nat} {m : Nat} : f_X8_nextToAny_L4 n (m + 1) = f_X8_nextToAny_L4_B n (f_X8_nextToAny_L4 n m) := rfl
theorem f_X7_goOn_L10_s {n : Nat} {m : Nat} : f_X7_goOn_L10 n (m + 1) = f_X7_goOn_L10_B n (f_X7_goOn_L10 n m) := rfl
theorem f_X7_lanesOfRound_L122_s {n : Nat} {q60 : Nat → Int32 → Int32 → Nat → Nat → Int32 → hq_S → Option (Int32 × hq_S)} {m : Nat} : f_X7_lanesOfRound_L122 n q60 (m + 1) = f_X7_lanesOfRound_L122_B n q60 (f_X7_lanesOfRound_L122 n q60 m) := rfl
theorem f_X7_lanesOfRound_L86_s {n : Nat} {q60 : Nat → Int32 → Int32 → Nat → Nat → Int32 → hq_S → Option (Int32 × hq_S)} {m : Nat} : f_X7_lanesOfRound_L86 n q60 (m + 1) = f_X7_lanesOfRound_L86_B n q60 (f_X7_lanesOfRound_L86 n q60 m) := rfl
theorem f_X7_lanesOfRound_L60_s {n : Nat} {m : Nat} : f_X7_lanesOfRound_L60 n (m + 1) = f_X7_lanesOfRound_L60_B n (f_X7_lanesOfRound_L60 n m) := rfl
theorem f_X8_measureFrom_L56_s {n : Nat} {q41 : Nat → Int32 → Int32 → Int32 → Int32 → Int32 → hq_S → Option hq_S} {m : Nat} : f_X8_measureFrom_L56 n q41 (m + 1) = f_X8_measureFrom_L56_B n q41 (f_X8_measureFrom_L56 n q41 m) := rfl
theorem f_X8_measureFrom_L41_s {n : Nat} {m : Nat} : f_X8_measureFrom_L41 n (m + 1) = f_X8_measureFrom_L41_B n (f_X8_measureFrom_L41 n m) := rfl
theorem f_X8_measureFrom_L7_s {n : Nat} {m : Nat} : f_X8_measureFrom_L7 n (m + 1) = f_X8_measureFrom_L7_B n (f_X8_measureFrom_L7 n m) := rfl
theorem f_X8_build_L127_s {n : Nat} {m : Nat} : f_X8_build_L127 n (m + 1) = f_X8_build_L127_B n (f_X8_build_L127 n m) := rfl
theorem f_X8_build_L19_s {n : Nat} {m : Nat} : f_X8_build_L19 n (m + 1) = f_X8_build_L19_B n (f_X8_build_L19 n m) := rfl
theorem f_X8_reached_L4_s {n : Nat} {m : Nat} : f_X8_reached_L4 n (m + 1) = f_X8_reached_L4_B n (f_X8_reached_L4 n m) := rfl
theorem f_X8_howManyParts_L17_s {n : Nat} {q4 : Nat → Int32 → Int32 → hq_S → Option (Int32 × hq_S)} {m : Nat} : f_X8_howManyParts_L17 n q4 (m + 1) = f_X8_howManyParts_L17_B n q4 (f_X8_howManyParts_L17 n q4 m) := rfl
theorem f_X8_howManyParts_L4_s {n : Nat} {m : Nat} : f_X8_howManyParts_L4 n (m + 1) = f_X8_howManyParts_L4_B n (f_X8_howManyParts_L4 n m) := rfl
theorem f_J7_fill_d0a16_L6_s {n : Nat} {m : Nat} : f_J7_fill_d0a16_L6 n (m + 1) = f_J7_fill_d0a16_L6_B n (f_J7_fill_d0a16_L6 n m) := rfl
theorem f_X8_shareOut_L39_s {n : Nat} {m : Nat} : f_X8_shareOut_L39 n (m + 1) = f_X8_shareOut_L39_B n (f_X8_shareOut_L39 n m) := rfl
theorem f_X8_drunkWeight_L50_s {n : Nat} {q18 : Nat → Int32 → Int32 → Int32 → Int32 → hq_S → Option (Int64 × hq_S)} {m : Nat} : f_X8_drunkWeight_L50 n q18 (m + 1) = f_X8_drunkWeight_L50_B n q18 (f_X8_drunkWeight_L50 n q18 m) := rfl
theorem f_X8_drunkWeight_L18_s {n : Nat} {m : Nat} : f_X8_drunkWeight_L18 n (m + 1) = f_X8_drunkWeight_L18_B n (f_X8_drunkWeight_L18 n m) := rfl
theorem f_X10_lanesOutOf_L5_s {n : Nat} {m : Nat} : f_X10_lanesOutOf_L5 n (m + 1) = f_X10_lanesOutOf_L5_B n (f_X10_lanesOutOf_L5 n m) := rfl
theorem f_X10_fewestBars_L7_s {n : Nat} {m : Nat} : f_X10_fewestBars_L7 n (m + 1) = f_X10_fewestBars_L7_B n (f_X10_fewestBars_L7 n m) := rfl
theorem f_X11_putFour_L3_s {n : Nat} {m : Nat} : f_X11_putFour_L3 n (m + 1) = f_X11_putFour_L3_B n (f_X11_putFour_L3 n m) := rfl
theorem f_X11_guardsAt_L4_s {n : Nat} {m : Nat} : f_X11_guardsAt_L4 n (m + 1) = f_X11_guardsAt_L4_B n (f_X11_guardsAt_L4 n m) := rfl
theorem f_X11_thievesAt_L4_s {n : Nat} {m : Nat} : f_X11_thievesAt_L4 n (m + 1) = f_X11_thievesAt_L4_B n (f_X11_thievesAt_L4 n m) := rfl
theorem f_X11_caught_L16_s {n : Nat} {m : Nat} : f_X11_caught_L16 n (m + 1) = f_X11_caught_L16_B n (f_X11_caught_L16 n m) := rfl
theorem f_X11_way_L55_s {n : Nat} {m : Nat} : f_X11_way_L55 n (m + 1) = f_X11_way_L55_B n (f_X11_way_L55 n m) := rfl
theorem f_X11_rowOf_L4_s {n : Nat} {m : Nat} : f_X11_rowOf_L4 n (m + 1) = f_X11_rowOf_L4_B n (f_X11_rowOf_L4 n m) := rfl
theorem f_X11_firstTurn_L2_s {n : Nat} {m : Nat} : f_X11_firstTurn_L2 n (m + 1) = f_X11_firstTurn_L2_B n (f_X11_firstTurn_L2 n m) := rfl
theorem f_X11_dark_L14_s {n : Nat} {m : Nat} : f_X11_dark_L14 n (m + 1) = f_X11_dark_L14_B n (f_X11_dark_L14 n m) := rfl
theorem f_X11_could_L79_s {n : Nat} {q52 : Int32 → Int32 → Int32 → Int32 → hq_S → Option (Int32 × hq_S)} {m : Nat} : f_X11_could_L79 n q52 (m + 1) = f_X11_could_L79_B n q52 (f_X11_could_L79 n q52 m) := rfl
theorem f_X11_could_L52_s {n : Nat} {m : Nat} : f_X11_could_L52 n (m + 1) = f_X11_could_L52_B n (f_X11_could_L52 n m) := rfl
theorem f_X11_unseen_L21_s {n : Nat} {m : Nat} : f_X11_unseen_L21 n (m + 1) = f_X11_unseen_L21_B n (f_X11_unseen_L21 n m) := rfl
theorem f_X11_power_L5_s {n : Nat} {m : Nat} : f_X11_power_L5 n (m + 1) = f_X11_power_L5_B n (f_X11_power_L5 n m) := rfl
theorem f_X11_inLeastTerms_L9_s {n : Nat} {m : Nat} : f_X11_inLeastTerms_L9 n (m + 1) = f_X11_inLeastTerms_L9_B n (f_X11_inLeastTerms_L9 n m) := rfl
theorem f_X11_matchScore_L10_s {n : Nat} {m : Nat} : f_X11_matchScore_L10 n (m + 1) = f_X11_matchScore_L10_B n (f_X11_matchScore_L10 n m) := rfl
theorem f_X11_bestMatch_L24_s {n : Nat} {m : Nat} : f_X11_bestMatch_L24 n (m + 1) = f_X11_bestMatch_L24_B n (f_X11_bestMatch_L24 n m) := rfl
theorem f_X11_rests_L28_s {n : Nat} {m : Nat} : f_X11_rests_L28 n (m + 1) = f_X11_rests_L28_B n (f_X11_rests_L28 n m) := rfl
theorem f_X11_rest_L33_s {n : Nat} {m : Nat} : f_X11_rest_L33 n (m + 1) = f_X11_rest_L33_B n (f_X11_rest_L33 n m) := rfl
theorem f_X11_chance_L35_s {n : Nat} {m : Nat} : f_X11_chance_L35 n (m + 1) = f_X11_chance_L35_B n (f_X11_chance_L35 n m) := rfl
theorem f_X12_feed_L20_s {n : Nat} {m : Nat} : f_X12_feed_L20 n (m + 1) = f_X12_feed_L20_B n (f_X12_feed_L20 n m) := rfl
theorem f_X12_word_L97_s {n : Nat} {q4 : Int32 → Int32 → hq_S → Option (Int32 × hq_S)} {m : Nat} : f_X12_word_L97 n q4 (m + 1) = f_X12_word_L97_B n q4 (f_X12_word_L97 n q4 m) := rfl
theorem f_X12_word_L15_s {n : Nat} {q4 : Int32 → Int32 → hq_S → Option (Int32 × hq_S)} {m : Nat} : f_X12_word_L15 n q4 (m + 1) = f_X12_word_L15_B n q4 (f_X12_word_L15 n q4 m) := rfl
theorem f_X12_word_L4_s {n : Nat} {m : Nat} : f_X12_word_L4 n (m + 1) = f_X12_word_L4_B n (f_X12_word_L4 n m) := rfl
theorem f_X12_name_L7_s {n : Nat} {m : Nat} : f_X12_name_L7 n (m + 1) = f_X12_name_L7_B n (f_X12_name_L7 n m) := rfl
theorem f_X12_token_L162_s {n : Nat} {m : Nat} : f_X12_token_L162 n (m + 1) = f_X12_token_L162_B n (f_X12_token_L162 n m) := rfl
theorem f_X12_token_L64_s {n : Nat} {m : Nat} : f_X12_token_L64 n (m + 1) = f_X12_token_L64_B n (f_X12_token_L64 n m) := rfl
theorem f_X12_token_L0_s {n : Nat} {m : Nat} : f_X12_token_L0 n (m + 1) = f_X12_token_L0_B n (f_X12_token_L0 n m) := rfl
theorem f_X12_found_L3_s {n : Nat} {m : Nat} : f_X12_found_L3 n (m + 1) = f_X12_found_L3_B n (f_X12_found_L3 n m) := rfl
theorem f_X12_laneLine_L66_s {n : Nat} {m : Nat} : f_X12_laneLine_L66 n (m + 1) = f_X12_laneLine_L66_B n (f_X12_laneLine_L66 n m) := rfl
theorem f_X12_beatLine_L46_s {n : Nat} {m : Nat} : f_X12_beatLine_L46 n (m + 1) = f_X12_beatLine_L46_B n (f_X12_beatLine_L46 n m) := rfl
theorem f_X12_expression_L4_s {n : Nat} {R0 : hq_S → Option hq_S} {R1 : hq_S → Option hq_S} {R2 : hq_S → Option hq_S} {R3 : hq_S → Option hq_S} {R4 : hq_S → Option hq_S} {R5 : hq_S → Option hq_S} {m : Nat} : f_X12_expression_L4 n R0 R1 R2 R3 R4 R5 (m + 1) = f_X12_expression_L4_B n R0 R1 R2 R3 R4 R5 (f_X12_expression_L4 n R0 R1 R2 R3 R4 R5 m) := rfl
theorem f_X12_conjunction_L4_s {n : Nat} {R0 : hq_S → Option hq_S} {R1 : hq_S → Option hq_S} {R2 : hq_S → Option hq_S} {R3 : hq_S → Option hq_S} {R4 : hq_S → Option hq_S} {R5 : hq_S → Option hq_S} {m : Nat} : f_X12_conjunction_L4 n R0 R1 R2 R3 R4 R5 (m + 1) = f_X12_conjunction_L4_B n R0 R1 R2 R3 R4 R5 (f_X12_conjunction_L4 n R0 R1 R2 R3 R4 R5 m) := rfl
theorem f_X12_sum_L4_s {n : Nat} {R0 : hq_S → Option hq_S} {R1 : hq_S → Option hq_S} {R2 : hq_S → Option hq_S} {R3 : hq_S → Option hq_S} {R4 : hq_S → Option hq_S} {R5 : hq_S → Option hq_S} {m : Nat} : f_X12_sum_L4 n R0 R1 R2 R3 R4 R5 (m + 1) = f_X12_sum_L4_B n R0 R1 R2 R3 R4 R5 (f_X12_sum_L4 n R0 R1 R2 R3 R4 R5 m) := rfl
theorem f_X12_product_L4_s {n : Nat} {R0 : hq_S → Option hq_S} {R1 : hq_S → Option hq_S} {R2 : hq_S → Option hq_S} {R3 : hq_S → Option hq_S} {R4 : hq_S → Option hq_S} {R5 : hq_S → Option hq_S} {m : Nat} : f_X12_product_L4 n R0 R1 R2 R3 R4 R5 (m + 1) = f_X12_product_L4_B n R0 R1 R2 R3 R4 R5 (f_X12_product_L4 n R0 R1 R2 R3 R4 R5 m) := rfl
theorem f_X12_half_L7_s {n : Nat} {m : Nat} : f_X12_half_L7 n (m + 1) = f_X12_half_L7_B n (f_X12_half_L7 n m) := rfl
theorem f_X12_starts_L124_s {n : Nat} {m : Nat} : f_X12_starts_L124 n (m + 1) = f_X12_starts_L124_B n (f_X12_starts_L124 n m) := rfl
theorem f_X12_starts_L73_s {n : Nat} {m : Nat} : f_X12_starts_L73 n (m + 1) = f_X12_starts_L73_B n (f_X12_starts_L73 n m) := rfl
theorem f_X12_starts_L28_s {n : Nat} {m : Nat} : f_X12_starts_L28 n (m + 1) = f_X12_starts_L28_B n (f_X12_starts_L28 n m) := rfl
theorem f_X12_text_L127_s {n : Nat} {m : Nat} : f_X12_text_L127 n (m + 1) = f_X12_text_L127_B n (f_X12_text_L127 n m) := rfl
theorem f_X12_text_L77_s {n : Nat} {m : Nat} : f_X12_text_L77 n (m + 1) = f_X12_text_L77_B n (f_X12_text_L77 n m) := rfl
theorem f_X12_text_L47_s {n : Nat} {m : Nat} : f_X12_text_L47 n (m + 1) = f_X12_text_L47_B n (f_X12_text_L47 n m) := rfl
theorem f_X12_goes_L12_s {n : Nat} {m : Nat} : f_X12_goes_L12 n (m + 1) = f_X12_goes_L12_B n (f_X12_goes_L12 n m) := rfl
theorem f_X12_copies_L147_s {n : Nat} {m : Nat} : f_X12_copies_L147 n (m + 1) = f_X12_copies_L147_B n (f_X12_copies_L147 n m) := rfl
theorem f_X12_copies_L74_s {n : Nat} {m : Nat} : f_X12_copies_L74 n (m + 1) = f_X12_copies_L74_B n (f_X12_copies_L74 n m) := rfl
theorem f_X12_copies_L38_s {n : Nat} {m : Nat} : f_X12_copies_L38 n (m + 1) = f_X12_copies_L38_B n (f_X12_copies_L38 n m) := rfl
theorem f_X12_bitsOf_L4_s {n : Nat} {m : Nat} : f_X12_bitsOf_L4 n (m + 1) = f_X12_bitsOf_L4_B n (f_X12_bitsOf_L4 n m) := rfl
theorem f_X12_laysFrom_L53_s {n : Nat} {q39 : Int32 → Int32 → Int32 → Int32 → hq_S → Option hq_S} {m : Nat} : f_X12_laysFrom_L53 n q39 (m + 1) = f_X12_laysFrom_L53_B n q39 (f_X12_laysFrom_L53 n q39 m) := rfl
theorem f_X12_laysFrom_L39_s {n : Nat} {m : Nat} : f_X12_laysFrom_L39 n (m + 1) = f_X12_laysFrom_L39_B n (f_X12_laysFrom_L39 n m) := rfl
theorem f_X12_laysFrom_L9_s {n : Nat} {m : Nat} : f_X12_laysFrom_L9 n (m + 1) = f_X12_laysFrom_L9_B n (f_X12_laysFrom_L9 n m) := rfl
theorem f_X12_lays_L127_s {n : Nat} {m : Nat} : f_X12_lays_L127 n (m + 1) = f_X12_lays_L127_B n (f_X12_lays_L127 n m) := rfl
theorem f_X12_lays_L23_s {n : Nat} {m : Nat} : f_X12_lays_L23 n (m + 1) = f_X12_lays_L23_B n (f_X12_lays_L23 n m) := rfl
theorem f_X12_lays_L2_s {n : Nat} {m : Nat} : f_X12_lays_L2 n (m + 1) = f_X12_lays_L2_B n (f_X12_lays_L2 n m) := rfl
theorem f_X12_farOf_L6_s {n : Nat} {m : Nat} : f_X12_farOf_L6 n (m + 1) = f_X12_farOf_L6_B n (f_X12_farOf_L6 n m) := rfl
theorem f_X12_guardsAt_L5_s {n : Nat} {m : Nat} : f_X12_guardsAt_L5 n (m + 1) = f_X12_guardsAt_L5_B n (f_X12_guardsAt_L5 n m) := rfl
theorem f_X12_nearer_L2_s {n : Nat} {m : Nat} : f_X12_nearer_L2 n (m + 1) = f_X12_nearer_L2_B n (f_X12_nearer_L2 n m) := rfl
theorem f_X12_stirs_L46_s {n : Nat} {m : Nat} : f_X12_stirs_L46 n (m + 1) = f_X12_stirs_L46_B n (f_X12_stirs_L46 n m) := rfl
theorem f_X12_passes_L174_s {n : Nat} {m : Nat} : f_X12_passes_L174 n (m + 1) = f_X12_passes_L174_B n (f_X12_passes_L174 n m) := rfl
theorem f_X12_passes_L77_s {n : Nat} {q64 : Int32 → Int32 → Int32 → hq_S → Option hq_S} {m : Nat} : f_X12_passes_L77 n q64 (m + 1) = f_X12_passes_L77_B n q64 (f_X12_passes_L77 n q64 m) := rfl
theorem f_X12_passes_L64_s {n : Nat} {m : Nat} : f_X12_passes_L64 n (m + 1) = f_X12_passes_L64_B n (f_X12_passes_L64 n m) := rfl
theorem f_X12_passes_L31_s {n : Nat} {m : Nat} : f_X12_passes_L31 n (m + 1) = f_X12_passes_L31_B n (f_X12_passes_L31 n m) := rfl
theorem f_X12_passes_L7_s {n : Nat} {m : Nat} : f_X12_passes_L7 n (m + 1) = f_X12_passes_L7_B n (f_X12_passes_L7 n m) := rfl
theorem f_X12_goesOn_L2_s {n : Nat} {m : Nat} : f_X12_goesOn_L2 n (m + 1) = f_X12_goesOn_L2_B n (f_X12_goesOn_L2 n m) := rfl
theorem f_X12_sumOf_L6_s {n : Nat} {m : Nat} : f_X12_sumOf_L6 n (m + 1) = f_X12_sumOf_L6_B n (f_X12_sumOf_L6 n m) := rfl
theorem f_X12_caughtOnes_L4_s {n : Nat} {m : Nat} : f_X12_caughtOnes_L4 n (m + 1) = f_X12_caughtOnes_L4_B n (f_X12_caughtOnes_L4 n m) := rfl
theorem f_X12_thievesAt_L4_s {n : Nat} {m : Nat} : f_X12_thievesAt_L4 n (m + 1) = f_X12_thievesAt_L4_B n (f_X12_thievesAt_L4 n m) := rfl
theorem f_X12_keepNow_L11_s {n : Nat} {m : Nat} : f_X12_keepNow_L11 n (m + 1) = f_X12_keepNow_L11_B n (f_X12_keepNow_L11 n m) := rfl
theorem f_X12_go_L43_s {n : Nat} {m : Nat} : f_X12_go_L43 n (m + 1) = f_X12_go_L43_B n (f_X12_go_L43 n m) := rfl
theorem f_X12_caught_L23_s {n : Nat} {m : Nat} : f_X12_caught_L23 n (m + 1) = f_X12_caught_L23_B n (f_X12_caught_L23 n m) := rfl
theorem f_X12_way_L67_s {n : Nat} {m : Nat} : f_X12_way_L67 n (m + 1) = f_X12_way_L67_B n (f_X12_way_L67 n m) := rfl
theorem f_X12_reachOf_L4_s {n : Nat} {m : Nat} : f_X12_reachOf_L4 n (m + 1) = f_X12_reachOf_L4_B n (f_X12_reachOf_L4 n m) := rfl
theorem f_X12_parts_L29_s {n : Nat} {q14 : Int32 → Int32 → hq_S → Option (Int32 × hq_S)} {m : Nat} : f_X12_parts_L29 n q14 (m + 1) = f_X12_parts_L29_B n q14 (f_X12_parts_L29 n q14 m) := rfl
theorem f_X12_parts_L14_s {n : Nat} {m : Nat} : f_X12_parts_L14 n (m + 1) = f_X12_parts_L14_B n (f_X12_parts_L14 n m) := rfl
theorem f_X12_reads10_L7_s {n : Nat} {m : Nat} : f_X12_reads10_L7 n (m + 1) = f_X12_reads10_L7_B n (f_X12_reads10_L7 n m) := rfl
theorem f_X12_isAmong_L2_s {n : Nat} {m : Nat} : f_X12_isAmong_L2 n (m + 1) = f_X12_isAmong_L2_B n (f_X12_isAmong_L2 n m) := rfl
theorem f_X12_isLost_L29_s {n : Nat} {m : Nat} : f_X12_isLost_L29 n (m + 1) = f_X12_isLost_L29_B n (f_X12_isLost_L29 n m) := rfl
theorem f_X12_spreads_L139_s {n : Nat} {m : Nat} : f_X12_spreads_L139 n (m + 1) = f_X12_spreads_L139_B n (f_X12_spreads_L139 n m) := rfl
theorem f_X12_spreads_L62_s {n : Nat} {q14 : Int32 → Int32 → Int32 → hq_S → Option hq_S} {m : Nat} : f_X12_spreads_L62 n q14 (m + 1) = f_X12_spreads_L62_B n q14 (f_X12_spreads_L62 n q14 m) := rfl
theorem f_X12_spreads_L14_s {n : Nat} {m : Nat} : f_X12_spreads_L14 n (m + 1) = f_X12_spreads_L14_B n (f_X12_spreads_L14 n m) := rfl
theorem f_X12_laysChase_L151_s {n : Nat} {q69 : Int32 → Int32 → Int32 → hq_S → Option hq_S} {m : Nat} : f_X12_laysChase_L151 n q69 (m + 1) = f_X12_laysChase_L151_B n q69 (f_X12_laysChase_L151 n q69 m) := rfl
theorem f_X12_laysChase_L130_s {n : Nat} {q69 : Int32 → Int32 → Int32 → hq_S → Option hq_S} {m : Nat} : f_X12_laysChase_L130 n q69 (m + 1) = f_X12_laysChase_L130_B n q69 (f_X12_laysChase_L130 n q69 m) := rfl
theorem f_X12_laysChase_L78_s {n : Nat} {q69 : Int32 → Int32 → Int32 → hq_S → Option hq_S} {m : Nat} : f_X12_laysChase_L78 n q69 (m + 1) = f_X12_laysChase_L78_B n q69 (f_X12_laysChase_L78 n q69 m) := rfl
theorem f_X12_laysChase_L69_s {n : Nat} {m : Nat} : f_X12_laysChase_L69 n (m + 1) = f_X12_laysChase_L69_B n (f_X12_laysChase_L69 n m) := rfl
theorem f_X12_laysChase_L7_s {n : Nat} {m : Nat} : f_X12_laysChase_L7 n (m + 1) = f_X12_laysChase_L7_B n (f_X12_laysChase_L7 n m) := rfl
theorem f_X12_codeOf_L5_s {n : Nat} {m : Nat} : f_X12_codeOf_L5 n (m + 1) = f_X12_codeOf_L5_B n (f_X12_codeOf_L5 n m) := rfl
theorem f_X12_putsGuards_L9_s {n : Nat} {m : Nat} : f_X12_putsGuards_L9 n (m + 1) = f_X12_putsGuards_L9_B n (f_X12_putsGuards_L9 n m) := rfl
theorem f_X12_roundsOf_L2_s {n : Nat} {m : Nat} : f_X12_roundsOf_L2 n (m + 1) = f_X12_roundsOf_L2_B n (f_X12_roundsOf_L2 n m) := rfl
theorem f_X12_isAt_L2_s {n : Nat} {m : Nat} : f_X12_isAt_L2 n (m + 1) = f_X12_isAt_L2_B n (f_X12_isAt_L2 n m) := rfl
theorem f_X12_outcome_L21_s {n : Nat} {m : Nat} : f_X12_outcome_L21 n (m + 1) = f_X12_outcome_L21_B n (f_X12_outcome_L21 n m) := rfl
theorem f_X12_laysRow_L43_s {n : Nat} {R0 : Int32 → Int32 → Int32 → hq_S → Option (Int32 × hq_S)} {m : Nat} : f_X12_laysRow_L43 n R0 (m + 1) = f_X12_laysRow_L43_B n R0 (f_X12_laysRow_L43 n R0 m) := rfl
theorem f_X12_firstGo_L65_s {n : Nat} {m : Nat} : f_X12_firstGo_L65 n (m + 1) = f_X12_firstGo_L65_B n (f_X12_firstGo_L65 n m) := rfl
theorem f_X12_flee_L60_s {n : Nat} {m : Nat} : f_X12_flee_L60 n (m + 1) = f_X12_flee_L60_B n (f_X12_flee_L60 n m) := rfl
theorem f_X12_laysPosts_L65_s {n : Nat} {R0 : Int32 → hq_S → Option (Int32 × hq_S)} {m : Nat} : f_X12_laysPosts_L65 n R0 (m + 1) = f_X12_laysPosts_L65_B n R0 (f_X12_laysPosts_L65 n R0 m) := rfl
theorem f_X12_laysPosts_L10_s {n : Nat} {R0 : Int32 → hq_S → Option (Int32 × hq_S)} {m : Nat} : f_X12_laysPosts_L10 n R0 (m + 1) = f_X12_laysPosts_L10_B n R0 (f_X12_laysPosts_L10 n R0 m) := rfl
theorem f_X12_fewestPosts_L18_s {n : Nat} {m : Nat} : f_X12_fewestPosts_L18 n (m + 1) = f_X12_fewestPosts_L18_B n (f_X12_fewestPosts_L18 n m) := rfl
theorem f_X12_moved_L4_s {n : Nat} {m : Nat} : f_X12_moved_L4 n (m + 1) = f_X12_moved_L4_B n (f_X12_moved_L4 n m) := rfl
theorem f_X12_isSwept_L3_s {n : Nat} {m : Nat} : f_X12_isSwept_L3 n (m + 1) = f_X12_isSwept_L3_B n (f_X12_isSwept_L3 n m) := rfl
theorem f_X12_laysNights_L128_s {n : Nat} {q67 : Int32 → Int32 → Int32 → Int32 → hq_S → Option hq_S} {m : Nat} : f_X12_laysNights_L128 n q67 (m + 1) = f_X12_laysNights_L128_B n q67 (f_X12_laysNights_L128 n q67 m) := rfl
theorem f_X12_laysNights_L76_s {n : Nat} {q67 : Int32 → Int32 → Int32 → Int32 → hq_S → Option hq_S} {m : Nat} : f_X12_laysNights_L76 n q67 (m + 1) = f_X12_laysNights_L76_B n q67 (f_X12_laysNights_L76 n q67 m) := rfl
theorem f_X12_laysNights_L67_s {n : Nat} {m : Nat} : f_X12_laysNights_L67 n (m + 1) = f_X12_laysNights_L67_B n (f_X12_laysNights_L67 n m) := rfl
theorem f_X12_laysNights_L13_s {n : Nat} {m : Nat} : f_X12_laysNights_L13 n (m + 1) = f_X12_laysNights_L13_B n (f_X12_laysNights_L13 n m) := rfl
theorem f_X12_look_L46_s {n : Nat} {m : Nat} : f_X12_look_L46 n (m + 1) = f_X12_look_L46_B n (f_X12_look_L46 n m) := rfl
theorem f_X12_dark_L18_s {n : Nat} {m : Nat} : f_X12_dark_L18 n (m + 1) = f_X12_dark_L18_B n (f_X12_dark_L18 n m) := rfl
theorem f_X12_could_L118_s {n : Nat} {q54 : Int32 → Int32 → Int32 → Int32 → hq_S → Option (Int32 × hq_S)} {m : Nat} : f_X12_could_L118 n q54 (m + 1) = f_X12_could_L118_B n q54 (f_X12_could_L118 n q54 m) := rfl
theorem f_X12_could_L72_s {n : Nat} {q54 : Int32 → Int32 → Int32 → Int32 → hq_S → Option (Int32 × hq_S)} {m : Nat} : f_X12_could_L72 n q54 (m + 1) = f_X12_could_L72_B n q54 (f_X12_could_L72 n q54 m) := rfl
theorem f_X12_could_L54_s {n : Nat} {m : Nat} : f_X12_could_L54 n (m + 1) = f_X12_could_L54_B n (f_X12_could_L54 n m) := rfl
theorem f_X12_unseen_L28_s {n : Nat} {m : Nat} : f_X12_unseen_L28 n (m + 1) = f_X12_unseen_L28_B n (f_X12_unseen_L28 n m) := rfl
theorem f_X12_goesFrom_L5_s {n : Nat} {m : Nat} : f_X12_goesFrom_L5 n (m + 1) = f_X12_goesFrom_L5_B n (f_X12_goesFrom_L5 n m) := rfl
theorem f_X12_round_L82_s {n : Nat} {q73 : Int32 → Int32 → Int32 → Int32 → hq_S → Option (Int32 × hq_S)} {m : Nat} : f_X12_round_L82 n q73 (m + 1) = f_X12_round_L82_B n q73 (f_X12_round_L82 n q73 m) := rfl
theorem f_X12_round_L73_s {n : Nat} {m : Nat} : f_X12_round_L73 n (m + 1) = f_X12_round_L73_B n (f_X12_round_L73 n m) := rfl
theorem f_X12_round_L33_s {n : Nat} {m : Nat} : f_X12_round_L33 n (m + 1) = f_X12_round_L33_B n (f_X12_round_L33 n m) := rfl
theorem f_X12_findsOne_L40_s {n : Nat} {q7 : Int32 → Int32 → Int32 → Int32 → hq_S → Option (Int32 × hq_S)} {q26 : Int32 → Int32 → Int32 → Int32 → Int32 → hq_S → Option (Int32 × hq_S)} {m : Nat} : f_X12_findsOne_L40 n q7 q26 (m + 1) = f_X12_findsOne_L40_B n q7 q26 (f_X12_findsOne_L40 n q7 q26 m) := rfl
theorem f_X12_findsOne_L26_s {n : Nat} {q7 : Int32 → Int32 → Int32 → Int32 → hq_S → Option (Int32 × hq_S)} {m : Nat} : f_X12_findsOne_L26 n q7 (m + 1) = f_X12_findsOne_L26_B n q7 (f_X12_findsOne_L26 n q7 m) := rfl
theorem f_X12_findsOne_L7_s {n : Nat} {m : Nat} : f_X12_findsOne_L7 n (m + 1) = f_X12_findsOne_L7_B n (f_X12_findsOne_L7 n m) := rfl
theorem f_X12_wall_L66_s {n : Nat} {q51 : Int32 → Int32 → Int32 → hq_S → Option (Int32 × hq_S)} {m : Nat} : f_X12_wall_L66 n q51 (m + 1) = f_X12_wall_L66_B n q51 (f_X12_wall_L66 n q51 m) := rfl
theorem f_X12_wall_L51_s {n : Nat} {m : Nat} : f_X12_wall_L51 n (m + 1) = f_X12_wall_L51_B n (f_X12_wall_L51 n m) := rfl
theorem f_X12_wall_L30_s {n : Nat} {m : Nat} : f_X12_wall_L30 n (m + 1) = f_X12_wall_L30_B n (f_X12_wall_L30 n m) := rfl
theorem f_X12_common_L6_s {n : Nat} {m : Nat} : f_X12_common_L6 n (m + 1) = f_X12_common_L6_B n (f_X12_common_L6 n m) := rfl
theorem f_X12_drunk_L232_s {n : Nat} {q90 : Int32 → Int32 → Int32 → Int32 → Int64 → Int32 → hq_S → Option (Int64 × hq_S)} {m : Nat} : f_X12_drunk_L232 n q90 (m + 1) = f_X12_drunk_L232_B n q90 (f_X12_drunk_L232 n q90 m) := rfl
theorem f_X12_drunk_L176_s {n : Nat} {q90 : Int32 → Int32 → Int32 → Int32 → Int64 → Int32 → hq_S → Option (Int64 × hq_S)} {q134 : Int32 → Int32 → Int32 → Int32 → Int64 → Int32 → Int32 → hq_S → Option (Int64 × hq_S)} {m : Nat} : f_X12_drunk_L176 n q90 q134 (m + 1) = f_X12_drunk_L176_B n q90 q134 (f_X12_drunk_L176 n q90 q134 m) := rfl
theorem f_X12_drunk_L134_s {n : Nat} {q90 : Int32 → Int32 → Int32 → Int32 → Int64 → Int32 → hq_S → Option (Int64 × hq_S)} {m : Nat} : f_X12_drunk_L134 n q90 (m + 1) = f_X12_drunk_L134_B n q90 (f_X12_drunk_L134 n q90 m) := rfl
theorem f_X12_drunk_L107_s {n : Nat} {q90 : Int32 → Int32 → Int32 → Int32 → Int64 → Int32 → hq_S → Option (Int64 × hq_S)} {m : Nat} : f_X12_drunk_L107 n q90 (m + 1) = f_X12_drunk_L107_B n q90 (f_X12_drunk_L107 n q90 m) := rfl
theorem f_X12_drunk_L90_s {n : Nat} {m : Nat} : f_X12_drunk_L90 n (m + 1) = f_X12_drunk_L90_B n (f_X12_drunk_L90 n m) := rfl
theorem f_X12_drunk_L56_s {n : Nat} {m : Nat} : f_X12_drunk_L56 n (m + 1) = f_X12_drunk_L56_B n (f_X12_drunk_L56 n m) := rfl
theorem f_X12_matches_L80_s {n : Nat} {R0 : Int32 → Int32 → Int32 → Int32 → hq_S → Option hq_S} {m : Nat} : f_X12_matches_L80 n R0 (m + 1) = f_X12_matches_L80_B n R0 (f_X12_matches_L80 n R0 m) := rfl
theorem f_X12_matches_L50_s {n : Nat} {R0 : Int32 → Int32 → Int32 → Int32 → hq_S → Option hq_S} {m : Nat} : f_X12_matches_L50 n R0 (m + 1) = f_X12_matches_L50_B n R0 (f_X12_matches_L50 n R0 m) := rfl
theorem f_X12_restOf_L6_s {n : Nat} {m : Nat} : f_X12_restOf_L6 n (m + 1) = f_X12_restOf_L6_B n (f_X12_restOf_L6 n m) := rfl
theorem f_X12_holds_L36_s {n : Nat} {m : Nat} : f_X12_holds_L36 n (m + 1) = f_X12_holds_L36_B n (f_X12_holds_L36 n m) := rfl
theorem f_X12_isSo_L2_s {n : Nat} {m : Nat} : f_X12_isSo_L2 n (m + 1) = f_X12_isSo_L2_B n (f_X12_isSo_L2 n m) := rfl
theorem f_X12_fitsBold_L7_s {n : Nat} {m : Nat} : f_X12_fitsBold_L7 n (m + 1) = f_X12_fitsBold_L7_B n (f_X12_fitsBold_L7 n m) := rfl
theorem f_X12_boldsOf_L129_s {n : Nat} {m : Nat} : f_X12_boldsOf_L129 n (m + 1) = f_X12_boldsOf_L129_B n (f_X12_boldsOf_L129 n m) := rfl
theorem f_X12_boldsOf_L75_s {n : Nat} {m : Nat} : f_X12_boldsOf_L75 n (m + 1) = f_X12_boldsOf_L75_B n (f_X12_boldsOf_L75 n m) := rfl
theorem f_X12_boldsOf_L32_s {n : Nat} {m : Nat} : f_X12_boldsOf_L32 n (m + 1) = f_X12_boldsOf_L32_B n (f_X12_boldsOf_L32 n m) := rfl
theorem f_X12_boldsOf_L4_s {n : Nat} {m : Nat} : f_X12_boldsOf_L4 n (m + 1) = f_X12_boldsOf_L4_B n (f_X12_boldsOf_L4 n m) := rfl
theorem f_X12_worstAt_L18_s {n : Nat} {q5 : Int32 → Int32 → Int32 → Int32 → hq_S → Option (Int32 × hq_S)} {m : Nat} : f_X12_worstAt_L18 n q5 (m + 1) = f_X12_worstAt_L18_B n q5 (f_X12_worstAt_L18 n q5 m) := rfl
theorem f_X12_worstAt_L5_s {n : Nat} {m : Nat} : f_X12_worstAt_L5 n (m + 1) = f_X12_worstAt_L5_B n (f_X12_worstAt_L5 n m) := rfl
theorem f_X12_ask_L116_s {n : Nat} {m : Nat} : f_X12_ask_L116 n (m + 1) = f_X12_ask_L116_B n (f_X12_ask_L116 n m) := rfl
theorem f_X12_ask_L59_s {n : Nat} {q38 : Int32 → Int32 → Int32 → Int32 → hq_S → Option (Int32 × hq_S)} {m : Nat} : f_X12_ask_L59 n q38 (m + 1) = f_X12_ask_L59_B n q38 (f_X12_ask_L59 n q38 m) := rfl
theorem f_X12_ask_L38_s {n : Nat} {m : Nat} : f_X12_ask_L38 n (m + 1) = f_X12_ask_L38_B n (f_X12_ask_L38 n m) := rfl
theorem f_X12_chance_L63_s {n : Nat} {q39 : Int32 → Int32 → Int32 → Int32 → Int32 → Int32 → hq_S → Option (Int32 × hq_S)} {m : Nat} : f_X12_chance_L63 n q39 (m + 1) = f_X12_chance_L63_B n q39 (f_X12_chance_L63 n q39 m) := rfl
theorem f_X12_chance_L39_s {n : Nat} {m : Nat} : f_X12_chance_L39 n (m + 1) = f_X12_chance_L39_B n (f_X12_chance_L39 n m) := rfl
