theorem ck_X0_init : mm_chkMeth 0 mc_X0_init = true := by decide +kernel
theorem ck_X0_fitTo : mm_chkMeth 1 mc_X0_fitTo = true := by decide +kernel
theorem ck_X0_solve : mm_chkMeth 2 mc_X0_solve = true := by decide +kernel
theorem ck_X0_layOut : mm_chkMeth 3 mc_X0_layOut = true := by decide +kernel
theorem ck_X0_solveRound : mm_chkMeth 4 mc_X0_solveRound = true := by decide +kernel
theorem ck_X0_lostOnTurn : mm_chkMeth 5 mc_X0_lostOnTurn = true := by decide +kernel
theorem ck_X0_spreadOneGuard : mm_chkMeth 6 mc_X0_spreadOneGuard = true := by decide +kernel
theorem ck_X0_noteLost : mm_chkMeth 7 mc_X0_noteLost = true := by decide +kernel
theorem ck_X0_roundsFrom : mm_chkMeth 8 mc_X0_roundsFrom = true := by decide +kernel
theorem ck_X0_cornerIn : mm_chkMeth 9 mc_X0_cornerIn = true := by decide +kernel
theorem ck_X0_firstRow : mm_chkMeth 10 mc_X0_firstRow = true := by decide +kernel
theorem ck_X0_isTurn : mm_chkMeth 11 mc_X0_isTurn = true := by decide +kernel
theorem ck_X0_roundsOnTurn : mm_chkMeth 12 mc_X0_roundsOnTurn = true := by decide +kernel
theorem ck_X0_safest : mm_chkMeth 13 mc_X0_safest = true := by decide +kernel
theorem ck_X0_findPosts : mm_chkMeth 14 mc_X0_findPosts = true := by decide +kernel
theorem ck_X0_firstPostRow : mm_chkMeth 15 mc_X0_firstPostRow = true := by decide +kernel
theorem ck_X1_init : mm_chkMeth 16 mc_X1_init = true := by decide +kernel
theorem ck_X1_clear : mm_chkMeth 17 mc_X1_clear = true := by decide +kernel
theorem ck_X1_note : mm_chkMeth 18 mc_X1_note = true := by decide +kernel
theorem ck_X1_forgetFirst : mm_chkMeth 19 mc_X1_forgetFirst = true := by decide +kernel
theorem ck_X1_takeLatest : mm_chkMeth 20 mc_X1_takeLatest = true := by decide +kernel
theorem ck_X2_init : mm_chkMeth 21 mc_X2_init = true := by decide +kernel
theorem ck_X2_clear : mm_chkMeth 22 mc_X2_clear = true := by decide +kernel
theorem ck_X2_knownBy : mm_chkMeth 23 mc_X2_knownBy = true := by decide +kernel
theorem ck_X2_knowBy : mm_chkMeth 24 mc_X2_knowBy = true := by decide +kernel
theorem ck_X2_addSight : mm_chkMeth 25 mc_X2_addSight = true := by decide +kernel
theorem ck_X2_addStrike : mm_chkMeth 26 mc_X2_addStrike = true := by decide +kernel
theorem ck_X2_standing : mm_chkMeth 27 mc_X2_standing = true := by decide +kernel
theorem ck_X2_boldsOf : mm_chkMeth 28 mc_X2_boldsOf = true := by decide +kernel
theorem ck_X2_lastHour : mm_chkMeth 29 mc_X2_lastHour = true := by decide +kernel
theorem ck_X2_areSo : mm_chkMeth 30 mc_X2_areSo = true := by decide +kernel
theorem ck_X2_chooseQuestion : mm_chkMeth 31 mc_X2_chooseQuestion = true := by decide +kernel
theorem ck_X2_worstLeft : mm_chkMeth 32 mc_X2_worstLeft = true := by decide +kernel
theorem ck_X2_hadIn : mm_chkMeth 33 mc_X2_hadIn = true := by decide +kernel
theorem ck_X3_init : mm_chkMeth 34 mc_X3_init = true := by decide +kernel
theorem ck_X3_setUp : mm_chkMeth 35 mc_X3_setUp = true := by decide +kernel
theorem ck_X3_restart : mm_chkMeth 36 mc_X3_restart = true := by decide +kernel
theorem ck_X3_placeOfThief : mm_chkMeth 37 mc_X3_placeOfThief = true := by decide +kernel
theorem ck_X3_hadOfThief : mm_chkMeth 38 mc_X3_hadOfThief = true := by decide +kernel
theorem ck_X3_passMany : mm_chkMeth 39 mc_X3_passMany = true := by decide +kernel
theorem ck_X3_pass : mm_chkMeth 40 mc_X3_pass = true := by decide +kernel
theorem ck_X3_walkBeats : mm_chkMeth 41 mc_X3_walkBeats = true := by decide +kernel
theorem ck_X3_walkBeat : mm_chkMeth 42 mc_X3_walkBeat = true := by decide +kernel
theorem ck_X3_stirs : mm_chkMeth 43 mc_X3_stirs = true := by decide +kernel
theorem ck_X3_goWhereDreadIsLeast : mm_chkMeth 44 mc_X3_goWhereDreadIsLeast = true := by decide +kernel
theorem ck_X3_dread : mm_chkMeth 45 mc_X3_dread = true := by decide +kernel
theorem ck_X3_catchBy : mm_chkMeth 46 mc_X3_catchBy = true := by decide +kernel
theorem ck_X3_gripHolds : mm_chkMeth 47 mc_X3_gripHolds = true := by decide +kernel
theorem ck_X3_draw : mm_chkMeth 48 mc_X3_draw = true := by decide +kernel
theorem ck_X3_takeLoot : mm_chkMeth 49 mc_X3_takeLoot = true := by decide +kernel
theorem ck_X3_lawValue : mm_chkMeth 50 mc_X3_lawValue = true := by decide +kernel
theorem ck_X3_nearest : mm_chkMeth 51 mc_X3_nearest = true := by decide +kernel
theorem ck_X4_init : mm_chkMeth 52 mc_X4_init = true := by decide +kernel
theorem ck_X4_clear : mm_chkMeth 53 mc_X4_clear = true := by decide +kernel
theorem ck_X4_isTold : mm_chkMeth 54 mc_X4_isTold = true := by decide +kernel
theorem ck_X4_open : mm_chkMeth 55 mc_X4_open = true := by decide +kernel
theorem ck_X4_close : mm_chkMeth 56 mc_X4_close = true := by decide +kernel
theorem ck_X4_tellKnot : mm_chkMeth 57 mc_X4_tellKnot = true := by decide +kernel
theorem ck_X4_put : mm_chkMeth 58 mc_X4_put = true := by decide +kernel
theorem ck_X4_valueOf : mm_chkMeth 59 mc_X4_valueOf = true := by decide +kernel
theorem cr_X4_joined_0 : mm_chkL (mm_chkRow mc_X4_joined) 0 mr_X4_joined_0 = true := by decide +kernel
theorem cr_X4_joined_1 : mm_chkL (mm_chkRow mc_X4_joined) 16 mr_X4_joined_1 = true := by decide +kernel
theorem cr_X4_joined_2 : mm_chkL (mm_chkRow mc_X4_joined) 32 mr_X4_joined_2 = true := by decide +kernel
theorem cr_X4_joined_3 : mm_chkL (mm_chkRow mc_X4_joined) 48 mr_X4_joined_3 = true := by decide +kernel
theorem cr_X4_joined_4 : mm_chkL (mm_chkRow mc_X4_joined) 64 mr_X4_joined_4 = true := by decide +kernel
theorem cr_X4_joined_5 : mm_chkL (mm_chkRow mc_X4_joined) 80 mr_X4_joined_5 = true := by decide +kernel
theorem cr_X4_joined_6 : mm_chkL (mm_chkRow mc_X4_joined) 96 mr_X4_joined_6 = true := by decide +kernel
theorem cr_X4_joined_7 : mm_chkL (mm_chkRow mc_X4_joined) 112 mr_X4_joined_7 = true := by decide +kernel
theorem cr_X4_joined_8 : mm_chkL (mm_chkRow mc_X4_joined) 128 mr_X4_joined_8 = true := by decide +kernel
theorem cr_X4_joined_9 : mm_chkL (mm_chkRow mc_X4_joined) 144 mr_X4_joined_9 = true := by decide +kernel
theorem cr_X4_joined_10 : mm_chkL (mm_chkRow mc_X4_joined) 160 mr_X4_joined_10 = true := by decide +kernel
theorem cr_X4_joined_11 : mm_chkL (mm_chkRow mc_X4_joined) 176 mr_X4_joined_11 = true := by decide +kernel
theorem cr_X4_joined_12 : mm_chkL (mm_chkRow mc_X4_joined) 192 mr_X4_joined_12 = true := by decide +kernel
theorem cr_X4_joined_13 : mm_chkL (mm_chkRow mc_X4_joined) 208 mr_X4_joined_13 = true := by decide +kernel
theorem cr_X4_joined_14 : mm_chkL (mm_chkRow mc_X4_joined) 224 mr_X4_joined_14 = true := by decide +kernel
theorem cr_X4_joined_15 : mm_chkL (mm_chkRow mc_X4_joined) 240 mr_X4_joined_15 = true := by decide +kernel
theorem cr_X4_joined_16 : mm_chkL (mm_chkRow mc_X4_joined) 256 mr_X4_joined_16 = true := by decide +kernel
theorem cr_X4_joined_17 : mm_chkL (mm_chkRow mc_X4_joined) 272 mr_X4_joined_17 = true := by decide +kernel
theorem cr_X4_joined_18 : mm_chkL (mm_chkRow mc_X4_joined) 288 mr_X4_joined_18 = true := by decide +kernel
theorem cr_X4_joined_19 : mm_chkL (mm_chkRow mc_X4_joined) 304 mr_X4_joined_19 = true := by decide +kernel
theorem cr_X4_joined_20 : mm_chkL (mm_chkRow mc_X4_joined) 320 mr_X4_joined_20 = true := by decide +kernel
theorem cr_X4_joined_21 : mm_chkL (mm_chkRow mc_X4_joined) 336 mr_X4_joined_21 = true := by decide +kernel
set_option maxRecDepth 10000 in
theorem ck_X4_joined : mm_chkMeth 60 mc_X4_joined = true := mm_chkMeth_of (mm_ll rfl cr_X4_joined_0 (mm_ll rfl cr_X4_joined_1 (mm_ll rfl cr_X4_joined_2 (mm_ll rfl cr_X4_joined_3 (mm_ll rfl cr_X4_joined_4 (mm_ll rfl cr_X4_joined_5 (mm_ll rfl cr_X4_joined_6 (mm_ll rfl cr_X4_joined_7 (mm_ll rfl cr_X4_joined_8 (mm_ll rfl cr_X4_joined_9 (mm_ll rfl cr_X4_joined_10 (mm_ll rfl cr_X4_joined_11 (mm_ll rfl cr_X4_joined_12 (mm_ll rfl cr_X4_joined_13 (mm_ll rfl cr_X4_joined_14 (mm_ll rfl cr_X4_joined_15 (mm_ll rfl cr_X4_joined_16 (mm_ll rfl cr_X4_joined_17 (mm_ll rfl cr_X4_joined_18 (mm_ll rfl cr_X4_joined_19 (mm_ll rfl cr_X4_joined_20 (mm_ll rfl cr_X4_joined_21 (rfl))))))))))))))))))))))) (by decide +kernel)
theorem ck_X5_init : mm_chkMeth 61 mc_X5_init = true := by decide +kernel
theorem ck_X5_clear : mm_chkMeth 62 mc_X5_clear = true := by decide +kernel
theorem ck_X5_copyFrom : mm_chkMeth 63 mc_X5_copyFrom = true := by decide +kernel
theorem ck_X5_isFree : mm_chkMeth 64 mc_X5_isFree = true := by decide +kernel
theorem ck_X5_howManyCaught : mm_chkMeth 65 mc_X5_howManyCaught = true := by decide +kernel
theorem ck_X5_lootOfAll : mm_chkMeth 66 mc_X5_lootOfAll = true := by decide +kernel
theorem ck_X5_hadByAll : mm_chkMeth 67 mc_X5_hadByAll = true := by decide +kernel
