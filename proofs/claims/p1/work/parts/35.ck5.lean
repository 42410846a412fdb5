theorem ck_X12_laysPosts : mm_chkMeth 304 mc_X12_laysPosts = true := by decide +kernel
theorem ck_X12_fewestPosts : mm_chkMeth 305 mc_X12_fewestPosts = true := by decide +kernel
theorem ck_X12_takers : mm_chkMeth 306 mc_X12_takers = true := by decide +kernel
theorem ck_X12_post : mm_chkMeth 307 mc_X12_post = true := by decide +kernel
theorem ck_X12_moved : mm_chkMeth 308 mc_X12_moved = true := by decide +kernel
theorem ck_X12_isSwept : mm_chkMeth 309 mc_X12_isSwept = true := by decide +kernel
theorem ck_X12_laysNights : mm_chkMeth 310 mc_X12_laysNights = true := by decide +kernel
theorem ck_X12_sweepOf : mm_chkMeth 311 mc_X12_sweepOf = true := by decide +kernel
theorem ck_X12_sweep : mm_chkMeth 312 mc_X12_sweep = true := by decide +kernel
theorem ck_X12_look : mm_chkMeth 313 mc_X12_look = true := by decide +kernel
theorem ck_X12_dark : mm_chkMeth 314 mc_X12_dark = true := by decide +kernel
theorem ck_X12_could : mm_chkMeth 315 mc_X12_could = true := by decide +kernel
theorem ck_X12_unseen : mm_chkMeth 316 mc_X12_unseen = true := by decide +kernel
theorem ck_X12_round : mm_chkMeth 317 mc_X12_round = true := by decide +kernel
theorem ck_X12_goesFrom : mm_chkMeth 318 mc_X12_goesFrom = true := by decide +kernel
theorem ck_X12_hasRoom : mm_chkMeth 319 mc_X12_hasRoom = true := by decide +kernel
theorem ck_X12_findsOne : mm_chkMeth 320 mc_X12_findsOne = true := by decide +kernel
theorem ck_X12_wall : mm_chkMeth 321 mc_X12_wall = true := by decide +kernel
theorem ck_X12_common : mm_chkMeth 322 mc_X12_common = true := by decide +kernel
theorem cr_X12_drunk_0 : mm_chkL (mm_chkRow mc_X12_drunk) 0 mr_X12_drunk_0 = true := by decide +kernel
theorem cr_X12_drunk_1 : mm_chkL (mm_chkRow mc_X12_drunk) 16 mr_X12_drunk_1 = true := by decide +kernel
theorem cr_X12_drunk_2 : mm_chkL (mm_chkRow mc_X12_drunk) 32 mr_X12_drunk_2 = true := by decide +kernel
theorem cr_X12_drunk_3 : mm_chkL (mm_chkRow mc_X12_drunk) 48 mr_X12_drunk_3 = true := by decide +kernel
theorem cr_X12_drunk_4 : mm_chkL (mm_chkRow mc_X12_drunk) 64 mr_X12_drunk_4 = true := by decide +kernel
theorem cr_X12_drunk_5 : mm_chkL (mm_chkRow mc_X12_drunk) 80 mr_X12_drunk_5 = true := by decide +kernel
theorem cr_X12_drunk_6 : mm_chkL (mm_chkRow mc_X12_drunk) 96 mr_X12_drunk_6 = true := by decide +kernel
theorem cr_X12_drunk_7 : mm_chkL (mm_chkRow mc_X12_drunk) 112 mr_X12_drunk_7 = true := by decide +kernel
theorem cr_X12_drunk_8 : mm_chkL (mm_chkRow mc_X12_drunk) 128 mr_X12_drunk_8 = true := by decide +kernel
theorem cr_X12_drunk_9 : mm_chkL (mm_chkRow mc_X12_drunk) 144 mr_X12_drunk_9 = true := by decide +kernel
theorem cr_X12_drunk_10 : mm_chkL (mm_chkRow mc_X12_drunk) 160 mr_X12_drunk_10 = true := by decide +kernel
theorem cr_X12_drunk_11 : mm_chkL (mm_chkRow mc_X12_drunk) 176 mr_X12_drunk_11 = true := by decide +kernel
theorem cr_X12_drunk_12 : mm_chkL (mm_chkRow mc_X12_drunk) 192 mr_X12_drunk_12 = true := by decide +kernel
theorem cr_X12_drunk_13 : mm_chkL (mm_chkRow mc_X12_drunk) 208 mr_X12_drunk_13 = true := by decide +kernel
theorem cr_X12_drunk_14 : mm_chkL (mm_chkRow mc_X12_drunk) 224 mr_X12_drunk_14 = true := by decide +kernel
theorem cr_X12_drunk_15 : mm_chkL (mm_chkRow mc_X12_drunk) 240 mr_X12_drunk_15 = true := by decide +kernel
theorem cr_X12_drunk_16 : mm_chkL (mm_chkRow mc_X12_drunk) 256 mr_X12_drunk_16 = true := by decide +kernel
theorem cr_X12_drunk_17 : mm_chkL (mm_chkRow mc_X12_drunk) 272 mr_X12_drunk_17 = true := by decide +kernel
theorem cr_X12_drunk_18 : mm_chkL (mm_chkRow mc_X12_drunk) 288 mr_X12_drunk_18 = true := by decide +kernel
set_option maxRecDepth 10000 in
theorem ck_X12_drunk : mm_chkMeth 323 mc_X12_drunk = true := mm_chkMeth_of (mm_ll rfl cr_X12_drunk_0 (mm_ll rfl cr_X12_drunk_1 (mm_ll rfl cr_X12_drunk_2 (mm_ll rfl cr_X12_drunk_3 (mm_ll rfl cr_X12_drunk_4 (mm_ll rfl cr_X12_drunk_5 (mm_ll rfl cr_X12_drunk_6 (mm_ll rfl cr_X12_drunk_7 (mm_ll rfl cr_X12_drunk_8 (mm_ll rfl cr_X12_drunk_9 (mm_ll rfl cr_X12_drunk_10 (mm_ll rfl cr_X12_drunk_11 (mm_ll rfl cr_X12_drunk_12 (mm_ll rfl cr_X12_drunk_13 (mm_ll rfl cr_X12_drunk_14 (mm_ll rfl cr_X12_drunk_15 (mm_ll rfl cr_X12_drunk_16 (mm_ll rfl cr_X12_drunk_17 (mm_ll rfl cr_X12_drunk_18 (rfl)))))))))))))))))))) (by decide +kernel)
theorem ck_X12_matches : mm_chkMeth 324 mc_X12_matches = true := by decide +kernel
theorem ck_X12_match : mm_chkMeth 325 mc_X12_match = true := by decide +kernel
theorem ck_X12_hasOf : mm_chkMeth 326 mc_X12_hasOf = true := by decide +kernel
theorem ck_X12_isRest : mm_chkMeth 327 mc_X12_isRest = true := by decide +kernel
theorem ck_X12_restOf : mm_chkMeth 328 mc_X12_restOf = true := by decide +kernel
theorem ck_X12_areTwo : mm_chkMeth 329 mc_X12_areTwo = true := by decide +kernel
theorem ck_X12_rests : mm_chkMeth 330 mc_X12_rests = true := by decide +kernel
theorem ck_X12_rest : mm_chkMeth 331 mc_X12_rest = true := by decide +kernel
theorem ck_X12_holds : mm_chkMeth 332 mc_X12_holds = true := by decide +kernel
theorem ck_X12_see : mm_chkMeth 333 mc_X12_see = true := by decide +kernel
theorem ck_X12_strike : mm_chkMeth 334 mc_X12_strike = true := by decide +kernel
theorem ck_X12_known : mm_chkMeth 335 mc_X12_known = true := by decide +kernel
theorem ck_X12_knownMany : mm_chkMeth 336 mc_X12_knownMany = true := by decide +kernel
theorem ck_X12_isSo : mm_chkMeth 337 mc_X12_isSo = true := by decide +kernel
theorem ck_X12_fitsBold : mm_chkMeth 338 mc_X12_fitsBold = true := by decide +kernel
theorem ck_X12_boldsOf : mm_chkMeth 339 mc_X12_boldsOf = true := by decide +kernel
theorem ck_X12_bolds : mm_chkMeth 340 mc_X12_bolds = true := by decide +kernel
theorem ck_X12_worstAt : mm_chkMeth 341 mc_X12_worstAt = true := by decide +kernel
theorem ck_X12_ask : mm_chkMeth 342 mc_X12_ask = true := by decide +kernel
theorem ck_X12_chance : mm_chkMeth 343 mc_X12_chance = true := by decide +kernel
theorem ck_X12_tried : mm_chkMeth 344 mc_X12_tried = true := by decide +kernel
theorem ck_X12_undo : mm_chkMeth 345 mc_X12_undo = true := by decide +kernel
theorem ck_X12_keep : mm_chkMeth 346 mc_X12_keep = true := by decide +kernel
theorem ck_X12_back : mm_chkMeth 347 mc_X12_back = true := by decide +kernel
theorem ck_X12_count : mm_chkMeth 348 mc_X12_count = true := by decide +kernel
