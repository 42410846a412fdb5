/-! THE PROGRAM -/
def mm_ckL : Nat → List mm_Meth → Prop
  | _, [] => True
  | k, N :: t => mm_chkMeth k N = true ∧ mm_ckL (k + 1) t
def mm_ckLL : Nat → List (List mm_Meth) → Prop
  | _, [] => True
  | i, ch :: t => (ch.length ≤ 16 ∧ mm_ckL (16 * i) ch) ∧ mm_ckLL (i + 1) t
theorem mm_ckL_spec : ∀ (t : List mm_Meth) (k : Nat), mm_ckL k t → ∀ (j : Nat) (N : mm_Meth), t[j]? = some N → mm_chkMeth (k + j) N = true := by
  intro t
  induction t with
  | nil => intro k _ j N h; simp at h
  | cons x t ih =>
    intro k h j N hj
    cases j with
    | zero =>
      have : x = N := by simpa using hj
      subst this
      exact h.1
    | succ j =>
      rw [show k + (j + 1) = k + 1 + j by omega]
      exact ih (k + 1) h.2 j N (by simpa using hj)
theorem mm_ckLL_spec : ∀ (t : List (List mm_Meth)) (i : Nat), mm_ckLL i t → ∀ (a j : Nat) (ch : List mm_Meth) (N : mm_Meth), t[a]? = some ch → ch[j]? = some N → mm_chkMeth (16 * (i + a) + j) N = true := by
  intro t
  induction t with
  | nil => intro i _ a j ch N h; simp at h
  | cons x t ih =>
    intro i h a j ch N ha hj
    cases a with
    | zero =>
      have : x = ch := by simpa using ha
      subst this
      exact mm_ckL_spec x _ h.1.2 j N hj
    | succ a =>
      rw [show i + (a + 1) = i + 1 + a by omega]
      exact ih (i + 1) h.2 a j ch N (by simpa using ha) hj
def mp_0 : List mm_Meth := [mc_X0_init, mc_X0_fitTo, mc_X0_solve, mc_X0_layOut, mc_X0_solveRound, mc_X0_lostOnTurn, mc_X0_spreadOneGuard, mc_X0_noteLost, mc_X0_roundsFrom, mc_X0_cornerIn, mc_X0_firstRow, mc_X0_isTurn, mc_X0_roundsOnTurn, mc_X0_safest, mc_X0_findPosts, mc_X0_firstPostRow]
theorem mq_0 : mp_0.length ≤ 16 ∧ mm_ckL 0 mp_0 := ⟨Nat.le_of_ble_eq_true rfl, ck_X0_init, ck_X0_fitTo, ck_X0_solve, ck_X0_layOut, ck_X0_solveRound, ck_X0_lostOnTurn, ck_X0_spreadOneGuard, ck_X0_noteLost, ck_X0_roundsFrom, ck_X0_cornerIn, ck_X0_firstRow, ck_X0_isTurn, ck_X0_roundsOnTurn, ck_X0_safest, ck_X0_findPosts, ck_X0_firstPostRow, trivial⟩
def mp_1 : List mm_Meth := [mc_X1_init, mc_X1_clear, mc_X1_note, mc_X1_forgetFirst, mc_X1_takeLatest, mc_X2_init, mc_X2_clear, mc_X2_knownBy, mc_X2_knowBy, mc_X2_addSight, mc_X2_addStrike, mc_X2_standing, mc_X2_boldsOf, mc_X2_lastHour, mc_X2_areSo, mc_X2_chooseQuestion]
theorem mq_1 : mp_1.length ≤ 16 ∧ mm_ckL 16 mp_1 := ⟨Nat.le_of_ble_eq_true rfl, ck_X1_init, ck_X1_clear, ck_X1_note, ck_X1_forgetFirst, ck_X1_takeLatest, ck_X2_init, ck_X2_clear, ck_X2_knownBy, ck_X2_knowBy, ck_X2_addSight, ck_X2_addStrike, ck_X2_standing, ck_X2_boldsOf, ck_X2_lastHour, ck_X2_areSo, ck_X2_chooseQuestion, trivial⟩
def mp_2 : List mm_Meth := [mc_X2_worstLeft, mc_X2_hadIn, mc_X3_init, mc_X3_setUp, mc_X3_restart, mc_X3_placeOfThief, mc_X3_hadOfThief, mc_X3_passMany, mc_X3_pass, mc_X3_walkBeats, mc_X3_walkBeat, mc_X3_stirs, mc_X3_goWhereDreadIsLeast, mc_X3_dread, mc_X3_catchBy, mc_X3_gripHolds]
theorem mq_2 : mp_2.length ≤ 16 ∧ mm_ckL 32 mp_2 := ⟨Nat.le_of_ble_eq_true rfl, ck_X2_worstLeft, ck_X2_hadIn, ck_X3_init, ck_X3_setUp, ck_X3_restart, ck_X3_placeOfThief, ck_X3_hadOfThief, ck_X3_passMany, ck_X3_pass, ck_X3_walkBeats, ck_X3_walkBeat, ck_X3_stirs, ck_X3_goWhereDreadIsLeast, ck_X3_dread, ck_X3_catchBy, ck_X3_gripHolds, trivial⟩
def mp_3 : List mm_Meth := [mc_X3_draw, mc_X3_takeLoot, mc_X3_lawValue, mc_X3_nearest, mc_X4_init, mc_X4_clear, mc_X4_isTold, mc_X4_open, mc_X4_close, mc_X4_tellKnot, mc_X4_put, mc_X4_valueOf, mc_X4_joined, mc_X5_init, mc_X5_clear, mc_X5_copyFrom]
theorem mq_3 : mp_3.length ≤ 16 ∧ mm_ckL 48 mp_3 := ⟨Nat.le_of_ble_eq_true rfl, ck_X3_draw, ck_X3_takeLoot, ck_X3_lawValue, ck_X3_nearest, ck_X4_init, ck_X4_clear, ck_X4_isTold, ck_X4_open, ck_X4_close, ck_X4_tellKnot, ck_X4_put, ck_X4_valueOf, ck_X4_joined, ck_X5_init, ck_X5_clear, ck_X5_copyFrom, trivial⟩
def mp_4 : List mm_Meth := [mc_X5_isFree, mc_X5_howManyCaught, mc_X5_lootOfAll, mc_X5_hadByAll, mc_X6_init, mc_X6_readText, mc_X6_failed, mc_X6_passSign, mc_X6_readLine, mc_X6_passLineWord, mc_X6_newName, mc_X6_toldOne, mc_X6_passCorner, mc_X6_passNumber, mc_X6_readCorner, mc_X6_readLane]
theorem mq_4 : mp_4.length ≤ 16 ∧ mm_ckL 64 mp_4 := ⟨Nat.le_of_ble_eq_true rfl, ck_X5_isFree, ck_X5_howManyCaught, ck_X5_lootOfAll, ck_X5_hadByAll, ck_X6_init, ck_X6_readText, ck_X6_failed, ck_X6_passSign, ck_X6_readLine, ck_X6_passLineWord, ck_X6_newName, ck_X6_toldOne, ck_X6_passCorner, ck_X6_passNumber, ck_X6_readCorner, ck_X6_readLane, trivial⟩
def mp_5 : List mm_Meth := [mc_X6_readGuard, mc_X6_readBeat, mc_X6_readThief, mc_X6_readGrip, mc_X6_readSeed, mc_X6_readLaw, mc_X6_passKnot, mc_X6_readSide, mc_X6_readJoint, mc_X6_hang, mc_X6_settle, mc_X6_levelOf, mc_X7_init, mc_X7_nightsToSweep, mc_X7_letGo, mc_X7_solveAround]
theorem mq_5 : mp_5.length ≤ 16 ∧ mm_ckL 80 mp_5 := ⟨Nat.le_of_ble_eq_true rfl, ck_X6_readGuard, ck_X6_readBeat, ck_X6_readThief, ck_X6_readGrip, ck_X6_readSeed, ck_X6_readLaw, ck_X6_passKnot, ck_X6_readSide, ck_X6_readJoint, ck_X6_hang, ck_X6_settle, ck_X6_levelOf, ck_X7_init, ck_X7_nightsToSweep, ck_X7_letGo, ck_X7_solveAround, trivial⟩
def mp_6 : List mm_Meth := [mc_X7_firstLook, mc_X7_lanesOfRound, mc_X7_goOn, mc_X8_init, mc_X8_build, mc_X8_measureFrom, mc_X8_nextToAny, mc_X8_lanesBetween, mc_X8_onward, mc_X8_reached, mc_X8_howManyParts, mc_X8_drunkWeight, mc_X8_shareOut, mc_X9_init, mc_X9_packWords, mc_X9_start]
theorem mq_6 : mp_6.length ≤ 16 ∧ mm_ckL 96 mp_6 := ⟨Nat.le_of_ble_eq_true rfl, ck_X7_firstLook, ck_X7_lanesOfRound, ck_X7_goOn, ck_X8_init, ck_X8_build, ck_X8_measureFrom, ck_X8_nextToAny, ck_X8_lanesBetween, ck_X8_onward, ck_X8_reached, ck_X8_howManyParts, ck_X8_drunkWeight, ck_X8_shareOut, ck_X9_init, ck_X9_packWords, ck_X9_start, trivial⟩
def mp_7 : List mm_Meth := [mc_X9_advance, mc_X9_takeWord, mc_X9_takeNumber, mc_X9_takeSign, mc_X9_isSign, mc_X9_isKey, mc_X9_isThisSign, mc_X9_isName, mc_X10_init, mc_X10_clear, mc_X10_placeOf, mc_X10_addCorner, mc_X10_hasLane, mc_X10_isOneWay, mc_X10_addLane, mc_X10_addGuard]
theorem mq_7 : mp_7.length ≤ 16 ∧ mm_ckL 112 mp_7 := ⟨Nat.le_of_ble_eq_true rfl, ck_X9_advance, ck_X9_takeWord, ck_X9_takeNumber, ck_X9_takeSign, ck_X9_isSign, ck_X9_isKey, ck_X9_isThisSign, ck_X9_isName, ck_X10_init, ck_X10_clear, ck_X10_placeOf, ck_X10_addCorner, ck_X10_hasLane, ck_X10_isOneWay, ck_X10_addLane, ck_X10_addGuard, trivial⟩
def mp_8 : List mm_Meth := [mc_X10_addPlace, mc_X10_addThief, mc_X10_fewestBars, mc_X10_lanesOutOf, mc_X11_init, mc_X11_feed, mc_X11_putFour, mc_X11_text, mc_X11_fault, mc_X11_named, mc_X11_corner, mc_X11_guardsAt, mc_X11_thievesAt, mc_X11_guard, mc_X11_thief, mc_X11_lane]
theorem mq_8 : mp_8.length ≤ 16 ∧ mm_ckL 128 mp_8 := ⟨Nat.le_of_ble_eq_true rfl, ck_X10_addPlace, ck_X10_addThief, ck_X10_fewestBars, ck_X10_lanesOutOf, ck_X11_init, ck_X11_feed, ck_X11_putFour, ck_X11_text, ck_X11_fault, ck_X11_named, ck_X11_corner, ck_X11_guardsAt, ck_X11_thievesAt, ck_X11_guard, ck_X11_thief, ck_X11_lane, trivial⟩
def mp_9 : List mm_Meth := [mc_X11_law, mc_X11_send, mc_X11_bar, mc_X11_turnBar, mc_X11_drop, mc_X11_go, mc_X11_ahead, mc_X11_playAsItGoes, mc_X11_caught, mc_X11_far, mc_X11_way, mc_X11_reach, mc_X11_parts, mc_X11_chase, mc_X11_roundsOfChase, mc_X11_rowOf]
theorem mq_9 : mp_9.length ≤ 16 ∧ mm_ckL 144 mp_9 := ⟨Nat.le_of_ble_eq_true rfl, ck_X11_law, ck_X11_send, ck_X11_bar, ck_X11_turnBar, ck_X11_drop, ck_X11_go, ck_X11_ahead, ck_X11_playAsItGoes, ck_X11_caught, ck_X11_far, ck_X11_way, ck_X11_reach, ck_X11_parts, ck_X11_chase, ck_X11_roundsOfChase, ck_X11_rowOf, trivial⟩
def mp_10 : List mm_Meth := [mc_X11_firstGo, mc_X11_flee, mc_X11_firstTurn, mc_X11_takers, mc_X11_post, mc_X11_sweep, mc_X11_look, mc_X11_dark, mc_X11_could, mc_X11_unseen, mc_X11_round, mc_X11_wall, mc_X11_drunk, mc_X11_power, mc_X11_inLeastTerms, mc_X11_match]
theorem mq_10 : mp_10.length ≤ 16 ∧ mm_ckL 160 mp_10 := ⟨Nat.le_of_ble_eq_true rfl, ck_X11_firstGo, ck_X11_flee, ck_X11_firstTurn, ck_X11_takers, ck_X11_post, ck_X11_sweep, ck_X11_look, ck_X11_dark, ck_X11_could, ck_X11_unseen, ck_X11_round, ck_X11_wall, ck_X11_drunk, ck_X11_power, ck_X11_inLeastTerms, ck_X11_match, trivial⟩
def mp_11 : List mm_Meth := [mc_X11_bestMatch, mc_X11_thiefInRow, mc_X11_matchScore, mc_X11_rests, mc_X11_rest, mc_X11_isRest, mc_X11_gain, mc_X11_holds, mc_X11_see, mc_X11_strike, mc_X11_known, mc_X11_bolds, mc_X11_playFromText, mc_X11_ask, mc_X11_chance, mc_X11_tried]
theorem mq_11 : mp_11.length ≤ 16 ∧ mm_ckL 176 mp_11 := ⟨Nat.le_of_ble_eq_true rfl, ck_X11_bestMatch, ck_X11_thiefInRow, ck_X11_matchScore, ck_X11_rests, ck_X11_rest, ck_X11_isRest, ck_X11_gain, ck_X11_holds, ck_X11_see, ck_X11_strike, ck_X11_known, ck_X11_bolds, ck_X11_playFromText, ck_X11_ask, ck_X11_chance, ck_X11_tried, trivial⟩
def mp_12 : List mm_Meth := [mc_X11_undo, mc_X11_keep, mc_X11_back, mc_X11_count, mc_X11_isCorner, mc_X11_isGuard, mc_X11_areGuards, mc_X11_isThief, mc_X11_isLane, mc_X12_init, mc_X12_thrown, mc_X12_feed, mc_X12_here, mc_X12_isSmall, mc_X12_isDigit, mc_X12_token]
theorem mq_12 : mp_12.length ≤ 16 ∧ mm_ckL 192 mp_12 := ⟨Nat.le_of_ble_eq_true rfl, ck_X11_undo, ck_X11_keep, ck_X11_back, ck_X11_count, ck_X11_isCorner, ck_X11_isGuard, ck_X11_areGuards, ck_X11_isThief, ck_X11_isLane, ck_X12_init, ck_X12_thrown, ck_X12_feed, ck_X12_here, ck_X12_isSmall, ck_X12_isDigit, ck_X12_token, trivial⟩
def mp_13 : List mm_Meth := [mc_X12_sign, mc_X12_word, mc_X12_name, mc_X12_wrong, mc_X12_isWord, mc_X12_isSign, mc_X12_goOn, mc_X12_numeral, mc_X12_found, mc_X12_fresh, mc_X12_fresher, mc_X12_reads, mc_X12_atHand, mc_X12_cornerAtHand, mc_X12_cornerAhead, mc_X12_isFull]
theorem mq_13 : mp_13.length ≤ 16 ∧ mm_ckL 208 mp_13 := ⟨Nat.le_of_ble_eq_true rfl, ck_X12_sign, ck_X12_word, ck_X12_name, ck_X12_wrong, ck_X12_isWord, ck_X12_isSign, ck_X12_goOn, ck_X12_numeral, ck_X12_found, ck_X12_fresh, ck_X12_fresher, ck_X12_reads, ck_X12_atHand, ck_X12_cornerAtHand, ck_X12_cornerAhead, ck_X12_isFull, trivial⟩
def mp_14 : List mm_Meth := [mc_X12_line, mc_X12_laneLine, mc_X12_beatLine, mc_X12_lawLine, mc_X12_puts, mc_X12_knot, mc_X12_expression, mc_X12_conjunction, mc_X12_negation, mc_X12_sum, mc_X12_product, mc_X12_primary, mc_X12_half, mc_X12_text, mc_X12_fault, mc_X12_named]
theorem mq_14 : mp_14.length ≤ 16 ∧ mm_ckL 224 mp_14 := ⟨Nat.le_of_ble_eq_true rfl, ck_X12_line, ck_X12_laneLine, ck_X12_beatLine, ck_X12_lawLine, ck_X12_puts, ck_X12_knot, ck_X12_expression, ck_X12_conjunction, ck_X12_negation, ck_X12_sum, ck_X12_product, ck_X12_primary, ck_X12_half, ck_X12_text, ck_X12_fault, ck_X12_named, trivial⟩
def mp_15 : List mm_Meth := [mc_X12_is, mc_X12_works, mc_X12_goes, mc_X12_hasLaw, mc_X12_starts, mc_X12_begins, mc_X12_copies, mc_X12_isCorner, mc_X12_isGuard, mc_X12_isThief, mc_X12_bitsOf, mc_X12_lays, mc_X12_laysFrom, mc_X12_farOf, mc_X12_guardsAt, mc_X12_isFree]
theorem mq_15 : mp_15.length ≤ 16 ∧ mm_ckL 240 mp_15 := ⟨Nat.le_of_ble_eq_true rfl, ck_X12_is, ck_X12_works, ck_X12_goes, ck_X12_hasLaw, ck_X12_starts, ck_X12_begins, ck_X12_copies, ck_X12_isCorner, ck_X12_isGuard, ck_X12_isThief, ck_X12_bitsOf, ck_X12_lays, ck_X12_laysFrom, ck_X12_farOf, ck_X12_guardsAt, ck_X12_isFree, trivial⟩
def mp_16 : List mm_Meth := [mc_X12_boldOf, mc_X12_calls, mc_X12_dreadOf, mc_X12_doesStir, mc_X12_nearer, mc_X12_walks, mc_X12_stirs, mc_X12_doesGrip, mc_X12_takes, mc_X12_passes, mc_X12_goesOn, mc_X12_sumOf, mc_X12_caughtOnes, mc_X12_thievesAt, mc_X12_corner, mc_X12_guard]
theorem mq_16 : mp_16.length ≤ 16 ∧ mm_ckL 256 mp_16 := ⟨Nat.le_of_ble_eq_true rfl, ck_X12_boldOf, ck_X12_calls, ck_X12_dreadOf, ck_X12_doesStir, ck_X12_nearer, ck_X12_walks, ck_X12_stirs, ck_X12_doesGrip, ck_X12_takes, ck_X12_passes, ck_X12_goesOn, ck_X12_sumOf, ck_X12_caughtOnes, ck_X12_thievesAt, ck_X12_corner, ck_X12_guard, trivial⟩
def mp_17 : List mm_Meth := [mc_X12_thief, mc_X12_isLane, mc_X12_lane, mc_X12_law, mc_X12_keepNow, mc_X12_send, mc_X12_bar, mc_X12_drop, mc_X12_go, mc_X12_ahead, mc_X12_caught, mc_X12_far, mc_X12_way, mc_X12_reachOf, mc_X12_reach, mc_X12_parts]
theorem mq_17 : mp_17.length ≤ 16 ∧ mm_ckL 272 mp_17 := ⟨Nat.le_of_ble_eq_true rfl, ck_X12_thief, ck_X12_isLane, ck_X12_lane, ck_X12_law, ck_X12_keepNow, ck_X12_send, ck_X12_bar, ck_X12_drop, ck_X12_go, ck_X12_ahead, ck_X12_caught, ck_X12_far, ck_X12_way, ck_X12_reachOf, ck_X12_reach, ck_X12_parts, trivial⟩
def mp_18 : List mm_Meth := [mc_X12_reads10, mc_X12_isAmong, mc_X12_stayOrGo, mc_X12_isLost, mc_X12_spreads, mc_X12_laysChase, mc_X12_codeOf, mc_X12_putsGuards, mc_X12_roundsOf, mc_X12_areGuards, mc_X12_chase, mc_X12_isAt, mc_X12_outcome, mc_X12_laysRow, mc_X12_firstGo, mc_X12_flee]
theorem mq_18 : mp_18.length ≤ 16 ∧ mm_ckL 288 mp_18 := ⟨Nat.le_of_ble_eq_true rfl, ck_X12_reads10, ck_X12_isAmong, ck_X12_stayOrGo, ck_X12_isLost, ck_X12_spreads, ck_X12_laysChase, ck_X12_codeOf, ck_X12_putsGuards, ck_X12_roundsOf, ck_X12_areGuards, ck_X12_chase, ck_X12_isAt, ck_X12_outcome, ck_X12_laysRow, ck_X12_firstGo, ck_X12_flee, trivial⟩
def mp_19 : List mm_Meth := [mc_X12_laysPosts, mc_X12_fewestPosts, mc_X12_takers, mc_X12_post, mc_X12_moved, mc_X12_isSwept, mc_X12_laysNights, mc_X12_sweepOf, mc_X12_sweep, mc_X12_look, mc_X12_dark, mc_X12_could, mc_X12_unseen, mc_X12_round, mc_X12_goesFrom, mc_X12_hasRoom]
theorem mq_19 : mp_19.length ≤ 16 ∧ mm_ckL 304 mp_19 := ⟨Nat.le_of_ble_eq_true rfl, ck_X12_laysPosts, ck_X12_fewestPosts, ck_X12_takers, ck_X12_post, ck_X12_moved, ck_X12_isSwept, ck_X12_laysNights, ck_X12_sweepOf, ck_X12_sweep, ck_X12_look, ck_X12_dark, ck_X12_could, ck_X12_unseen, ck_X12_round, ck_X12_goesFrom, ck_X12_hasRoom, trivial⟩
def mp_20 : List mm_Meth := [mc_X12_findsOne, mc_X12_wall, mc_X12_common, mc_X12_drunk, mc_X12_matches, mc_X12_match, mc_X12_hasOf, mc_X12_isRest, mc_X12_restOf, mc_X12_areTwo, mc_X12_rests, mc_X12_rest, mc_X12_holds, mc_X12_see, mc_X12_strike, mc_X12_known]
theorem mq_20 : mp_20.length ≤ 16 ∧ mm_ckL 320 mp_20 := ⟨Nat.le_of_ble_eq_true rfl, ck_X12_findsOne, ck_X12_wall, ck_X12_common, ck_X12_drunk, ck_X12_matches, ck_X12_match, ck_X12_hasOf, ck_X12_isRest, ck_X12_restOf, ck_X12_areTwo, ck_X12_rests, ck_X12_rest, ck_X12_holds, ck_X12_see, ck_X12_strike, ck_X12_known, trivial⟩
def mp_21 : List mm_Meth := [mc_X12_knownMany, mc_X12_isSo, mc_X12_fitsBold, mc_X12_boldsOf, mc_X12_bolds, mc_X12_worstAt, mc_X12_ask, mc_X12_chance, mc_X12_tried, mc_X12_undo, mc_X12_keep, mc_X12_back, mc_X12_count, mc_J6_bitCount_0f7a4, mc_J0_length_8abf5, mc_J0_charAt_5068e]
theorem mq_21 : mp_21.length ≤ 16 ∧ mm_ckL 336 mp_21 := ⟨Nat.le_of_ble_eq_true rfl, ck_X12_knownMany, ck_X12_isSo, ck_X12_fitsBold, ck_X12_boldsOf, ck_X12_bolds, ck_X12_worstAt, ck_X12_ask, ck_X12_chance, ck_X12_tried, ck_X12_undo, ck_X12_keep, ck_X12_back, ck_X12_count, ck_J6_bitCount_0f7a4, ck_J0_length_8abf5, ck_J0_charAt_5068e, trivial⟩
def mp_22 : List mm_Meth := [mc_J0_coder_7d493, mc_J0_isLatin1_aae02, mc_J1_charAt_3b067, mc_J7_fill_d0a16, mc_J7_fill_53178, mc_J0_checkIndex_df160, mc_J3_checkIndex_8e157]
theorem mq_22 : mp_22.length ≤ 16 ∧ mm_ckL 352 mp_22 := ⟨Nat.le_of_ble_eq_true rfl, ck_J0_coder_7d493, ck_J0_isLatin1_aae02, ck_J1_charAt_3b067, ck_J7_fill_d0a16, ck_J7_fill_53178, ck_J0_checkIndex_df160, ck_J3_checkIndex_8e157, trivial⟩
def mm_prog : List (List mm_Meth) := [mp_0, mp_1, mp_2, mp_3, mp_4, mp_5, mp_6, mp_7, mp_8, mp_9, mp_10, mp_11, mp_12, mp_13, mp_14, mp_15, mp_16, mp_17, mp_18, mp_19, mp_20, mp_21, mp_22]
theorem mm_prog_ck : mm_ckLL 0 mm_prog := ⟨mq_0, mq_1, mq_2, mq_3, mq_4, mq_5, mq_6, mq_7, mq_8, mq_9, mq_10, mq_11, mq_12, mq_13, mq_14, mq_15, mq_16, mq_17, mq_18, mq_19, mq_20, mq_21, mq_22, trivial⟩
def mm_P (k : Nat) : Option mm_Meth := match mm_prog[k / 16]? with
  | some ch => ch[k % 16]?
  | none => none
theorem mm_P_ck {k : Nat} {N : mm_Meth} (h : mm_P k = some N) : mm_chkMeth k N = true := by
  unfold mm_P at h
  split at h
  · next ch hch =>
    have := mm_ckLL_spec mm_prog 0 mm_prog_ck _ _ _ _ hch h
    rw [show 16 * (0 + k / 16) + k % 16 = k by omega] at this
    exact this
  · cases h
theorem mm_P_y : mm_okY mm_P := fun k N h => mm_chkMeth_y (mm_P_ck h)
theorem mm_P_ok : mm_okProg mm_P := fun k N h => mm_chkMeth_spec mm_P_y (mm_P_ck h)
theorem mm_law_rows : mm_okRows mm_P mc_L_law := mm_chkRows_spec mm_P_y ckr_L_law
