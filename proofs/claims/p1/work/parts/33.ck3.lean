theorem cr_X12_init_0 : mm_chkL (mm_chkRow mc_X12_init) 0 mr_X12_init_0 = true := by decide +kernel
theorem cr_X12_init_1 : mm_chkL (mm_chkRow mc_X12_init) 16 mr_X12_init_1 = true := by decide +kernel
theorem cr_X12_init_2 : mm_chkL (mm_chkRow mc_X12_init) 32 mr_X12_init_2 = true := by decide +kernel
theorem cr_X12_init_3 : mm_chkL (mm_chkRow mc_X12_init) 48 mr_X12_init_3 = true := by decide +kernel
theorem cr_X12_init_4 : mm_chkL (mm_chkRow mc_X12_init) 64 mr_X12_init_4 = true := by decide +kernel
theorem cr_X12_init_5 : mm_chkL (mm_chkRow mc_X12_init) 80 mr_X12_init_5 = true := by decide +kernel
theorem cr_X12_init_6 : mm_chkL (mm_chkRow mc_X12_init) 96 mr_X12_init_6 = true := by decide +kernel
theorem cr_X12_init_7 : mm_chkL (mm_chkRow mc_X12_init) 112 mr_X12_init_7 = true := by decide +kernel
theorem cr_X12_init_8 : mm_chkL (mm_chkRow mc_X12_init) 128 mr_X12_init_8 = true := by decide +kernel
theorem cr_X12_init_9 : mm_chkL (mm_chkRow mc_X12_init) 144 mr_X12_init_9 = true := by decide +kernel
theorem cr_X12_init_10 : mm_chkL (mm_chkRow mc_X12_init) 160 mr_X12_init_10 = true := by decide +kernel
theorem cr_X12_init_11 : mm_chkL (mm_chkRow mc_X12_init) 176 mr_X12_init_11 = true := by decide +kernel
theorem cr_X12_init_12 : mm_chkL (mm_chkRow mc_X12_init) 192 mr_X12_init_12 = true := by decide +kernel
theorem cr_X12_init_13 : mm_chkL (mm_chkRow mc_X12_init) 208 mr_X12_init_13 = true := by decide +kernel
theorem cr_X12_init_14 : mm_chkL (mm_chkRow mc_X12_init) 224 mr_X12_init_14 = true := by decide +kernel
theorem cr_X12_init_15 : mm_chkL (mm_chkRow mc_X12_init) 240 mr_X12_init_15 = true := by decide +kernel
theorem cr_X12_init_16 : mm_chkL (mm_chkRow mc_X12_init) 256 mr_X12_init_16 = true := by decide +kernel
theorem cr_X12_init_17 : mm_chkL (mm_chkRow mc_X12_init) 272 mr_X12_init_17 = true := by decide +kernel
theorem cr_X12_init_18 : mm_chkL (mm_chkRow mc_X12_init) 288 mr_X12_init_18 = true := by decide +kernel
theorem cr_X12_init_19 : mm_chkL (mm_chkRow mc_X12_init) 304 mr_X12_init_19 = true := by decide +kernel
theorem cr_X12_init_20 : mm_chkL (mm_chkRow mc_X12_init) 320 mr_X12_init_20 = true := by decide +kernel
theorem cr_X12_init_21 : mm_chkL (mm_chkRow mc_X12_init) 336 mr_X12_init_21 = true := by decide +kernel
theorem cr_X12_init_22 : mm_chkL (mm_chkRow mc_X12_init) 352 mr_X12_init_22 = true := by decide +kernel
theorem cr_X12_init_23 : mm_chkL (mm_chkRow mc_X12_init) 368 mr_X12_init_23 = true := by decide +kernel
theorem cr_X12_init_24 : mm_chkL (mm_chkRow mc_X12_init) 384 mr_X12_init_24 = true := by decide +kernel
theorem cr_X12_init_25 : mm_chkL (mm_chkRow mc_X12_init) 400 mr_X12_init_25 = true := by decide +kernel
theorem cr_X12_init_26 : mm_chkL (mm_chkRow mc_X12_init) 416 mr_X12_init_26 = true := by decide +kernel
theorem cr_X12_init_27 : mm_chkL (mm_chkRow mc_X12_init) 432 mr_X12_init_27 = true := by decide +kernel
theorem cr_X12_init_28 : mm_chkL (mm_chkRow mc_X12_init) 448 mr_X12_init_28 = true := by decide +kernel
theorem cr_X12_init_29 : mm_chkL (mm_chkRow mc_X12_init) 464 mr_X12_init_29 = true := by decide +kernel
theorem cr_X12_init_30 : mm_chkL (mm_chkRow mc_X12_init) 480 mr_X12_init_30 = true := by decide +kernel
theorem cr_X12_init_31 : mm_chkL (mm_chkRow mc_X12_init) 496 mr_X12_init_31 = true := by decide +kernel
theorem cr_X12_init_32 : mm_chkL (mm_chkRow mc_X12_init) 512 mr_X12_init_32 = true := by decide +kernel
theorem cr_X12_init_33 : mm_chkL (mm_chkRow mc_X12_init) 528 mr_X12_init_33 = true := by decide +kernel
theorem cr_X12_init_34 : mm_chkL (mm_chkRow mc_X12_init) 544 mr_X12_init_34 = true := by decide +kernel
theorem cr_X12_init_35 : mm_chkL (mm_chkRow mc_X12_init) 560 mr_X12_init_35 = true := by decide +kernel
set_option maxRecDepth 10000 in
theorem ck_X12_init : mm_chkMeth 201 mc_X12_init = true := mm_chkMeth_of (mm_ll rfl cr_X12_init_0 (mm_ll rfl cr_X12_init_1 (mm_ll rfl cr_X12_init_2 (mm_ll rfl cr_X12_init_3 (mm_ll rfl cr_X12_init_4 (mm_ll rfl cr_X12_init_5 (mm_ll rfl cr_X12_init_6 (mm_ll rfl cr_X12_init_7 (mm_ll rfl cr_X12_init_8 (mm_ll rfl cr_X12_init_9 (mm_ll rfl cr_X12_init_10 (mm_ll rfl cr_X12_init_11 (mm_ll rfl cr_X12_init_12 (mm_ll rfl cr_X12_init_13 (mm_ll rfl cr_X12_init_14 (mm_ll rfl cr_X12_init_15 (mm_ll rfl cr_X12_init_16 (mm_ll rfl cr_X12_init_17 (mm_ll rfl cr_X12_init_18 (mm_ll rfl cr_X12_init_19 (mm_ll rfl cr_X12_init_20 (mm_ll rfl cr_X12_init_21 (mm_ll rfl cr_X12_init_22 (mm_ll rfl cr_X12_init_23 (mm_ll rfl cr_X12_init_24 (mm_ll rfl cr_X12_init_25 (mm_ll rfl cr_X12_init_26 (mm_ll rfl cr_X12_init_27 (mm_ll rfl cr_X12_init_28 (mm_ll rfl cr_X12_init_29 (mm_ll rfl cr_X12_init_30 (mm_ll rfl cr_X12_init_31 (mm_ll rfl cr_X12_init_32 (mm_ll rfl cr_X12_init_33 (mm_ll rfl cr_X12_init_34 (mm_ll rfl cr_X12_init_35 (rfl))))))))))))))))))))))))))))))))))))) (by decide +kernel)
theorem ck_X12_thrown : mm_chkMeth 202 mc_X12_thrown = true := by decide +kernel
theorem ck_X12_feed : mm_chkMeth 203 mc_X12_feed = true := by decide +kernel
theorem ck_X12_here : mm_chkMeth 204 mc_X12_here = true := by decide +kernel
theorem ck_X12_isSmall : mm_chkMeth 205 mc_X12_isSmall = true := by decide +kernel
theorem ck_X12_isDigit : mm_chkMeth 206 mc_X12_isDigit = true := by decide +kernel
theorem ck_X12_token : mm_chkMeth 207 mc_X12_token = true := by decide +kernel
theorem ck_X12_sign : mm_chkMeth 208 mc_X12_sign = true := by decide +kernel
theorem ck_X12_word : mm_chkMeth 209 mc_X12_word = true := by decide +kernel
theorem ck_X12_name : mm_chkMeth 210 mc_X12_name = true := by decide +kernel
theorem ck_X12_wrong : mm_chkMeth 211 mc_X12_wrong = true := by decide +kernel
theorem ck_X12_isWord : mm_chkMeth 212 mc_X12_isWord = true := by decide +kernel
theorem ck_X12_isSign : mm_chkMeth 213 mc_X12_isSign = true := by decide +kernel
theorem ck_X12_goOn : mm_chkMeth 214 mc_X12_goOn = true := by decide +kernel
theorem ck_X12_numeral : mm_chkMeth 215 mc_X12_numeral = true := by decide +kernel
theorem ck_X12_found : mm_chkMeth 216 mc_X12_found = true := by decide +kernel
theorem ck_X12_fresh : mm_chkMeth 217 mc_X12_fresh = true := by decide +kernel
theorem ck_X12_fresher : mm_chkMeth 218 mc_X12_fresher = true := by decide +kernel
theorem ck_X12_reads : mm_chkMeth 219 mc_X12_reads = true := by decide +kernel
theorem ck_X12_atHand : mm_chkMeth 220 mc_X12_atHand = true := by decide +kernel
theorem ck_X12_cornerAtHand : mm_chkMeth 221 mc_X12_cornerAtHand = true := by decide +kernel
theorem ck_X12_cornerAhead : mm_chkMeth 222 mc_X12_cornerAhead = true := by decide +kernel
theorem ck_X12_isFull : mm_chkMeth 223 mc_X12_isFull = true := by decide +kernel
theorem cr_X12_line_0 : mm_chkL (mm_chkRow mc_X12_line) 0 mr_X12_line_0 = true := by decide +kernel
theorem cr_X12_line_1 : mm_chkL (mm_chkRow mc_X12_line) 16 mr_X12_line_1 = true := by decide +kernel
theorem cr_X12_line_2 : mm_chkL (mm_chkRow mc_X12_line) 32 mr_X12_line_2 = true := by decide +kernel
theorem cr_X12_line_3 : mm_chkL (mm_chkRow mc_X12_line) 48 mr_X12_line_3 = true := by decide +kernel
theorem cr_X12_line_4 : mm_chkL (mm_chkRow mc_X12_line) 64 mr_X12_line_4 = true := by decide +kernel
theorem cr_X12_line_5 : mm_chkL (mm_chkRow mc_X12_line) 80 mr_X12_line_5 = true := by decide +kernel
theorem cr_X12_line_6 : mm_chkL (mm_chkRow mc_X12_line) 96 mr_X12_line_6 = true := by decide +kernel
theorem cr_X12_line_7 : mm_chkL (mm_chkRow mc_X12_line) 112 mr_X12_line_7 = true := by decide +kernel
theorem cr_X12_line_8 : mm_chkL (mm_chkRow mc_X12_line) 128 mr_X12_line_8 = true := by decide +kernel
theorem cr_X12_line_9 : mm_chkL (mm_chkRow mc_X12_line) 144 mr_X12_line_9 = true := by decide +kernel
theorem cr_X12_line_10 : mm_chkL (mm_chkRow mc_X12_line) 160 mr_X12_line_10 = true := by decide +kernel
theorem cr_X12_line_11 : mm_chkL (mm_chkRow mc_X12_line) 176 mr_X12_line_11 = true := by decide +kernel
theorem cr_X12_line_12 : mm_chkL (mm_chkRow mc_X12_line) 192 mr_X12_line_12 = true := by decide +kernel
theorem cr_X12_line_13 : mm_chkL (mm_chkRow mc_X12_line) 208 mr_X12_line_13 = true := by decide +kernel
theorem cr_X12_line_14 : mm_chkL (mm_chkRow mc_X12_line) 224 mr_X12_line_14 = true := by decide +kernel
theorem cr_X12_line_15 : mm_chkL (mm_chkRow mc_X12_line) 240 mr_X12_line_15 = true := by decide +kernel
theorem cr_X12_line_16 : mm_chkL (mm_chkRow mc_X12_line) 256 mr_X12_line_16 = true := by decide +kernel
theorem cr_X12_line_17 : mm_chkL (mm_chkRow mc_X12_line) 272 mr_X12_line_17 = true := by decide +kernel
theorem cr_X12_line_18 : mm_chkL (mm_chkRow mc_X12_line) 288 mr_X12_line_18 = true := by decide +kernel
theorem cr_X12_line_19 : mm_chkL (mm_chkRow mc_X12_line) 304 mr_X12_line_19 = true := by decide +kernel
theorem cr_X12_line_20 : mm_chkL (mm_chkRow mc_X12_line) 320 mr_X12_line_20 = true := by decide +kernel
theorem cr_X12_line_21 : mm_chkL (mm_chkRow mc_X12_line) 336 mr_X12_line_21 = true := by decide +kernel
theorem cr_X12_line_22 : mm_chkL (mm_chkRow mc_X12_line) 352 mr_X12_line_22 = true := by decide +kernel
theorem cr_X12_line_23 : mm_chkL (mm_chkRow mc_X12_line) 368 mr_X12_line_23 = true := by decide +kernel
theorem cr_X12_line_24 : mm_chkL (mm_chkRow mc_X12_line) 384 mr_X12_line_24 = true := by decide +kernel
theorem cr_X12_line_25 : mm_chkL (mm_chkRow mc_X12_line) 400 mr_X12_line_25 = true := by decide +kernel
theorem cr_X12_line_26 : mm_chkL (mm_chkRow mc_X12_line) 416 mr_X12_line_26 = true := by decide +kernel
theorem cr_X12_line_27 : mm_chkL (mm_chkRow mc_X12_line) 432 mr_X12_line_27 = true := by decide +kernel
set_option maxRecDepth 10000 in
theorem ck_X12_line : mm_chkMeth 224 mc_X12_line = true := mm_chkMeth_of (mm_ll rfl cr_X12_line_0 (mm_ll rfl cr_X12_line_1 (mm_ll rfl cr_X12_line_2 (mm_ll rfl cr_X12_line_3 (mm_ll rfl cr_X12_line_4 (mm_ll rfl cr_X12_line_5 (mm_ll rfl cr_X12_line_6 (mm_ll rfl cr_X12_line_7 (mm_ll rfl cr_X12_line_8 (mm_ll rfl cr_X12_line_9 (mm_ll rfl cr_X12_line_10 (mm_ll rfl cr_X12_line_11 (mm_ll rfl cr_X12_line_12 (mm_ll rfl cr_X12_line_13 (mm_ll rfl cr_X12_line_14 (mm_ll rfl cr_X12_line_15 (mm_ll rfl cr_X12_line_16 (mm_ll rfl cr_X12_line_17 (mm_ll rfl cr_X12_line_18 (mm_ll rfl cr_X12_line_19 (mm_ll rfl cr_X12_line_20 (mm_ll rfl cr_X12_line_21 (mm_ll rfl cr_X12_line_22 (mm_ll rfl cr_X12_line_23 (mm_ll rfl cr_X12_line_24 (mm_ll rfl cr_X12_line_25 (mm_ll rfl cr_X12_line_26 (mm_ll rfl cr_X12_line_27 (rfl))))))))))))))))))))))))))))) (by decide +kernel)
theorem ck_X12_laneLine : mm_chkMeth 225 mc_X12_laneLine = true := by decide +kernel
theorem ck_X12_beatLine : mm_chkMeth 226 mc_X12_beatLine = true := by decide +kernel
theorem ck_X12_lawLine : mm_chkMeth 227 mc_X12_lawLine = true := by decide +kernel
theorem ck_X12_puts : mm_chkMeth 228 mc_X12_puts = true := by decide +kernel
theorem ck_X12_knot : mm_chkMeth 229 mc_X12_knot = true := by decide +kernel
theorem ck_X12_expression : mm_chkMeth 230 mc_X12_expression = true := by decide +kernel
theorem ck_X12_conjunction : mm_chkMeth 231 mc_X12_conjunction = true := by decide +kernel
theorem ck_X12_negation : mm_chkMeth 232 mc_X12_negation = true := by decide +kernel
theorem ck_X12_sum : mm_chkMeth 233 mc_X12_sum = true := by decide +kernel
theorem ck_X12_product : mm_chkMeth 234 mc_X12_product = true := by decide +kernel
theorem ck_X12_primary : mm_chkMeth 235 mc_X12_primary = true := by decide +kernel
theorem ck_X12_half : mm_chkMeth 236 mc_X12_half = true := by decide +kernel
theorem cr_X12_text_0 : mm_chkL (mm_chkRow mc_X12_text) 0 mr_X12_text_0 = true := by decide +kernel
theorem cr_X12_text_1 : mm_chkL (mm_chkRow mc_X12_text) 16 mr_X12_text_1 = true := by decide +kernel
theorem cr_X12_text_2 : mm_chkL (mm_chkRow mc_X12_text) 32 mr_X12_text_2 = true := by decide +kernel
theorem cr_X12_text_3 : mm_chkL (mm_chkRow mc_X12_text) 48 mr_X12_text_3 = true := by decide +kernel
theorem cr_X12_text_4 : mm_chkL (mm_chkRow mc_X12_text) 64 mr_X12_text_4 = true := by decide +kernel
theorem cr_X12_text_5 : mm_chkL (mm_chkRow mc_X12_text) 80 mr_X12_text_5 = true := by decide +kernel
theorem cr_X12_text_6 : mm_chkL (mm_chkRow mc_X12_text) 96 mr_X12_text_6 = true := by decide +kernel
theorem cr_X12_text_7 : mm_chkL (mm_chkRow mc_X12_text) 112 mr_X12_text_7 = true := by decide +kernel
theorem cr_X12_text_8 : mm_chkL (mm_chkRow mc_X12_text) 128 mr_X12_text_8 = true := by decide +kernel
theorem cr_X12_text_9 : mm_chkL (mm_chkRow mc_X12_text) 144 mr_X12_text_9 = true := by decide +kernel
theorem cr_X12_text_10 : mm_chkL (mm_chkRow mc_X12_text) 160 mr_X12_text_10 = true := by decide +kernel
theorem cr_X12_text_11 : mm_chkL (mm_chkRow mc_X12_text) 176 mr_X12_text_11 = true := by decide +kernel
theorem cr_X12_text_12 : mm_chkL (mm_chkRow mc_X12_text) 192 mr_X12_text_12 = true := by decide +kernel
theorem cr_X12_text_13 : mm_chkL (mm_chkRow mc_X12_text) 208 mr_X12_text_13 = true := by decide +kernel
theorem cr_X12_text_14 : mm_chkL (mm_chkRow mc_X12_text) 224 mr_X12_text_14 = true := by decide +kernel
theorem cr_X12_text_15 : mm_chkL (mm_chkRow mc_X12_text) 240 mr_X12_text_15 = true := by decide +kernel
theorem cr_X12_text_16 : mm_chkL (mm_chkRow mc_X12_text) 256 mr_X12_text_16 = true := by decide +kernel
theorem cr_X12_text_17 : mm_chkL (mm_chkRow mc_X12_text) 272 mr_X12_text_17 = true := by decide +kernel
theorem cr_X12_text_18 : mm_chkL (mm_chkRow mc_X12_text) 288 mr_X12_text_18 = true := by decide +kernel
theorem cr_X12_text_19 : mm_chkL (mm_chkRow mc_X12_text) 304 mr_X12_text_19 = true := by decide +kernel
theorem cr_X12_text_20 : mm_chkL (mm_chkRow mc_X12_text) 320 mr_X12_text_20 = true := by decide +kernel
set_option maxRecDepth 10000 in
theorem ck_X12_text : mm_chkMeth 237 mc_X12_text = true := mm_chkMeth_of (mm_ll rfl cr_X12_text_0 (mm_ll rfl cr_X12_text_1 (mm_ll rfl cr_X12_text_2 (mm_ll rfl cr_X12_text_3 (mm_ll rfl cr_X12_text_4 (mm_ll rfl cr_X12_text_5 (mm_ll rfl cr_X12_text_6 (mm_ll rfl cr_X12_text_7 (mm_ll rfl cr_X12_text_8 (mm_ll rfl cr_X12_text_9 (mm_ll rfl cr_X12_text_10 (mm_ll rfl cr_X12_text_11 (mm_ll rfl cr_X12_text_12 (mm_ll rfl cr_X12_text_13 (mm_ll rfl cr_X12_text_14 (mm_ll rfl cr_X12_text_15 (mm_ll rfl cr_X12_text_16 (mm_ll rfl cr_X12_text_17 (mm_ll rfl cr_X12_text_18 (mm_ll rfl cr_X12_text_19 (mm_ll rfl cr_X12_text_20 (rfl)))))))))))))))))))))) (by decide +kernel)
theorem ck_X12_fault : mm_chkMeth 238 mc_X12_fault = true := by decide +kernel
theorem ck_X12_named : mm_chkMeth 239 mc_X12_named = true := by decide +kernel
theorem ck_X12_is : mm_chkMeth 240 mc_X12_is = true := by decide +kernel
theorem cr_X12_works_0 : mm_chkL (mm_chkRow mc_X12_works) 0 mr_X12_works_0 = true := by decide +kernel
theorem cr_X12_works_1 : mm_chkL (mm_chkRow mc_X12_works) 16 mr_X12_works_1 = true := by decide +kernel
theorem cr_X12_works_2 : mm_chkL (mm_chkRow mc_X12_works) 32 mr_X12_works_2 = true := by decide +kernel
theorem cr_X12_works_3 : mm_chkL (mm_chkRow mc_X12_works) 48 mr_X12_works_3 = true := by decide +kernel
theorem cr_X12_works_4 : mm_chkL (mm_chkRow mc_X12_works) 64 mr_X12_works_4 = true := by decide +kernel
theorem cr_X12_works_5 : mm_chkL (mm_chkRow mc_X12_works) 80 mr_X12_works_5 = true := by decide +kernel
theorem cr_X12_works_6 : mm_chkL (mm_chkRow mc_X12_works) 96 mr_X12_works_6 = true := by decide +kernel
theorem cr_X12_works_7 : mm_chkL (mm_chkRow mc_X12_works) 112 mr_X12_works_7 = true := by decide +kernel
theorem cr_X12_works_8 : mm_chkL (mm_chkRow mc_X12_works) 128 mr_X12_works_8 = true := by decide +kernel
theorem cr_X12_works_9 : mm_chkL (mm_chkRow mc_X12_works) 144 mr_X12_works_9 = true := by decide +kernel
theorem cr_X12_works_10 : mm_chkL (mm_chkRow mc_X12_works) 160 mr_X12_works_10 = true := by decide +kernel
theorem cr_X12_works_11 : mm_chkL (mm_chkRow mc_X12_works) 176 mr_X12_works_11 = true := by decide +kernel
theorem cr_X12_works_12 : mm_chkL (mm_chkRow mc_X12_works) 192 mr_X12_works_12 = true := by decide +kernel
theorem cr_X12_works_13 : mm_chkL (mm_chkRow mc_X12_works) 208 mr_X12_works_13 = true := by decide +kernel
theorem cr_X12_works_14 : mm_chkL (mm_chkRow mc_X12_works) 224 mr_X12_works_14 = true := by decide +kernel
theorem cr_X12_works_15 : mm_chkL (mm_chkRow mc_X12_works) 240 mr_X12_works_15 = true := by decide +kernel
theorem cr_X12_works_16 : mm_chkL (mm_chkRow mc_X12_works) 256 mr_X12_works_16 = true := by decide +kernel
theorem cr_X12_works_17 : mm_chkL (mm_chkRow mc_X12_works) 272 mr_X12_works_17 = true := by decide +kernel
theorem cr_X12_works_18 : mm_chkL (mm_chkRow mc_X12_works) 288 mr_X12_works_18 = true := by decide +kernel
theorem cr_X12_works_19 : mm_chkL (mm_chkRow mc_X12_works) 304 mr_X12_works_19 = true := by decide +kernel
theorem cr_X12_works_20 : mm_chkL (mm_chkRow mc_X12_works) 320 mr_X12_works_20 = true := by decide +kernel
theorem cr_X12_works_21 : mm_chkL (mm_chkRow mc_X12_works) 336 mr_X12_works_21 = true := by decide +kernel
theorem cr_X12_works_22 : mm_chkL (mm_chkRow mc_X12_works) 352 mr_X12_works_22 = true := by decide +kernel
theorem cr_X12_works_23 : mm_chkL (mm_chkRow mc_X12_works) 368 mr_X12_works_23 = true := by decide +kernel
theorem cr_X12_works_24 : mm_chkL (mm_chkRow mc_X12_works) 384 mr_X12_works_24 = true := by decide +kernel
theorem cr_X12_works_25 : mm_chkL (mm_chkRow mc_X12_works) 400 mr_X12_works_25 = true := by decide +kernel
theorem cr_X12_works_26 : mm_chkL (mm_chkRow mc_X12_works) 416 mr_X12_works_26 = true := by decide +kernel
theorem cr_X12_works_27 : mm_chkL (mm_chkRow mc_X12_works) 432 mr_X12_works_27 = true := by decide +kernel
set_option maxRecDepth 10000 in
theorem ck_X12_works : mm_chkMeth 241 mc_X12_works = true := mm_chkMeth_of (mm_ll rfl cr_X12_works_0 (mm_ll rfl cr_X12_works_1 (mm_ll rfl cr_X12_works_2 (mm_ll rfl cr_X12_works_3 (mm_ll rfl cr_X12_works_4 (mm_ll rfl cr_X12_works_5 (mm_ll rfl cr_X12_works_6 (mm_ll rfl cr_X12_works_7 (mm_ll rfl cr_X12_works_8 (mm_ll rfl cr_X12_works_9 (mm_ll rfl cr_X12_works_10 (mm_ll rfl cr_X12_works_11 (mm_ll rfl cr_X12_works_12 (mm_ll rfl cr_X12_works_13 (mm_ll rfl cr_X12_works_14 (mm_ll rfl cr_X12_works_15 (mm_ll rfl cr_X12_works_16 (mm_ll rfl cr_X12_works_17 (mm_ll rfl cr_X12_works_18 (mm_ll rfl cr_X12_works_19 (mm_ll rfl cr_X12_works_20 (mm_ll rfl cr_X12_works_21 (mm_ll rfl cr_X12_works_22 (mm_ll rfl cr_X12_works_23 (mm_ll rfl cr_X12_works_24 (mm_ll rfl cr_X12_works_25 (mm_ll rfl cr_X12_works_26 (mm_ll rfl cr_X12_works_27 (rfl))))))))))))))))))))))))))))) (by decide +kernel)
theorem ck_X12_goes : mm_chkMeth 242 mc_X12_goes = true := by decide +kernel
theorem ck_X12_hasLaw : mm_chkMeth 243 mc_X12_hasLaw = true := by decide +kernel
theorem ck_X12_starts : mm_chkMeth 244 mc_X12_starts = true := by decide +kernel
theorem ck_X12_begins : mm_chkMeth 245 mc_X12_begins = true := by decide +kernel
theorem ck_X12_copies : mm_chkMeth 246 mc_X12_copies = true := by decide +kernel
