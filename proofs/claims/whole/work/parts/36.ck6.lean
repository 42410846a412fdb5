theorem ck_J9_abs_067f4 : mm_chkMeth 349 mc_J9_abs_067f4 = true := by decide +kernel
theorem ck_J9_max_7cf53 : mm_chkMeth 350 mc_J9_max_7cf53 = true := by decide +kernel
theorem ck_J9_max_f86c9 : mm_chkMeth 351 mc_J9_max_f86c9 = true := by decide +kernel
theorem ck_J9_min_7cf53 : mm_chkMeth 352 mc_J9_min_7cf53 = true := by decide +kernel
theorem ck_J9_min_f86c9 : mm_chkMeth 353 mc_J9_min_f86c9 = true := by decide +kernel
theorem ck_J6_bitCount_0f7a4 : mm_chkMeth 354 mc_J6_bitCount_0f7a4 = true := by decide +kernel
theorem ck_J0_length_8abf5 : mm_chkMeth 355 mc_J0_length_8abf5 = true := by decide +kernel
theorem ck_J0_charAt_5068e : mm_chkMeth 356 mc_J0_charAt_5068e = true := by decide +kernel
theorem ck_J0_coder_7d493 : mm_chkMeth 357 mc_J0_coder_7d493 = true := by decide +kernel
theorem ck_J0_isLatin1_aae02 : mm_chkMeth 358 mc_J0_isLatin1_aae02 = true := by decide +kernel
theorem ck_J1_charAt_3b067 : mm_chkMeth 359 mc_J1_charAt_3b067 = true := by decide +kernel
theorem ck_J7_fill_d0a16 : mm_chkMeth 360 mc_J7_fill_d0a16 = true := by decide +kernel
theorem ck_J7_fill_53178 : mm_chkMeth 361 mc_J7_fill_53178 = true := by decide +kernel
theorem ck_J0_checkIndex_df160 : mm_chkMeth 362 mc_J0_checkIndex_df160 = true := by decide +kernel
theorem ck_J3_checkIndex_8e157 : mm_chkMeth 363 mc_J3_checkIndex_8e157 = true := by decide +kernel
theorem ckr_L_law : mm_chkLL (mm_chkRow mc_L_law) 0 (mm_rows mc_L_law) = true := by decide +kernel
