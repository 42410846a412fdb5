theorem ck_J9_abs_067f4 : mm_chkMeth 349 mc_J9_abs_067f4 = true := by decide +kernel
theorem ck_J9_max_7cf53 : mm_chkMeth 350 mc_J9_max_7cf53 = true := by decide +kernel
theorem ck_J9_max_f86c9 : mm_chkMeth 351 mc_J9_max_f86c9 = true := by decide +kernel
theorem ck_J9_min_7cf53 : mm_chkMeth 352 mc_J9_min_7cf53 = true := by decide +kernel
theorem ck_J9_min_f86c9 : mm_chkMeth 353 mc_J9_min_f86c9 = true := by decide +kernel
theorem ck_J6_bitCount_0f7a4 : mm_chkMeth 354 mc_J6_bitCount_0f7a4 = true := by decide +kernel
theorem ck_J0_length_8abf5 : mm_chkMeth 355 mc_J0_length_8abf5 = true := by decide +kernel
theorem ck_J0_charAt_5068e : mm_chkMeth 356 mc_J0_charAt_5068e = true := by decide +kernel
theorem ck_J0_coder_7d493 : mm_chkMeth 357 mc_J0_coder_7d493 = true := by decide +kernel
theorem ck_J0_isLatin1_aae02 : mm_chkMeth 358 mc_J0_isLatin1_aae02 = true := by decide +kernel
theorem ck_J1_charAt_3b067 : mm_chkMeth 359 mc_J1_charAt_3b067 = true := by decide +kernel
theorem ck_J7_fill_d0a16 : mm_chkMeth 360 mc_J7_fill_d0a16 = true := by decide +kernel
theorem ck_J7_fill_53178 : mm_chkMeth 361 mc_J7_fill_53178 = true := by decide +kernel
theorem ck_J0_checkIndex_df160 : mm_chkMeth 362 mc_J0_checkIndex_df160 = true := by decide +kernel
theorem ck_J3_checkIndex_8e157 : mm_chkMeth 363 mc_J3_checkIndex_8e157 = true := by decide +kernel
theorem cr_L_law_0 : mm_chkL (mm_chkRow mc_L_law) 0 mr_L_law_0 = true := by decide +kernel
theorem cr_L_law_1 : mm_chkL (mm_chkRow mc_L_law) 16 mr_L_law_1 = true := by decide +kernel
theorem cr_L_law_2 : mm_chkL (mm_chkRow mc_L_law) 32 mr_L_law_2 = true := by decide +kernel
theorem cr_L_law_3 : mm_chkL (mm_chkRow mc_L_law) 48 mr_L_law_3 = true := by decide +kernel
theorem cr_L_law_4 : mm_chkL (mm_chkRow mc_L_law) 64 mr_L_law_4 = true := by decide +kernel
theorem cr_L_law_5 : mm_chkL (mm_chkRow mc_L_law) 80 mr_L_law_5 = true := by decide +kernel
theorem cr_L_law_6 : mm_chkL (mm_chkRow mc_L_law) 96 mr_L_law_6 = true := by decide +kernel
theorem cr_L_law_7 : mm_chkL (mm_chkRow mc_L_law) 112 mr_L_law_7 = true := by decide +kernel
theorem cr_L_law_8 : mm_chkL (mm_chkRow mc_L_law) 128 mr_L_law_8 = true := by decide +kernel
theorem cr_L_law_9 : mm_chkL (mm_chkRow mc_L_law) 144 mr_L_law_9 = true := by decide +kernel
theorem cr_L_law_10 : mm_chkL (mm_chkRow mc_L_law) 160 mr_L_law_10 = true := by decide +kernel
theorem cr_L_law_11 : mm_chkL (mm_chkRow mc_L_law) 176 mr_L_law_11 = true := by decide +kernel
theorem cr_L_law_12 : mm_chkL (mm_chkRow mc_L_law) 192 mr_L_law_12 = true := by decide +kernel
theorem cr_L_law_13 : mm_chkL (mm_chkRow mc_L_law) 208 mr_L_law_13 = true := by decide +kernel
theorem cr_L_law_14 : mm_chkL (mm_chkRow mc_L_law) 224 mr_L_law_14 = true := by decide +kernel
theorem cr_L_law_15 : mm_chkL (mm_chkRow mc_L_law) 240 mr_L_law_15 = true := by decide +kernel
theorem cr_L_law_16 : mm_chkL (mm_chkRow mc_L_law) 256 mr_L_law_16 = true := by decide +kernel
theorem cr_L_law_17 : mm_chkL (mm_chkRow mc_L_law) 272 mr_L_law_17 = true := by decide +kernel
theorem cr_L_law_18 : mm_chkL (mm_chkRow mc_L_law) 288 mr_L_law_18 = true := by decide +kernel
theorem cr_L_law_19 : mm_chkL (mm_chkRow mc_L_law) 304 mr_L_law_19 = true := by decide +kernel
theorem cr_L_law_20 : mm_chkL (mm_chkRow mc_L_law) 320 mr_L_law_20 = true := by decide +kernel
theorem cr_L_law_21 : mm_chkL (mm_chkRow mc_L_law) 336 mr_L_law_21 = true := by decide +kernel
theorem cr_L_law_22 : mm_chkL (mm_chkRow mc_L_law) 352 mr_L_law_22 = true := by decide +kernel
theorem cr_L_law_23 : mm_chkL (mm_chkRow mc_L_law) 368 mr_L_law_23 = true := by decide +kernel
theorem cr_L_law_24 : mm_chkL (mm_chkRow mc_L_law) 384 mr_L_law_24 = true := by decide +kernel
theorem cr_L_law_25 : mm_chkL (mm_chkRow mc_L_law) 400 mr_L_law_25 = true := by decide +kernel
theorem cr_L_law_26 : mm_chkL (mm_chkRow mc_L_law) 416 mr_L_law_26 = true := by decide +kernel
theorem cr_L_law_27 : mm_chkL (mm_chkRow mc_L_law) 432 mr_L_law_27 = true := by decide +kernel
theorem cr_L_law_28 : mm_chkL (mm_chkRow mc_L_law) 448 mr_L_law_28 = true := by decide +kernel
theorem cr_L_law_29 : mm_chkL (mm_chkRow mc_L_law) 464 mr_L_law_29 = true := by decide +kernel
theorem cr_L_law_30 : mm_chkL (mm_chkRow mc_L_law) 480 mr_L_law_30 = true := by decide +kernel
theorem cr_L_law_31 : mm_chkL (mm_chkRow mc_L_law) 496 mr_L_law_31 = true := by decide +kernel
theorem cr_L_law_32 : mm_chkL (mm_chkRow mc_L_law) 512 mr_L_law_32 = true := by decide +kernel
theorem cr_L_law_33 : mm_chkL (mm_chkRow mc_L_law) 528 mr_L_law_33 = true := by decide +kernel
theorem cr_L_law_34 : mm_chkL (mm_chkRow mc_L_law) 544 mr_L_law_34 = true := by decide +kernel
theorem cr_L_law_35 : mm_chkL (mm_chkRow mc_L_law) 560 mr_L_law_35 = true := by decide +kernel
theorem cr_L_law_36 : mm_chkL (mm_chkRow mc_L_law) 576 mr_L_law_36 = true := by decide +kernel
theorem cr_L_law_37 : mm_chkL (mm_chkRow mc_L_law) 592 mr_L_law_37 = true := by decide +kernel
theorem cr_L_law_38 : mm_chkL (mm_chkRow mc_L_law) 608 mr_L_law_38 = true := by decide +kernel
theorem cr_L_law_39 : mm_chkL (mm_chkRow mc_L_law) 624 mr_L_law_39 = true := by decide +kernel
theorem cr_L_law_40 : mm_chkL (mm_chkRow mc_L_law) 640 mr_L_law_40 = true := by decide +kernel
theorem cr_L_law_41 : mm_chkL (mm_chkRow mc_L_law) 656 mr_L_law_41 = true := by decide +kernel
theorem cr_L_law_42 : mm_chkL (mm_chkRow mc_L_law) 672 mr_L_law_42 = true := by decide +kernel
theorem cr_L_law_43 : mm_chkL (mm_chkRow mc_L_law) 688 mr_L_law_43 = true := by decide +kernel
theorem cr_L_law_44 : mm_chkL (mm_chkRow mc_L_law) 704 mr_L_law_44 = true := by decide +kernel
theorem cr_L_law_45 : mm_chkL (mm_chkRow mc_L_law) 720 mr_L_law_45 = true := by decide +kernel
theorem cr_L_law_46 : mm_chkL (mm_chkRow mc_L_law) 736 mr_L_law_46 = true := by decide +kernel
theorem cr_L_law_47 : mm_chkL (mm_chkRow mc_L_law) 752 mr_L_law_47 = true := by decide +kernel
theorem cr_L_law_48 : mm_chkL (mm_chkRow mc_L_law) 768 mr_L_law_48 = true := by decide +kernel
theorem cr_L_law_49 : mm_chkL (mm_chkRow mc_L_law) 784 mr_L_law_49 = true := by decide +kernel
theorem cr_L_law_50 : mm_chkL (mm_chkRow mc_L_law) 800 mr_L_law_50 = true := by decide +kernel
theorem cr_L_law_51 : mm_chkL (mm_chkRow mc_L_law) 816 mr_L_law_51 = true := by decide +kernel
theorem cr_L_law_52 : mm_chkL (mm_chkRow mc_L_law) 832 mr_L_law_52 = true := by decide +kernel
theorem cr_L_law_53 : mm_chkL (mm_chkRow mc_L_law) 848 mr_L_law_53 = true := by decide +kernel
theorem cr_L_law_54 : mm_chkL (mm_chkRow mc_L_law) 864 mr_L_law_54 = true := by decide +kernel
theorem cr_L_law_55 : mm_chkL (mm_chkRow mc_L_law) 880 mr_L_law_55 = true := by decide +kernel
theorem cr_L_law_56 : mm_chkL (mm_chkRow mc_L_law) 896 mr_L_law_56 = true := by decide +kernel
theorem cr_L_law_57 : mm_chkL (mm_chkRow mc_L_law) 912 mr_L_law_57 = true := by decide +kernel
theorem cr_L_law_58 : mm_chkL (mm_chkRow mc_L_law) 928 mr_L_law_58 = true := by decide +kernel
theorem cr_L_law_59 : mm_chkL (mm_chkRow mc_L_law) 944 mr_L_law_59 = true := by decide +kernel
theorem cr_L_law_60 : mm_chkL (mm_chkRow mc_L_law) 960 mr_L_law_60 = true := by decide +kernel
theorem cr_L_law_61 : mm_chkL (mm_chkRow mc_L_law) 976 mr_L_law_61 = true := by decide +kernel
theorem cr_L_law_62 : mm_chkL (mm_chkRow mc_L_law) 992 mr_L_law_62 = true := by decide +kernel
theorem cr_L_law_63 : mm_chkL (mm_chkRow mc_L_law) 1008 mr_L_law_63 = true := by decide +kernel
theorem cr_L_law_64 : mm_chkL (mm_chkRow mc_L_law) 1024 mr_L_law_64 = true := by decide +kernel
theorem cr_L_law_65 : mm_chkL (mm_chkRow mc_L_law) 1040 mr_L_law_65 = true := by decide +kernel
theorem cr_L_law_66 : mm_chkL (mm_chkRow mc_L_law) 1056 mr_L_law_66 = true := by decide +kernel
theorem cr_L_law_67 : mm_chkL (mm_chkRow mc_L_law) 1072 mr_L_law_67 = true := by decide +kernel
theorem cr_L_law_68 : mm_chkL (mm_chkRow mc_L_law) 1088 mr_L_law_68 = true := by decide +kernel
theorem cr_L_law_69 : mm_chkL (mm_chkRow mc_L_law) 1104 mr_L_law_69 = true := by decide +kernel
theorem cr_L_law_70 : mm_chkL (mm_chkRow mc_L_law) 1120 mr_L_law_70 = true := by decide +kernel
theorem cr_L_law_71 : mm_chkL (mm_chkRow mc_L_law) 1136 mr_L_law_71 = true := by decide +kernel
theorem cr_L_law_72 : mm_chkL (mm_chkRow mc_L_law) 1152 mr_L_law_72 = true := by decide +kernel
theorem cr_L_law_73 : mm_chkL (mm_chkRow mc_L_law) 1168 mr_L_law_73 = true := by decide +kernel
theorem cr_L_law_74 : mm_chkL (mm_chkRow mc_L_law) 1184 mr_L_law_74 = true := by decide +kernel
theorem cr_L_law_75 : mm_chkL (mm_chkRow mc_L_law) 1200 mr_L_law_75 = true := by decide +kernel
theorem cr_L_law_76 : mm_chkL (mm_chkRow mc_L_law) 1216 mr_L_law_76 = true := by decide +kernel
theorem cr_L_law_77 : mm_chkL (mm_chkRow mc_L_law) 1232 mr_L_law_77 = true := by decide +kernel
theorem cr_L_law_78 : mm_chkL (mm_chkRow mc_L_law) 1248 mr_L_law_78 = true := by decide +kernel
theorem cr_L_law_79 : mm_chkL (mm_chkRow mc_L_law) 1264 mr_L_law_79 = true := by decide +kernel
theorem cr_L_law_80 : mm_chkL (mm_chkRow mc_L_law) 1280 mr_L_law_80 = true := by decide +kernel
theorem cr_L_law_81 : mm_chkL (mm_chkRow mc_L_law) 1296 mr_L_law_81 = true := by decide +kernel
theorem cr_L_law_82 : mm_chkL (mm_chkRow mc_L_law) 1312 mr_L_law_82 = true := by decide +kernel
theorem cr_L_law_83 : mm_chkL (mm_chkRow mc_L_law) 1328 mr_L_law_83 = true := by decide +kernel
theorem cr_L_law_84 : mm_chkL (mm_chkRow mc_L_law) 1344 mr_L_law_84 = true := by decide +kernel
theorem cr_L_law_85 : mm_chkL (mm_chkRow mc_L_law) 1360 mr_L_law_85 = true := by decide +kernel
theorem cr_L_law_86 : mm_chkL (mm_chkRow mc_L_law) 1376 mr_L_law_86 = true := by decide +kernel
theorem cr_L_law_87 : mm_chkL (mm_chkRow mc_L_law) 1392 mr_L_law_87 = true := by decide +kernel
theorem cr_L_law_88 : mm_chkL (mm_chkRow mc_L_law) 1408 mr_L_law_88 = true := by decide +kernel
theorem cr_L_law_89 : mm_chkL (mm_chkRow mc_L_law) 1424 mr_L_law_89 = true := by decide +kernel
theorem cr_L_law_90 : mm_chkL (mm_chkRow mc_L_law) 1440 mr_L_law_90 = true := by decide +kernel
theorem cr_L_law_91 : mm_chkL (mm_chkRow mc_L_law) 1456 mr_L_law_91 = true := by decide +kernel
theorem cr_L_law_92 : mm_chkL (mm_chkRow mc_L_law) 1472 mr_L_law_92 = true := by decide +kernel
theorem cr_L_law_93 : mm_chkL (mm_chkRow mc_L_law) 1488 mr_L_law_93 = true := by decide +kernel
theorem cr_L_law_94 : mm_chkL (mm_chkRow mc_L_law) 1504 mr_L_law_94 = true := by decide +kernel
theorem cr_L_law_95 : mm_chkL (mm_chkRow mc_L_law) 1520 mr_L_law_95 = true := by decide +kernel
theorem cr_L_law_96 : mm_chkL (mm_chkRow mc_L_law) 1536 mr_L_law_96 = true := by decide +kernel
theorem cr_L_law_97 : mm_chkL (mm_chkRow mc_L_law) 1552 mr_L_law_97 = true := by decide +kernel
theorem cr_L_law_98 : mm_chkL (mm_chkRow mc_L_law) 1568 mr_L_law_98 = true := by decide +kernel
theorem cr_L_law_99 : mm_chkL (mm_chkRow mc_L_law) 1584 mr_L_law_99 = true := by decide +kernel
theorem cr_L_law_100 : mm_chkL (mm_chkRow mc_L_law) 1600 mr_L_law_100 = true := by decide +kernel
theorem cr_L_law_101 : mm_chkL (mm_chkRow mc_L_law) 1616 mr_L_law_101 = true := by decide +kernel
theorem cr_L_law_102 : mm_chkL (mm_chkRow mc_L_law) 1632 mr_L_law_102 = true := by decide +kernel
theorem cr_L_law_103 : mm_chkL (mm_chkRow mc_L_law) 1648 mr_L_law_103 = true := by decide +kernel
theorem cr_L_law_104 : mm_chkL (mm_chkRow mc_L_law) 1664 mr_L_law_104 = true := by decide +kernel
theorem cr_L_law_105 : mm_chkL (mm_chkRow mc_L_law) 1680 mr_L_law_105 = true := by decide +kernel
theorem cr_L_law_106 : mm_chkL (mm_chkRow mc_L_law) 1696 mr_L_law_106 = true := by decide +kernel
theorem cr_L_law_107 : mm_chkL (mm_chkRow mc_L_law) 1712 mr_L_law_107 = true := by decide +kernel
theorem cr_L_law_108 : mm_chkL (mm_chkRow mc_L_law) 1728 mr_L_law_108 = true := by decide +kernel
theorem cr_L_law_109 : mm_chkL (mm_chkRow mc_L_law) 1744 mr_L_law_109 = true := by decide +kernel
theorem cr_L_law_110 : mm_chkL (mm_chkRow mc_L_law) 1760 mr_L_law_110 = true := by decide +kernel
theorem cr_L_law_111 : mm_chkL (mm_chkRow mc_L_law) 1776 mr_L_law_111 = true := by decide +kernel
theorem cr_L_law_112 : mm_chkL (mm_chkRow mc_L_law) 1792 mr_L_law_112 = true := by decide +kernel
theorem cr_L_law_113 : mm_chkL (mm_chkRow mc_L_law) 1808 mr_L_law_113 = true := by decide +kernel
theorem cr_L_law_114 : mm_chkL (mm_chkRow mc_L_law) 1824 mr_L_law_114 = true := by decide +kernel
theorem cr_L_law_115 : mm_chkL (mm_chkRow mc_L_law) 1840 mr_L_law_115 = true := by decide +kernel
theorem cr_L_law_116 : mm_chkL (mm_chkRow mc_L_law) 1856 mr_L_law_116 = true := by decide +kernel
theorem cr_L_law_117 : mm_chkL (mm_chkRow mc_L_law) 1872 mr_L_law_117 = true := by decide +kernel
set_option maxRecDepth 10000 in
theorem ckr_L_law : mm_chkLL (mm_chkRow mc_L_law) 0 (mm_rows mc_L_law) = true := mm_ll rfl cr_L_law_0 (mm_ll rfl cr_L_law_1 (mm_ll rfl cr_L_law_2 (mm_ll rfl cr_L_law_3 (mm_ll rfl cr_L_law_4 (mm_ll rfl cr_L_law_5 (mm_ll rfl cr_L_law_6 (mm_ll rfl cr_L_law_7 (mm_ll rfl cr_L_law_8 (mm_ll rfl cr_L_law_9 (mm_ll rfl cr_L_law_10 (mm_ll rfl cr_L_law_11 (mm_ll rfl cr_L_law_12 (mm_ll rfl cr_L_law_13 (mm_ll rfl cr_L_law_14 (mm_ll rfl cr_L_law_15 (mm_ll rfl cr_L_law_16 (mm_ll rfl cr_L_law_17 (mm_ll rfl cr_L_law_18 (mm_ll rfl cr_L_law_19 (mm_ll rfl cr_L_law_20 (mm_ll rfl cr_L_law_21 (mm_ll rfl cr_L_law_22 (mm_ll rfl cr_L_law_23 (mm_ll rfl cr_L_law_24 (mm_ll rfl cr_L_law_25 (mm_ll rfl cr_L_law_26 (mm_ll rfl cr_L_law_27 (mm_ll rfl cr_L_law_28 (mm_ll rfl cr_L_law_29 (mm_ll rfl cr_L_law_30 (mm_ll rfl cr_L_law_31 (mm_ll rfl cr_L_law_32 (mm_ll rfl cr_L_law_33 (mm_ll rfl cr_L_law_34 (mm_ll rfl cr_L_law_35 (mm_ll rfl cr_L_law_36 (mm_ll rfl cr_L_law_37 (mm_ll rfl cr_L_law_38 (mm_ll rfl cr_L_law_39 (mm_ll rfl cr_L_law_40 (mm_ll rfl cr_L_law_41 (mm_ll rfl cr_L_law_42 (mm_ll rfl cr_L_law_43 (mm_ll rfl cr_L_law_44 (mm_ll rfl cr_L_law_45 (mm_ll rfl cr_L_law_46 (mm_ll rfl cr_L_law_47 (mm_ll rfl cr_L_law_48 (mm_ll rfl cr_L_law_49 (mm_ll rfl cr_L_law_50 (mm_ll rfl cr_L_law_51 (mm_ll rfl cr_L_law_52 (mm_ll rfl cr_L_law_53 (mm_ll rfl cr_L_law_54 (mm_ll rfl cr_L_law_55 (mm_ll rfl cr_L_law_56 (mm_ll rfl cr_L_law_57 (mm_ll rfl cr_L_law_58 (mm_ll rfl cr_L_law_59 (mm_ll rfl cr_L_law_60 (mm_ll rfl cr_L_law_61 (mm_ll rfl cr_L_law_62 (mm_ll rfl cr_L_law_63 (mm_ll rfl cr_L_law_64 (mm_ll rfl cr_L_law_65 (mm_ll rfl cr_L_law_66 (mm_ll rfl cr_L_law_67 (mm_ll rfl cr_L_law_68 (mm_ll rfl cr_L_law_69 (mm_ll rfl cr_L_law_70 (mm_ll rfl cr_L_law_71 (mm_ll rfl cr_L_law_72 (mm_ll rfl cr_L_law_73 (mm_ll rfl cr_L_law_74 (mm_ll rfl cr_L_law_75 (mm_ll rfl cr_L_law_76 (mm_ll rfl cr_L_law_77 (mm_ll rfl cr_L_law_78 (mm_ll rfl cr_L_law_79 (mm_ll rfl cr_L_law_80 (mm_ll rfl cr_L_law_81 (mm_ll rfl cr_L_law_82 (mm_ll rfl cr_L_law_83 (mm_ll rfl cr_L_law_84 (mm_ll rfl cr_L_law_85 (mm_ll rfl cr_L_law_86 (mm_ll rfl cr_L_law_87 (mm_ll rfl cr_L_law_88 (mm_ll rfl cr_L_law_89 (mm_ll rfl cr_L_law_90 (mm_ll rfl cr_L_law_91 (mm_ll rfl cr_L_law_92 (mm_ll rfl cr_L_law_93 (mm_ll rfl cr_L_law_94 (mm_ll rfl cr_L_law_95 (mm_ll rfl cr_L_law_96 (mm_ll rfl cr_L_law_97 (mm_ll rfl cr_L_law_98 (mm_ll rfl cr_L_law_99 (mm_ll rfl cr_L_law_100 (mm_ll rfl cr_L_law_101 (mm_ll rfl cr_L_law_102 (mm_ll rfl cr_L_law_103 (mm_ll rfl cr_L_law_104 (mm_ll rfl cr_L_law_105 (mm_ll rfl cr_L_law_106 (mm_ll rfl cr_L_law_107 (mm_ll rfl cr_L_law_108 (mm_ll rfl cr_L_law_109 (mm_ll rfl cr_L_law_110 (mm_ll rfl cr_L_law_111 (mm_ll rfl cr_L_law_112 (mm_ll rfl cr_L_law_113 (mm_ll rfl cr_L_law_114 (mm_ll rfl cr_L_law_115 (mm_ll rfl cr_L_law_116 (mm_ll rfl cr_L_law_117 (rfl))))))))))))))))))))))))))))))))))))))))))))))))))))))))))))))))))))))))))))))))))))))))))))))))))))))))))))))))))))))
