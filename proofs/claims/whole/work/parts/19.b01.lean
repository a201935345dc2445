-- written by wip/tools/m19.py
theorem xmd_76 : xdc "SoupNine$Bowls" 6 false (some FieldType.long) prog_3_method_6_code 0 cd_Bowls_countsAfter = true := by decide +kernel
theorem xmd_77 : xdc "SoupNine$Bowls" 5 false (some FieldType.long) prog_3_method_4_code 0 cd_Bowls_meanFrom = true := by decide +kernel
theorem xmd_78 : xdc "SoupNine$Bowls" 6 false (some FieldType.long) prog_3_method_5_code 0 cd_Bowls_meanOnceTold = true := by decide +kernel
theorem xmd_79 : xdc "SoupNine$Bowls" 7 false (some FieldType.long) prog_3_method_9_code 0 cd_Bowls_chanceOfMore = true := by decide +kernel
theorem xmd_80 : xdc "SoupNine$Bowls" 7 false (some FieldType.long) prog_3_method_10_code 0 cd_Bowls_waysTo = true := by decide +kernel
theorem xmd_81 : xdc "SoupNine$Routes" 1 true none prog_7_method_1_code 0 cd_Routes_init = true := by decide +kernel
theorem xmd_82 : xdc "SoupNine$Routes" 1 false none prog_7_method_2_code 0 cd_Routes_forget = true := by decide +kernel
theorem xmd_83 : xdc "SoupNine$Routes" 2 false none prog_7_method_3_code 0 cd_Routes_prepare = true := by decide +kernel
theorem xmd_84 : xdc "SoupNine$Routes" 4 false none prog_7_method_4_code 0 cd_Routes_measure = true := by decide +kernel
theorem xmd_85 : xdc "SoupNine$Routes" 5 false none prog_7_method_5_code 0 cd_Routes_findPaths = true := by decide +kernel
theorem xmd_86 : xdc "SoupNine$Routes" 2 false (some FieldType.boolean) prog_7_method_11_code 0 cd_Routes_has = true := by decide +kernel
theorem xmd_87 : xdc "SoupNine$Routes" 6 false (some FieldType.int) prog_7_method_6_code 0 cd_Routes_shortest = true := by decide +kernel
theorem xmd_88 : xdc "SoupNine$Routes" 8 false none prog_7_method_7_code 0 cd_Routes_findRound = true := by decide +kernel
theorem xmd_89 : xdc "SoupNine$Routes" 4 false none prog_7_method_12_code 0 cd_Routes_findBestOfWay = true := by decide +kernel
theorem xmd_90 : xdc "SoupNine$Routes" 2 false (some FieldType.boolean) prog_7_method_10_code 0 cd_Routes_isPeopled = true := by decide +kernel
theorem xmd_91 : xdc "SoupNine$Routes" 5 false (some FieldType.int) prog_7_method_13_code 0 cd_Routes_fewestMinutes = true := by decide +kernel
theorem xmd_92 : xdc "SoupNine$Routes" 4 false (some FieldType.boolean) prog_7_method_8_code 0 cd_Routes_isWarm = true := by decide +kernel
theorem xmd_93 : xdc "SoupNine$Routes" 3 false (some FieldType.int) prog_7_method_9_code 0 cd_Routes_doneAt = true := by decide +kernel
theorem xmd_94 : xdc "SoupNine$Routes" 6 false none prog_7_method_14_code 0 cd_Routes_findWay = true := by decide +kernel
theorem xmd_95 : xdc "SoupNine$Routes" 4 false (some FieldType.boolean) prog_7_method_15_code 0 cd_Routes_isBest = true := by decide +kernel
theorem xmd_96 : xdc "SoupNine$Routes" 7 false (some FieldType.int) prog_7_method_16_code 0 cd_Routes_nextOf = true := by decide +kernel
theorem xmd_97 : xdc "SoupNine$Routes" 2 false (some FieldType.int) prog_7_method_18_code 0 cd_Routes_talksAtFirst = true := by decide +kernel
theorem xmd_98 : xdc "SoupNine$Routes" 3 false (some FieldType.int) prog_7_method_19_code 0 cd_Routes_talksAheadOfLast = true := by decide +kernel
theorem xmd_99 : xdc "SoupNine$Routes" 5 false (some FieldType.int) prog_7_method_17_code 0 cd_Routes_mostWarmWithout = true := by decide +kernel
theorem xmd_100 : xdc "SoupNine$Routes" 3 false (some FieldType.int) prog_7_method_22_code 0 cd_Routes_stopsOfFirstVan = true := by decide +kernel
theorem xmd_101 : xdc "SoupNine$Routes" 2 false (some FieldType.int) prog_7_method_21_code 0 cd_Routes_homeLast = true := by decide +kernel
theorem xmd_102 : xdc "SoupNine$Routes" 7 false (some FieldType.int) prog_7_method_20_code 0 cd_Routes_stopsToTalkAt = true := by decide +kernel
theorem xmd_103 : xdc "SoupNine$Search" 1 true none prog_8_method_1_code 0 cd_Search_init = true := by decide +kernel
theorem xmd_104 : xdc "SoupNine$Search" 1 false none prog_8_method_2_code 0 cd_Search_forget = true := by decide +kernel
theorem xmd_105 : xdc "SoupNine$Search" 2 false none prog_8_method_3_code 0 cd_Search_prepare = true := by decide +kernel
theorem xmd_106 : xdc "SoupNine$Search" 6 false none prog_8_method_4_code 0 cd_Search_findNeed = true := by decide +kernel
theorem xmd_107 : xdc "SoupNine$Search" 6 false (some FieldType.int) prog_8_method_5_code 0 cd_Search_needWith = true := by decide +kernel
theorem xmd_108 : xdc "SoupNine$Search" 5 false none prog_8_method_6_code 0 cd_Search_findShoes = true := by decide +kernel
theorem xmd_109 : xdc "SoupNine$Search" 5 false none prog_8_method_7_code 0 cd_Search_findWalked = true := by decide +kernel
theorem xmd_110 : xdc "SoupNine$Search" 6 false (some FieldType.int) prog_8_method_8_code 0 cd_Search_leastWalked = true := by decide +kernel
theorem xmd_111 : xdc "SoupNine$Search" 5 false (some FieldType.int) prog_8_method_9_code 0 cd_Search_walkedBy = true := by decide +kernel
theorem xmd_112 : xdc "SoupNine$Search" 8 false none prog_8_method_10_code 0 cd_Search_findHides = true := by decide +kernel
theorem xmd_113 : xdc "SoupNine$Walk" 1 true none prog_12_method_1_code 0 cd_Walk_init = true := by decide +kernel
theorem xmd_114 : xdc "SoupNine$Walk" 3 false none prog_12_method_2_code 0 cd_Walk_begin = true := by decide +kernel
theorem xmd_115 : xdc "SoupNine$Walk" 5 false (some FieldType.int) prog_12_method_3_code 0 cd_Walk_follow = true := by decide +kernel
theorem xmd_116 : xdc "SoupNine$Walk" 4 false (some FieldType.boolean) prog_12_method_6_code 0 cd_Walk_perform = true := by decide +kernel
theorem xmd_117 : xdc "SoupNine$Walk" 3 false (some FieldType.boolean) prog_12_method_8_code 0 cd_Walk_driveTo = true := by decide +kernel
theorem xmd_118 : xdc "SoupNine$Walk" 2 false (some FieldType.boolean) prog_12_method_7_code 0 cd_Walk_spend = true := by decide +kernel
theorem xmd_119 : xdc "SoupNine$Walk" 6 false (some FieldType.boolean) prog_12_method_10_code 0 cd_Walk_ladle = true := by decide +kernel
theorem xmd_120 : xdc "SoupNine$Walk" 5 false none prog_12_method_11_code 0 cd_Walk_sendOn = true := by decide +kernel
theorem xmd_121 : xdc "SoupNine$Walk" 2 false (some FieldType.boolean) prog_12_method_9_code 0 cd_Walk_talk = true := by decide +kernel
theorem xmd_122 : xdc "SoupNine$Walk" 3 false (some FieldType.int) prog_12_method_12_code 0 cd_Walk_detail = true := by decide +kernel
theorem xmd_123 : xdc "SoupNine$Walk" 3 false (some FieldType.int) prog_12_method_13_code 0 cd_Walk_detailOfStop = true := by decide +kernel
theorem xmd_124 : xdc "SoupNine$Walk" 6 false none prog_12_method_4_code 0 cd_Walk_draw = true := by decide +kernel
theorem xmd_125 : xdc "SoupNine$Walk" 2 false (some FieldType.int) prog_12_method_5_code 0 cd_Walk_below = true := by decide +kernel
theorem xmd_126 : xdc "SoupNine$Reader" 2 true none prog_6_method_1_code 0 cd_Reader_init = true := by decide +kernel
theorem xmd_127 : xdc "SoupNine$Reader" 4 false none prog_6_method_2_code 0 cd_Reader_readText = true := by decide +kernel
