-- the methods: written by wip/tools/m11.py
abbrev xme : Type := MethodName × ByteArray × Nat × Option FieldType × List (List xop) × Nat × Nat × Nat × Nat × Nat × Nat × List Nat
def xmt_0 : List xme := [(⟨"java/lang/Integer", "bitCount", "(I)I"⟩, prog_15_method_49_code, 1, (some FieldType.int), cd_Integer_bitCount, 0, 1, 0, 0, 0, 0, [1222, 162, 1221, 0]),
  (⟨"java/lang/Math", "min", "(II)I"⟩, prog_16_method_69_code, 2, (some FieldType.int), cd_Math_min_III, 0, 2, 0, 0, 0, 0, [656, 155, 655, 0]),
  (⟨"java/lang/Math", "max", "(II)I"⟩, prog_16_method_65_code, 2, (some FieldType.int), cd_Math_max, 0, 2, 0, 0, 0, 0, [863, 155, 862, 0]),
  (⟨"java/lang/Math", "abs", "(I)I"⟩, prog_16_method_59_code, 1, (some FieldType.int), cd_Math_abs, 0, 1, 0, 0, 0, 0, [972, 155, 971, 0]),
  (⟨"java/lang/Math", "min", "(JJ)J"⟩, prog_16_method_70_code, 4, (some FieldType.long), cd_Math_min_JJJ, 0, 2, 0, 0, 0, 1, [1049, 155, 1048, 0]),
  (⟨"java/lang/Math", "floorMod", "(II)I"⟩, prog_16_method_50_code, 3, (some FieldType.int), cd_Math_floorMod, 0, 2, 0, 0, 0, 0, [1454, 155, 1453, 0]),
  (⟨"java/util/Arrays", "fill", "([JJ)V"⟩, prog_21_method_101_code, 5, none, cd_Arrays_fill_JJV, 0, 2, 0, 0, 0, 3, [1096, 163, 1095, 0]),
  (⟨"java/util/Arrays", "fill", "([II)V"⟩, prog_21_method_103_code, 4, none, cd_Arrays_fill_IIV, 0, 2, 0, 0, 0, 3, [1301, 163, 1300, 0]),
  (⟨"java/lang/StringUTF16", "charAt", "([BI)C"⟩, prog_19_method_83_code, 2, (some FieldType.char), cd_StringUTF16_charAt, 0, 2, 0, 0, 0, 0, [746, 159, 745, 0]),
  (⟨"java/lang/StringUTF16", "checkIndex", "(I[B)V"⟩, prog_19_method_91_code, 2, none, cd_StringUTF16_checkIndex, 0, 2, 0, 0, 0, 3, [749, 159, 748, 0]),
  (⟨"java/lang/StringUTF16", "length", "([B)I"⟩, prog_19_method_6_code, 1, (some FieldType.int), cd_StringUTF16_length, 0, 1, 0, 0, 0, 0, [752, 159, 751, 0]),
  (⟨"java/lang/StringUTF16", "getChar", "([BI)C"⟩, prog_19_method_5_code, 2, (some FieldType.char), cd_StringUTF16_getChar, 0, 2, 0, 0, 0, 0, [756, 159, 755, 0]),
  (⟨"java/lang/StringLatin1", "charAt", "([BI)C"⟩, prog_18_method_2_code, 2, (some FieldType.char), cd_StringLatin1_charAt, 0, 2, 0, 0, 0, 0, [735, 157, 734, 0]),
  (⟨"java/lang/String", "length", "()I"⟩, prog_17_method_54_code, 1, (some FieldType.int), cd_String_length, 1, 0, 30, 0, 0, 0, [718, 156, 716, 717]),
  (⟨"java/lang/String", "coder", "()B"⟩, prog_17_method_152_code, 1, (some FieldType.byte), cd_String_coder, 1, 0, 30, 0, 0, 0, [722, 156, 720, 721]),
  (⟨"java/lang/String", "charAt", "(I)C"⟩, prog_17_method_56_code, 2, (some FieldType.char), cd_String_charAt, 1, 1, 30, 0, 0, 0, [728, 156, 726, 727]),
  (⟨"java/lang/String", "isLatin1", "()Z"⟩, prog_17_method_154_code, 1, (some FieldType.boolean), cd_String_isLatin1, 1, 0, 30, 0, 0, 0, [732, 156, 730, 731]),
  (⟨"java/lang/String", "checkIndex", "(II)V"⟩, prog_17_method_155_code, 2, none, cd_String_checkIndex, 0, 2, 0, 0, 0, 3, [738, 156, 737, 0]),
  (⟨"jdk/internal/util/Preconditions", "checkIndex", "(IILjava/util/function/BiFunction;)I"⟩, prog_22_method_11_code, 3, (some FieldType.int), cd_Preconditions_checkIndex, 0, 3, 0, 0, 0, 0, [743, 158, 742, 0]),
  (⟨"SoupNine$Fraction", "part", "(JJZ)J"⟩, prog_5_method_2_code, 7, (some FieldType.long), cd_Fraction_part, 0, 3, 0, 0, 0, 1, [1065, 161, 1064, 0]),
  (⟨"SoupNine$Fraction", "divisor", "(JJ)J"⟩, prog_5_method_3_code, 7, (some FieldType.long), cd_Fraction_divisor, 0, 2, 0, 0, 0, 1, [1068, 161, 1067, 0]),
  (⟨"SoupNine$Fraction", "power", "(II)J"⟩, prog_5_method_6_code, 5, (some FieldType.long), cd_Fraction_power, 0, 2, 0, 0, 0, 1, [1399, 161, 1398, 0]),
  (⟨"SoupNine$Fraction", "share", "(JJZ)J"⟩, prog_5_method_4_code, 5, (some FieldType.long), cd_Fraction_share, 0, 3, 0, 0, 0, 1, [1405, 161, 1404, 0]),
  (⟨"SoupNine$Fraction", "reaches", "(JJI)Z"⟩, prog_5_method_5_code, 5, (some FieldType.boolean), cd_Fraction_reaches, 0, 3, 0, 0, 0, 0, [1413, 161, 1412, 0]),
  (⟨"SoupNine$Evening", "<init>", "()V"⟩, prog_4_method_1_code, 1, none, cd_Evening_init, 2, 0, 3, 2, 80, 3, [255, 146, 254, 0]),
  (⟨"SoupNine$Evening", "addDeed", "(II)V"⟩, prog_4_method_3_code, 3, none, cd_Evening_addDeed, 1, 2, 3, 0, 0, 3, [811, 146, 809, 810]),
  (⟨"SoupNine$Evening", "copyFrom", "(LSoupNine$Evening;)V"⟩, prog_4_method_2_code, 2, none, cd_Evening_copyFrom, 1, 1, 3, 0, 0, 3, [849, 146, 847, 848]),
  (⟨"SoupNine$Evening", "detail", "(II)I"⟩, prog_4_method_4_code, 3, (some FieldType.int), cd_Evening_detail, 1, 2, 3, 0, 0, 0, [936, 146, 934, 935]),
  (⟨"SoupNine$Sheet", "<init>", "()V"⟩, prog_9_method_1_code, 1, none, cd_Sheet_init, 2, 0, 5, 6, 46, 3, [299, 148, 298, 0]),
  (⟨"SoupNine$Sheet", "clear", "()V"⟩, prog_9_method_2_code, 1, none, cd_Sheet_clear, 1, 0, 5, 0, 0, 3, [664, 148, 662, 663])]
def xmt_1 : List xme := [(⟨"SoupNine$Sheet", "addShoe", "(I)V"⟩, prog_9_method_4_code, 2, none, cd_Sheet_addShoe, 1, 1, 5, 0, 0, 3, [826, 148, 824, 825]),
  (⟨"SoupNine$Sheet", "addFoot", "(II)V"⟩, prog_9_method_5_code, 3, none, cd_Sheet_addFoot, 1, 2, 5, 0, 0, 3, [830, 148, 828, 829]),
  (⟨"SoupNine$Sheet", "addHide", "(III)V"⟩, prog_9_method_6_code, 4, none, cd_Sheet_addHide, 1, 3, 5, 0, 0, 3, [834, 148, 832, 833]),
  (⟨"SoupNine$Sheet", "copyFrom", "(LSoupNine$Sheet;)V"⟩, prog_9_method_3_code, 2, none, cd_Sheet_copyFrom, 1, 1, 5, 0, 0, 3, [859, 148, 857, 858]),
  (⟨"SoupNine$Sheet", "detail", "(I)I"⟩, prog_9_method_9_code, 2, (some FieldType.int), cd_Sheet_detail, 1, 1, 5, 0, 0, 0, [1326, 148, 1324, 1325]),
  (⟨"SoupNine$Sheet", "detailOf", "(II)I"⟩, prog_9_method_10_code, 3, (some FieldType.int), cd_Sheet_detailOf, 1, 2, 5, 0, 0, 0, [1330, 148, 1329, 47]),
  (⟨"SoupNine$Sheet", "fits", "(II)Z"⟩, prog_9_method_7_code, 3, (some FieldType.boolean), cd_Sheet_fits, 1, 2, 5, 0, 0, 0, [1350, 148, 1348, 1349]),
  (⟨"SoupNine$Sheet", "steps", "(II)I"⟩, prog_9_method_8_code, 5, (some FieldType.int), cd_Sheet_steps, 1, 2, 5, 0, 0, 0, [1372, 148, 1370, 1371]),
  (⟨"SoupNine$Town", "<init>", "()V"⟩, prog_11_method_1_code, 1, none, cd_Town_init, 2, 0, 2, 7, 63, 3, [183, 145, 182, 0]),
  (⟨"SoupNine$Town", "clear", "()V"⟩, prog_11_method_2_code, 2, none, cd_Town_clear, 1, 0, 2, 0, 0, 3, [660, 145, 658, 659]),
  (⟨"SoupNine$Town", "addStop", "(I[I)V"⟩, prog_11_method_4_code, 3, none, cd_Town_addStop, 1, 2, 2, 0, 0, 3, [799, 145, 797, 798]),
  (⟨"SoupNine$Town", "setFollow", "(III)V"⟩, prog_11_method_5_code, 4, none, cd_Town_setFollow, 1, 3, 2, 0, 0, 3, [807, 145, 805, 806]),
  (⟨"SoupNine$Town", "copyFrom", "(LSoupNine$Town;)V"⟩, prog_11_method_3_code, 2, none, cd_Town_copyFrom, 1, 1, 2, 0, 0, 3, [842, 145, 840, 841]),
  (⟨"SoupNine$Town", "detail", "(I)I"⟩, prog_11_method_16_code, 2, (some FieldType.int), cd_Town_detail, 1, 1, 2, 0, 0, 0, [916, 145, 914, 915]),
  (⟨"SoupNine$Town", "hasStop", "(I)Z"⟩, prog_11_method_6_code, 2, (some FieldType.boolean), cd_Town_hasStop, 1, 1, 2, 0, 0, 0, [920, 145, 918, 919]),
  (⟨"SoupNine$Town", "detailOfStop", "(II)I"⟩, prog_11_method_17_code, 3, (some FieldType.int), cd_Town_detailOfStop, 1, 2, 2, 0, 0, 0, [924, 145, 923, 16]),
  (⟨"SoupNine$Town", "middle", "(I)I"⟩, prog_11_method_8_code, 2, (some FieldType.int), cd_Town_middle, 1, 1, 2, 0, 0, 0, [948, 145, 946, 947]),
  (⟨"SoupNine$Town", "minutes", "(II)I"⟩, prog_11_method_11_code, 3, (some FieldType.int), cd_Town_minutes, 1, 2, 2, 0, 0, 0, [965, 145, 963, 964]),
  (⟨"SoupNine$Town", "columnOf", "(I)I"⟩, prog_11_method_12_code, 2, (some FieldType.int), cd_Town_columnOf, 1, 1, 2, 0, 0, 0, [969, 145, 968, 19]),
  (⟨"SoupNine$Town", "rowOf", "(I)I"⟩, prog_11_method_13_code, 2, (some FieldType.int), cd_Town_rowOf, 1, 1, 2, 0, 0, 0, [976, 145, 975, 20]),
  (⟨"SoupNine$Town", "mayCome", "(II)Z"⟩, prog_11_method_7_code, 3, (some FieldType.boolean), cd_Town_mayCome, 1, 2, 2, 0, 0, 0, [1030, 145, 1028, 1029]),
  (⟨"SoupNine$Town", "weight", "(I)I"⟩, prog_11_method_9_code, 2, (some FieldType.int), cd_Town_weight, 1, 1, 2, 0, 0, 0, [1046, 145, 1044, 1045]),
  (⟨"SoupNine$Town", "mostInAll", "()I"⟩, prog_11_method_10_code, 3, (some FieldType.int), cd_Town_mostInAll, 1, 0, 2, 0, 0, 0, [1076, 145, 1074, 1075]),
  (⟨"SoupNine$Town", "minutesFromPlace", "(I)I"⟩, prog_11_method_14_code, 4, (some FieldType.int), cd_Town_minutesFromPlace, 1, 1, 2, 0, 0, 0, [1196, 145, 1194, 1195]),
  (⟨"SoupNine$Town", "trailFrom", "(IZ)I"⟩, prog_11_method_15_code, 6, (some FieldType.int), cd_Town_trailFrom, 1, 2, 2, 0, 0, 0, [1219, 145, 1217, 1218]),
  (⟨"SoupNine$Book", "<init>", "()V"⟩, prog_2_method_1_code, 1, none, cd_Book_init, 2, 0, 4, 3, 50, 3, [277, 147, 276, 0]),
  (⟨"SoupNine$Book", "lotRow", "(I)I"⟩, prog_2_method_13_code, 1, (some FieldType.int), cd_Book_lotRow, 0, 1, 0, 0, 0, 0, [600, 147, 599, 0]),
  (⟨"SoupNine$Book", "addNight", "(II)V"⟩, prog_2_method_3_code, 4, none, cd_Book_addNight, 1, 2, 4, 0, 0, 3, [815, 147, 813, 814]),
  (⟨"SoupNine$Book", "setAsked", "(II)V"⟩, prog_2_method_4_code, 3, none, cd_Book_setAsked, 1, 2, 4, 0, 0, 3, [819, 147, 817, 818]),
  (⟨"SoupNine$Book", "copyFrom", "(LSoupNine$Book;)V"⟩, prog_2_method_2_code, 2, none, cd_Book_copyFrom, 1, 1, 4, 0, 0, 3, [854, 147, 852, 853])]
def xmt_2 : List xme := [(⟨"SoupNine$Book", "detail", "(II)I"⟩, prog_2_method_16_code, 3, (some FieldType.int), cd_Book_detail, 1, 2, 4, 0, 0, 0, [1246, 147, 1244, 1245]),
  (⟨"SoupNine$Book", "unlikeAheadOf", "(I)I"⟩, prog_2_method_5_code, 4, (some FieldType.int), cd_Book_unlikeAheadOf, 1, 1, 4, 0, 0, 0, [1254, 147, 1252, 1253]),
  (⟨"SoupNine$Book", "heldInAll", "(Z)I"⟩, prog_2_method_6_code, 5, (some FieldType.int), cd_Book_heldInAll, 1, 1, 4, 0, 0, 0, [1258, 147, 1256, 1257]),
  (⟨"SoupNine$Book", "doorway", "()I"⟩, prog_2_method_7_code, 5, (some FieldType.int), cd_Book_doorway, 1, 0, 4, 0, 0, 0, [1264, 147, 1262, 1263]),
  (⟨"SoupNine$Book", "moreFrom", "(I)I"⟩, prog_2_method_9_code, 3, (some FieldType.int), cd_Book_moreFrom, 1, 1, 4, 0, 0, 0, [1268, 147, 1267, 44]),
  (⟨"SoupNine$Book", "seenAheadOf", "(I)I"⟩, prog_2_method_10_code, 4, (some FieldType.int), cd_Book_seenAheadOf, 1, 1, 4, 0, 0, 0, [1272, 147, 1271, 45]),
  (⟨"SoupNine$Book", "doorwayDifference", "(Z)I"⟩, prog_2_method_8_code, 3, (some FieldType.int), cd_Book_doorwayDifference, 1, 1, 4, 0, 0, 0, [1276, 147, 1274, 1275]),
  (⟨"SoupNine$Book", "enoughOn", "(II)I"⟩, prog_2_method_14_code, 6, (some FieldType.int), cd_Book_enoughOn, 1, 2, 4, 0, 0, 0, [1286, 147, 1284, 1285]),
  (⟨"SoupNine$Book", "chanceOfAsMany", "(LSoupNine$Book;[IZ)J"⟩, prog_2_method_11_code, 11, (some FieldType.long), cd_Book_chanceOfAsMany, 1, 3, 4, 0, 0, 1, [1298, 147, 1296, 1297]),
  (⟨"SoupNine$Book", "maybePick", "(I[I)V"⟩, prog_2_method_12_code, 7, none, cd_Book_maybePick, 1, 2, 4, 0, 0, 3, [1305, 147, 1304, 46]),
  (⟨"SoupNine$Book", "couplesWith", "(LSoupNine$Book;I)I"⟩, prog_2_method_15_code, 6, (some FieldType.int), cd_Book_couplesWith, 1, 2, 4, 0, 0, 0, [1314, 147, 1312, 1313]),
  (⟨"SoupNine$Bowls", "<init>", "()V"⟩, prog_3_method_1_code, 1, none, cd_Bowls_init, 2, 0, 8, 3, 1191, 3, [489, 151, 488, 0]),
  (⟨"SoupNine$Bowls", "forget", "()V"⟩, prog_3_method_2_code, 1, none, cd_Bowls_forget, 1, 0, 8, 0, 0, 3, [871, 151, 869, 870]),
  (⟨"SoupNine$Bowls", "bestGift", "(LSoupNine$Town;III)I"⟩, prog_3_method_3_code, 7, (some FieldType.int), cd_Bowls_bestGift, 1, 4, 8, 0, 0, 0, [1034, 151, 1032, 1033]),
  (⟨"SoupNine$Bowls", "prepare", "(LSoupNine$Town;)V"⟩, prog_3_method_7_code, 4, none, cd_Bowls_prepare, 1, 1, 8, 0, 0, 3, [1038, 151, 1037, 27]),
  (⟨"SoupNine$Bowls", "countsOverAll", "(LSoupNine$Town;II)J"⟩, prog_3_method_8_code, 13, (some FieldType.long), cd_Bowls_countsOverAll, 1, 3, 8, 0, 0, 1, [1042, 151, 1041, 28]),
  (⟨"SoupNine$Bowls", "countsAfter", "(LSoupNine$Town;IIII)J"⟩, prog_3_method_6_code, 6, (some FieldType.long), cd_Bowls_countsAfter, 1, 5, 8, 0, 0, 1, [1053, 151, 1052, 29]),
  (⟨"SoupNine$Bowls", "meanFrom", "(LSoupNine$Town;IIZ)J"⟩, prog_3_method_4_code, 5, (some FieldType.long), cd_Bowls_meanFrom, 1, 4, 8, 0, 0, 1, [1062, 151, 1060, 1061]),
  (⟨"SoupNine$Bowls", "meanOnceTold", "(LSoupNine$Town;IIZ)J"⟩, prog_3_method_5_code, 6, (some FieldType.long), cd_Bowls_meanOnceTold, 1, 4, 8, 0, 0, 1, [1084, 151, 1082, 1083]),
  (⟨"SoupNine$Bowls", "chanceOfMore", "(LSoupNine$Town;IZ)J"⟩, prog_3_method_9_code, 7, (some FieldType.long), cd_Bowls_chanceOfMore, 1, 3, 8, 0, 0, 1, [1093, 151, 1091, 1092]),
  (⟨"SoupNine$Bowls", "waysTo", "(III)J"⟩, prog_3_method_10_code, 7, (some FieldType.long), cd_Bowls_waysTo, 1, 3, 8, 0, 0, 1, [1100, 151, 1099, 30]),
  (⟨"SoupNine$Routes", "<init>", "()V"⟩, prog_7_method_1_code, 1, none, cd_Routes_init, 2, 0, 9, 8, 6764, 3, [509, 152, 508, 0]),
  (⟨"SoupNine$Routes", "forget", "()V"⟩, prog_7_method_2_code, 1, none, cd_Routes_forget, 1, 0, 9, 0, 0, 3, [875, 152, 873, 874]),
  (⟨"SoupNine$Routes", "prepare", "(LSoupNine$Town;)V"⟩, prog_7_method_3_code, 2, none, cd_Routes_prepare, 1, 1, 9, 0, 0, 3, [1108, 152, 1106, 1107]),
  (⟨"SoupNine$Routes", "measure", "(LSoupNine$Town;)V"⟩, prog_7_method_4_code, 4, none, cd_Routes_measure, 1, 1, 9, 0, 0, 3, [1112, 152, 1111, 31]),
  (⟨"SoupNine$Routes", "findPaths", "(LSoupNine$Town;)V"⟩, prog_7_method_5_code, 5, none, cd_Routes_findPaths, 1, 1, 9, 0, 0, 3, [1118, 152, 1117, 32]),
  (⟨"SoupNine$Routes", "has", "(II)Z"⟩, prog_7_method_11_code, 2, (some FieldType.boolean), cd_Routes_has, 0, 2, 0, 0, 0, 0, [1122, 152, 1121, 0]),
  (⟨"SoupNine$Routes", "shortest", "(LSoupNine$Town;II)I"⟩, prog_7_method_6_code, 6, (some FieldType.int), cd_Routes_shortest, 1, 3, 9, 0, 0, 0, [1126, 152, 1125, 33]),
  (⟨"SoupNine$Routes", "findRound", "(LSoupNine$Town;)V"⟩, prog_7_method_7_code, 8, none, cd_Routes_findRound, 1, 1, 9, 0, 0, 3, [1131, 152, 1130, 34]),
  (⟨"SoupNine$Routes", "findBestOfWay", "(LSoupNine$Town;)V"⟩, prog_7_method_12_code, 4, none, cd_Routes_findBestOfWay, 1, 1, 9, 0, 0, 3, [1135, 152, 1134, 35])]
def xmt_3 : List xme := [(⟨"SoupNine$Routes", "isPeopled", "(I)Z"⟩, prog_7_method_10_code, 2, (some FieldType.boolean), cd_Routes_isPeopled, 1, 1, 9, 0, 0, 0, [1139, 152, 1138, 36]),
  (⟨"SoupNine$Routes", "fewestMinutes", "(LSoupNine$Town;I)I"⟩, prog_7_method_13_code, 5, (some FieldType.int), cd_Routes_fewestMinutes, 1, 2, 9, 0, 0, 0, [1143, 152, 1142, 37]),
  (⟨"SoupNine$Routes", "isWarm", "(LSoupNine$Town;II)Z"⟩, prog_7_method_8_code, 4, (some FieldType.boolean), cd_Routes_isWarm, 1, 3, 9, 0, 0, 0, [1147, 152, 1146, 38]),
  (⟨"SoupNine$Routes", "doneAt", "(II)I"⟩, prog_7_method_9_code, 3, (some FieldType.int), cd_Routes_doneAt, 1, 2, 9, 0, 0, 0, [1151, 152, 1150, 39]),
  (⟨"SoupNine$Routes", "findWay", "(LSoupNine$Town;)V"⟩, prog_7_method_14_code, 6, none, cd_Routes_findWay, 1, 1, 9, 0, 0, 3, [1155, 152, 1154, 40]),
  (⟨"SoupNine$Routes", "isBest", "(LSoupNine$Town;II)Z"⟩, prog_7_method_15_code, 4, (some FieldType.boolean), cd_Routes_isBest, 1, 3, 9, 0, 0, 0, [1159, 152, 1158, 41]),
  (⟨"SoupNine$Routes", "nextOf", "(LSoupNine$Town;II)I"⟩, prog_7_method_16_code, 7, (some FieldType.int), cd_Routes_nextOf, 1, 3, 9, 0, 0, 0, [1163, 152, 1162, 42]),
  (⟨"SoupNine$Routes", "talksAtFirst", "(LSoupNine$Town;)I"⟩, prog_7_method_18_code, 2, (some FieldType.int), cd_Routes_talksAtFirst, 1, 1, 9, 0, 0, 0, [1175, 152, 1173, 1174]),
  (⟨"SoupNine$Routes", "talksAheadOfLast", "(LSoupNine$Town;)I"⟩, prog_7_method_19_code, 3, (some FieldType.int), cd_Routes_talksAheadOfLast, 1, 1, 9, 0, 0, 0, [1179, 152, 1178, 43]),
  (⟨"SoupNine$Routes", "mostWarmWithout", "(LSoupNine$Town;I)I"⟩, prog_7_method_17_code, 5, (some FieldType.int), cd_Routes_mostWarmWithout, 1, 2, 9, 0, 0, 0, [1188, 152, 1186, 1187]),
  (⟨"SoupNine$Routes", "stopsOfFirstVan", "()I"⟩, prog_7_method_22_code, 3, (some FieldType.int), cd_Routes_stopsOfFirstVan, 1, 0, 9, 0, 0, 0, [1205, 152, 1203, 1204]),
  (⟨"SoupNine$Routes", "homeLast", "(I)I"⟩, prog_7_method_21_code, 2, (some FieldType.int), cd_Routes_homeLast, 1, 1, 9, 0, 0, 0, [1209, 152, 1207, 1208]),
  (⟨"SoupNine$Routes", "stopsToTalkAt", "(LSoupNine$Town;)I"⟩, prog_7_method_20_code, 7, (some FieldType.int), cd_Routes_stopsToTalkAt, 1, 1, 9, 0, 0, 0, [1233, 152, 1231, 1232]),
  (⟨"SoupNine$Search", "<init>", "()V"⟩, prog_8_method_1_code, 1, none, cd_Search_init, 2, 0, 10, 5, 2896, 3, [566, 153, 565, 0]),
  (⟨"SoupNine$Search", "forget", "()V"⟩, prog_8_method_2_code, 1, none, cd_Search_forget, 1, 0, 10, 0, 0, 3, [879, 153, 877, 878]),
  (⟨"SoupNine$Search", "prepare", "(LSoupNine$Sheet;)V"⟩, prog_8_method_3_code, 2, none, cd_Search_prepare, 1, 1, 10, 0, 0, 3, [1338, 153, 1336, 1337]),
  (⟨"SoupNine$Search", "findNeed", "(LSoupNine$Sheet;)V"⟩, prog_8_method_4_code, 6, none, cd_Search_findNeed, 1, 1, 10, 0, 0, 3, [1342, 153, 1341, 48]),
  (⟨"SoupNine$Search", "needWith", "(LSoupNine$Sheet;III)I"⟩, prog_8_method_5_code, 6, (some FieldType.int), cd_Search_needWith, 1, 4, 10, 0, 0, 0, [1346, 153, 1345, 49]),
  (⟨"SoupNine$Search", "findShoes", "(LSoupNine$Sheet;)V"⟩, prog_8_method_6_code, 5, none, cd_Search_findShoes, 1, 1, 10, 0, 0, 3, [1355, 153, 1354, 50]),
  (⟨"SoupNine$Search", "findWalked", "(LSoupNine$Sheet;)V"⟩, prog_8_method_7_code, 5, none, cd_Search_findWalked, 1, 1, 10, 0, 0, 3, [1359, 153, 1358, 51]),
  (⟨"SoupNine$Search", "leastWalked", "(LSoupNine$Sheet;II)I"⟩, prog_8_method_8_code, 6, (some FieldType.int), cd_Search_leastWalked, 1, 3, 10, 0, 0, 0, [1363, 153, 1362, 52]),
  (⟨"SoupNine$Search", "walkedBy", "(LSoupNine$Sheet;III)I"⟩, prog_8_method_9_code, 5, (some FieldType.int), cd_Search_walkedBy, 1, 4, 10, 0, 0, 0, [1368, 153, 1367, 53]),
  (⟨"SoupNine$Search", "findHides", "(LSoupNine$Sheet;)V"⟩, prog_8_method_10_code, 8, none, cd_Search_findHides, 1, 1, 10, 0, 0, 3, [1378, 153, 1377, 54]),
  (⟨"SoupNine$Walk", "<init>", "()V"⟩, prog_12_method_1_code, 1, none, cd_Walk_init, 2, 0, 7, 4, 36, 3, [446, 150, 445, 0]),
  (⟨"SoupNine$Walk", "begin", "(LSoupNine$Town;)V"⟩, prog_12_method_2_code, 3, none, cd_Walk_begin, 1, 1, 7, 0, 0, 3, [944, 150, 942, 943]),
  (⟨"SoupNine$Walk", "follow", "(LSoupNine$Town;LSoupNine$Evening;I)I"⟩, prog_12_method_3_code, 5, (some FieldType.int), cd_Walk_follow, 1, 3, 7, 0, 0, 0, [952, 150, 950, 951]),
  (⟨"SoupNine$Walk", "perform", "(LSoupNine$Town;II)Z"⟩, prog_12_method_6_code, 4, (some FieldType.boolean), cd_Walk_perform, 1, 3, 7, 0, 0, 0, [956, 150, 955, 17]),
  (⟨"SoupNine$Walk", "driveTo", "(LSoupNine$Town;I)Z"⟩, prog_12_method_8_code, 3, (some FieldType.boolean), cd_Walk_driveTo, 1, 2, 7, 0, 0, 0, [961, 150, 960, 18]),
  (⟨"SoupNine$Walk", "spend", "(I)Z"⟩, prog_12_method_7_code, 2, (some FieldType.boolean), cd_Walk_spend, 1, 1, 7, 0, 0, 0, [980, 150, 979, 21]),
  (⟨"SoupNine$Walk", "ladle", "(LSoupNine$Town;I)Z"⟩, prog_12_method_10_code, 6, (some FieldType.boolean), cd_Walk_ladle, 1, 2, 7, 0, 0, 0, [984, 150, 983, 22])]
def xmt_4 : List xme := [(⟨"SoupNine$Walk", "sendOn", "(LSoupNine$Town;I)V"⟩, prog_12_method_11_code, 5, none, cd_Walk_sendOn, 1, 2, 7, 0, 0, 3, [989, 150, 988, 23]),
  (⟨"SoupNine$Walk", "talk", "(LSoupNine$Town;)Z"⟩, prog_12_method_9_code, 2, (some FieldType.boolean), cd_Walk_talk, 1, 1, 7, 0, 0, 0, [994, 150, 993, 24]),
  (⟨"SoupNine$Walk", "detail", "(LSoupNine$Town;I)I"⟩, prog_12_method_12_code, 3, (some FieldType.int), cd_Walk_detail, 1, 2, 7, 0, 0, 0, [1002, 150, 1000, 1001]),
  (⟨"SoupNine$Walk", "detailOfStop", "(II)I"⟩, prog_12_method_13_code, 3, (some FieldType.int), cd_Walk_detailOfStop, 1, 2, 7, 0, 0, 0, [1006, 150, 1005, 25]),
  (⟨"SoupNine$Walk", "draw", "(LSoupNine$Town;II)V"⟩, prog_12_method_4_code, 6, none, cd_Walk_draw, 1, 3, 7, 0, 0, 3, [1014, 150, 1012, 1013]),
  (⟨"SoupNine$Walk", "below", "(I)I"⟩, prog_12_method_5_code, 2, (some FieldType.int), cd_Walk_below, 1, 1, 7, 0, 0, 0, [1018, 150, 1017, 26]),
  (⟨"SoupNine$Reader", "<init>", "([B)V"⟩, prog_6_method_1_code, 2, none, cd_Reader_init, 2, 1, 6, 23, 273, 3, [380, 149, 379, 0]),
  (⟨"SoupNine$Reader", "readText", "(II)V"⟩, prog_6_method_2_code, 4, none, cd_Reader_readText, 1, 2, 6, 0, 0, 3, [649, 149, 647, 648]),
  (⟨"SoupNine$Reader", "begin", "(I)V"⟩, prog_6_method_3_code, 2, none, cd_Reader_begin, 1, 1, 6, 0, 0, 3, [653, 149, 652, 1]),
  (⟨"SoupNine$Reader", "advance", "()V"⟩, prog_6_method_15_code, 1, none, cd_Reader_advance, 1, 0, 6, 0, 0, 3, [668, 149, 667, 2]),
  (⟨"SoupNine$Reader", "isLetter", "(B)Z"⟩, prog_6_method_17_code, 1, (some FieldType.boolean), cd_Reader_isLetter, 0, 1, 0, 0, 0, 0, [671, 149, 670, 0]),
  (⟨"SoupNine$Reader", "isDigit", "(B)Z"⟩, prog_6_method_18_code, 1, (some FieldType.boolean), cd_Reader_isDigit, 0, 1, 0, 0, 0, 0, [674, 149, 673, 0]),
  (⟨"SoupNine$Reader", "readDigits", "()V"⟩, prog_6_method_16_code, 1, none, cd_Reader_readDigits, 1, 0, 6, 0, 0, 3, [678, 149, 677, 3]),
  (⟨"SoupNine$Reader", "readLine", "(I)Z"⟩, prog_6_method_5_code, 3, (some FieldType.boolean), cd_Reader_readLine, 1, 1, 6, 0, 0, 0, [682, 149, 681, 4]),
  (⟨"SoupNine$Reader", "codeOf", "(I)I"⟩, prog_6_method_6_code, 3, (some FieldType.int), cd_Reader_codeOf, 1, 1, 6, 0, 0, 0, [686, 149, 685, 5]),
  (⟨"SoupNine$Reader", "wordOf", "(I)Ljava/lang/String;"⟩, prog_6_method_13_code, 1, (some (FieldType.object "java/lang/String")), cd_Reader_wordOf, 0, 1, 0, 0, 0, 2, [691, 149, 690, 0]),
  (⟨"SoupNine$Reader", "isWord", "(Ljava/lang/String;)Z"⟩, prog_6_method_14_code, 3, (some FieldType.boolean), cd_Reader_isWord, 1, 1, 6, 0, 0, 0, [714, 149, 713, 6]),
  (⟨"SoupNine$Reader", "checkRoom", "(I)V"⟩, prog_6_method_7_code, 2, none, cd_Reader_checkRoom, 1, 1, 6, 0, 0, 3, [766, 149, 765, 7]),
  (⟨"SoupNine$Reader", "noteFault", "(II)V"⟩, prog_6_method_4_code, 3, none, cd_Reader_noteFault, 1, 2, 6, 0, 0, 3, [770, 149, 769, 8]),
  (⟨"SoupNine$Reader", "readThing", "()Z"⟩, prog_6_method_8_code, 1, (some FieldType.boolean), cd_Reader_readThing, 1, 0, 6, 0, 0, 0, [774, 149, 773, 9]),
  (⟨"SoupNine$Reader", "readNumbers", "(I)Z"⟩, prog_6_method_9_code, 3, (some FieldType.boolean), cd_Reader_readNumbers, 1, 1, 6, 0, 0, 0, [781, 149, 780, 10]),
  (⟨"SoupNine$Reader", "canBe", "(II)Z"⟩, prog_6_method_10_code, 3, (some FieldType.boolean), cd_Reader_canBe, 1, 2, 6, 0, 0, 0, [787, 149, 786, 11]),
  (⟨"SoupNine$Reader", "tellLine", "(I)V"⟩, prog_6_method_11_code, 2, none, cd_Reader_tellLine, 1, 1, 6, 0, 0, 3, [795, 149, 794, 12]),
  (⟨"SoupNine$Reader", "tellOfTown", "(I)V"⟩, prog_6_method_12_code, 2, none, cd_Reader_tellOfTown, 1, 1, 6, 0, 0, 3, [803, 149, 802, 13]),
  (⟨"SoupNine$Told", "<init>", "()V"⟩, prog_10_method_1_code, 1, none, cd_Told_init, 2, 0, 1, 50, 1150, 3, [176, 144, 175, 0]),
  (⟨"SoupNine$Told", "addBytes", "(I)V"⟩, prog_10_method_2_code, 3, none, cd_Told_addBytes, 1, 1, 1, 0, 0, 3, [633, 144, 631, 632]),
  (⟨"SoupNine$Told", "copyFrom", "(LSoupNine$Told;)V"⟩, prog_10_method_3_code, 3, none, cd_Told_copyFrom, 1, 1, 1, 0, 0, 3, [895, 144, 893, 894]),
  (⟨"SoupNine$Told", "townAt", "(I)LSoupNine$Town;"⟩, prog_10_method_4_code, 2, (some (FieldType.object "SoupNine$Town")), cd_Told_townAt, 1, 1, 1, 0, 0, 2, [912, 144, 910, 911]),
  (⟨"SoupNine$Told", "eveningAt", "(I)LSoupNine$Evening;"⟩, prog_10_method_5_code, 2, (some (FieldType.object "SoupNine$Evening")), cd_Told_eveningAt, 1, 1, 1, 0, 0, 2, [932, 144, 930, 931]),
  (⟨"SoupNine$Told", "bookAt", "(I)LSoupNine$Book;"⟩, prog_10_method_6_code, 2, (some (FieldType.object "SoupNine$Book")), cd_Told_bookAt, 1, 1, 1, 0, 0, 2, [1242, 144, 1240, 1241])]
def xmt_5 : List xme := [(⟨"SoupNine$Told", "sheetAt", "(I)LSoupNine$Sheet;"⟩, prog_10_method_7_code, 2, (some (FieldType.object "SoupNine$Sheet")), cd_Told_sheetAt, 1, 1, 1, 0, 0, 2, [1322, 144, 1320, 1321]),
  (⟨"SoupNine", "<init>", "()V"⟩, prog_1_method_1_code, 1, none, cd_So_init, 2, 0, 0, 101, 17831, 3, [168, 143, 167, 0]),
  (⟨"SoupNine", "feed", "(IIIII)I"⟩, prog_1_method_2_code, 6, (some FieldType.int), cd_So_feed, 1, 5, 0, 0, 0, 0, [629, 143, 627, 628]),
  (⟨"SoupNine", "end", "(I)I"⟩, prog_1_method_3_code, 2, (some FieldType.int), cd_So_end, 1, 1, 0, 0, 0, 0, [637, 143, 635, 636]),
  (⟨"SoupNine", "text", "(II)I"⟩, prog_1_method_4_code, 5, (some FieldType.int), cd_So_text, 1, 2, 0, 0, 0, 0, [641, 143, 639, 640]),
  (⟨"SoupNine", "placeFor", "(II)I"⟩, prog_1_method_5_code, 4, (some FieldType.int), cd_So_placeFor, 1, 2, 0, 0, 0, 0, [645, 143, 644, 0]),
  (⟨"SoupNine", "isThing", "(I)Z"⟩, prog_1_method_37_code, 1, (some FieldType.boolean), cd_So_isThing, 0, 1, 0, 0, 0, 0, [822, 143, 821, 0]),
  (⟨"SoupNine", "keepDraft", "(II)V"⟩, prog_1_method_6_code, 3, none, cd_So_keepDraft, 1, 2, 0, 0, 0, 3, [838, 143, 837, 14]),
  (⟨"SoupNine", "forgetAll", "()V"⟩, prog_1_method_7_code, 1, none, cd_So_forgetAll, 1, 0, 0, 0, 0, 3, [867, 143, 866, 15]),
  (⟨"SoupNine", "fault", "(I)I"⟩, prog_1_method_8_code, 2, (some FieldType.int), cd_So_fault, 1, 1, 0, 0, 0, 0, [883, 143, 881, 882]),
  (⟨"SoupNine", "count", "(I)I"⟩, prog_1_method_9_code, 2, (some FieldType.int), cd_So_count, 1, 1, 0, 0, 0, 0, [887, 143, 885, 886]),
  (⟨"SoupNine", "image", "(I)Z"⟩, prog_1_method_10_code, 3, (some FieldType.boolean), cd_So_image, 1, 1, 0, 51, 1159, 0, [891, 143, 889, 890]),
  (⟨"SoupNine", "again", "(I)Z"⟩, prog_1_method_11_code, 3, (some FieldType.boolean), cd_So_again, 1, 1, 0, 0, 0, 0, [904, 143, 902, 903]),
  (⟨"SoupNine", "town", "(II)I"⟩, prog_1_method_12_code, 4, (some FieldType.int), cd_So_town, 1, 2, 0, 0, 0, 0, [908, 143, 906, 907]),
  (⟨"SoupNine", "deed", "(III)I"⟩, prog_1_method_13_code, 5, (some FieldType.int), cd_So_deed, 1, 3, 0, 0, 0, 0, [928, 143, 926, 927]),
  (⟨"SoupNine", "till", "(II)I"⟩, prog_1_method_14_code, 5, (some FieldType.int), cd_So_till, 1, 2, 0, 0, 0, 0, [940, 143, 938, 939]),
  (⟨"SoupNine", "state", "(IIII)I"⟩, prog_1_method_15_code, 7, (some FieldType.int), cd_So_state, 1, 4, 0, 0, 0, 0, [998, 143, 996, 997]),
  (⟨"SoupNine", "drawn", "(IIII)I"⟩, prog_1_method_16_code, 6, (some FieldType.int), cd_So_drawn, 1, 4, 0, 0, 0, 0, [1010, 143, 1008, 1009]),
  (⟨"SoupNine", "give", "(IIII)I"⟩, prog_1_method_17_code, 6, (some FieldType.int), cd_So_give, 1, 4, 0, 0, 0, 0, [1023, 143, 1021, 1022]),
  (⟨"SoupNine", "isSoup", "(I)Z"⟩, prog_1_method_22_code, 1, (some FieldType.boolean), cd_So_isSoup, 0, 1, 0, 0, 0, 0, [1026, 143, 1025, 0]),
  (⟨"SoupNine", "mean", "(IIIZ)J"⟩, prog_1_method_18_code, 6, (some FieldType.long), cd_So_mean, 1, 4, 0, 0, 0, 1, [1057, 143, 1055, 1056]),
  (⟨"SoupNine", "safe", "(I)I"⟩, prog_1_method_19_code, 3, (some FieldType.int), cd_So_safe, 1, 1, 0, 0, 0, 0, [1072, 143, 1070, 1071]),
  (⟨"SoupNine", "tells", "(IIIZ)J"⟩, prog_1_method_20_code, 6, (some FieldType.long), cd_So_tells, 1, 4, 0, 0, 0, 1, [1080, 143, 1078, 1079]),
  (⟨"SoupNine", "lack", "(IIZ)J"⟩, prog_1_method_21_code, 5, (some FieldType.long), cd_So_lack, 1, 3, 0, 0, 0, 1, [1089, 143, 1087, 1088]),
  (⟨"SoupNine", "way", "(II)I"⟩, prog_1_method_23_code, 4, (some FieldType.int), cd_So_way, 1, 2, 0, 0, 0, 0, [1104, 143, 1102, 1103]),
  (⟨"SoupNine", "round", "(II)I"⟩, prog_1_method_24_code, 4, (some FieldType.int), cd_So_round, 1, 2, 0, 0, 0, 0, [1167, 143, 1165, 1166]),
  (⟨"SoupNine", "talks", "(I)I"⟩, prog_1_method_25_code, 3, (some FieldType.int), cd_So_talks, 1, 1, 0, 0, 0, 0, [1171, 143, 1169, 1170]),
  (⟨"SoupNine", "lost", "(II)I"⟩, prog_1_method_26_code, 4, (some FieldType.int), cd_So_lost, 1, 2, 0, 0, 0, 0, [1183, 143, 1181, 1182]),
  (⟨"SoupNine", "depot", "(IZ)I"⟩, prog_1_method_27_code, 8, (some FieldType.int), cd_So_depot, 1, 2, 0, 0, 0, 0, [1192, 143, 1190, 1191]),
  (⟨"SoupNine", "vans", "(IZ)I"⟩, prog_1_method_28_code, 5, (some FieldType.int), cd_So_vans, 1, 2, 0, 0, 0, 0, [1201, 143, 1199, 1200])]
def xmt_6 : List xme := [(⟨"SoupNine", "trail", "(IIZ)I"⟩, prog_1_method_29_code, 5, (some FieldType.int), cd_So_trail, 1, 3, 0, 0, 0, 0, [1215, 143, 1213, 1214]),
  (⟨"SoupNine", "chat", "(IZ)I"⟩, prog_1_method_30_code, 5, (some FieldType.int), cd_So_chat, 1, 2, 0, 0, 0, 0, [1229, 143, 1227, 1228]),
  (⟨"SoupNine", "book", "(III)I"⟩, prog_1_method_31_code, 5, (some FieldType.int), cd_So_book, 1, 3, 0, 0, 0, 0, [1238, 143, 1236, 1237]),
  (⟨"SoupNine", "held", "(II)I"⟩, prog_1_method_32_code, 4, (some FieldType.int), cd_So_held, 1, 2, 0, 0, 0, 0, [1250, 143, 1248, 1249]),
  (⟨"SoupNine", "bring", "(III)I"⟩, prog_1_method_33_code, 5, (some FieldType.int), cd_So_bring, 1, 3, 0, 0, 0, 0, [1281, 143, 1279, 1280]),
  (⟨"SoupNine", "span", "(IIZ)I"⟩, prog_1_method_34_code, 5, (some FieldType.int), cd_So_span, 1, 3, 0, 0, 0, 0, [1290, 143, 1288, 1289]),
  (⟨"SoupNine", "lot", "(IIZ)J"⟩, prog_1_method_35_code, 6, (some FieldType.long), cd_So_lot, 1, 3, 0, 0, 0, 1, [1294, 143, 1292, 1293]),
  (⟨"SoupNine", "like", "(III)I"⟩, prog_1_method_36_code, 6, (some FieldType.int), cd_So_like, 1, 3, 0, 0, 0, 0, [1310, 143, 1308, 1309]),
  (⟨"SoupNine", "list", "(II)I"⟩, prog_1_method_38_code, 4, (some FieldType.int), cd_So_list, 1, 2, 0, 0, 0, 0, [1318, 143, 1316, 1317]),
  (⟨"SoupNine", "shod", "(II)I"⟩, prog_1_method_39_code, 4, (some FieldType.int), cd_So_shod, 1, 2, 0, 0, 0, 0, [1334, 143, 1332, 1333]),
  (⟨"SoupNine", "look", "(II)I"⟩, prog_1_method_40_code, 4, (some FieldType.int), cd_So_look, 1, 2, 0, 0, 0, 0, [1382, 143, 1380, 1381]),
  (⟨"SoupNine", "worry", "(IIIZ)J"⟩, prog_1_method_41_code, 5, (some FieldType.long), cd_So_worry, 1, 4, 0, 0, 0, 1, [1387, 143, 1385, 1386]),
  (⟨"SoupNine", "isOfTen", "(I)Z"⟩, prog_1_method_49_code, 1, (some FieldType.boolean), cd_So_isOfTen, 0, 1, 0, 0, 0, 0, [1390, 143, 1389, 0]),
  (⟨"SoupNine", "isOfHundred", "(I)Z"⟩, prog_1_method_50_code, 1, (some FieldType.boolean), cd_So_isOfHundred, 0, 1, 0, 0, 0, 0, [1393, 143, 1392, 0]),
  (⟨"SoupNine", "unwell", "(II)J"⟩, prog_1_method_43_code, 2, (some FieldType.long), cd_So_unwell, 0, 2, 0, 0, 0, 1, [1396, 143, 1395, 0]),
  (⟨"SoupNine", "wellButAway", "(III)J"⟩, prog_1_method_44_code, 3, (some FieldType.long), cd_So_wellButAway, 0, 3, 0, 0, 0, 1, [1402, 143, 1401, 0]),
  (⟨"SoupNine", "when", "(III)I"⟩, prog_1_method_42_code, 5, (some FieldType.int), cd_So_when, 1, 3, 0, 0, 0, 0, [1410, 143, 1408, 1409]),
  (⟨"SoupNine", "sick", "(IIIIIZ)J"⟩, prog_1_method_45_code, 7, (some FieldType.long), cd_So_sick, 1, 6, 0, 0, 0, 1, [1419, 143, 1417, 1418]),
  (⟨"SoupNine", "areSigns", "(IIII)Z"⟩, prog_1_method_47_code, 4, (some FieldType.boolean), cd_So_areSigns, 0, 4, 0, 0, 0, 0, [1422, 143, 1421, 0]),
  (⟨"SoupNine", "shown", "(III)J"⟩, prog_1_method_48_code, 3, (some FieldType.long), cd_So_shown, 0, 3, 0, 0, 0, 1, [1425, 143, 1424, 0]),
  (⟨"SoupNine", "call", "(IIIII)I"⟩, prog_1_method_46_code, 7, (some FieldType.int), cd_So_call, 1, 5, 0, 0, 0, 0, [1429, 143, 1427, 1428]),
  (⟨"SoupNine", "shared", "(IIIII)I"⟩, prog_1_method_51_code, 8, (some FieldType.int), cd_So_shared, 1, 5, 0, 0, 0, 0, [1433, 143, 1431, 1432]),
  (⟨"SoupNine", "areDays", "(II)Z"⟩, prog_1_method_52_code, 2, (some FieldType.boolean), cd_So_areDays, 0, 2, 0, 0, 0, 0, [1436, 143, 1435, 0]),
  (⟨"SoupNine", "vanDays", "(IIII)I"⟩, prog_1_method_53_code, 8, (some FieldType.int), cd_So_vanDays, 0, 4, 0, 0, 0, 0, [1439, 143, 1438, 0]),
  (⟨"SoupNine", "lowestBits", "(II)I"⟩, prog_1_method_54_code, 4, (some FieldType.int), cd_So_lowestBits, 0, 2, 0, 0, 0, 0, [1444, 143, 1443, 0]),
  (⟨"SoupNine", "pair", "(III)I"⟩, prog_1_method_55_code, 6, (some FieldType.int), cd_So_pair, 1, 3, 0, 0, 0, 0, [1448, 143, 1446, 1447]),
  (⟨"SoupNine", "alone", "(II)I"⟩, prog_1_method_56_code, 3, (some FieldType.int), cd_So_alone, 0, 2, 0, 0, 0, 0, [1451, 143, 1450, 0]),
  (⟨"SoupNineModel", "<init>", "()V"⟩, prog_14_method_1_code, 1, none, cd_Mo_init, 2, 0, 11, 26, 40702, 3, [1459, 154, 1458, 0]),
  (⟨"SoupNineModel", "feed", "(IIIII)I"⟩, prog_14_method_13_code, 6, (some FieldType.int), cd_Mo_feed, 1, 5, 11, 0, 0, 0, [1637, 154, 1635, 1636]),
  (⟨"SoupNineModel", "four", "(I)V"⟩, prog_14_method_14_code, 3, none, cd_Mo_four, 1, 1, 11, 0, 0, 3, [1641, 154, 1640, 55])]
def xmt_7 : List xme := [(⟨"SoupNineModel", "end", "(I)I"⟩, prog_14_method_15_code, 2, (some FieldType.int), cd_Mo_end, 1, 1, 11, 0, 0, 0, [1645, 154, 1643, 1644]),
  (⟨"SoupNineModel", "in", "(III)Z"⟩, prog_14_method_3_code, 3, (some FieldType.boolean), cd_Mo_in, 0, 3, 0, 0, 0, 0, [1648, 154, 1647, 0]),
  (⟨"SoupNineModel", "text", "(II)I"⟩, prog_14_method_45_code, 4, (some FieldType.int), cd_Mo_text, 1, 2, 11, 0, 0, 0, [1652, 154, 1650, 1651]),
  (⟨"SoupNineModel", "is", "(II)Z"⟩, prog_14_method_12_code, 3, (some FieldType.boolean), cd_Mo_is, 1, 2, 11, 0, 0, 0, [1656, 154, 1655, 56]),
  (⟨"SoupNineModel", "readText", "(I)Z"⟩, prog_14_method_42_code, 3, (some FieldType.boolean), cd_Mo_readText, 1, 1, 11, 0, 0, 0, [1660, 154, 1659, 57]),
  (⟨"SoupNineModel", "blank", "(I)V"⟩, prog_14_method_41_code, 3, none, cd_Mo_blank, 1, 1, 11, 0, 0, 3, [1664, 154, 1663, 58]),
  (⟨"SoupNineModel", "token", "()V"⟩, prog_14_method_17_code, 3, none, cd_Mo_token, 1, 0, 11, 0, 0, 3, [1668, 154, 1667, 59]),
  (⟨"SoupNineModel", "see", "()I"⟩, prog_14_method_16_code, 1, (some FieldType.int), cd_Mo_see, 1, 0, 11, 0, 0, 0, [1672, 154, 1671, 60]),
  (⟨"SoupNineModel", "lines", "(I)Z"⟩, prog_14_method_40_code, 4, (some FieldType.boolean), cd_Mo_lines, 1, 1, 11, 0, 0, 0, [1676, 154, 1675, 61]),
  (⟨"SoupNineModel", "lineOf", "(IJI)Z"⟩, prog_14_method_39_code, 5, (some FieldType.boolean), cd_Mo_lineOf, 1, 3, 11, 0, 0, 0, [1680, 154, 1679, 62]),
  (⟨"SoupNineModel", "townLine", "(JI)Z"⟩, prog_14_method_28_code, 5, (some FieldType.boolean), cd_Mo_townLine, 1, 2, 11, 0, 0, 0, [1684, 154, 1683, 63]),
  (⟨"SoupNineModel", "kindBy", "(J)I"⟩, prog_14_method_24_code, 2, (some FieldType.int), cd_Mo_kindBy, 0, 1, 0, 0, 0, 0, [1687, 154, 1686, 0]),
  (⟨"SoupNineModel", "fails", "()Z"⟩, prog_14_method_18_code, 1, (some FieldType.boolean), cd_Mo_fails, 1, 0, 11, 0, 0, 0, [1701, 154, 1700, 64]),
  (⟨"SoupNineModel", "full", "(III)V"⟩, prog_14_method_22_code, 4, none, cd_Mo_full, 1, 3, 11, 0, 0, 3, [1705, 154, 1704, 65]),
  (⟨"SoupNineModel", "later", "(II)V"⟩, prog_14_method_19_code, 3, none, cd_Mo_later, 1, 2, 11, 0, 0, 3, [1709, 154, 1708, 66]),
  (⟨"SoupNineModel", "stopLine", "(I)Z"⟩, prog_14_method_25_code, 3, (some FieldType.boolean), cd_Mo_stopLine, 1, 1, 11, 0, 0, 0, [1713, 154, 1712, 67]),
  (⟨"SoupNineModel", "take", "(III)Z"⟩, prog_14_method_21_code, 4, (some FieldType.boolean), cd_Mo_take, 1, 3, 11, 0, 0, 0, [1717, 154, 1716, 68]),
  (⟨"SoupNineModel", "takeBut", "(IIII)Z"⟩, prog_14_method_20_code, 5, (some FieldType.boolean), cd_Mo_takeBut, 1, 4, 11, 0, 0, 0, [1721, 154, 1720, 69]),
  (⟨"SoupNineModel", "followLine", "()Z"⟩, prog_14_method_26_code, 1, (some FieldType.boolean), cd_Mo_followLine, 1, 0, 11, 0, 0, 0, [1725, 154, 1724, 70]),
  (⟨"SoupNineModel", "greater", "(II)I"⟩, prog_14_method_5_code, 2, (some FieldType.int), cd_Mo_greater, 0, 2, 0, 0, 0, 0, [1728, 154, 1727, 0]),
  (⟨"SoupNineModel", "homeLine", "()Z"⟩, prog_14_method_27_code, 1, (some FieldType.boolean), cd_Mo_homeLine, 1, 0, 11, 0, 0, 0, [1732, 154, 1731, 71]),
  (⟨"SoupNineModel", "plainLine", "(III)Z"⟩, prog_14_method_23_code, 4, (some FieldType.boolean), cd_Mo_plainLine, 1, 3, 11, 0, 0, 0, [1736, 154, 1735, 72]),
  (⟨"SoupNineModel", "dayLine", "(JI)Z"⟩, prog_14_method_31_code, 5, (some FieldType.boolean), cd_Mo_dayLine, 1, 2, 11, 0, 0, 0, [1740, 154, 1739, 73]),
  (⟨"SoupNineModel", "deedBy", "(J)I"⟩, prog_14_method_30_code, 2, (some FieldType.int), cd_Mo_deedBy, 0, 1, 0, 0, 0, 0, [1743, 154, 1742, 0]),
  (⟨"SoupNineModel", "keep", "(II)V"⟩, prog_14_method_29_code, 5, none, cd_Mo_keep, 1, 2, 11, 0, 0, 3, [1751, 154, 1750, 74]),
  (⟨"SoupNineModel", "bookLine", "(JI)Z"⟩, prog_14_method_34_code, 5, (some FieldType.boolean), cd_Mo_bookLine, 1, 2, 11, 0, 0, 0, [1755, 154, 1754, 75]),
  (⟨"SoupNineModel", "askedLine", "(I)Z"⟩, prog_14_method_33_code, 3, (some FieldType.boolean), cd_Mo_askedLine, 1, 1, 11, 0, 0, 0, [1761, 154, 1760, 76]),
  (⟨"SoupNineModel", "thingBy", "(J)I"⟩, prog_14_method_32_code, 2, (some FieldType.int), cd_Mo_thingBy, 0, 1, 0, 0, 0, 0, [1764, 154, 1763, 0]),
  (⟨"SoupNineModel", "listLine", "(JI)Z"⟩, prog_14_method_38_code, 4, (some FieldType.boolean), cd_Mo_listLine, 1, 2, 11, 0, 0, 0, [1771, 154, 1770, 77]),
  (⟨"SoupNineModel", "shoeLine", "()Z"⟩, prog_14_method_35_code, 1, (some FieldType.boolean), cd_Mo_shoeLine, 1, 0, 11, 0, 0, 0, [1778, 154, 1777, 78])]
def xmt_8 : List xme := [(⟨"SoupNineModel", "footLine", "()Z"⟩, prog_14_method_36_code, 1, (some FieldType.boolean), cd_Mo_footLine, 1, 0, 11, 0, 0, 0, [1782, 154, 1781, 79]),
  (⟨"SoupNineModel", "hideLine", "()Z"⟩, prog_14_method_37_code, 1, (some FieldType.boolean), cd_Mo_hideLine, 1, 0, 11, 0, 0, 0, [1786, 154, 1785, 80]),
  (⟨"SoupNineModel", "storeAll", "(II)V"⟩, prog_14_method_44_code, 3, none, cd_Mo_storeAll, 1, 2, 11, 0, 0, 3, [1790, 154, 1789, 81]),
  (⟨"SoupNineModel", "store", "([III)V"⟩, prog_14_method_43_code, 5, none, cd_Mo_store, 1, 3, 11, 0, 0, 3, [1794, 154, 1793, 82]),
  (⟨"SoupNineModel", "fault", "(I)I"⟩, prog_14_method_46_code, 2, (some FieldType.int), cd_Mo_fault, 1, 1, 11, 0, 0, 0, [1798, 154, 1796, 1797]),
  (⟨"SoupNineModel", "town", "(II)I"⟩, prog_14_method_50_code, 3, (some FieldType.int), cd_Mo_town, 1, 2, 11, 0, 0, 0, [1802, 154, 1800, 1801]),
  (⟨"SoupNineModel", "hand", "(I)Z"⟩, prog_14_method_48_code, 2, (some FieldType.boolean), cd_Mo_hand, 1, 1, 11, 0, 0, 0, [1806, 154, 1805, 83]),
  (⟨"SoupNineModel", "of", "(I)I"⟩, prog_14_method_47_code, 2, (some FieldType.int), cd_Mo_of, 1, 1, 11, 0, 0, 0, [1810, 154, 1809, 84]),
  (⟨"SoupNineModel", "isStop", "(I)Z"⟩, prog_14_method_49_code, 2, (some FieldType.boolean), cd_Mo_isStop, 1, 1, 11, 0, 0, 0, [1814, 154, 1813, 85]),
  (⟨"SoupNineModel", "deed", "(III)I"⟩, prog_14_method_54_code, 4, (some FieldType.int), cd_Mo_deed, 1, 3, 11, 0, 0, 0, [1818, 154, 1816, 1817]),
  (⟨"SoupNineModel", "hasEvening", "(I)Z"⟩, prog_14_method_53_code, 2, (some FieldType.boolean), cd_Mo_hasEvening, 1, 1, 11, 0, 0, 0, [1822, 154, 1821, 86]),
  (⟨"SoupNineModel", "deeds", "()I"⟩, prog_14_method_51_code, 1, (some FieldType.int), cd_Mo_deeds, 1, 0, 11, 0, 0, 0, [1826, 154, 1825, 87]),
  (⟨"SoupNineModel", "deedOf", "(II)I"⟩, prog_14_method_52_code, 3, (some FieldType.int), cd_Mo_deedOf, 1, 2, 11, 0, 0, 0, [1830, 154, 1829, 88]),
  (⟨"SoupNineModel", "till", "(II)I"⟩, prog_14_method_68_code, 3, (some FieldType.int), cd_Mo_till, 1, 2, 11, 0, 0, 0, [1834, 154, 1832, 1833]),
  (⟨"SoupNineModel", "layAll", "(II)Z"⟩, prog_14_method_67_code, 3, (some FieldType.boolean), cd_Mo_layAll, 1, 2, 11, 0, 0, 0, [1838, 154, 1837, 89]),
  (⟨"SoupNineModel", "play", "(I)I"⟩, prog_14_method_66_code, 3, (some FieldType.int), cd_Mo_play, 1, 1, 11, 0, 0, 0, [1842, 154, 1841, 90]),
  (⟨"SoupNineModel", "begin", "()V"⟩, prog_14_method_60_code, 2, none, cd_Mo_begin, 1, 0, 11, 0, 0, 3, [1846, 154, 1845, 91]),
  (⟨"SoupNineModel", "middle", "(I)I"⟩, prog_14_method_55_code, 3, (some FieldType.int), cd_Mo_middle, 1, 1, 11, 0, 0, 0, [1850, 154, 1849, 92]),
  (⟨"SoupNineModel", "does", "(II)Z"⟩, prog_14_method_65_code, 3, (some FieldType.boolean), cd_Mo_does, 1, 2, 11, 0, 0, 0, [1854, 154, 1853, 93]),
  (⟨"SoupNineModel", "drivesTo", "(I)Z"⟩, prog_14_method_62_code, 2, (some FieldType.boolean), cd_Mo_drivesTo, 1, 1, 11, 0, 0, 0, [1858, 154, 1857, 94]),
  (⟨"SoupNineModel", "drives", "(II)I"⟩, prog_14_method_58_code, 3, (some FieldType.int), cd_Mo_drives, 1, 2, 11, 0, 0, 0, [1862, 154, 1861, 95]),
  (⟨"SoupNineModel", "placeX", "(I)I"⟩, prog_14_method_56_code, 2, (some FieldType.int), cd_Mo_placeX, 1, 1, 11, 0, 0, 0, [1866, 154, 1865, 96]),
  (⟨"SoupNineModel", "apart", "(II)I"⟩, prog_14_method_7_code, 2, (some FieldType.int), cd_Mo_apart, 0, 2, 0, 0, 0, 0, [1869, 154, 1868, 0]),
  (⟨"SoupNineModel", "placeY", "(I)I"⟩, prog_14_method_57_code, 2, (some FieldType.int), cd_Mo_placeY, 1, 1, 11, 0, 0, 0, [1873, 154, 1872, 97]),
  (⟨"SoupNineModel", "takes", "(I)Z"⟩, prog_14_method_61_code, 3, (some FieldType.boolean), cd_Mo_takes, 1, 1, 11, 0, 0, 0, [1877, 154, 1876, 98]),
  (⟨"SoupNineModel", "ladles", "(I)Z"⟩, prog_14_method_63_code, 6, (some FieldType.boolean), cd_Mo_ladles, 1, 1, 11, 0, 0, 0, [1881, 154, 1880, 99]),
  (⟨"SoupNineModel", "feeds", "(I)I"⟩, prog_14_method_59_code, 1, (some FieldType.int), cd_Mo_feeds, 0, 1, 0, 0, 0, 0, [1884, 154, 1883, 0]),
  (⟨"SoupNineModel", "lesser", "(II)I"⟩, prog_14_method_6_code, 2, (some FieldType.int), cd_Mo_lesser, 0, 2, 0, 0, 0, 0, [1887, 154, 1886, 0]),
  (⟨"SoupNineModel", "chats", "()Z"⟩, prog_14_method_64_code, 1, (some FieldType.boolean), cd_Mo_chats, 1, 0, 11, 0, 0, 0, [1891, 154, 1890, 100]),
  (⟨"SoupNineModel", "state", "(IIII)I"⟩, prog_14_method_71_code, 5, (some FieldType.int), cd_Mo_state, 1, 4, 11, 0, 0, 0, [1895, 154, 1893, 1894])]
def xmt_9 : List xme := [(⟨"SoupNineModel", "ofState", "(I)I"⟩, prog_14_method_70_code, 3, (some FieldType.int), cd_Mo_ofState, 1, 1, 11, 0, 0, 0, [1899, 154, 1898, 101]),
  (⟨"SoupNineModel", "ofEvening", "(I)I"⟩, prog_14_method_69_code, 2, (some FieldType.int), cd_Mo_ofEvening, 1, 1, 11, 0, 0, 0, [1903, 154, 1902, 102]),
  (⟨"SoupNineModel", "give", "(IIII)I"⟩, prog_14_method_77_code, 5, (some FieldType.int), cd_Mo_give, 1, 4, 11, 0, 0, 0, [1907, 154, 1905, 1906]),
  (⟨"SoupNineModel", "mayCome", "(II)Z"⟩, prog_14_method_76_code, 3, (some FieldType.boolean), cd_Mo_mayCome, 1, 2, 11, 0, 0, 0, [1911, 154, 1910, 103]),
  (⟨"SoupNineModel", "findCounts", "()V"⟩, prog_14_method_75_code, 6, none, cd_Mo_findCounts, 1, 0, 11, 0, 0, 3, [1915, 154, 1914, 104]),
  (⟨"SoupNineModel", "gives", "(III)I"⟩, prog_14_method_74_code, 6, (some FieldType.int), cd_Mo_gives, 1, 3, 11, 0, 0, 0, [1919, 154, 1918, 105]),
  (⟨"SoupNineModel", "countsBy", "(IIII)J"⟩, prog_14_method_73_code, 5, (some FieldType.long), cd_Mo_countsBy, 1, 4, 11, 0, 0, 1, [1923, 154, 1922, 106]),
  (⟨"SoupNineModel", "weight", "(I)I"⟩, prog_14_method_72_code, 2, (some FieldType.int), cd_Mo_weight, 1, 1, 11, 0, 0, 0, [1927, 154, 1926, 107]),
  (⟨"SoupNineModel", "mean", "(IIIZ)J"⟩, prog_14_method_79_code, 5, (some FieldType.long), cd_Mo_mean, 1, 4, 11, 0, 0, 1, [1931, 154, 1929, 1930]),
  (⟨"SoupNineModel", "part", "(JJZ)J"⟩, prog_14_method_78_code, 5, (some FieldType.long), cd_Mo_part, 0, 3, 0, 0, 0, 1, [1935, 154, 1934, 0]),
  (⟨"SoupNineModel", "common", "(JJ)J"⟩, prog_14_method_9_code, 10, (some FieldType.long), cd_Mo_common, 0, 2, 0, 0, 0, 1, [1938, 154, 1937, 0]),
  (⟨"SoupNineModel", "safe", "(I)I"⟩, prog_14_method_80_code, 4, (some FieldType.int), cd_Mo_safe, 1, 1, 11, 0, 0, 0, [1942, 154, 1940, 1941]),
  (⟨"SoupNineModel", "way", "(II)I"⟩, prog_14_method_88_code, 3, (some FieldType.int), cd_Mo_way, 1, 2, 11, 0, 0, 0, [1946, 154, 1944, 1945]),
  (⟨"SoupNineModel", "findWay", "(I)V"⟩, prog_14_method_86_code, 8, none, cd_Mo_findWay, 1, 1, 11, 0, 0, 3, [1950, 154, 1949, 108]),
  (⟨"SoupNineModel", "findOn", "(III)V"⟩, prog_14_method_84_code, 7, none, cd_Mo_findOn, 1, 3, 11, 0, 0, 3, [1954, 154, 1953, 109]),
  (⟨"SoupNineModel", "peopleOf", "(I)I"⟩, prog_14_method_82_code, 4, (some FieldType.int), cd_Mo_peopleOf, 1, 1, 11, 0, 0, 0, [1958, 154, 1957, 110]),
  (⟨"SoupNineModel", "has", "(II)Z"⟩, prog_14_method_4_code, 2, (some FieldType.boolean), cd_Mo_has, 0, 2, 0, 0, 0, 0, [1961, 154, 1960, 0]),
  (⟨"SoupNineModel", "goOn", "(III)V"⟩, prog_14_method_85_code, 8, none, cd_Mo_goOn, 1, 3, 11, 0, 0, 3, [1966, 154, 1965, 111]),
  (⟨"SoupNineModel", "isSought", "(I)Z"⟩, prog_14_method_81_code, 2, (some FieldType.boolean), cd_Mo_isSought, 1, 1, 11, 0, 0, 0, [1970, 154, 1969, 112]),
  (⟨"SoupNineModel", "doneThere", "(III)I"⟩, prog_14_method_83_code, 5, (some FieldType.int), cd_Mo_doneThere, 1, 3, 11, 0, 0, 0, [1974, 154, 1973, 113]),
  (⟨"SoupNineModel", "leads", "(IIIIII)Z"⟩, prog_14_method_87_code, 8, (some FieldType.boolean), cd_Mo_leads, 1, 6, 11, 0, 0, 0, [1978, 154, 1977, 114]),
  (⟨"SoupNineModel", "round", "(II)I"⟩, prog_14_method_91_code, 7, (some FieldType.int), cd_Mo_round, 1, 2, 11, 0, 0, 0, [1982, 154, 1980, 1981]),
  (⟨"SoupNineModel", "findRounds", "()V"⟩, prog_14_method_90_code, 5, none, cd_Mo_findRounds, 1, 0, 11, 0, 0, 3, [1986, 154, 1985, 115]),
  (⟨"SoupNineModel", "cell", "(II)I"⟩, prog_14_method_89_code, 2, (some FieldType.int), cd_Mo_cell, 0, 2, 0, 0, 0, 0, [1989, 154, 1988, 0]),
  (⟨"SoupNineModel", "talks", "(I)I"⟩, prog_14_method_93_code, 3, (some FieldType.int), cd_Mo_talks, 1, 1, 11, 0, 0, 0, [1993, 154, 1991, 1992]),
  (⟨"SoupNineModel", "areWarm", "(II)Z"⟩, prog_14_method_92_code, 6, (some FieldType.boolean), cd_Mo_areWarm, 1, 2, 11, 0, 0, 0, [1997, 154, 1996, 116]),
  (⟨"SoupNineModel", "lost", "(II)I"⟩, prog_14_method_94_code, 4, (some FieldType.int), cd_Mo_lost, 1, 2, 11, 0, 0, 0, [2001, 154, 1999, 2000]),
  (⟨"SoupNineModel", "book", "(III)I"⟩, prog_14_method_98_code, 4, (some FieldType.int), cd_Mo_book, 1, 3, 11, 0, 0, 0, [2005, 154, 2003, 2004]),
  (⟨"SoupNineModel", "hasBook", "(I)Z"⟩, prog_14_method_97_code, 2, (some FieldType.boolean), cd_Mo_hasBook, 1, 1, 11, 0, 0, 0, [2009, 154, 2008, 117]),
  (⟨"SoupNineModel", "nights", "()I"⟩, prog_14_method_95_code, 1, (some FieldType.int), cd_Mo_nights, 1, 0, 11, 0, 0, 0, [2013, 154, 2012, 118])]
def xmt_10 : List xme := [(⟨"SoupNineModel", "nightOf", "(II)I"⟩, prog_14_method_96_code, 3, (some FieldType.int), cd_Mo_nightOf, 1, 2, 11, 0, 0, 0, [2017, 154, 2016, 119]),
  (⟨"SoupNineModel", "held", "(II)I"⟩, prog_14_method_103_code, 5, (some FieldType.int), cd_Mo_held, 1, 2, 11, 0, 0, 0, [2021, 154, 2019, 2020]),
  (⟨"SoupNineModel", "heldBy", "(Z)J"⟩, prog_14_method_102_code, 8, (some FieldType.long), cd_Mo_heldBy, 1, 1, 11, 0, 0, 1, [2025, 154, 2024, 120]),
  (⟨"SoupNineModel", "doorway", "()I"⟩, prog_14_method_101_code, 5, (some FieldType.int), cd_Mo_doorway, 1, 0, 11, 0, 0, 0, [2029, 154, 2028, 121]),
  (⟨"SoupNineModel", "moreFrom", "(I)I"⟩, prog_14_method_100_code, 2, (some FieldType.int), cd_Mo_moreFrom, 1, 1, 11, 0, 0, 0, [2033, 154, 2032, 122]),
  (⟨"SoupNineModel", "seenFrom", "(II)I"⟩, prog_14_method_99_code, 5, (some FieldType.int), cd_Mo_seenFrom, 1, 2, 11, 0, 0, 0, [2037, 154, 2036, 123]),
  (⟨"SoupNineModel", "bring", "(III)I"⟩, prog_14_method_104_code, 5, (some FieldType.int), cd_Mo_bring, 1, 3, 11, 0, 0, 0, [2041, 154, 2039, 2040]),
  (⟨"SoupNineModel", "enoughOn", "(II)I"⟩, prog_14_method_105_code, 5, (some FieldType.int), cd_Mo_enoughOn, 1, 2, 11, 0, 0, 0, [2045, 154, 2044, 124]),
  (⟨"SoupNineModel", "span", "(IIZ)I"⟩, prog_14_method_106_code, 7, (some FieldType.int), cd_Mo_span, 1, 3, 11, 0, 0, 0, [2049, 154, 2047, 2048]),
  (⟨"SoupNineModel", "list", "(II)I"⟩, prog_14_method_109_code, 4, (some FieldType.int), cd_Mo_list, 1, 2, 11, 0, 0, 0, [2053, 154, 2051, 2052]),
  (⟨"SoupNineModel", "hasList", "(I)Z"⟩, prog_14_method_108_code, 2, (some FieldType.boolean), cd_Mo_hasList, 1, 1, 11, 0, 0, 0, [2057, 154, 2056, 125]),
  (⟨"SoupNineModel", "listOf", "(I)I"⟩, prog_14_method_107_code, 2, (some FieldType.int), cd_Mo_listOf, 1, 1, 11, 0, 0, 0, [2061, 154, 2060, 126]),
  (⟨"SoupNineModel", "shod", "(II)I"⟩, prog_14_method_113_code, 3, (some FieldType.int), cd_Mo_shod, 1, 2, 11, 0, 0, 0, [2065, 154, 2063, 2064]),
  (⟨"SoupNineModel", "findNeeds", "()V"⟩, prog_14_method_111_code, 5, none, cd_Mo_findNeeds, 1, 0, 11, 0, 0, 3, [2069, 154, 2068, 127]),
  (⟨"SoupNineModel", "isFit", "(II)Z"⟩, prog_14_method_110_code, 3, (some FieldType.boolean), cd_Mo_isFit, 1, 2, 11, 0, 0, 0, [2073, 154, 2072, 128]),
  (⟨"SoupNineModel", "shoeOf", "(I)I"⟩, prog_14_method_112_code, 7, (some FieldType.int), cd_Mo_shoeOf, 1, 1, 11, 0, 0, 0, [2077, 154, 2076, 129]),
  (⟨"SoupNineModel", "look", "(II)I"⟩, prog_14_method_121_code, 4, (some FieldType.int), cd_Mo_look, 1, 2, 11, 0, 0, 0, [2081, 154, 2079, 2080]),
  (⟨"SoupNineModel", "hides", "()I"⟩, prog_14_method_114_code, 1, (some FieldType.int), cd_Mo_hides, 1, 0, 11, 0, 0, 0, [2085, 154, 2084, 130]),
  (⟨"SoupNineModel", "odds", "(I)I"⟩, prog_14_method_117_code, 4, (some FieldType.int), cd_Mo_odds, 1, 1, 11, 0, 0, 0, [2089, 154, 2088, 131]),
  (⟨"SoupNineModel", "findLooks", "()V"⟩, prog_14_method_119_code, 5, none, cd_Mo_findLooks, 1, 0, 11, 0, 0, 3, [2093, 154, 2092, 132]),
  (⟨"SoupNineModel", "looksOn", "(III)I"⟩, prog_14_method_118_code, 5, (some FieldType.int), cd_Mo_looksOn, 1, 3, 11, 0, 0, 0, [2097, 154, 2096, 133]),
  (⟨"SoupNineModel", "hideX", "(I)I"⟩, prog_14_method_115_code, 2, (some FieldType.int), cd_Mo_hideX, 1, 1, 11, 0, 0, 0, [2101, 154, 2100, 134]),
  (⟨"SoupNineModel", "hideY", "(I)I"⟩, prog_14_method_116_code, 2, (some FieldType.int), cd_Mo_hideY, 1, 1, 11, 0, 0, 0, [2105, 154, 2104, 135]),
  (⟨"SoupNineModel", "hideAt", "(I)I"⟩, prog_14_method_120_code, 6, (some FieldType.int), cd_Mo_hideAt, 1, 1, 11, 0, 0, 0, [2109, 154, 2108, 136]),
  (⟨"SoupNineModel", "worry", "(IIIZ)J"⟩, prog_14_method_126_code, 7, (some FieldType.long), cd_Mo_worry, 1, 4, 11, 0, 0, 1, [2113, 154, 2111, 2112]),
  (⟨"SoupNineModel", "areOdds", "(II)Z"⟩, prog_14_method_125_code, 2, (some FieldType.boolean), cd_Mo_areOdds, 0, 2, 0, 0, 0, 0, [2116, 154, 2115, 0]),
  (⟨"SoupNineModel", "stays", "(III)J"⟩, prog_14_method_124_code, 3, (some FieldType.long), cd_Mo_stays, 0, 3, 0, 0, 0, 1, [2119, 154, 2118, 0]),
  (⟨"SoupNineModel", "ill", "(II)J"⟩, prog_14_method_123_code, 2, (some FieldType.long), cd_Mo_ill, 0, 2, 0, 0, 0, 1, [2122, 154, 2121, 0]),
  (⟨"SoupNineModel", "power", "(JI)J"⟩, prog_14_method_122_code, 6, (some FieldType.long), cd_Mo_power, 0, 2, 0, 0, 0, 1, [2126, 154, 2125, 0]),
  (⟨"SoupNineModel", "when", "(III)I"⟩, prog_14_method_127_code, 7, (some FieldType.int), cd_Mo_when, 1, 3, 11, 0, 0, 0, [2130, 154, 2128, 2129])]
def xmt_11 : List xme := [(⟨"SoupNineModel", "shared", "(IIIII)I"⟩, prog_14_method_128_code, 12, (some FieldType.int), cd_Mo_shared, 1, 5, 11, 0, 0, 0, [2134, 154, 2132, 2133]),
  (⟨"SoupNineModel", "ones", "(I)I"⟩, prog_14_method_8_code, 3, (some FieldType.int), cd_Mo_ones, 0, 1, 0, 0, 0, 0, [2137, 154, 2136, 0]),
  (⟨"SoupNineModel", "pair", "(III)I"⟩, prog_14_method_129_code, 7, (some FieldType.int), cd_Mo_pair, 1, 3, 11, 0, 0, 0, [2141, 154, 2139, 2140]),
  (⟨"SoupNineModel", "drawn", "(IIII)I"⟩, prog_14_method_132_code, 6, (some FieldType.int), cd_Mo_drawn, 1, 4, 11, 0, 0, 0, [2145, 154, 2143, 2144]),
  (⟨"SoupNineModel", "drawDeed", "()V"⟩, prog_14_method_131_code, 2, none, cd_Mo_drawDeed, 1, 0, 11, 0, 0, 3, [2149, 154, 2148, 137]),
  (⟨"SoupNineModel", "draw", "(I)I"⟩, prog_14_method_130_code, 2, (some FieldType.int), cd_Mo_draw, 1, 1, 11, 0, 0, 0, [2153, 154, 2152, 138]),
  (⟨"SoupNineModel", "tells", "(IIIZ)J"⟩, prog_14_method_133_code, 5, (some FieldType.long), cd_Mo_tells, 1, 4, 11, 0, 0, 1, [2158, 154, 2156, 2157]),
  (⟨"SoupNineModel", "depot", "(IZ)I"⟩, prog_14_method_135_code, 5, (some FieldType.int), cd_Mo_depot, 1, 2, 11, 0, 0, 0, [2162, 154, 2160, 2161]),
  (⟨"SoupNineModel", "drivenFrom", "(II)I"⟩, prog_14_method_134_code, 5, (some FieldType.int), cd_Mo_drivenFrom, 1, 2, 11, 0, 0, 0, [2166, 154, 2165, 139]),
  (⟨"SoupNineModel", "vans", "(IZ)I"⟩, prog_14_method_136_code, 8, (some FieldType.int), cd_Mo_vans, 1, 2, 11, 0, 0, 0, [2170, 154, 2168, 2169]),
  (⟨"SoupNineModel", "trail", "(IIZ)I"⟩, prog_14_method_137_code, 6, (some FieldType.int), cd_Mo_trail, 1, 3, 11, 0, 0, 0, [2174, 154, 2172, 2173]),
  (⟨"SoupNineModel", "chat", "(IZ)I"⟩, prog_14_method_138_code, 7, (some FieldType.int), cd_Mo_chat, 1, 2, 11, 0, 0, 0, [2178, 154, 2176, 2177]),
  (⟨"SoupNineModel", "lack", "(IIZ)J"⟩, prog_14_method_139_code, 11, (some FieldType.long), cd_Mo_lack, 1, 3, 11, 0, 0, 1, [2182, 154, 2180, 2181]),
  (⟨"SoupNineModel", "lot", "(IIZ)J"⟩, prog_14_method_141_code, 11, (some FieldType.long), cd_Mo_lot, 1, 3, 11, 0, 0, 1, [2186, 154, 2184, 2185]),
  (⟨"SoupNineModel", "picks", "(II)V"⟩, prog_14_method_140_code, 5, none, cd_Mo_picks, 1, 2, 11, 0, 0, 3, [2190, 154, 2189, 140]),
  (⟨"SoupNineModel", "like", "(III)I"⟩, prog_14_method_142_code, 7, (some FieldType.int), cd_Mo_like, 1, 3, 11, 0, 0, 0, [2194, 154, 2192, 2193]),
  (⟨"SoupNineModel", "sick", "(IIIIIZ)J"⟩, prog_14_method_146_code, 7, (some FieldType.long), cd_Mo_sick, 1, 6, 11, 0, 0, 1, [2198, 154, 2196, 2197]),
  (⟨"SoupNineModel", "areSigns", "(IIII)Z"⟩, prog_14_method_144_code, 4, (some FieldType.boolean), cd_Mo_areSigns, 0, 4, 0, 0, 0, 0, [2201, 154, 2200, 0]),
  (⟨"SoupNineModel", "shows", "(IIII)J"⟩, prog_14_method_143_code, 4, (some FieldType.long), cd_Mo_shows, 0, 4, 0, 0, 0, 1, [2204, 154, 2203, 0]),
  (⟨"SoupNineModel", "allShow", "(IIIII)J"⟩, prog_14_method_145_code, 7, (some FieldType.long), cd_Mo_allShow, 0, 5, 0, 0, 0, 1, [2207, 154, 2206, 0]),
  (⟨"SoupNineModel", "call", "(IIIII)I"⟩, prog_14_method_147_code, 7, (some FieldType.int), cd_Mo_call, 1, 5, 11, 0, 0, 0, [2211, 154, 2209, 2210]),
  (⟨"SoupNineModel", "count", "(I)I"⟩, prog_14_method_148_code, 2, (some FieldType.int), cd_Mo_count, 1, 1, 11, 0, 0, 0, [2215, 154, 2213, 2214]),
  (⟨"SoupNineModel", "image", "(I)Z"⟩, prog_14_method_149_code, 2, (some FieldType.boolean), cd_Mo_image, 1, 1, 11, 0, 0, 0, [2219, 154, 2217, 2218]),
  (⟨"SoupNineModel", "copyAll", "(II)V"⟩, prog_14_method_11_code, 4, none, cd_Mo_copyAll, 1, 2, 11, 0, 0, 3, [2223, 154, 2222, 141]),
  (⟨"SoupNineModel", "copyRow", "([IIII)V"⟩, prog_14_method_10_code, 5, none, cd_Mo_copyRow, 0, 4, 0, 0, 0, 3, [2226, 154, 2225, 0]),
  (⟨"SoupNineModel", "again", "(I)Z"⟩, prog_14_method_150_code, 2, (some FieldType.boolean), cd_Mo_again, 1, 1, 11, 0, 0, 0, [2230, 154, 2228, 2229])]
def xmt : List xme := xmt_0 ++ (xmt_1 ++ (xmt_2 ++ (xmt_3 ++ (xmt_4 ++ (xmt_5 ++ (xmt_6 ++ (xmt_7 ++ (xmt_8 ++ (xmt_9 ++ (xmt_10 ++ (xmt_11)))))))))))
abbrev m_Integer_bitCount : Nat := 0
abbrev m_Math_min_III : Nat := 1
abbrev m_Math_max : Nat := 2
abbrev m_Math_abs : Nat := 3
abbrev m_Math_min_JJJ : Nat := 4
abbrev m_Math_floorMod : Nat := 5
abbrev m_Arrays_fill_JJV : Nat := 6
abbrev m_Arrays_fill_IIV : Nat := 7
abbrev m_StringUTF16_charAt : Nat := 8
abbrev m_StringUTF16_checkIndex : Nat := 9
abbrev m_StringUTF16_length : Nat := 10
abbrev m_StringUTF16_getChar : Nat := 11
abbrev m_StringLatin1_charAt : Nat := 12
abbrev m_String_length : Nat := 13
abbrev m_String_coder : Nat := 14
abbrev m_String_charAt : Nat := 15
abbrev m_String_isLatin1 : Nat := 16
abbrev m_String_checkIndex : Nat := 17
abbrev m_Preconditions_checkIndex : Nat := 18
abbrev m_Fraction_part : Nat := 19
abbrev m_Fraction_divisor : Nat := 20
abbrev m_Fraction_power : Nat := 21
abbrev m_Fraction_share : Nat := 22
abbrev m_Fraction_reaches : Nat := 23
abbrev m_Evening_init : Nat := 24
abbrev m_Evening_addDeed : Nat := 25
abbrev m_Evening_copyFrom : Nat := 26
abbrev m_Evening_detail : Nat := 27
abbrev m_Sheet_init : Nat := 28
abbrev m_Sheet_clear : Nat := 29
abbrev m_Sheet_addShoe : Nat := 30
abbrev m_Sheet_addFoot : Nat := 31
abbrev m_Sheet_addHide : Nat := 32
abbrev m_Sheet_copyFrom : Nat := 33
abbrev m_Sheet_detail : Nat := 34
abbrev m_Sheet_detailOf : Nat := 35
abbrev m_Sheet_fits : Nat := 36
abbrev m_Sheet_steps : Nat := 37
abbrev m_Town_init : Nat := 38
abbrev m_Town_clear : Nat := 39
abbrev m_Town_addStop : Nat := 40
abbrev m_Town_setFollow : Nat := 41
abbrev m_Town_copyFrom : Nat := 42
abbrev m_Town_detail : Nat := 43
abbrev m_Town_hasStop : Nat := 44
abbrev m_Town_detailOfStop : Nat := 45
abbrev m_Town_middle : Nat := 46
abbrev m_Town_minutes : Nat := 47
abbrev m_Town_columnOf : Nat := 48
abbrev m_Town_rowOf : Nat := 49
abbrev m_Town_mayCome : Nat := 50
abbrev m_Town_weight : Nat := 51
abbrev m_Town_mostInAll : Nat := 52
abbrev m_Town_minutesFromPlace : Nat := 53
abbrev m_Town_trailFrom : Nat := 54
abbrev m_Book_init : Nat := 55
abbrev m_Book_lotRow : Nat := 56
abbrev m_Book_addNight : Nat := 57
abbrev m_Book_setAsked : Nat := 58
abbrev m_Book_copyFrom : Nat := 59
abbrev m_Book_detail : Nat := 60
abbrev m_Book_unlikeAheadOf : Nat := 61
abbrev m_Book_heldInAll : Nat := 62
abbrev m_Book_doorway : Nat := 63
abbrev m_Book_moreFrom : Nat := 64
abbrev m_Book_seenAheadOf : Nat := 65
abbrev m_Book_doorwayDifference : Nat := 66
abbrev m_Book_enoughOn : Nat := 67
abbrev m_Book_chanceOfAsMany : Nat := 68
abbrev m_Book_maybePick : Nat := 69
abbrev m_Book_couplesWith : Nat := 70
abbrev m_Bowls_init : Nat := 71
abbrev m_Bowls_forget : Nat := 72
abbrev m_Bowls_bestGift : Nat := 73
abbrev m_Bowls_prepare : Nat := 74
abbrev m_Bowls_countsOverAll : Nat := 75
abbrev m_Bowls_countsAfter : Nat := 76
abbrev m_Bowls_meanFrom : Nat := 77
abbrev m_Bowls_meanOnceTold : Nat := 78
abbrev m_Bowls_chanceOfMore : Nat := 79
abbrev m_Bowls_waysTo : Nat := 80
abbrev m_Routes_init : Nat := 81
abbrev m_Routes_forget : Nat := 82
abbrev m_Routes_prepare : Nat := 83
abbrev m_Routes_measure : Nat := 84
abbrev m_Routes_findPaths : Nat := 85
abbrev m_Routes_has : Nat := 86
abbrev m_Routes_shortest : Nat := 87
abbrev m_Routes_findRound : Nat := 88
abbrev m_Routes_findBestOfWay : Nat := 89
abbrev m_Routes_isPeopled : Nat := 90
abbrev m_Routes_fewestMinutes : Nat := 91
abbrev m_Routes_isWarm : Nat := 92
abbrev m_Routes_doneAt : Nat := 93
abbrev m_Routes_findWay : Nat := 94
abbrev m_Routes_isBest : Nat := 95
abbrev m_Routes_nextOf : Nat := 96
abbrev m_Routes_talksAtFirst : Nat := 97
abbrev m_Routes_talksAheadOfLast : Nat := 98
abbrev m_Routes_mostWarmWithout : Nat := 99
abbrev m_Routes_stopsOfFirstVan : Nat := 100
abbrev m_Routes_homeLast : Nat := 101
abbrev m_Routes_stopsToTalkAt : Nat := 102
abbrev m_Search_init : Nat := 103
abbrev m_Search_forget : Nat := 104
abbrev m_Search_prepare : Nat := 105
abbrev m_Search_findNeed : Nat := 106
abbrev m_Search_needWith : Nat := 107
abbrev m_Search_findShoes : Nat := 108
abbrev m_Search_findWalked : Nat := 109
abbrev m_Search_leastWalked : Nat := 110
abbrev m_Search_walkedBy : Nat := 111
abbrev m_Search_findHides : Nat := 112
abbrev m_Walk_init : Nat := 113
abbrev m_Walk_begin : Nat := 114
abbrev m_Walk_follow : Nat := 115
abbrev m_Walk_perform : Nat := 116
abbrev m_Walk_driveTo : Nat := 117
abbrev m_Walk_spend : Nat := 118
abbrev m_Walk_ladle : Nat := 119
abbrev m_Walk_sendOn : Nat := 120
abbrev m_Walk_talk : Nat := 121
abbrev m_Walk_detail : Nat := 122
abbrev m_Walk_detailOfStop : Nat := 123
abbrev m_Walk_draw : Nat := 124
abbrev m_Walk_below : Nat := 125
abbrev m_Reader_init : Nat := 126
abbrev m_Reader_readText : Nat := 127
abbrev m_Reader_begin : Nat := 128
abbrev m_Reader_advance : Nat := 129
abbrev m_Reader_isLetter : Nat := 130
abbrev m_Reader_isDigit : Nat := 131
abbrev m_Reader_readDigits : Nat := 132
abbrev m_Reader_readLine : Nat := 133
abbrev m_Reader_codeOf : Nat := 134
abbrev m_Reader_wordOf : Nat := 135
abbrev m_Reader_isWord : Nat := 136
abbrev m_Reader_checkRoom : Nat := 137
abbrev m_Reader_noteFault : Nat := 138
abbrev m_Reader_readThing : Nat := 139
abbrev m_Reader_readNumbers : Nat := 140
abbrev m_Reader_canBe : Nat := 141
abbrev m_Reader_tellLine : Nat := 142
abbrev m_Reader_tellOfTown : Nat := 143
abbrev m_Told_init : Nat := 144
abbrev m_Told_addBytes : Nat := 145
abbrev m_Told_copyFrom : Nat := 146
abbrev m_Told_townAt : Nat := 147
abbrev m_Told_eveningAt : Nat := 148
abbrev m_Told_bookAt : Nat := 149
abbrev m_Told_sheetAt : Nat := 150
abbrev m_So_init : Nat := 151
abbrev m_So_feed : Nat := 152
abbrev m_So_end : Nat := 153
abbrev m_So_text : Nat := 154
abbrev m_So_placeFor : Nat := 155
abbrev m_So_isThing : Nat := 156
abbrev m_So_keepDraft : Nat := 157
abbrev m_So_forgetAll : Nat := 158
abbrev m_So_fault : Nat := 159
abbrev m_So_count : Nat := 160
abbrev m_So_image : Nat := 161
abbrev m_So_again : Nat := 162
abbrev m_So_town : Nat := 163
abbrev m_So_deed : Nat := 164
abbrev m_So_till : Nat := 165
abbrev m_So_state : Nat := 166
abbrev m_So_drawn : Nat := 167
abbrev m_So_give : Nat := 168
abbrev m_So_isSoup : Nat := 169
abbrev m_So_mean : Nat := 170
abbrev m_So_safe : Nat := 171
abbrev m_So_tells : Nat := 172
abbrev m_So_lack : Nat := 173
abbrev m_So_way : Nat := 174
abbrev m_So_round : Nat := 175
abbrev m_So_talks : Nat := 176
abbrev m_So_lost : Nat := 177
abbrev m_So_depot : Nat := 178
abbrev m_So_vans : Nat := 179
abbrev m_So_trail : Nat := 180
abbrev m_So_chat : Nat := 181
abbrev m_So_book : Nat := 182
abbrev m_So_held : Nat := 183
abbrev m_So_bring : Nat := 184
abbrev m_So_span : Nat := 185
abbrev m_So_lot : Nat := 186
abbrev m_So_like : Nat := 187
abbrev m_So_list : Nat := 188
abbrev m_So_shod : Nat := 189
abbrev m_So_look : Nat := 190
abbrev m_So_worry : Nat := 191
abbrev m_So_isOfTen : Nat := 192
abbrev m_So_isOfHundred : Nat := 193
abbrev m_So_unwell : Nat := 194
abbrev m_So_wellButAway : Nat := 195
abbrev m_So_when : Nat := 196
abbrev m_So_sick : Nat := 197
abbrev m_So_areSigns : Nat := 198
abbrev m_So_shown : Nat := 199
abbrev m_So_call : Nat := 200
abbrev m_So_shared : Nat := 201
abbrev m_So_areDays : Nat := 202
abbrev m_So_vanDays : Nat := 203
abbrev m_So_lowestBits : Nat := 204
abbrev m_So_pair : Nat := 205
abbrev m_So_alone : Nat := 206
abbrev m_Mo_init : Nat := 207
abbrev m_Mo_feed : Nat := 208
abbrev m_Mo_four : Nat := 209
abbrev m_Mo_end : Nat := 210
abbrev m_Mo_in : Nat := 211
abbrev m_Mo_text : Nat := 212
abbrev m_Mo_is : Nat := 213
abbrev m_Mo_readText : Nat := 214
abbrev m_Mo_blank : Nat := 215
abbrev m_Mo_token : Nat := 216
abbrev m_Mo_see : Nat := 217
abbrev m_Mo_lines : Nat := 218
abbrev m_Mo_lineOf : Nat := 219
abbrev m_Mo_townLine : Nat := 220
abbrev m_Mo_kindBy : Nat := 221
abbrev m_Mo_fails : Nat := 222
abbrev m_Mo_full : Nat := 223
abbrev m_Mo_later : Nat := 224
abbrev m_Mo_stopLine : Nat := 225
abbrev m_Mo_take : Nat := 226
abbrev m_Mo_takeBut : Nat := 227
abbrev m_Mo_followLine : Nat := 228
abbrev m_Mo_greater : Nat := 229
abbrev m_Mo_homeLine : Nat := 230
abbrev m_Mo_plainLine : Nat := 231
abbrev m_Mo_dayLine : Nat := 232
abbrev m_Mo_deedBy : Nat := 233
abbrev m_Mo_keep : Nat := 234
abbrev m_Mo_bookLine : Nat := 235
abbrev m_Mo_askedLine : Nat := 236
abbrev m_Mo_thingBy : Nat := 237
abbrev m_Mo_listLine : Nat := 238
abbrev m_Mo_shoeLine : Nat := 239
abbrev m_Mo_footLine : Nat := 240
abbrev m_Mo_hideLine : Nat := 241
abbrev m_Mo_storeAll : Nat := 242
abbrev m_Mo_store : Nat := 243
abbrev m_Mo_fault : Nat := 244
abbrev m_Mo_town : Nat := 245
abbrev m_Mo_hand : Nat := 246
abbrev m_Mo_of : Nat := 247
abbrev m_Mo_isStop : Nat := 248
abbrev m_Mo_deed : Nat := 249
abbrev m_Mo_hasEvening : Nat := 250
abbrev m_Mo_deeds : Nat := 251
abbrev m_Mo_deedOf : Nat := 252
abbrev m_Mo_till : Nat := 253
abbrev m_Mo_layAll : Nat := 254
abbrev m_Mo_play : Nat := 255
abbrev m_Mo_begin : Nat := 256
abbrev m_Mo_middle : Nat := 257
abbrev m_Mo_does : Nat := 258
abbrev m_Mo_drivesTo : Nat := 259
abbrev m_Mo_drives : Nat := 260
abbrev m_Mo_placeX : Nat := 261
abbrev m_Mo_apart : Nat := 262
abbrev m_Mo_placeY : Nat := 263
abbrev m_Mo_takes : Nat := 264
abbrev m_Mo_ladles : Nat := 265
abbrev m_Mo_feeds : Nat := 266
abbrev m_Mo_lesser : Nat := 267
abbrev m_Mo_chats : Nat := 268
abbrev m_Mo_state : Nat := 269
abbrev m_Mo_ofState : Nat := 270
abbrev m_Mo_ofEvening : Nat := 271
abbrev m_Mo_give : Nat := 272
abbrev m_Mo_mayCome : Nat := 273
abbrev m_Mo_findCounts : Nat := 274
abbrev m_Mo_gives : Nat := 275
abbrev m_Mo_countsBy : Nat := 276
abbrev m_Mo_weight : Nat := 277
abbrev m_Mo_mean : Nat := 278
abbrev m_Mo_part : Nat := 279
abbrev m_Mo_common : Nat := 280
abbrev m_Mo_safe : Nat := 281
abbrev m_Mo_way : Nat := 282
abbrev m_Mo_findWay : Nat := 283
abbrev m_Mo_findOn : Nat := 284
abbrev m_Mo_peopleOf : Nat := 285
abbrev m_Mo_has : Nat := 286
abbrev m_Mo_goOn : Nat := 287
abbrev m_Mo_isSought : Nat := 288
abbrev m_Mo_doneThere : Nat := 289
abbrev m_Mo_leads : Nat := 290
abbrev m_Mo_round : Nat := 291
abbrev m_Mo_findRounds : Nat := 292
abbrev m_Mo_cell : Nat := 293
abbrev m_Mo_talks : Nat := 294
abbrev m_Mo_areWarm : Nat := 295
abbrev m_Mo_lost : Nat := 296
abbrev m_Mo_book : Nat := 297
abbrev m_Mo_hasBook : Nat := 298
abbrev m_Mo_nights : Nat := 299
abbrev m_Mo_nightOf : Nat := 300
abbrev m_Mo_held : Nat := 301
abbrev m_Mo_heldBy : Nat := 302
abbrev m_Mo_doorway : Nat := 303
abbrev m_Mo_moreFrom : Nat := 304
abbrev m_Mo_seenFrom : Nat := 305
abbrev m_Mo_bring : Nat := 306
abbrev m_Mo_enoughOn : Nat := 307
abbrev m_Mo_span : Nat := 308
abbrev m_Mo_list : Nat := 309
abbrev m_Mo_hasList : Nat := 310
abbrev m_Mo_listOf : Nat := 311
abbrev m_Mo_shod : Nat := 312
abbrev m_Mo_findNeeds : Nat := 313
abbrev m_Mo_isFit : Nat := 314
abbrev m_Mo_shoeOf : Nat := 315
abbrev m_Mo_look : Nat := 316
abbrev m_Mo_hides : Nat := 317
abbrev m_Mo_odds : Nat := 318
abbrev m_Mo_findLooks : Nat := 319
abbrev m_Mo_looksOn : Nat := 320
abbrev m_Mo_hideX : Nat := 321
abbrev m_Mo_hideY : Nat := 322
abbrev m_Mo_hideAt : Nat := 323
abbrev m_Mo_worry : Nat := 324
abbrev m_Mo_areOdds : Nat := 325
abbrev m_Mo_stays : Nat := 326
abbrev m_Mo_ill : Nat := 327
abbrev m_Mo_power : Nat := 328
abbrev m_Mo_when : Nat := 329
abbrev m_Mo_shared : Nat := 330
abbrev m_Mo_ones : Nat := 331
abbrev m_Mo_pair : Nat := 332
abbrev m_Mo_drawn : Nat := 333
abbrev m_Mo_drawDeed : Nat := 334
abbrev m_Mo_draw : Nat := 335
abbrev m_Mo_tells : Nat := 336
abbrev m_Mo_depot : Nat := 337
abbrev m_Mo_drivenFrom : Nat := 338
abbrev m_Mo_vans : Nat := 339
abbrev m_Mo_trail : Nat := 340
abbrev m_Mo_chat : Nat := 341
abbrev m_Mo_lack : Nat := 342
abbrev m_Mo_lot : Nat := 343
abbrev m_Mo_picks : Nat := 344
abbrev m_Mo_like : Nat := 345
abbrev m_Mo_sick : Nat := 346
abbrev m_Mo_areSigns : Nat := 347
abbrev m_Mo_shows : Nat := 348
abbrev m_Mo_allShow : Nat := 349
abbrev m_Mo_call : Nat := 350
abbrev m_Mo_count : Nat := 351
abbrev m_Mo_image : Nat := 352
abbrev m_Mo_copyAll : Nat := 353
abbrev m_Mo_copyRow : Nat := 354
abbrev m_Mo_again : Nat := 355
