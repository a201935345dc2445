-- written by wip/tools/m19.py
theorem xmd_0 : xdc "java/lang/Integer" 1 false (some FieldType.int) prog_15_method_49_code 0 cd_Integer_bitCount = true := by decide +kernel
theorem xmd_1 : xdc "java/lang/Math" 2 false (some FieldType.int) prog_16_method_69_code 0 cd_Math_min_III = true := by decide +kernel
theorem xmd_2 : xdc "java/lang/Math" 2 false (some FieldType.int) prog_16_method_65_code 0 cd_Math_max = true := by decide +kernel
theorem xmd_3 : xdc "java/lang/Math" 1 false (some FieldType.int) prog_16_method_59_code 0 cd_Math_abs = true := by decide +kernel
theorem xmd_4 : xdc "java/lang/Math" 4 false (some FieldType.long) prog_16_method_70_code 0 cd_Math_min_JJJ = true := by decide +kernel
theorem xmd_5 : xdc "java/lang/Math" 3 false (some FieldType.int) prog_16_method_50_code 0 cd_Math_floorMod = true := by decide +kernel
theorem xmd_6 : xdc "java/util/Arrays" 5 false none prog_21_method_101_code 0 cd_Arrays_fill_JJV = true := by decide +kernel
theorem xmd_7 : xdc "java/util/Arrays" 4 false none prog_21_method_103_code 0 cd_Arrays_fill_IIV = true := by decide +kernel
theorem xmd_8 : xdc "java/lang/StringUTF16" 2 false (some FieldType.char) prog_19_method_83_code 0 cd_StringUTF16_charAt = true := by decide +kernel
theorem xmd_9 : xdc "java/lang/StringUTF16" 2 false none prog_19_method_91_code 0 cd_StringUTF16_checkIndex = true := by decide +kernel
theorem xmd_10 : xdc "java/lang/StringUTF16" 1 false (some FieldType.int) prog_19_method_6_code 0 cd_StringUTF16_length = true := by decide +kernel
theorem xmd_11 : xdc "java/lang/StringUTF16" 2 false (some FieldType.char) prog_19_method_5_code 0 cd_StringUTF16_getChar = true := by decide +kernel
theorem xmd_12 : xdc "java/lang/StringLatin1" 2 false (some FieldType.char) prog_18_method_2_code 0 cd_StringLatin1_charAt = true := by decide +kernel
theorem xmd_13 : xdc "java/lang/String" 1 false (some FieldType.int) prog_17_method_54_code 0 cd_String_length = true := by decide +kernel
theorem xmd_14 : xdc "java/lang/String" 1 false (some FieldType.byte) prog_17_method_152_code 0 cd_String_coder = true := by decide +kernel
theorem xmd_15 : xdc "java/lang/String" 2 false (some FieldType.char) prog_17_method_56_code 0 cd_String_charAt = true := by decide +kernel
theorem xmd_16 : xdc "java/lang/String" 1 false (some FieldType.boolean) prog_17_method_154_code 0 cd_String_isLatin1 = true := by decide +kernel
theorem xmd_17 : xdc "java/lang/String" 2 false none prog_17_method_155_code 0 cd_String_checkIndex = true := by decide +kernel
theorem xmd_18 : xdc "jdk/internal/util/Preconditions" 3 false (some FieldType.int) prog_22_method_11_code 0 cd_Preconditions_checkIndex = true := by decide +kernel
theorem xmd_19 : xdc "SoupNine$Fraction" 7 false (some FieldType.long) prog_5_method_2_code 0 cd_Fraction_part = true := by decide +kernel
theorem xmd_20 : xdc "SoupNine$Fraction" 7 false (some FieldType.long) prog_5_method_3_code 0 cd_Fraction_divisor = true := by decide +kernel
theorem xmd_21 : xdc "SoupNine$Fraction" 5 false (some FieldType.long) prog_5_method_6_code 0 cd_Fraction_power = true := by decide +kernel
theorem xmd_22 : xdc "SoupNine$Fraction" 5 false (some FieldType.long) prog_5_method_4_code 0 cd_Fraction_share = true := by decide +kernel
theorem xmd_23 : xdc "SoupNine$Fraction" 5 false (some FieldType.boolean) prog_5_method_5_code 0 cd_Fraction_reaches = true := by decide +kernel
theorem xmd_24 : xdc "SoupNine$Evening" 1 true none prog_4_method_1_code 0 cd_Evening_init = true := by decide +kernel
theorem xmd_25 : xdc "SoupNine$Evening" 3 false none prog_4_method_3_code 0 cd_Evening_addDeed = true := by decide +kernel
theorem xmd_26 : xdc "SoupNine$Evening" 2 false none prog_4_method_2_code 0 cd_Evening_copyFrom = true := by decide +kernel
theorem xmd_27 : xdc "SoupNine$Evening" 3 false (some FieldType.int) prog_4_method_4_code 0 cd_Evening_detail = true := by decide +kernel
theorem xmd_28 : xdc "SoupNine$Sheet" 1 true none prog_9_method_1_code 0 cd_Sheet_init = true := by decide +kernel
theorem xmd_29 : xdc "SoupNine$Sheet" 1 false none prog_9_method_2_code 0 cd_Sheet_clear = true := by decide +kernel
theorem xmd_30 : xdc "SoupNine$Sheet" 2 false none prog_9_method_4_code 0 cd_Sheet_addShoe = true := by decide +kernel
theorem xmd_31 : xdc "SoupNine$Sheet" 3 false none prog_9_method_5_code 0 cd_Sheet_addFoot = true := by decide +kernel
theorem xmd_32 : xdc "SoupNine$Sheet" 4 false none prog_9_method_6_code 0 cd_Sheet_addHide = true := by decide +kernel
theorem xmd_33 : xdc "SoupNine$Sheet" 2 false none prog_9_method_3_code 0 cd_Sheet_copyFrom = true := by decide +kernel
theorem xmd_34 : xdc "SoupNine$Sheet" 2 false (some FieldType.int) prog_9_method_9_code 0 cd_Sheet_detail = true := by decide +kernel
theorem xmd_35 : xdc "SoupNine$Sheet" 3 false (some FieldType.int) prog_9_method_10_code 0 cd_Sheet_detailOf = true := by decide +kernel
theorem xmd_36 : xdc "SoupNine$Sheet" 3 false (some FieldType.boolean) prog_9_method_7_code 0 cd_Sheet_fits = true := by decide +kernel
theorem xmd_37 : xdc "SoupNine$Sheet" 5 false (some FieldType.int) prog_9_method_8_code 0 cd_Sheet_steps = true := by decide +kernel
theorem xmd_38 : xdc "SoupNine$Town" 1 true none prog_11_method_1_code 0 cd_Town_init = true := by decide +kernel
theorem xmd_39 : xdc "SoupNine$Town" 2 false none prog_11_method_2_code 0 cd_Town_clear = true := by decide +kernel
theorem xmd_40 : xdc "SoupNine$Town" 3 false none prog_11_method_4_code 0 cd_Town_addStop = true := by decide +kernel
theorem xmd_41 : xdc "SoupNine$Town" 4 false none prog_11_method_5_code 0 cd_Town_setFollow = true := by decide +kernel
theorem xmd_42 : xdc "SoupNine$Town" 2 false none prog_11_method_3_code 0 cd_Town_copyFrom = true := by decide +kernel
theorem xmd_43 : xdc "SoupNine$Town" 2 false (some FieldType.int) prog_11_method_16_code 0 cd_Town_detail = true := by decide +kernel
theorem xmd_44 : xdc "SoupNine$Town" 2 false (some FieldType.boolean) prog_11_method_6_code 0 cd_Town_hasStop = true := by decide +kernel
theorem xmd_45 : xdc "SoupNine$Town" 3 false (some FieldType.int) prog_11_method_17_code 0 cd_Town_detailOfStop = true := by decide +kernel
theorem xmd_46 : xdc "SoupNine$Town" 2 false (some FieldType.int) prog_11_method_8_code 0 cd_Town_middle = true := by decide +kernel
theorem xmd_47 : xdc "SoupNine$Town" 3 false (some FieldType.int) prog_11_method_11_code 0 cd_Town_minutes = true := by decide +kernel
theorem xmd_48 : xdc "SoupNine$Town" 2 false (some FieldType.int) prog_11_method_12_code 0 cd_Town_columnOf = true := by decide +kernel
theorem xmd_49 : xdc "SoupNine$Town" 2 false (some FieldType.int) prog_11_method_13_code 0 cd_Town_rowOf = true := by decide +kernel
theorem xmd_50 : xdc "SoupNine$Town" 3 false (some FieldType.boolean) prog_11_method_7_code 0 cd_Town_mayCome = true := by decide +kernel
theorem xmd_51 : xdc "SoupNine$Town" 2 false (some FieldType.int) prog_11_method_9_code 0 cd_Town_weight = true := by decide +kernel
theorem xmd_52 : xdc "SoupNine$Town" 3 false (some FieldType.int) prog_11_method_10_code 0 cd_Town_mostInAll = true := by decide +kernel
theorem xmd_53 : xdc "SoupNine$Town" 4 false (some FieldType.int) prog_11_method_14_code 0 cd_Town_minutesFromPlace = true := by decide +kernel
theorem xmd_54 : xdc "SoupNine$Town" 6 false (some FieldType.int) prog_11_method_15_code 0 cd_Town_trailFrom = true := by decide +kernel
theorem xmd_55 : xdc "SoupNine$Book" 1 true none prog_2_method_1_code 0 cd_Book_init = true := by decide +kernel
theorem xmd_56 : xdc "SoupNine$Book" 1 false (some FieldType.int) prog_2_method_13_code 0 cd_Book_lotRow = true := by decide +kernel
theorem xmd_57 : xdc "SoupNine$Book" 4 false none prog_2_method_3_code 0 cd_Book_addNight = true := by decide +kernel
theorem xmd_58 : xdc "SoupNine$Book" 3 false none prog_2_method_4_code 0 cd_Book_setAsked = true := by decide +kernel
theorem xmd_59 : xdc "SoupNine$Book" 2 false none prog_2_method_2_code 0 cd_Book_copyFrom = true := by decide +kernel
theorem xmd_60 : xdc "SoupNine$Book" 3 false (some FieldType.int) prog_2_method_16_code 0 cd_Book_detail = true := by decide +kernel
theorem xmd_61 : xdc "SoupNine$Book" 4 false (some FieldType.int) prog_2_method_5_code 0 cd_Book_unlikeAheadOf = true := by decide +kernel
theorem xmd_62 : xdc "SoupNine$Book" 5 false (some FieldType.int) prog_2_method_6_code 0 cd_Book_heldInAll = true := by decide +kernel
theorem xmd_63 : xdc "SoupNine$Book" 5 false (some FieldType.int) prog_2_method_7_code 0 cd_Book_doorway = true := by decide +kernel
theorem xmd_64 : xdc "SoupNine$Book" 3 false (some FieldType.int) prog_2_method_9_code 0 cd_Book_moreFrom = true := by decide +kernel
theorem xmd_65 : xdc "SoupNine$Book" 4 false (some FieldType.int) prog_2_method_10_code 0 cd_Book_seenAheadOf = true := by decide +kernel
theorem xmd_66 : xdc "SoupNine$Book" 3 false (some FieldType.int) prog_2_method_8_code 0 cd_Book_doorwayDifference = true := by decide +kernel
theorem xmd_67 : xdc "SoupNine$Book" 6 false (some FieldType.int) prog_2_method_14_code 0 cd_Book_enoughOn = true := by decide +kernel
theorem xmd_68 : xdc "SoupNine$Book" 11 false (some FieldType.long) prog_2_method_11_code 0 cd_Book_chanceOfAsMany = true := by decide +kernel
theorem xmd_69 : xdc "SoupNine$Book" 7 false none prog_2_method_12_code 0 cd_Book_maybePick = true := by decide +kernel
theorem xmd_70 : xdc "SoupNine$Book" 6 false (some FieldType.int) prog_2_method_15_code 0 cd_Book_couplesWith = true := by decide +kernel
theorem xmd_71 : xdc "SoupNine$Bowls" 1 true none prog_3_method_1_code 0 cd_Bowls_init = true := by decide +kernel
theorem xmd_72 : xdc "SoupNine$Bowls" 1 false none prog_3_method_2_code 0 cd_Bowls_forget = true := by decide +kernel
theorem xmd_73 : xdc "SoupNine$Bowls" 7 false (some FieldType.int) prog_3_method_3_code 0 cd_Bowls_bestGift = true := by decide +kernel
theorem xmd_74 : xdc "SoupNine$Bowls" 4 false none prog_3_method_7_code 0 cd_Bowls_prepare = true := by decide +kernel
theorem xmd_75 : xdc "SoupNine$Bowls" 13 false (some FieldType.long) prog_3_method_8_code 0 cd_Bowls_countsOverAll = true := by decide +kernel
