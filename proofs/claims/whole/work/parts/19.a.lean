-- what the program checks of every method: written by wip/tools/m19.py
/-- what xmo asks but the code itself -/
def xmoR (q : xme) : Bool := match q with
  | (y, b, ml, rt, _, kd, na, tg, mkk, ms, rc, [p0, p1, p2, p3]) =>
    (decide (lw_tbl[p1]? = some (.initialized y.cls)) && ((match kd with
      | 0 => decide (lw_tbl[p2]? = some (.static y))
      | 1 => decide (lw_tbl[p2]? = some (.instanceMethod y)) && decide (lw_tbl[p3]? = some (.selects y.cls y y))
      | _ => decide (lw_tbl[p2]? = some (.instanceMethod y)) && (decide (y.name = "<init>") && decide (rt = none))) && (decide (y.cls ≠ "java/lang/invoke/MethodHandle" ∧ y.cls ≠ "java/lang/invoke/VarHandle") && (decide ((parseMethodDescriptor y.desc).map (fun d => d.parameters.length) = some na) && (decide (ml ≤ 13) && (decide (mkk = 0 → ms = 0) && (plainFor y && ((match kd with
      | 0 => true
      | _ => (match xcls[tg]? with
        | some r => decide (r.1 = y.cls) && decide (tg < 12)
        | none => decide (tg = 30) && decide (y.cls = "java/lang/String"))) && (decide (ms ≤ 8000000) && (match rc with
      | 0 => decide (rt = some .int) || decide (rt = some .boolean) || decide (rt = some .byte) || decide (rt = some .char)
      | 1 => decide (rt = some .long)
      | 2 => (match rt with
        | some (.object _) => true
        | some (.array _) => true
        | _ => false)
      | _ => decide (rt = none)))))))))))
  | _ => false
theorem xmo_of {y : MethodName} {b : ByteArray} {ml : Nat} {rt : Option FieldType} {cd : List (List xop)} {kd na tg mc ms rc p0 p1 p2 p3 : Nat} (h : lw_tbl[p0]? = some (.code y b ml rt)) (h2 : xmoR (y, b, ml, rt, cd, kd, na, tg, mc, ms, rc, [p0, p1, p2, p3]) = true) : xmo (y, b, ml, rt, cd, kd, na, tg, mc, ms, rc, [p0, p1, p2, p3]) = true := by
  have e : xmo (y, b, ml, rt, cd, kd, na, tg, mc, ms, rc, [p0, p1, p2, p3]) = (decide (lw_tbl[p0]? = some (.code y b ml rt)) && xmoR (y, b, ml, rt, cd, kd, na, tg, mc, ms, rc, [p0, p1, p2, p3])) := rfl
  rw [e, decide_eq_true h, Bool.true_and]
  exact h2
set_option maxRecDepth 100000 in
theorem xmc_0 : lw_tbl[1222]? = some (Cond.code ⟨"java/lang/Integer", "bitCount", "(I)I"⟩ prog_15_method_49_code 1 (some FieldType.int)) := by rfl
set_option maxRecDepth 100000 in
theorem xmc_1 : lw_tbl[656]? = some (Cond.code ⟨"java/lang/Math", "min", "(II)I"⟩ prog_16_method_69_code 2 (some FieldType.int)) := by rfl
set_option maxRecDepth 100000 in
theorem xmc_2 : lw_tbl[863]? = some (Cond.code ⟨"java/lang/Math", "max", "(II)I"⟩ prog_16_method_65_code 2 (some FieldType.int)) := by rfl
set_option maxRecDepth 100000 in
theorem xmc_3 : lw_tbl[972]? = some (Cond.code ⟨"java/lang/Math", "abs", "(I)I"⟩ prog_16_method_59_code 1 (some FieldType.int)) := by rfl
set_option maxRecDepth 100000 in
theorem xmc_4 : lw_tbl[1049]? = some (Cond.code ⟨"java/lang/Math", "min", "(JJ)J"⟩ prog_16_method_70_code 4 (some FieldType.long)) := by rfl
set_option maxRecDepth 100000 in
theorem xmc_5 : lw_tbl[1454]? = some (Cond.code ⟨"java/lang/Math", "floorMod", "(II)I"⟩ prog_16_method_50_code 3 (some FieldType.int)) := by rfl
set_option maxRecDepth 100000 in
theorem xmc_6 : lw_tbl[1096]? = some (Cond.code ⟨"java/util/Arrays", "fill", "([JJ)V"⟩ prog_21_method_101_code 5 none) := by rfl
set_option maxRecDepth 100000 in
theorem xmc_7 : lw_tbl[1301]? = some (Cond.code ⟨"java/util/Arrays", "fill", "([II)V"⟩ prog_21_method_103_code 4 none) := by rfl
set_option maxRecDepth 100000 in
theorem xmc_8 : lw_tbl[746]? = some (Cond.code ⟨"java/lang/StringUTF16", "charAt", "([BI)C"⟩ prog_19_method_83_code 2 (some FieldType.char)) := by rfl
set_option maxRecDepth 100000 in
theorem xmc_9 : lw_tbl[749]? = some (Cond.code ⟨"java/lang/StringUTF16", "checkIndex", "(I[B)V"⟩ prog_19_method_91_code 2 none) := by rfl
set_option maxRecDepth 100000 in
theorem xmc_10 : lw_tbl[752]? = some (Cond.code ⟨"java/lang/StringUTF16", "length", "([B)I"⟩ prog_19_method_6_code 1 (some FieldType.int)) := by rfl
set_option maxRecDepth 100000 in
theorem xmc_11 : lw_tbl[756]? = some (Cond.code ⟨"java/lang/StringUTF16", "getChar", "([BI)C"⟩ prog_19_method_5_code 2 (some FieldType.char)) := by rfl
set_option maxRecDepth 100000 in
theorem xmc_12 : lw_tbl[735]? = some (Cond.code ⟨"java/lang/StringLatin1", "charAt", "([BI)C"⟩ prog_18_method_2_code 2 (some FieldType.char)) := by rfl
set_option maxRecDepth 100000 in
theorem xmc_13 : lw_tbl[718]? = some (Cond.code ⟨"java/lang/String", "length", "()I"⟩ prog_17_method_54_code 1 (some FieldType.int)) := by rfl
set_option maxRecDepth 100000 in
theorem xmc_14 : lw_tbl[722]? = some (Cond.code ⟨"java/lang/String", "coder", "()B"⟩ prog_17_method_152_code 1 (some FieldType.byte)) := by rfl
set_option maxRecDepth 100000 in
theorem xmc_15 : lw_tbl[728]? = some (Cond.code ⟨"java/lang/String", "charAt", "(I)C"⟩ prog_17_method_56_code 2 (some FieldType.char)) := by rfl
set_option maxRecDepth 100000 in
theorem xmc_16 : lw_tbl[732]? = some (Cond.code ⟨"java/lang/String", "isLatin1", "()Z"⟩ prog_17_method_154_code 1 (some FieldType.boolean)) := by rfl
set_option maxRecDepth 100000 in
theorem xmc_17 : lw_tbl[738]? = some (Cond.code ⟨"java/lang/String", "checkIndex", "(II)V"⟩ prog_17_method_155_code 2 none) := by rfl
set_option maxRecDepth 100000 in
theorem xmc_18 : lw_tbl[743]? = some (Cond.code ⟨"jdk/internal/util/Preconditions", "checkIndex", "(IILjava/util/function/BiFunction;)I"⟩ prog_22_method_11_code 3 (some FieldType.int)) := by rfl
set_option maxRecDepth 100000 in
theorem xmc_19 : lw_tbl[1065]? = some (Cond.code ⟨"SoupNine$Fraction", "part", "(JJZ)J"⟩ prog_5_method_2_code 7 (some FieldType.long)) := by rfl
set_option maxRecDepth 100000 in
theorem xmc_20 : lw_tbl[1068]? = some (Cond.code ⟨"SoupNine$Fraction", "divisor", "(JJ)J"⟩ prog_5_method_3_code 7 (some FieldType.long)) := by rfl
set_option maxRecDepth 100000 in
theorem xmc_21 : lw_tbl[1399]? = some (Cond.code ⟨"SoupNine$Fraction", "power", "(II)J"⟩ prog_5_method_6_code 5 (some FieldType.long)) := by rfl
set_option maxRecDepth 100000 in
theorem xmc_22 : lw_tbl[1405]? = some (Cond.code ⟨"SoupNine$Fraction", "share", "(JJZ)J"⟩ prog_5_method_4_code 5 (some FieldType.long)) := by rfl
set_option maxRecDepth 100000 in
theorem xmc_23 : lw_tbl[1413]? = some (Cond.code ⟨"SoupNine$Fraction", "reaches", "(JJI)Z"⟩ prog_5_method_5_code 5 (some FieldType.boolean)) := by rfl
set_option maxRecDepth 100000 in
theorem xmc_24 : lw_tbl[255]? = some (Cond.code ⟨"SoupNine$Evening", "<init>", "()V"⟩ prog_4_method_1_code 1 none) := by rfl
set_option maxRecDepth 100000 in
theorem xmc_25 : lw_tbl[811]? = some (Cond.code ⟨"SoupNine$Evening", "addDeed", "(II)V"⟩ prog_4_method_3_code 3 none) := by rfl
set_option maxRecDepth 100000 in
theorem xmc_26 : lw_tbl[849]? = some (Cond.code ⟨"SoupNine$Evening", "copyFrom", "(LSoupNine$Evening;)V"⟩ prog_4_method_2_code 2 none) := by rfl
set_option maxRecDepth 100000 in
theorem xmc_27 : lw_tbl[936]? = some (Cond.code ⟨"SoupNine$Evening", "detail", "(II)I"⟩ prog_4_method_4_code 3 (some FieldType.int)) := by rfl
set_option maxRecDepth 100000 in
theorem xmc_28 : lw_tbl[299]? = some (Cond.code ⟨"SoupNine$Sheet", "<init>", "()V"⟩ prog_9_method_1_code 1 none) := by rfl
set_option maxRecDepth 100000 in
theorem xmc_29 : lw_tbl[664]? = some (Cond.code ⟨"SoupNine$Sheet", "clear", "()V"⟩ prog_9_method_2_code 1 none) := by rfl
set_option maxRecDepth 100000 in
theorem xmc_30 : lw_tbl[826]? = some (Cond.code ⟨"SoupNine$Sheet", "addShoe", "(I)V"⟩ prog_9_method_4_code 2 none) := by rfl
set_option maxRecDepth 100000 in
theorem xmc_31 : lw_tbl[830]? = some (Cond.code ⟨"SoupNine$Sheet", "addFoot", "(II)V"⟩ prog_9_method_5_code 3 none) := by rfl
set_option maxRecDepth 100000 in
theorem xmc_32 : lw_tbl[834]? = some (Cond.code ⟨"SoupNine$Sheet", "addHide", "(III)V"⟩ prog_9_method_6_code 4 none) := by rfl
set_option maxRecDepth 100000 in
theorem xmc_33 : lw_tbl[859]? = some (Cond.code ⟨"SoupNine$Sheet", "copyFrom", "(LSoupNine$Sheet;)V"⟩ prog_9_method_3_code 2 none) := by rfl
set_option maxRecDepth 100000 in
theorem xmc_34 : lw_tbl[1326]? = some (Cond.code ⟨"SoupNine$Sheet", "detail", "(I)I"⟩ prog_9_method_9_code 2 (some FieldType.int)) := by rfl
set_option maxRecDepth 100000 in
theorem xmc_35 : lw_tbl[1330]? = some (Cond.code ⟨"SoupNine$Sheet", "detailOf", "(II)I"⟩ prog_9_method_10_code 3 (some FieldType.int)) := by rfl
set_option maxRecDepth 100000 in
theorem xmc_36 : lw_tbl[1350]? = some (Cond.code ⟨"SoupNine$Sheet", "fits", "(II)Z"⟩ prog_9_method_7_code 3 (some FieldType.boolean)) := by rfl
set_option maxRecDepth 100000 in
theorem xmc_37 : lw_tbl[1372]? = some (Cond.code ⟨"SoupNine$Sheet", "steps", "(II)I"⟩ prog_9_method_8_code 5 (some FieldType.int)) := by rfl
set_option maxRecDepth 100000 in
theorem xmc_38 : lw_tbl[183]? = some (Cond.code ⟨"SoupNine$Town", "<init>", "()V"⟩ prog_11_method_1_code 1 none) := by rfl
set_option maxRecDepth 100000 in
theorem xmc_39 : lw_tbl[660]? = some (Cond.code ⟨"SoupNine$Town", "clear", "()V"⟩ prog_11_method_2_code 2 none) := by rfl
set_option maxRecDepth 100000 in
theorem xmc_40 : lw_tbl[799]? = some (Cond.code ⟨"SoupNine$Town", "addStop", "(I[I)V"⟩ prog_11_method_4_code 3 none) := by rfl
set_option maxRecDepth 100000 in
theorem xmc_41 : lw_tbl[807]? = some (Cond.code ⟨"SoupNine$Town", "setFollow", "(III)V"⟩ prog_11_method_5_code 4 none) := by rfl
set_option maxRecDepth 100000 in
theorem xmc_42 : lw_tbl[842]? = some (Cond.code ⟨"SoupNine$Town", "copyFrom", "(LSoupNine$Town;)V"⟩ prog_11_method_3_code 2 none) := by rfl
set_option maxRecDepth 100000 in
theorem xmc_43 : lw_tbl[916]? = some (Cond.code ⟨"SoupNine$Town", "detail", "(I)I"⟩ prog_11_method_16_code 2 (some FieldType.int)) := by rfl
set_option maxRecDepth 100000 in
theorem xmc_44 : lw_tbl[920]? = some (Cond.code ⟨"SoupNine$Town", "hasStop", "(I)Z"⟩ prog_11_method_6_code 2 (some FieldType.boolean)) := by rfl
set_option maxRecDepth 100000 in
theorem xmc_45 : lw_tbl[924]? = some (Cond.code ⟨"SoupNine$Town", "detailOfStop", "(II)I"⟩ prog_11_method_17_code 3 (some FieldType.int)) := by rfl
set_option maxRecDepth 100000 in
theorem xmc_46 : lw_tbl[948]? = some (Cond.code ⟨"SoupNine$Town", "middle", "(I)I"⟩ prog_11_method_8_code 2 (some FieldType.int)) := by rfl
set_option maxRecDepth 100000 in
theorem xmc_47 : lw_tbl[965]? = some (Cond.code ⟨"SoupNine$Town", "minutes", "(II)I"⟩ prog_11_method_11_code 3 (some FieldType.int)) := by rfl
set_option maxRecDepth 100000 in
theorem xmc_48 : lw_tbl[969]? = some (Cond.code ⟨"SoupNine$Town", "columnOf", "(I)I"⟩ prog_11_method_12_code 2 (some FieldType.int)) := by rfl
set_option maxRecDepth 100000 in
theorem xmc_49 : lw_tbl[976]? = some (Cond.code ⟨"SoupNine$Town", "rowOf", "(I)I"⟩ prog_11_method_13_code 2 (some FieldType.int)) := by rfl
set_option maxRecDepth 100000 in
theorem xmc_50 : lw_tbl[1030]? = some (Cond.code ⟨"SoupNine$Town", "mayCome", "(II)Z"⟩ prog_11_method_7_code 3 (some FieldType.boolean)) := by rfl
set_option maxRecDepth 100000 in
theorem xmc_51 : lw_tbl[1046]? = some (Cond.code ⟨"SoupNine$Town", "weight", "(I)I"⟩ prog_11_method_9_code 2 (some FieldType.int)) := by rfl
set_option maxRecDepth 100000 in
theorem xmc_52 : lw_tbl[1076]? = some (Cond.code ⟨"SoupNine$Town", "mostInAll", "()I"⟩ prog_11_method_10_code 3 (some FieldType.int)) := by rfl
set_option maxRecDepth 100000 in
theorem xmc_53 : lw_tbl[1196]? = some (Cond.code ⟨"SoupNine$Town", "minutesFromPlace", "(I)I"⟩ prog_11_method_14_code 4 (some FieldType.int)) := by rfl
set_option maxRecDepth 100000 in
theorem xmc_54 : lw_tbl[1219]? = some (Cond.code ⟨"SoupNine$Town", "trailFrom", "(IZ)I"⟩ prog_11_method_15_code 6 (some FieldType.int)) := by rfl
set_option maxRecDepth 100000 in
theorem xmc_55 : lw_tbl[277]? = some (Cond.code ⟨"SoupNine$Book", "<init>", "()V"⟩ prog_2_method_1_code 1 none) := by rfl
set_option maxRecDepth 100000 in
theorem xmc_56 : lw_tbl[600]? = some (Cond.code ⟨"SoupNine$Book", "lotRow", "(I)I"⟩ prog_2_method_13_code 1 (some FieldType.int)) := by rfl
set_option maxRecDepth 100000 in
theorem xmc_57 : lw_tbl[815]? = some (Cond.code ⟨"SoupNine$Book", "addNight", "(II)V"⟩ prog_2_method_3_code 4 none) := by rfl
set_option maxRecDepth 100000 in
theorem xmc_58 : lw_tbl[819]? = some (Cond.code ⟨"SoupNine$Book", "setAsked", "(II)V"⟩ prog_2_method_4_code 3 none) := by rfl
set_option maxRecDepth 100000 in
theorem xmc_59 : lw_tbl[854]? = some (Cond.code ⟨"SoupNine$Book", "copyFrom", "(LSoupNine$Book;)V"⟩ prog_2_method_2_code 2 none) := by rfl
set_option maxRecDepth 100000 in
theorem xmc_60 : lw_tbl[1246]? = some (Cond.code ⟨"SoupNine$Book", "detail", "(II)I"⟩ prog_2_method_16_code 3 (some FieldType.int)) := by rfl
set_option maxRecDepth 100000 in
theorem xmc_61 : lw_tbl[1254]? = some (Cond.code ⟨"SoupNine$Book", "unlikeAheadOf", "(I)I"⟩ prog_2_method_5_code 4 (some FieldType.int)) := by rfl
set_option maxRecDepth 100000 in
theorem xmc_62 : lw_tbl[1258]? = some (Cond.code ⟨"SoupNine$Book", "heldInAll", "(Z)I"⟩ prog_2_method_6_code 5 (some FieldType.int)) := by rfl
set_option maxRecDepth 100000 in
theorem xmc_63 : lw_tbl[1264]? = some (Cond.code ⟨"SoupNine$Book", "doorway", "()I"⟩ prog_2_method_7_code 5 (some FieldType.int)) := by rfl
set_option maxRecDepth 100000 in
theorem xmc_64 : lw_tbl[1268]? = some (Cond.code ⟨"SoupNine$Book", "moreFrom", "(I)I"⟩ prog_2_method_9_code 3 (some FieldType.int)) := by rfl
set_option maxRecDepth 100000 in
theorem xmc_65 : lw_tbl[1272]? = some (Cond.code ⟨"SoupNine$Book", "seenAheadOf", "(I)I"⟩ prog_2_method_10_code 4 (some FieldType.int)) := by rfl
set_option maxRecDepth 100000 in
theorem xmc_66 : lw_tbl[1276]? = some (Cond.code ⟨"SoupNine$Book", "doorwayDifference", "(Z)I"⟩ prog_2_method_8_code 3 (some FieldType.int)) := by rfl
set_option maxRecDepth 100000 in
theorem xmc_67 : lw_tbl[1286]? = some (Cond.code ⟨"SoupNine$Book", "enoughOn", "(II)I"⟩ prog_2_method_14_code 6 (some FieldType.int)) := by rfl
set_option maxRecDepth 100000 in
theorem xmc_68 : lw_tbl[1298]? = some (Cond.code ⟨"SoupNine$Book", "chanceOfAsMany", "(LSoupNine$Book;[IZ)J"⟩ prog_2_method_11_code 11 (some FieldType.long)) := by rfl
set_option maxRecDepth 100000 in
theorem xmc_69 : lw_tbl[1305]? = some (Cond.code ⟨"SoupNine$Book", "maybePick", "(I[I)V"⟩ prog_2_method_12_code 7 none) := by rfl
set_option maxRecDepth 100000 in
theorem xmc_70 : lw_tbl[1314]? = some (Cond.code ⟨"SoupNine$Book", "couplesWith", "(LSoupNine$Book;I)I"⟩ prog_2_method_15_code 6 (some FieldType.int)) := by rfl
set_option maxRecDepth 100000 in
theorem xmc_71 : lw_tbl[489]? = some (Cond.code ⟨"SoupNine$Bowls", "<init>", "()V"⟩ prog_3_method_1_code 1 none) := by rfl
set_option maxRecDepth 100000 in
theorem xmc_72 : lw_tbl[871]? = some (Cond.code ⟨"SoupNine$Bowls", "forget", "()V"⟩ prog_3_method_2_code 1 none) := by rfl
set_option maxRecDepth 100000 in
theorem xmc_73 : lw_tbl[1034]? = some (Cond.code ⟨"SoupNine$Bowls", "bestGift", "(LSoupNine$Town;III)I"⟩ prog_3_method_3_code 7 (some FieldType.int)) := by rfl
set_option maxRecDepth 100000 in
theorem xmc_74 : lw_tbl[1038]? = some (Cond.code ⟨"SoupNine$Bowls", "prepare", "(LSoupNine$Town;)V"⟩ prog_3_method_7_code 4 none) := by rfl
set_option maxRecDepth 100000 in
theorem xmc_75 : lw_tbl[1042]? = some (Cond.code ⟨"SoupNine$Bowls", "countsOverAll", "(LSoupNine$Town;II)J"⟩ prog_3_method_8_code 13 (some FieldType.long)) := by rfl
set_option maxRecDepth 100000 in
theorem xmc_76 : lw_tbl[1053]? = some (Cond.code ⟨"SoupNine$Bowls", "countsAfter", "(LSoupNine$Town;IIII)J"⟩ prog_3_method_6_code 6 (some FieldType.long)) := by rfl
set_option maxRecDepth 100000 in
theorem xmc_77 : lw_tbl[1062]? = some (Cond.code ⟨"SoupNine$Bowls", "meanFrom", "(LSoupNine$Town;IIZ)J"⟩ prog_3_method_4_code 5 (some FieldType.long)) := by rfl
set_option maxRecDepth 100000 in
theorem xmc_78 : lw_tbl[1084]? = some (Cond.code ⟨"SoupNine$Bowls", "meanOnceTold", "(LSoupNine$Town;IIZ)J"⟩ prog_3_method_5_code 6 (some FieldType.long)) := by rfl
set_option maxRecDepth 100000 in
theorem xmc_79 : lw_tbl[1093]? = some (Cond.code ⟨"SoupNine$Bowls", "chanceOfMore", "(LSoupNine$Town;IZ)J"⟩ prog_3_method_9_code 7 (some FieldType.long)) := by rfl
set_option maxRecDepth 100000 in
theorem xmc_80 : lw_tbl[1100]? = some (Cond.code ⟨"SoupNine$Bowls", "waysTo", "(III)J"⟩ prog_3_method_10_code 7 (some FieldType.long)) := by rfl
set_option maxRecDepth 100000 in
theorem xmc_81 : lw_tbl[509]? = some (Cond.code ⟨"SoupNine$Routes", "<init>", "()V"⟩ prog_7_method_1_code 1 none) := by rfl
set_option maxRecDepth 100000 in
theorem xmc_82 : lw_tbl[875]? = some (Cond.code ⟨"SoupNine$Routes", "forget", "()V"⟩ prog_7_method_2_code 1 none) := by rfl
set_option maxRecDepth 100000 in
theorem xmc_83 : lw_tbl[1108]? = some (Cond.code ⟨"SoupNine$Routes", "prepare", "(LSoupNine$Town;)V"⟩ prog_7_method_3_code 2 none) := by rfl
set_option maxRecDepth 100000 in
theorem xmc_84 : lw_tbl[1112]? = some (Cond.code ⟨"SoupNine$Routes", "measure", "(LSoupNine$Town;)V"⟩ prog_7_method_4_code 4 none) := by rfl
set_option maxRecDepth 100000 in
theorem xmc_85 : lw_tbl[1118]? = some (Cond.code ⟨"SoupNine$Routes", "findPaths", "(LSoupNine$Town;)V"⟩ prog_7_method_5_code 5 none) := by rfl
set_option maxRecDepth 100000 in
theorem xmc_86 : lw_tbl[1122]? = some (Cond.code ⟨"SoupNine$Routes", "has", "(II)Z"⟩ prog_7_method_11_code 2 (some FieldType.boolean)) := by rfl
set_option maxRecDepth 100000 in
theorem xmc_87 : lw_tbl[1126]? = some (Cond.code ⟨"SoupNine$Routes", "shortest", "(LSoupNine$Town;II)I"⟩ prog_7_method_6_code 6 (some FieldType.int)) := by rfl
set_option maxRecDepth 100000 in
theorem xmc_88 : lw_tbl[1131]? = some (Cond.code ⟨"SoupNine$Routes", "findRound", "(LSoupNine$Town;)V"⟩ prog_7_method_7_code 8 none) := by rfl
set_option maxRecDepth 100000 in
theorem xmc_89 : lw_tbl[1135]? = some (Cond.code ⟨"SoupNine$Routes", "findBestOfWay", "(LSoupNine$Town;)V"⟩ prog_7_method_12_code 4 none) := by rfl
set_option maxRecDepth 100000 in
theorem xmc_90 : lw_tbl[1139]? = some (Cond.code ⟨"SoupNine$Routes", "isPeopled", "(I)Z"⟩ prog_7_method_10_code 2 (some FieldType.boolean)) := by rfl
set_option maxRecDepth 100000 in
theorem xmc_91 : lw_tbl[1143]? = some (Cond.code ⟨"SoupNine$Routes", "fewestMinutes", "(LSoupNine$Town;I)I"⟩ prog_7_method_13_code 5 (some FieldType.int)) := by rfl
set_option maxRecDepth 100000 in
theorem xmc_92 : lw_tbl[1147]? = some (Cond.code ⟨"SoupNine$Routes", "isWarm", "(LSoupNine$Town;II)Z"⟩ prog_7_method_8_code 4 (some FieldType.boolean)) := by rfl
set_option maxRecDepth 100000 in
theorem xmc_93 : lw_tbl[1151]? = some (Cond.code ⟨"SoupNine$Routes", "doneAt", "(II)I"⟩ prog_7_method_9_code 3 (some FieldType.int)) := by rfl
set_option maxRecDepth 100000 in
theorem xmc_94 : lw_tbl[1155]? = some (Cond.code ⟨"SoupNine$Routes", "findWay", "(LSoupNine$Town;)V"⟩ prog_7_method_14_code 6 none) := by rfl
set_option maxRecDepth 100000 in
theorem xmc_95 : lw_tbl[1159]? = some (Cond.code ⟨"SoupNine$Routes", "isBest", "(LSoupNine$Town;II)Z"⟩ prog_7_method_15_code 4 (some FieldType.boolean)) := by rfl
set_option maxRecDepth 100000 in
theorem xmc_96 : lw_tbl[1163]? = some (Cond.code ⟨"SoupNine$Routes", "nextOf", "(LSoupNine$Town;II)I"⟩ prog_7_method_16_code 7 (some FieldType.int)) := by rfl
set_option maxRecDepth 100000 in
theorem xmc_97 : lw_tbl[1175]? = some (Cond.code ⟨"SoupNine$Routes", "talksAtFirst", "(LSoupNine$Town;)I"⟩ prog_7_method_18_code 2 (some FieldType.int)) := by rfl
set_option maxRecDepth 100000 in
theorem xmc_98 : lw_tbl[1179]? = some (Cond.code ⟨"SoupNine$Routes", "talksAheadOfLast", "(LSoupNine$Town;)I"⟩ prog_7_method_19_code 3 (some FieldType.int)) := by rfl
set_option maxRecDepth 100000 in
theorem xmc_99 : lw_tbl[1188]? = some (Cond.code ⟨"SoupNine$Routes", "mostWarmWithout", "(LSoupNine$Town;I)I"⟩ prog_7_method_17_code 5 (some FieldType.int)) := by rfl
set_option maxRecDepth 100000 in
theorem xmc_100 : lw_tbl[1205]? = some (Cond.code ⟨"SoupNine$Routes", "stopsOfFirstVan", "()I"⟩ prog_7_method_22_code 3 (some FieldType.int)) := by rfl
set_option maxRecDepth 100000 in
theorem xmc_101 : lw_tbl[1209]? = some (Cond.code ⟨"SoupNine$Routes", "homeLast", "(I)I"⟩ prog_7_method_21_code 2 (some FieldType.int)) := by rfl
set_option maxRecDepth 100000 in
theorem xmc_102 : lw_tbl[1233]? = some (Cond.code ⟨"SoupNine$Routes", "stopsToTalkAt", "(LSoupNine$Town;)I"⟩ prog_7_method_20_code 7 (some FieldType.int)) := by rfl
set_option maxRecDepth 100000 in
theorem xmc_103 : lw_tbl[566]? = some (Cond.code ⟨"SoupNine$Search", "<init>", "()V"⟩ prog_8_method_1_code 1 none) := by rfl
set_option maxRecDepth 100000 in
theorem xmc_104 : lw_tbl[879]? = some (Cond.code ⟨"SoupNine$Search", "forget", "()V"⟩ prog_8_method_2_code 1 none) := by rfl
set_option maxRecDepth 100000 in
theorem xmc_105 : lw_tbl[1338]? = some (Cond.code ⟨"SoupNine$Search", "prepare", "(LSoupNine$Sheet;)V"⟩ prog_8_method_3_code 2 none) := by rfl
set_option maxRecDepth 100000 in
theorem xmc_106 : lw_tbl[1342]? = some (Cond.code ⟨"SoupNine$Search", "findNeed", "(LSoupNine$Sheet;)V"⟩ prog_8_method_4_code 6 none) := by rfl
set_option maxRecDepth 100000 in
theorem xmc_107 : lw_tbl[1346]? = some (Cond.code ⟨"SoupNine$Search", "needWith", "(LSoupNine$Sheet;III)I"⟩ prog_8_method_5_code 6 (some FieldType.int)) := by rfl
set_option maxRecDepth 100000 in
theorem xmc_108 : lw_tbl[1355]? = some (Cond.code ⟨"SoupNine$Search", "findShoes", "(LSoupNine$Sheet;)V"⟩ prog_8_method_6_code 5 none) := by rfl
set_option maxRecDepth 100000 in
theorem xmc_109 : lw_tbl[1359]? = some (Cond.code ⟨"SoupNine$Search", "findWalked", "(LSoupNine$Sheet;)V"⟩ prog_8_method_7_code 5 none) := by rfl
set_option maxRecDepth 100000 in
theorem xmc_110 : lw_tbl[1363]? = some (Cond.code ⟨"SoupNine$Search", "leastWalked", "(LSoupNine$Sheet;II)I"⟩ prog_8_method_8_code 6 (some FieldType.int)) := by rfl
set_option maxRecDepth 100000 in
theorem xmc_111 : lw_tbl[1368]? = some (Cond.code ⟨"SoupNine$Search", "walkedBy", "(LSoupNine$Sheet;III)I"⟩ prog_8_method_9_code 5 (some FieldType.int)) := by rfl
set_option maxRecDepth 100000 in
theorem xmc_112 : lw_tbl[1378]? = some (Cond.code ⟨"SoupNine$Search", "findHides", "(LSoupNine$Sheet;)V"⟩ prog_8_method_10_code 8 none) := by rfl
set_option maxRecDepth 100000 in
theorem xmc_113 : lw_tbl[446]? = some (Cond.code ⟨"SoupNine$Walk", "<init>", "()V"⟩ prog_12_method_1_code 1 none) := by rfl
set_option maxRecDepth 100000 in
theorem xmc_114 : lw_tbl[944]? = some (Cond.code ⟨"SoupNine$Walk", "begin", "(LSoupNine$Town;)V"⟩ prog_12_method_2_code 3 none) := by rfl
set_option maxRecDepth 100000 in
theorem xmc_115 : lw_tbl[952]? = some (Cond.code ⟨"SoupNine$Walk", "follow", "(LSoupNine$Town;LSoupNine$Evening;I)I"⟩ prog_12_method_3_code 5 (some FieldType.int)) := by rfl
set_option maxRecDepth 100000 in
theorem xmc_116 : lw_tbl[956]? = some (Cond.code ⟨"SoupNine$Walk", "perform", "(LSoupNine$Town;II)Z"⟩ prog_12_method_6_code 4 (some FieldType.boolean)) := by rfl
set_option maxRecDepth 100000 in
theorem xmc_117 : lw_tbl[961]? = some (Cond.code ⟨"SoupNine$Walk", "driveTo", "(LSoupNine$Town;I)Z"⟩ prog_12_method_8_code 3 (some FieldType.boolean)) := by rfl
set_option maxRecDepth 100000 in
theorem xmc_118 : lw_tbl[980]? = some (Cond.code ⟨"SoupNine$Walk", "spend", "(I)Z"⟩ prog_12_method_7_code 2 (some FieldType.boolean)) := by rfl
set_option maxRecDepth 100000 in
theorem xmc_119 : lw_tbl[984]? = some (Cond.code ⟨"SoupNine$Walk", "ladle", "(LSoupNine$Town;I)Z"⟩ prog_12_method_10_code 6 (some FieldType.boolean)) := by rfl
set_option maxRecDepth 100000 in
theorem xmc_120 : lw_tbl[989]? = some (Cond.code ⟨"SoupNine$Walk", "sendOn", "(LSoupNine$Town;I)V"⟩ prog_12_method_11_code 5 none) := by rfl
set_option maxRecDepth 100000 in
theorem xmc_121 : lw_tbl[994]? = some (Cond.code ⟨"SoupNine$Walk", "talk", "(LSoupNine$Town;)Z"⟩ prog_12_method_9_code 2 (some FieldType.boolean)) := by rfl
set_option maxRecDepth 100000 in
theorem xmc_122 : lw_tbl[1002]? = some (Cond.code ⟨"SoupNine$Walk", "detail", "(LSoupNine$Town;I)I"⟩ prog_12_method_12_code 3 (some FieldType.int)) := by rfl
set_option maxRecDepth 100000 in
theorem xmc_123 : lw_tbl[1006]? = some (Cond.code ⟨"SoupNine$Walk", "detailOfStop", "(II)I"⟩ prog_12_method_13_code 3 (some FieldType.int)) := by rfl
set_option maxRecDepth 100000 in
theorem xmc_124 : lw_tbl[1014]? = some (Cond.code ⟨"SoupNine$Walk", "draw", "(LSoupNine$Town;II)V"⟩ prog_12_method_4_code 6 none) := by rfl
set_option maxRecDepth 100000 in
theorem xmc_125 : lw_tbl[1018]? = some (Cond.code ⟨"SoupNine$Walk", "below", "(I)I"⟩ prog_12_method_5_code 2 (some FieldType.int)) := by rfl
set_option maxRecDepth 100000 in
theorem xmc_126 : lw_tbl[380]? = some (Cond.code ⟨"SoupNine$Reader", "<init>", "([B)V"⟩ prog_6_method_1_code 2 none) := by rfl
set_option maxRecDepth 100000 in
theorem xmc_127 : lw_tbl[649]? = some (Cond.code ⟨"SoupNine$Reader", "readText", "(II)V"⟩ prog_6_method_2_code 4 none) := by rfl
set_option maxRecDepth 100000 in
theorem xmc_128 : lw_tbl[653]? = some (Cond.code ⟨"SoupNine$Reader", "begin", "(I)V"⟩ prog_6_method_3_code 2 none) := by rfl
set_option maxRecDepth 100000 in
theorem xmc_129 : lw_tbl[668]? = some (Cond.code ⟨"SoupNine$Reader", "advance", "()V"⟩ prog_6_method_15_code 1 none) := by rfl
set_option maxRecDepth 100000 in
theorem xmc_130 : lw_tbl[671]? = some (Cond.code ⟨"SoupNine$Reader", "isLetter", "(B)Z"⟩ prog_6_method_17_code 1 (some FieldType.boolean)) := by rfl
set_option maxRecDepth 100000 in
theorem xmc_131 : lw_tbl[674]? = some (Cond.code ⟨"SoupNine$Reader", "isDigit", "(B)Z"⟩ prog_6_method_18_code 1 (some FieldType.boolean)) := by rfl
set_option maxRecDepth 100000 in
theorem xmc_132 : lw_tbl[678]? = some (Cond.code ⟨"SoupNine$Reader", "readDigits", "()V"⟩ prog_6_method_16_code 1 none) := by rfl
set_option maxRecDepth 100000 in
theorem xmc_133 : lw_tbl[682]? = some (Cond.code ⟨"SoupNine$Reader", "readLine", "(I)Z"⟩ prog_6_method_5_code 3 (some FieldType.boolean)) := by rfl
set_option maxRecDepth 100000 in
theorem xmc_134 : lw_tbl[686]? = some (Cond.code ⟨"SoupNine$Reader", "codeOf", "(I)I"⟩ prog_6_method_6_code 3 (some FieldType.int)) := by rfl
set_option maxRecDepth 100000 in
theorem xmc_135 : lw_tbl[691]? = some (Cond.code ⟨"SoupNine$Reader", "wordOf", "(I)Ljava/lang/String;"⟩ prog_6_method_13_code 1 (some (FieldType.object "java/lang/String"))) := by rfl
set_option maxRecDepth 100000 in
theorem xmc_136 : lw_tbl[714]? = some (Cond.code ⟨"SoupNine$Reader", "isWord", "(Ljava/lang/String;)Z"⟩ prog_6_method_14_code 3 (some FieldType.boolean)) := by rfl
set_option maxRecDepth 100000 in
theorem xmc_137 : lw_tbl[766]? = some (Cond.code ⟨"SoupNine$Reader", "checkRoom", "(I)V"⟩ prog_6_method_7_code 2 none) := by rfl
set_option maxRecDepth 100000 in
theorem xmc_138 : lw_tbl[770]? = some (Cond.code ⟨"SoupNine$Reader", "noteFault", "(II)V"⟩ prog_6_method_4_code 3 none) := by rfl
set_option maxRecDepth 100000 in
theorem xmc_139 : lw_tbl[774]? = some (Cond.code ⟨"SoupNine$Reader", "readThing", "()Z"⟩ prog_6_method_8_code 1 (some FieldType.boolean)) := by rfl
set_option maxRecDepth 100000 in
theorem xmc_140 : lw_tbl[781]? = some (Cond.code ⟨"SoupNine$Reader", "readNumbers", "(I)Z"⟩ prog_6_method_9_code 3 (some FieldType.boolean)) := by rfl
set_option maxRecDepth 100000 in
theorem xmc_141 : lw_tbl[787]? = some (Cond.code ⟨"SoupNine$Reader", "canBe", "(II)Z"⟩ prog_6_method_10_code 3 (some FieldType.boolean)) := by rfl
set_option maxRecDepth 100000 in
theorem xmc_142 : lw_tbl[795]? = some (Cond.code ⟨"SoupNine$Reader", "tellLine", "(I)V"⟩ prog_6_method_11_code 2 none) := by rfl
set_option maxRecDepth 100000 in
theorem xmc_143 : lw_tbl[803]? = some (Cond.code ⟨"SoupNine$Reader", "tellOfTown", "(I)V"⟩ prog_6_method_12_code 2 none) := by rfl
set_option maxRecDepth 100000 in
theorem xmc_144 : lw_tbl[176]? = some (Cond.code ⟨"SoupNine$Told", "<init>", "()V"⟩ prog_10_method_1_code 1 none) := by rfl
set_option maxRecDepth 100000 in
theorem xmc_145 : lw_tbl[633]? = some (Cond.code ⟨"SoupNine$Told", "addBytes", "(I)V"⟩ prog_10_method_2_code 3 none) := by rfl
set_option maxRecDepth 100000 in
theorem xmc_146 : lw_tbl[895]? = some (Cond.code ⟨"SoupNine$Told", "copyFrom", "(LSoupNine$Told;)V"⟩ prog_10_method_3_code 3 none) := by rfl
set_option maxRecDepth 100000 in
theorem xmc_147 : lw_tbl[912]? = some (Cond.code ⟨"SoupNine$Told", "townAt", "(I)LSoupNine$Town;"⟩ prog_10_method_4_code 2 (some (FieldType.object "SoupNine$Town"))) := by rfl
set_option maxRecDepth 100000 in
theorem xmc_148 : lw_tbl[932]? = some (Cond.code ⟨"SoupNine$Told", "eveningAt", "(I)LSoupNine$Evening;"⟩ prog_10_method_5_code 2 (some (FieldType.object "SoupNine$Evening"))) := by rfl
set_option maxRecDepth 100000 in
theorem xmc_149 : lw_tbl[1242]? = some (Cond.code ⟨"SoupNine$Told", "bookAt", "(I)LSoupNine$Book;"⟩ prog_10_method_6_code 2 (some (FieldType.object "SoupNine$Book"))) := by rfl
set_option maxRecDepth 100000 in
theorem xmc_150 : lw_tbl[1322]? = some (Cond.code ⟨"SoupNine$Told", "sheetAt", "(I)LSoupNine$Sheet;"⟩ prog_10_method_7_code 2 (some (FieldType.object "SoupNine$Sheet"))) := by rfl
set_option maxRecDepth 100000 in
theorem xmc_151 : lw_tbl[168]? = some (Cond.code ⟨"SoupNine", "<init>", "()V"⟩ prog_1_method_1_code 1 none) := by rfl
set_option maxRecDepth 100000 in
theorem xmc_152 : lw_tbl[629]? = some (Cond.code ⟨"SoupNine", "feed", "(IIIII)I"⟩ prog_1_method_2_code 6 (some FieldType.int)) := by rfl
set_option maxRecDepth 100000 in
theorem xmc_153 : lw_tbl[637]? = some (Cond.code ⟨"SoupNine", "end", "(I)I"⟩ prog_1_method_3_code 2 (some FieldType.int)) := by rfl
set_option maxRecDepth 100000 in
theorem xmc_154 : lw_tbl[641]? = some (Cond.code ⟨"SoupNine", "text", "(II)I"⟩ prog_1_method_4_code 5 (some FieldType.int)) := by rfl
set_option maxRecDepth 100000 in
theorem xmc_155 : lw_tbl[645]? = some (Cond.code ⟨"SoupNine", "placeFor", "(II)I"⟩ prog_1_method_5_code 4 (some FieldType.int)) := by rfl
set_option maxRecDepth 100000 in
theorem xmc_156 : lw_tbl[822]? = some (Cond.code ⟨"SoupNine", "isThing", "(I)Z"⟩ prog_1_method_37_code 1 (some FieldType.boolean)) := by rfl
set_option maxRecDepth 100000 in
theorem xmc_157 : lw_tbl[838]? = some (Cond.code ⟨"SoupNine", "keepDraft", "(II)V"⟩ prog_1_method_6_code 3 none) := by rfl
set_option maxRecDepth 100000 in
theorem xmc_158 : lw_tbl[867]? = some (Cond.code ⟨"SoupNine", "forgetAll", "()V"⟩ prog_1_method_7_code 1 none) := by rfl
set_option maxRecDepth 100000 in
theorem xmc_159 : lw_tbl[883]? = some (Cond.code ⟨"SoupNine", "fault", "(I)I"⟩ prog_1_method_8_code 2 (some FieldType.int)) := by rfl
set_option maxRecDepth 100000 in
theorem xmc_160 : lw_tbl[887]? = some (Cond.code ⟨"SoupNine", "count", "(I)I"⟩ prog_1_method_9_code 2 (some FieldType.int)) := by rfl
set_option maxRecDepth 100000 in
theorem xmc_161 : lw_tbl[891]? = some (Cond.code ⟨"SoupNine", "image", "(I)Z"⟩ prog_1_method_10_code 3 (some FieldType.boolean)) := by rfl
set_option maxRecDepth 100000 in
theorem xmc_162 : lw_tbl[904]? = some (Cond.code ⟨"SoupNine", "again", "(I)Z"⟩ prog_1_method_11_code 3 (some FieldType.boolean)) := by rfl
set_option maxRecDepth 100000 in
theorem xmc_163 : lw_tbl[908]? = some (Cond.code ⟨"SoupNine", "town", "(II)I"⟩ prog_1_method_12_code 4 (some FieldType.int)) := by rfl
set_option maxRecDepth 100000 in
theorem xmc_164 : lw_tbl[928]? = some (Cond.code ⟨"SoupNine", "deed", "(III)I"⟩ prog_1_method_13_code 5 (some FieldType.int)) := by rfl
set_option maxRecDepth 100000 in
theorem xmc_165 : lw_tbl[940]? = some (Cond.code ⟨"SoupNine", "till", "(II)I"⟩ prog_1_method_14_code 5 (some FieldType.int)) := by rfl
set_option maxRecDepth 100000 in
theorem xmc_166 : lw_tbl[998]? = some (Cond.code ⟨"SoupNine", "state", "(IIII)I"⟩ prog_1_method_15_code 7 (some FieldType.int)) := by rfl
set_option maxRecDepth 100000 in
theorem xmc_167 : lw_tbl[1010]? = some (Cond.code ⟨"SoupNine", "drawn", "(IIII)I"⟩ prog_1_method_16_code 6 (some FieldType.int)) := by rfl
set_option maxRecDepth 100000 in
theorem xmc_168 : lw_tbl[1023]? = some (Cond.code ⟨"SoupNine", "give", "(IIII)I"⟩ prog_1_method_17_code 6 (some FieldType.int)) := by rfl
set_option maxRecDepth 100000 in
theorem xmc_169 : lw_tbl[1026]? = some (Cond.code ⟨"SoupNine", "isSoup", "(I)Z"⟩ prog_1_method_22_code 1 (some FieldType.boolean)) := by rfl
set_option maxRecDepth 100000 in
theorem xmc_170 : lw_tbl[1057]? = some (Cond.code ⟨"SoupNine", "mean", "(IIIZ)J"⟩ prog_1_method_18_code 6 (some FieldType.long)) := by rfl
set_option maxRecDepth 100000 in
theorem xmc_171 : lw_tbl[1072]? = some (Cond.code ⟨"SoupNine", "safe", "(I)I"⟩ prog_1_method_19_code 3 (some FieldType.int)) := by rfl
set_option maxRecDepth 100000 in
theorem xmc_172 : lw_tbl[1080]? = some (Cond.code ⟨"SoupNine", "tells", "(IIIZ)J"⟩ prog_1_method_20_code 6 (some FieldType.long)) := by rfl
set_option maxRecDepth 100000 in
theorem xmc_173 : lw_tbl[1089]? = some (Cond.code ⟨"SoupNine", "lack", "(IIZ)J"⟩ prog_1_method_21_code 5 (some FieldType.long)) := by rfl
set_option maxRecDepth 100000 in
theorem xmc_174 : lw_tbl[1104]? = some (Cond.code ⟨"SoupNine", "way", "(II)I"⟩ prog_1_method_23_code 4 (some FieldType.int)) := by rfl
set_option maxRecDepth 100000 in
theorem xmc_175 : lw_tbl[1167]? = some (Cond.code ⟨"SoupNine", "round", "(II)I"⟩ prog_1_method_24_code 4 (some FieldType.int)) := by rfl
set_option maxRecDepth 100000 in
theorem xmc_176 : lw_tbl[1171]? = some (Cond.code ⟨"SoupNine", "talks", "(I)I"⟩ prog_1_method_25_code 3 (some FieldType.int)) := by rfl
set_option maxRecDepth 100000 in
theorem xmc_177 : lw_tbl[1183]? = some (Cond.code ⟨"SoupNine", "lost", "(II)I"⟩ prog_1_method_26_code 4 (some FieldType.int)) := by rfl
set_option maxRecDepth 100000 in
theorem xmc_178 : lw_tbl[1192]? = some (Cond.code ⟨"SoupNine", "depot", "(IZ)I"⟩ prog_1_method_27_code 8 (some FieldType.int)) := by rfl
set_option maxRecDepth 100000 in
theorem xmc_179 : lw_tbl[1201]? = some (Cond.code ⟨"SoupNine", "vans", "(IZ)I"⟩ prog_1_method_28_code 5 (some FieldType.int)) := by rfl
set_option maxRecDepth 100000 in
theorem xmc_180 : lw_tbl[1215]? = some (Cond.code ⟨"SoupNine", "trail", "(IIZ)I"⟩ prog_1_method_29_code 5 (some FieldType.int)) := by rfl
set_option maxRecDepth 100000 in
theorem xmc_181 : lw_tbl[1229]? = some (Cond.code ⟨"SoupNine", "chat", "(IZ)I"⟩ prog_1_method_30_code 5 (some FieldType.int)) := by rfl
set_option maxRecDepth 100000 in
theorem xmc_182 : lw_tbl[1238]? = some (Cond.code ⟨"SoupNine", "book", "(III)I"⟩ prog_1_method_31_code 5 (some FieldType.int)) := by rfl
set_option maxRecDepth 100000 in
theorem xmc_183 : lw_tbl[1250]? = some (Cond.code ⟨"SoupNine", "held", "(II)I"⟩ prog_1_method_32_code 4 (some FieldType.int)) := by rfl
set_option maxRecDepth 100000 in
theorem xmc_184 : lw_tbl[1281]? = some (Cond.code ⟨"SoupNine", "bring", "(III)I"⟩ prog_1_method_33_code 5 (some FieldType.int)) := by rfl
set_option maxRecDepth 100000 in
theorem xmc_185 : lw_tbl[1290]? = some (Cond.code ⟨"SoupNine", "span", "(IIZ)I"⟩ prog_1_method_34_code 5 (some FieldType.int)) := by rfl
set_option maxRecDepth 100000 in
theorem xmc_186 : lw_tbl[1294]? = some (Cond.code ⟨"SoupNine", "lot", "(IIZ)J"⟩ prog_1_method_35_code 6 (some FieldType.long)) := by rfl
set_option maxRecDepth 100000 in
theorem xmc_187 : lw_tbl[1310]? = some (Cond.code ⟨"SoupNine", "like", "(III)I"⟩ prog_1_method_36_code 6 (some FieldType.int)) := by rfl
set_option maxRecDepth 100000 in
theorem xmc_188 : lw_tbl[1318]? = some (Cond.code ⟨"SoupNine", "list", "(II)I"⟩ prog_1_method_38_code 4 (some FieldType.int)) := by rfl
set_option maxRecDepth 100000 in
theorem xmc_189 : lw_tbl[1334]? = some (Cond.code ⟨"SoupNine", "shod", "(II)I"⟩ prog_1_method_39_code 4 (some FieldType.int)) := by rfl
set_option maxRecDepth 100000 in
theorem xmc_190 : lw_tbl[1382]? = some (Cond.code ⟨"SoupNine", "look", "(II)I"⟩ prog_1_method_40_code 4 (some FieldType.int)) := by rfl
set_option maxRecDepth 100000 in
theorem xmc_191 : lw_tbl[1387]? = some (Cond.code ⟨"SoupNine", "worry", "(IIIZ)J"⟩ prog_1_method_41_code 5 (some FieldType.long)) := by rfl
set_option maxRecDepth 100000 in
theorem xmc_192 : lw_tbl[1390]? = some (Cond.code ⟨"SoupNine", "isOfTen", "(I)Z"⟩ prog_1_method_49_code 1 (some FieldType.boolean)) := by rfl
set_option maxRecDepth 100000 in
theorem xmc_193 : lw_tbl[1393]? = some (Cond.code ⟨"SoupNine", "isOfHundred", "(I)Z"⟩ prog_1_method_50_code 1 (some FieldType.boolean)) := by rfl
set_option maxRecDepth 100000 in
theorem xmc_194 : lw_tbl[1396]? = some (Cond.code ⟨"SoupNine", "unwell", "(II)J"⟩ prog_1_method_43_code 2 (some FieldType.long)) := by rfl
set_option maxRecDepth 100000 in
theorem xmc_195 : lw_tbl[1402]? = some (Cond.code ⟨"SoupNine", "wellButAway", "(III)J"⟩ prog_1_method_44_code 3 (some FieldType.long)) := by rfl
set_option maxRecDepth 100000 in
theorem xmc_196 : lw_tbl[1410]? = some (Cond.code ⟨"SoupNine", "when", "(III)I"⟩ prog_1_method_42_code 5 (some FieldType.int)) := by rfl
set_option maxRecDepth 100000 in
theorem xmc_197 : lw_tbl[1419]? = some (Cond.code ⟨"SoupNine", "sick", "(IIIIIZ)J"⟩ prog_1_method_45_code 7 (some FieldType.long)) := by rfl
set_option maxRecDepth 100000 in
theorem xmc_198 : lw_tbl[1422]? = some (Cond.code ⟨"SoupNine", "areSigns", "(IIII)Z"⟩ prog_1_method_47_code 4 (some FieldType.boolean)) := by rfl
set_option maxRecDepth 100000 in
theorem xmc_199 : lw_tbl[1425]? = some (Cond.code ⟨"SoupNine", "shown", "(III)J"⟩ prog_1_method_48_code 3 (some FieldType.long)) := by rfl
set_option maxRecDepth 100000 in
theorem xmc_200 : lw_tbl[1429]? = some (Cond.code ⟨"SoupNine", "call", "(IIIII)I"⟩ prog_1_method_46_code 7 (some FieldType.int)) := by rfl
set_option maxRecDepth 100000 in
theorem xmc_201 : lw_tbl[1433]? = some (Cond.code ⟨"SoupNine", "shared", "(IIIII)I"⟩ prog_1_method_51_code 8 (some FieldType.int)) := by rfl
set_option maxRecDepth 100000 in
theorem xmc_202 : lw_tbl[1436]? = some (Cond.code ⟨"SoupNine", "areDays", "(II)Z"⟩ prog_1_method_52_code 2 (some FieldType.boolean)) := by rfl
set_option maxRecDepth 100000 in
theorem xmc_203 : lw_tbl[1439]? = some (Cond.code ⟨"SoupNine", "vanDays", "(IIII)I"⟩ prog_1_method_53_code 8 (some FieldType.int)) := by rfl
set_option maxRecDepth 100000 in
theorem xmc_204 : lw_tbl[1444]? = some (Cond.code ⟨"SoupNine", "lowestBits", "(II)I"⟩ prog_1_method_54_code 4 (some FieldType.int)) := by rfl
set_option maxRecDepth 100000 in
theorem xmc_205 : lw_tbl[1448]? = some (Cond.code ⟨"SoupNine", "pair", "(III)I"⟩ prog_1_method_55_code 6 (some FieldType.int)) := by rfl
set_option maxRecDepth 100000 in
theorem xmc_206 : lw_tbl[1451]? = some (Cond.code ⟨"SoupNine", "alone", "(II)I"⟩ prog_1_method_56_code 3 (some FieldType.int)) := by rfl
set_option maxRecDepth 100000 in
theorem xmc_207 : lw_tbl[1459]? = some (Cond.code ⟨"SoupNineModel", "<init>", "()V"⟩ prog_14_method_1_code 1 none) := by rfl
set_option maxRecDepth 100000 in
theorem xmc_208 : lw_tbl[1637]? = some (Cond.code ⟨"SoupNineModel", "feed", "(IIIII)I"⟩ prog_14_method_13_code 6 (some FieldType.int)) := by rfl
set_option maxRecDepth 100000 in
theorem xmc_209 : lw_tbl[1641]? = some (Cond.code ⟨"SoupNineModel", "four", "(I)V"⟩ prog_14_method_14_code 3 none) := by rfl
set_option maxRecDepth 100000 in
theorem xmc_210 : lw_tbl[1645]? = some (Cond.code ⟨"SoupNineModel", "end", "(I)I"⟩ prog_14_method_15_code 2 (some FieldType.int)) := by rfl
set_option maxRecDepth 100000 in
theorem xmc_211 : lw_tbl[1648]? = some (Cond.code ⟨"SoupNineModel", "in", "(III)Z"⟩ prog_14_method_3_code 3 (some FieldType.boolean)) := by rfl
set_option maxRecDepth 100000 in
theorem xmc_212 : lw_tbl[1652]? = some (Cond.code ⟨"SoupNineModel", "text", "(II)I"⟩ prog_14_method_45_code 4 (some FieldType.int)) := by rfl
set_option maxRecDepth 100000 in
theorem xmc_213 : lw_tbl[1656]? = some (Cond.code ⟨"SoupNineModel", "is", "(II)Z"⟩ prog_14_method_12_code 3 (some FieldType.boolean)) := by rfl
set_option maxRecDepth 100000 in
theorem xmc_214 : lw_tbl[1660]? = some (Cond.code ⟨"SoupNineModel", "readText", "(I)Z"⟩ prog_14_method_42_code 3 (some FieldType.boolean)) := by rfl
set_option maxRecDepth 100000 in
theorem xmc_215 : lw_tbl[1664]? = some (Cond.code ⟨"SoupNineModel", "blank", "(I)V"⟩ prog_14_method_41_code 3 none) := by rfl
set_option maxRecDepth 100000 in
theorem xmc_216 : lw_tbl[1668]? = some (Cond.code ⟨"SoupNineModel", "token", "()V"⟩ prog_14_method_17_code 3 none) := by rfl
set_option maxRecDepth 100000 in
theorem xmc_217 : lw_tbl[1672]? = some (Cond.code ⟨"SoupNineModel", "see", "()I"⟩ prog_14_method_16_code 1 (some FieldType.int)) := by rfl
set_option maxRecDepth 100000 in
theorem xmc_218 : lw_tbl[1676]? = some (Cond.code ⟨"SoupNineModel", "lines", "(I)Z"⟩ prog_14_method_40_code 4 (some FieldType.boolean)) := by rfl
set_option maxRecDepth 100000 in
theorem xmc_219 : lw_tbl[1680]? = some (Cond.code ⟨"SoupNineModel", "lineOf", "(IJI)Z"⟩ prog_14_method_39_code 5 (some FieldType.boolean)) := by rfl
set_option maxRecDepth 100000 in
theorem xmc_220 : lw_tbl[1684]? = some (Cond.code ⟨"SoupNineModel", "townLine", "(JI)Z"⟩ prog_14_method_28_code 5 (some FieldType.boolean)) := by rfl
set_option maxRecDepth 100000 in
theorem xmc_221 : lw_tbl[1687]? = some (Cond.code ⟨"SoupNineModel", "kindBy", "(J)I"⟩ prog_14_method_24_code 2 (some FieldType.int)) := by rfl
set_option maxRecDepth 100000 in
theorem xmc_222 : lw_tbl[1701]? = some (Cond.code ⟨"SoupNineModel", "fails", "()Z"⟩ prog_14_method_18_code 1 (some FieldType.boolean)) := by rfl
set_option maxRecDepth 100000 in
theorem xmc_223 : lw_tbl[1705]? = some (Cond.code ⟨"SoupNineModel", "full", "(III)V"⟩ prog_14_method_22_code 4 none) := by rfl
set_option maxRecDepth 100000 in
theorem xmc_224 : lw_tbl[1709]? = some (Cond.code ⟨"SoupNineModel", "later", "(II)V"⟩ prog_14_method_19_code 3 none) := by rfl
set_option maxRecDepth 100000 in
theorem xmc_225 : lw_tbl[1713]? = some (Cond.code ⟨"SoupNineModel", "stopLine", "(I)Z"⟩ prog_14_method_25_code 3 (some FieldType.boolean)) := by rfl
set_option maxRecDepth 100000 in
theorem xmc_226 : lw_tbl[1717]? = some (Cond.code ⟨"SoupNineModel", "take", "(III)Z"⟩ prog_14_method_21_code 4 (some FieldType.boolean)) := by rfl
set_option maxRecDepth 100000 in
theorem xmc_227 : lw_tbl[1721]? = some (Cond.code ⟨"SoupNineModel", "takeBut", "(IIII)Z"⟩ prog_14_method_20_code 5 (some FieldType.boolean)) := by rfl
set_option maxRecDepth 100000 in
theorem xmc_228 : lw_tbl[1725]? = some (Cond.code ⟨"SoupNineModel", "followLine", "()Z"⟩ prog_14_method_26_code 1 (some FieldType.boolean)) := by rfl
set_option maxRecDepth 100000 in
theorem xmc_229 : lw_tbl[1728]? = some (Cond.code ⟨"SoupNineModel", "greater", "(II)I"⟩ prog_14_method_5_code 2 (some FieldType.int)) := by rfl
set_option maxRecDepth 100000 in
theorem xmc_230 : lw_tbl[1732]? = some (Cond.code ⟨"SoupNineModel", "homeLine", "()Z"⟩ prog_14_method_27_code 1 (some FieldType.boolean)) := by rfl
set_option maxRecDepth 100000 in
theorem xmc_231 : lw_tbl[1736]? = some (Cond.code ⟨"SoupNineModel", "plainLine", "(III)Z"⟩ prog_14_method_23_code 4 (some FieldType.boolean)) := by rfl
set_option maxRecDepth 100000 in
theorem xmc_232 : lw_tbl[1740]? = some (Cond.code ⟨"SoupNineModel", "dayLine", "(JI)Z"⟩ prog_14_method_31_code 5 (some FieldType.boolean)) := by rfl
set_option maxRecDepth 100000 in
theorem xmc_233 : lw_tbl[1743]? = some (Cond.code ⟨"SoupNineModel", "deedBy", "(J)I"⟩ prog_14_method_30_code 2 (some FieldType.int)) := by rfl
set_option maxRecDepth 100000 in
theorem xmc_234 : lw_tbl[1751]? = some (Cond.code ⟨"SoupNineModel", "keep", "(II)V"⟩ prog_14_method_29_code 5 none) := by rfl
set_option maxRecDepth 100000 in
theorem xmc_235 : lw_tbl[1755]? = some (Cond.code ⟨"SoupNineModel", "bookLine", "(JI)Z"⟩ prog_14_method_34_code 5 (some FieldType.boolean)) := by rfl
set_option maxRecDepth 100000 in
theorem xmc_236 : lw_tbl[1761]? = some (Cond.code ⟨"SoupNineModel", "askedLine", "(I)Z"⟩ prog_14_method_33_code 3 (some FieldType.boolean)) := by rfl
set_option maxRecDepth 100000 in
theorem xmc_237 : lw_tbl[1764]? = some (Cond.code ⟨"SoupNineModel", "thingBy", "(J)I"⟩ prog_14_method_32_code 2 (some FieldType.int)) := by rfl
set_option maxRecDepth 100000 in
theorem xmc_238 : lw_tbl[1771]? = some (Cond.code ⟨"SoupNineModel", "listLine", "(JI)Z"⟩ prog_14_method_38_code 4 (some FieldType.boolean)) := by rfl
set_option maxRecDepth 100000 in
theorem xmc_239 : lw_tbl[1778]? = some (Cond.code ⟨"SoupNineModel", "shoeLine", "()Z"⟩ prog_14_method_35_code 1 (some FieldType.boolean)) := by rfl
set_option maxRecDepth 100000 in
theorem xmc_240 : lw_tbl[1782]? = some (Cond.code ⟨"SoupNineModel", "footLine", "()Z"⟩ prog_14_method_36_code 1 (some FieldType.boolean)) := by rfl
set_option maxRecDepth 100000 in
theorem xmc_241 : lw_tbl[1786]? = some (Cond.code ⟨"SoupNineModel", "hideLine", "()Z"⟩ prog_14_method_37_code 1 (some FieldType.boolean)) := by rfl
set_option maxRecDepth 100000 in
theorem xmc_242 : lw_tbl[1790]? = some (Cond.code ⟨"SoupNineModel", "storeAll", "(II)V"⟩ prog_14_method_44_code 3 none) := by rfl
set_option maxRecDepth 100000 in
theorem xmc_243 : lw_tbl[1794]? = some (Cond.code ⟨"SoupNineModel", "store", "([III)V"⟩ prog_14_method_43_code 5 none) := by rfl
set_option maxRecDepth 100000 in
theorem xmc_244 : lw_tbl[1798]? = some (Cond.code ⟨"SoupNineModel", "fault", "(I)I"⟩ prog_14_method_46_code 2 (some FieldType.int)) := by rfl
set_option maxRecDepth 100000 in
theorem xmc_245 : lw_tbl[1802]? = some (Cond.code ⟨"SoupNineModel", "town", "(II)I"⟩ prog_14_method_50_code 3 (some FieldType.int)) := by rfl
set_option maxRecDepth 100000 in
theorem xmc_246 : lw_tbl[1806]? = some (Cond.code ⟨"SoupNineModel", "hand", "(I)Z"⟩ prog_14_method_48_code 2 (some FieldType.boolean)) := by rfl
set_option maxRecDepth 100000 in
theorem xmc_247 : lw_tbl[1810]? = some (Cond.code ⟨"SoupNineModel", "of", "(I)I"⟩ prog_14_method_47_code 2 (some FieldType.int)) := by rfl
set_option maxRecDepth 100000 in
theorem xmc_248 : lw_tbl[1814]? = some (Cond.code ⟨"SoupNineModel", "isStop", "(I)Z"⟩ prog_14_method_49_code 2 (some FieldType.boolean)) := by rfl
set_option maxRecDepth 100000 in
theorem xmc_249 : lw_tbl[1818]? = some (Cond.code ⟨"SoupNineModel", "deed", "(III)I"⟩ prog_14_method_54_code 4 (some FieldType.int)) := by rfl
set_option maxRecDepth 100000 in
theorem xmc_250 : lw_tbl[1822]? = some (Cond.code ⟨"SoupNineModel", "hasEvening", "(I)Z"⟩ prog_14_method_53_code 2 (some FieldType.boolean)) := by rfl
set_option maxRecDepth 100000 in
theorem xmc_251 : lw_tbl[1826]? = some (Cond.code ⟨"SoupNineModel", "deeds", "()I"⟩ prog_14_method_51_code 1 (some FieldType.int)) := by rfl
set_option maxRecDepth 100000 in
theorem xmc_252 : lw_tbl[1830]? = some (Cond.code ⟨"SoupNineModel", "deedOf", "(II)I"⟩ prog_14_method_52_code 3 (some FieldType.int)) := by rfl
set_option maxRecDepth 100000 in
theorem xmc_253 : lw_tbl[1834]? = some (Cond.code ⟨"SoupNineModel", "till", "(II)I"⟩ prog_14_method_68_code 3 (some FieldType.int)) := by rfl
set_option maxRecDepth 100000 in
theorem xmc_254 : lw_tbl[1838]? = some (Cond.code ⟨"SoupNineModel", "layAll", "(II)Z"⟩ prog_14_method_67_code 3 (some FieldType.boolean)) := by rfl
set_option maxRecDepth 100000 in
theorem xmc_255 : lw_tbl[1842]? = some (Cond.code ⟨"SoupNineModel", "play", "(I)I"⟩ prog_14_method_66_code 3 (some FieldType.int)) := by rfl
set_option maxRecDepth 100000 in
theorem xmc_256 : lw_tbl[1846]? = some (Cond.code ⟨"SoupNineModel", "begin", "()V"⟩ prog_14_method_60_code 2 none) := by rfl
set_option maxRecDepth 100000 in
theorem xmc_257 : lw_tbl[1850]? = some (Cond.code ⟨"SoupNineModel", "middle", "(I)I"⟩ prog_14_method_55_code 3 (some FieldType.int)) := by rfl
set_option maxRecDepth 100000 in
theorem xmc_258 : lw_tbl[1854]? = some (Cond.code ⟨"SoupNineModel", "does", "(II)Z"⟩ prog_14_method_65_code 3 (some FieldType.boolean)) := by rfl
set_option maxRecDepth 100000 in
theorem xmc_259 : lw_tbl[1858]? = some (Cond.code ⟨"SoupNineModel", "drivesTo", "(I)Z"⟩ prog_14_method_62_code 2 (some FieldType.boolean)) := by rfl
set_option maxRecDepth 100000 in
theorem xmc_260 : lw_tbl[1862]? = some (Cond.code ⟨"SoupNineModel", "drives", "(II)I"⟩ prog_14_method_58_code 3 (some FieldType.int)) := by rfl
set_option maxRecDepth 100000 in
theorem xmc_261 : lw_tbl[1866]? = some (Cond.code ⟨"SoupNineModel", "placeX", "(I)I"⟩ prog_14_method_56_code 2 (some FieldType.int)) := by rfl
set_option maxRecDepth 100000 in
theorem xmc_262 : lw_tbl[1869]? = some (Cond.code ⟨"SoupNineModel", "apart", "(II)I"⟩ prog_14_method_7_code 2 (some FieldType.int)) := by rfl
set_option maxRecDepth 100000 in
theorem xmc_263 : lw_tbl[1873]? = some (Cond.code ⟨"SoupNineModel", "placeY", "(I)I"⟩ prog_14_method_57_code 2 (some FieldType.int)) := by rfl
set_option maxRecDepth 100000 in
theorem xmc_264 : lw_tbl[1877]? = some (Cond.code ⟨"SoupNineModel", "takes", "(I)Z"⟩ prog_14_method_61_code 3 (some FieldType.boolean)) := by rfl
set_option maxRecDepth 100000 in
theorem xmc_265 : lw_tbl[1881]? = some (Cond.code ⟨"SoupNineModel", "ladles", "(I)Z"⟩ prog_14_method_63_code 6 (some FieldType.boolean)) := by rfl
set_option maxRecDepth 100000 in
theorem xmc_266 : lw_tbl[1884]? = some (Cond.code ⟨"SoupNineModel", "feeds", "(I)I"⟩ prog_14_method_59_code 1 (some FieldType.int)) := by rfl
set_option maxRecDepth 100000 in
theorem xmc_267 : lw_tbl[1887]? = some (Cond.code ⟨"SoupNineModel", "lesser", "(II)I"⟩ prog_14_method_6_code 2 (some FieldType.int)) := by rfl
set_option maxRecDepth 100000 in
theorem xmc_268 : lw_tbl[1891]? = some (Cond.code ⟨"SoupNineModel", "chats", "()Z"⟩ prog_14_method_64_code 1 (some FieldType.boolean)) := by rfl
set_option maxRecDepth 100000 in
theorem xmc_269 : lw_tbl[1895]? = some (Cond.code ⟨"SoupNineModel", "state", "(IIII)I"⟩ prog_14_method_71_code 5 (some FieldType.int)) := by rfl
set_option maxRecDepth 100000 in
theorem xmc_270 : lw_tbl[1899]? = some (Cond.code ⟨"SoupNineModel", "ofState", "(I)I"⟩ prog_14_method_70_code 3 (some FieldType.int)) := by rfl
set_option maxRecDepth 100000 in
theorem xmc_271 : lw_tbl[1903]? = some (Cond.code ⟨"SoupNineModel", "ofEvening", "(I)I"⟩ prog_14_method_69_code 2 (some FieldType.int)) := by rfl
set_option maxRecDepth 100000 in
theorem xmc_272 : lw_tbl[1907]? = some (Cond.code ⟨"SoupNineModel", "give", "(IIII)I"⟩ prog_14_method_77_code 5 (some FieldType.int)) := by rfl
set_option maxRecDepth 100000 in
theorem xmc_273 : lw_tbl[1911]? = some (Cond.code ⟨"SoupNineModel", "mayCome", "(II)Z"⟩ prog_14_method_76_code 3 (some FieldType.boolean)) := by rfl
set_option maxRecDepth 100000 in
theorem xmc_274 : lw_tbl[1915]? = some (Cond.code ⟨"SoupNineModel", "findCounts", "()V"⟩ prog_14_method_75_code 6 none) := by rfl
set_option maxRecDepth 100000 in
theorem xmc_275 : lw_tbl[1919]? = some (Cond.code ⟨"SoupNineModel", "gives", "(III)I"⟩ prog_14_method_74_code 6 (some FieldType.int)) := by rfl
set_option maxRecDepth 100000 in
theorem xmc_276 : lw_tbl[1923]? = some (Cond.code ⟨"SoupNineModel", "countsBy", "(IIII)J"⟩ prog_14_method_73_code 5 (some FieldType.long)) := by rfl
set_option maxRecDepth 100000 in
theorem xmc_277 : lw_tbl[1927]? = some (Cond.code ⟨"SoupNineModel", "weight", "(I)I"⟩ prog_14_method_72_code 2 (some FieldType.int)) := by rfl
set_option maxRecDepth 100000 in
theorem xmc_278 : lw_tbl[1931]? = some (Cond.code ⟨"SoupNineModel", "mean", "(IIIZ)J"⟩ prog_14_method_79_code 5 (some FieldType.long)) := by rfl
set_option maxRecDepth 100000 in
theorem xmc_279 : lw_tbl[1935]? = some (Cond.code ⟨"SoupNineModel", "part", "(JJZ)J"⟩ prog_14_method_78_code 5 (some FieldType.long)) := by rfl
set_option maxRecDepth 100000 in
theorem xmc_280 : lw_tbl[1938]? = some (Cond.code ⟨"SoupNineModel", "common", "(JJ)J"⟩ prog_14_method_9_code 10 (some FieldType.long)) := by rfl
set_option maxRecDepth 100000 in
theorem xmc_281 : lw_tbl[1942]? = some (Cond.code ⟨"SoupNineModel", "safe", "(I)I"⟩ prog_14_method_80_code 4 (some FieldType.int)) := by rfl
set_option maxRecDepth 100000 in
theorem xmc_282 : lw_tbl[1946]? = some (Cond.code ⟨"SoupNineModel", "way", "(II)I"⟩ prog_14_method_88_code 3 (some FieldType.int)) := by rfl
set_option maxRecDepth 100000 in
theorem xmc_283 : lw_tbl[1950]? = some (Cond.code ⟨"SoupNineModel", "findWay", "(I)V"⟩ prog_14_method_86_code 8 none) := by rfl
set_option maxRecDepth 100000 in
theorem xmc_284 : lw_tbl[1954]? = some (Cond.code ⟨"SoupNineModel", "findOn", "(III)V"⟩ prog_14_method_84_code 7 none) := by rfl
set_option maxRecDepth 100000 in
theorem xmc_285 : lw_tbl[1958]? = some (Cond.code ⟨"SoupNineModel", "peopleOf", "(I)I"⟩ prog_14_method_82_code 4 (some FieldType.int)) := by rfl
set_option maxRecDepth 100000 in
theorem xmc_286 : lw_tbl[1961]? = some (Cond.code ⟨"SoupNineModel", "has", "(II)Z"⟩ prog_14_method_4_code 2 (some FieldType.boolean)) := by rfl
set_option maxRecDepth 100000 in
theorem xmc_287 : lw_tbl[1966]? = some (Cond.code ⟨"SoupNineModel", "goOn", "(III)V"⟩ prog_14_method_85_code 8 none) := by rfl
set_option maxRecDepth 100000 in
theorem xmc_288 : lw_tbl[1970]? = some (Cond.code ⟨"SoupNineModel", "isSought", "(I)Z"⟩ prog_14_method_81_code 2 (some FieldType.boolean)) := by rfl
set_option maxRecDepth 100000 in
theorem xmc_289 : lw_tbl[1974]? = some (Cond.code ⟨"SoupNineModel", "doneThere", "(III)I"⟩ prog_14_method_83_code 5 (some FieldType.int)) := by rfl
set_option maxRecDepth 100000 in
theorem xmc_290 : lw_tbl[1978]? = some (Cond.code ⟨"SoupNineModel", "leads", "(IIIIII)Z"⟩ prog_14_method_87_code 8 (some FieldType.boolean)) := by rfl
set_option maxRecDepth 100000 in
theorem xmc_291 : lw_tbl[1982]? = some (Cond.code ⟨"SoupNineModel", "round", "(II)I"⟩ prog_14_method_91_code 7 (some FieldType.int)) := by rfl
set_option maxRecDepth 100000 in
theorem xmc_292 : lw_tbl[1986]? = some (Cond.code ⟨"SoupNineModel", "findRounds", "()V"⟩ prog_14_method_90_code 5 none) := by rfl
set_option maxRecDepth 100000 in
theorem xmc_293 : lw_tbl[1989]? = some (Cond.code ⟨"SoupNineModel", "cell", "(II)I"⟩ prog_14_method_89_code 2 (some FieldType.int)) := by rfl
set_option maxRecDepth 100000 in
theorem xmc_294 : lw_tbl[1993]? = some (Cond.code ⟨"SoupNineModel", "talks", "(I)I"⟩ prog_14_method_93_code 3 (some FieldType.int)) := by rfl
set_option maxRecDepth 100000 in
theorem xmc_295 : lw_tbl[1997]? = some (Cond.code ⟨"SoupNineModel", "areWarm", "(II)Z"⟩ prog_14_method_92_code 6 (some FieldType.boolean)) := by rfl
set_option maxRecDepth 100000 in
theorem xmc_296 : lw_tbl[2001]? = some (Cond.code ⟨"SoupNineModel", "lost", "(II)I"⟩ prog_14_method_94_code 4 (some FieldType.int)) := by rfl
set_option maxRecDepth 100000 in
theorem xmc_297 : lw_tbl[2005]? = some (Cond.code ⟨"SoupNineModel", "book", "(III)I"⟩ prog_14_method_98_code 4 (some FieldType.int)) := by rfl
set_option maxRecDepth 100000 in
theorem xmc_298 : lw_tbl[2009]? = some (Cond.code ⟨"SoupNineModel", "hasBook", "(I)Z"⟩ prog_14_method_97_code 2 (some FieldType.boolean)) := by rfl
set_option maxRecDepth 100000 in
theorem xmc_299 : lw_tbl[2013]? = some (Cond.code ⟨"SoupNineModel", "nights", "()I"⟩ prog_14_method_95_code 1 (some FieldType.int)) := by rfl
set_option maxRecDepth 100000 in
theorem xmc_300 : lw_tbl[2017]? = some (Cond.code ⟨"SoupNineModel", "nightOf", "(II)I"⟩ prog_14_method_96_code 3 (some FieldType.int)) := by rfl
set_option maxRecDepth 100000 in
theorem xmc_301 : lw_tbl[2021]? = some (Cond.code ⟨"SoupNineModel", "held", "(II)I"⟩ prog_14_method_103_code 5 (some FieldType.int)) := by rfl
set_option maxRecDepth 100000 in
theorem xmc_302 : lw_tbl[2025]? = some (Cond.code ⟨"SoupNineModel", "heldBy", "(Z)J"⟩ prog_14_method_102_code 8 (some FieldType.long)) := by rfl
set_option maxRecDepth 100000 in
theorem xmc_303 : lw_tbl[2029]? = some (Cond.code ⟨"SoupNineModel", "doorway", "()I"⟩ prog_14_method_101_code 5 (some FieldType.int)) := by rfl
set_option maxRecDepth 100000 in
theorem xmc_304 : lw_tbl[2033]? = some (Cond.code ⟨"SoupNineModel", "moreFrom", "(I)I"⟩ prog_14_method_100_code 2 (some FieldType.int)) := by rfl
set_option maxRecDepth 100000 in
theorem xmc_305 : lw_tbl[2037]? = some (Cond.code ⟨"SoupNineModel", "seenFrom", "(II)I"⟩ prog_14_method_99_code 5 (some FieldType.int)) := by rfl
set_option maxRecDepth 100000 in
theorem xmc_306 : lw_tbl[2041]? = some (Cond.code ⟨"SoupNineModel", "bring", "(III)I"⟩ prog_14_method_104_code 5 (some FieldType.int)) := by rfl
set_option maxRecDepth 100000 in
theorem xmc_307 : lw_tbl[2045]? = some (Cond.code ⟨"SoupNineModel", "enoughOn", "(II)I"⟩ prog_14_method_105_code 5 (some FieldType.int)) := by rfl
set_option maxRecDepth 100000 in
theorem xmc_308 : lw_tbl[2049]? = some (Cond.code ⟨"SoupNineModel", "span", "(IIZ)I"⟩ prog_14_method_106_code 7 (some FieldType.int)) := by rfl
set_option maxRecDepth 100000 in
theorem xmc_309 : lw_tbl[2053]? = some (Cond.code ⟨"SoupNineModel", "list", "(II)I"⟩ prog_14_method_109_code 4 (some FieldType.int)) := by rfl
set_option maxRecDepth 100000 in
theorem xmc_310 : lw_tbl[2057]? = some (Cond.code ⟨"SoupNineModel", "hasList", "(I)Z"⟩ prog_14_method_108_code 2 (some FieldType.boolean)) := by rfl
set_option maxRecDepth 100000 in
theorem xmc_311 : lw_tbl[2061]? = some (Cond.code ⟨"SoupNineModel", "listOf", "(I)I"⟩ prog_14_method_107_code 2 (some FieldType.int)) := by rfl
set_option maxRecDepth 100000 in
theorem xmc_312 : lw_tbl[2065]? = some (Cond.code ⟨"SoupNineModel", "shod", "(II)I"⟩ prog_14_method_113_code 3 (some FieldType.int)) := by rfl
set_option maxRecDepth 100000 in
theorem xmc_313 : lw_tbl[2069]? = some (Cond.code ⟨"SoupNineModel", "findNeeds", "()V"⟩ prog_14_method_111_code 5 none) := by rfl
set_option maxRecDepth 100000 in
theorem xmc_314 : lw_tbl[2073]? = some (Cond.code ⟨"SoupNineModel", "isFit", "(II)Z"⟩ prog_14_method_110_code 3 (some FieldType.boolean)) := by rfl
set_option maxRecDepth 100000 in
theorem xmc_315 : lw_tbl[2077]? = some (Cond.code ⟨"SoupNineModel", "shoeOf", "(I)I"⟩ prog_14_method_112_code 7 (some FieldType.int)) := by rfl
set_option maxRecDepth 100000 in
theorem xmc_316 : lw_tbl[2081]? = some (Cond.code ⟨"SoupNineModel", "look", "(II)I"⟩ prog_14_method_121_code 4 (some FieldType.int)) := by rfl
set_option maxRecDepth 100000 in
theorem xmc_317 : lw_tbl[2085]? = some (Cond.code ⟨"SoupNineModel", "hides", "()I"⟩ prog_14_method_114_code 1 (some FieldType.int)) := by rfl
set_option maxRecDepth 100000 in
theorem xmc_318 : lw_tbl[2089]? = some (Cond.code ⟨"SoupNineModel", "odds", "(I)I"⟩ prog_14_method_117_code 4 (some FieldType.int)) := by rfl
set_option maxRecDepth 100000 in
theorem xmc_319 : lw_tbl[2093]? = some (Cond.code ⟨"SoupNineModel", "findLooks", "()V"⟩ prog_14_method_119_code 5 none) := by rfl
set_option maxRecDepth 100000 in
theorem xmc_320 : lw_tbl[2097]? = some (Cond.code ⟨"SoupNineModel", "looksOn", "(III)I"⟩ prog_14_method_118_code 5 (some FieldType.int)) := by rfl
set_option maxRecDepth 100000 in
theorem xmc_321 : lw_tbl[2101]? = some (Cond.code ⟨"SoupNineModel", "hideX", "(I)I"⟩ prog_14_method_115_code 2 (some FieldType.int)) := by rfl
set_option maxRecDepth 100000 in
theorem xmc_322 : lw_tbl[2105]? = some (Cond.code ⟨"SoupNineModel", "hideY", "(I)I"⟩ prog_14_method_116_code 2 (some FieldType.int)) := by rfl
set_option maxRecDepth 100000 in
theorem xmc_323 : lw_tbl[2109]? = some (Cond.code ⟨"SoupNineModel", "hideAt", "(I)I"⟩ prog_14_method_120_code 6 (some FieldType.int)) := by rfl
set_option maxRecDepth 100000 in
theorem xmc_324 : lw_tbl[2113]? = some (Cond.code ⟨"SoupNineModel", "worry", "(IIIZ)J"⟩ prog_14_method_126_code 7 (some FieldType.long)) := by rfl
set_option maxRecDepth 100000 in
theorem xmc_325 : lw_tbl[2116]? = some (Cond.code ⟨"SoupNineModel", "areOdds", "(II)Z"⟩ prog_14_method_125_code 2 (some FieldType.boolean)) := by rfl
set_option maxRecDepth 100000 in
theorem xmc_326 : lw_tbl[2119]? = some (Cond.code ⟨"SoupNineModel", "stays", "(III)J"⟩ prog_14_method_124_code 3 (some FieldType.long)) := by rfl
set_option maxRecDepth 100000 in
theorem xmc_327 : lw_tbl[2122]? = some (Cond.code ⟨"SoupNineModel", "ill", "(II)J"⟩ prog_14_method_123_code 2 (some FieldType.long)) := by rfl
set_option maxRecDepth 100000 in
theorem xmc_328 : lw_tbl[2126]? = some (Cond.code ⟨"SoupNineModel", "power", "(JI)J"⟩ prog_14_method_122_code 6 (some FieldType.long)) := by rfl
set_option maxRecDepth 100000 in
theorem xmc_329 : lw_tbl[2130]? = some (Cond.code ⟨"SoupNineModel", "when", "(III)I"⟩ prog_14_method_127_code 7 (some FieldType.int)) := by rfl
set_option maxRecDepth 100000 in
theorem xmc_330 : lw_tbl[2134]? = some (Cond.code ⟨"SoupNineModel", "shared", "(IIIII)I"⟩ prog_14_method_128_code 12 (some FieldType.int)) := by rfl
set_option maxRecDepth 100000 in
theorem xmc_331 : lw_tbl[2137]? = some (Cond.code ⟨"SoupNineModel", "ones", "(I)I"⟩ prog_14_method_8_code 3 (some FieldType.int)) := by rfl
set_option maxRecDepth 100000 in
theorem xmc_332 : lw_tbl[2141]? = some (Cond.code ⟨"SoupNineModel", "pair", "(III)I"⟩ prog_14_method_129_code 7 (some FieldType.int)) := by rfl
set_option maxRecDepth 100000 in
theorem xmc_333 : lw_tbl[2145]? = some (Cond.code ⟨"SoupNineModel", "drawn", "(IIII)I"⟩ prog_14_method_132_code 6 (some FieldType.int)) := by rfl
set_option maxRecDepth 100000 in
theorem xmc_334 : lw_tbl[2149]? = some (Cond.code ⟨"SoupNineModel", "drawDeed", "()V"⟩ prog_14_method_131_code 2 none) := by rfl
set_option maxRecDepth 100000 in
theorem xmc_335 : lw_tbl[2153]? = some (Cond.code ⟨"SoupNineModel", "draw", "(I)I"⟩ prog_14_method_130_code 2 (some FieldType.int)) := by rfl
set_option maxRecDepth 100000 in
theorem xmc_336 : lw_tbl[2158]? = some (Cond.code ⟨"SoupNineModel", "tells", "(IIIZ)J"⟩ prog_14_method_133_code 5 (some FieldType.long)) := by rfl
set_option maxRecDepth 100000 in
theorem xmc_337 : lw_tbl[2162]? = some (Cond.code ⟨"SoupNineModel", "depot", "(IZ)I"⟩ prog_14_method_135_code 5 (some FieldType.int)) := by rfl
set_option maxRecDepth 100000 in
theorem xmc_338 : lw_tbl[2166]? = some (Cond.code ⟨"SoupNineModel", "drivenFrom", "(II)I"⟩ prog_14_method_134_code 5 (some FieldType.int)) := by rfl
set_option maxRecDepth 100000 in
theorem xmc_339 : lw_tbl[2170]? = some (Cond.code ⟨"SoupNineModel", "vans", "(IZ)I"⟩ prog_14_method_136_code 8 (some FieldType.int)) := by rfl
set_option maxRecDepth 100000 in
theorem xmc_340 : lw_tbl[2174]? = some (Cond.code ⟨"SoupNineModel", "trail", "(IIZ)I"⟩ prog_14_method_137_code 6 (some FieldType.int)) := by rfl
set_option maxRecDepth 100000 in
theorem xmc_341 : lw_tbl[2178]? = some (Cond.code ⟨"SoupNineModel", "chat", "(IZ)I"⟩ prog_14_method_138_code 7 (some FieldType.int)) := by rfl
set_option maxRecDepth 100000 in
theorem xmc_342 : lw_tbl[2182]? = some (Cond.code ⟨"SoupNineModel", "lack", "(IIZ)J"⟩ prog_14_method_139_code 11 (some FieldType.long)) := by rfl
set_option maxRecDepth 100000 in
theorem xmc_343 : lw_tbl[2186]? = some (Cond.code ⟨"SoupNineModel", "lot", "(IIZ)J"⟩ prog_14_method_141_code 11 (some FieldType.long)) := by rfl
set_option maxRecDepth 100000 in
theorem xmc_344 : lw_tbl[2190]? = some (Cond.code ⟨"SoupNineModel", "picks", "(II)V"⟩ prog_14_method_140_code 5 none) := by rfl
set_option maxRecDepth 100000 in
theorem xmc_345 : lw_tbl[2194]? = some (Cond.code ⟨"SoupNineModel", "like", "(III)I"⟩ prog_14_method_142_code 7 (some FieldType.int)) := by rfl
set_option maxRecDepth 100000 in
theorem xmc_346 : lw_tbl[2198]? = some (Cond.code ⟨"SoupNineModel", "sick", "(IIIIIZ)J"⟩ prog_14_method_146_code 7 (some FieldType.long)) := by rfl
set_option maxRecDepth 100000 in
theorem xmc_347 : lw_tbl[2201]? = some (Cond.code ⟨"SoupNineModel", "areSigns", "(IIII)Z"⟩ prog_14_method_144_code 4 (some FieldType.boolean)) := by rfl
set_option maxRecDepth 100000 in
theorem xmc_348 : lw_tbl[2204]? = some (Cond.code ⟨"SoupNineModel", "shows", "(IIII)J"⟩ prog_14_method_143_code 4 (some FieldType.long)) := by rfl
set_option maxRecDepth 100000 in
theorem xmc_349 : lw_tbl[2207]? = some (Cond.code ⟨"SoupNineModel", "allShow", "(IIIII)J"⟩ prog_14_method_145_code 7 (some FieldType.long)) := by rfl
set_option maxRecDepth 100000 in
theorem xmc_350 : lw_tbl[2211]? = some (Cond.code ⟨"SoupNineModel", "call", "(IIIII)I"⟩ prog_14_method_147_code 7 (some FieldType.int)) := by rfl
set_option maxRecDepth 100000 in
theorem xmc_351 : lw_tbl[2215]? = some (Cond.code ⟨"SoupNineModel", "count", "(I)I"⟩ prog_14_method_148_code 2 (some FieldType.int)) := by rfl
set_option maxRecDepth 100000 in
theorem xmc_352 : lw_tbl[2219]? = some (Cond.code ⟨"SoupNineModel", "image", "(I)Z"⟩ prog_14_method_149_code 2 (some FieldType.boolean)) := by rfl
set_option maxRecDepth 100000 in
theorem xmc_353 : lw_tbl[2223]? = some (Cond.code ⟨"SoupNineModel", "copyAll", "(II)V"⟩ prog_14_method_11_code 4 none) := by rfl
set_option maxRecDepth 100000 in
theorem xmc_354 : lw_tbl[2226]? = some (Cond.code ⟨"SoupNineModel", "copyRow", "([IIII)V"⟩ prog_14_method_10_code 5 none) := by rfl
set_option maxRecDepth 100000 in
theorem xmc_355 : lw_tbl[2230]? = some (Cond.code ⟨"SoupNineModel", "again", "(I)Z"⟩ prog_14_method_150_code 2 (some FieldType.boolean)) := by rfl
theorem xmr_0 : xmt_0.all xmoR = true := by decide +kernel
theorem xmo_0 : ∀ q ∈ xmt_0, xmo q = true := by
  have h : ∀ q ∈ xmt_0, xmoR q = true := fun q hq => List.all_eq_true.mp xmr_0 q hq
  unfold xmt_0 at h ⊢
  refine List.forall_mem_cons.mpr ⟨xmo_of xmc_0 (h _ List.mem_cons_self), ?_⟩
  replace h := fun q hq => h q (List.mem_cons_of_mem _ hq)
  refine List.forall_mem_cons.mpr ⟨xmo_of xmc_1 (h _ List.mem_cons_self), ?_⟩
  replace h := fun q hq => h q (List.mem_cons_of_mem _ hq)
  refine List.forall_mem_cons.mpr ⟨xmo_of xmc_2 (h _ List.mem_cons_self), ?_⟩
  replace h := fun q hq => h q (List.mem_cons_of_mem _ hq)
  refine List.forall_mem_cons.mpr ⟨xmo_of xmc_3 (h _ List.mem_cons_self), ?_⟩
  replace h := fun q hq => h q (List.mem_cons_of_mem _ hq)
  refine List.forall_mem_cons.mpr ⟨xmo_of xmc_4 (h _ List.mem_cons_self), ?_⟩
  replace h := fun q hq => h q (List.mem_cons_of_mem _ hq)
  refine List.forall_mem_cons.mpr ⟨xmo_of xmc_5 (h _ List.mem_cons_self), ?_⟩
  replace h := fun q hq => h q (List.mem_cons_of_mem _ hq)
  refine List.forall_mem_cons.mpr ⟨xmo_of xmc_6 (h _ List.mem_cons_self), ?_⟩
  replace h := fun q hq => h q (List.mem_cons_of_mem _ hq)
  refine List.forall_mem_cons.mpr ⟨xmo_of xmc_7 (h _ List.mem_cons_self), ?_⟩
  replace h := fun q hq => h q (List.mem_cons_of_mem _ hq)
  refine List.forall_mem_cons.mpr ⟨xmo_of xmc_8 (h _ List.mem_cons_self), ?_⟩
  replace h := fun q hq => h q (List.mem_cons_of_mem _ hq)
  refine List.forall_mem_cons.mpr ⟨xmo_of xmc_9 (h _ List.mem_cons_self), ?_⟩
  replace h := fun q hq => h q (List.mem_cons_of_mem _ hq)
  refine List.forall_mem_cons.mpr ⟨xmo_of xmc_10 (h _ List.mem_cons_self), ?_⟩
  replace h := fun q hq => h q (List.mem_cons_of_mem _ hq)
  refine List.forall_mem_cons.mpr ⟨xmo_of xmc_11 (h _ List.mem_cons_self), ?_⟩
  replace h := fun q hq => h q (List.mem_cons_of_mem _ hq)
  refine List.forall_mem_cons.mpr ⟨xmo_of xmc_12 (h _ List.mem_cons_self), ?_⟩
  replace h := fun q hq => h q (List.mem_cons_of_mem _ hq)
  refine List.forall_mem_cons.mpr ⟨xmo_of xmc_13 (h _ List.mem_cons_self), ?_⟩
  replace h := fun q hq => h q (List.mem_cons_of_mem _ hq)
  refine List.forall_mem_cons.mpr ⟨xmo_of xmc_14 (h _ List.mem_cons_self), ?_⟩
  replace h := fun q hq => h q (List.mem_cons_of_mem _ hq)
  refine List.forall_mem_cons.mpr ⟨xmo_of xmc_15 (h _ List.mem_cons_self), ?_⟩
  replace h := fun q hq => h q (List.mem_cons_of_mem _ hq)
  refine List.forall_mem_cons.mpr ⟨xmo_of xmc_16 (h _ List.mem_cons_self), ?_⟩
  replace h := fun q hq => h q (List.mem_cons_of_mem _ hq)
  refine List.forall_mem_cons.mpr ⟨xmo_of xmc_17 (h _ List.mem_cons_self), ?_⟩
  replace h := fun q hq => h q (List.mem_cons_of_mem _ hq)
  refine List.forall_mem_cons.mpr ⟨xmo_of xmc_18 (h _ List.mem_cons_self), ?_⟩
  replace h := fun q hq => h q (List.mem_cons_of_mem _ hq)
  refine List.forall_mem_cons.mpr ⟨xmo_of xmc_19 (h _ List.mem_cons_self), ?_⟩
  replace h := fun q hq => h q (List.mem_cons_of_mem _ hq)
  refine List.forall_mem_cons.mpr ⟨xmo_of xmc_20 (h _ List.mem_cons_self), ?_⟩
  replace h := fun q hq => h q (List.mem_cons_of_mem _ hq)
  refine List.forall_mem_cons.mpr ⟨xmo_of xmc_21 (h _ List.mem_cons_self), ?_⟩
  replace h := fun q hq => h q (List.mem_cons_of_mem _ hq)
  refine List.forall_mem_cons.mpr ⟨xmo_of xmc_22 (h _ List.mem_cons_self), ?_⟩
  replace h := fun q hq => h q (List.mem_cons_of_mem _ hq)
  refine List.forall_mem_cons.mpr ⟨xmo_of xmc_23 (h _ List.mem_cons_self), ?_⟩
  replace h := fun q hq => h q (List.mem_cons_of_mem _ hq)
  refine List.forall_mem_cons.mpr ⟨xmo_of xmc_24 (h _ List.mem_cons_self), ?_⟩
  replace h := fun q hq => h q (List.mem_cons_of_mem _ hq)
  refine List.forall_mem_cons.mpr ⟨xmo_of xmc_25 (h _ List.mem_cons_self), ?_⟩
  replace h := fun q hq => h q (List.mem_cons_of_mem _ hq)
  refine List.forall_mem_cons.mpr ⟨xmo_of xmc_26 (h _ List.mem_cons_self), ?_⟩
  replace h := fun q hq => h q (List.mem_cons_of_mem _ hq)
  refine List.forall_mem_cons.mpr ⟨xmo_of xmc_27 (h _ List.mem_cons_self), ?_⟩
  replace h := fun q hq => h q (List.mem_cons_of_mem _ hq)
  refine List.forall_mem_cons.mpr ⟨xmo_of xmc_28 (h _ List.mem_cons_self), ?_⟩
  replace h := fun q hq => h q (List.mem_cons_of_mem _ hq)
  refine List.forall_mem_cons.mpr ⟨xmo_of xmc_29 (h _ List.mem_cons_self), ?_⟩
  replace h := fun q hq => h q (List.mem_cons_of_mem _ hq)
  exact fun _ z => absurd z List.not_mem_nil
theorem xmr_1 : xmt_1.all xmoR = true := by decide +kernel
theorem xmo_1 : ∀ q ∈ xmt_1, xmo q = true := by
  have h : ∀ q ∈ xmt_1, xmoR q = true := fun q hq => List.all_eq_true.mp xmr_1 q hq
  unfold xmt_1 at h ⊢
  refine List.forall_mem_cons.mpr ⟨xmo_of xmc_30 (h _ List.mem_cons_self), ?_⟩
  replace h := fun q hq => h q (List.mem_cons_of_mem _ hq)
  refine List.forall_mem_cons.mpr ⟨xmo_of xmc_31 (h _ List.mem_cons_self), ?_⟩
  replace h := fun q hq => h q (List.mem_cons_of_mem _ hq)
  refine List.forall_mem_cons.mpr ⟨xmo_of xmc_32 (h _ List.mem_cons_self), ?_⟩
  replace h := fun q hq => h q (List.mem_cons_of_mem _ hq)
  refine List.forall_mem_cons.mpr ⟨xmo_of xmc_33 (h _ List.mem_cons_self), ?_⟩
  replace h := fun q hq => h q (List.mem_cons_of_mem _ hq)
  refine List.forall_mem_cons.mpr ⟨xmo_of xmc_34 (h _ List.mem_cons_self), ?_⟩
  replace h := fun q hq => h q (List.mem_cons_of_mem _ hq)
  refine List.forall_mem_cons.mpr ⟨xmo_of xmc_35 (h _ List.mem_cons_self), ?_⟩
  replace h := fun q hq => h q (List.mem_cons_of_mem _ hq)
  refine List.forall_mem_cons.mpr ⟨xmo_of xmc_36 (h _ List.mem_cons_self), ?_⟩
  replace h := fun q hq => h q (List.mem_cons_of_mem _ hq)
  refine List.forall_mem_cons.mpr ⟨xmo_of xmc_37 (h _ List.mem_cons_self), ?_⟩
  replace h := fun q hq => h q (List.mem_cons_of_mem _ hq)
  refine List.forall_mem_cons.mpr ⟨xmo_of xmc_38 (h _ List.mem_cons_self), ?_⟩
  replace h := fun q hq => h q (List.mem_cons_of_mem _ hq)
  refine List.forall_mem_cons.mpr ⟨xmo_of xmc_39 (h _ List.mem_cons_self), ?_⟩
  replace h := fun q hq => h q (List.mem_cons_of_mem _ hq)
  refine List.forall_mem_cons.mpr ⟨xmo_of xmc_40 (h _ List.mem_cons_self), ?_⟩
  replace h := fun q hq => h q (List.mem_cons_of_mem _ hq)
  refine List.forall_mem_cons.mpr ⟨xmo_of xmc_41 (h _ List.mem_cons_self), ?_⟩
  replace h := fun q hq => h q (List.mem_cons_of_mem _ hq)
  refine List.forall_mem_cons.mpr ⟨xmo_of xmc_42 (h _ List.mem_cons_self), ?_⟩
  replace h := fun q hq => h q (List.mem_cons_of_mem _ hq)
  refine List.forall_mem_cons.mpr ⟨xmo_of xmc_43 (h _ List.mem_cons_self), ?_⟩
  replace h := fun q hq => h q (List.mem_cons_of_mem _ hq)
  refine List.forall_mem_cons.mpr ⟨xmo_of xmc_44 (h _ List.mem_cons_self), ?_⟩
  replace h := fun q hq => h q (List.mem_cons_of_mem _ hq)
  refine List.forall_mem_cons.mpr ⟨xmo_of xmc_45 (h _ List.mem_cons_self), ?_⟩
  replace h := fun q hq => h q (List.mem_cons_of_mem _ hq)
  refine List.forall_mem_cons.mpr ⟨xmo_of xmc_46 (h _ List.mem_cons_self), ?_⟩
  replace h := fun q hq => h q (List.mem_cons_of_mem _ hq)
  refine List.forall_mem_cons.mpr ⟨xmo_of xmc_47 (h _ List.mem_cons_self), ?_⟩
  replace h := fun q hq => h q (List.mem_cons_of_mem _ hq)
  refine List.forall_mem_cons.mpr ⟨xmo_of xmc_48 (h _ List.mem_cons_self), ?_⟩
  replace h := fun q hq => h q (List.mem_cons_of_mem _ hq)
  refine List.forall_mem_cons.mpr ⟨xmo_of xmc_49 (h _ List.mem_cons_self), ?_⟩
  replace h := fun q hq => h q (List.mem_cons_of_mem _ hq)
  refine List.forall_mem_cons.mpr ⟨xmo_of xmc_50 (h _ List.mem_cons_self), ?_⟩
  replace h := fun q hq => h q (List.mem_cons_of_mem _ hq)
  refine List.forall_mem_cons.mpr ⟨xmo_of xmc_51 (h _ List.mem_cons_self), ?_⟩
  replace h := fun q hq => h q (List.mem_cons_of_mem _ hq)
  refine List.forall_mem_cons.mpr ⟨xmo_of xmc_52 (h _ List.mem_cons_self), ?_⟩
  replace h := fun q hq => h q (List.mem_cons_of_mem _ hq)
  refine List.forall_mem_cons.mpr ⟨xmo_of xmc_53 (h _ List.mem_cons_self), ?_⟩
  replace h := fun q hq => h q (List.mem_cons_of_mem _ hq)
  refine List.forall_mem_cons.mpr ⟨xmo_of xmc_54 (h _ List.mem_cons_self), ?_⟩
  replace h := fun q hq => h q (List.mem_cons_of_mem _ hq)
  refine List.forall_mem_cons.mpr ⟨xmo_of xmc_55 (h _ List.mem_cons_self), ?_⟩
  replace h := fun q hq => h q (List.mem_cons_of_mem _ hq)
  refine List.forall_mem_cons.mpr ⟨xmo_of xmc_56 (h _ List.mem_cons_self), ?_⟩
  replace h := fun q hq => h q (List.mem_cons_of_mem _ hq)
  refine List.forall_mem_cons.mpr ⟨xmo_of xmc_57 (h _ List.mem_cons_self), ?_⟩
  replace h := fun q hq => h q (List.mem_cons_of_mem _ hq)
  refine List.forall_mem_cons.mpr ⟨xmo_of xmc_58 (h _ List.mem_cons_self), ?_⟩
  replace h := fun q hq => h q (List.mem_cons_of_mem _ hq)
  refine List.forall_mem_cons.mpr ⟨xmo_of xmc_59 (h _ List.mem_cons_self), ?_⟩
  replace h := fun q hq => h q (List.mem_cons_of_mem _ hq)
  exact fun _ z => absurd z List.not_mem_nil
theorem xmr_2 : xmt_2.all xmoR = true := by decide +kernel
theorem xmo_2 : ∀ q ∈ xmt_2, xmo q = true := by
  have h : ∀ q ∈ xmt_2, xmoR q = true := fun q hq => List.all_eq_true.mp xmr_2 q hq
  unfold xmt_2 at h ⊢
  refine List.forall_mem_cons.mpr ⟨xmo_of xmc_60 (h _ List.mem_cons_self), ?_⟩
  replace h := fun q hq => h q (List.mem_cons_of_mem _ hq)
  refine List.forall_mem_cons.mpr ⟨xmo_of xmc_61 (h _ List.mem_cons_self), ?_⟩
  replace h := fun q hq => h q (List.mem_cons_of_mem _ hq)
  refine List.forall_mem_cons.mpr ⟨xmo_of xmc_62 (h _ List.mem_cons_self), ?_⟩
  replace h := fun q hq => h q (List.mem_cons_of_mem _ hq)
  refine List.forall_mem_cons.mpr ⟨xmo_of xmc_63 (h _ List.mem_cons_self), ?_⟩
  replace h := fun q hq => h q (List.mem_cons_of_mem _ hq)
  refine List.forall_mem_cons.mpr ⟨xmo_of xmc_64 (h _ List.mem_cons_self), ?_⟩
  replace h := fun q hq => h q (List.mem_cons_of_mem _ hq)
  refine List.forall_mem_cons.mpr ⟨xmo_of xmc_65 (h _ List.mem_cons_self), ?_⟩
  replace h := fun q hq => h q (List.mem_cons_of_mem _ hq)
  refine List.forall_mem_cons.mpr ⟨xmo_of xmc_66 (h _ List.mem_cons_self), ?_⟩
  replace h := fun q hq => h q (List.mem_cons_of_mem _ hq)
  refine List.forall_mem_cons.mpr ⟨xmo_of xmc_67 (h _ List.mem_cons_self), ?_⟩
  replace h := fun q hq => h q (List.mem_cons_of_mem _ hq)
  refine List.forall_mem_cons.mpr ⟨xmo_of xmc_68 (h _ List.mem_cons_self), ?_⟩
  replace h := fun q hq => h q (List.mem_cons_of_mem _ hq)
  refine List.forall_mem_cons.mpr ⟨xmo_of xmc_69 (h _ List.mem_cons_self), ?_⟩
  replace h := fun q hq => h q (List.mem_cons_of_mem _ hq)
  refine List.forall_mem_cons.mpr ⟨xmo_of xmc_70 (h _ List.mem_cons_self), ?_⟩
  replace h := fun q hq => h q (List.mem_cons_of_mem _ hq)
  refine List.forall_mem_cons.mpr ⟨xmo_of xmc_71 (h _ List.mem_cons_self), ?_⟩
  replace h := fun q hq => h q (List.mem_cons_of_mem _ hq)
  refine List.forall_mem_cons.mpr ⟨xmo_of xmc_72 (h _ List.mem_cons_self), ?_⟩
  replace h := fun q hq => h q (List.mem_cons_of_mem _ hq)
  refine List.forall_mem_cons.mpr ⟨xmo_of xmc_73 (h _ List.mem_cons_self), ?_⟩
  replace h := fun q hq => h q (List.mem_cons_of_mem _ hq)
  refine List.forall_mem_cons.mpr ⟨xmo_of xmc_74 (h _ List.mem_cons_self), ?_⟩
  replace h := fun q hq => h q (List.mem_cons_of_mem _ hq)
  refine List.forall_mem_cons.mpr ⟨xmo_of xmc_75 (h _ List.mem_cons_self), ?_⟩
  replace h := fun q hq => h q (List.mem_cons_of_mem _ hq)
  refine List.forall_mem_cons.mpr ⟨xmo_of xmc_76 (h _ List.mem_cons_self), ?_⟩
  replace h := fun q hq => h q (List.mem_cons_of_mem _ hq)
  refine List.forall_mem_cons.mpr ⟨xmo_of xmc_77 (h _ List.mem_cons_self), ?_⟩
  replace h := fun q hq => h q (List.mem_cons_of_mem _ hq)
  refine List.forall_mem_cons.mpr ⟨xmo_of xmc_78 (h _ List.mem_cons_self), ?_⟩
  replace h := fun q hq => h q (List.mem_cons_of_mem _ hq)
  refine List.forall_mem_cons.mpr ⟨xmo_of xmc_79 (h _ List.mem_cons_self), ?_⟩
  replace h := fun q hq => h q (List.mem_cons_of_mem _ hq)
  refine List.forall_mem_cons.mpr ⟨xmo_of xmc_80 (h _ List.mem_cons_self), ?_⟩
  replace h := fun q hq => h q (List.mem_cons_of_mem _ hq)
  refine List.forall_mem_cons.mpr ⟨xmo_of xmc_81 (h _ List.mem_cons_self), ?_⟩
  replace h := fun q hq => h q (List.mem_cons_of_mem _ hq)
  refine List.forall_mem_cons.mpr ⟨xmo_of xmc_82 (h _ List.mem_cons_self), ?_⟩
  replace h := fun q hq => h q (List.mem_cons_of_mem _ hq)
  refine List.forall_mem_cons.mpr ⟨xmo_of xmc_83 (h _ List.mem_cons_self), ?_⟩
  replace h := fun q hq => h q (List.mem_cons_of_mem _ hq)
  refine List.forall_mem_cons.mpr ⟨xmo_of xmc_84 (h _ List.mem_cons_self), ?_⟩
  replace h := fun q hq => h q (List.mem_cons_of_mem _ hq)
  refine List.forall_mem_cons.mpr ⟨xmo_of xmc_85 (h _ List.mem_cons_self), ?_⟩
  replace h := fun q hq => h q (List.mem_cons_of_mem _ hq)
  refine List.forall_mem_cons.mpr ⟨xmo_of xmc_86 (h _ List.mem_cons_self), ?_⟩
  replace h := fun q hq => h q (List.mem_cons_of_mem _ hq)
  refine List.forall_mem_cons.mpr ⟨xmo_of xmc_87 (h _ List.mem_cons_self), ?_⟩
  replace h := fun q hq => h q (List.mem_cons_of_mem _ hq)
  refine List.forall_mem_cons.mpr ⟨xmo_of xmc_88 (h _ List.mem_cons_self), ?_⟩
  replace h := fun q hq => h q (List.mem_cons_of_mem _ hq)
  refine List.forall_mem_cons.mpr ⟨xmo_of xmc_89 (h _ List.mem_cons_self), ?_⟩
  replace h := fun q hq => h q (List.mem_cons_of_mem _ hq)
  exact fun _ z => absurd z List.not_mem_nil
theorem xmr_3 : xmt_3.all xmoR = true := by decide +kernel
theorem xmo_3 : ∀ q ∈ xmt_3, xmo q = true := by
  have h : ∀ q ∈ xmt_3, xmoR q = true := fun q hq => List.all_eq_true.mp xmr_3 q hq
  unfold xmt_3 at h ⊢
  refine List.forall_mem_cons.mpr ⟨xmo_of xmc_90 (h _ List.mem_cons_self), ?_⟩
  replace h := fun q hq => h q (List.mem_cons_of_mem _ hq)
  refine List.forall_mem_cons.mpr ⟨xmo_of xmc_91 (h _ List.mem_cons_self), ?_⟩
  replace h := fun q hq => h q (List.mem_cons_of_mem _ hq)
  refine List.forall_mem_cons.mpr ⟨xmo_of xmc_92 (h _ List.mem_cons_self), ?_⟩
  replace h := fun q hq => h q (List.mem_cons_of_mem _ hq)
  refine List.forall_mem_cons.mpr ⟨xmo_of xmc_93 (h _ List.mem_cons_self), ?_⟩
  replace h := fun q hq => h q (List.mem_cons_of_mem _ hq)
  refine List.forall_mem_cons.mpr ⟨xmo_of xmc_94 (h _ List.mem_cons_self), ?_⟩
  replace h := fun q hq => h q (List.mem_cons_of_mem _ hq)
  refine List.forall_mem_cons.mpr ⟨xmo_of xmc_95 (h _ List.mem_cons_self), ?_⟩
  replace h := fun q hq => h q (List.mem_cons_of_mem _ hq)
  refine List.forall_mem_cons.mpr ⟨xmo_of xmc_96 (h _ List.mem_cons_self), ?_⟩
  replace h := fun q hq => h q (List.mem_cons_of_mem _ hq)
  refine List.forall_mem_cons.mpr ⟨xmo_of xmc_97 (h _ List.mem_cons_self), ?_⟩
  replace h := fun q hq => h q (List.mem_cons_of_mem _ hq)
  refine List.forall_mem_cons.mpr ⟨xmo_of xmc_98 (h _ List.mem_cons_self), ?_⟩
  replace h := fun q hq => h q (List.mem_cons_of_mem _ hq)
  refine List.forall_mem_cons.mpr ⟨xmo_of xmc_99 (h _ List.mem_cons_self), ?_⟩
  replace h := fun q hq => h q (List.mem_cons_of_mem _ hq)
  refine List.forall_mem_cons.mpr ⟨xmo_of xmc_100 (h _ List.mem_cons_self), ?_⟩
  replace h := fun q hq => h q (List.mem_cons_of_mem _ hq)
  refine List.forall_mem_cons.mpr ⟨xmo_of xmc_101 (h _ List.mem_cons_self), ?_⟩
  replace h := fun q hq => h q (List.mem_cons_of_mem _ hq)
  refine List.forall_mem_cons.mpr ⟨xmo_of xmc_102 (h _ List.mem_cons_self), ?_⟩
  replace h := fun q hq => h q (List.mem_cons_of_mem _ hq)
  refine List.forall_mem_cons.mpr ⟨xmo_of xmc_103 (h _ List.mem_cons_self), ?_⟩
  replace h := fun q hq => h q (List.mem_cons_of_mem _ hq)
  refine List.forall_mem_cons.mpr ⟨xmo_of xmc_104 (h _ List.mem_cons_self), ?_⟩
  replace h := fun q hq => h q (List.mem_cons_of_mem _ hq)
  refine List.forall_mem_cons.mpr ⟨xmo_of xmc_105 (h _ List.mem_cons_self), ?_⟩
  replace h := fun q hq => h q (List.mem_cons_of_mem _ hq)
  refine List.forall_mem_cons.mpr ⟨xmo_of xmc_106 (h _ List.mem_cons_self), ?_⟩
  replace h := fun q hq => h q (List.mem_cons_of_mem _ hq)
  refine List.forall_mem_cons.mpr ⟨xmo_of xmc_107 (h _ List.mem_cons_self), ?_⟩
  replace h := fun q hq => h q (List.mem_cons_of_mem _ hq)
  refine List.forall_mem_cons.mpr ⟨xmo_of xmc_108 (h _ List.mem_cons_self), ?_⟩
  replace h := fun q hq => h q (List.mem_cons_of_mem _ hq)
  refine List.forall_mem_cons.mpr ⟨xmo_of xmc_109 (h _ List.mem_cons_self), ?_⟩
  replace h := fun q hq => h q (List.mem_cons_of_mem _ hq)
  refine List.forall_mem_cons.mpr ⟨xmo_of xmc_110 (h _ List.mem_cons_self), ?_⟩
  replace h := fun q hq => h q (List.mem_cons_of_mem _ hq)
  refine List.forall_mem_cons.mpr ⟨xmo_of xmc_111 (h _ List.mem_cons_self), ?_⟩
  replace h := fun q hq => h q (List.mem_cons_of_mem _ hq)
  refine List.forall_mem_cons.mpr ⟨xmo_of xmc_112 (h _ List.mem_cons_self), ?_⟩
  replace h := fun q hq => h q (List.mem_cons_of_mem _ hq)
  refine List.forall_mem_cons.mpr ⟨xmo_of xmc_113 (h _ List.mem_cons_self), ?_⟩
  replace h := fun q hq => h q (List.mem_cons_of_mem _ hq)
  refine List.forall_mem_cons.mpr ⟨xmo_of xmc_114 (h _ List.mem_cons_self), ?_⟩
  replace h := fun q hq => h q (List.mem_cons_of_mem _ hq)
  refine List.forall_mem_cons.mpr ⟨xmo_of xmc_115 (h _ List.mem_cons_self), ?_⟩
  replace h := fun q hq => h q (List.mem_cons_of_mem _ hq)
  refine List.forall_mem_cons.mpr ⟨xmo_of xmc_116 (h _ List.mem_cons_self), ?_⟩
  replace h := fun q hq => h q (List.mem_cons_of_mem _ hq)
  refine List.forall_mem_cons.mpr ⟨xmo_of xmc_117 (h _ List.mem_cons_self), ?_⟩
  replace h := fun q hq => h q (List.mem_cons_of_mem _ hq)
  refine List.forall_mem_cons.mpr ⟨xmo_of xmc_118 (h _ List.mem_cons_self), ?_⟩
  replace h := fun q hq => h q (List.mem_cons_of_mem _ hq)
  refine List.forall_mem_cons.mpr ⟨xmo_of xmc_119 (h _ List.mem_cons_self), ?_⟩
  replace h := fun q hq => h q (List.mem_cons_of_mem _ hq)
  exact fun _ z => absurd z List.not_mem_nil
theorem xmr_4 : xmt_4.all xmoR = true := by decide +kernel
theorem xmo_4 : ∀ q ∈ xmt_4, xmo q = true := by
  have h : ∀ q ∈ xmt_4, xmoR q = true := fun q hq => List.all_eq_true.mp xmr_4 q hq
  unfold xmt_4 at h ⊢
  refine List.forall_mem_cons.mpr ⟨xmo_of xmc_120 (h _ List.mem_cons_self), ?_⟩
  replace h := fun q hq => h q (List.mem_cons_of_mem _ hq)
  refine List.forall_mem_cons.mpr ⟨xmo_of xmc_121 (h _ List.mem_cons_self), ?_⟩
  replace h := fun q hq => h q (List.mem_cons_of_mem _ hq)
  refine List.forall_mem_cons.mpr ⟨xmo_of xmc_122 (h _ List.mem_cons_self), ?_⟩
  replace h := fun q hq => h q (List.mem_cons_of_mem _ hq)
  refine List.forall_mem_cons.mpr ⟨xmo_of xmc_123 (h _ List.mem_cons_self), ?_⟩
  replace h := fun q hq => h q (List.mem_cons_of_mem _ hq)
  refine List.forall_mem_cons.mpr ⟨xmo_of xmc_124 (h _ List.mem_cons_self), ?_⟩
  replace h := fun q hq => h q (List.mem_cons_of_mem _ hq)
  refine List.forall_mem_cons.mpr ⟨xmo_of xmc_125 (h _ List.mem_cons_self), ?_⟩
  replace h := fun q hq => h q (List.mem_cons_of_mem _ hq)
  refine List.forall_mem_cons.mpr ⟨xmo_of xmc_126 (h _ List.mem_cons_self), ?_⟩
  replace h := fun q hq => h q (List.mem_cons_of_mem _ hq)
  refine List.forall_mem_cons.mpr ⟨xmo_of xmc_127 (h _ List.mem_cons_self), ?_⟩
  replace h := fun q hq => h q (List.mem_cons_of_mem _ hq)
  refine List.forall_mem_cons.mpr ⟨xmo_of xmc_128 (h _ List.mem_cons_self), ?_⟩
  replace h := fun q hq => h q (List.mem_cons_of_mem _ hq)
  refine List.forall_mem_cons.mpr ⟨xmo_of xmc_129 (h _ List.mem_cons_self), ?_⟩
  replace h := fun q hq => h q (List.mem_cons_of_mem _ hq)
  refine List.forall_mem_cons.mpr ⟨xmo_of xmc_130 (h _ List.mem_cons_self), ?_⟩
  replace h := fun q hq => h q (List.mem_cons_of_mem _ hq)
  refine List.forall_mem_cons.mpr ⟨xmo_of xmc_131 (h _ List.mem_cons_self), ?_⟩
  replace h := fun q hq => h q (List.mem_cons_of_mem _ hq)
  refine List.forall_mem_cons.mpr ⟨xmo_of xmc_132 (h _ List.mem_cons_self), ?_⟩
  replace h := fun q hq => h q (List.mem_cons_of_mem _ hq)
  refine List.forall_mem_cons.mpr ⟨xmo_of xmc_133 (h _ List.mem_cons_self), ?_⟩
  replace h := fun q hq => h q (List.mem_cons_of_mem _ hq)
  refine List.forall_mem_cons.mpr ⟨xmo_of xmc_134 (h _ List.mem_cons_self), ?_⟩
  replace h := fun q hq => h q (List.mem_cons_of_mem _ hq)
  refine List.forall_mem_cons.mpr ⟨xmo_of xmc_135 (h _ List.mem_cons_self), ?_⟩
  replace h := fun q hq => h q (List.mem_cons_of_mem _ hq)
  refine List.forall_mem_cons.mpr ⟨xmo_of xmc_136 (h _ List.mem_cons_self), ?_⟩
  replace h := fun q hq => h q (List.mem_cons_of_mem _ hq)
  refine List.forall_mem_cons.mpr ⟨xmo_of xmc_137 (h _ List.mem_cons_self), ?_⟩
  replace h := fun q hq => h q (List.mem_cons_of_mem _ hq)
  refine List.forall_mem_cons.mpr ⟨xmo_of xmc_138 (h _ List.mem_cons_self), ?_⟩
  replace h := fun q hq => h q (List.mem_cons_of_mem _ hq)
  refine List.forall_mem_cons.mpr ⟨xmo_of xmc_139 (h _ List.mem_cons_self), ?_⟩
  replace h := fun q hq => h q (List.mem_cons_of_mem _ hq)
  refine List.forall_mem_cons.mpr ⟨xmo_of xmc_140 (h _ List.mem_cons_self), ?_⟩
  replace h := fun q hq => h q (List.mem_cons_of_mem _ hq)
  refine List.forall_mem_cons.mpr ⟨xmo_of xmc_141 (h _ List.mem_cons_self), ?_⟩
  replace h := fun q hq => h q (List.mem_cons_of_mem _ hq)
  refine List.forall_mem_cons.mpr ⟨xmo_of xmc_142 (h _ List.mem_cons_self), ?_⟩
  replace h := fun q hq => h q (List.mem_cons_of_mem _ hq)
  refine List.forall_mem_cons.mpr ⟨xmo_of xmc_143 (h _ List.mem_cons_self), ?_⟩
  replace h := fun q hq => h q (List.mem_cons_of_mem _ hq)
  refine List.forall_mem_cons.mpr ⟨xmo_of xmc_144 (h _ List.mem_cons_self), ?_⟩
  replace h := fun q hq => h q (List.mem_cons_of_mem _ hq)
  refine List.forall_mem_cons.mpr ⟨xmo_of xmc_145 (h _ List.mem_cons_self), ?_⟩
  replace h := fun q hq => h q (List.mem_cons_of_mem _ hq)
  refine List.forall_mem_cons.mpr ⟨xmo_of xmc_146 (h _ List.mem_cons_self), ?_⟩
  replace h := fun q hq => h q (List.mem_cons_of_mem _ hq)
  refine List.forall_mem_cons.mpr ⟨xmo_of xmc_147 (h _ List.mem_cons_self), ?_⟩
  replace h := fun q hq => h q (List.mem_cons_of_mem _ hq)
  refine List.forall_mem_cons.mpr ⟨xmo_of xmc_148 (h _ List.mem_cons_self), ?_⟩
  replace h := fun q hq => h q (List.mem_cons_of_mem _ hq)
  refine List.forall_mem_cons.mpr ⟨xmo_of xmc_149 (h _ List.mem_cons_self), ?_⟩
  replace h := fun q hq => h q (List.mem_cons_of_mem _ hq)
  exact fun _ z => absurd z List.not_mem_nil
theorem xmr_5 : xmt_5.all xmoR = true := by decide +kernel
theorem xmo_5 : ∀ q ∈ xmt_5, xmo q = true := by
  have h : ∀ q ∈ xmt_5, xmoR q = true := fun q hq => List.all_eq_true.mp xmr_5 q hq
  unfold xmt_5 at h ⊢
  refine List.forall_mem_cons.mpr ⟨xmo_of xmc_150 (h _ List.mem_cons_self), ?_⟩
  replace h := fun q hq => h q (List.mem_cons_of_mem _ hq)
  refine List.forall_mem_cons.mpr ⟨xmo_of xmc_151 (h _ List.mem_cons_self), ?_⟩
  replace h := fun q hq => h q (List.mem_cons_of_mem _ hq)
  refine List.forall_mem_cons.mpr ⟨xmo_of xmc_152 (h _ List.mem_cons_self), ?_⟩
  replace h := fun q hq => h q (List.mem_cons_of_mem _ hq)
  refine List.forall_mem_cons.mpr ⟨xmo_of xmc_153 (h _ List.mem_cons_self), ?_⟩
  replace h := fun q hq => h q (List.mem_cons_of_mem _ hq)
  refine List.forall_mem_cons.mpr ⟨xmo_of xmc_154 (h _ List.mem_cons_self), ?_⟩
  replace h := fun q hq => h q (List.mem_cons_of_mem _ hq)
  refine List.forall_mem_cons.mpr ⟨xmo_of xmc_155 (h _ List.mem_cons_self), ?_⟩
  replace h := fun q hq => h q (List.mem_cons_of_mem _ hq)
  refine List.forall_mem_cons.mpr ⟨xmo_of xmc_156 (h _ List.mem_cons_self), ?_⟩
  replace h := fun q hq => h q (List.mem_cons_of_mem _ hq)
  refine List.forall_mem_cons.mpr ⟨xmo_of xmc_157 (h _ List.mem_cons_self), ?_⟩
  replace h := fun q hq => h q (List.mem_cons_of_mem _ hq)
  refine List.forall_mem_cons.mpr ⟨xmo_of xmc_158 (h _ List.mem_cons_self), ?_⟩
  replace h := fun q hq => h q (List.mem_cons_of_mem _ hq)
  refine List.forall_mem_cons.mpr ⟨xmo_of xmc_159 (h _ List.mem_cons_self), ?_⟩
  replace h := fun q hq => h q (List.mem_cons_of_mem _ hq)
  refine List.forall_mem_cons.mpr ⟨xmo_of xmc_160 (h _ List.mem_cons_self), ?_⟩
  replace h := fun q hq => h q (List.mem_cons_of_mem _ hq)
  refine List.forall_mem_cons.mpr ⟨xmo_of xmc_161 (h _ List.mem_cons_self), ?_⟩
  replace h := fun q hq => h q (List.mem_cons_of_mem _ hq)
  refine List.forall_mem_cons.mpr ⟨xmo_of xmc_162 (h _ List.mem_cons_self), ?_⟩
  replace h := fun q hq => h q (List.mem_cons_of_mem _ hq)
  refine List.forall_mem_cons.mpr ⟨xmo_of xmc_163 (h _ List.mem_cons_self), ?_⟩
  replace h := fun q hq => h q (List.mem_cons_of_mem _ hq)
  refine List.forall_mem_cons.mpr ⟨xmo_of xmc_164 (h _ List.mem_cons_self), ?_⟩
  replace h := fun q hq => h q (List.mem_cons_of_mem _ hq)
  refine List.forall_mem_cons.mpr ⟨xmo_of xmc_165 (h _ List.mem_cons_self), ?_⟩
  replace h := fun q hq => h q (List.mem_cons_of_mem _ hq)
  refine List.forall_mem_cons.mpr ⟨xmo_of xmc_166 (h _ List.mem_cons_self), ?_⟩
  replace h := fun q hq => h q (List.mem_cons_of_mem _ hq)
  refine List.forall_mem_cons.mpr ⟨xmo_of xmc_167 (h _ List.mem_cons_self), ?_⟩
  replace h := fun q hq => h q (List.mem_cons_of_mem _ hq)
  refine List.forall_mem_cons.mpr ⟨xmo_of xmc_168 (h _ List.mem_cons_self), ?_⟩
  replace h := fun q hq => h q (List.mem_cons_of_mem _ hq)
  refine List.forall_mem_cons.mpr ⟨xmo_of xmc_169 (h _ List.mem_cons_self), ?_⟩
  replace h := fun q hq => h q (List.mem_cons_of_mem _ hq)
  refine List.forall_mem_cons.mpr ⟨xmo_of xmc_170 (h _ List.mem_cons_self), ?_⟩
  replace h := fun q hq => h q (List.mem_cons_of_mem _ hq)
  refine List.forall_mem_cons.mpr ⟨xmo_of xmc_171 (h _ List.mem_cons_self), ?_⟩
  replace h := fun q hq => h q (List.mem_cons_of_mem _ hq)
  refine List.forall_mem_cons.mpr ⟨xmo_of xmc_172 (h _ List.mem_cons_self), ?_⟩
  replace h := fun q hq => h q (List.mem_cons_of_mem _ hq)
  refine List.forall_mem_cons.mpr ⟨xmo_of xmc_173 (h _ List.mem_cons_self), ?_⟩
  replace h := fun q hq => h q (List.mem_cons_of_mem _ hq)
  refine List.forall_mem_cons.mpr ⟨xmo_of xmc_174 (h _ List.mem_cons_self), ?_⟩
  replace h := fun q hq => h q (List.mem_cons_of_mem _ hq)
  refine List.forall_mem_cons.mpr ⟨xmo_of xmc_175 (h _ List.mem_cons_self), ?_⟩
  replace h := fun q hq => h q (List.mem_cons_of_mem _ hq)
  refine List.forall_mem_cons.mpr ⟨xmo_of xmc_176 (h _ List.mem_cons_self), ?_⟩
  replace h := fun q hq => h q (List.mem_cons_of_mem _ hq)
  refine List.forall_mem_cons.mpr ⟨xmo_of xmc_177 (h _ List.mem_cons_self), ?_⟩
  replace h := fun q hq => h q (List.mem_cons_of_mem _ hq)
  refine List.forall_mem_cons.mpr ⟨xmo_of xmc_178 (h _ List.mem_cons_self), ?_⟩
  replace h := fun q hq => h q (List.mem_cons_of_mem _ hq)
  refine List.forall_mem_cons.mpr ⟨xmo_of xmc_179 (h _ List.mem_cons_self), ?_⟩
  replace h := fun q hq => h q (List.mem_cons_of_mem _ hq)
  exact fun _ z => absurd z List.not_mem_nil
theorem xmr_6 : xmt_6.all xmoR = true := by decide +kernel
theorem xmo_6 : ∀ q ∈ xmt_6, xmo q = true := by
  have h : ∀ q ∈ xmt_6, xmoR q = true := fun q hq => List.all_eq_true.mp xmr_6 q hq
  unfold xmt_6 at h ⊢
  refine List.forall_mem_cons.mpr ⟨xmo_of xmc_180 (h _ List.mem_cons_self), ?_⟩
  replace h := fun q hq => h q (List.mem_cons_of_mem _ hq)
  refine List.forall_mem_cons.mpr ⟨xmo_of xmc_181 (h _ List.mem_cons_self), ?_⟩
  replace h := fun q hq => h q (List.mem_cons_of_mem _ hq)
  refine List.forall_mem_cons.mpr ⟨xmo_of xmc_182 (h _ List.mem_cons_self), ?_⟩
  replace h := fun q hq => h q (List.mem_cons_of_mem _ hq)
  refine List.forall_mem_cons.mpr ⟨xmo_of xmc_183 (h _ List.mem_cons_self), ?_⟩
  replace h := fun q hq => h q (List.mem_cons_of_mem _ hq)
  refine List.forall_mem_cons.mpr ⟨xmo_of xmc_184 (h _ List.mem_cons_self), ?_⟩
  replace h := fun q hq => h q (List.mem_cons_of_mem _ hq)
  refine List.forall_mem_cons.mpr ⟨xmo_of xmc_185 (h _ List.mem_cons_self), ?_⟩
  replace h := fun q hq => h q (List.mem_cons_of_mem _ hq)
  refine List.forall_mem_cons.mpr ⟨xmo_of xmc_186 (h _ List.mem_cons_self), ?_⟩
  replace h := fun q hq => h q (List.mem_cons_of_mem _ hq)
  refine List.forall_mem_cons.mpr ⟨xmo_of xmc_187 (h _ List.mem_cons_self), ?_⟩
  replace h := fun q hq => h q (List.mem_cons_of_mem _ hq)
  refine List.forall_mem_cons.mpr ⟨xmo_of xmc_188 (h _ List.mem_cons_self), ?_⟩
  replace h := fun q hq => h q (List.mem_cons_of_mem _ hq)
  refine List.forall_mem_cons.mpr ⟨xmo_of xmc_189 (h _ List.mem_cons_self), ?_⟩
  replace h := fun q hq => h q (List.mem_cons_of_mem _ hq)
  refine List.forall_mem_cons.mpr ⟨xmo_of xmc_190 (h _ List.mem_cons_self), ?_⟩
  replace h := fun q hq => h q (List.mem_cons_of_mem _ hq)
  refine List.forall_mem_cons.mpr ⟨xmo_of xmc_191 (h _ List.mem_cons_self), ?_⟩
  replace h := fun q hq => h q (List.mem_cons_of_mem _ hq)
  refine List.forall_mem_cons.mpr ⟨xmo_of xmc_192 (h _ List.mem_cons_self), ?_⟩
  replace h := fun q hq => h q (List.mem_cons_of_mem _ hq)
  refine List.forall_mem_cons.mpr ⟨xmo_of xmc_193 (h _ List.mem_cons_self), ?_⟩
  replace h := fun q hq => h q (List.mem_cons_of_mem _ hq)
  refine List.forall_mem_cons.mpr ⟨xmo_of xmc_194 (h _ List.mem_cons_self), ?_⟩
  replace h := fun q hq => h q (List.mem_cons_of_mem _ hq)
  refine List.forall_mem_cons.mpr ⟨xmo_of xmc_195 (h _ List.mem_cons_self), ?_⟩
  replace h := fun q hq => h q (List.mem_cons_of_mem _ hq)
  refine List.forall_mem_cons.mpr ⟨xmo_of xmc_196 (h _ List.mem_cons_self), ?_⟩
  replace h := fun q hq => h q (List.mem_cons_of_mem _ hq)
  refine List.forall_mem_cons.mpr ⟨xmo_of xmc_197 (h _ List.mem_cons_self), ?_⟩
  replace h := fun q hq => h q (List.mem_cons_of_mem _ hq)
  refine List.forall_mem_cons.mpr ⟨xmo_of xmc_198 (h _ List.mem_cons_self), ?_⟩
  replace h := fun q hq => h q (List.mem_cons_of_mem _ hq)
  refine List.forall_mem_cons.mpr ⟨xmo_of xmc_199 (h _ List.mem_cons_self), ?_⟩
  replace h := fun q hq => h q (List.mem_cons_of_mem _ hq)
  refine List.forall_mem_cons.mpr ⟨xmo_of xmc_200 (h _ List.mem_cons_self), ?_⟩
  replace h := fun q hq => h q (List.mem_cons_of_mem _ hq)
  refine List.forall_mem_cons.mpr ⟨xmo_of xmc_201 (h _ List.mem_cons_self), ?_⟩
  replace h := fun q hq => h q (List.mem_cons_of_mem _ hq)
  refine List.forall_mem_cons.mpr ⟨xmo_of xmc_202 (h _ List.mem_cons_self), ?_⟩
  replace h := fun q hq => h q (List.mem_cons_of_mem _ hq)
  refine List.forall_mem_cons.mpr ⟨xmo_of xmc_203 (h _ List.mem_cons_self), ?_⟩
  replace h := fun q hq => h q (List.mem_cons_of_mem _ hq)
  refine List.forall_mem_cons.mpr ⟨xmo_of xmc_204 (h _ List.mem_cons_self), ?_⟩
  replace h := fun q hq => h q (List.mem_cons_of_mem _ hq)
  refine List.forall_mem_cons.mpr ⟨xmo_of xmc_205 (h _ List.mem_cons_self), ?_⟩
  replace h := fun q hq => h q (List.mem_cons_of_mem _ hq)
  refine List.forall_mem_cons.mpr ⟨xmo_of xmc_206 (h _ List.mem_cons_self), ?_⟩
  replace h := fun q hq => h q (List.mem_cons_of_mem _ hq)
  refine List.forall_mem_cons.mpr ⟨xmo_of xmc_207 (h _ List.mem_cons_self), ?_⟩
  replace h := fun q hq => h q (List.mem_cons_of_mem _ hq)
  refine List.forall_mem_cons.mpr ⟨xmo_of xmc_208 (h _ List.mem_cons_self), ?_⟩
  replace h := fun q hq => h q (List.mem_cons_of_mem _ hq)
  refine List.forall_mem_cons.mpr ⟨xmo_of xmc_209 (h _ List.mem_cons_self), ?_⟩
  replace h := fun q hq => h q (List.mem_cons_of_mem _ hq)
  exact fun _ z => absurd z List.not_mem_nil
theorem xmr_7 : xmt_7.all xmoR = true := by decide +kernel
theorem xmo_7 : ∀ q ∈ xmt_7, xmo q = true := by
  have h : ∀ q ∈ xmt_7, xmoR q = true := fun q hq => List.all_eq_true.mp xmr_7 q hq
  unfold xmt_7 at h ⊢
  refine List.forall_mem_cons.mpr ⟨xmo_of xmc_210 (h _ List.mem_cons_self), ?_⟩
  replace h := fun q hq => h q (List.mem_cons_of_mem _ hq)
  refine List.forall_mem_cons.mpr ⟨xmo_of xmc_211 (h _ List.mem_cons_self), ?_⟩
  replace h := fun q hq => h q (List.mem_cons_of_mem _ hq)
  refine List.forall_mem_cons.mpr ⟨xmo_of xmc_212 (h _ List.mem_cons_self), ?_⟩
  replace h := fun q hq => h q (List.mem_cons_of_mem _ hq)
  refine List.forall_mem_cons.mpr ⟨xmo_of xmc_213 (h _ List.mem_cons_self), ?_⟩
  replace h := fun q hq => h q (List.mem_cons_of_mem _ hq)
  refine List.forall_mem_cons.mpr ⟨xmo_of xmc_214 (h _ List.mem_cons_self), ?_⟩
  replace h := fun q hq => h q (List.mem_cons_of_mem _ hq)
  refine List.forall_mem_cons.mpr ⟨xmo_of xmc_215 (h _ List.mem_cons_self), ?_⟩
  replace h := fun q hq => h q (List.mem_cons_of_mem _ hq)
  refine List.forall_mem_cons.mpr ⟨xmo_of xmc_216 (h _ List.mem_cons_self), ?_⟩
  replace h := fun q hq => h q (List.mem_cons_of_mem _ hq)
  refine List.forall_mem_cons.mpr ⟨xmo_of xmc_217 (h _ List.mem_cons_self), ?_⟩
  replace h := fun q hq => h q (List.mem_cons_of_mem _ hq)
  refine List.forall_mem_cons.mpr ⟨xmo_of xmc_218 (h _ List.mem_cons_self), ?_⟩
  replace h := fun q hq => h q (List.mem_cons_of_mem _ hq)
  refine List.forall_mem_cons.mpr ⟨xmo_of xmc_219 (h _ List.mem_cons_self), ?_⟩
  replace h := fun q hq => h q (List.mem_cons_of_mem _ hq)
  refine List.forall_mem_cons.mpr ⟨xmo_of xmc_220 (h _ List.mem_cons_self), ?_⟩
  replace h := fun q hq => h q (List.mem_cons_of_mem _ hq)
  refine List.forall_mem_cons.mpr ⟨xmo_of xmc_221 (h _ List.mem_cons_self), ?_⟩
  replace h := fun q hq => h q (List.mem_cons_of_mem _ hq)
  refine List.forall_mem_cons.mpr ⟨xmo_of xmc_222 (h _ List.mem_cons_self), ?_⟩
  replace h := fun q hq => h q (List.mem_cons_of_mem _ hq)
  refine List.forall_mem_cons.mpr ⟨xmo_of xmc_223 (h _ List.mem_cons_self), ?_⟩
  replace h := fun q hq => h q (List.mem_cons_of_mem _ hq)
  refine List.forall_mem_cons.mpr ⟨xmo_of xmc_224 (h _ List.mem_cons_self), ?_⟩
  replace h := fun q hq => h q (List.mem_cons_of_mem _ hq)
  refine List.forall_mem_cons.mpr ⟨xmo_of xmc_225 (h _ List.mem_cons_self), ?_⟩
  replace h := fun q hq => h q (List.mem_cons_of_mem _ hq)
  refine List.forall_mem_cons.mpr ⟨xmo_of xmc_226 (h _ List.mem_cons_self), ?_⟩
  replace h := fun q hq => h q (List.mem_cons_of_mem _ hq)
  refine List.forall_mem_cons.mpr ⟨xmo_of xmc_227 (h _ List.mem_cons_self), ?_⟩
  replace h := fun q hq => h q (List.mem_cons_of_mem _ hq)
  refine List.forall_mem_cons.mpr ⟨xmo_of xmc_228 (h _ List.mem_cons_self), ?_⟩
  replace h := fun q hq => h q (List.mem_cons_of_mem _ hq)
  refine List.forall_mem_cons.mpr ⟨xmo_of xmc_229 (h _ List.mem_cons_self), ?_⟩
  replace h := fun q hq => h q (List.mem_cons_of_mem _ hq)
  refine List.forall_mem_cons.mpr ⟨xmo_of xmc_230 (h _ List.mem_cons_self), ?_⟩
  replace h := fun q hq => h q (List.mem_cons_of_mem _ hq)
  refine List.forall_mem_cons.mpr ⟨xmo_of xmc_231 (h _ List.mem_cons_self), ?_⟩
  replace h := fun q hq => h q (List.mem_cons_of_mem _ hq)
  refine List.forall_mem_cons.mpr ⟨xmo_of xmc_232 (h _ List.mem_cons_self), ?_⟩
  replace h := fun q hq => h q (List.mem_cons_of_mem _ hq)
  refine List.forall_mem_cons.mpr ⟨xmo_of xmc_233 (h _ List.mem_cons_self), ?_⟩
  replace h := fun q hq => h q (List.mem_cons_of_mem _ hq)
  refine List.forall_mem_cons.mpr ⟨xmo_of xmc_234 (h _ List.mem_cons_self), ?_⟩
  replace h := fun q hq => h q (List.mem_cons_of_mem _ hq)
  refine List.forall_mem_cons.mpr ⟨xmo_of xmc_235 (h _ List.mem_cons_self), ?_⟩
  replace h := fun q hq => h q (List.mem_cons_of_mem _ hq)
  refine List.forall_mem_cons.mpr ⟨xmo_of xmc_236 (h _ List.mem_cons_self), ?_⟩
  replace h := fun q hq => h q (List.mem_cons_of_mem _ hq)
  refine List.forall_mem_cons.mpr ⟨xmo_of xmc_237 (h _ List.mem_cons_self), ?_⟩
  replace h := fun q hq => h q (List.mem_cons_of_mem _ hq)
  refine List.forall_mem_cons.mpr ⟨xmo_of xmc_238 (h _ List.mem_cons_self), ?_⟩
  replace h := fun q hq => h q (List.mem_cons_of_mem _ hq)
  refine List.forall_mem_cons.mpr ⟨xmo_of xmc_239 (h _ List.mem_cons_self), ?_⟩
  replace h := fun q hq => h q (List.mem_cons_of_mem _ hq)
  exact fun _ z => absurd z List.not_mem_nil
theorem xmr_8 : xmt_8.all xmoR = true := by decide +kernel
theorem xmo_8 : ∀ q ∈ xmt_8, xmo q = true := by
  have h : ∀ q ∈ xmt_8, xmoR q = true := fun q hq => List.all_eq_true.mp xmr_8 q hq
  unfold xmt_8 at h ⊢
  refine List.forall_mem_cons.mpr ⟨xmo_of xmc_240 (h _ List.mem_cons_self), ?_⟩
  replace h := fun q hq => h q (List.mem_cons_of_mem _ hq)
  refine List.forall_mem_cons.mpr ⟨xmo_of xmc_241 (h _ List.mem_cons_self), ?_⟩
  replace h := fun q hq => h q (List.mem_cons_of_mem _ hq)
  refine List.forall_mem_cons.mpr ⟨xmo_of xmc_242 (h _ List.mem_cons_self), ?_⟩
  replace h := fun q hq => h q (List.mem_cons_of_mem _ hq)
  refine List.forall_mem_cons.mpr ⟨xmo_of xmc_243 (h _ List.mem_cons_self), ?_⟩
  replace h := fun q hq => h q (List.mem_cons_of_mem _ hq)
  refine List.forall_mem_cons.mpr ⟨xmo_of xmc_244 (h _ List.mem_cons_self), ?_⟩
  replace h := fun q hq => h q (List.mem_cons_of_mem _ hq)
  refine List.forall_mem_cons.mpr ⟨xmo_of xmc_245 (h _ List.mem_cons_self), ?_⟩
  replace h := fun q hq => h q (List.mem_cons_of_mem _ hq)
  refine List.forall_mem_cons.mpr ⟨xmo_of xmc_246 (h _ List.mem_cons_self), ?_⟩
  replace h := fun q hq => h q (List.mem_cons_of_mem _ hq)
  refine List.forall_mem_cons.mpr ⟨xmo_of xmc_247 (h _ List.mem_cons_self), ?_⟩
  replace h := fun q hq => h q (List.mem_cons_of_mem _ hq)
  refine List.forall_mem_cons.mpr ⟨xmo_of xmc_248 (h _ List.mem_cons_self), ?_⟩
  replace h := fun q hq => h q (List.mem_cons_of_mem _ hq)
  refine List.forall_mem_cons.mpr ⟨xmo_of xmc_249 (h _ List.mem_cons_self), ?_⟩
  replace h := fun q hq => h q (List.mem_cons_of_mem _ hq)
  refine List.forall_mem_cons.mpr ⟨xmo_of xmc_250 (h _ List.mem_cons_self), ?_⟩
  replace h := fun q hq => h q (List.mem_cons_of_mem _ hq)
  refine List.forall_mem_cons.mpr ⟨xmo_of xmc_251 (h _ List.mem_cons_self), ?_⟩
  replace h := fun q hq => h q (List.mem_cons_of_mem _ hq)
  refine List.forall_mem_cons.mpr ⟨xmo_of xmc_252 (h _ List.mem_cons_self), ?_⟩
  replace h := fun q hq => h q (List.mem_cons_of_mem _ hq)
  refine List.forall_mem_cons.mpr ⟨xmo_of xmc_253 (h _ List.mem_cons_self), ?_⟩
  replace h := fun q hq => h q (List.mem_cons_of_mem _ hq)
  refine List.forall_mem_cons.mpr ⟨xmo_of xmc_254 (h _ List.mem_cons_self), ?_⟩
  replace h := fun q hq => h q (List.mem_cons_of_mem _ hq)
  refine List.forall_mem_cons.mpr ⟨xmo_of xmc_255 (h _ List.mem_cons_self), ?_⟩
  replace h := fun q hq => h q (List.mem_cons_of_mem _ hq)
  refine List.forall_mem_cons.mpr ⟨xmo_of xmc_256 (h _ List.mem_cons_self), ?_⟩
  replace h := fun q hq => h q (List.mem_cons_of_mem _ hq)
  refine List.forall_mem_cons.mpr ⟨xmo_of xmc_257 (h _ List.mem_cons_self), ?_⟩
  replace h := fun q hq => h q (List.mem_cons_of_mem _ hq)
  refine List.forall_mem_cons.mpr ⟨xmo_of xmc_258 (h _ List.mem_cons_self), ?_⟩
  replace h := fun q hq => h q (List.mem_cons_of_mem _ hq)
  refine List.forall_mem_cons.mpr ⟨xmo_of xmc_259 (h _ List.mem_cons_self), ?_⟩
  replace h := fun q hq => h q (List.mem_cons_of_mem _ hq)
  refine List.forall_mem_cons.mpr ⟨xmo_of xmc_260 (h _ List.mem_cons_self), ?_⟩
  replace h := fun q hq => h q (List.mem_cons_of_mem _ hq)
  refine List.forall_mem_cons.mpr ⟨xmo_of xmc_261 (h _ List.mem_cons_self), ?_⟩
  replace h := fun q hq => h q (List.mem_cons_of_mem _ hq)
  refine List.forall_mem_cons.mpr ⟨xmo_of xmc_262 (h _ List.mem_cons_self), ?_⟩
  replace h := fun q hq => h q (List.mem_cons_of_mem _ hq)
  refine List.forall_mem_cons.mpr ⟨xmo_of xmc_263 (h _ List.mem_cons_self), ?_⟩
  replace h := fun q hq => h q (List.mem_cons_of_mem _ hq)
  refine List.forall_mem_cons.mpr ⟨xmo_of xmc_264 (h _ List.mem_cons_self), ?_⟩
  replace h := fun q hq => h q (List.mem_cons_of_mem _ hq)
  refine List.forall_mem_cons.mpr ⟨xmo_of xmc_265 (h _ List.mem_cons_self), ?_⟩
  replace h := fun q hq => h q (List.mem_cons_of_mem _ hq)
  refine List.forall_mem_cons.mpr ⟨xmo_of xmc_266 (h _ List.mem_cons_self), ?_⟩
  replace h := fun q hq => h q (List.mem_cons_of_mem _ hq)
  refine List.forall_mem_cons.mpr ⟨xmo_of xmc_267 (h _ List.mem_cons_self), ?_⟩
  replace h := fun q hq => h q (List.mem_cons_of_mem _ hq)
  refine List.forall_mem_cons.mpr ⟨xmo_of xmc_268 (h _ List.mem_cons_self), ?_⟩
  replace h := fun q hq => h q (List.mem_cons_of_mem _ hq)
  refine List.forall_mem_cons.mpr ⟨xmo_of xmc_269 (h _ List.mem_cons_self), ?_⟩
  replace h := fun q hq => h q (List.mem_cons_of_mem _ hq)
  exact fun _ z => absurd z List.not_mem_nil
theorem xmr_9 : xmt_9.all xmoR = true := by decide +kernel
theorem xmo_9 : ∀ q ∈ xmt_9, xmo q = true := by
  have h : ∀ q ∈ xmt_9, xmoR q = true := fun q hq => List.all_eq_true.mp xmr_9 q hq
  unfold xmt_9 at h ⊢
  refine List.forall_mem_cons.mpr ⟨xmo_of xmc_270 (h _ List.mem_cons_self), ?_⟩
  replace h := fun q hq => h q (List.mem_cons_of_mem _ hq)
  refine List.forall_mem_cons.mpr ⟨xmo_of xmc_271 (h _ List.mem_cons_self), ?_⟩
  replace h := fun q hq => h q (List.mem_cons_of_mem _ hq)
  refine List.forall_mem_cons.mpr ⟨xmo_of xmc_272 (h _ List.mem_cons_self), ?_⟩
  replace h := fun q hq => h q (List.mem_cons_of_mem _ hq)
  refine List.forall_mem_cons.mpr ⟨xmo_of xmc_273 (h _ List.mem_cons_self), ?_⟩
  replace h := fun q hq => h q (List.mem_cons_of_mem _ hq)
  refine List.forall_mem_cons.mpr ⟨xmo_of xmc_274 (h _ List.mem_cons_self), ?_⟩
  replace h := fun q hq => h q (List.mem_cons_of_mem _ hq)
  refine List.forall_mem_cons.mpr ⟨xmo_of xmc_275 (h _ List.mem_cons_self), ?_⟩
  replace h := fun q hq => h q (List.mem_cons_of_mem _ hq)
  refine List.forall_mem_cons.mpr ⟨xmo_of xmc_276 (h _ List.mem_cons_self), ?_⟩
  replace h := fun q hq => h q (List.mem_cons_of_mem _ hq)
  refine List.forall_mem_cons.mpr ⟨xmo_of xmc_277 (h _ List.mem_cons_self), ?_⟩
  replace h := fun q hq => h q (List.mem_cons_of_mem _ hq)
  refine List.forall_mem_cons.mpr ⟨xmo_of xmc_278 (h _ List.mem_cons_self), ?_⟩
  replace h := fun q hq => h q (List.mem_cons_of_mem _ hq)
  refine List.forall_mem_cons.mpr ⟨xmo_of xmc_279 (h _ List.mem_cons_self), ?_⟩
  replace h := fun q hq => h q (List.mem_cons_of_mem _ hq)
  refine List.forall_mem_cons.mpr ⟨xmo_of xmc_280 (h _ List.mem_cons_self), ?_⟩
  replace h := fun q hq => h q (List.mem_cons_of_mem _ hq)
  refine List.forall_mem_cons.mpr ⟨xmo_of xmc_281 (h _ List.mem_cons_self), ?_⟩
  replace h := fun q hq => h q (List.mem_cons_of_mem _ hq)
  refine List.forall_mem_cons.mpr ⟨xmo_of xmc_282 (h _ List.mem_cons_self), ?_⟩
  replace h := fun q hq => h q (List.mem_cons_of_mem _ hq)
  refine List.forall_mem_cons.mpr ⟨xmo_of xmc_283 (h _ List.mem_cons_self), ?_⟩
  replace h := fun q hq => h q (List.mem_cons_of_mem _ hq)
  refine List.forall_mem_cons.mpr ⟨xmo_of xmc_284 (h _ List.mem_cons_self), ?_⟩
  replace h := fun q hq => h q (List.mem_cons_of_mem _ hq)
  refine List.forall_mem_cons.mpr ⟨xmo_of xmc_285 (h _ List.mem_cons_self), ?_⟩
  replace h := fun q hq => h q (List.mem_cons_of_mem _ hq)
  refine List.forall_mem_cons.mpr ⟨xmo_of xmc_286 (h _ List.mem_cons_self), ?_⟩
  replace h := fun q hq => h q (List.mem_cons_of_mem _ hq)
  refine List.forall_mem_cons.mpr ⟨xmo_of xmc_287 (h _ List.mem_cons_self), ?_⟩
  replace h := fun q hq => h q (List.mem_cons_of_mem _ hq)
  refine List.forall_mem_cons.mpr ⟨xmo_of xmc_288 (h _ List.mem_cons_self), ?_⟩
  replace h := fun q hq => h q (List.mem_cons_of_mem _ hq)
  refine List.forall_mem_cons.mpr ⟨xmo_of xmc_289 (h _ List.mem_cons_self), ?_⟩
  replace h := fun q hq => h q (List.mem_cons_of_mem _ hq)
  refine List.forall_mem_cons.mpr ⟨xmo_of xmc_290 (h _ List.mem_cons_self), ?_⟩
  replace h := fun q hq => h q (List.mem_cons_of_mem _ hq)
  refine List.forall_mem_cons.mpr ⟨xmo_of xmc_291 (h _ List.mem_cons_self), ?_⟩
  replace h := fun q hq => h q (List.mem_cons_of_mem _ hq)
  refine List.forall_mem_cons.mpr ⟨xmo_of xmc_292 (h _ List.mem_cons_self), ?_⟩
  replace h := fun q hq => h q (List.mem_cons_of_mem _ hq)
  refine List.forall_mem_cons.mpr ⟨xmo_of xmc_293 (h _ List.mem_cons_self), ?_⟩
  replace h := fun q hq => h q (List.mem_cons_of_mem _ hq)
  refine List.forall_mem_cons.mpr ⟨xmo_of xmc_294 (h _ List.mem_cons_self), ?_⟩
  replace h := fun q hq => h q (List.mem_cons_of_mem _ hq)
  refine List.forall_mem_cons.mpr ⟨xmo_of xmc_295 (h _ List.mem_cons_self), ?_⟩
  replace h := fun q hq => h q (List.mem_cons_of_mem _ hq)
  refine List.forall_mem_cons.mpr ⟨xmo_of xmc_296 (h _ List.mem_cons_self), ?_⟩
  replace h := fun q hq => h q (List.mem_cons_of_mem _ hq)
  refine List.forall_mem_cons.mpr ⟨xmo_of xmc_297 (h _ List.mem_cons_self), ?_⟩
  replace h := fun q hq => h q (List.mem_cons_of_mem _ hq)
  refine List.forall_mem_cons.mpr ⟨xmo_of xmc_298 (h _ List.mem_cons_self), ?_⟩
  replace h := fun q hq => h q (List.mem_cons_of_mem _ hq)
  refine List.forall_mem_cons.mpr ⟨xmo_of xmc_299 (h _ List.mem_cons_self), ?_⟩
  replace h := fun q hq => h q (List.mem_cons_of_mem _ hq)
  exact fun _ z => absurd z List.not_mem_nil
theorem xmr_10 : xmt_10.all xmoR = true := by decide +kernel
theorem xmo_10 : ∀ q ∈ xmt_10, xmo q = true := by
  have h : ∀ q ∈ xmt_10, xmoR q = true := fun q hq => List.all_eq_true.mp xmr_10 q hq
  unfold xmt_10 at h ⊢
  refine List.forall_mem_cons.mpr ⟨xmo_of xmc_300 (h _ List.mem_cons_self), ?_⟩
  replace h := fun q hq => h q (List.mem_cons_of_mem _ hq)
  refine List.forall_mem_cons.mpr ⟨xmo_of xmc_301 (h _ List.mem_cons_self), ?_⟩
  replace h := fun q hq => h q (List.mem_cons_of_mem _ hq)
  refine List.forall_mem_cons.mpr ⟨xmo_of xmc_302 (h _ List.mem_cons_self), ?_⟩
  replace h := fun q hq => h q (List.mem_cons_of_mem _ hq)
  refine List.forall_mem_cons.mpr ⟨xmo_of xmc_303 (h _ List.mem_cons_self), ?_⟩
  replace h := fun q hq => h q (List.mem_cons_of_mem _ hq)
  refine List.forall_mem_cons.mpr ⟨xmo_of xmc_304 (h _ List.mem_cons_self), ?_⟩
  replace h := fun q hq => h q (List.mem_cons_of_mem _ hq)
  refine List.forall_mem_cons.mpr ⟨xmo_of xmc_305 (h _ List.mem_cons_self), ?_⟩
  replace h := fun q hq => h q (List.mem_cons_of_mem _ hq)
  refine List.forall_mem_cons.mpr ⟨xmo_of xmc_306 (h _ List.mem_cons_self), ?_⟩
  replace h := fun q hq => h q (List.mem_cons_of_mem _ hq)
  refine List.forall_mem_cons.mpr ⟨xmo_of xmc_307 (h _ List.mem_cons_self), ?_⟩
  replace h := fun q hq => h q (List.mem_cons_of_mem _ hq)
  refine List.forall_mem_cons.mpr ⟨xmo_of xmc_308 (h _ List.mem_cons_self), ?_⟩
  replace h := fun q hq => h q (List.mem_cons_of_mem _ hq)
  refine List.forall_mem_cons.mpr ⟨xmo_of xmc_309 (h _ List.mem_cons_self), ?_⟩
  replace h := fun q hq => h q (List.mem_cons_of_mem _ hq)
  refine List.forall_mem_cons.mpr ⟨xmo_of xmc_310 (h _ List.mem_cons_self), ?_⟩
  replace h := fun q hq => h q (List.mem_cons_of_mem _ hq)
  refine List.forall_mem_cons.mpr ⟨xmo_of xmc_311 (h _ List.mem_cons_self), ?_⟩
  replace h := fun q hq => h q (List.mem_cons_of_mem _ hq)
  refine List.forall_mem_cons.mpr ⟨xmo_of xmc_312 (h _ List.mem_cons_self), ?_⟩
  replace h := fun q hq => h q (List.mem_cons_of_mem _ hq)
  refine List.forall_mem_cons.mpr ⟨xmo_of xmc_313 (h _ List.mem_cons_self), ?_⟩
  replace h := fun q hq => h q (List.mem_cons_of_mem _ hq)
  refine List.forall_mem_cons.mpr ⟨xmo_of xmc_314 (h _ List.mem_cons_self), ?_⟩
  replace h := fun q hq => h q (List.mem_cons_of_mem _ hq)
  refine List.forall_mem_cons.mpr ⟨xmo_of xmc_315 (h _ List.mem_cons_self), ?_⟩
  replace h := fun q hq => h q (List.mem_cons_of_mem _ hq)
  refine List.forall_mem_cons.mpr ⟨xmo_of xmc_316 (h _ List.mem_cons_self), ?_⟩
  replace h := fun q hq => h q (List.mem_cons_of_mem _ hq)
  refine List.forall_mem_cons.mpr ⟨xmo_of xmc_317 (h _ List.mem_cons_self), ?_⟩
  replace h := fun q hq => h q (List.mem_cons_of_mem _ hq)
  refine List.forall_mem_cons.mpr ⟨xmo_of xmc_318 (h _ List.mem_cons_self), ?_⟩
  replace h := fun q hq => h q (List.mem_cons_of_mem _ hq)
  refine List.forall_mem_cons.mpr ⟨xmo_of xmc_319 (h _ List.mem_cons_self), ?_⟩
  replace h := fun q hq => h q (List.mem_cons_of_mem _ hq)
  refine List.forall_mem_cons.mpr ⟨xmo_of xmc_320 (h _ List.mem_cons_self), ?_⟩
  replace h := fun q hq => h q (List.mem_cons_of_mem _ hq)
  refine List.forall_mem_cons.mpr ⟨xmo_of xmc_321 (h _ List.mem_cons_self), ?_⟩
  replace h := fun q hq => h q (List.mem_cons_of_mem _ hq)
  refine List.forall_mem_cons.mpr ⟨xmo_of xmc_322 (h _ List.mem_cons_self), ?_⟩
  replace h := fun q hq => h q (List.mem_cons_of_mem _ hq)
  refine List.forall_mem_cons.mpr ⟨xmo_of xmc_323 (h _ List.mem_cons_self), ?_⟩
  replace h := fun q hq => h q (List.mem_cons_of_mem _ hq)
  refine List.forall_mem_cons.mpr ⟨xmo_of xmc_324 (h _ List.mem_cons_self), ?_⟩
  replace h := fun q hq => h q (List.mem_cons_of_mem _ hq)
  refine List.forall_mem_cons.mpr ⟨xmo_of xmc_325 (h _ List.mem_cons_self), ?_⟩
  replace h := fun q hq => h q (List.mem_cons_of_mem _ hq)
  refine List.forall_mem_cons.mpr ⟨xmo_of xmc_326 (h _ List.mem_cons_self), ?_⟩
  replace h := fun q hq => h q (List.mem_cons_of_mem _ hq)
  refine List.forall_mem_cons.mpr ⟨xmo_of xmc_327 (h _ List.mem_cons_self), ?_⟩
  replace h := fun q hq => h q (List.mem_cons_of_mem _ hq)
  refine List.forall_mem_cons.mpr ⟨xmo_of xmc_328 (h _ List.mem_cons_self), ?_⟩
  replace h := fun q hq => h q (List.mem_cons_of_mem _ hq)
  refine List.forall_mem_cons.mpr ⟨xmo_of xmc_329 (h _ List.mem_cons_self), ?_⟩
  replace h := fun q hq => h q (List.mem_cons_of_mem _ hq)
  exact fun _ z => absurd z List.not_mem_nil
theorem xmr_11 : xmt_11.all xmoR = true := by decide +kernel
theorem xmo_11 : ∀ q ∈ xmt_11, xmo q = true := by
  have h : ∀ q ∈ xmt_11, xmoR q = true := fun q hq => List.all_eq_true.mp xmr_11 q hq
  unfold xmt_11 at h ⊢
  refine List.forall_mem_cons.mpr ⟨xmo_of xmc_330 (h _ List.mem_cons_self), ?_⟩
  replace h := fun q hq => h q (List.mem_cons_of_mem _ hq)
  refine List.forall_mem_cons.mpr ⟨xmo_of xmc_331 (h _ List.mem_cons_self), ?_⟩
  replace h := fun q hq => h q (List.mem_cons_of_mem _ hq)
  refine List.forall_mem_cons.mpr ⟨xmo_of xmc_332 (h _ List.mem_cons_self), ?_⟩
  replace h := fun q hq => h q (List.mem_cons_of_mem _ hq)
  refine List.forall_mem_cons.mpr ⟨xmo_of xmc_333 (h _ List.mem_cons_self), ?_⟩
  replace h := fun q hq => h q (List.mem_cons_of_mem _ hq)
  refine List.forall_mem_cons.mpr ⟨xmo_of xmc_334 (h _ List.mem_cons_self), ?_⟩
  replace h := fun q hq => h q (List.mem_cons_of_mem _ hq)
  refine List.forall_mem_cons.mpr ⟨xmo_of xmc_335 (h _ List.mem_cons_self), ?_⟩
  replace h := fun q hq => h q (List.mem_cons_of_mem _ hq)
  refine List.forall_mem_cons.mpr ⟨xmo_of xmc_336 (h _ List.mem_cons_self), ?_⟩
  replace h := fun q hq => h q (List.mem_cons_of_mem _ hq)
  refine List.forall_mem_cons.mpr ⟨xmo_of xmc_337 (h _ List.mem_cons_self), ?_⟩
  replace h := fun q hq => h q (List.mem_cons_of_mem _ hq)
  refine List.forall_mem_cons.mpr ⟨xmo_of xmc_338 (h _ List.mem_cons_self), ?_⟩
  replace h := fun q hq => h q (List.mem_cons_of_mem _ hq)
  refine List.forall_mem_cons.mpr ⟨xmo_of xmc_339 (h _ List.mem_cons_self), ?_⟩
  replace h := fun q hq => h q (List.mem_cons_of_mem _ hq)
  refine List.forall_mem_cons.mpr ⟨xmo_of xmc_340 (h _ List.mem_cons_self), ?_⟩
  replace h := fun q hq => h q (List.mem_cons_of_mem _ hq)
  refine List.forall_mem_cons.mpr ⟨xmo_of xmc_341 (h _ List.mem_cons_self), ?_⟩
  replace h := fun q hq => h q (List.mem_cons_of_mem _ hq)
  refine List.forall_mem_cons.mpr ⟨xmo_of xmc_342 (h _ List.mem_cons_self), ?_⟩
  replace h := fun q hq => h q (List.mem_cons_of_mem _ hq)
  refine List.forall_mem_cons.mpr ⟨xmo_of xmc_343 (h _ List.mem_cons_self), ?_⟩
  replace h := fun q hq => h q (List.mem_cons_of_mem _ hq)
  refine List.forall_mem_cons.mpr ⟨xmo_of xmc_344 (h _ List.mem_cons_self), ?_⟩
  replace h := fun q hq => h q (List.mem_cons_of_mem _ hq)
  refine List.forall_mem_cons.mpr ⟨xmo_of xmc_345 (h _ List.mem_cons_self), ?_⟩
  replace h := fun q hq => h q (List.mem_cons_of_mem _ hq)
  refine List.forall_mem_cons.mpr ⟨xmo_of xmc_346 (h _ List.mem_cons_self), ?_⟩
  replace h := fun q hq => h q (List.mem_cons_of_mem _ hq)
  refine List.forall_mem_cons.mpr ⟨xmo_of xmc_347 (h _ List.mem_cons_self), ?_⟩
  replace h := fun q hq => h q (List.mem_cons_of_mem _ hq)
  refine List.forall_mem_cons.mpr ⟨xmo_of xmc_348 (h _ List.mem_cons_self), ?_⟩
  replace h := fun q hq => h q (List.mem_cons_of_mem _ hq)
  refine List.forall_mem_cons.mpr ⟨xmo_of xmc_349 (h _ List.mem_cons_self), ?_⟩
  replace h := fun q hq => h q (List.mem_cons_of_mem _ hq)
  refine List.forall_mem_cons.mpr ⟨xmo_of xmc_350 (h _ List.mem_cons_self), ?_⟩
  replace h := fun q hq => h q (List.mem_cons_of_mem _ hq)
  refine List.forall_mem_cons.mpr ⟨xmo_of xmc_351 (h _ List.mem_cons_self), ?_⟩
  replace h := fun q hq => h q (List.mem_cons_of_mem _ hq)
  refine List.forall_mem_cons.mpr ⟨xmo_of xmc_352 (h _ List.mem_cons_self), ?_⟩
  replace h := fun q hq => h q (List.mem_cons_of_mem _ hq)
  refine List.forall_mem_cons.mpr ⟨xmo_of xmc_353 (h _ List.mem_cons_self), ?_⟩
  replace h := fun q hq => h q (List.mem_cons_of_mem _ hq)
  refine List.forall_mem_cons.mpr ⟨xmo_of xmc_354 (h _ List.mem_cons_self), ?_⟩
  replace h := fun q hq => h q (List.mem_cons_of_mem _ hq)
  refine List.forall_mem_cons.mpr ⟨xmo_of xmc_355 (h _ List.mem_cons_self), ?_⟩
  replace h := fun q hq => h q (List.mem_cons_of_mem _ hq)
  exact fun _ z => absurd z List.not_mem_nil
theorem xmt_ok : ∀ q ∈ xmt, xmo q = true := by
  unfold xmt
  intro q hq
  simp only [List.mem_append] at hq
  rcases hq with h | h | h | h | h | h | h | h | h | h | h | h
  · exact xmo_0 q h
  · exact xmo_1 q h
  · exact xmo_2 q h
  · exact xmo_3 q h
  · exact xmo_4 q h
  · exact xmo_5 q h
  · exact xmo_6 q h
  · exact xmo_7 q h
  · exact xmo_8 q h
  · exact xmo_9 q h
  · exact xmo_10 q h
  · exact xmo_11 q h
