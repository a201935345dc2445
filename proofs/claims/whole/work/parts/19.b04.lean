-- written by wip/tools/m19.py
theorem xmd_236 : xdc "SoupNineModel" 3 false (some FieldType.boolean) prog_14_method_33_code 0 cd_Mo_askedLine = true := by decide +kernel
theorem xmd_237 : xdc "SoupNineModel" 2 false (some FieldType.int) prog_14_method_32_code 0 cd_Mo_thingBy = true := by decide +kernel
theorem xmd_238 : xdc "SoupNineModel" 4 false (some FieldType.boolean) prog_14_method_38_code 0 cd_Mo_listLine = true := by decide +kernel
theorem xmd_239 : xdc "SoupNineModel" 1 false (some FieldType.boolean) prog_14_method_35_code 0 cd_Mo_shoeLine = true := by decide +kernel
theorem xmd_240 : xdc "SoupNineModel" 1 false (some FieldType.boolean) prog_14_method_36_code 0 cd_Mo_footLine = true := by decide +kernel
theorem xmd_241 : xdc "SoupNineModel" 1 false (some FieldType.boolean) prog_14_method_37_code 0 cd_Mo_hideLine = true := by decide +kernel
theorem xmd_242 : xdc "SoupNineModel" 3 false none prog_14_method_44_code 0 cd_Mo_storeAll = true := by decide +kernel
theorem xmd_243 : xdc "SoupNineModel" 5 false none prog_14_method_43_code 0 cd_Mo_store = true := by decide +kernel
theorem xmd_244 : xdc "SoupNineModel" 2 false (some FieldType.int) prog_14_method_46_code 0 cd_Mo_fault = true := by decide +kernel
theorem xmd_245 : xdc "SoupNineModel" 3 false (some FieldType.int) prog_14_method_50_code 0 cd_Mo_town = true := by decide +kernel
theorem xmd_246 : xdc "SoupNineModel" 2 false (some FieldType.boolean) prog_14_method_48_code 0 cd_Mo_hand = true := by decide +kernel
theorem xmd_247 : xdc "SoupNineModel" 2 false (some FieldType.int) prog_14_method_47_code 0 cd_Mo_of = true := by decide +kernel
theorem xmd_248 : xdc "SoupNineModel" 2 false (some FieldType.boolean) prog_14_method_49_code 0 cd_Mo_isStop = true := by decide +kernel
theorem xmd_249 : xdc "SoupNineModel" 4 false (some FieldType.int) prog_14_method_54_code 0 cd_Mo_deed = true := by decide +kernel
theorem xmd_250 : xdc "SoupNineModel" 2 false (some FieldType.boolean) prog_14_method_53_code 0 cd_Mo_hasEvening = true := by decide +kernel
theorem xmd_251 : xdc "SoupNineModel" 1 false (some FieldType.int) prog_14_method_51_code 0 cd_Mo_deeds = true := by decide +kernel
theorem xmd_252 : xdc "SoupNineModel" 3 false (some FieldType.int) prog_14_method_52_code 0 cd_Mo_deedOf = true := by decide +kernel
theorem xmd_253 : xdc "SoupNineModel" 3 false (some FieldType.int) prog_14_method_68_code 0 cd_Mo_till = true := by decide +kernel
theorem xmd_254 : xdc "SoupNineModel" 3 false (some FieldType.boolean) prog_14_method_67_code 0 cd_Mo_layAll = true := by decide +kernel
theorem xmd_255 : xdc "SoupNineModel" 3 false (some FieldType.int) prog_14_method_66_code 0 cd_Mo_play = true := by decide +kernel
theorem xmd_256 : xdc "SoupNineModel" 2 false none prog_14_method_60_code 0 cd_Mo_begin = true := by decide +kernel
theorem xmd_257 : xdc "SoupNineModel" 3 false (some FieldType.int) prog_14_method_55_code 0 cd_Mo_middle = true := by decide +kernel
theorem xmd_258 : xdc "SoupNineModel" 3 false (some FieldType.boolean) prog_14_method_65_code 0 cd_Mo_does = true := by decide +kernel
theorem xmd_259 : xdc "SoupNineModel" 2 false (some FieldType.boolean) prog_14_method_62_code 0 cd_Mo_drivesTo = true := by decide +kernel
theorem xmd_260 : xdc "SoupNineModel" 3 false (some FieldType.int) prog_14_method_58_code 0 cd_Mo_drives = true := by decide +kernel
theorem xmd_261 : xdc "SoupNineModel" 2 false (some FieldType.int) prog_14_method_56_code 0 cd_Mo_placeX = true := by decide +kernel
theorem xmd_262 : xdc "SoupNineModel" 2 false (some FieldType.int) prog_14_method_7_code 0 cd_Mo_apart = true := by decide +kernel
theorem xmd_263 : xdc "SoupNineModel" 2 false (some FieldType.int) prog_14_method_57_code 0 cd_Mo_placeY = true := by decide +kernel
theorem xmd_264 : xdc "SoupNineModel" 3 false (some FieldType.boolean) prog_14_method_61_code 0 cd_Mo_takes = true := by decide +kernel
theorem xmd_265_0 : xdl "SoupNineModel" 6 false (some FieldType.boolean) prog_14_method_63_code 0 (cd_Mo_ladles.getD 0 []) = true := by decide +kernel
theorem xmd_265_1 : xdl "SoupNineModel" 6 false (some FieldType.boolean) prog_14_method_63_code 32 (cd_Mo_ladles.getD 1 []) = true := by decide +kernel
theorem xmd_265_2 : xdl "SoupNineModel" 6 false (some FieldType.boolean) prog_14_method_63_code 64 (cd_Mo_ladles.getD 2 []) = true := by decide +kernel
theorem xmd_265_3 : xdl "SoupNineModel" 6 false (some FieldType.boolean) prog_14_method_63_code 96 (cd_Mo_ladles.getD 3 []) = true := by decide +kernel
theorem xmd_265_4 : xdl "SoupNineModel" 6 false (some FieldType.boolean) prog_14_method_63_code 128 (cd_Mo_ladles.getD 4 []) = true := by decide +kernel
theorem xmd_265_5 : xdl "SoupNineModel" 6 false (some FieldType.boolean) prog_14_method_63_code 160 (cd_Mo_ladles.getD 5 []) = true := by decide +kernel
theorem xmd_265_6 : xdl "SoupNineModel" 6 false (some FieldType.boolean) prog_14_method_63_code 192 (cd_Mo_ladles.getD 6 []) = true := by decide +kernel
theorem xmd_265_7 : xdl "SoupNineModel" 6 false (some FieldType.boolean) prog_14_method_63_code 224 (cd_Mo_ladles.getD 7 []) = true := by decide +kernel
theorem xmd_265 : xdc "SoupNineModel" 6 false (some FieldType.boolean) prog_14_method_63_code 0 cd_Mo_ladles = true := by
  have e : cd_Mo_ladles = [cd_Mo_ladles.getD 0 [], cd_Mo_ladles.getD 1 [], cd_Mo_ladles.getD 2 [], cd_Mo_ladles.getD 3 [], cd_Mo_ladles.getD 4 [], cd_Mo_ladles.getD 5 [], cd_Mo_ladles.getD 6 [], cd_Mo_ladles.getD 7 []] := rfl
  rw [e]
  simp only [xdc, Bool.and_eq_true]
  exact ⟨xmd_265_0, xmd_265_1, xmd_265_2, xmd_265_3, xmd_265_4, xmd_265_5, xmd_265_6, xmd_265_7, trivial⟩
theorem xmd_266 : xdc "SoupNineModel" 1 false (some FieldType.int) prog_14_method_59_code 0 cd_Mo_feeds = true := by decide +kernel
theorem xmd_267 : xdc "SoupNineModel" 2 false (some FieldType.int) prog_14_method_6_code 0 cd_Mo_lesser = true := by decide +kernel
theorem xmd_268 : xdc "SoupNineModel" 1 false (some FieldType.boolean) prog_14_method_64_code 0 cd_Mo_chats = true := by decide +kernel
theorem xmd_269 : xdc "SoupNineModel" 5 false (some FieldType.int) prog_14_method_71_code 0 cd_Mo_state = true := by decide +kernel
theorem xmd_270 : xdc "SoupNineModel" 3 false (some FieldType.int) prog_14_method_70_code 0 cd_Mo_ofState = true := by decide +kernel
theorem xmd_271 : xdc "SoupNineModel" 2 false (some FieldType.int) prog_14_method_69_code 0 cd_Mo_ofEvening = true := by decide +kernel
theorem xmd_272 : xdc "SoupNineModel" 5 false (some FieldType.int) prog_14_method_77_code 0 cd_Mo_give = true := by decide +kernel
theorem xmd_273 : xdc "SoupNineModel" 3 false (some FieldType.boolean) prog_14_method_76_code 0 cd_Mo_mayCome = true := by decide +kernel
theorem xmd_274 : xdc "SoupNineModel" 6 false none prog_14_method_75_code 0 cd_Mo_findCounts = true := by decide +kernel
theorem xmd_275 : xdc "SoupNineModel" 6 false (some FieldType.int) prog_14_method_74_code 0 cd_Mo_gives = true := by decide +kernel
theorem xmd_276 : xdc "SoupNineModel" 5 false (some FieldType.long) prog_14_method_73_code 0 cd_Mo_countsBy = true := by decide +kernel
theorem xmd_277 : xdc "SoupNineModel" 2 false (some FieldType.int) prog_14_method_72_code 0 cd_Mo_weight = true := by decide +kernel
theorem xmd_278 : xdc "SoupNineModel" 5 false (some FieldType.long) prog_14_method_79_code 0 cd_Mo_mean = true := by decide +kernel
theorem xmd_279 : xdc "SoupNineModel" 5 false (some FieldType.long) prog_14_method_78_code 0 cd_Mo_part = true := by decide +kernel
theorem xmd_280 : xdc "SoupNineModel" 10 false (some FieldType.long) prog_14_method_9_code 0 cd_Mo_common = true := by decide +kernel
theorem xmd_281 : xdc "SoupNineModel" 4 false (some FieldType.int) prog_14_method_80_code 0 cd_Mo_safe = true := by decide +kernel
theorem xmd_282 : xdc "SoupNineModel" 3 false (some FieldType.int) prog_14_method_88_code 0 cd_Mo_way = true := by decide +kernel
theorem xmd_283 : xdc "SoupNineModel" 8 false none prog_14_method_86_code 0 cd_Mo_findWay = true := by decide +kernel
theorem xmd_284 : xdc "SoupNineModel" 7 false none prog_14_method_84_code 0 cd_Mo_findOn = true := by decide +kernel
theorem xmd_285 : xdc "SoupNineModel" 4 false (some FieldType.int) prog_14_method_82_code 0 cd_Mo_peopleOf = true := by decide +kernel
theorem xmd_286 : xdc "SoupNineModel" 2 false (some FieldType.boolean) prog_14_method_4_code 0 cd_Mo_has = true := by decide +kernel
theorem xmd_287 : xdc "SoupNineModel" 8 false none prog_14_method_85_code 0 cd_Mo_goOn = true := by decide +kernel
theorem xmd_288 : xdc "SoupNineModel" 2 false (some FieldType.boolean) prog_14_method_81_code 0 cd_Mo_isSought = true := by decide +kernel
theorem xmd_289 : xdc "SoupNineModel" 5 false (some FieldType.int) prog_14_method_83_code 0 cd_Mo_doneThere = true := by decide +kernel
theorem xmd_290 : xdc "SoupNineModel" 8 false (some FieldType.boolean) prog_14_method_87_code 0 cd_Mo_leads = true := by decide +kernel
theorem xmd_291 : xdc "SoupNineModel" 7 false (some FieldType.int) prog_14_method_91_code 0 cd_Mo_round = true := by decide +kernel
theorem xmd_292 : xdc "SoupNineModel" 5 false none prog_14_method_90_code 0 cd_Mo_findRounds = true := by decide +kernel
theorem xmd_293 : xdc "SoupNineModel" 2 false (some FieldType.int) prog_14_method_89_code 0 cd_Mo_cell = true := by decide +kernel
theorem xmd_294 : xdc "SoupNineModel" 3 false (some FieldType.int) prog_14_method_93_code 0 cd_Mo_talks = true := by decide +kernel
theorem xmd_295 : xdc "SoupNineModel" 6 false (some FieldType.boolean) prog_14_method_92_code 0 cd_Mo_areWarm = true := by decide +kernel
