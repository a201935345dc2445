-- written by wip/tools/m19.py
theorem xmd_296 : xdc "SoupNineModel" 4 false (some FieldType.int) prog_14_method_94_code 0 cd_Mo_lost = true := by decide +kernel
theorem xmd_297 : xdc "SoupNineModel" 4 false (some FieldType.int) prog_14_method_98_code 0 cd_Mo_book = true := by decide +kernel
theorem xmd_298 : xdc "SoupNineModel" 2 false (some FieldType.boolean) prog_14_method_97_code 0 cd_Mo_hasBook = true := by decide +kernel
theorem xmd_299 : xdc "SoupNineModel" 1 false (some FieldType.int) prog_14_method_95_code 0 cd_Mo_nights = true := by decide +kernel
theorem xmd_300 : xdc "SoupNineModel" 3 false (some FieldType.int) prog_14_method_96_code 0 cd_Mo_nightOf = true := by decide +kernel
theorem xmd_301 : xdc "SoupNineModel" 5 false (some FieldType.int) prog_14_method_103_code 0 cd_Mo_held = true := by decide +kernel
theorem xmd_302 : xdc "SoupNineModel" 8 false (some FieldType.long) prog_14_method_102_code 0 cd_Mo_heldBy = true := by decide +kernel
theorem xmd_303 : xdc "SoupNineModel" 5 false (some FieldType.int) prog_14_method_101_code 0 cd_Mo_doorway = true := by decide +kernel
theorem xmd_304 : xdc "SoupNineModel" 2 false (some FieldType.int) prog_14_method_100_code 0 cd_Mo_moreFrom = true := by decide +kernel
theorem xmd_305 : xdc "SoupNineModel" 5 false (some FieldType.int) prog_14_method_99_code 0 cd_Mo_seenFrom = true := by decide +kernel
theorem xmd_306 : xdc "SoupNineModel" 5 false (some FieldType.int) prog_14_method_104_code 0 cd_Mo_bring = true := by decide +kernel
theorem xmd_307 : xdc "SoupNineModel" 5 false (some FieldType.int) prog_14_method_105_code 0 cd_Mo_enoughOn = true := by decide +kernel
theorem xmd_308 : xdc "SoupNineModel" 7 false (some FieldType.int) prog_14_method_106_code 0 cd_Mo_span = true := by decide +kernel
theorem xmd_309 : xdc "SoupNineModel" 4 false (some FieldType.int) prog_14_method_109_code 0 cd_Mo_list = true := by decide +kernel
theorem xmd_310 : xdc "SoupNineModel" 2 false (some FieldType.boolean) prog_14_method_108_code 0 cd_Mo_hasList = true := by decide +kernel
theorem xmd_311 : xdc "SoupNineModel" 2 false (some FieldType.int) prog_14_method_107_code 0 cd_Mo_listOf = true := by decide +kernel
theorem xmd_312 : xdc "SoupNineModel" 3 false (some FieldType.int) prog_14_method_113_code 0 cd_Mo_shod = true := by decide +kernel
theorem xmd_313 : xdc "SoupNineModel" 5 false none prog_14_method_111_code 0 cd_Mo_findNeeds = true := by decide +kernel
theorem xmd_314 : xdc "SoupNineModel" 3 false (some FieldType.boolean) prog_14_method_110_code 0 cd_Mo_isFit = true := by decide +kernel
theorem xmd_315 : xdc "SoupNineModel" 7 false (some FieldType.int) prog_14_method_112_code 0 cd_Mo_shoeOf = true := by decide +kernel
theorem xmd_316 : xdc "SoupNineModel" 4 false (some FieldType.int) prog_14_method_121_code 0 cd_Mo_look = true := by decide +kernel
theorem xmd_317 : xdc "SoupNineModel" 1 false (some FieldType.int) prog_14_method_114_code 0 cd_Mo_hides = true := by decide +kernel
theorem xmd_318 : xdc "SoupNineModel" 4 false (some FieldType.int) prog_14_method_117_code 0 cd_Mo_odds = true := by decide +kernel
theorem xmd_319 : xdc "SoupNineModel" 5 false none prog_14_method_119_code 0 cd_Mo_findLooks = true := by decide +kernel
theorem xmd_320 : xdc "SoupNineModel" 5 false (some FieldType.int) prog_14_method_118_code 0 cd_Mo_looksOn = true := by decide +kernel
theorem xmd_321 : xdc "SoupNineModel" 2 false (some FieldType.int) prog_14_method_115_code 0 cd_Mo_hideX = true := by decide +kernel
theorem xmd_322 : xdc "SoupNineModel" 2 false (some FieldType.int) prog_14_method_116_code 0 cd_Mo_hideY = true := by decide +kernel
theorem xmd_323 : xdc "SoupNineModel" 6 false (some FieldType.int) prog_14_method_120_code 0 cd_Mo_hideAt = true := by decide +kernel
theorem xmd_324 : xdc "SoupNineModel" 7 false (some FieldType.long) prog_14_method_126_code 0 cd_Mo_worry = true := by decide +kernel
theorem xmd_325 : xdc "SoupNineModel" 2 false (some FieldType.boolean) prog_14_method_125_code 0 cd_Mo_areOdds = true := by decide +kernel
theorem xmd_326 : xdc "SoupNineModel" 3 false (some FieldType.long) prog_14_method_124_code 0 cd_Mo_stays = true := by decide +kernel
theorem xmd_327 : xdc "SoupNineModel" 2 false (some FieldType.long) prog_14_method_123_code 0 cd_Mo_ill = true := by decide +kernel
theorem xmd_328 : xdc "SoupNineModel" 6 false (some FieldType.long) prog_14_method_122_code 0 cd_Mo_power = true := by decide +kernel
theorem xmd_329 : xdc "SoupNineModel" 7 false (some FieldType.int) prog_14_method_127_code 0 cd_Mo_when = true := by decide +kernel
theorem xmd_330_0 : xdl "SoupNineModel" 12 false (some FieldType.int) prog_14_method_128_code 0 (cd_Mo_shared.getD 0 []) = true := by decide +kernel
theorem xmd_330_1 : xdl "SoupNineModel" 12 false (some FieldType.int) prog_14_method_128_code 32 (cd_Mo_shared.getD 1 []) = true := by decide +kernel
theorem xmd_330_2 : xdl "SoupNineModel" 12 false (some FieldType.int) prog_14_method_128_code 64 (cd_Mo_shared.getD 2 []) = true := by decide +kernel
theorem xmd_330_3 : xdl "SoupNineModel" 12 false (some FieldType.int) prog_14_method_128_code 96 (cd_Mo_shared.getD 3 []) = true := by decide +kernel
theorem xmd_330_4 : xdl "SoupNineModel" 12 false (some FieldType.int) prog_14_method_128_code 128 (cd_Mo_shared.getD 4 []) = true := by decide +kernel
theorem xmd_330_5 : xdl "SoupNineModel" 12 false (some FieldType.int) prog_14_method_128_code 160 (cd_Mo_shared.getD 5 []) = true := by decide +kernel
theorem xmd_330_6 : xdl "SoupNineModel" 12 false (some FieldType.int) prog_14_method_128_code 192 (cd_Mo_shared.getD 6 []) = true := by decide +kernel
theorem xmd_330_7 : xdl "SoupNineModel" 12 false (some FieldType.int) prog_14_method_128_code 224 (cd_Mo_shared.getD 7 []) = true := by decide +kernel
theorem xmd_330 : xdc "SoupNineModel" 12 false (some FieldType.int) prog_14_method_128_code 0 cd_Mo_shared = true := by
  have e : cd_Mo_shared = [cd_Mo_shared.getD 0 [], cd_Mo_shared.getD 1 [], cd_Mo_shared.getD 2 [], cd_Mo_shared.getD 3 [], cd_Mo_shared.getD 4 [], cd_Mo_shared.getD 5 [], cd_Mo_shared.getD 6 [], cd_Mo_shared.getD 7 []] := rfl
  rw [e]
  simp only [xdc, Bool.and_eq_true]
  exact ⟨xmd_330_0, xmd_330_1, xmd_330_2, xmd_330_3, xmd_330_4, xmd_330_5, xmd_330_6, xmd_330_7, trivial⟩
theorem xmd_331 : xdc "SoupNineModel" 3 false (some FieldType.int) prog_14_method_8_code 0 cd_Mo_ones = true := by decide +kernel
theorem xmd_332 : xdc "SoupNineModel" 7 false (some FieldType.int) prog_14_method_129_code 0 cd_Mo_pair = true := by decide +kernel
theorem xmd_333 : xdc "SoupNineModel" 6 false (some FieldType.int) prog_14_method_132_code 0 cd_Mo_drawn = true := by decide +kernel
theorem xmd_334 : xdc "SoupNineModel" 2 false none prog_14_method_131_code 0 cd_Mo_drawDeed = true := by decide +kernel
theorem xmd_335 : xdc "SoupNineModel" 2 false (some FieldType.int) prog_14_method_130_code 0 cd_Mo_draw = true := by decide +kernel
theorem xmd_336 : xdc "SoupNineModel" 5 false (some FieldType.long) prog_14_method_133_code 0 cd_Mo_tells = true := by decide +kernel
theorem xmd_337 : xdc "SoupNineModel" 5 false (some FieldType.int) prog_14_method_135_code 0 cd_Mo_depot = true := by decide +kernel
theorem xmd_338 : xdc "SoupNineModel" 5 false (some FieldType.int) prog_14_method_134_code 0 cd_Mo_drivenFrom = true := by decide +kernel
theorem xmd_339 : xdc "SoupNineModel" 8 false (some FieldType.int) prog_14_method_136_code 0 cd_Mo_vans = true := by decide +kernel
theorem xmd_340 : xdc "SoupNineModel" 6 false (some FieldType.int) prog_14_method_137_code 0 cd_Mo_trail = true := by decide +kernel
theorem xmd_341 : xdc "SoupNineModel" 7 false (some FieldType.int) prog_14_method_138_code 0 cd_Mo_chat = true := by decide +kernel
theorem xmd_342_0 : xdl "SoupNineModel" 11 false (some FieldType.long) prog_14_method_139_code 0 (cd_Mo_lack.getD 0 []) = true := by decide +kernel
theorem xmd_342_1 : xdl "SoupNineModel" 11 false (some FieldType.long) prog_14_method_139_code 32 (cd_Mo_lack.getD 1 []) = true := by decide +kernel
theorem xmd_342_2 : xdl "SoupNineModel" 11 false (some FieldType.long) prog_14_method_139_code 64 (cd_Mo_lack.getD 2 []) = true := by decide +kernel
theorem xmd_342_3 : xdl "SoupNineModel" 11 false (some FieldType.long) prog_14_method_139_code 96 (cd_Mo_lack.getD 3 []) = true := by decide +kernel
theorem xmd_342_4 : xdl "SoupNineModel" 11 false (some FieldType.long) prog_14_method_139_code 128 (cd_Mo_lack.getD 4 []) = true := by decide +kernel
theorem xmd_342_5 : xdl "SoupNineModel" 11 false (some FieldType.long) prog_14_method_139_code 160 (cd_Mo_lack.getD 5 []) = true := by decide +kernel
theorem xmd_342_6 : xdl "SoupNineModel" 11 false (some FieldType.long) prog_14_method_139_code 192 (cd_Mo_lack.getD 6 []) = true := by decide +kernel
theorem xmd_342_7 : xdl "SoupNineModel" 11 false (some FieldType.long) prog_14_method_139_code 224 (cd_Mo_lack.getD 7 []) = true := by decide +kernel
theorem xmd_342_8 : xdl "SoupNineModel" 11 false (some FieldType.long) prog_14_method_139_code 256 (cd_Mo_lack.getD 8 []) = true := by decide +kernel
theorem xmd_342 : xdc "SoupNineModel" 11 false (some FieldType.long) prog_14_method_139_code 0 cd_Mo_lack = true := by
  have e : cd_Mo_lack = [cd_Mo_lack.getD 0 [], cd_Mo_lack.getD 1 [], cd_Mo_lack.getD 2 [], cd_Mo_lack.getD 3 [], cd_Mo_lack.getD 4 [], cd_Mo_lack.getD 5 [], cd_Mo_lack.getD 6 [], cd_Mo_lack.getD 7 [], cd_Mo_lack.getD 8 []] := rfl
  rw [e]
  simp only [xdc, Bool.and_eq_true]
  exact ⟨xmd_342_0, xmd_342_1, xmd_342_2, xmd_342_3, xmd_342_4, xmd_342_5, xmd_342_6, xmd_342_7, xmd_342_8, trivial⟩
theorem xmd_343_0 : xdl "SoupNineModel" 11 false (some FieldType.long) prog_14_method_141_code 0 (cd_Mo_lot.getD 0 []) = true := by decide +kernel
theorem xmd_343_1 : xdl "SoupNineModel" 11 false (some FieldType.long) prog_14_method_141_code 32 (cd_Mo_lot.getD 1 []) = true := by decide +kernel
theorem xmd_343_2 : xdl "SoupNineModel" 11 false (some FieldType.long) prog_14_method_141_code 64 (cd_Mo_lot.getD 2 []) = true := by decide +kernel
theorem xmd_343_3 : xdl "SoupNineModel" 11 false (some FieldType.long) prog_14_method_141_code 96 (cd_Mo_lot.getD 3 []) = true := by decide +kernel
theorem xmd_343_4 : xdl "SoupNineModel" 11 false (some FieldType.long) prog_14_method_141_code 128 (cd_Mo_lot.getD 4 []) = true := by decide +kernel
theorem xmd_343_5 : xdl "SoupNineModel" 11 false (some FieldType.long) prog_14_method_141_code 160 (cd_Mo_lot.getD 5 []) = true := by decide +kernel
theorem xmd_343_6 : xdl "SoupNineModel" 11 false (some FieldType.long) prog_14_method_141_code 192 (cd_Mo_lot.getD 6 []) = true := by decide +kernel
theorem xmd_343 : xdc "SoupNineModel" 11 false (some FieldType.long) prog_14_method_141_code 0 cd_Mo_lot = true := by
  have e : cd_Mo_lot = [cd_Mo_lot.getD 0 [], cd_Mo_lot.getD 1 [], cd_Mo_lot.getD 2 [], cd_Mo_lot.getD 3 [], cd_Mo_lot.getD 4 [], cd_Mo_lot.getD 5 [], cd_Mo_lot.getD 6 []] := rfl
  rw [e]
  simp only [xdc, Bool.and_eq_true]
  exact ⟨xmd_343_0, xmd_343_1, xmd_343_2, xmd_343_3, xmd_343_4, xmd_343_5, xmd_343_6, trivial⟩
