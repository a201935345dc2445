-- written by wip/tools/m19.py
theorem xmd_182 : xdc "SoupNine" 5 false (some FieldType.int) prog_1_method_31_code 0 cd_So_book = true := by decide +kernel
theorem xmd_183 : xdc "SoupNine" 4 false (some FieldType.int) prog_1_method_32_code 0 cd_So_held = true := by decide +kernel
theorem xmd_184 : xdc "SoupNine" 5 false (some FieldType.int) prog_1_method_33_code 0 cd_So_bring = true := by decide +kernel
theorem xmd_185 : xdc "SoupNine" 5 false (some FieldType.int) prog_1_method_34_code 0 cd_So_span = true := by decide +kernel
theorem xmd_186 : xdc "SoupNine" 6 false (some FieldType.long) prog_1_method_35_code 0 cd_So_lot = true := by decide +kernel
theorem xmd_187 : xdc "SoupNine" 6 false (some FieldType.int) prog_1_method_36_code 0 cd_So_like = true := by decide +kernel
theorem xmd_188 : xdc "SoupNine" 4 false (some FieldType.int) prog_1_method_38_code 0 cd_So_list = true := by decide +kernel
theorem xmd_189 : xdc "SoupNine" 4 false (some FieldType.int) prog_1_method_39_code 0 cd_So_shod = true := by decide +kernel
theorem xmd_190 : xdc "SoupNine" 4 false (some FieldType.int) prog_1_method_40_code 0 cd_So_look = true := by decide +kernel
theorem xmd_191 : xdc "SoupNine" 5 false (some FieldType.long) prog_1_method_41_code 0 cd_So_worry = true := by decide +kernel
theorem xmd_192 : xdc "SoupNine" 1 false (some FieldType.boolean) prog_1_method_49_code 0 cd_So_isOfTen = true := by decide +kernel
theorem xmd_193 : xdc "SoupNine" 1 false (some FieldType.boolean) prog_1_method_50_code 0 cd_So_isOfHundred = true := by decide +kernel
theorem xmd_194 : xdc "SoupNine" 2 false (some FieldType.long) prog_1_method_43_code 0 cd_So_unwell = true := by decide +kernel
theorem xmd_195 : xdc "SoupNine" 3 false (some FieldType.long) prog_1_method_44_code 0 cd_So_wellButAway = true := by decide +kernel
theorem xmd_196 : xdc "SoupNine" 5 false (some FieldType.int) prog_1_method_42_code 0 cd_So_when = true := by decide +kernel
theorem xmd_197 : xdc "SoupNine" 7 false (some FieldType.long) prog_1_method_45_code 0 cd_So_sick = true := by decide +kernel
theorem xmd_198 : xdc "SoupNine" 4 false (some FieldType.boolean) prog_1_method_47_code 0 cd_So_areSigns = true := by decide +kernel
theorem xmd_199 : xdc "SoupNine" 3 false (some FieldType.long) prog_1_method_48_code 0 cd_So_shown = true := by decide +kernel
theorem xmd_200 : xdc "SoupNine" 7 false (some FieldType.int) prog_1_method_46_code 0 cd_So_call = true := by decide +kernel
theorem xmd_201 : xdc "SoupNine" 8 false (some FieldType.int) prog_1_method_51_code 0 cd_So_shared = true := by decide +kernel
theorem xmd_202 : xdc "SoupNine" 2 false (some FieldType.boolean) prog_1_method_52_code 0 cd_So_areDays = true := by decide +kernel
theorem xmd_203 : xdc "SoupNine" 8 false (some FieldType.int) prog_1_method_53_code 0 cd_So_vanDays = true := by decide +kernel
theorem xmd_204 : xdc "SoupNine" 4 false (some FieldType.int) prog_1_method_54_code 0 cd_So_lowestBits = true := by decide +kernel
theorem xmd_205 : xdc "SoupNine" 6 false (some FieldType.int) prog_1_method_55_code 0 cd_So_pair = true := by decide +kernel
theorem xmd_206 : xdc "SoupNine" 3 false (some FieldType.int) prog_1_method_56_code 0 cd_So_alone = true := by decide +kernel
theorem xmd_207_0 : xdl "SoupNineModel" 1 true none prog_14_method_1_code 0 (cd_Mo_init.getD 0 []) = true := by decide +kernel
theorem xmd_207_1 : xdl "SoupNineModel" 1 true none prog_14_method_1_code 32 (cd_Mo_init.getD 1 []) = true := by decide +kernel
theorem xmd_207_2 : xdl "SoupNineModel" 1 true none prog_14_method_1_code 64 (cd_Mo_init.getD 2 []) = true := by decide +kernel
theorem xmd_207_3 : xdl "SoupNineModel" 1 true none prog_14_method_1_code 96 (cd_Mo_init.getD 3 []) = true := by decide +kernel
theorem xmd_207_4 : xdl "SoupNineModel" 1 true none prog_14_method_1_code 128 (cd_Mo_init.getD 4 []) = true := by decide +kernel
theorem xmd_207_5 : xdl "SoupNineModel" 1 true none prog_14_method_1_code 160 (cd_Mo_init.getD 5 []) = true := by decide +kernel
theorem xmd_207_6 : xdl "SoupNineModel" 1 true none prog_14_method_1_code 192 (cd_Mo_init.getD 6 []) = true := by decide +kernel
theorem xmd_207_7 : xdl "SoupNineModel" 1 true none prog_14_method_1_code 224 (cd_Mo_init.getD 7 []) = true := by decide +kernel
theorem xmd_207 : xdc "SoupNineModel" 1 true none prog_14_method_1_code 0 cd_Mo_init = true := by
  have e : cd_Mo_init = [cd_Mo_init.getD 0 [], cd_Mo_init.getD 1 [], cd_Mo_init.getD 2 [], cd_Mo_init.getD 3 [], cd_Mo_init.getD 4 [], cd_Mo_init.getD 5 [], cd_Mo_init.getD 6 [], cd_Mo_init.getD 7 []] := rfl
  rw [e]
  simp only [xdc, Bool.and_eq_true]
  exact ⟨xmd_207_0, xmd_207_1, xmd_207_2, xmd_207_3, xmd_207_4, xmd_207_5, xmd_207_6, xmd_207_7, trivial⟩
theorem xmd_208 : xdc "SoupNineModel" 6 false (some FieldType.int) prog_14_method_13_code 0 cd_Mo_feed = true := by decide +kernel
theorem xmd_209 : xdc "SoupNineModel" 3 false none prog_14_method_14_code 0 cd_Mo_four = true := by decide +kernel
theorem xmd_210 : xdc "SoupNineModel" 2 false (some FieldType.int) prog_14_method_15_code 0 cd_Mo_end = true := by decide +kernel
theorem xmd_211 : xdc "SoupNineModel" 3 false (some FieldType.boolean) prog_14_method_3_code 0 cd_Mo_in = true := by decide +kernel
theorem xmd_212 : xdc "SoupNineModel" 4 false (some FieldType.int) prog_14_method_45_code 0 cd_Mo_text = true := by decide +kernel
theorem xmd_213 : xdc "SoupNineModel" 3 false (some FieldType.boolean) prog_14_method_12_code 0 cd_Mo_is = true := by decide +kernel
theorem xmd_214 : xdc "SoupNineModel" 3 false (some FieldType.boolean) prog_14_method_42_code 0 cd_Mo_readText = true := by decide +kernel
theorem xmd_215 : xdc "SoupNineModel" 3 false none prog_14_method_41_code 0 cd_Mo_blank = true := by decide +kernel
theorem xmd_216_0 : xdl "SoupNineModel" 3 false none prog_14_method_17_code 0 (cd_Mo_token.getD 0 []) = true := by decide +kernel
theorem xmd_216_1 : xdl "SoupNineModel" 3 false none prog_14_method_17_code 32 (cd_Mo_token.getD 1 []) = true := by decide +kernel
theorem xmd_216_2 : xdl "SoupNineModel" 3 false none prog_14_method_17_code 64 (cd_Mo_token.getD 2 []) = true := by decide +kernel
theorem xmd_216_3 : xdl "SoupNineModel" 3 false none prog_14_method_17_code 96 (cd_Mo_token.getD 3 []) = true := by decide +kernel
theorem xmd_216_4 : xdl "SoupNineModel" 3 false none prog_14_method_17_code 128 (cd_Mo_token.getD 4 []) = true := by decide +kernel
theorem xmd_216_5 : xdl "SoupNineModel" 3 false none prog_14_method_17_code 160 (cd_Mo_token.getD 5 []) = true := by decide +kernel
theorem xmd_216_6 : xdl "SoupNineModel" 3 false none prog_14_method_17_code 192 (cd_Mo_token.getD 6 []) = true := by decide +kernel
theorem xmd_216_7 : xdl "SoupNineModel" 3 false none prog_14_method_17_code 224 (cd_Mo_token.getD 7 []) = true := by decide +kernel
theorem xmd_216_8 : xdl "SoupNineModel" 3 false none prog_14_method_17_code 256 (cd_Mo_token.getD 8 []) = true := by decide +kernel
theorem xmd_216 : xdc "SoupNineModel" 3 false none prog_14_method_17_code 0 cd_Mo_token = true := by
  have e : cd_Mo_token = [cd_Mo_token.getD 0 [], cd_Mo_token.getD 1 [], cd_Mo_token.getD 2 [], cd_Mo_token.getD 3 [], cd_Mo_token.getD 4 [], cd_Mo_token.getD 5 [], cd_Mo_token.getD 6 [], cd_Mo_token.getD 7 [], cd_Mo_token.getD 8 []] := rfl
  rw [e]
  simp only [xdc, Bool.and_eq_true]
  exact ⟨xmd_216_0, xmd_216_1, xmd_216_2, xmd_216_3, xmd_216_4, xmd_216_5, xmd_216_6, xmd_216_7, xmd_216_8, trivial⟩
theorem xmd_217 : xdc "SoupNineModel" 1 false (some FieldType.int) prog_14_method_16_code 0 cd_Mo_see = true := by decide +kernel
theorem xmd_218 : xdc "SoupNineModel" 4 false (some FieldType.boolean) prog_14_method_40_code 0 cd_Mo_lines = true := by decide +kernel
theorem xmd_219 : xdc "SoupNineModel" 5 false (some FieldType.boolean) prog_14_method_39_code 0 cd_Mo_lineOf = true := by decide +kernel
theorem xmd_220 : xdc "SoupNineModel" 5 false (some FieldType.boolean) prog_14_method_28_code 0 cd_Mo_townLine = true := by decide +kernel
theorem xmd_221 : xdc "SoupNineModel" 2 false (some FieldType.int) prog_14_method_24_code 0 cd_Mo_kindBy = true := by decide +kernel
theorem xmd_222 : xdc "SoupNineModel" 1 false (some FieldType.boolean) prog_14_method_18_code 0 cd_Mo_fails = true := by decide +kernel
theorem xmd_223 : xdc "SoupNineModel" 4 false none prog_14_method_22_code 0 cd_Mo_full = true := by decide +kernel
theorem xmd_224 : xdc "SoupNineModel" 3 false none prog_14_method_19_code 0 cd_Mo_later = true := by decide +kernel
theorem xmd_225 : xdc "SoupNineModel" 3 false (some FieldType.boolean) prog_14_method_25_code 0 cd_Mo_stopLine = true := by decide +kernel
theorem xmd_226 : xdc "SoupNineModel" 4 false (some FieldType.boolean) prog_14_method_21_code 0 cd_Mo_take = true := by decide +kernel
theorem xmd_227 : xdc "SoupNineModel" 5 false (some FieldType.boolean) prog_14_method_20_code 0 cd_Mo_takeBut = true := by decide +kernel
theorem xmd_228 : xdc "SoupNineModel" 1 false (some FieldType.boolean) prog_14_method_26_code 0 cd_Mo_followLine = true := by decide +kernel
theorem xmd_229 : xdc "SoupNineModel" 2 false (some FieldType.int) prog_14_method_5_code 0 cd_Mo_greater = true := by decide +kernel
theorem xmd_230 : xdc "SoupNineModel" 1 false (some FieldType.boolean) prog_14_method_27_code 0 cd_Mo_homeLine = true := by decide +kernel
theorem xmd_231 : xdc "SoupNineModel" 4 false (some FieldType.boolean) prog_14_method_23_code 0 cd_Mo_plainLine = true := by decide +kernel
theorem xmd_232 : xdc "SoupNineModel" 5 false (some FieldType.boolean) prog_14_method_31_code 0 cd_Mo_dayLine = true := by decide +kernel
theorem xmd_233 : xdc "SoupNineModel" 2 false (some FieldType.int) prog_14_method_30_code 0 cd_Mo_deedBy = true := by decide +kernel
theorem xmd_234 : xdc "SoupNineModel" 5 false none prog_14_method_29_code 0 cd_Mo_keep = true := by decide +kernel
theorem xmd_235 : xdc "SoupNineModel" 5 false (some FieldType.boolean) prog_14_method_34_code 0 cd_Mo_bookLine = true := by decide +kernel
