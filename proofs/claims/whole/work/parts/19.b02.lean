-- written by wip/tools/m19.py
theorem xmd_128 : xdc "SoupNine$Reader" 2 false none prog_6_method_3_code 0 cd_Reader_begin = true := by decide +kernel
theorem xmd_129_0 : xdl "SoupNine$Reader" 1 false none prog_6_method_15_code 0 (cd_Reader_advance.getD 0 []) = true := by decide +kernel
theorem xmd_129_1 : xdl "SoupNine$Reader" 1 false none prog_6_method_15_code 32 (cd_Reader_advance.getD 1 []) = true := by decide +kernel
theorem xmd_129_2 : xdl "SoupNine$Reader" 1 false none prog_6_method_15_code 64 (cd_Reader_advance.getD 2 []) = true := by decide +kernel
theorem xmd_129_3 : xdl "SoupNine$Reader" 1 false none prog_6_method_15_code 96 (cd_Reader_advance.getD 3 []) = true := by decide +kernel
theorem xmd_129_4 : xdl "SoupNine$Reader" 1 false none prog_6_method_15_code 128 (cd_Reader_advance.getD 4 []) = true := by decide +kernel
theorem xmd_129_5 : xdl "SoupNine$Reader" 1 false none prog_6_method_15_code 160 (cd_Reader_advance.getD 5 []) = true := by decide +kernel
theorem xmd_129_6 : xdl "SoupNine$Reader" 1 false none prog_6_method_15_code 192 (cd_Reader_advance.getD 6 []) = true := by decide +kernel
theorem xmd_129 : xdc "SoupNine$Reader" 1 false none prog_6_method_15_code 0 cd_Reader_advance = true := by
  have e : cd_Reader_advance = [cd_Reader_advance.getD 0 [], cd_Reader_advance.getD 1 [], cd_Reader_advance.getD 2 [], cd_Reader_advance.getD 3 [], cd_Reader_advance.getD 4 [], cd_Reader_advance.getD 5 [], cd_Reader_advance.getD 6 []] := rfl
  rw [e]
  simp only [xdc, Bool.and_eq_true]
  exact ⟨xmd_129_0, xmd_129_1, xmd_129_2, xmd_129_3, xmd_129_4, xmd_129_5, xmd_129_6, trivial⟩
theorem xmd_130 : xdc "SoupNine$Reader" 1 false (some FieldType.boolean) prog_6_method_17_code 0 cd_Reader_isLetter = true := by decide +kernel
theorem xmd_131 : xdc "SoupNine$Reader" 1 false (some FieldType.boolean) prog_6_method_18_code 0 cd_Reader_isDigit = true := by decide +kernel
theorem xmd_132 : xdc "SoupNine$Reader" 1 false none prog_6_method_16_code 0 cd_Reader_readDigits = true := by decide +kernel
theorem xmd_133 : xdc "SoupNine$Reader" 3 false (some FieldType.boolean) prog_6_method_5_code 0 cd_Reader_readLine = true := by decide +kernel
theorem xmd_134 : xdc "SoupNine$Reader" 3 false (some FieldType.int) prog_6_method_6_code 0 cd_Reader_codeOf = true := by decide +kernel
theorem xmd_135 : xdc "SoupNine$Reader" 1 false (some (FieldType.object "java/lang/String")) prog_6_method_13_code 0 cd_Reader_wordOf = true := by decide +kernel
theorem xmd_136 : xdc "SoupNine$Reader" 3 false (some FieldType.boolean) prog_6_method_14_code 0 cd_Reader_isWord = true := by decide +kernel
theorem xmd_137 : xdc "SoupNine$Reader" 2 false none prog_6_method_7_code 0 cd_Reader_checkRoom = true := by decide +kernel
theorem xmd_138 : xdc "SoupNine$Reader" 3 false none prog_6_method_4_code 0 cd_Reader_noteFault = true := by decide +kernel
theorem xmd_139 : xdc "SoupNine$Reader" 1 false (some FieldType.boolean) prog_6_method_8_code 0 cd_Reader_readThing = true := by decide +kernel
theorem xmd_140 : xdc "SoupNine$Reader" 3 false (some FieldType.boolean) prog_6_method_9_code 0 cd_Reader_readNumbers = true := by decide +kernel
theorem xmd_141 : xdc "SoupNine$Reader" 3 false (some FieldType.boolean) prog_6_method_10_code 0 cd_Reader_canBe = true := by decide +kernel
theorem xmd_142 : xdc "SoupNine$Reader" 2 false none prog_6_method_11_code 0 cd_Reader_tellLine = true := by decide +kernel
theorem xmd_143 : xdc "SoupNine$Reader" 2 false none prog_6_method_12_code 0 cd_Reader_tellOfTown = true := by decide +kernel
theorem xmd_144 : xdc "SoupNine$Told" 1 true none prog_10_method_1_code 0 cd_Told_init = true := by decide +kernel
theorem xmd_145 : xdc "SoupNine$Told" 3 false none prog_10_method_2_code 0 cd_Told_addBytes = true := by decide +kernel
theorem xmd_146 : xdc "SoupNine$Told" 3 false none prog_10_method_3_code 0 cd_Told_copyFrom = true := by decide +kernel
theorem xmd_147 : xdc "SoupNine$Told" 2 false (some (FieldType.object "SoupNine$Town")) prog_10_method_4_code 0 cd_Told_townAt = true := by decide +kernel
theorem xmd_148 : xdc "SoupNine$Told" 2 false (some (FieldType.object "SoupNine$Evening")) prog_10_method_5_code 0 cd_Told_eveningAt = true := by decide +kernel
theorem xmd_149 : xdc "SoupNine$Told" 2 false (some (FieldType.object "SoupNine$Book")) prog_10_method_6_code 0 cd_Told_bookAt = true := by decide +kernel
theorem xmd_150 : xdc "SoupNine$Told" 2 false (some (FieldType.object "SoupNine$Sheet")) prog_10_method_7_code 0 cd_Told_sheetAt = true := by decide +kernel
theorem xmd_151 : xdc "SoupNine" 1 true none prog_1_method_1_code 0 cd_So_init = true := by decide +kernel
theorem xmd_152 : xdc "SoupNine" 6 false (some FieldType.int) prog_1_method_2_code 0 cd_So_feed = true := by decide +kernel
theorem xmd_153 : xdc "SoupNine" 2 false (some FieldType.int) prog_1_method_3_code 0 cd_So_end = true := by decide +kernel
theorem xmd_154 : xdc "SoupNine" 5 false (some FieldType.int) prog_1_method_4_code 0 cd_So_text = true := by decide +kernel
theorem xmd_155 : xdc "SoupNine" 4 false (some FieldType.int) prog_1_method_5_code 0 cd_So_placeFor = true := by decide +kernel
theorem xmd_156 : xdc "SoupNine" 1 false (some FieldType.boolean) prog_1_method_37_code 0 cd_So_isThing = true := by decide +kernel
theorem xmd_157 : xdc "SoupNine" 3 false none prog_1_method_6_code 0 cd_So_keepDraft = true := by decide +kernel
theorem xmd_158 : xdc "SoupNine" 1 false none prog_1_method_7_code 0 cd_So_forgetAll = true := by decide +kernel
theorem xmd_159 : xdc "SoupNine" 2 false (some FieldType.int) prog_1_method_8_code 0 cd_So_fault = true := by decide +kernel
theorem xmd_160 : xdc "SoupNine" 2 false (some FieldType.int) prog_1_method_9_code 0 cd_So_count = true := by decide +kernel
theorem xmd_161 : xdc "SoupNine" 3 false (some FieldType.boolean) prog_1_method_10_code 0 cd_So_image = true := by decide +kernel
theorem xmd_162 : xdc "SoupNine" 3 false (some FieldType.boolean) prog_1_method_11_code 0 cd_So_again = true := by decide +kernel
theorem xmd_163 : xdc "SoupNine" 4 false (some FieldType.int) prog_1_method_12_code 0 cd_So_town = true := by decide +kernel
theorem xmd_164 : xdc "SoupNine" 5 false (some FieldType.int) prog_1_method_13_code 0 cd_So_deed = true := by decide +kernel
theorem xmd_165 : xdc "SoupNine" 5 false (some FieldType.int) prog_1_method_14_code 0 cd_So_till = true := by decide +kernel
theorem xmd_166 : xdc "SoupNine" 7 false (some FieldType.int) prog_1_method_15_code 0 cd_So_state = true := by decide +kernel
theorem xmd_167 : xdc "SoupNine" 6 false (some FieldType.int) prog_1_method_16_code 0 cd_So_drawn = true := by decide +kernel
theorem xmd_168 : xdc "SoupNine" 6 false (some FieldType.int) prog_1_method_17_code 0 cd_So_give = true := by decide +kernel
theorem xmd_169 : xdc "SoupNine" 1 false (some FieldType.boolean) prog_1_method_22_code 0 cd_So_isSoup = true := by decide +kernel
theorem xmd_170 : xdc "SoupNine" 6 false (some FieldType.long) prog_1_method_18_code 0 cd_So_mean = true := by decide +kernel
theorem xmd_171 : xdc "SoupNine" 3 false (some FieldType.int) prog_1_method_19_code 0 cd_So_safe = true := by decide +kernel
theorem xmd_172 : xdc "SoupNine" 6 false (some FieldType.long) prog_1_method_20_code 0 cd_So_tells = true := by decide +kernel
theorem xmd_173 : xdc "SoupNine" 5 false (some FieldType.long) prog_1_method_21_code 0 cd_So_lack = true := by decide +kernel
theorem xmd_174 : xdc "SoupNine" 4 false (some FieldType.int) prog_1_method_23_code 0 cd_So_way = true := by decide +kernel
theorem xmd_175 : xdc "SoupNine" 4 false (some FieldType.int) prog_1_method_24_code 0 cd_So_round = true := by decide +kernel
theorem xmd_176 : xdc "SoupNine" 3 false (some FieldType.int) prog_1_method_25_code 0 cd_So_talks = true := by decide +kernel
theorem xmd_177 : xdc "SoupNine" 4 false (some FieldType.int) prog_1_method_26_code 0 cd_So_lost = true := by decide +kernel
theorem xmd_178 : xdc "SoupNine" 8 false (some FieldType.int) prog_1_method_27_code 0 cd_So_depot = true := by decide +kernel
theorem xmd_179 : xdc "SoupNine" 5 false (some FieldType.int) prog_1_method_28_code 0 cd_So_vans = true := by decide +kernel
theorem xmd_180 : xdc "SoupNine" 5 false (some FieldType.int) prog_1_method_29_code 0 cd_So_trail = true := by decide +kernel
theorem xmd_181 : xdc "SoupNine" 5 false (some FieldType.int) prog_1_method_30_code 0 cd_So_chat = true := by decide +kernel
