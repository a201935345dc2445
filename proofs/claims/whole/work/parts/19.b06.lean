-- written by wip/tools/m19.py
theorem xmd_344 : xdc "SoupNineModel" 5 false none prog_14_method_140_code 0 cd_Mo_picks = true := by decide +kernel
theorem xmd_345 : xdc "SoupNineModel" 7 false (some FieldType.int) prog_14_method_142_code 0 cd_Mo_like = true := by decide +kernel
theorem xmd_346 : xdc "SoupNineModel" 7 false (some FieldType.long) prog_14_method_146_code 0 cd_Mo_sick = true := by decide +kernel
theorem xmd_347 : xdc "SoupNineModel" 4 false (some FieldType.boolean) prog_14_method_144_code 0 cd_Mo_areSigns = true := by decide +kernel
theorem xmd_348 : xdc "SoupNineModel" 4 false (some FieldType.long) prog_14_method_143_code 0 cd_Mo_shows = true := by decide +kernel
theorem xmd_349 : xdc "SoupNineModel" 7 false (some FieldType.long) prog_14_method_145_code 0 cd_Mo_allShow = true := by decide +kernel
theorem xmd_350 : xdc "SoupNineModel" 7 false (some FieldType.int) prog_14_method_147_code 0 cd_Mo_call = true := by decide +kernel
theorem xmd_351 : xdc "SoupNineModel" 2 false (some FieldType.int) prog_14_method_148_code 0 cd_Mo_count = true := by decide +kernel
theorem xmd_352 : xdc "SoupNineModel" 2 false (some FieldType.boolean) prog_14_method_149_code 0 cd_Mo_image = true := by decide +kernel
theorem xmd_353 : xdc "SoupNineModel" 4 false none prog_14_method_11_code 0 cd_Mo_copyAll = true := by decide +kernel
theorem xmd_354 : xdc "SoupNineModel" 5 false none prog_14_method_10_code 0 cd_Mo_copyRow = true := by decide +kernel
theorem xmd_355 : xdc "SoupNineModel" 2 false (some FieldType.boolean) prog_14_method_150_code 0 cd_Mo_again = true := by decide +kernel
