-- written by wip/tools/m19.py
theorem xlwd_0 : xdl "SoupNineLaw" 4 false (some .boolean) code 0 (cd_law.getD 0 []) = true := by decide +kernel
theorem xlwd_1 : xdl "SoupNineLaw" 4 false (some .boolean) code 32 (cd_law.getD 1 []) = true := by decide +kernel
theorem xlwd_2 : xdl "SoupNineLaw" 4 false (some .boolean) code 64 (cd_law.getD 2 []) = true := by decide +kernel
theorem xlwd_3 : xdl "SoupNineLaw" 4 false (some .boolean) code 96 (cd_law.getD 3 []) = true := by decide +kernel
theorem xlwd_4 : xdl "SoupNineLaw" 4 false (some .boolean) code 128 (cd_law.getD 4 []) = true := by decide +kernel
theorem xlwd_5 : xdl "SoupNineLaw" 4 false (some .boolean) code 160 (cd_law.getD 5 []) = true := by decide +kernel
theorem xlwd_6 : xdl "SoupNineLaw" 4 false (some .boolean) code 192 (cd_law.getD 6 []) = true := by decide +kernel
theorem xlwd_7 : xdl "SoupNineLaw" 4 false (some .boolean) code 224 (cd_law.getD 7 []) = true := by decide +kernel
theorem xlwd_8 : xdl "SoupNineLaw" 4 false (some .boolean) code 256 (cd_law.getD 8 []) = true := by decide +kernel
theorem xlwd_9 : xdl "SoupNineLaw" 4 false (some .boolean) code 288 (cd_law.getD 9 []) = true := by decide +kernel
theorem xlwd_10 : xdl "SoupNineLaw" 4 false (some .boolean) code 320 (cd_law.getD 10 []) = true := by decide +kernel
theorem xlwd_11 : xdl "SoupNineLaw" 4 false (some .boolean) code 352 (cd_law.getD 11 []) = true := by decide +kernel
theorem xlwd_12 : xdl "SoupNineLaw" 4 false (some .boolean) code 384 (cd_law.getD 12 []) = true := by decide +kernel
theorem xlwd_13 : xdl "SoupNineLaw" 4 false (some .boolean) code 416 (cd_law.getD 13 []) = true := by decide +kernel
theorem xlwd_14 : xdl "SoupNineLaw" 4 false (some .boolean) code 448 (cd_law.getD 14 []) = true := by decide +kernel
theorem xlwd_15 : xdl "SoupNineLaw" 4 false (some .boolean) code 480 (cd_law.getD 15 []) = true := by decide +kernel
theorem xlwd_16 : xdl "SoupNineLaw" 4 false (some .boolean) code 512 (cd_law.getD 16 []) = true := by decide +kernel
theorem xlwd_17 : xdl "SoupNineLaw" 4 false (some .boolean) code 544 (cd_law.getD 17 []) = true := by decide +kernel
theorem xlwd_18 : xdl "SoupNineLaw" 4 false (some .boolean) code 576 (cd_law.getD 18 []) = true := by decide +kernel
theorem xlwd_19 : xdl "SoupNineLaw" 4 false (some .boolean) code 608 (cd_law.getD 19 []) = true := by decide +kernel
theorem xlwd_20 : xdl "SoupNineLaw" 4 false (some .boolean) code 640 (cd_law.getD 20 []) = true := by decide +kernel
theorem xlwd_21 : xdl "SoupNineLaw" 4 false (some .boolean) code 672 (cd_law.getD 21 []) = true := by decide +kernel
theorem xlwd_22 : xdl "SoupNineLaw" 4 false (some .boolean) code 704 (cd_law.getD 22 []) = true := by decide +kernel
theorem xlwd_23 : xdl "SoupNineLaw" 4 false (some .boolean) code 736 (cd_law.getD 23 []) = true := by decide +kernel
theorem xlwd_24 : xdl "SoupNineLaw" 4 false (some .boolean) code 768 (cd_law.getD 24 []) = true := by decide +kernel
theorem xlwd_25 : xdl "SoupNineLaw" 4 false (some .boolean) code 800 (cd_law.getD 25 []) = true := by decide +kernel
theorem xlwd_26 : xdl "SoupNineLaw" 4 false (some .boolean) code 832 (cd_law.getD 26 []) = true := by decide +kernel
theorem xlwd_27 : xdl "SoupNineLaw" 4 false (some .boolean) code 864 (cd_law.getD 27 []) = true := by decide +kernel
theorem xlwd_28 : xdl "SoupNineLaw" 4 false (some .boolean) code 896 (cd_law.getD 28 []) = true := by decide +kernel
theorem xlwd_29 : xdl "SoupNineLaw" 4 false (some .boolean) code 928 (cd_law.getD 29 []) = true := by decide +kernel
theorem xlwd_30 : xdl "SoupNineLaw" 4 false (some .boolean) code 960 (cd_law.getD 30 []) = true := by decide +kernel
theorem xlwd_31 : xdl "SoupNineLaw" 4 false (some .boolean) code 992 (cd_law.getD 31 []) = true := by decide +kernel
theorem xlwd_32 : xdl "SoupNineLaw" 4 false (some .boolean) code 1024 (cd_law.getD 32 []) = true := by decide +kernel
theorem xlwd_33 : xdl "SoupNineLaw" 4 false (some .boolean) code 1056 (cd_law.getD 33 []) = true := by decide +kernel
theorem xlwd_34 : xdl "SoupNineLaw" 4 false (some .boolean) code 1088 (cd_law.getD 34 []) = true := by decide +kernel
theorem xlwd_35 : xdl "SoupNineLaw" 4 false (some .boolean) code 1120 (cd_law.getD 35 []) = true := by decide +kernel
theorem xlwd_36 : xdl "SoupNineLaw" 4 false (some .boolean) code 1152 (cd_law.getD 36 []) = true := by decide +kernel
theorem xlwd_37 : xdl "SoupNineLaw" 4 false (some .boolean) code 1184 (cd_law.getD 37 []) = true := by decide +kernel
theorem xlwd_38 : xdl "SoupNineLaw" 4 false (some .boolean) code 1216 (cd_law.getD 38 []) = true := by decide +kernel
theorem xlwd_39 : xdl "SoupNineLaw" 4 false (some .boolean) code 1248 (cd_law.getD 39 []) = true := by decide +kernel
theorem xlwd_40 : xdl "SoupNineLaw" 4 false (some .boolean) code 1280 (cd_law.getD 40 []) = true := by decide +kernel
theorem xlwd_41 : xdl "SoupNineLaw" 4 false (some .boolean) code 1312 (cd_law.getD 41 []) = true := by decide +kernel
theorem xlwd_42 : xdl "SoupNineLaw" 4 false (some .boolean) code 1344 (cd_law.getD 42 []) = true := by decide +kernel
theorem xlwd_43 : xdl "SoupNineLaw" 4 false (some .boolean) code 1376 (cd_law.getD 43 []) = true := by decide +kernel
theorem xlwd_44 : xdl "SoupNineLaw" 4 false (some .boolean) code 1408 (cd_law.getD 44 []) = true := by decide +kernel
theorem xlwd_45 : xdl "SoupNineLaw" 4 false (some .boolean) code 1440 (cd_law.getD 45 []) = true := by decide +kernel
theorem xlwd_46 : xdl "SoupNineLaw" 4 false (some .boolean) code 1472 (cd_law.getD 46 []) = true := by decide +kernel
theorem xlwd_47 : xdl "SoupNineLaw" 4 false (some .boolean) code 1504 (cd_law.getD 47 []) = true := by decide +kernel
theorem xlwd_48 : xdl "SoupNineLaw" 4 false (some .boolean) code 1536 (cd_law.getD 48 []) = true := by decide +kernel
theorem xlwd_49 : xdl "SoupNineLaw" 4 false (some .boolean) code 1568 (cd_law.getD 49 []) = true := by decide +kernel
theorem xlwd_50 : xdl "SoupNineLaw" 4 false (some .boolean) code 1600 (cd_law.getD 50 []) = true := by decide +kernel
theorem xlwd_51 : xdl "SoupNineLaw" 4 false (some .boolean) code 1632 (cd_law.getD 51 []) = true := by decide +kernel
theorem xlwd_52 : xdl "SoupNineLaw" 4 false (some .boolean) code 1664 (cd_law.getD 52 []) = true := by decide +kernel
theorem xlwd_53 : xdl "SoupNineLaw" 4 false (some .boolean) code 1696 (cd_law.getD 53 []) = true := by decide +kernel
theorem xlwd_54 : xdl "SoupNineLaw" 4 false (some .boolean) code 1728 (cd_law.getD 54 []) = true := by decide +kernel
theorem xlwd_55 : xdl "SoupNineLaw" 4 false (some .boolean) code 1760 (cd_law.getD 55 []) = true := by decide +kernel
theorem xlwd_56 : xdl "SoupNineLaw" 4 false (some .boolean) code 1792 (cd_law.getD 56 []) = true := by decide +kernel
theorem xlwd_57 : xdl "SoupNineLaw" 4 false (some .boolean) code 1824 (cd_law.getD 57 []) = true := by decide +kernel
theorem xlwd_58 : xdl "SoupNineLaw" 4 false (some .boolean) code 1856 (cd_law.getD 58 []) = true := by decide +kernel
theorem xlwd_59 : xdl "SoupNineLaw" 4 false (some .boolean) code 1888 (cd_law.getD 59 []) = true := by decide +kernel
theorem xlwd_60 : xdl "SoupNineLaw" 4 false (some .boolean) code 1920 (cd_law.getD 60 []) = true := by decide +kernel
theorem xlwd_61 : xdl "SoupNineLaw" 4 false (some .boolean) code 1952 (cd_law.getD 61 []) = true := by decide +kernel
theorem xlwd_62 : xdl "SoupNineLaw" 4 false (some .boolean) code 1984 (cd_law.getD 62 []) = true := by decide +kernel
set_option maxRecDepth 100000 in
theorem xlaw_d : xdc "SoupNineLaw" 4 false (some .boolean) code 0 cd_law = true := by
  have e : cd_law = [cd_law.getD 0 [], cd_law.getD 1 [], cd_law.getD 2 [], cd_law.getD 3 [], cd_law.getD 4 [], cd_law.getD 5 [], cd_law.getD 6 [], cd_law.getD 7 [], cd_law.getD 8 [], cd_law.getD 9 [], cd_law.getD 10 [], cd_law.getD 11 [], cd_law.getD 12 [], cd_law.getD 13 [], cd_law.getD 14 [], cd_law.getD 15 [], cd_law.getD 16 [], cd_law.getD 17 [], cd_law.getD 18 [], cd_law.getD 19 [], cd_law.getD 20 [], cd_law.getD 21 [], cd_law.getD 22 [], cd_law.getD 23 [], cd_law.getD 24 [], cd_law.getD 25 [], cd_law.getD 26 [], cd_law.getD 27 [], cd_law.getD 28 [], cd_law.getD 29 [], cd_law.getD 30 [], cd_law.getD 31 [], cd_law.getD 32 [], cd_law.getD 33 [], cd_law.getD 34 [], cd_law.getD 35 [], cd_law.getD 36 [], cd_law.getD 37 [], cd_law.getD 38 [], cd_law.getD 39 [], cd_law.getD 40 [], cd_law.getD 41 [], cd_law.getD 42 [], cd_law.getD 43 [], cd_law.getD 44 [], cd_law.getD 45 [], cd_law.getD 46 [], cd_law.getD 47 [], cd_law.getD 48 [], cd_law.getD 49 [], cd_law.getD 50 [], cd_law.getD 51 [], cd_law.getD 52 [], cd_law.getD 53 [], cd_law.getD 54 [], cd_law.getD 55 [], cd_law.getD 56 [], cd_law.getD 57 [], cd_law.getD 58 [], cd_law.getD 59 [], cd_law.getD 60 [], cd_law.getD 61 [], cd_law.getD 62 []] := rfl
  rw [e]
  simp only [xdc, Bool.and_eq_true]
  exact ⟨xlwd_0, xlwd_1, xlwd_2, xlwd_3, xlwd_4, xlwd_5, xlwd_6, xlwd_7, xlwd_8, xlwd_9, xlwd_10, xlwd_11, xlwd_12, xlwd_13, xlwd_14, xlwd_15, xlwd_16, xlwd_17, xlwd_18, xlwd_19, xlwd_20, xlwd_21, xlwd_22, xlwd_23, xlwd_24, xlwd_25, xlwd_26, xlwd_27, xlwd_28, xlwd_29, xlwd_30, xlwd_31, xlwd_32, xlwd_33, xlwd_34, xlwd_35, xlwd_36, xlwd_37, xlwd_38, xlwd_39, xlwd_40, xlwd_41, xlwd_42, xlwd_43, xlwd_44, xlwd_45, xlwd_46, xlwd_47, xlwd_48, xlwd_49, xlwd_50, xlwd_51, xlwd_52, xlwd_53, xlwd_54, xlwd_55, xlwd_56, xlwd_57, xlwd_58, xlwd_59, xlwd_60, xlwd_61, xlwd_62, trivial⟩
