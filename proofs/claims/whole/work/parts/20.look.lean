/-! ===== by program (wip/whole/gen_seg.py): the pools' entries looked up ===== -/
theorem fl_0_9 : fld 0 9 = some (1, 0, 0, false) := by decide +kernel
theorem fl_0_15 : fld 0 15 = some (1, 1, 0, false) := by decide +kernel
theorem fl_0_18 : fld 0 18 = some (1, 2, 0, false) := by decide +kernel
theorem fl_0_21 : fld 0 21 = some (1, 3, 2, true) := by decide +kernel
theorem fl_0_25 : fld 0 25 = some (1, 4, 2, true) := by decide +kernel
theorem fl_1_9 : fld 1 9 = some (2, 0, 2, true) := by decide +kernel
theorem fl_1_15 : fld 1 15 = some (2, 1, 2, true) := by decide +kernel
theorem fl_1_18 : fld 1 18 = some (2, 2, 2, true) := by decide +kernel
theorem fl_1_21 : fld 1 21 = some (2, 3, 2, true) := by decide +kernel
theorem fl_1_24 : fld 1 24 = some (2, 4, 0, false) := by decide +kernel
theorem fl_1_28 : fld 1 28 = some (1, 3, 2, true) := by decide +kernel
theorem fl_1_33 : fld 1 33 = some (1, 2, 0, false) := by decide +kernel
theorem fl_2_9 : fld 2 9 = some (3, 0, 2, true) := by decide +kernel
theorem fl_2_15 : fld 2 15 = some (3, 1, 2, true) := by decide +kernel
theorem fl_2_18 : fld 2 18 = some (3, 2, 0, false) := by decide +kernel
theorem fl_3_12 : fld 3 12 = some (4, 0, 2, true) := by decide +kernel
theorem fl_3_18 : fld 3 18 = some (4, 1, 2, false) := by decide +kernel
theorem fl_3_24 : fld 3 24 = some (4, 2, 2, true) := by decide +kernel
theorem fl_3_28 : fld 3 28 = some (4, 3, 2, true) := by decide +kernel
theorem fl_3_32 : fld 3 32 = some (4, 4, 0, false) := by decide +kernel
theorem fl_3_36 : fld 3 36 = some (4, 5, 2, true) := by decide +kernel
theorem fl_3_39 : fld 3 39 = some (4, 6, 0, false) := by decide +kernel
theorem fl_3_42 : fld 3 42 = some (4, 7, 0, false) := by decide +kernel
theorem fl_3_56 : fld 3 56 = some (6, 1, 0, false) := by decide +kernel
theorem fl_3_66 : fld 3 66 = some (9, 4, 0, false) := by decide +kernel
theorem fl_4_9 : fld 4 9 = some (5, 0, 2, true) := by decide +kernel
theorem fl_4_15 : fld 4 15 = some (5, 1, 2, true) := by decide +kernel
theorem fl_4_18 : fld 4 18 = some (5, 2, 0, false) := by decide +kernel
theorem fl_4_22 : fld 4 22 = some (1, 2, 0, false) := by decide +kernel
theorem fl_4_38 : fld 4 38 = some (1, 0, 0, false) := by decide +kernel
theorem fl_4_47 : fld 4 47 = some (1, 1, 0, false) := by decide +kernel
theorem fl_4_66 : fld 4 66 = some (1, 3, 2, true) := by decide +kernel
theorem fl_4_72 : fld 4 72 = some (1, 4, 2, true) := by decide +kernel
theorem fl_5_9 : fld 5 9 = some (6, 0, 0, false) := by decide +kernel
theorem fl_5_15 : fld 5 15 = some (6, 1, 0, false) := by decide +kernel
theorem fl_5_21 : fld 5 21 = some (6, 2, 2, true) := by decide +kernel
theorem fl_5_25 : fld 5 25 = some (6, 3, 2, true) := by decide +kernel
theorem fl_5_28 : fld 5 28 = some (6, 4, 2, true) := by decide +kernel
theorem fl_5_60 : fld 5 60 = some (9, 0, 2, true) := by decide +kernel
theorem fl_5_64 : fld 5 64 = some (9, 2, 2, true) := by decide +kernel
theorem fl_5_74 : fld 5 74 = some (9, 1, 2, true) := by decide +kernel
theorem fl_5_83 : fld 5 83 = some (1, 3, 2, true) := by decide +kernel
theorem fl_5_88 : fld 5 88 = some (5, 0, 2, true) := by decide +kernel
theorem fl_6_9 : fld 6 9 = some (7, 0, 2, true) := by decide +kernel
theorem fl_6_15 : fld 6 15 = some (7, 1, 0, false) := by decide +kernel
theorem fl_6_19 : fld 6 19 = some (7, 2, 0, false) := by decide +kernel
theorem fl_6_22 : fld 6 22 = some (7, 3, 0, false) := by decide +kernel
theorem fl_6_25 : fld 6 25 = some (7, 4, 0, false) := by decide +kernel
theorem fl_7_12 : fld 7 12 = some (8, 0, 2, true) := by decide +kernel
theorem fl_7_18 : fld 7 18 = some (8, 1, 2, false) := by decide +kernel
theorem fl_7_25 : fld 7 25 = some (8, 2, 2, true) := by decide +kernel
theorem fl_7_29 : fld 7 29 = some (8, 3, 1, false) := by decide +kernel
theorem fl_7_33 : fld 7 33 = some (8, 4, 0, false) := by decide +kernel
theorem fl_7_37 : fld 7 37 = some (8, 5, 0, false) := by decide +kernel
theorem fl_7_40 : fld 7 40 = some (8, 6, 0, false) := by decide +kernel
theorem fl_7_43 : fld 7 43 = some (8, 7, 0, false) := by decide +kernel
theorem fl_7_46 : fld 7 46 = some (8, 8, 2, true) := by decide +kernel
theorem fl_7_50 : fld 7 50 = some (8, 9, 0, false) := by decide +kernel
theorem fl_7_53 : fld 7 53 = some (8, 10, 2, true) := by decide +kernel
theorem fl_7_56 : fld 7 56 = some (8, 11, 2, true) := by decide +kernel
theorem fl_7_63 : fld 7 63 = some (6, 1, 0, false) := by decide +kernel
theorem fl_7_70 : fld 7 70 = some (9, 4, 0, false) := by decide +kernel
theorem fl_7_99 : fld 7 99 = some (6, 0, 0, false) := by decide +kernel
theorem fl_7_102 : fld 7 102 = some (6, 2, 2, true) := by decide +kernel
theorem fl_7_112 : fld 7 112 = some (6, 3, 2, true) := by decide +kernel
theorem fl_8_9 : fld 8 9 = some (9, 0, 2, true) := by decide +kernel
theorem fl_8_15 : fld 8 15 = some (9, 1, 2, true) := by decide +kernel
theorem fl_8_18 : fld 8 18 = some (9, 2, 2, true) := by decide +kernel
theorem fl_8_21 : fld 8 21 = some (9, 3, 2, true) := by decide +kernel
theorem fl_8_24 : fld 8 24 = some (9, 4, 0, false) := by decide +kernel
theorem fl_8_28 : fld 8 28 = some (9, 5, 0, false) := by decide +kernel
theorem fl_8_31 : fld 8 31 = some (9, 6, 0, false) := by decide +kernel
theorem fl_9_10 : fld 9 10 = some (10, 0, 2, true) := by decide +kernel
theorem fl_9_19 : fld 9 19 = some (10, 1, 2, true) := by decide +kernel
theorem fl_9_23 : fld 9 23 = some (10, 2, 2, true) := by decide +kernel
theorem fl_9_27 : fld 9 27 = some (10, 3, 0, false) := by decide +kernel
theorem fl_9_34 : fld 9 34 = some (10, 4, 2, true) := by decide +kernel
theorem fl_9_40 : fld 9 40 = some (10, 5, 2, true) := by decide +kernel
theorem fl_9_44 : fld 9 44 = some (10, 6, 2, true) := by decide +kernel
theorem fl_9_49 : fld 9 49 = some (10, 7, 2, false) := by decide +kernel
theorem fl_9_55 : fld 9 55 = some (10, 8, 2, true) := by decide +kernel
theorem fl_9_60 : fld 9 60 = some (10, 9, 2, false) := by decide +kernel
theorem fl_9_67 : fld 9 67 = some (10, 10, 2, true) := by decide +kernel
theorem fl_9_74 : fld 9 74 = some (10, 11, 2, true) := by decide +kernel
theorem fl_9_78 : fld 9 78 = some (10, 12, 2, true) := by decide +kernel
theorem fl_9_81 : fld 9 81 = some (10, 13, 0, false) := by decide +kernel
theorem fl_9_87 : fld 9 87 = some (10, 14, 2, true) := by decide +kernel
theorem fl_9_91 : fld 9 91 = some (10, 15, 2, true) := by decide +kernel
theorem fl_9_95 : fld 9 95 = some (10, 16, 0, false) := by decide +kernel
theorem fl_9_106 : fld 9 106 = some (1, 0, 0, false) := by decide +kernel
theorem fl_9_109 : fld 9 109 = some (1, 1, 0, false) := by decide +kernel
theorem fl_9_112 : fld 9 112 = some (1, 2, 0, false) := by decide +kernel
theorem fl_9_124 : fld 9 124 = some (1, 3, 2, true) := by decide +kernel
theorem fl_9_131 : fld 9 131 = some (1, 4, 2, true) := by decide +kernel
theorem fl_9_142 : fld 9 142 = some (6, 0, 0, false) := by decide +kernel
theorem fl_9_168 : fld 9 168 = some (5, 0, 2, true) := by decide +kernel
theorem fl_9_171 : fld 9 171 = some (5, 1, 2, true) := by decide +kernel
theorem fl_9_178 : fld 9 178 = some (5, 2, 0, false) := by decide +kernel
theorem fl_9_190 : fld 9 190 = some (7, 1, 0, false) := by decide +kernel
theorem fl_9_204 : fld 9 204 = some (9, 4, 0, false) := by decide +kernel
theorem fl_9_216 : fld 9 216 = some (9, 0, 2, true) := by decide +kernel
theorem fl_9_223 : fld 9 223 = some (9, 1, 2, true) := by decide +kernel
theorem fl_9_230 : fld 9 230 = some (9, 5, 0, false) := by decide +kernel
theorem fl_9_264 : fld 9 264 = some (8, 0, 2, true) := by decide +kernel
theorem fl_9_269 : fld 9 269 = some (8, 7, 0, false) := by decide +kernel
theorem fl_9_275 : fld 9 275 = some (8, 5, 0, false) := by decide +kernel
theorem fl_9_281 : fld 9 281 = some (8, 6, 0, false) := by decide +kernel
theorem fl_9_312 : fld 9 312 = some (4, 6, 0, false) := by decide +kernel
theorem fl_9_315 : fld 9 315 = some (4, 5, 2, true) := by decide +kernel
theorem fl_9_318 : fld 9 318 = some (4, 7, 0, false) := by decide +kernel
theorem fl_9_321 : fld 9 321 = some (8, 1, 2, false) := by decide +kernel
theorem fl_9_334 : fld 9 334 = some (4, 4, 0, false) := by decide +kernel
theorem fl_9_383 : fld 9 383 = some (8, 8, 2, true) := by decide +kernel
theorem fl_9_386 : fld 9 386 = some (8, 9, 0, false) := by decide +kernel
theorem fl_9_396 : fld 9 396 = some (2, 4, 0, false) := by decide +kernel
theorem fl_9_406 : fld 9 406 = some (6, 1, 0, false) := by decide +kernel
theorem fl_9_419 : fld 9 419 = some (3, 2, 0, false) := by decide +kernel
theorem fl_10_9 : fld 10 9 = some (11, 0, 0, false) := by decide +kernel
theorem fl_10_13 : fld 10 13 = some (11, 1, 0, false) := by decide +kernel
theorem fl_10_16 : fld 10 16 = some (11, 2, 0, false) := by decide +kernel
theorem fl_10_19 : fld 10 19 = some (11, 3, 2, true) := by decide +kernel
theorem fl_10_23 : fld 10 23 = some (11, 4, 2, true) := by decide +kernel
theorem fl_10_26 : fld 10 26 = some (11, 6, 2, true) := by decide +kernel
theorem fl_10_29 : fld 10 29 = some (11, 7, 2, true) := by decide +kernel
theorem fl_10_32 : fld 10 32 = some (11, 8, 2, true) := by decide +kernel
theorem fl_10_35 : fld 10 35 = some (11, 9, 2, true) := by decide +kernel
theorem fl_10_38 : fld 10 38 = some (11, 10, 0, false) := by decide +kernel
theorem fl_10_41 : fld 10 41 = some (11, 11, 2, true) := by decide +kernel
theorem fl_10_45 : fld 10 45 = some (11, 13, 2, true) := by decide +kernel
theorem fl_10_49 : fld 10 49 = some (11, 22, 2, true) := by decide +kernel
theorem fl_10_52 : fld 10 52 = some (11, 23, 2, true) := by decide +kernel
theorem fl_10_55 : fld 10 55 = some (11, 24, 2, true) := by decide +kernel
theorem fl_10_58 : fld 10 58 = some (11, 25, 2, true) := by decide +kernel
theorem fl_10_61 : fld 10 61 = some (11, 26, 2, true) := by decide +kernel
theorem fl_10_64 : fld 10 64 = some (11, 27, 2, true) := by decide +kernel
theorem fl_10_67 : fld 10 67 = some (11, 28, 2, true) := by decide +kernel
theorem fl_10_70 : fld 10 70 = some (11, 29, 2, true) := by decide +kernel
theorem fl_10_73 : fld 10 73 = some (11, 30, 2, true) := by decide +kernel
theorem fl_10_76 : fld 10 76 = some (11, 31, 2, true) := by decide +kernel
theorem fl_10_81 : fld 10 81 = some (11, 34, 2, true) := by decide +kernel
theorem fl_10_84 : fld 10 84 = some (11, 35, 2, true) := by decide +kernel
theorem fl_10_87 : fld 10 87 = some (11, 43, 2, true) := by decide +kernel
theorem fl_10_90 : fld 10 90 = some (11, 45, 2, true) := by decide +kernel
theorem fl_10_93 : fld 10 93 = some (11, 47, 2, true) := by decide +kernel
theorem fl_10_96 : fld 10 96 = some (11, 48, 2, true) := by decide +kernel
theorem fl_10_99 : fld 10 99 = some (11, 49, 2, true) := by decide +kernel
theorem fl_10_102 : fld 10 102 = some (11, 50, 2, true) := by decide +kernel
theorem fl_10_105 : fld 10 105 = some (11, 51, 2, true) := by decide +kernel
theorem fl_10_108 : fld 10 108 = some (11, 54, 2, true) := by decide +kernel
theorem fl_10_111 : fld 10 111 = some (11, 55, 2, true) := by decide +kernel
theorem fl_10_114 : fld 10 114 = some (11, 56, 2, true) := by decide +kernel
theorem fl_10_117 : fld 10 117 = some (11, 58, 2, true) := by decide +kernel
theorem fl_10_120 : fld 10 120 = some (11, 60, 2, true) := by decide +kernel
theorem fl_10_123 : fld 10 123 = some (11, 61, 2, true) := by decide +kernel
theorem fl_10_126 : fld 10 126 = some (11, 62, 2, true) := by decide +kernel
theorem fl_10_129 : fld 10 129 = some (11, 63, 2, true) := by decide +kernel
theorem fl_10_132 : fld 10 132 = some (11, 64, 2, true) := by decide +kernel
theorem fl_10_136 : fld 10 136 = some (11, 65, 2, true) := by decide +kernel
theorem fl_10_142 : fld 10 142 = some (11, 15, 0, false) := by decide +kernel
theorem fl_10_145 : fld 10 145 = some (11, 14, 0, false) := by decide +kernel
theorem fl_10_148 : fld 10 148 = some (11, 5, 0, false) := by decide +kernel
theorem fl_10_155 : fld 10 155 = some (11, 16, 0, false) := by decide +kernel
theorem fl_10_191 : fld 10 191 = some (11, 12, 0, false) := by decide +kernel
theorem fl_10_194 : fld 10 194 = some (11, 17, 2, false) := by decide +kernel
theorem fl_10_197 : fld 10 197 = some (11, 18, 0, false) := by decide +kernel
theorem fl_10_200 : fld 10 200 = some (11, 19, 0, false) := by decide +kernel
theorem fl_10_203 : fld 10 203 = some (11, 20, 0, false) := by decide +kernel
theorem fl_10_206 : fld 10 206 = some (11, 21, 0, false) := by decide +kernel
theorem fl_10_224 : fld 10 224 = some (11, 32, 0, false) := by decide +kernel
theorem fl_10_227 : fld 10 227 = some (11, 33, 0, false) := by decide +kernel
theorem fl_10_265 : fld 10 265 = some (11, 36, 0, false) := by decide +kernel
theorem fl_10_268 : fld 10 268 = some (11, 37, 0, false) := by decide +kernel
theorem fl_10_271 : fld 10 271 = some (11, 38, 0, false) := by decide +kernel
theorem fl_10_274 : fld 10 274 = some (11, 39, 0, false) := by decide +kernel
theorem fl_10_291 : fld 10 291 = some (11, 40, 0, false) := by decide +kernel
theorem fl_10_294 : fld 10 294 = some (11, 41, 0, false) := by decide +kernel
theorem fl_10_297 : fld 10 297 = some (11, 42, 0, false) := by decide +kernel
theorem fl_10_300 : fld 10 300 = some (11, 44, 0, false) := by decide +kernel
theorem fl_10_317 : fld 10 317 = some (11, 46, 0, false) := by decide +kernel
theorem fl_10_354 : fld 10 354 = some (11, 52, 0, false) := by decide +kernel
theorem fl_10_357 : fld 10 357 = some (11, 53, 0, false) := by decide +kernel
theorem fl_10_378 : fld 10 378 = some (11, 57, 0, false) := by decide +kernel
theorem fl_10_384 : fld 10 384 = some (11, 59, 0, false) := by decide +kernel
theorem ck_0_3 : cal 0 3 = some (6, 1, mJ7_fill_53178) := by rfl
theorem ck_0_28 : cal 0 28 = some (1, 2, mJ7_fill_53178) := by rfl
theorem ck_0_33 : cal 0 33 = some (7, 5, mJ7_fill_53178) := by rfl
theorem ck_1_3 : cal 1 3 = some (6, 1, mJ7_fill_53178) := by rfl
theorem ck_1_36 : cal 1 36 = some (0, 6, mX2_bounded) := by rfl
theorem ck_1_42 : cal 1 42 = some (1, 1, mJ9_abs_0f7a4) := by rfl
theorem ck_1_48 : cal 1 48 = some (4, 3, mX9_between) := by rfl
theorem ck_2_3 : cal 2 3 = some (6, 1, mJ7_fill_53178) := by rfl
theorem ck_2_22 : cal 2 22 = some (0, 2, mX6_begin) := by rfl
theorem ck_2_28 : cal 2 28 = some (0, 3, mX2_readSum) := by rfl
theorem ck_2_32 : cal 2 32 = some (0, 3, mX2_readProduct) := by rfl
theorem ck_2_35 : cal 2 35 = some (0, 1, mX6_isGood) := by rfl
theorem ck_2_39 : cal 2 39 = some (0, 2, mX6_skip) := by rfl
theorem ck_2_43 : cal 2 43 = some (0, 2, mX2_emit) := by rfl
theorem ck_2_47 : cal 2 47 = some (0, 3, mX2_readThing) := by rfl
theorem ck_2_50 : cal 2 50 = some (0, 1, mX6_isAtDigit) := by rfl
theorem ck_2_53 : cal 2 53 = some (0, 3, mX6_number) := by rfl
theorem ck_2_57 : cal 2 57 = some (0, 2, mX6_need) := by rfl
theorem ck_2_61 : cal 2 61 = some (0, 2, mX2_readName) := by rfl
theorem ck_2_65 : cal 2 65 = some (0, 1, mX6_failHere) := by rfl
theorem ck_2_68 : cal 2 68 = some (4, 3, mX9_isIn) := by rfl
theorem ck_2_72 : cal 2 72 = some (1, 3, mX2_joined) := by rfl
theorem ck_2_76 : cal 2 76 = some (1, 6, mX2_named) := by rfl
theorem ck_2_80 : cal 2 80 = some (4, 3, mX9_between) := by rfl
theorem ck_3_3 : cal 3 3 = some (6, 1, mJ7_fill_53178) := by rfl
theorem ck_3_11 : cal 3 11 = some (2, 1, mX0_init) := by rfl
theorem ck_3_45 : cal 3 45 = some (5, 1, mX5_init) := by rfl
theorem ck_3_46 : cal 3 46 = some (0, 2, mX0_copy) := by rfl
theorem ck_3_53 : cal 3 53 = some (0, 2, mX5_freshen) := by rfl
theorem ck_3_59 : cal 3 59 = some (4, 3, mX9_isIn) := by rfl
theorem ck_3_63 : cal 3 63 = some (0, 2, mX5_copy) := by rfl
theorem ck_3_71 : cal 3 71 = some (0, 6, mX5_carry) := by rfl
theorem ck_3_75 : cal 3 75 = some (7, 5, mJ7_fill_53178) := by rfl
theorem ck_4_3 : cal 4 3 = some (6, 1, mJ7_fill_53178) := by rfl
theorem ck_4_27 : cal 4 27 = some (1, 2, mJ7_fill_53178) := by rfl
theorem ck_4_32 : cal 4 32 = some (7, 5, mJ7_fill_53178) := by rfl
theorem ck_4_41 : cal 4 41 = some (1, 2, mJ9_max_7cf53) := by rfl
theorem ck_4_50 : cal 4 50 = some (4, 3, mX9_between) := by rfl
theorem ck_4_54 : cal 4 54 = some (0, 3, mX4_drive) := by rfl
theorem ck_4_58 : cal 4 58 = some (0, 2, mX4_move) := by rfl
theorem ck_4_62 : cal 4 62 = some (0, 3, mX4_runOver) := by rfl
theorem ck_4_69 : cal 4 69 = some (1, 2, mJ9_min_7cf53) := by rfl
theorem ck_5_3 : cal 5 3 = some (6, 1, mJ7_fill_53178) := by rfl
theorem ck_5_20 : cal 5 20 = some (5, 1, mX4_init) := by rfl
theorem ck_5_32 : cal 5 32 = some (0, 2, mX4_freshen) := by rfl
theorem ck_5_36 : cal 5 36 = some (0, 2, mX4_copy) := by rfl
theorem ck_5_40 : cal 5 40 = some (7, 5, mJ7_fill_53178) := by rfl
theorem ck_5_46 : cal 5 46 = some (1, 2, mJ9_floorMod_7cf53) := by rfl
theorem ck_5_52 : cal 5 52 = some (0, 2, mX4_slope) := by rfl
theorem ck_5_56 : cal 5 56 = some (0, 3, mX4_pass) := by rfl
theorem ck_5_67 : cal 5 67 = some (0, 2, mX5_wander) := by rfl
theorem ck_5_70 : cal 5 70 = some (0, 4, mX5_given) := by rfl
theorem ck_5_76 : cal 5 76 = some (0, 4, mX5_pass) := by rfl
theorem ck_5_80 : cal 5 80 = some (0, 2, mX5_slopeSeen) := by rfl
theorem ck_5_91 : cal 5 91 = some (0, 6, mX2_bounded) := by rfl
theorem ck_6_3 : cal 6 3 = some (6, 1, mJ7_fill_53178) := by rfl
theorem ck_6_28 : cal 6 28 = some (1, 2, mJ9_min_7cf53) := by rfl
theorem ck_6_34 : cal 6 34 = some (0, 2, mX6_fail) := by rfl
theorem ck_6_38 : cal 6 38 = some (0, 1, mX6_next) := by rfl
theorem ck_6_42 : cal 6 42 = some (0, 2, mX6_skip) := by rfl
theorem ck_6_46 : cal 6 46 = some (0, 1, mX6_failHere) := by rfl
theorem ck_6_49 : cal 6 49 = some (4, 3, mX9_isIn) := by rfl
theorem ck_6_53 : cal 6 53 = some (0, 1, mX6_isAtDigit) := by rfl
theorem ck_6_57 : cal 6 57 = some (0, 1, mX6_failAtLastDigit) := by rfl
theorem ck_7_3 : cal 7 3 = some (6, 1, mJ7_fill_53178) := by rfl
theorem ck_7_11 : cal 7 11 = some (2, 1, mX0_init) := by rfl
theorem ck_7_24 : cal 7 24 = some (5, 1, mX5_init) := by rfl
theorem ck_7_59 : cal 7 59 = some (0, 2, mX5_freshen) := by rfl
theorem ck_7_66 : cal 7 66 = some (0, 2, mX7_begin) := by rfl
theorem ck_7_75 : cal 7 75 = some (0, 5, mX7_through) := by rfl
theorem ck_7_79 : cal 7 79 = some (0, 4, mX5_pass) := by rfl
theorem ck_7_83 : cal 7 83 = some (0, 2, mX7_note) := by rfl
theorem ck_7_86 : cal 7 86 = some (1, 2, mJ9_min_7cf53) := by rfl
theorem ck_7_92 : cal 7 92 = some (1, 2, mJ9_max_7cf53) := by rfl
theorem ck_7_95 : cal 7 95 = some (0, 6, mX5_carry) := by rfl
theorem ck_7_106 : cal 7 106 = some (0, 2, mX4_higherEnd) := by rfl
theorem ck_7_115 : cal 7 115 = some (0, 2, mX4_slope) := by rfl
theorem ck_7_118 : cal 7 118 = some (1, 1, mJ9_abs_0f7a4) := by rfl
theorem ck_7_122 : cal 7 122 = some (0, 3, mX4_lean) := by rfl
theorem ck_7_126 : cal 7 126 = some (1, 2, mJ7_fill_53178) := by rfl
theorem ck_7_132 : cal 7 132 = some (4, 3, mX9_isIn) := by rfl
theorem ck_8_3 : cal 8 3 = some (6, 1, mJ7_fill_53178) := by rfl
theorem ck_8_34 : cal 8 34 = some (0, 1, mX8_clear) := by rfl
theorem ck_8_37 : cal 8 37 = some (0, 2, mX6_begin) := by rfl
theorem ck_8_43 : cal 8 43 = some (0, 2, mX8_readPart) := by rfl
theorem ck_8_47 : cal 8 47 = some (0, 1, mX6_isGood) := by rfl
theorem ck_8_51 : cal 8 51 = some (0, 2, mX6_skip) := by rfl
theorem ck_8_55 : cal 8 55 = some (0, 2, mX8_readSteps) := by rfl
theorem ck_8_58 : cal 8 58 = some (0, 2, mX8_readStand) := by rfl
theorem ck_8_61 : cal 8 61 = some (0, 2, mX8_readJerk) := by rfl
theorem ck_8_64 : cal 8 64 = some (0, 3, mX6_number) := by rfl
theorem ck_8_68 : cal 8 68 = some (0, 1, mX6_failHere) := by rfl
theorem ck_8_71 : cal 8 71 = some (0, 2, mX6_need) := by rfl
theorem ck_8_75 : cal 8 75 = some (0, 3, mX8_hasRoom) := by rfl
theorem ck_8_79 : cal 8 79 = some (0, 5, mX8_addSteps) := by rfl
theorem ck_8_83 : cal 8 83 = some (0, 4, mX8_addTick) := by rfl
theorem ck_8_87 : cal 8 87 = some (0, 1, mX6_failAtLastDigit) := by rfl
theorem ck_8_90 : cal 8 90 = some (4, 3, mX9_isIn) := by rfl
theorem ck_8_94 : cal 8 94 = some (1, 1, mJ9_abs_0f7a4) := by rfl
theorem ck_9_1 : cal 9 1 = some (6, 1, mJ7_fill_53178) := by rfl
theorem ck_9_9 : cal 9 9 = some (2, 1, mX0_init) := by rfl
theorem ck_9_18 : cal 9 18 = some (5, 1, mX5_init) := by rfl
theorem ck_9_33 : cal 9 33 = some (5, 1, mX6_init) := by rfl
theorem ck_9_48 : cal 9 48 = some (5, 1, mX8_init) := by rfl
theorem ck_9_59 : cal 9 59 = some (5, 1, mX2_init) := by rfl
theorem ck_9_66 : cal 9 66 = some (5, 1, mX7_init) := by rfl
theorem ck_9_73 : cal 9 73 = some (2, 1, mX3_init) := by rfl
theorem ck_9_86 : cal 9 86 = some (5, 1, mX1_init) := by rfl
theorem ck_9_98 : cal 9 98 = some (0, 2, mX5_freshen) := by rfl
theorem ck_9_102 : cal 9 102 = some (1, 3, mX9_isIn) := by rfl
theorem ck_9_115 : cal 9 115 = some (0, 1, mX0_openAll) := by rfl
theorem ck_9_127 : cal 9 127 = some (0, 2, mX9_isGap) := by rfl
theorem ck_9_134 : cal 9 134 = some (1, 2, mX9_sheetEntry) := by rfl
theorem ck_9_138 : cal 9 138 = some (1, 3, mX9_between) := by rfl
theorem ck_9_145 : cal 9 145 = some (1, 1, mX9_isRow) := by rfl
theorem ck_9_148 : cal 9 148 = some (0, 2, mX5_rowOf) := by rfl
theorem ck_9_152 : cal 9 152 = some (0, 3, mX4_lean) := by rfl
theorem ck_9_158 : cal 9 158 = some (1, 1, mX9_isPush) := by rfl
theorem ck_9_161 : cal 9 161 = some (0, 4, mX5_pass) := by rfl
theorem ck_9_174 : cal 9 174 = some (0, 2, mX4_slope) := by rfl
theorem ck_9_181 : cal 9 181 = some (0, 2, mX4_contents) := by rfl
theorem ck_9_184 : cal 9 184 = some (0, 2, mX4_greatest) := by rfl
theorem ck_9_187 : cal 9 187 = some (0, 2, mX6_add) := by rfl
theorem ck_9_193 : cal 9 193 = some (1, 1, mX9_isWalk) := by rfl
theorem ck_9_196 : cal 9 196 = some (0, 2, mX8_read) := by rfl
theorem ck_9_200 : cal 9 200 = some (0, 1, mX6_finish) := by rfl
theorem ck_9_207 : cal 9 207 = some (0, 2, mX2_read) := by rfl
theorem ck_9_208 : cal 9 208 = some (0, 2, mX9_toldLaw) := by rfl
theorem ck_9_212 : cal 9 212 = some (0, 4, mX5_given) := by rfl
theorem ck_9_219 : cal 9 219 = some (0, 2, mX8_sizes) := by rfl
theorem ck_9_226 : cal 9 226 = some (0, 4, mX9_tell__) := by rfl
theorem ck_9_233 : cal 9 233 = some (1, 2, mJ9_min_7cf53) := by rfl
theorem ck_9_238 : cal 9 238 = some (0, 6, mX5_carry) := by rfl
theorem ck_9_242 : cal 9 242 = some (0, 1, mX9_asItIs) := by rfl
theorem ck_9_246 : cal 9 246 = some (0, 3, mX7_letGo) := by rfl
theorem ck_9_250 : cal 9 250 = some (0, 3, mX9_tell_) := by rfl
theorem ck_9_253 : cal 9 253 = some (1, 1, mJ9_abs_0f7a4) := by rfl
theorem ck_9_257 : cal 9 257 = some (0, 1, mX8_clear) := by rfl
theorem ck_9_260 : cal 9 260 = some (0, 5, mX8_addSteps) := by rfl
theorem ck_9_265 : cal 9 265 = some (0, 3, mX7_spiltOn) := by rfl
theorem ck_9_272 : cal 9 272 = some (0, 2, mX9_tell) := by rfl
theorem ck_9_278 : cal 9 278 = some (0, 2, mX8_stepAt) := by rfl
theorem ck_9_283 : cal 9 283 = some (0, 1, mX7_clearFirsts) := by rfl
theorem ck_9_286 : cal 9 286 = some (0, 2, mX7_countFirst) := by rfl
theorem ck_9_290 : cal 9 290 = some (0, 3, mX9_tellFraction) := by rfl
theorem ck_9_294 : cal 9 294 = some (0, 1, mX7_mostOftenFirst) := by rfl
theorem ck_9_297 : cal 9 297 = some (0, 2, mX9_tellMore) := by rfl
theorem ck_9_300 : cal 9 300 = some (0, 2, mX7_keepsAll) := by rfl
theorem ck_9_304 : cal 9 304 = some (0, 4, mX3_begin) := by rfl
theorem ck_9_308 : cal 9 308 = some (1, 6, mX9_extend) := by rfl
theorem ck_9_327 : cal 9 327 = some (0, 3, mX3_carries) := by rfl
theorem ck_9_331 : cal 9 331 = some (0, 3, mX3_choose) := by rfl
theorem ck_9_337 : cal 9 337 = some (0, 3, mX3_noteBest) := by rfl
theorem ck_9_340 : cal 9 340 = some (0, 4, mX9_lateSlope) := by rfl
theorem ck_9_343 : cal 9 343 = some (0, 2, mX9_isOpen) := by rfl
theorem ck_9_346 : cal 9 346 = some (0, 4, mX9_walled) := by rfl
theorem ck_9_350 : cal 9 350 = some (1, 2, mJ9_max_7cf53) := by rfl
theorem ck_9_353 : cal 9 353 = some (0, 3, mX7_spiltWithTurn) := by rfl
theorem ck_9_356 : cal 9 356 = some (0, 3, mX7_spiltFrom) := by rfl
theorem ck_9_359 : cal 9 359 = some (0, 3, mX9_brake) := by rfl
theorem ck_9_362 : cal 9 362 = some (0, 4, mX7_spiltWithPause) := by rfl
theorem ck_9_366 : cal 9 366 = some (0, 2, mX4_restlessness) := by rfl
theorem ck_9_372 : cal 9 372 = some (0, 4, mX8_addTick) := by rfl
theorem ck_9_376 : cal 9 376 = some (0, 2, mX9_isHand) := by rfl
theorem ck_9_379 : cal 9 379 = some (0, 2, mX9_distance) := by rfl
theorem ck_9_389 : cal 9 389 = some (1, 3, mX9_nearest) := by rfl
theorem ck_9_393 : cal 9 393 = some (0, 5, mX1_add) := by rfl
theorem ck_9_399 : cal 9 399 = some (0, 4, mX1_offByLaw) := by rfl
theorem ck_9_403 : cal 9 403 = some (0, 3, mX1_offByTenths) := by rfl
theorem ck_9_409 : cal 9 409 = some (0, 2, mX5_copy) := by rfl
theorem ck_9_413 : cal 9 413 = some (0, 1, mX9_toldLawBits) := by rfl
theorem ck_9_416 : cal 9 416 = some (0, 1, mX0_wallCount) := by rfl
theorem ck_9_422 : cal 9 422 = some (0, 2, mX0_copy) := by rfl
theorem ck_9_424 : cal 9 424 = some (1, 2, mX9_commonDivisor) := by rfl
theorem ck_10_3 : cal 10 3 = some (6, 1, mJ7_fill_53178) := by rfl
theorem ck_10_139 : cal 10 139 = some (0, 1, mX10_begin) := by rfl
theorem ck_10_151 : cal 10 151 = some (1, 3, mX10_in) := by rfl
theorem ck_10_158 : cal 10 158 = some (0, 2, mX10_isGap) := by rfl
theorem ck_10_162 : cal 10 162 = some (1, 2, mJ9_min_7cf53) := by rfl
theorem ck_10_168 : cal 10 168 = some (1, 2, mJ9_max_7cf53) := by rfl
theorem ck_10_171 : cal 10 171 = some (0, 3, mX10_lean) := by rfl
theorem ck_10_175 : cal 10 175 = some (0, 1, mX10_slope) := by rfl
theorem ck_10_179 : cal 10 179 = some (0, 3, mX10_flows) := by rfl
theorem ck_10_182 : cal 10 182 = some (0, 3, mX10_over) := by rfl
theorem ck_10_185 : cal 10 185 = some (0, 3, mX10_pass) := by rfl
theorem ck_10_188 : cal 10 188 = some (0, 1, mX10_lost) := by rfl
theorem ck_10_209 : cal 10 209 = some (0, 1, mX10_fine) := by rfl
theorem ck_10_213 : cal 10 213 = some (0, 1, mX10_here) := by rfl
theorem ck_10_216 : cal 10 216 = some (0, 2, mX10_passes) := by rfl
theorem ck_10_220 : cal 10 220 = some (0, 2, mX10_fault) := by rfl
theorem ck_10_230 : cal 10 230 = some (0, 4, mX10_start) := by rfl
theorem ck_10_234 : cal 10 234 = some (0, 3, mX10_number) := by rfl
theorem ck_10_237 : cal 10 237 = some (0, 2, mX10_need) := by rfl
theorem ck_10_241 : cal 10 241 = some (0, 4, mX10_lay) := by rfl
theorem ck_10_245 : cal 10 245 = some (1, 1, mX10_isWalk) := by rfl
theorem ck_10_248 : cal 10 248 = some (1, 1, mJ9_abs_0f7a4) := by rfl
theorem ck_10_252 : cal 10 252 = some (0, 2, mX10_tell) := by rfl
theorem ck_10_256 : cal 10 256 = some (0, 2, mX10_product) := by rfl
theorem ck_10_259 : cal 10 259 = some (0, 2, mX10_thing) := by rfl
theorem ck_10_262 : cal 10 262 = some (0, 2, mX10_sum) := by rfl
theorem ck_10_277 : cal 10 277 = some (1, 1, mX10_bounded) := by rfl
theorem ck_10_280 : cal 10 280 = some (0, 2, mX10_isLaw) := by rfl
theorem ck_10_283 : cal 10 283 = some (0, 6, mX10_byLaw) := by rfl
theorem ck_10_287 : cal 10 287 = some (0, 3, mX10_byHand) := by rfl
theorem ck_10_303 : cal 10 303 = some (0, 2, mX10_draw) := by rfl
theorem ck_10_306 : cal 10 306 = some (0, 4, mX10_passWatched) := by rfl
theorem ck_10_310 : cal 10 310 = some (0, 1, mX10_watch) := by rfl
theorem ck_10_313 : cal 10 313 = some (0, 5, mX10_goOn) := by rfl
theorem ck_10_320 : cal 10 320 = some (0, 2, mX10_put) := by rfl
theorem ck_10_323 : cal 10 323 = some (0, 1, mX10_take) := by rfl
theorem ck_10_326 : cal 10 326 = some (0, 2, mX10_putBy) := by rfl
theorem ck_10_329 : cal 10 329 = some (0, 2, mX10_bringBack) := by rfl
theorem ck_10_332 : cal 10 332 = some (1, 1, mX10_isTilt) := by rfl
theorem ck_10_335 : cal 10 335 = some (0, 3, mX10_letGo) := by rfl
theorem ck_10_338 : cal 10 338 = some (0, 3, mX10_wholly) := by rfl
theorem ck_10_341 : cal 10 341 = some (1, 1, mJ9_abs_067f4) := by rfl
theorem ck_10_344 : cal 10 344 = some (1, 2, mX10_common) := by rfl
theorem ck_10_348 : cal 10 348 = some (0, 3, mX10_tellPart) := by rfl
theorem ck_10_360 : cal 10 360 = some (0, 2, mX10_keepPlan) := by rfl
theorem ck_10_363 : cal 10 363 = some (0, 4, mX10_planFrom) := by rfl
theorem ck_10_366 : cal 10 366 = some (0, 2, mX10_fromPlan) := by rfl
theorem ck_10_369 : cal 10 369 = some (0, 5, mX10_leastOf) := by rfl
theorem ck_10_372 : cal 10 372 = some (0, 4, mX10_greatestSlope) := by rfl
theorem ck_10_375 : cal 10 375 = some (0, 5, mX10_withPause) := by rfl
theorem ck_10_381 : cal 10 381 = some (0, 3, mX10_farFrom) := by rfl
theorem ck_11_7 : cal 11 7 = some (0, 4, mX9_cell) := by rfl
theorem ck_11_15 : cal 11 15 = some (0, 3, mX9_of) := by rfl
theorem ck_11_19 : cal 11 19 = some (0, 3, mX9_gives) := by rfl
theorem ck_11_22 : cal 11 22 = some (0, 2, mX9_row) := by rfl
theorem ck_11_26 : cal 11 26 = some (2, 1, mX9_init) := by rfl
theorem ck_11_29 : cal 11 29 = some (2, 1, mX10_init) := by rfl
theorem ck_11_30 : cal 11 30 = some (0, 4, mX9_cup) := by rfl
theorem ck_11_34 : cal 11 34 = some (0, 4, mX10_cup) := by rfl
theorem ck_11_35 : cal 11 35 = some (0, 3, mX9_set) := by rfl
theorem ck_11_38 : cal 11 38 = some (0, 3, mX10_set) := by rfl
theorem ck_11_39 : cal 11 39 = some (0, 3, mX9_wall) := by rfl
theorem ck_11_42 : cal 11 42 = some (0, 3, mX10_wall) := by rfl
theorem ck_11_43 : cal 11 43 = some (0, 5, mX9_sheet) := by rfl
theorem ck_11_47 : cal 11 47 = some (0, 5, mX10_sheet) := by rfl
theorem ck_11_48 : cal 11 48 = some (0, 1, mX9_fresh) := by rfl
theorem ck_11_52 : cal 11 52 = some (0, 1, mX10_fresh) := by rfl
theorem ck_11_53 : cal 11 53 = some (0, 3, mX9_tilt) := by rfl
theorem ck_11_57 : cal 11 57 = some (0, 3, mX10_tilt) := by rfl
theorem ck_11_58 : cal 11 58 = some (0, 3, mX9_tick) := by rfl
theorem ck_11_61 : cal 11 61 = some (0, 3, mX10_tick) := by rfl
theorem ck_11_62 : cal 11 62 = some (8, 5, mL_cell) := by rfl
theorem ck_11_67 : cal 11 67 = some (0, 4, mX10_cell) := by rfl
theorem ck_11_68 : cal 11 68 = some (0, 1, mX10_thrown) := by rfl
theorem ck_11_71 : cal 11 71 = some (8, 4, mL_of) := by rfl
theorem ck_11_74 : cal 11 74 = some (0, 3, mX10_of) := by rfl
theorem ck_11_75 : cal 11 75 = some (0, 2, mX9_sign) := by rfl
theorem ck_11_79 : cal 11 79 = some (0, 2, mX10_sign) := by rfl
theorem ck_11_80 : cal 11 80 = some (0, 2, mX9_end) := by rfl
theorem ck_11_84 : cal 11 84 = some (0, 2, mX10_end) := by rfl
theorem ck_11_85 : cal 11 85 = some (0, 2, mX9_walk) := by rfl
theorem ck_11_88 : cal 11 88 = some (0, 2, mX10_walk) := by rfl
theorem ck_11_89 : cal 11 89 = some (0, 2, mX9_law) := by rfl
theorem ck_11_92 : cal 11 92 = some (0, 2, mX10_law) := by rfl
theorem ck_11_93 : cal 11 93 = some (8, 4, mL_gives) := by rfl
theorem ck_11_95 : cal 11 95 = some (0, 3, mX10_gives) := by rfl
theorem ck_11_96 : cal 11 96 = some (0, 2, mX9_steps) := by rfl
theorem ck_11_99 : cal 11 99 = some (0, 2, mX10_steps) := by rfl
theorem ck_11_100 : cal 11 100 = some (0, 4, mX9_go) := by rfl
theorem ck_11_103 : cal 11 103 = some (0, 4, mX10_go) := by rfl
theorem ck_11_104 : cal 11 104 = some (0, 2, mX9_swing) := by rfl
theorem ck_11_107 : cal 11 107 = some (0, 2, mX10_swing) := by rfl
theorem ck_11_108 : cal 11 108 = some (0, 3, mX9_dies) := by rfl
theorem ck_11_111 : cal 11 111 = some (0, 3, mX10_dies) := by rfl
theorem ck_11_112 : cal 11 112 = some (0, 2, mX9_worst) := by rfl
theorem ck_11_115 : cal 11 115 = some (0, 2, mX10_worst) := by rfl
theorem ck_11_116 : cal 11 116 = some (0, 3, mX9_would) := by rfl
theorem ck_11_119 : cal 11 119 = some (0, 3, mX10_would) := by rfl
theorem ck_11_120 : cal 11 120 = some (0, 3, mX9_odds) := by rfl
theorem ck_11_123 : cal 11 123 = some (0, 3, mX10_odds) := by rfl
theorem ck_11_124 : cal 11 124 = some (0, 2, mX9_full) := by rfl
theorem ck_11_127 : cal 11 127 = some (0, 2, mX10_full) := by rfl
theorem ck_11_128 : cal 11 128 = some (0, 3, mX9_leads) := by rfl
theorem ck_11_131 : cal 11 131 = some (0, 3, mX10_leads) := by rfl
theorem ck_11_132 : cal 11 132 = some (0, 2, mX9_plan) := by rfl
theorem ck_11_135 : cal 11 135 = some (0, 2, mX10_plan) := by rfl
theorem ck_11_136 : cal 11 136 = some (0, 3, mX9_helps) := by rfl
theorem ck_11_139 : cal 11 139 = some (0, 3, mX10_helps) := by rfl
theorem ck_11_140 : cal 11 140 = some (0, 2, mX9_layers) := by rfl
theorem ck_11_143 : cal 11 143 = some (0, 2, mX10_layers) := by rfl
theorem ck_11_144 : cal 11 144 = some (0, 4, mX9_off) := by rfl
theorem ck_11_147 : cal 11 147 = some (0, 4, mX10_off) := by rfl
theorem ck_11_148 : cal 11 148 = some (0, 3, mX9_few) := by rfl
theorem ck_11_151 : cal 11 151 = some (0, 3, mX10_few) := by rfl
theorem ck_11_152 : cal 11 152 = some (0, 3, mX9_best) := by rfl
theorem ck_11_155 : cal 11 155 = some (0, 3, mX10_best) := by rfl
theorem ck_11_156 : cal 11 156 = some (0, 3, mX9_lid) := by rfl
theorem ck_11_159 : cal 11 159 = some (0, 3, mX10_lid) := by rfl
theorem ck_11_160 : cal 11 160 = some (0, 2, mX9_form) := by rfl
theorem ck_11_163 : cal 11 163 = some (0, 2, mX10_form) := by rfl
theorem ck_11_164 : cal 11 164 = some (0, 3, mX9_turn) := by rfl
theorem ck_11_167 : cal 11 167 = some (0, 3, mX10_turn) := by rfl
theorem ck_11_168 : cal 11 168 = some (0, 2, mX9_door) := by rfl
theorem ck_11_171 : cal 11 171 = some (0, 2, mX10_door) := by rfl
theorem ck_11_172 : cal 11 172 = some (0, 2, mX9_two) := by rfl
theorem ck_11_175 : cal 11 175 = some (0, 2, mX10_two) := by rfl
theorem ck_11_176 : cal 11 176 = some (0, 2, mX9_stop) := by rfl
theorem ck_11_179 : cal 11 179 = some (0, 2, mX10_stop) := by rfl
theorem ck_11_180 : cal 11 180 = some (0, 3, mX9_pause) := by rfl
theorem ck_11_183 : cal 11 183 = some (0, 3, mX10_pause) := by rfl
theorem ck_11_184 : cal 11 184 = some (0, 2, mX9_stir) := by rfl
theorem ck_11_187 : cal 11 187 = some (0, 2, mX10_stir) := by rfl
theorem ck_11_188 : cal 11 188 = some (0, 2, mX9_spot) := by rfl
theorem ck_11_191 : cal 11 191 = some (0, 2, mX10_spot) := by rfl
theorem ck_11_192 : cal 11 192 = some (0, 1, mX9_wipe) := by rfl
theorem ck_11_195 : cal 11 195 = some (0, 1, mX10_wipe) := by rfl
theorem ck_11_196 : cal 11 196 = some (0, 3, mX9_far) := by rfl
theorem ck_11_199 : cal 11 199 = some (0, 3, mX10_far) := by rfl
theorem ck_11_200 : cal 11 200 = some (0, 1, mX9_who) := by rfl
theorem ck_11_203 : cal 11 203 = some (0, 1, mX10_who) := by rfl
theorem ck_11_204 : cal 11 204 = some (0, 5, mX9_film) := by rfl
theorem ck_11_207 : cal 11 207 = some (0, 5, mX10_film) := by rfl
theorem ck_11_208 : cal 11 208 = some (0, 3, mX9_fits) := by rfl
theorem ck_11_211 : cal 11 211 = some (0, 3, mX10_fits) := by rfl
theorem ck_11_212 : cal 11 212 = some (0, 1, mX9_reads) := by rfl
theorem ck_11_215 : cal 11 215 = some (0, 1, mX10_reads) := by rfl
theorem ck_11_216 : cal 11 216 = some (0, 2, mX9_seed) := by rfl
theorem ck_11_219 : cal 11 219 = some (0, 2, mX10_seed) := by rfl
theorem ck_11_220 : cal 11 220 = some (0, 2, mX9_keep) := by rfl
theorem ck_11_223 : cal 11 223 = some (0, 2, mX10_keep) := by rfl
theorem ck_11_224 : cal 11 224 = some (0, 2, mX9_again) := by rfl
theorem ck_11_227 : cal 11 227 = some (0, 2, mX10_again) := by rfl
theorem ck_11_228 : cal 11 228 = some (0, 2, mX9_count) := by rfl
theorem ck_11_231 : cal 11 231 = some (0, 2, mX10_count) := by rfl
theorem ck_11_232 : cal 11 232 = some (8, 3, mL_row) := by rfl
theorem ck_11_235 : cal 11 235 = some (0, 2, mX10_row) := by rfl
theorem nw_3_9 : nwc 3 9 = some 1 := by decide +kernel
theorem nw_3_22 : nwc 3 22 = some 6 := by decide +kernel
theorem nw_5_18 : nwc 5 18 = some 5 := by decide +kernel
theorem nw_7_9 : nwc 7 9 = some 1 := by decide +kernel
theorem nw_7_22 : nwc 7 22 = some 6 := by decide +kernel
theorem nw_9_7 : nwc 9 7 = some 1 := by decide +kernel
theorem nw_9_16 : nwc 9 16 = some 6 := by decide +kernel
theorem nw_9_31 : nwc 9 31 = some 7 := by decide +kernel
theorem nw_9_38 : nwc 9 38 = some 9 := by decide +kernel
theorem nw_9_53 : nwc 9 53 = some 3 := by decide +kernel
theorem nw_9_64 : nwc 9 64 = some 8 := by decide +kernel
theorem nw_9_71 : nwc 9 71 = some 4 := by decide +kernel
theorem nw_9_84 : nwc 9 84 = some 2 := by decide +kernel
theorem nw_11_8 : nwc 11 8 = some 10 := by decide +kernel
theorem nw_11_27 : nwc 11 27 = some 11 := by decide +kernel
theorem cn_3_52 : Cond.constant (onm 3) 52 (Int32.ofInt 2147483647) ∈ bigW := List.mem_filter.mpr ⟨by decide +kernel, rfl⟩
theorem cn_5_79 : Cond.constant (onm 5) 79 (Int32.ofInt 1103515245) ∈ bigW := List.mem_filter.mpr ⟨by decide +kernel, rfl⟩
theorem cn_9_326 : Cond.constant (onm 9) 326 (Int32.ofInt 2147483647) ∈ bigW := List.mem_filter.mpr ⟨by decide +kernel, rfl⟩
theorem cn_9_370 : Cond.constantLong (onm 9) 370 (Int64.ofInt (-1)) ∈ bigW := List.mem_filter.mpr ⟨by decide +kernel, rfl⟩
theorem cn_10_290 : Cond.constant (onm 10) 290 (Int32.ofInt 1103515245) ∈ bigW := List.mem_filter.mpr ⟨by decide +kernel, rfl⟩
theorem cn_10_352 : Cond.constantLong (onm 10) 352 (Int64.ofInt (-1)) ∈ bigW := List.mem_filter.mpr ⟨by decide +kernel, rfl⟩
