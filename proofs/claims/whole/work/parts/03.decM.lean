theorem dX10_init_0 : decode cX10_init 0 = .ok (.aload_n 0, 1) := by decide +kernel
theorem dX10_init_1 : decode cX10_init 1 = .ok (.invokespecial 3, 3) := by decide +kernel
theorem dX10_init_4 : decode cX10_init 4 = .ok (.aload_n 0, 1) := by decide +kernel
theorem dX10_init_5 : decode cX10_init 5 = .ok (.bipush 8, 2) := by decide +kernel
theorem dX10_init_7 : decode cX10_init 7 = .ok (.putfield 9, 3) := by decide +kernel
theorem dX10_init_10 : decode cX10_init 10 = .ok (.aload_n 0, 1) := by decide +kernel
theorem dX10_init_11 : decode cX10_init 11 = .ok (.bipush 100, 2) := by decide +kernel
theorem dX10_init_13 : decode cX10_init 13 = .ok (.putfield 13, 3) := by decide +kernel
theorem dX10_init_16 : decode cX10_init 16 = .ok (.aload_n 0, 1) := by decide +kernel
theorem dX10_init_17 : decode cX10_init 17 = .ok (.bipush 80, 2) := by decide +kernel
theorem dX10_init_19 : decode cX10_init 19 = .ok (.putfield 16, 3) := by decide +kernel
theorem dX10_init_22 : decode cX10_init 22 = .ok (.aload_n 0, 1) := by decide +kernel
theorem dX10_init_23 : decode cX10_init 23 = .ok (.bipush 7, 2) := by decide +kernel
theorem dX10_init_25 : decode cX10_init 25 = .ok (.newarray .int, 2) := by decide +kernel
theorem dX10_init_27 : decode cX10_init 27 = .ok (.dup, 1) := by decide +kernel
theorem dX10_init_28 : decode cX10_init 28 = .ok (.iconst 0, 1) := by decide +kernel
theorem dX10_init_29 : decode cX10_init 29 = .ok (.bipush 8, 2) := by decide +kernel
theorem dX10_init_31 : decode cX10_init 31 = .ok (.iastore, 1) := by decide +kernel
theorem dX10_init_32 : decode cX10_init 32 = .ok (.dup, 1) := by decide +kernel
theorem dX10_init_33 : decode cX10_init 33 = .ok (.iconst 1, 1) := by decide +kernel
theorem dX10_init_34 : decode cX10_init 34 = .ok (.iconst 2, 1) := by decide +kernel
theorem dX10_init_35 : decode cX10_init 35 = .ok (.iastore, 1) := by decide +kernel
theorem dX10_init_36 : decode cX10_init 36 = .ok (.dup, 1) := by decide +kernel
theorem dX10_init_37 : decode cX10_init 37 = .ok (.iconst 2, 1) := by decide +kernel
theorem dX10_init_38 : decode cX10_init 38 = .ok (.iconst 0, 1) := by decide +kernel
theorem dX10_init_39 : decode cX10_init 39 = .ok (.iastore, 1) := by decide +kernel
theorem dX10_init_40 : decode cX10_init 40 = .ok (.dup, 1) := by decide +kernel
theorem dX10_init_41 : decode cX10_init 41 = .ok (.iconst 3, 1) := by decide +kernel
theorem dX10_init_42 : decode cX10_init 42 = .ok (.bipush 6, 2) := by decide +kernel
theorem dX10_init_44 : decode cX10_init 44 = .ok (.iastore, 1) := by decide +kernel
theorem dX10_init_45 : decode cX10_init 45 = .ok (.dup, 1) := by decide +kernel
theorem dX10_init_46 : decode cX10_init 46 = .ok (.iconst 4, 1) := by decide +kernel
theorem dX10_init_47 : decode cX10_init 47 = .ok (.iconst 0, 1) := by decide +kernel
theorem dX10_init_48 : decode cX10_init 48 = .ok (.iastore, 1) := by decide +kernel
theorem dX10_init_49 : decode cX10_init 49 = .ok (.dup, 1) := by decide +kernel
theorem dX10_init_50 : decode cX10_init 50 = .ok (.iconst 5, 1) := by decide +kernel
theorem dX10_init_51 : decode cX10_init 51 = .ok (.iconst 0, 1) := by decide +kernel
theorem dX10_init_52 : decode cX10_init 52 = .ok (.iastore, 1) := by decide +kernel
theorem dX10_init_53 : decode cX10_init 53 = .ok (.dup, 1) := by decide +kernel
theorem dX10_init_54 : decode cX10_init 54 = .ok (.bipush 6, 2) := by decide +kernel
theorem dX10_init_56 : decode cX10_init 56 = .ok (.iconst 3, 1) := by decide +kernel
theorem dX10_init_57 : decode cX10_init 57 = .ok (.iastore, 1) := by decide +kernel
theorem dX10_init_58 : decode cX10_init 58 = .ok (.putfield 19, 3) := by decide +kernel
theorem dX10_init_61 : decode cX10_init 61 = .ok (.aload_n 0, 1) := by decide +kernel
theorem dX10_init_62 : decode cX10_init 62 = .ok (.bipush 20, 2) := by decide +kernel
theorem dX10_init_64 : decode cX10_init 64 = .ok (.newarray .int, 2) := by decide +kernel
theorem dX10_init_66 : decode cX10_init 66 = .ok (.putfield 23, 3) := by decide +kernel
theorem dX10_init_69 : decode cX10_init 69 = .ok (.aload_n 0, 1) := by decide +kernel
theorem dX10_init_70 : decode cX10_init 70 = .ok (.bipush 40, 2) := by decide +kernel
theorem dX10_init_72 : decode cX10_init 72 = .ok (.newarray .int, 2) := by decide +kernel
theorem dX10_init_74 : decode cX10_init 74 = .ok (.putfield 26, 3) := by decide +kernel
theorem dX10_init_77 : decode cX10_init 77 = .ok (.aload_n 0, 1) := by decide +kernel
theorem dX10_init_78 : decode cX10_init 78 = .ok (.bipush 40, 2) := by decide +kernel
theorem dX10_init_80 : decode cX10_init 80 = .ok (.newarray .int, 2) := by decide +kernel
theorem dX10_init_82 : decode cX10_init 82 = .ok (.putfield 29, 3) := by decide +kernel
theorem dX10_init_85 : decode cX10_init 85 = .ok (.aload_n 0, 1) := by decide +kernel
theorem dX10_init_86 : decode cX10_init 86 = .ok (.iconst 2, 1) := by decide +kernel
theorem dX10_init_87 : decode cX10_init 87 = .ok (.newarray .int, 2) := by decide +kernel
theorem dX10_init_89 : decode cX10_init 89 = .ok (.putfield 32, 3) := by decide +kernel
theorem dX10_init_92 : decode cX10_init 92 = .ok (.aload_n 0, 1) := by decide +kernel
theorem dX10_init_93 : decode cX10_init 93 = .ok (.bipush 21, 2) := by decide +kernel
theorem dX10_init_95 : decode cX10_init 95 = .ok (.newarray .int, 2) := by decide +kernel
theorem dX10_init_97 : decode cX10_init 97 = .ok (.putfield 35, 3) := by decide +kernel
theorem dX10_init_100 : decode cX10_init 100 = .ok (.aload_n 0, 1) := by decide +kernel
theorem dX10_init_101 : decode cX10_init 101 = .ok (.iconst 1, 1) := by decide +kernel
theorem dX10_init_102 : decode cX10_init 102 = .ok (.putfield 38, 3) := by decide +kernel
theorem dX10_init_105 : decode cX10_init 105 = .ok (.aload_n 0, 1) := by decide +kernel
theorem dX10_init_106 : decode cX10_init 106 = .ok (.bipush 80, 2) := by decide +kernel
theorem dX10_init_108 : decode cX10_init 108 = .ok (.newarray .byte, 2) := by decide +kernel
theorem dX10_init_110 : decode cX10_init 110 = .ok (.putfield 41, 3) := by decide +kernel
theorem dX10_init_113 : decode cX10_init 113 = .ok (.aload_n 0, 1) := by decide +kernel
theorem dX10_init_114 : decode cX10_init 114 = .ok (.bipush 8, 2) := by decide +kernel
theorem dX10_init_116 : decode cX10_init 116 = .ok (.newarray .long, 2) := by decide +kernel
theorem dX10_init_118 : decode cX10_init 118 = .ok (.putfield 45, 3) := by decide +kernel
theorem dX10_init_121 : decode cX10_init 121 = .ok (.aload_n 0, 1) := by decide +kernel
theorem dX10_init_122 : decode cX10_init 122 = .ok (.iconst 4, 1) := by decide +kernel
theorem dX10_init_123 : decode cX10_init 123 = .ok (.newarray .int, 2) := by decide +kernel
theorem dX10_init_125 : decode cX10_init 125 = .ok (.putfield 49, 3) := by decide +kernel
theorem dX10_init_128 : decode cX10_init 128 = .ok (.aload_n 0, 1) := by decide +kernel
theorem dX10_init_129 : decode cX10_init 129 = .ok (.iconst 4, 1) := by decide +kernel
theorem dX10_init_130 : decode cX10_init 130 = .ok (.newarray .int, 2) := by decide +kernel
theorem dX10_init_132 : decode cX10_init 132 = .ok (.putfield 52, 3) := by decide +kernel
theorem dX10_init_135 : decode cX10_init 135 = .ok (.aload_n 0, 1) := by decide +kernel
theorem dX10_init_136 : decode cX10_init 136 = .ok (.sipush 4000, 3) := by decide +kernel
theorem dX10_init_139 : decode cX10_init 139 = .ok (.newarray .int, 2) := by decide +kernel
theorem dX10_init_141 : decode cX10_init 141 = .ok (.putfield 55, 3) := by decide +kernel
theorem dX10_init_144 : decode cX10_init 144 = .ok (.aload_n 0, 1) := by decide +kernel
theorem dX10_init_145 : decode cX10_init 145 = .ok (.sipush 4000, 3) := by decide +kernel
theorem dX10_init_148 : decode cX10_init 148 = .ok (.newarray .int, 2) := by decide +kernel
theorem dX10_init_150 : decode cX10_init 150 = .ok (.putfield 58, 3) := by decide +kernel
theorem dX10_init_153 : decode cX10_init 153 = .ok (.aload_n 0, 1) := by decide +kernel
theorem dX10_init_154 : decode cX10_init 154 = .ok (.sipush 4000, 3) := by decide +kernel
theorem dX10_init_157 : decode cX10_init 157 = .ok (.newarray .int, 2) := by decide +kernel
theorem dX10_init_159 : decode cX10_init 159 = .ok (.putfield 61, 3) := by decide +kernel
theorem dX10_init_162 : decode cX10_init 162 = .ok (.aload_n 0, 1) := by decide +kernel
theorem dX10_init_163 : decode cX10_init 163 = .ok (.sipush 4000, 3) := by decide +kernel
theorem dX10_init_166 : decode cX10_init 166 = .ok (.newarray .int, 2) := by decide +kernel
theorem dX10_init_168 : decode cX10_init 168 = .ok (.putfield 64, 3) := by decide +kernel
theorem dX10_init_171 : decode cX10_init 171 = .ok (.aload_n 0, 1) := by decide +kernel
theorem dX10_init_172 : decode cX10_init 172 = .ok (.sipush 1000, 3) := by decide +kernel
theorem dX10_init_175 : decode cX10_init 175 = .ok (.newarray .int, 2) := by decide +kernel
theorem dX10_init_177 : decode cX10_init 177 = .ok (.putfield 67, 3) := by decide +kernel
theorem dX10_init_180 : decode cX10_init 180 = .ok (.aload_n 0, 1) := by decide +kernel
theorem dX10_init_181 : decode cX10_init 181 = .ok (.sipush 1000, 3) := by decide +kernel
theorem dX10_init_184 : decode cX10_init 184 = .ok (.newarray .int, 2) := by decide +kernel
theorem dX10_init_186 : decode cX10_init 186 = .ok (.putfield 70, 3) := by decide +kernel
theorem dX10_init_189 : decode cX10_init 189 = .ok (.aload_n 0, 1) := by decide +kernel
theorem dX10_init_190 : decode cX10_init 190 = .ok (.sipush 1000, 3) := by decide +kernel
theorem dX10_init_193 : decode cX10_init 193 = .ok (.newarray .int, 2) := by decide +kernel
theorem dX10_init_195 : decode cX10_init 195 = .ok (.putfield 73, 3) := by decide +kernel
theorem dX10_init_198 : decode cX10_init 198 = .ok (.aload_n 0, 1) := by decide +kernel
theorem dX10_init_199 : decode cX10_init 199 = .ok (.sipush 1000, 3) := by decide +kernel
theorem dX10_init_202 : decode cX10_init 202 = .ok (.newarray .int, 2) := by decide +kernel
theorem dX10_init_204 : decode cX10_init 204 = .ok (.putfield 76, 3) := by decide +kernel
theorem dX10_init_207 : decode cX10_init 207 = .ok (.aload_n 0, 1) := by decide +kernel
theorem dX10_init_208 : decode cX10_init 208 = .ok (.iconst 3, 1) := by decide +kernel
theorem dX10_init_209 : decode cX10_init 209 = .ok (.bipush 40, 2) := by decide +kernel
theorem dX10_init_211 : decode cX10_init 211 = .ok (.multianewarray 79 2, 4) := by decide +kernel
theorem dX10_init_215 : decode cX10_init 215 = .ok (.putfield 81, 3) := by decide +kernel
theorem dX10_init_218 : decode cX10_init 218 = .ok (.aload_n 0, 1) := by decide +kernel
theorem dX10_init_219 : decode cX10_init 219 = .ok (.iconst 3, 1) := by decide +kernel
theorem dX10_init_220 : decode cX10_init 220 = .ok (.newarray .int, 2) := by decide +kernel
theorem dX10_init_222 : decode cX10_init 222 = .ok (.putfield 84, 3) := by decide +kernel
theorem dX10_init_225 : decode cX10_init 225 = .ok (.aload_n 0, 1) := by decide +kernel
theorem dX10_init_226 : decode cX10_init 226 = .ok (.sipush 1050, 3) := by decide +kernel
theorem dX10_init_229 : decode cX10_init 229 = .ok (.newarray .int, 2) := by decide +kernel
theorem dX10_init_231 : decode cX10_init 231 = .ok (.putfield 87, 3) := by decide +kernel
theorem dX10_init_234 : decode cX10_init 234 = .ok (.aload_n 0, 1) := by decide +kernel
theorem dX10_init_235 : decode cX10_init 235 = .ok (.sipush 420, 3) := by decide +kernel
theorem dX10_init_238 : decode cX10_init 238 = .ok (.newarray .int, 2) := by decide +kernel
theorem dX10_init_240 : decode cX10_init 240 = .ok (.putfield 90, 3) := by decide +kernel
theorem dX10_init_243 : decode cX10_init 243 = .ok (.aload_n 0, 1) := by decide +kernel
theorem dX10_init_244 : decode cX10_init 244 = .ok (.sipush 402, 3) := by decide +kernel
theorem dX10_init_247 : decode cX10_init 247 = .ok (.newarray .int, 2) := by decide +kernel
theorem dX10_init_249 : decode cX10_init 249 = .ok (.putfield 93, 3) := by decide +kernel
theorem dX10_init_252 : decode cX10_init 252 = .ok (.aload_n 0, 1) := by decide +kernel
theorem dX10_init_253 : decode cX10_init 253 = .ok (.sipush 1000, 3) := by decide +kernel
theorem dX10_init_256 : decode cX10_init 256 = .ok (.newarray .int, 2) := by decide +kernel
theorem dX10_init_258 : decode cX10_init 258 = .ok (.putfield 96, 3) := by decide +kernel
theorem dX10_init_261 : decode cX10_init 261 = .ok (.aload_n 0, 1) := by decide +kernel
theorem dX10_init_262 : decode cX10_init 262 = .ok (.iconst 4, 1) := by decide +kernel
theorem dX10_init_263 : decode cX10_init 263 = .ok (.newarray .int, 2) := by decide +kernel
theorem dX10_init_265 : decode cX10_init 265 = .ok (.putfield 99, 3) := by decide +kernel
theorem dX10_init_268 : decode cX10_init 268 = .ok (.aload_n 0, 1) := by decide +kernel
theorem dX10_init_269 : decode cX10_init 269 = .ok (.iconst 4, 1) := by decide +kernel
theorem dX10_init_270 : decode cX10_init 270 = .ok (.newarray .int, 2) := by decide +kernel
theorem dX10_init_272 : decode cX10_init 272 = .ok (.putfield 102, 3) := by decide +kernel
theorem dX10_init_275 : decode cX10_init 275 = .ok (.aload_n 0, 1) := by decide +kernel
theorem dX10_init_276 : decode cX10_init 276 = .ok (.iconst 4, 1) := by decide +kernel
theorem dX10_init_277 : decode cX10_init 277 = .ok (.newarray .int, 2) := by decide +kernel
theorem dX10_init_279 : decode cX10_init 279 = .ok (.putfield 105, 3) := by decide +kernel
theorem dX10_init_282 : decode cX10_init 282 = .ok (.aload_n 0, 1) := by decide +kernel
theorem dX10_init_283 : decode cX10_init 283 = .ok (.sipush 420, 3) := by decide +kernel
theorem dX10_init_286 : decode cX10_init 286 = .ok (.newarray .int, 2) := by decide +kernel
theorem dX10_init_288 : decode cX10_init 288 = .ok (.putfield 108, 3) := by decide +kernel
theorem dX10_init_291 : decode cX10_init 291 = .ok (.aload_n 0, 1) := by decide +kernel
theorem dX10_init_292 : decode cX10_init 292 = .ok (.bipush 105, 2) := by decide +kernel
theorem dX10_init_294 : decode cX10_init 294 = .ok (.newarray .int, 2) := by decide +kernel
theorem dX10_init_296 : decode cX10_init 296 = .ok (.putfield 111, 3) := by decide +kernel
theorem dX10_init_299 : decode cX10_init 299 = .ok (.aload_n 0, 1) := by decide +kernel
theorem dX10_init_300 : decode cX10_init 300 = .ok (.bipush 20, 2) := by decide +kernel
theorem dX10_init_302 : decode cX10_init 302 = .ok (.newarray .int, 2) := by decide +kernel
theorem dX10_init_304 : decode cX10_init 304 = .ok (.putfield 114, 3) := by decide +kernel
theorem dX10_init_307 : decode cX10_init 307 = .ok (.aload_n 0, 1) := by decide +kernel
theorem dX10_init_308 : decode cX10_init 308 = .ok (.bipush 12, 2) := by decide +kernel
theorem dX10_init_310 : decode cX10_init 310 = .ok (.newarray .int, 2) := by decide +kernel
theorem dX10_init_312 : decode cX10_init 312 = .ok (.putfield 117, 3) := by decide +kernel
theorem dX10_init_315 : decode cX10_init 315 = .ok (.aload_n 0, 1) := by decide +kernel
theorem dX10_init_316 : decode cX10_init 316 = .ok (.bipush 20, 2) := by decide +kernel
theorem dX10_init_318 : decode cX10_init 318 = .ok (.newarray .int, 2) := by decide +kernel
theorem dX10_init_320 : decode cX10_init 320 = .ok (.putfield 120, 3) := by decide +kernel
theorem dX10_init_323 : decode cX10_init 323 = .ok (.aload_n 0, 1) := by decide +kernel
theorem dX10_init_324 : decode cX10_init 324 = .ok (.bipush 20, 2) := by decide +kernel
theorem dX10_init_326 : decode cX10_init 326 = .ok (.newarray .int, 2) := by decide +kernel
theorem dX10_init_328 : decode cX10_init 328 = .ok (.putfield 123, 3) := by decide +kernel
theorem dX10_init_331 : decode cX10_init 331 = .ok (.aload_n 0, 1) := by decide +kernel
theorem dX10_init_332 : decode cX10_init 332 = .ok (.bipush 20, 2) := by decide +kernel
theorem dX10_init_334 : decode cX10_init 334 = .ok (.newarray .int, 2) := by decide +kernel
theorem dX10_init_336 : decode cX10_init 336 = .ok (.putfield 126, 3) := by decide +kernel
theorem dX10_init_339 : decode cX10_init 339 = .ok (.aload_n 0, 1) := by decide +kernel
theorem dX10_init_340 : decode cX10_init 340 = .ok (.bipush 20, 2) := by decide +kernel
theorem dX10_init_342 : decode cX10_init 342 = .ok (.newarray .int, 2) := by decide +kernel
theorem dX10_init_344 : decode cX10_init 344 = .ok (.putfield 129, 3) := by decide +kernel
theorem dX10_init_347 : decode cX10_init 347 = .ok (.aload_n 0, 1) := by decide +kernel
theorem dX10_init_348 : decode cX10_init 348 = .ok (.iconst 3, 1) := by decide +kernel
theorem dX10_init_349 : decode cX10_init 349 = .ok (.newarray .boolean, 2) := by decide +kernel
theorem dX10_init_351 : decode cX10_init 351 = .ok (.putfield 132, 3) := by decide +kernel
theorem dX10_init_354 : decode cX10_init 354 = .ok (.aload_n 0, 1) := by decide +kernel
theorem dX10_init_355 : decode cX10_init 355 = .ok (.iconst 3, 1) := by decide +kernel
theorem dX10_init_356 : decode cX10_init 356 = .ok (.newarray .int, 2) := by decide +kernel
theorem dX10_init_358 : decode cX10_init 358 = .ok (.putfield 136, 3) := by decide +kernel
theorem dX10_init_361 : decode cX10_init 361 = .ok (.iconst 0, 1) := by decide +kernel
theorem dX10_init_362 : decode cX10_init 362 = .ok (.istore_n 1, 1) := by decide +kernel
theorem dX10_init_363 : decode cX10_init 363 = .ok (.iload_n 1, 1) := by decide +kernel
theorem dX10_init_364 : decode cX10_init 364 = .ok (.bipush 20, 2) := by decide +kernel
theorem dX10_init_366 : decode cX10_init 366 = .ok (.if_icmp .ge 17, 3) := by decide +kernel
theorem dX10_init_369 : decode cX10_init 369 = .ok (.aload_n 0, 1) := by decide +kernel
theorem dX10_init_370 : decode cX10_init 370 = .ok (.getfield 23, 3) := by decide +kernel
theorem dX10_init_373 : decode cX10_init 373 = .ok (.iload_n 1, 1) := by decide +kernel
theorem dX10_init_374 : decode cX10_init 374 = .ok (.bipush 100, 2) := by decide +kernel
theorem dX10_init_376 : decode cX10_init 376 = .ok (.iastore, 1) := by decide +kernel
theorem dX10_init_377 : decode cX10_init 377 = .ok (.iinc 1 1, 3) := by decide +kernel
theorem dX10_init_380 : decode cX10_init 380 = .ok (.goto (-17), 3) := by decide +kernel
theorem dX10_init_383 : decode cX10_init 383 = .ok (.aload_n 0, 1) := by decide +kernel
theorem dX10_init_384 : decode cX10_init 384 = .ok (.invokevirtual 139, 3) := by decide +kernel
theorem dX10_init_387 : decode cX10_init 387 = .ok (.return_, 1) := by decide +kernel
theorem dX10_thrown_0 : decode cX10_thrown 0 = .ok (.aload_n 0, 1) := by decide +kernel
theorem dX10_thrown_1 : decode cX10_thrown 1 = .ok (.getfield 142, 3) := by decide +kernel
theorem dX10_thrown_4 : decode cX10_thrown 4 = .ok (.ireturn, 1) := by decide +kernel
theorem dX10_in_0 : decode cX10_in 0 = .ok (.iload_n 0, 1) := by decide +kernel
theorem dX10_in_1 : decode cX10_in 1 = .ok (.iload_n 1, 1) := by decide +kernel
theorem dX10_in_2 : decode cX10_in 2 = .ok (.if_icmp .lt 12, 3) := by decide +kernel
theorem dX10_in_5 : decode cX10_in 5 = .ok (.iload_n 0, 1) := by decide +kernel
theorem dX10_in_6 : decode cX10_in 6 = .ok (.iload_n 2, 1) := by decide +kernel
theorem dX10_in_7 : decode cX10_in 7 = .ok (.if_icmp .gt 7, 3) := by decide +kernel
theorem dX10_in_10 : decode cX10_in 10 = .ok (.iconst 1, 1) := by decide +kernel
theorem dX10_in_11 : decode cX10_in 11 = .ok (.goto 4, 3) := by decide +kernel
theorem dX10_in_14 : decode cX10_in 14 = .ok (.iconst 0, 1) := by decide +kernel
theorem dX10_in_15 : decode cX10_in 15 = .ok (.ireturn, 1) := by decide +kernel
theorem dX10_lost_0 : decode cX10_lost 0 = .ok (.aload_n 0, 1) := by decide +kernel
theorem dX10_lost_1 : decode cX10_lost 1 = .ok (.iconst 1, 1) := by decide +kernel
theorem dX10_lost_2 : decode cX10_lost 2 = .ok (.putfield 142, 3) := by decide +kernel
theorem dX10_lost_5 : decode cX10_lost 5 = .ok (.iconst 0, 1) := by decide +kernel
theorem dX10_lost_6 : decode cX10_lost 6 = .ok (.ireturn, 1) := by decide +kernel
theorem dX10_tell_0 : decode cX10_tell 0 = .ok (.aload_n 0, 1) := by decide +kernel
theorem dX10_tell_1 : decode cX10_tell 1 = .ok (.getfield 45, 3) := by decide +kernel
theorem dX10_tell_4 : decode cX10_tell 4 = .ok (.aload_n 0, 1) := by decide +kernel
theorem dX10_tell_5 : decode cX10_tell 5 = .ok (.getfield 145, 3) := by decide +kernel
theorem dX10_tell_8 : decode cX10_tell 8 = .ok (.lload_n 1, 1) := by decide +kernel
theorem dX10_tell_9 : decode cX10_tell 9 = .ok (.lastore, 1) := by decide +kernel
theorem dX10_tell_10 : decode cX10_tell 10 = .ok (.aload_n 0, 1) := by decide +kernel
theorem dX10_tell_11 : decode cX10_tell 11 = .ok (.dup, 1) := by decide +kernel
theorem dX10_tell_12 : decode cX10_tell 12 = .ok (.getfield 145, 3) := by decide +kernel
theorem dX10_tell_15 : decode cX10_tell 15 = .ok (.iconst 1, 1) := by decide +kernel
theorem dX10_tell_16 : decode cX10_tell 16 = .ok (.iadd, 1) := by decide +kernel
theorem dX10_tell_17 : decode cX10_tell 17 = .ok (.putfield 145, 3) := by decide +kernel
theorem dX10_tell_20 : decode cX10_tell 20 = .ok (.return_, 1) := by decide +kernel
theorem dX10_begin_0 : decode cX10_begin 0 = .ok (.aload_n 0, 1) := by decide +kernel
theorem dX10_begin_1 : decode cX10_begin 1 = .ok (.iconst 0, 1) := by decide +kernel
theorem dX10_begin_2 : decode cX10_begin 2 = .ok (.putfield 148, 3) := by decide +kernel
theorem dX10_begin_5 : decode cX10_begin 5 = .ok (.iconst 0, 1) := by decide +kernel
theorem dX10_begin_6 : decode cX10_begin 6 = .ok (.istore_n 1, 1) := by decide +kernel
theorem dX10_begin_7 : decode cX10_begin 7 = .ok (.iload_n 1, 1) := by decide +kernel
theorem dX10_begin_8 : decode cX10_begin 8 = .ok (.bipush 40, 2) := by decide +kernel
theorem dX10_begin_10 : decode cX10_begin 10 = .ok (.if_icmp .ge 26, 3) := by decide +kernel
theorem dX10_begin_13 : decode cX10_begin 13 = .ok (.aload_n 0, 1) := by decide +kernel
theorem dX10_begin_14 : decode cX10_begin 14 = .ok (.getfield 26, 3) := by decide +kernel
theorem dX10_begin_17 : decode cX10_begin 17 = .ok (.iload_n 1, 1) := by decide +kernel
theorem dX10_begin_18 : decode cX10_begin 18 = .ok (.aload_n 0, 1) := by decide +kernel
theorem dX10_begin_19 : decode cX10_begin 19 = .ok (.getfield 16, 3) := by decide +kernel
theorem dX10_begin_22 : decode cX10_begin 22 = .ok (.iastore, 1) := by decide +kernel
theorem dX10_begin_23 : decode cX10_begin 23 = .ok (.aload_n 0, 1) := by decide +kernel
theorem dX10_begin_24 : decode cX10_begin 24 = .ok (.getfield 29, 3) := by decide +kernel
theorem dX10_begin_27 : decode cX10_begin 27 = .ok (.iload_n 1, 1) := by decide +kernel
theorem dX10_begin_28 : decode cX10_begin 28 = .ok (.iconst 0, 1) := by decide +kernel
theorem dX10_begin_29 : decode cX10_begin 29 = .ok (.iastore, 1) := by decide +kernel
theorem dX10_begin_30 : decode cX10_begin 30 = .ok (.iinc 1 1, 3) := by decide +kernel
theorem dX10_begin_33 : decode cX10_begin 33 = .ok (.goto (-26), 3) := by decide +kernel
theorem dX10_begin_36 : decode cX10_begin 36 = .ok (.aload_n 0, 1) := by decide +kernel
theorem dX10_begin_37 : decode cX10_begin 37 = .ok (.getfield 32, 3) := by decide +kernel
theorem dX10_begin_40 : decode cX10_begin 40 = .ok (.iconst 0, 1) := by decide +kernel
theorem dX10_begin_41 : decode cX10_begin 41 = .ok (.iconst 0, 1) := by decide +kernel
theorem dX10_begin_42 : decode cX10_begin 42 = .ok (.iastore, 1) := by decide +kernel
theorem dX10_begin_43 : decode cX10_begin 43 = .ok (.aload_n 0, 1) := by decide +kernel
theorem dX10_begin_44 : decode cX10_begin 44 = .ok (.getfield 32, 3) := by decide +kernel
theorem dX10_begin_47 : decode cX10_begin 47 = .ok (.iconst 1, 1) := by decide +kernel
theorem dX10_begin_48 : decode cX10_begin 48 = .ok (.iconst 0, 1) := by decide +kernel
theorem dX10_begin_49 : decode cX10_begin 49 = .ok (.iastore, 1) := by decide +kernel
theorem dX10_begin_50 : decode cX10_begin 50 = .ok (.return_, 1) := by decide +kernel
theorem dX10_cup_0 : decode cX10_cup 0 = .ok (.aload_n 0, 1) := by decide +kernel
theorem dX10_cup_1 : decode cX10_cup 1 = .ok (.iconst 0, 1) := by decide +kernel
theorem dX10_cup_2 : decode cX10_cup 2 = .ok (.putfield 142, 3) := by decide +kernel
theorem dX10_cup_5 : decode cX10_cup 5 = .ok (.iload_n 1, 1) := by decide +kernel
theorem dX10_cup_6 : decode cX10_cup 6 = .ok (.iconst 2, 1) := by decide +kernel
theorem dX10_cup_7 : decode cX10_cup 7 = .ok (.bipush 20, 2) := by decide +kernel
theorem dX10_cup_9 : decode cX10_cup 9 = .ok (.invokestatic 151, 3) := by decide +kernel
theorem dX10_cup_12 : decode cX10_cup 12 = .ok (.ifCond .eq 23, 3) := by decide +kernel
theorem dX10_cup_15 : decode cX10_cup 15 = .ok (.iload_n 2, 1) := by decide +kernel
theorem dX10_cup_16 : decode cX10_cup 16 = .ok (.iconst 1, 1) := by decide +kernel
theorem dX10_cup_17 : decode cX10_cup 17 = .ok (.sipush 999, 3) := by decide +kernel
theorem dX10_cup_20 : decode cX10_cup 20 = .ok (.invokestatic 151, 3) := by decide +kernel
theorem dX10_cup_23 : decode cX10_cup 23 = .ok (.ifCond .eq 12, 3) := by decide +kernel
theorem dX10_cup_26 : decode cX10_cup 26 = .ok (.iload_n 3, 1) := by decide +kernel
theorem dX10_cup_27 : decode cX10_cup 27 = .ok (.iconst 0, 1) := by decide +kernel
theorem dX10_cup_28 : decode cX10_cup 28 = .ok (.iload_n 2, 1) := by decide +kernel
theorem dX10_cup_29 : decode cX10_cup 29 = .ok (.invokestatic 151, 3) := by decide +kernel
theorem dX10_cup_32 : decode cX10_cup 32 = .ok (.ifCond .ne 5, 3) := by decide +kernel
theorem dX10_cup_35 : decode cX10_cup 35 = .ok (.iconst 0, 1) := by decide +kernel
theorem dX10_cup_36 : decode cX10_cup 36 = .ok (.ireturn, 1) := by decide +kernel
theorem dX10_cup_37 : decode cX10_cup 37 = .ok (.aload_n 0, 1) := by decide +kernel
theorem dX10_cup_38 : decode cX10_cup 38 = .ok (.iload_n 1, 1) := by decide +kernel
theorem dX10_cup_39 : decode cX10_cup 39 = .ok (.putfield 9, 3) := by decide +kernel
theorem dX10_cup_42 : decode cX10_cup 42 = .ok (.aload_n 0, 1) := by decide +kernel
theorem dX10_cup_43 : decode cX10_cup 43 = .ok (.iload_n 2, 1) := by decide +kernel
theorem dX10_cup_44 : decode cX10_cup 44 = .ok (.putfield 13, 3) := by decide +kernel
theorem dX10_cup_47 : decode cX10_cup 47 = .ok (.aload_n 0, 1) := by decide +kernel
theorem dX10_cup_48 : decode cX10_cup 48 = .ok (.iload_n 3, 1) := by decide +kernel
theorem dX10_cup_49 : decode cX10_cup 49 = .ok (.putfield 16, 3) := by decide +kernel
theorem dX10_cup_52 : decode cX10_cup 52 = .ok (.iconst 0, 1) := by decide +kernel
theorem dX10_cup_53 : decode cX10_cup 53 = .ok (.istore 4, 2) := by decide +kernel
theorem dX10_cup_55 : decode cX10_cup 55 = .ok (.iload 4, 2) := by decide +kernel
theorem dX10_cup_57 : decode cX10_cup 57 = .ok (.bipush 20, 2) := by decide +kernel
theorem dX10_cup_59 : decode cX10_cup 59 = .ok (.if_icmp .ge 18, 3) := by decide +kernel
theorem dX10_cup_62 : decode cX10_cup 62 = .ok (.aload_n 0, 1) := by decide +kernel
theorem dX10_cup_63 : decode cX10_cup 63 = .ok (.getfield 23, 3) := by decide +kernel
theorem dX10_cup_66 : decode cX10_cup 66 = .ok (.iload 4, 2) := by decide +kernel
theorem dX10_cup_68 : decode cX10_cup 68 = .ok (.bipush 100, 2) := by decide +kernel
theorem dX10_cup_70 : decode cX10_cup 70 = .ok (.iastore, 1) := by decide +kernel
theorem dX10_cup_71 : decode cX10_cup 71 = .ok (.iinc 4 1, 3) := by decide +kernel
theorem dX10_cup_74 : decode cX10_cup 74 = .ok (.goto (-19), 3) := by decide +kernel
theorem dX10_cup_77 : decode cX10_cup 77 = .ok (.aload_n 0, 1) := by decide +kernel
theorem dX10_cup_78 : decode cX10_cup 78 = .ok (.invokevirtual 139, 3) := by decide +kernel
theorem dX10_cup_81 : decode cX10_cup 81 = .ok (.aload_n 0, 1) := by decide +kernel
theorem dX10_cup_82 : decode cX10_cup 82 = .ok (.dup, 1) := by decide +kernel
theorem dX10_cup_83 : decode cX10_cup 83 = .ok (.getfield 155, 3) := by decide +kernel
theorem dX10_cup_86 : decode cX10_cup 86 = .ok (.iconst 1, 1) := by decide +kernel
theorem dX10_cup_87 : decode cX10_cup 87 = .ok (.iadd, 1) := by decide +kernel
theorem dX10_cup_88 : decode cX10_cup 88 = .ok (.putfield 155, 3) := by decide +kernel
theorem dX10_cup_91 : decode cX10_cup 91 = .ok (.iconst 1, 1) := by decide +kernel
theorem dX10_cup_92 : decode cX10_cup 92 = .ok (.ireturn, 1) := by decide +kernel
theorem dX10_set_0 : decode cX10_set 0 = .ok (.aload_n 0, 1) := by decide +kernel
theorem dX10_set_1 : decode cX10_set 1 = .ok (.iconst 0, 1) := by decide +kernel
theorem dX10_set_2 : decode cX10_set 2 = .ok (.putfield 142, 3) := by decide +kernel
theorem dX10_set_5 : decode cX10_set 5 = .ok (.iload_n 1, 1) := by decide +kernel
theorem dX10_set_6 : decode cX10_set 6 = .ok (.ifCond .ne 7, 3) := by decide +kernel
theorem dX10_set_9 : decode cX10_set 9 = .ok (.iconst 1, 1) := by decide +kernel
theorem dX10_set_10 : decode cX10_set 10 = .ok (.goto 4, 3) := by decide +kernel
theorem dX10_set_13 : decode cX10_set 13 = .ok (.iconst 0, 1) := by decide +kernel
theorem dX10_set_14 : decode cX10_set 14 = .ok (.istore_n 3, 1) := by decide +kernel
theorem dX10_set_15 : decode cX10_set 15 = .ok (.iload_n 1, 1) := by decide +kernel
theorem dX10_set_16 : decode cX10_set 16 = .ok (.ifCond .ne 8, 3) := by decide +kernel
theorem dX10_set_19 : decode cX10_set 19 = .ok (.bipush 16, 2) := by decide +kernel
theorem dX10_set_21 : decode cX10_set 21 = .ok (.goto 45, 3) := by decide +kernel
theorem dX10_set_24 : decode cX10_set 24 = .ok (.iload_n 1, 1) := by decide +kernel
theorem dX10_set_25 : decode cX10_set 25 = .ok (.iconst 1, 1) := by decide +kernel
theorem dX10_set_26 : decode cX10_set 26 = .ok (.if_icmp .ne 8, 3) := by decide +kernel
theorem dX10_set_29 : decode cX10_set 29 = .ok (.bipush 50, 2) := by decide +kernel
theorem dX10_set_31 : decode cX10_set 31 = .ok (.goto 35, 3) := by decide +kernel
theorem dX10_set_34 : decode cX10_set 34 = .ok (.iload_n 1, 1) := by decide +kernel
theorem dX10_set_35 : decode cX10_set 35 = .ok (.iconst 2, 1) := by decide +kernel
theorem dX10_set_36 : decode cX10_set 36 = .ok (.if_icmp .ne 8, 3) := by decide +kernel
theorem dX10_set_39 : decode cX10_set 39 = .ok (.bipush 9, 2) := by decide +kernel
theorem dX10_set_41 : decode cX10_set 41 = .ok (.goto 25, 3) := by decide +kernel
theorem dX10_set_44 : decode cX10_set 44 = .ok (.iload_n 1, 1) := by decide +kernel
theorem dX10_set_45 : decode cX10_set 45 = .ok (.iconst 4, 1) := by decide +kernel
theorem dX10_set_46 : decode cX10_set 46 = .ok (.if_icmp .ne 8, 3) := by decide +kernel
theorem dX10_set_49 : decode cX10_set 49 = .ok (.bipush 100, 2) := by decide +kernel
theorem dX10_set_51 : decode cX10_set 51 = .ok (.goto 15, 3) := by decide +kernel
theorem dX10_set_54 : decode cX10_set 54 = .ok (.iload_n 1, 1) := by decide +kernel
theorem dX10_set_55 : decode cX10_set 55 = .ok (.bipush 6, 2) := by decide +kernel
theorem dX10_set_57 : decode cX10_set 57 = .ok (.if_icmp .ne 7, 3) := by decide +kernel
theorem dX10_set_60 : decode cX10_set 60 = .ok (.iconst 3, 1) := by decide +kernel
theorem dX10_set_61 : decode cX10_set 61 = .ok (.goto 5, 3) := by decide +kernel
theorem dX10_set_64 : decode cX10_set 64 = .ok (.bipush 20, 2) := by decide +kernel
theorem dX10_set_66 : decode cX10_set 66 = .ok (.istore 4, 2) := by decide +kernel
theorem dX10_set_68 : decode cX10_set 68 = .ok (.iload_n 1, 1) := by decide +kernel
theorem dX10_set_69 : decode cX10_set 69 = .ok (.iconst 0, 1) := by decide +kernel
theorem dX10_set_70 : decode cX10_set 70 = .ok (.bipush 6, 2) := by decide +kernel
theorem dX10_set_72 : decode cX10_set 72 = .ok (.invokestatic 151, 3) := by decide +kernel
theorem dX10_set_75 : decode cX10_set 75 = .ok (.ifCond .eq 13, 3) := by decide +kernel
theorem dX10_set_78 : decode cX10_set 78 = .ok (.iload_n 2, 1) := by decide +kernel
theorem dX10_set_79 : decode cX10_set 79 = .ok (.iload_n 3, 1) := by decide +kernel
theorem dX10_set_80 : decode cX10_set 80 = .ok (.iload 4, 2) := by decide +kernel
theorem dX10_set_82 : decode cX10_set 82 = .ok (.invokestatic 151, 3) := by decide +kernel
theorem dX10_set_85 : decode cX10_set 85 = .ok (.ifCond .ne 5, 3) := by decide +kernel
theorem dX10_set_88 : decode cX10_set 88 = .ok (.iconst (-1), 1) := by decide +kernel
theorem dX10_set_89 : decode cX10_set 89 = .ok (.ireturn, 1) := by decide +kernel
theorem dX10_set_90 : decode cX10_set 90 = .ok (.aload_n 0, 1) := by decide +kernel
theorem dX10_set_91 : decode cX10_set 91 = .ok (.getfield 19, 3) := by decide +kernel
theorem dX10_set_94 : decode cX10_set 94 = .ok (.iload_n 1, 1) := by decide +kernel
theorem dX10_set_95 : decode cX10_set 95 = .ok (.iaload, 1) := by decide +kernel
theorem dX10_set_96 : decode cX10_set 96 = .ok (.istore 5, 2) := by decide +kernel
theorem dX10_set_98 : decode cX10_set 98 = .ok (.aload_n 0, 1) := by decide +kernel
theorem dX10_set_99 : decode cX10_set 99 = .ok (.getfield 19, 3) := by decide +kernel
theorem dX10_set_102 : decode cX10_set 102 = .ok (.iload_n 1, 1) := by decide +kernel
theorem dX10_set_103 : decode cX10_set 103 = .ok (.iload_n 2, 1) := by decide +kernel
theorem dX10_set_104 : decode cX10_set 104 = .ok (.iastore, 1) := by decide +kernel
theorem dX10_set_105 : decode cX10_set 105 = .ok (.iload 5, 2) := by decide +kernel
theorem dX10_set_107 : decode cX10_set 107 = .ok (.ireturn, 1) := by decide +kernel
theorem dX10_isGap_0 : decode cX10_isGap 0 = .ok (.iload_n 1, 1) := by decide +kernel
theorem dX10_isGap_1 : decode cX10_isGap 1 = .ok (.iconst 0, 1) := by decide +kernel
theorem dX10_isGap_2 : decode cX10_isGap 2 = .ok (.aload_n 0, 1) := by decide +kernel
theorem dX10_isGap_3 : decode cX10_isGap 3 = .ok (.getfield 9, 3) := by decide +kernel
theorem dX10_isGap_6 : decode cX10_isGap 6 = .ok (.iconst 2, 1) := by decide +kernel
theorem dX10_isGap_7 : decode cX10_isGap 7 = .ok (.isub, 1) := by decide +kernel
theorem dX10_isGap_8 : decode cX10_isGap 8 = .ok (.invokestatic 151, 3) := by decide +kernel
theorem dX10_isGap_11 : decode cX10_isGap 11 = .ok (.ireturn, 1) := by decide +kernel
theorem dX10_wall_0 : decode cX10_wall 0 = .ok (.aload_n 0, 1) := by decide +kernel
theorem dX10_wall_1 : decode cX10_wall 1 = .ok (.iconst 0, 1) := by decide +kernel
theorem dX10_wall_2 : decode cX10_wall 2 = .ok (.putfield 142, 3) := by decide +kernel
theorem dX10_wall_5 : decode cX10_wall 5 = .ok (.aload_n 0, 1) := by decide +kernel
theorem dX10_wall_6 : decode cX10_wall 6 = .ok (.iload_n 1, 1) := by decide +kernel
theorem dX10_wall_7 : decode cX10_wall 7 = .ok (.invokevirtual 158, 3) := by decide +kernel
theorem dX10_wall_10 : decode cX10_wall 10 = .ok (.ifCond .eq 13, 3) := by decide +kernel
theorem dX10_wall_13 : decode cX10_wall 13 = .ok (.iload_n 2, 1) := by decide +kernel
theorem dX10_wall_14 : decode cX10_wall 14 = .ok (.iconst 0, 1) := by decide +kernel
theorem dX10_wall_15 : decode cX10_wall 15 = .ok (.bipush 100, 2) := by decide +kernel
theorem dX10_wall_17 : decode cX10_wall 17 = .ok (.invokestatic 151, 3) := by decide +kernel
theorem dX10_wall_20 : decode cX10_wall 20 = .ok (.ifCond .ne 5, 3) := by decide +kernel
theorem dX10_wall_23 : decode cX10_wall 23 = .ok (.iconst (-1), 1) := by decide +kernel
theorem dX10_wall_24 : decode cX10_wall 24 = .ok (.ireturn, 1) := by decide +kernel
theorem dX10_wall_25 : decode cX10_wall 25 = .ok (.aload_n 0, 1) := by decide +kernel
theorem dX10_wall_26 : decode cX10_wall 26 = .ok (.getfield 23, 3) := by decide +kernel
theorem dX10_wall_29 : decode cX10_wall 29 = .ok (.iload_n 1, 1) := by decide +kernel
theorem dX10_wall_30 : decode cX10_wall 30 = .ok (.iaload, 1) := by decide +kernel
theorem dX10_wall_31 : decode cX10_wall 31 = .ok (.istore_n 3, 1) := by decide +kernel
theorem dX10_wall_32 : decode cX10_wall 32 = .ok (.aload_n 0, 1) := by decide +kernel
theorem dX10_wall_33 : decode cX10_wall 33 = .ok (.getfield 23, 3) := by decide +kernel
theorem dX10_wall_36 : decode cX10_wall 36 = .ok (.iload_n 1, 1) := by decide +kernel
theorem dX10_wall_37 : decode cX10_wall 37 = .ok (.iload_n 2, 1) := by decide +kernel
theorem dX10_wall_38 : decode cX10_wall 38 = .ok (.iastore, 1) := by decide +kernel
theorem dX10_wall_39 : decode cX10_wall 39 = .ok (.iload_n 3, 1) := by decide +kernel
theorem dX10_wall_40 : decode cX10_wall 40 = .ok (.ireturn, 1) := by decide +kernel
theorem dX10_sheet_0 : decode cX10_sheet 0 = .ok (.aload_n 0, 1) := by decide +kernel
theorem dX10_sheet_1 : decode cX10_sheet 1 = .ok (.iconst 0, 1) := by decide +kernel
theorem dX10_sheet_2 : decode cX10_sheet 2 = .ok (.putfield 142, 3) := by decide +kernel
theorem dX10_sheet_5 : decode cX10_sheet 5 = .ok (.iload_n 1, 1) := by decide +kernel
theorem dX10_sheet_6 : decode cX10_sheet 6 = .ok (.iconst 0, 1) := by decide +kernel
theorem dX10_sheet_7 : decode cX10_sheet 7 = .ok (.iconst 3, 1) := by decide +kernel
theorem dX10_sheet_8 : decode cX10_sheet 8 = .ok (.invokestatic 151, 3) := by decide +kernel
theorem dX10_sheet_11 : decode cX10_sheet 11 = .ok (.ifCond .eq 13, 3) := by decide +kernel
theorem dX10_sheet_14 : decode cX10_sheet 14 = .ok (.iload_n 2, 1) := by decide +kernel
theorem dX10_sheet_15 : decode cX10_sheet 15 = .ok (.aload_n 0, 1) := by decide +kernel
theorem dX10_sheet_16 : decode cX10_sheet 16 = .ok (.getfield 9, 3) := by decide +kernel
theorem dX10_sheet_19 : decode cX10_sheet 19 = .ok (.iconst 1, 1) := by decide +kernel
theorem dX10_sheet_20 : decode cX10_sheet 20 = .ok (.isub, 1) := by decide +kernel
theorem dX10_sheet_21 : decode cX10_sheet 21 = .ok (.if_icmp .le 5, 3) := by decide +kernel
theorem dX10_sheet_24 : decode cX10_sheet 24 = .ok (.iconst (-1), 1) := by decide +kernel
theorem dX10_sheet_25 : decode cX10_sheet 25 = .ok (.ireturn, 1) := by decide +kernel
theorem dX10_sheet_26 : decode cX10_sheet 26 = .ok (.iload_n 1, 1) := by decide +kernel
theorem dX10_sheet_27 : decode cX10_sheet 27 = .ok (.iconst 3, 1) := by decide +kernel
theorem dX10_sheet_28 : decode cX10_sheet 28 = .ok (.if_icmp .ge 10, 3) := by decide +kernel
theorem dX10_sheet_31 : decode cX10_sheet 31 = .ok (.iload_n 2, 1) := by decide +kernel
theorem dX10_sheet_32 : decode cX10_sheet 32 = .ok (.ifCond .ge 6, 3) := by decide +kernel
theorem dX10_sheet_35 : decode cX10_sheet 35 = .ok (.bipush (-2), 2) := by decide +kernel
theorem dX10_sheet_37 : decode cX10_sheet 37 = .ok (.ireturn, 1) := by decide +kernel
theorem dX10_sheet_38 : decode cX10_sheet 38 = .ok (.iconst 0, 1) := by decide +kernel
theorem dX10_sheet_39 : decode cX10_sheet 39 = .ok (.istore 5, 2) := by decide +kernel
theorem dX10_sheet_41 : decode cX10_sheet 41 = .ok (.iload_n 3, 1) := by decide +kernel
theorem dX10_sheet_42 : decode cX10_sheet 42 = .ok (.istore 6, 2) := by decide +kernel
theorem dX10_sheet_44 : decode cX10_sheet 44 = .ok (.iconst 0, 1) := by decide +kernel
theorem dX10_sheet_45 : decode cX10_sheet 45 = .ok (.istore 7, 2) := by decide +kernel
theorem dX10_sheet_47 : decode cX10_sheet 47 = .ok (.iload 7, 2) := by decide +kernel
theorem dX10_sheet_49 : decode cX10_sheet 49 = .ok (.aload_n 0, 1) := by decide +kernel
theorem dX10_sheet_50 : decode cX10_sheet 50 = .ok (.getfield 9, 3) := by decide +kernel
theorem dX10_sheet_53 : decode cX10_sheet 53 = .ok (.iconst 1, 1) := by decide +kernel
theorem dX10_sheet_54 : decode cX10_sheet 54 = .ok (.isub, 1) := by decide +kernel
theorem dX10_sheet_55 : decode cX10_sheet 55 = .ok (.if_icmp .ge 87, 3) := by decide +kernel
theorem dX10_sheet_58 : decode cX10_sheet 58 = .ok (.iload_n 1, 1) := by decide +kernel
theorem dX10_sheet_59 : decode cX10_sheet 59 = .ok (.ifCond .ne 9, 3) := by decide +kernel
theorem dX10_sheet_62 : decode cX10_sheet 62 = .ok (.iload 6, 2) := by decide +kernel
theorem dX10_sheet_64 : decode cX10_sheet 64 = .ok (.i2b, 1) := by decide +kernel
theorem dX10_sheet_65 : decode cX10_sheet 65 = .ok (.goto 16, 3) := by decide +kernel
theorem dX10_sheet_68 : decode cX10_sheet 68 = .ok (.iload_n 1, 1) := by decide +kernel
theorem dX10_sheet_69 : decode cX10_sheet 69 = .ok (.iconst 1, 1) := by decide +kernel
theorem dX10_sheet_70 : decode cX10_sheet 70 = .ok (.if_icmp .ne 9, 3) := by decide +kernel
theorem dX10_sheet_73 : decode cX10_sheet 73 = .ok (.iload 6, 2) := by decide +kernel
theorem dX10_sheet_75 : decode cX10_sheet 75 = .ok (.i2s, 1) := by decide +kernel
theorem dX10_sheet_76 : decode cX10_sheet 76 = .ok (.goto 5, 3) := by decide +kernel
theorem dX10_sheet_79 : decode cX10_sheet 79 = .ok (.iload 6, 2) := by decide +kernel
theorem dX10_sheet_81 : decode cX10_sheet 81 = .ok (.istore 8, 2) := by decide +kernel
theorem dX10_sheet_83 : decode cX10_sheet 83 = .ok (.aload_n 0, 1) := by decide +kernel
theorem dX10_sheet_84 : decode cX10_sheet 84 = .ok (.getfield 23, 3) := by decide +kernel
theorem dX10_sheet_87 : decode cX10_sheet 87 = .ok (.iload 7, 2) := by decide +kernel
theorem dX10_sheet_89 : decode cX10_sheet 89 = .ok (.iload_n 1, 1) := by decide +kernel
theorem dX10_sheet_90 : decode cX10_sheet 90 = .ok (.iconst 3, 1) := by decide +kernel
theorem dX10_sheet_91 : decode cX10_sheet 91 = .ok (.if_icmp .eq 9, 3) := by decide +kernel
theorem dX10_sheet_94 : decode cX10_sheet 94 = .ok (.iload 7, 2) := by decide +kernel
theorem dX10_sheet_96 : decode cX10_sheet 96 = .ok (.iload_n 2, 1) := by decide +kernel
theorem dX10_sheet_97 : decode cX10_sheet 97 = .ok (.if_icmp .lt 8, 3) := by decide +kernel
theorem dX10_sheet_100 : decode cX10_sheet 100 = .ok (.bipush 100, 2) := by decide +kernel
theorem dX10_sheet_102 : decode cX10_sheet 102 = .ok (.goto 14, 3) := by decide +kernel
theorem dX10_sheet_105 : decode cX10_sheet 105 = .ok (.iconst 0, 1) := by decide +kernel
theorem dX10_sheet_106 : decode cX10_sheet 106 = .ok (.bipush 100, 2) := by decide +kernel
theorem dX10_sheet_108 : decode cX10_sheet 108 = .ok (.iload 8, 2) := by decide +kernel
theorem dX10_sheet_110 : decode cX10_sheet 110 = .ok (.invokestatic 162, 3) := by decide +kernel
theorem dX10_sheet_113 : decode cX10_sheet 113 = .ok (.invokestatic 168, 3) := by decide +kernel
theorem dX10_sheet_116 : decode cX10_sheet 116 = .ok (.iastore, 1) := by decide +kernel
theorem dX10_sheet_117 : decode cX10_sheet 117 = .ok (.iload 5, 2) := by decide +kernel
theorem dX10_sheet_119 : decode cX10_sheet 119 = .ok (.aload_n 0, 1) := by decide +kernel
theorem dX10_sheet_120 : decode cX10_sheet 120 = .ok (.getfield 23, 3) := by decide +kernel
theorem dX10_sheet_123 : decode cX10_sheet 123 = .ok (.iload 7, 2) := by decide +kernel
theorem dX10_sheet_125 : decode cX10_sheet 125 = .ok (.iaload, 1) := by decide +kernel
theorem dX10_sheet_126 : decode cX10_sheet 126 = .ok (.iadd, 1) := by decide +kernel
theorem dX10_sheet_127 : decode cX10_sheet 127 = .ok (.istore 5, 2) := by decide +kernel
theorem dX10_sheet_129 : decode cX10_sheet 129 = .ok (.iload 6, 2) := by decide +kernel
theorem dX10_sheet_131 : decode cX10_sheet 131 = .ok (.iload 4, 2) := by decide +kernel
theorem dX10_sheet_133 : decode cX10_sheet 133 = .ok (.iadd, 1) := by decide +kernel
theorem dX10_sheet_134 : decode cX10_sheet 134 = .ok (.istore 6, 2) := by decide +kernel
theorem dX10_sheet_136 : decode cX10_sheet 136 = .ok (.iinc 7 1, 3) := by decide +kernel
theorem dX10_sheet_139 : decode cX10_sheet 139 = .ok (.goto (-92), 3) := by decide +kernel
theorem dX10_sheet_142 : decode cX10_sheet 142 = .ok (.iload_n 1, 1) := by decide +kernel
theorem dX10_sheet_143 : decode cX10_sheet 143 = .ok (.iconst 3, 1) := by decide +kernel
theorem dX10_sheet_144 : decode cX10_sheet 144 = .ok (.if_icmp .ne 8, 3) := by decide +kernel
theorem dX10_sheet_147 : decode cX10_sheet 147 = .ok (.bipush (-3), 2) := by decide +kernel
theorem dX10_sheet_149 : decode cX10_sheet 149 = .ok (.goto 5, 3) := by decide +kernel
theorem dX10_sheet_152 : decode cX10_sheet 152 = .ok (.iload 5, 2) := by decide +kernel
theorem dX10_sheet_154 : decode cX10_sheet 154 = .ok (.ireturn, 1) := by decide +kernel
theorem dX10_fresh_0 : decode cX10_fresh 0 = .ok (.aload_n 0, 1) := by decide +kernel
theorem dX10_fresh_1 : decode cX10_fresh 1 = .ok (.iconst 0, 1) := by decide +kernel
theorem dX10_fresh_2 : decode cX10_fresh 2 = .ok (.putfield 142, 3) := by decide +kernel
theorem dX10_fresh_5 : decode cX10_fresh 5 = .ok (.aload_n 0, 1) := by decide +kernel
theorem dX10_fresh_6 : decode cX10_fresh 6 = .ok (.getfield 148, 3) := by decide +kernel
theorem dX10_fresh_9 : decode cX10_fresh 9 = .ok (.istore_n 1, 1) := by decide +kernel
theorem dX10_fresh_10 : decode cX10_fresh 10 = .ok (.aload_n 0, 1) := by decide +kernel
theorem dX10_fresh_11 : decode cX10_fresh 11 = .ok (.invokevirtual 139, 3) := by decide +kernel
theorem dX10_fresh_14 : decode cX10_fresh 14 = .ok (.iload_n 1, 1) := by decide +kernel
theorem dX10_fresh_15 : decode cX10_fresh 15 = .ok (.ireturn, 1) := by decide +kernel
theorem dX10_lean_0 : decode cX10_lean 0 = .ok (.iconst 0, 1) := by decide +kernel
theorem dX10_lean_1 : decode cX10_lean 1 = .ok (.istore_n 3, 1) := by decide +kernel
theorem dX10_lean_2 : decode cX10_lean 2 = .ok (.iload_n 3, 1) := by decide +kernel
theorem dX10_lean_3 : decode cX10_lean 3 = .ok (.aload_n 0, 1) := by decide +kernel
theorem dX10_lean_4 : decode cX10_lean 4 = .ok (.getfield 9, 3) := by decide +kernel
theorem dX10_lean_7 : decode cX10_lean 7 = .ok (.if_icmp .ge 71, 3) := by decide +kernel
theorem dX10_lean_10 : decode cX10_lean 10 = .ok (.aload_n 0, 1) := by decide +kernel
theorem dX10_lean_11 : decode cX10_lean 11 = .ok (.getfield 16, 3) := by decide +kernel
theorem dX10_lean_14 : decode cX10_lean 14 = .ok (.iload_n 2, 1) := by decide +kernel
theorem dX10_lean_15 : decode cX10_lean 15 = .ok (.aload_n 0, 1) := by decide +kernel
theorem dX10_lean_16 : decode cX10_lean 16 = .ok (.getfield 9, 3) := by decide +kernel
theorem dX10_lean_19 : decode cX10_lean 19 = .ok (.iconst 1, 1) := by decide +kernel
theorem dX10_lean_20 : decode cX10_lean 20 = .ok (.isub, 1) := by decide +kernel
theorem dX10_lean_21 : decode cX10_lean 21 = .ok (.iconst 2, 1) := by decide +kernel
theorem dX10_lean_22 : decode cX10_lean 22 = .ok (.iload_n 3, 1) := by decide +kernel
theorem dX10_lean_23 : decode cX10_lean 23 = .ok (.imul, 1) := by decide +kernel
theorem dX10_lean_24 : decode cX10_lean 24 = .ok (.isub, 1) := by decide +kernel
theorem dX10_lean_25 : decode cX10_lean 25 = .ok (.imul, 1) := by decide +kernel
theorem dX10_lean_26 : decode cX10_lean 26 = .ok (.aload_n 0, 1) := by decide +kernel
theorem dX10_lean_27 : decode cX10_lean 27 = .ok (.getfield 9, 3) := by decide +kernel
theorem dX10_lean_30 : decode cX10_lean 30 = .ok (.iconst 1, 1) := by decide +kernel
theorem dX10_lean_31 : decode cX10_lean 31 = .ok (.isub, 1) := by decide +kernel
theorem dX10_lean_32 : decode cX10_lean 32 = .ok (.idiv, 1) := by decide +kernel
theorem dX10_lean_33 : decode cX10_lean 33 = .ok (.iadd, 1) := by decide +kernel
theorem dX10_lean_34 : decode cX10_lean 34 = .ok (.istore 4, 2) := by decide +kernel
theorem dX10_lean_36 : decode cX10_lean 36 = .ok (.aload_n 0, 1) := by decide +kernel
theorem dX10_lean_37 : decode cX10_lean 37 = .ok (.getfield 26, 3) := by decide +kernel
theorem dX10_lean_40 : decode cX10_lean 40 = .ok (.bipush 20, 2) := by decide +kernel
theorem dX10_lean_42 : decode cX10_lean 42 = .ok (.iload_n 1, 1) := by decide +kernel
theorem dX10_lean_43 : decode cX10_lean 43 = .ok (.imul, 1) := by decide +kernel
theorem dX10_lean_44 : decode cX10_lean 44 = .ok (.iload_n 3, 1) := by decide +kernel
theorem dX10_lean_45 : decode cX10_lean 45 = .ok (.iadd, 1) := by decide +kernel
theorem dX10_lean_46 : decode cX10_lean 46 = .ok (.iconst 0, 1) := by decide +kernel
theorem dX10_lean_47 : decode cX10_lean 47 = .ok (.aload_n 0, 1) := by decide +kernel
theorem dX10_lean_48 : decode cX10_lean 48 = .ok (.getfield 13, 3) := by decide +kernel
theorem dX10_lean_51 : decode cX10_lean 51 = .ok (.iload 4, 2) := by decide +kernel
theorem dX10_lean_53 : decode cX10_lean 53 = .ok (.invokestatic 162, 3) := by decide +kernel
theorem dX10_lean_56 : decode cX10_lean 56 = .ok (.invokestatic 168, 3) := by decide +kernel
theorem dX10_lean_59 : decode cX10_lean 59 = .ok (.iastore, 1) := by decide +kernel
theorem dX10_lean_60 : decode cX10_lean 60 = .ok (.aload_n 0, 1) := by decide +kernel
theorem dX10_lean_61 : decode cX10_lean 61 = .ok (.getfield 29, 3) := by decide +kernel
theorem dX10_lean_64 : decode cX10_lean 64 = .ok (.bipush 20, 2) := by decide +kernel
theorem dX10_lean_66 : decode cX10_lean 66 = .ok (.iload_n 1, 1) := by decide +kernel
theorem dX10_lean_67 : decode cX10_lean 67 = .ok (.imul, 1) := by decide +kernel
theorem dX10_lean_68 : decode cX10_lean 68 = .ok (.iload_n 3, 1) := by decide +kernel
theorem dX10_lean_69 : decode cX10_lean 69 = .ok (.iadd, 1) := by decide +kernel
theorem dX10_lean_70 : decode cX10_lean 70 = .ok (.iconst 0, 1) := by decide +kernel
theorem dX10_lean_71 : decode cX10_lean 71 = .ok (.iastore, 1) := by decide +kernel
theorem dX10_lean_72 : decode cX10_lean 72 = .ok (.iinc 3 1, 3) := by decide +kernel
theorem dX10_lean_75 : decode cX10_lean 75 = .ok (.goto (-73), 3) := by decide +kernel
theorem dX10_lean_78 : decode cX10_lean 78 = .ok (.return_, 1) := by decide +kernel
theorem dX10_tilt_0 : decode cX10_tilt 0 = .ok (.aload_n 0, 1) := by decide +kernel
theorem dX10_tilt_1 : decode cX10_tilt 1 = .ok (.iconst 0, 1) := by decide +kernel
theorem dX10_tilt_2 : decode cX10_tilt 2 = .ok (.putfield 142, 3) := by decide +kernel
theorem dX10_tilt_5 : decode cX10_tilt 5 = .ok (.iload_n 1, 1) := by decide +kernel
theorem dX10_tilt_6 : decode cX10_tilt 6 = .ok (.iconst 0, 1) := by decide +kernel
theorem dX10_tilt_7 : decode cX10_tilt 7 = .ok (.iconst 1, 1) := by decide +kernel
theorem dX10_tilt_8 : decode cX10_tilt 8 = .ok (.invokestatic 151, 3) := by decide +kernel
theorem dX10_tilt_11 : decode cX10_tilt 11 = .ok (.ifCond .eq 16, 3) := by decide +kernel
theorem dX10_tilt_14 : decode cX10_tilt 14 = .ok (.iload_n 2, 1) := by decide +kernel
theorem dX10_tilt_15 : decode cX10_tilt 15 = .ok (.sipush (-500), 3) := by decide +kernel
theorem dX10_tilt_18 : decode cX10_tilt 18 = .ok (.sipush 500, 3) := by decide +kernel
theorem dX10_tilt_21 : decode cX10_tilt 21 = .ok (.invokestatic 151, 3) := by decide +kernel
theorem dX10_tilt_24 : decode cX10_tilt 24 = .ok (.ifCond .ne 5, 3) := by decide +kernel
theorem dX10_tilt_27 : decode cX10_tilt 27 = .ok (.iconst 0, 1) := by decide +kernel
theorem dX10_tilt_28 : decode cX10_tilt 28 = .ok (.ireturn, 1) := by decide +kernel
theorem dX10_tilt_29 : decode cX10_tilt 29 = .ok (.aload_n 0, 1) := by decide +kernel
theorem dX10_tilt_30 : decode cX10_tilt 30 = .ok (.iload_n 1, 1) := by decide +kernel
theorem dX10_tilt_31 : decode cX10_tilt 31 = .ok (.iload_n 2, 1) := by decide +kernel
theorem dX10_tilt_32 : decode cX10_tilt 32 = .ok (.invokevirtual 171, 3) := by decide +kernel
theorem dX10_tilt_35 : decode cX10_tilt 35 = .ok (.iconst 1, 1) := by decide +kernel
theorem dX10_tilt_36 : decode cX10_tilt 36 = .ok (.ireturn, 1) := by decide +kernel
theorem dX10_slope_0 : decode cX10_slope 0 = .ok (.aload_n 0, 1) := by decide +kernel
theorem dX10_slope_1 : decode cX10_slope 1 = .ok (.getfield 26, 3) := by decide +kernel
theorem dX10_slope_4 : decode cX10_slope 4 = .ok (.iconst 0, 1) := by decide +kernel
theorem dX10_slope_5 : decode cX10_slope 5 = .ok (.iaload, 1) := by decide +kernel
theorem dX10_slope_6 : decode cX10_slope 6 = .ok (.aload_n 0, 1) := by decide +kernel
theorem dX10_slope_7 : decode cX10_slope 7 = .ok (.getfield 26, 3) := by decide +kernel
theorem dX10_slope_10 : decode cX10_slope 10 = .ok (.aload_n 0, 1) := by decide +kernel
theorem dX10_slope_11 : decode cX10_slope 11 = .ok (.getfield 9, 3) := by decide +kernel
theorem dX10_slope_14 : decode cX10_slope 14 = .ok (.iconst 1, 1) := by decide +kernel
theorem dX10_slope_15 : decode cX10_slope 15 = .ok (.isub, 1) := by decide +kernel
theorem dX10_slope_16 : decode cX10_slope 16 = .ok (.iaload, 1) := by decide +kernel
theorem dX10_slope_17 : decode cX10_slope 17 = .ok (.isub, 1) := by decide +kernel
theorem dX10_slope_18 : decode cX10_slope 18 = .ok (.ireturn, 1) := by decide +kernel
theorem dX10_flows_0 : decode cX10_flows 0 = .ok (.bipush 100, 2) := by decide +kernel
theorem dX10_flows_2 : decode cX10_flows 2 = .ok (.aload_n 0, 1) := by decide +kernel
theorem dX10_flows_3 : decode cX10_flows 3 = .ok (.getfield 19, 3) := by decide +kernel
theorem dX10_flows_6 : decode cX10_flows 6 = .ok (.iconst 1, 1) := by decide +kernel
theorem dX10_flows_7 : decode cX10_flows 7 = .ok (.iaload, 1) := by decide +kernel
theorem dX10_flows_8 : decode cX10_flows 8 = .ok (.aload_n 0, 1) := by decide +kernel
theorem dX10_flows_9 : decode cX10_flows 9 = .ok (.getfield 19, 3) := by decide +kernel
theorem dX10_flows_12 : decode cX10_flows 12 = .ok (.iconst 2, 1) := by decide +kernel
theorem dX10_flows_13 : decode cX10_flows 13 = .ok (.iaload, 1) := by decide +kernel
theorem dX10_flows_14 : decode cX10_flows 14 = .ok (.aload_n 0, 1) := by decide +kernel
theorem dX10_flows_15 : decode cX10_flows 15 = .ok (.getfield 19, 3) := by decide +kernel
theorem dX10_flows_18 : decode cX10_flows 18 = .ok (.iconst 3, 1) := by decide +kernel
theorem dX10_flows_19 : decode cX10_flows 19 = .ok (.iaload, 1) := by decide +kernel
theorem dX10_flows_20 : decode cX10_flows 20 = .ok (.imul, 1) := by decide +kernel
theorem dX10_flows_21 : decode cX10_flows 21 = .ok (.iadd, 1) := by decide +kernel
theorem dX10_flows_22 : decode cX10_flows 22 = .ok (.invokestatic 162, 3) := by decide +kernel
theorem dX10_flows_25 : decode cX10_flows 25 = .ok (.istore_n 3, 1) := by decide +kernel
theorem dX10_flows_26 : decode cX10_flows 26 = .ok (.iconst 0, 1) := by decide +kernel
theorem dX10_flows_27 : decode cX10_flows 27 = .ok (.istore 4, 2) := by decide +kernel
theorem dX10_flows_29 : decode cX10_flows 29 = .ok (.iload 4, 2) := by decide +kernel
theorem dX10_flows_31 : decode cX10_flows 31 = .ok (.aload_n 0, 1) := by decide +kernel
theorem dX10_flows_32 : decode cX10_flows 32 = .ok (.getfield 9, 3) := by decide +kernel
theorem dX10_flows_35 : decode cX10_flows 35 = .ok (.iconst 1, 1) := by decide +kernel
theorem dX10_flows_36 : decode cX10_flows 36 = .ok (.isub, 1) := by decide +kernel
theorem dX10_flows_37 : decode cX10_flows 37 = .ok (.if_icmp .ge 105, 3) := by decide +kernel
theorem dX10_flows_40 : decode cX10_flows 40 = .ok (.bipush 20, 2) := by decide +kernel
theorem dX10_flows_42 : decode cX10_flows 42 = .ok (.iload_n 1, 1) := by decide +kernel
theorem dX10_flows_43 : decode cX10_flows 43 = .ok (.imul, 1) := by decide +kernel
theorem dX10_flows_44 : decode cX10_flows 44 = .ok (.iload 4, 2) := by decide +kernel
theorem dX10_flows_46 : decode cX10_flows 46 = .ok (.iadd, 1) := by decide +kernel
theorem dX10_flows_47 : decode cX10_flows 47 = .ok (.istore 5, 2) := by decide +kernel
theorem dX10_flows_49 : decode cX10_flows 49 = .ok (.aload_n 0, 1) := by decide +kernel
theorem dX10_flows_50 : decode cX10_flows 50 = .ok (.getfield 29, 3) := by decide +kernel
theorem dX10_flows_53 : decode cX10_flows 53 = .ok (.iload 5, 2) := by decide +kernel
theorem dX10_flows_55 : decode cX10_flows 55 = .ok (.iaload, 1) := by decide +kernel
theorem dX10_flows_56 : decode cX10_flows 56 = .ok (.aload_n 0, 1) := by decide +kernel
theorem dX10_flows_57 : decode cX10_flows 57 = .ok (.getfield 19, 3) := by decide +kernel
theorem dX10_flows_60 : decode cX10_flows 60 = .ok (.iconst 0, 1) := by decide +kernel
theorem dX10_flows_61 : decode cX10_flows 61 = .ok (.iaload, 1) := by decide +kernel
theorem dX10_flows_62 : decode cX10_flows 62 = .ok (.aload_n 0, 1) := by decide +kernel
theorem dX10_flows_63 : decode cX10_flows 63 = .ok (.getfield 26, 3) := by decide +kernel
theorem dX10_flows_66 : decode cX10_flows 66 = .ok (.iload 5, 2) := by decide +kernel
theorem dX10_flows_68 : decode cX10_flows 68 = .ok (.iaload, 1) := by decide +kernel
theorem dX10_flows_69 : decode cX10_flows 69 = .ok (.aload_n 0, 1) := by decide +kernel
theorem dX10_flows_70 : decode cX10_flows 70 = .ok (.getfield 26, 3) := by decide +kernel
theorem dX10_flows_73 : decode cX10_flows 73 = .ok (.iload 5, 2) := by decide +kernel
theorem dX10_flows_75 : decode cX10_flows 75 = .ok (.iconst 1, 1) := by decide +kernel
theorem dX10_flows_76 : decode cX10_flows 76 = .ok (.iadd, 1) := by decide +kernel
theorem dX10_flows_77 : decode cX10_flows 77 = .ok (.iaload, 1) := by decide +kernel
theorem dX10_flows_78 : decode cX10_flows 78 = .ok (.isub, 1) := by decide +kernel
theorem dX10_flows_79 : decode cX10_flows 79 = .ok (.imul, 1) := by decide +kernel
theorem dX10_flows_80 : decode cX10_flows 80 = .ok (.bipush 16, 2) := by decide +kernel
theorem dX10_flows_82 : decode cX10_flows 82 = .ok (.idiv, 1) := by decide +kernel
theorem dX10_flows_83 : decode cX10_flows 83 = .ok (.iadd, 1) := by decide +kernel
theorem dX10_flows_84 : decode cX10_flows 84 = .ok (.iload_n 2, 1) := by decide +kernel
theorem dX10_flows_85 : decode cX10_flows 85 = .ok (.iadd, 1) := by decide +kernel
theorem dX10_flows_86 : decode cX10_flows 86 = .ok (.istore 6, 2) := by decide +kernel
theorem dX10_flows_88 : decode cX10_flows 88 = .ok (.iload 6, 2) := by decide +kernel
theorem dX10_flows_90 : decode cX10_flows 90 = .ok (.iload 6, 2) := by decide +kernel
theorem dX10_flows_92 : decode cX10_flows 92 = .ok (.iload_n 3, 1) := by decide +kernel
theorem dX10_flows_93 : decode cX10_flows 93 = .ok (.imul, 1) := by decide +kernel
theorem dX10_flows_94 : decode cX10_flows 94 = .ok (.bipush 100, 2) := by decide +kernel
theorem dX10_flows_96 : decode cX10_flows 96 = .ok (.idiv, 1) := by decide +kernel
theorem dX10_flows_97 : decode cX10_flows 97 = .ok (.isub, 1) := by decide +kernel
theorem dX10_flows_98 : decode cX10_flows 98 = .ok (.istore 6, 2) := by decide +kernel
theorem dX10_flows_100 : decode cX10_flows 100 = .ok (.iload 6, 2) := by decide +kernel
theorem dX10_flows_102 : decode cX10_flows 102 = .ok (.aload_n 0, 1) := by decide +kernel
theorem dX10_flows_103 : decode cX10_flows 103 = .ok (.getfield 23, 3) := by decide +kernel
theorem dX10_flows_106 : decode cX10_flows 106 = .ok (.iload 4, 2) := by decide +kernel
theorem dX10_flows_108 : decode cX10_flows 108 = .ok (.iaload, 1) := by decide +kernel
theorem dX10_flows_109 : decode cX10_flows 109 = .ok (.imul, 1) := by decide +kernel
theorem dX10_flows_110 : decode cX10_flows 110 = .ok (.bipush 100, 2) := by decide +kernel
theorem dX10_flows_112 : decode cX10_flows 112 = .ok (.idiv, 1) := by decide +kernel
theorem dX10_flows_113 : decode cX10_flows 113 = .ok (.istore 6, 2) := by decide +kernel
theorem dX10_flows_115 : decode cX10_flows 115 = .ok (.aload_n 0, 1) := by decide +kernel
theorem dX10_flows_116 : decode cX10_flows 116 = .ok (.getfield 29, 3) := by decide +kernel
theorem dX10_flows_119 : decode cX10_flows 119 = .ok (.iload 5, 2) := by decide +kernel
theorem dX10_flows_121 : decode cX10_flows 121 = .ok (.sipush (-8000), 3) := by decide +kernel
theorem dX10_flows_124 : decode cX10_flows 124 = .ok (.sipush 8000, 3) := by decide +kernel
theorem dX10_flows_127 : decode cX10_flows 127 = .ok (.iload 6, 2) := by decide +kernel
theorem dX10_flows_129 : decode cX10_flows 129 = .ok (.invokestatic 162, 3) := by decide +kernel
theorem dX10_flows_132 : decode cX10_flows 132 = .ok (.invokestatic 168, 3) := by decide +kernel
theorem dX10_flows_135 : decode cX10_flows 135 = .ok (.iastore, 1) := by decide +kernel
theorem dX10_flows_136 : decode cX10_flows 136 = .ok (.iinc 4 1, 3) := by decide +kernel
theorem dX10_flows_139 : decode cX10_flows 139 = .ok (.goto (-110), 3) := by decide +kernel
theorem dX10_flows_142 : decode cX10_flows 142 = .ok (.iconst 0, 1) := by decide +kernel
theorem dX10_flows_143 : decode cX10_flows 143 = .ok (.istore 4, 2) := by decide +kernel
theorem dX10_flows_145 : decode cX10_flows 145 = .ok (.iload 4, 2) := by decide +kernel
theorem dX10_flows_147 : decode cX10_flows 147 = .ok (.aload_n 0, 1) := by decide +kernel
theorem dX10_flows_148 : decode cX10_flows 148 = .ok (.getfield 9, 3) := by decide +kernel
theorem dX10_flows_151 : decode cX10_flows 151 = .ok (.iconst 1, 1) := by decide +kernel
theorem dX10_flows_152 : decode cX10_flows 152 = .ok (.isub, 1) := by decide +kernel
theorem dX10_flows_153 : decode cX10_flows 153 = .ok (.if_icmp .ge 113, 3) := by decide +kernel
theorem dX10_flows_156 : decode cX10_flows 156 = .ok (.bipush 20, 2) := by decide +kernel
theorem dX10_flows_158 : decode cX10_flows 158 = .ok (.iload_n 1, 1) := by decide +kernel
theorem dX10_flows_159 : decode cX10_flows 159 = .ok (.imul, 1) := by decide +kernel
theorem dX10_flows_160 : decode cX10_flows 160 = .ok (.iload 4, 2) := by decide +kernel
theorem dX10_flows_162 : decode cX10_flows 162 = .ok (.iadd, 1) := by decide +kernel
theorem dX10_flows_163 : decode cX10_flows 163 = .ok (.istore 5, 2) := by decide +kernel
theorem dX10_flows_165 : decode cX10_flows 165 = .ok (.aload_n 0, 1) := by decide +kernel
theorem dX10_flows_166 : decode cX10_flows 166 = .ok (.getfield 29, 3) := by decide +kernel
theorem dX10_flows_169 : decode cX10_flows 169 = .ok (.iload 5, 2) := by decide +kernel
theorem dX10_flows_171 : decode cX10_flows 171 = .ok (.iaload, 1) := by decide +kernel
theorem dX10_flows_172 : decode cX10_flows 172 = .ok (.bipush 8, 2) := by decide +kernel
theorem dX10_flows_174 : decode cX10_flows 174 = .ok (.idiv, 1) := by decide +kernel
theorem dX10_flows_175 : decode cX10_flows 175 = .ok (.istore 6, 2) := by decide +kernel
theorem dX10_flows_177 : decode cX10_flows 177 = .ok (.iload 6, 2) := by decide +kernel
theorem dX10_flows_179 : decode cX10_flows 179 = .ok (.ifCond .le 18, 3) := by decide +kernel
theorem dX10_flows_182 : decode cX10_flows 182 = .ok (.iload 6, 2) := by decide +kernel
theorem dX10_flows_184 : decode cX10_flows 184 = .ok (.aload_n 0, 1) := by decide +kernel
theorem dX10_flows_185 : decode cX10_flows 185 = .ok (.getfield 26, 3) := by decide +kernel
theorem dX10_flows_188 : decode cX10_flows 188 = .ok (.iload 5, 2) := by decide +kernel
theorem dX10_flows_190 : decode cX10_flows 190 = .ok (.iaload, 1) := by decide +kernel
theorem dX10_flows_191 : decode cX10_flows 191 = .ok (.invokestatic 162, 3) := by decide +kernel
theorem dX10_flows_194 : decode cX10_flows 194 = .ok (.goto 19, 3) := by decide +kernel
theorem dX10_flows_197 : decode cX10_flows 197 = .ok (.iload 6, 2) := by decide +kernel
theorem dX10_flows_199 : decode cX10_flows 199 = .ok (.ineg, 1) := by decide +kernel
theorem dX10_flows_200 : decode cX10_flows 200 = .ok (.aload_n 0, 1) := by decide +kernel
theorem dX10_flows_201 : decode cX10_flows 201 = .ok (.getfield 26, 3) := by decide +kernel
theorem dX10_flows_204 : decode cX10_flows 204 = .ok (.iload 5, 2) := by decide +kernel
theorem dX10_flows_206 : decode cX10_flows 206 = .ok (.iconst 1, 1) := by decide +kernel
theorem dX10_flows_207 : decode cX10_flows 207 = .ok (.iadd, 1) := by decide +kernel
theorem dX10_flows_208 : decode cX10_flows 208 = .ok (.iaload, 1) := by decide +kernel
theorem dX10_flows_209 : decode cX10_flows 209 = .ok (.invokestatic 162, 3) := by decide +kernel
theorem dX10_flows_212 : decode cX10_flows 212 = .ok (.ineg, 1) := by decide +kernel
theorem dX10_flows_213 : decode cX10_flows 213 = .ok (.istore 7, 2) := by decide +kernel
theorem dX10_flows_215 : decode cX10_flows 215 = .ok (.aload_n 0, 1) := by decide +kernel
theorem dX10_flows_216 : decode cX10_flows 216 = .ok (.getfield 26, 3) := by decide +kernel
theorem dX10_flows_219 : decode cX10_flows 219 = .ok (.iload 5, 2) := by decide +kernel
theorem dX10_flows_221 : decode cX10_flows 221 = .ok (.dup2, 1) := by decide +kernel
theorem dX10_flows_222 : decode cX10_flows 222 = .ok (.iaload, 1) := by decide +kernel
theorem dX10_flows_223 : decode cX10_flows 223 = .ok (.iload 7, 2) := by decide +kernel
theorem dX10_flows_225 : decode cX10_flows 225 = .ok (.isub, 1) := by decide +kernel
theorem dX10_flows_226 : decode cX10_flows 226 = .ok (.iastore, 1) := by decide +kernel
theorem dX10_flows_227 : decode cX10_flows 227 = .ok (.aload_n 0, 1) := by decide +kernel
theorem dX10_flows_228 : decode cX10_flows 228 = .ok (.getfield 26, 3) := by decide +kernel
theorem dX10_flows_231 : decode cX10_flows 231 = .ok (.iload 5, 2) := by decide +kernel
theorem dX10_flows_233 : decode cX10_flows 233 = .ok (.iconst 1, 1) := by decide +kernel
theorem dX10_flows_234 : decode cX10_flows 234 = .ok (.iadd, 1) := by decide +kernel
theorem dX10_flows_235 : decode cX10_flows 235 = .ok (.dup2, 1) := by decide +kernel
theorem dX10_flows_236 : decode cX10_flows 236 = .ok (.iaload, 1) := by decide +kernel
theorem dX10_flows_237 : decode cX10_flows 237 = .ok (.iload 7, 2) := by decide +kernel
theorem dX10_flows_239 : decode cX10_flows 239 = .ok (.iadd, 1) := by decide +kernel
theorem dX10_flows_240 : decode cX10_flows 240 = .ok (.iastore, 1) := by decide +kernel
theorem dX10_flows_241 : decode cX10_flows 241 = .ok (.iload 7, 2) := by decide +kernel
theorem dX10_flows_243 : decode cX10_flows 243 = .ok (.iload 6, 2) := by decide +kernel
theorem dX10_flows_245 : decode cX10_flows 245 = .ok (.if_icmp .eq 15, 3) := by decide +kernel
theorem dX10_flows_248 : decode cX10_flows 248 = .ok (.aload_n 0, 1) := by decide +kernel
theorem dX10_flows_249 : decode cX10_flows 249 = .ok (.getfield 29, 3) := by decide +kernel
theorem dX10_flows_252 : decode cX10_flows 252 = .ok (.iload 5, 2) := by decide +kernel
theorem dX10_flows_254 : decode cX10_flows 254 = .ok (.bipush 8, 2) := by decide +kernel
theorem dX10_flows_256 : decode cX10_flows 256 = .ok (.iload 7, 2) := by decide +kernel
theorem dX10_flows_258 : decode cX10_flows 258 = .ok (.imul, 1) := by decide +kernel
theorem dX10_flows_259 : decode cX10_flows 259 = .ok (.iastore, 1) := by decide +kernel
theorem dX10_flows_260 : decode cX10_flows 260 = .ok (.iinc 4 1, 3) := by decide +kernel
theorem dX10_flows_263 : decode cX10_flows 263 = .ok (.goto (-118), 3) := by decide +kernel
theorem dX10_flows_266 : decode cX10_flows 266 = .ok (.return_, 1) := by decide +kernel
theorem dX10_over_0 : decode cX10_over 0 = .ok (.bipush 20, 2) := by decide +kernel
theorem dX10_over_2 : decode cX10_over 2 = .ok (.iload_n 1, 1) := by decide +kernel
theorem dX10_over_3 : decode cX10_over 3 = .ok (.imul, 1) := by decide +kernel
theorem dX10_over_4 : decode cX10_over 4 = .ok (.iload_n 2, 1) := by decide +kernel
theorem dX10_over_5 : decode cX10_over 5 = .ok (.iadd, 1) := by decide +kernel
theorem dX10_over_6 : decode cX10_over 6 = .ok (.istore_n 3, 1) := by decide +kernel
theorem dX10_over_7 : decode cX10_over 7 = .ok (.iconst 0, 1) := by decide +kernel
theorem dX10_over_8 : decode cX10_over 8 = .ok (.aload_n 0, 1) := by decide +kernel
theorem dX10_over_9 : decode cX10_over 9 = .ok (.getfield 26, 3) := by decide +kernel
theorem dX10_over_12 : decode cX10_over 12 = .ok (.iload_n 3, 1) := by decide +kernel
theorem dX10_over_13 : decode cX10_over 13 = .ok (.iaload, 1) := by decide +kernel
theorem dX10_over_14 : decode cX10_over 14 = .ok (.aload_n 0, 1) := by decide +kernel
theorem dX10_over_15 : decode cX10_over 15 = .ok (.getfield 13, 3) := by decide +kernel
theorem dX10_over_18 : decode cX10_over 18 = .ok (.isub, 1) := by decide +kernel
theorem dX10_over_19 : decode cX10_over 19 = .ok (.invokestatic 168, 3) := by decide +kernel
theorem dX10_over_22 : decode cX10_over 22 = .ok (.istore 4, 2) := by decide +kernel
theorem dX10_over_24 : decode cX10_over 24 = .ok (.iload 4, 2) := by decide +kernel
theorem dX10_over_26 : decode cX10_over 26 = .ok (.iload 4, 2) := by decide +kernel
theorem dX10_over_28 : decode cX10_over 28 = .ok (.aload_n 0, 1) := by decide +kernel
theorem dX10_over_29 : decode cX10_over 29 = .ok (.getfield 19, 3) := by decide +kernel
theorem dX10_over_32 : decode cX10_over 32 = .ok (.iconst 4, 1) := by decide +kernel
theorem dX10_over_33 : decode cX10_over 33 = .ok (.iaload, 1) := by decide +kernel
theorem dX10_over_34 : decode cX10_over 34 = .ok (.imul, 1) := by decide +kernel
theorem dX10_over_35 : decode cX10_over 35 = .ok (.bipush 100, 2) := by decide +kernel
theorem dX10_over_37 : decode cX10_over 37 = .ok (.idiv, 1) := by decide +kernel
theorem dX10_over_38 : decode cX10_over 38 = .ok (.isub, 1) := by decide +kernel
theorem dX10_over_39 : decode cX10_over 39 = .ok (.istore 5, 2) := by decide +kernel
theorem dX10_over_41 : decode cX10_over 41 = .ok (.aload_n 0, 1) := by decide +kernel
theorem dX10_over_42 : decode cX10_over 42 = .ok (.getfield 26, 3) := by decide +kernel
theorem dX10_over_45 : decode cX10_over 45 = .ok (.iload_n 3, 1) := by decide +kernel
theorem dX10_over_46 : decode cX10_over 46 = .ok (.dup2, 1) := by decide +kernel
theorem dX10_over_47 : decode cX10_over 47 = .ok (.iaload, 1) := by decide +kernel
theorem dX10_over_48 : decode cX10_over 48 = .ok (.iload 5, 2) := by decide +kernel
theorem dX10_over_50 : decode cX10_over 50 = .ok (.isub, 1) := by decide +kernel
theorem dX10_over_51 : decode cX10_over 51 = .ok (.iastore, 1) := by decide +kernel
theorem dX10_over_52 : decode cX10_over 52 = .ok (.aload_n 0, 1) := by decide +kernel
theorem dX10_over_53 : decode cX10_over 53 = .ok (.getfield 32, 3) := by decide +kernel
theorem dX10_over_56 : decode cX10_over 56 = .ok (.iload_n 1, 1) := by decide +kernel
theorem dX10_over_57 : decode cX10_over 57 = .ok (.dup2, 1) := by decide +kernel
theorem dX10_over_58 : decode cX10_over 58 = .ok (.iaload, 1) := by decide +kernel
theorem dX10_over_59 : decode cX10_over 59 = .ok (.iload 5, 2) := by decide +kernel
theorem dX10_over_61 : decode cX10_over 61 = .ok (.iadd, 1) := by decide +kernel
theorem dX10_over_62 : decode cX10_over 62 = .ok (.iastore, 1) := by decide +kernel
theorem dX10_over_63 : decode cX10_over 63 = .ok (.iload 5, 2) := by decide +kernel
theorem dX10_over_65 : decode cX10_over 65 = .ok (.ireturn, 1) := by decide +kernel
theorem dX10_pass_0 : decode cX10_pass 0 = .ok (.aload_n 0, 1) := by decide +kernel
theorem dX10_pass_1 : decode cX10_pass 1 = .ok (.getfield 35, 3) := by decide +kernel
theorem dX10_pass_4 : decode cX10_pass 4 = .ok (.aload_n 0, 1) := by decide +kernel
theorem dX10_pass_5 : decode cX10_pass 5 = .ok (.getfield 148, 3) := by decide +kernel
theorem dX10_pass_8 : decode cX10_pass 8 = .ok (.bipush 21, 2) := by decide +kernel
theorem dX10_pass_10 : decode cX10_pass 10 = .ok (.irem, 1) := by decide +kernel
theorem dX10_pass_11 : decode cX10_pass 11 = .ok (.aload_n 0, 1) := by decide +kernel
theorem dX10_pass_12 : decode cX10_pass 12 = .ok (.invokevirtual 175, 3) := by decide +kernel
theorem dX10_pass_15 : decode cX10_pass 15 = .ok (.iastore, 1) := by decide +kernel
theorem dX10_pass_16 : decode cX10_pass 16 = .ok (.iconst 0, 1) := by decide +kernel
theorem dX10_pass_17 : decode cX10_pass 17 = .ok (.istore_n 3, 1) := by decide +kernel
theorem dX10_pass_18 : decode cX10_pass 18 = .ok (.iconst 0, 1) := by decide +kernel
theorem dX10_pass_19 : decode cX10_pass 19 = .ok (.istore 4, 2) := by decide +kernel
theorem dX10_pass_21 : decode cX10_pass 21 = .ok (.iload 4, 2) := by decide +kernel
theorem dX10_pass_23 : decode cX10_pass 23 = .ok (.iconst 2, 1) := by decide +kernel
theorem dX10_pass_24 : decode cX10_pass 24 = .ok (.if_icmp .ge 48, 3) := by decide +kernel
theorem dX10_pass_27 : decode cX10_pass 27 = .ok (.aload_n 0, 1) := by decide +kernel
theorem dX10_pass_28 : decode cX10_pass 28 = .ok (.iload 4, 2) := by decide +kernel
theorem dX10_pass_30 : decode cX10_pass 30 = .ok (.iload 4, 2) := by decide +kernel
theorem dX10_pass_32 : decode cX10_pass 32 = .ok (.ifCond .ne 7, 3) := by decide +kernel
theorem dX10_pass_35 : decode cX10_pass 35 = .ok (.iload_n 1, 1) := by decide +kernel
theorem dX10_pass_36 : decode cX10_pass 36 = .ok (.goto 4, 3) := by decide +kernel
theorem dX10_pass_39 : decode cX10_pass 39 = .ok (.iload_n 2, 1) := by decide +kernel
theorem dX10_pass_40 : decode cX10_pass 40 = .ok (.invokevirtual 179, 3) := by decide +kernel
theorem dX10_pass_43 : decode cX10_pass 43 = .ok (.iload_n 3, 1) := by decide +kernel
theorem dX10_pass_44 : decode cX10_pass 44 = .ok (.aload_n 0, 1) := by decide +kernel
theorem dX10_pass_45 : decode cX10_pass 45 = .ok (.iload 4, 2) := by decide +kernel
theorem dX10_pass_47 : decode cX10_pass 47 = .ok (.iconst 0, 1) := by decide +kernel
theorem dX10_pass_48 : decode cX10_pass 48 = .ok (.invokevirtual 182, 3) := by decide +kernel
theorem dX10_pass_51 : decode cX10_pass 51 = .ok (.aload_n 0, 1) := by decide +kernel
theorem dX10_pass_52 : decode cX10_pass 52 = .ok (.iload 4, 2) := by decide +kernel
theorem dX10_pass_54 : decode cX10_pass 54 = .ok (.aload_n 0, 1) := by decide +kernel
theorem dX10_pass_55 : decode cX10_pass 55 = .ok (.getfield 9, 3) := by decide +kernel
theorem dX10_pass_58 : decode cX10_pass 58 = .ok (.iconst 1, 1) := by decide +kernel
theorem dX10_pass_59 : decode cX10_pass 59 = .ok (.isub, 1) := by decide +kernel
theorem dX10_pass_60 : decode cX10_pass 60 = .ok (.invokevirtual 182, 3) := by decide +kernel
theorem dX10_pass_63 : decode cX10_pass 63 = .ok (.iadd, 1) := by decide +kernel
theorem dX10_pass_64 : decode cX10_pass 64 = .ok (.iadd, 1) := by decide +kernel
theorem dX10_pass_65 : decode cX10_pass 65 = .ok (.istore_n 3, 1) := by decide +kernel
theorem dX10_pass_66 : decode cX10_pass 66 = .ok (.iinc 4 1, 3) := by decide +kernel
theorem dX10_pass_69 : decode cX10_pass 69 = .ok (.goto (-48), 3) := by decide +kernel
theorem dX10_pass_72 : decode cX10_pass 72 = .ok (.aload_n 0, 1) := by decide +kernel
theorem dX10_pass_73 : decode cX10_pass 73 = .ok (.dup, 1) := by decide +kernel
theorem dX10_pass_74 : decode cX10_pass 74 = .ok (.getfield 148, 3) := by decide +kernel
theorem dX10_pass_77 : decode cX10_pass 77 = .ok (.iconst 1, 1) := by decide +kernel
theorem dX10_pass_78 : decode cX10_pass 78 = .ok (.iadd, 1) := by decide +kernel
theorem dX10_pass_79 : decode cX10_pass 79 = .ok (.putfield 148, 3) := by decide +kernel
theorem dX10_pass_82 : decode cX10_pass 82 = .ok (.iload_n 3, 1) := by decide +kernel
theorem dX10_pass_83 : decode cX10_pass 83 = .ok (.ireturn, 1) := by decide +kernel
theorem dX10_tick_0 : decode cX10_tick 0 = .ok (.aload_n 0, 1) := by decide +kernel
theorem dX10_tick_1 : decode cX10_tick 1 = .ok (.iconst 0, 1) := by decide +kernel
theorem dX10_tick_2 : decode cX10_tick 2 = .ok (.putfield 142, 3) := by decide +kernel
theorem dX10_tick_5 : decode cX10_tick 5 = .ok (.iload_n 1, 1) := by decide +kernel
theorem dX10_tick_6 : decode cX10_tick 6 = .ok (.sipush (-500), 3) := by decide +kernel
theorem dX10_tick_9 : decode cX10_tick 9 = .ok (.sipush 500, 3) := by decide +kernel
theorem dX10_tick_12 : decode cX10_tick 12 = .ok (.invokestatic 151, 3) := by decide +kernel
theorem dX10_tick_15 : decode cX10_tick 15 = .ok (.ifCond .eq 25, 3) := by decide +kernel
theorem dX10_tick_18 : decode cX10_tick 18 = .ok (.iload_n 2, 1) := by decide +kernel
theorem dX10_tick_19 : decode cX10_tick 19 = .ok (.sipush (-500), 3) := by decide +kernel
theorem dX10_tick_22 : decode cX10_tick 22 = .ok (.sipush 500, 3) := by decide +kernel
theorem dX10_tick_25 : decode cX10_tick 25 = .ok (.invokestatic 151, 3) := by decide +kernel
theorem dX10_tick_28 : decode cX10_tick 28 = .ok (.ifCond .eq 12, 3) := by decide +kernel
theorem dX10_tick_31 : decode cX10_tick 31 = .ok (.aload_n 0, 1) := by decide +kernel
theorem dX10_tick_32 : decode cX10_tick 32 = .ok (.iload_n 1, 1) := by decide +kernel
theorem dX10_tick_33 : decode cX10_tick 33 = .ok (.iload_n 2, 1) := by decide +kernel
theorem dX10_tick_34 : decode cX10_tick 34 = .ok (.invokevirtual 185, 3) := by decide +kernel
theorem dX10_tick_37 : decode cX10_tick 37 = .ok (.goto 4, 3) := by decide +kernel
theorem dX10_tick_40 : decode cX10_tick 40 = .ok (.iconst (-1), 1) := by decide +kernel
theorem dX10_tick_41 : decode cX10_tick 41 = .ok (.ireturn, 1) := by decide +kernel
theorem dX10_cell_0 : decode cX10_cell 0 = .ok (.aload_n 0, 1) := by decide +kernel
theorem dX10_cell_1 : decode cX10_cell 1 = .ok (.iconst 0, 1) := by decide +kernel
theorem dX10_cell_2 : decode cX10_cell 2 = .ok (.putfield 142, 3) := by decide +kernel
theorem dX10_cell_5 : decode cX10_cell 5 = .ok (.iload_n 1, 1) := by decide +kernel
theorem dX10_cell_6 : decode cX10_cell 6 = .ok (.iconst 0, 1) := by decide +kernel
theorem dX10_cell_7 : decode cX10_cell 7 = .ok (.iconst 1, 1) := by decide +kernel
theorem dX10_cell_8 : decode cX10_cell 8 = .ok (.invokestatic 151, 3) := by decide +kernel
theorem dX10_cell_11 : decode cX10_cell 11 = .ok (.ifCond .eq 26, 3) := by decide +kernel
theorem dX10_cell_14 : decode cX10_cell 14 = .ok (.iload_n 2, 1) := by decide +kernel
theorem dX10_cell_15 : decode cX10_cell 15 = .ok (.iconst 0, 1) := by decide +kernel
theorem dX10_cell_16 : decode cX10_cell 16 = .ok (.aload_n 0, 1) := by decide +kernel
theorem dX10_cell_17 : decode cX10_cell 17 = .ok (.getfield 9, 3) := by decide +kernel
theorem dX10_cell_20 : decode cX10_cell 20 = .ok (.iconst 1, 1) := by decide +kernel
theorem dX10_cell_21 : decode cX10_cell 21 = .ok (.isub, 1) := by decide +kernel
theorem dX10_cell_22 : decode cX10_cell 22 = .ok (.invokestatic 151, 3) := by decide +kernel
theorem dX10_cell_25 : decode cX10_cell 25 = .ok (.ifCond .eq 12, 3) := by decide +kernel
theorem dX10_cell_28 : decode cX10_cell 28 = .ok (.iload_n 3, 1) := by decide +kernel
theorem dX10_cell_29 : decode cX10_cell 29 = .ok (.iconst 0, 1) := by decide +kernel
theorem dX10_cell_30 : decode cX10_cell 30 = .ok (.iconst 1, 1) := by decide +kernel
theorem dX10_cell_31 : decode cX10_cell 31 = .ok (.invokestatic 151, 3) := by decide +kernel
theorem dX10_cell_34 : decode cX10_cell 34 = .ok (.ifCond .ne 8, 3) := by decide +kernel
theorem dX10_cell_37 : decode cX10_cell 37 = .ok (.aload_n 0, 1) := by decide +kernel
theorem dX10_cell_38 : decode cX10_cell 38 = .ok (.invokevirtual 188, 3) := by decide +kernel
theorem dX10_cell_41 : decode cX10_cell 41 = .ok (.ireturn, 1) := by decide +kernel
theorem dX10_cell_42 : decode cX10_cell 42 = .ok (.iload_n 3, 1) := by decide +kernel
theorem dX10_cell_43 : decode cX10_cell 43 = .ok (.ifCond .ne 17, 3) := by decide +kernel
theorem dX10_cell_46 : decode cX10_cell 46 = .ok (.aload_n 0, 1) := by decide +kernel
theorem dX10_cell_47 : decode cX10_cell 47 = .ok (.getfield 26, 3) := by decide +kernel
theorem dX10_cell_50 : decode cX10_cell 50 = .ok (.bipush 20, 2) := by decide +kernel
theorem dX10_cell_52 : decode cX10_cell 52 = .ok (.iload_n 1, 1) := by decide +kernel
theorem dX10_cell_53 : decode cX10_cell 53 = .ok (.imul, 1) := by decide +kernel
theorem dX10_cell_54 : decode cX10_cell 54 = .ok (.iload_n 2, 1) := by decide +kernel
theorem dX10_cell_55 : decode cX10_cell 55 = .ok (.iadd, 1) := by decide +kernel
theorem dX10_cell_56 : decode cX10_cell 56 = .ok (.iaload, 1) := by decide +kernel
theorem dX10_cell_57 : decode cX10_cell 57 = .ok (.goto 28, 3) := by decide +kernel
theorem dX10_cell_60 : decode cX10_cell 60 = .ok (.iload_n 2, 1) := by decide +kernel
theorem dX10_cell_61 : decode cX10_cell 61 = .ok (.aload_n 0, 1) := by decide +kernel
theorem dX10_cell_62 : decode cX10_cell 62 = .ok (.getfield 9, 3) := by decide +kernel
theorem dX10_cell_65 : decode cX10_cell 65 = .ok (.iconst 1, 1) := by decide +kernel
theorem dX10_cell_66 : decode cX10_cell 66 = .ok (.isub, 1) := by decide +kernel
theorem dX10_cell_67 : decode cX10_cell 67 = .ok (.if_icmp .ne 7, 3) := by decide +kernel
theorem dX10_cell_70 : decode cX10_cell 70 = .ok (.iconst 0, 1) := by decide +kernel
theorem dX10_cell_71 : decode cX10_cell 71 = .ok (.goto 14, 3) := by decide +kernel
theorem dX10_cell_74 : decode cX10_cell 74 = .ok (.aload_n 0, 1) := by decide +kernel
theorem dX10_cell_75 : decode cX10_cell 75 = .ok (.getfield 29, 3) := by decide +kernel
theorem dX10_cell_78 : decode cX10_cell 78 = .ok (.bipush 20, 2) := by decide +kernel
theorem dX10_cell_80 : decode cX10_cell 80 = .ok (.iload_n 1, 1) := by decide +kernel
theorem dX10_cell_81 : decode cX10_cell 81 = .ok (.imul, 1) := by decide +kernel
theorem dX10_cell_82 : decode cX10_cell 82 = .ok (.iload_n 2, 1) := by decide +kernel
theorem dX10_cell_83 : decode cX10_cell 83 = .ok (.iadd, 1) := by decide +kernel
theorem dX10_cell_84 : decode cX10_cell 84 = .ok (.iaload, 1) := by decide +kernel
theorem dX10_cell_85 : decode cX10_cell 85 = .ok (.ireturn, 1) := by decide +kernel
theorem dX10_of_0 : decode cX10_of 0 = .ok (.aload_n 0, 1) := by decide +kernel
theorem dX10_of_1 : decode cX10_of 1 = .ok (.iconst 0, 1) := by decide +kernel
theorem dX10_of_2 : decode cX10_of 2 = .ok (.putfield 142, 3) := by decide +kernel
theorem dX10_of_5 : decode cX10_of 5 = .ok (.iload_n 1, 1) := by decide +kernel
theorem dX10_of_6 : decode cX10_of 6 = .ok (.iconst 0, 1) := by decide +kernel
theorem dX10_of_7 : decode cX10_of 7 = .ok (.iconst 1, 1) := by decide +kernel
theorem dX10_of_8 : decode cX10_of 8 = .ok (.invokestatic 151, 3) := by decide +kernel
theorem dX10_of_11 : decode cX10_of 11 = .ok (.ifCond .eq 12, 3) := by decide +kernel
theorem dX10_of_14 : decode cX10_of 14 = .ok (.iload_n 2, 1) := by decide +kernel
theorem dX10_of_15 : decode cX10_of 15 = .ok (.iconst 0, 1) := by decide +kernel
theorem dX10_of_16 : decode cX10_of 16 = .ok (.iconst 3, 1) := by decide +kernel
theorem dX10_of_17 : decode cX10_of 17 = .ok (.invokestatic 151, 3) := by decide +kernel
theorem dX10_of_20 : decode cX10_of 20 = .ok (.ifCond .ne 8, 3) := by decide +kernel
theorem dX10_of_23 : decode cX10_of 23 = .ok (.aload_n 0, 1) := by decide +kernel
theorem dX10_of_24 : decode cX10_of 24 = .ok (.invokevirtual 188, 3) := by decide +kernel
theorem dX10_of_27 : decode cX10_of 27 = .ok (.ireturn, 1) := by decide +kernel
theorem dX10_of_28 : decode cX10_of 28 = .ok (.iconst 0, 1) := by decide +kernel
theorem dX10_of_29 : decode cX10_of 29 = .ok (.istore_n 3, 1) := by decide +kernel
theorem dX10_of_30 : decode cX10_of 30 = .ok (.iconst 0, 1) := by decide +kernel
theorem dX10_of_31 : decode cX10_of 31 = .ok (.istore 4, 2) := by decide +kernel
theorem dX10_of_33 : decode cX10_of 33 = .ok (.iconst 0, 1) := by decide +kernel
theorem dX10_of_34 : decode cX10_of 34 = .ok (.istore 5, 2) := by decide +kernel
theorem dX10_of_36 : decode cX10_of 36 = .ok (.iload 5, 2) := by decide +kernel
theorem dX10_of_38 : decode cX10_of 38 = .ok (.aload_n 0, 1) := by decide +kernel
theorem dX10_of_39 : decode cX10_of 39 = .ok (.getfield 9, 3) := by decide +kernel
theorem dX10_of_42 : decode cX10_of 42 = .ok (.if_icmp .ge 43, 3) := by decide +kernel
theorem dX10_of_45 : decode cX10_of 45 = .ok (.iload_n 3, 1) := by decide +kernel
theorem dX10_of_46 : decode cX10_of 46 = .ok (.aload_n 0, 1) := by decide +kernel
theorem dX10_of_47 : decode cX10_of 47 = .ok (.getfield 26, 3) := by decide +kernel
theorem dX10_of_50 : decode cX10_of 50 = .ok (.bipush 20, 2) := by decide +kernel
theorem dX10_of_52 : decode cX10_of 52 = .ok (.iload_n 1, 1) := by decide +kernel
theorem dX10_of_53 : decode cX10_of 53 = .ok (.imul, 1) := by decide +kernel
theorem dX10_of_54 : decode cX10_of 54 = .ok (.iload 5, 2) := by decide +kernel
theorem dX10_of_56 : decode cX10_of 56 = .ok (.iadd, 1) := by decide +kernel
theorem dX10_of_57 : decode cX10_of 57 = .ok (.iaload, 1) := by decide +kernel
theorem dX10_of_58 : decode cX10_of 58 = .ok (.iadd, 1) := by decide +kernel
theorem dX10_of_59 : decode cX10_of 59 = .ok (.istore_n 3, 1) := by decide +kernel
theorem dX10_of_60 : decode cX10_of 60 = .ok (.iload 4, 2) := by decide +kernel
theorem dX10_of_62 : decode cX10_of 62 = .ok (.aload_n 0, 1) := by decide +kernel
theorem dX10_of_63 : decode cX10_of 63 = .ok (.getfield 26, 3) := by decide +kernel
theorem dX10_of_66 : decode cX10_of 66 = .ok (.bipush 20, 2) := by decide +kernel
theorem dX10_of_68 : decode cX10_of 68 = .ok (.iload_n 1, 1) := by decide +kernel
theorem dX10_of_69 : decode cX10_of 69 = .ok (.imul, 1) := by decide +kernel
theorem dX10_of_70 : decode cX10_of 70 = .ok (.iload 5, 2) := by decide +kernel
theorem dX10_of_72 : decode cX10_of 72 = .ok (.iadd, 1) := by decide +kernel
theorem dX10_of_73 : decode cX10_of 73 = .ok (.iaload, 1) := by decide +kernel
theorem dX10_of_74 : decode cX10_of 74 = .ok (.invokestatic 168, 3) := by decide +kernel
theorem dX10_of_77 : decode cX10_of 77 = .ok (.istore 4, 2) := by decide +kernel
theorem dX10_of_79 : decode cX10_of 79 = .ok (.iinc 5 1, 3) := by decide +kernel
theorem dX10_of_82 : decode cX10_of 82 = .ok (.goto (-46), 3) := by decide +kernel
theorem dX10_of_85 : decode cX10_of 85 = .ok (.iload_n 2, 1) := by decide +kernel
theorem dX10_of_86 : decode cX10_of 86 = .ok (.ifCond .ne 32, 3) := by decide +kernel
theorem dX10_of_89 : decode cX10_of 89 = .ok (.aload_n 0, 1) := by decide +kernel
theorem dX10_of_90 : decode cX10_of 90 = .ok (.getfield 26, 3) := by decide +kernel
theorem dX10_of_93 : decode cX10_of 93 = .ok (.bipush 20, 2) := by decide +kernel
theorem dX10_of_95 : decode cX10_of 95 = .ok (.iload_n 1, 1) := by decide +kernel
theorem dX10_of_96 : decode cX10_of 96 = .ok (.imul, 1) := by decide +kernel
theorem dX10_of_97 : decode cX10_of 97 = .ok (.iaload, 1) := by decide +kernel
theorem dX10_of_98 : decode cX10_of 98 = .ok (.aload_n 0, 1) := by decide +kernel
theorem dX10_of_99 : decode cX10_of 99 = .ok (.getfield 26, 3) := by decide +kernel
theorem dX10_of_102 : decode cX10_of 102 = .ok (.bipush 20, 2) := by decide +kernel
theorem dX10_of_104 : decode cX10_of 104 = .ok (.iload_n 1, 1) := by decide +kernel
theorem dX10_of_105 : decode cX10_of 105 = .ok (.imul, 1) := by decide +kernel
theorem dX10_of_106 : decode cX10_of 106 = .ok (.aload_n 0, 1) := by decide +kernel
theorem dX10_of_107 : decode cX10_of 107 = .ok (.getfield 9, 3) := by decide +kernel
theorem dX10_of_110 : decode cX10_of 110 = .ok (.iadd, 1) := by decide +kernel
theorem dX10_of_111 : decode cX10_of 111 = .ok (.iconst 1, 1) := by decide +kernel
theorem dX10_of_112 : decode cX10_of 112 = .ok (.isub, 1) := by decide +kernel
theorem dX10_of_113 : decode cX10_of 113 = .ok (.iaload, 1) := by decide +kernel
theorem dX10_of_114 : decode cX10_of 114 = .ok (.isub, 1) := by decide +kernel
theorem dX10_of_115 : decode cX10_of 115 = .ok (.goto 28, 3) := by decide +kernel
theorem dX10_of_118 : decode cX10_of 118 = .ok (.iload_n 2, 1) := by decide +kernel
theorem dX10_of_119 : decode cX10_of 119 = .ok (.iconst 1, 1) := by decide +kernel
theorem dX10_of_120 : decode cX10_of 120 = .ok (.if_icmp .ne 12, 3) := by decide +kernel
theorem dX10_of_123 : decode cX10_of 123 = .ok (.aload_n 0, 1) := by decide +kernel
theorem dX10_of_124 : decode cX10_of 124 = .ok (.getfield 32, 3) := by decide +kernel
theorem dX10_of_127 : decode cX10_of 127 = .ok (.iload_n 1, 1) := by decide +kernel
theorem dX10_of_128 : decode cX10_of 128 = .ok (.iaload, 1) := by decide +kernel
theorem dX10_of_129 : decode cX10_of 129 = .ok (.goto 14, 3) := by decide +kernel
theorem dX10_of_132 : decode cX10_of 132 = .ok (.iload_n 2, 1) := by decide +kernel
theorem dX10_of_133 : decode cX10_of 133 = .ok (.iconst 2, 1) := by decide +kernel
theorem dX10_of_134 : decode cX10_of 134 = .ok (.if_icmp .ne 7, 3) := by decide +kernel
theorem dX10_of_137 : decode cX10_of 137 = .ok (.iload_n 3, 1) := by decide +kernel
theorem dX10_of_138 : decode cX10_of 138 = .ok (.goto 5, 3) := by decide +kernel
theorem dX10_of_141 : decode cX10_of 141 = .ok (.iload 4, 2) := by decide +kernel
theorem dX10_of_143 : decode cX10_of 143 = .ok (.ireturn, 1) := by decide +kernel
theorem dX10_sign_0 : decode cX10_sign 0 = .ok (.aload_n 0, 1) := by decide +kernel
theorem dX10_sign_1 : decode cX10_sign 1 = .ok (.iconst 0, 1) := by decide +kernel
theorem dX10_sign_2 : decode cX10_sign 2 = .ok (.putfield 142, 3) := by decide +kernel
theorem dX10_sign_5 : decode cX10_sign 5 = .ok (.aload_n 0, 1) := by decide +kernel
theorem dX10_sign_6 : decode cX10_sign 6 = .ok (.getfield 191, 3) := by decide +kernel
theorem dX10_sign_9 : decode cX10_sign 9 = .ok (.iconst 4, 1) := by decide +kernel
theorem dX10_sign_10 : decode cX10_sign 10 = .ok (.iadd, 1) := by decide +kernel
theorem dX10_sign_11 : decode cX10_sign 11 = .ok (.bipush 80, 2) := by decide +kernel
theorem dX10_sign_13 : decode cX10_sign 13 = .ok (.if_icmp .le 5, 3) := by decide +kernel
theorem dX10_sign_16 : decode cX10_sign 16 = .ok (.iconst (-1), 1) := by decide +kernel
theorem dX10_sign_17 : decode cX10_sign 17 = .ok (.ireturn, 1) := by decide +kernel
theorem dX10_sign_18 : decode cX10_sign 18 = .ok (.iconst 3, 1) := by decide +kernel
theorem dX10_sign_19 : decode cX10_sign 19 = .ok (.istore_n 2, 1) := by decide +kernel
theorem dX10_sign_20 : decode cX10_sign 20 = .ok (.iload_n 2, 1) := by decide +kernel
theorem dX10_sign_21 : decode cX10_sign 21 = .ok (.ifCond .lt 32, 3) := by decide +kernel
theorem dX10_sign_24 : decode cX10_sign 24 = .ok (.aload_n 0, 1) := by decide +kernel
theorem dX10_sign_25 : decode cX10_sign 25 = .ok (.getfield 41, 3) := by decide +kernel
theorem dX10_sign_28 : decode cX10_sign 28 = .ok (.aload_n 0, 1) := by decide +kernel
theorem dX10_sign_29 : decode cX10_sign 29 = .ok (.dup, 1) := by decide +kernel
theorem dX10_sign_30 : decode cX10_sign 30 = .ok (.getfield 191, 3) := by decide +kernel
theorem dX10_sign_33 : decode cX10_sign 33 = .ok (.dup_x1, 1) := by decide +kernel
theorem dX10_sign_34 : decode cX10_sign 34 = .ok (.iconst 1, 1) := by decide +kernel
theorem dX10_sign_35 : decode cX10_sign 35 = .ok (.iadd, 1) := by decide +kernel
theorem dX10_sign_36 : decode cX10_sign 36 = .ok (.putfield 191, 3) := by decide +kernel
theorem dX10_sign_39 : decode cX10_sign 39 = .ok (.iload_n 1, 1) := by decide +kernel
theorem dX10_sign_40 : decode cX10_sign 40 = .ok (.bipush 8, 2) := by decide +kernel
theorem dX10_sign_42 : decode cX10_sign 42 = .ok (.iload_n 2, 1) := by decide +kernel
theorem dX10_sign_43 : decode cX10_sign 43 = .ok (.imul, 1) := by decide +kernel
theorem dX10_sign_44 : decode cX10_sign 44 = .ok (.ishr, 1) := by decide +kernel
theorem dX10_sign_45 : decode cX10_sign 45 = .ok (.i2b, 1) := by decide +kernel
theorem dX10_sign_46 : decode cX10_sign 46 = .ok (.bastore, 1) := by decide +kernel
theorem dX10_sign_47 : decode cX10_sign 47 = .ok (.iinc 2 (-1), 3) := by decide +kernel
theorem dX10_sign_50 : decode cX10_sign 50 = .ok (.goto (-30), 3) := by decide +kernel
theorem dX10_sign_53 : decode cX10_sign 53 = .ok (.aload_n 0, 1) := by decide +kernel
theorem dX10_sign_54 : decode cX10_sign 54 = .ok (.getfield 191, 3) := by decide +kernel
theorem dX10_sign_57 : decode cX10_sign 57 = .ok (.ireturn, 1) := by decide +kernel
theorem dX10_end_0 : decode cX10_end 0 = .ok (.aload_n 0, 1) := by decide +kernel
theorem dX10_end_1 : decode cX10_end 1 = .ok (.iconst 0, 1) := by decide +kernel
theorem dX10_end_2 : decode cX10_end 2 = .ok (.putfield 142, 3) := by decide +kernel
theorem dX10_end_5 : decode cX10_end 5 = .ok (.iload_n 1, 1) := by decide +kernel
theorem dX10_end_6 : decode cX10_end 6 = .ok (.iconst 0, 1) := by decide +kernel
theorem dX10_end_7 : decode cX10_end 7 = .ok (.aload_n 0, 1) := by decide +kernel
theorem dX10_end_8 : decode cX10_end 8 = .ok (.getfield 191, 3) := by decide +kernel
theorem dX10_end_11 : decode cX10_end 11 = .ok (.invokestatic 151, 3) := by decide +kernel
theorem dX10_end_14 : decode cX10_end 14 = .ok (.ifCond .ne 5, 3) := by decide +kernel
theorem dX10_end_17 : decode cX10_end 17 = .ok (.iconst 0, 1) := by decide +kernel
theorem dX10_end_18 : decode cX10_end 18 = .ok (.ireturn, 1) := by decide +kernel
theorem dX10_end_19 : decode cX10_end 19 = .ok (.aload_n 0, 1) := by decide +kernel
theorem dX10_end_20 : decode cX10_end 20 = .ok (.iload_n 1, 1) := by decide +kernel
theorem dX10_end_21 : decode cX10_end 21 = .ok (.putfield 191, 3) := by decide +kernel
theorem dX10_end_24 : decode cX10_end 24 = .ok (.iconst 1, 1) := by decide +kernel
theorem dX10_end_25 : decode cX10_end 25 = .ok (.ireturn, 1) := by decide +kernel
theorem dX10_start_0 : decode cX10_start 0 = .ok (.aload_n 0, 1) := by decide +kernel
theorem dX10_start_1 : decode cX10_start 1 = .ok (.aload_n 1, 1) := by decide +kernel
theorem dX10_start_2 : decode cX10_start 2 = .ok (.putfield 194, 3) := by decide +kernel
theorem dX10_start_5 : decode cX10_start 5 = .ok (.aload_n 0, 1) := by decide +kernel
theorem dX10_start_6 : decode cX10_start 6 = .ok (.iload_n 2, 1) := by decide +kernel
theorem dX10_start_7 : decode cX10_start 7 = .ok (.putfield 197, 3) := by decide +kernel
theorem dX10_start_10 : decode cX10_start 10 = .ok (.aload_n 0, 1) := by decide +kernel
theorem dX10_start_11 : decode cX10_start 11 = .ok (.iload_n 3, 1) := by decide +kernel
theorem dX10_start_12 : decode cX10_start 12 = .ok (.putfield 200, 3) := by decide +kernel
theorem dX10_start_15 : decode cX10_start 15 = .ok (.aload_n 0, 1) := by decide +kernel
theorem dX10_start_16 : decode cX10_start 16 = .ok (.iconst 0, 1) := by decide +kernel
theorem dX10_start_17 : decode cX10_start 17 = .ok (.putfield 203, 3) := by decide +kernel
theorem dX10_start_20 : decode cX10_start 20 = .ok (.aload_n 0, 1) := by decide +kernel
theorem dX10_start_21 : decode cX10_start 21 = .ok (.iconst (-1), 1) := by decide +kernel
theorem dX10_start_22 : decode cX10_start 22 = .ok (.putfield 206, 3) := by decide +kernel
theorem dX10_start_25 : decode cX10_start 25 = .ok (.return_, 1) := by decide +kernel
theorem dX10_here_0 : decode cX10_here 0 = .ok (.aload_n 0, 1) := by decide +kernel
theorem dX10_here_1 : decode cX10_here 1 = .ok (.getfield 203, 3) := by decide +kernel
theorem dX10_here_4 : decode cX10_here 4 = .ok (.aload_n 0, 1) := by decide +kernel
theorem dX10_here_5 : decode cX10_here 5 = .ok (.getfield 197, 3) := by decide +kernel
theorem dX10_here_8 : decode cX10_here 8 = .ok (.if_icmp .ge 26, 3) := by decide +kernel
theorem dX10_here_11 : decode cX10_here 11 = .ok (.aload_n 0, 1) := by decide +kernel
theorem dX10_here_12 : decode cX10_here 12 = .ok (.getfield 203, 3) := by decide +kernel
theorem dX10_here_15 : decode cX10_here 15 = .ok (.aload_n 0, 1) := by decide +kernel
theorem dX10_here_16 : decode cX10_here 16 = .ok (.getfield 200, 3) := by decide +kernel
theorem dX10_here_19 : decode cX10_here 19 = .ok (.if_icmp .ge 15, 3) := by decide +kernel
theorem dX10_here_22 : decode cX10_here 22 = .ok (.aload_n 0, 1) := by decide +kernel
theorem dX10_here_23 : decode cX10_here 23 = .ok (.getfield 194, 3) := by decide +kernel
theorem dX10_here_26 : decode cX10_here 26 = .ok (.aload_n 0, 1) := by decide +kernel
theorem dX10_here_27 : decode cX10_here 27 = .ok (.getfield 203, 3) := by decide +kernel
theorem dX10_here_30 : decode cX10_here 30 = .ok (.baload, 1) := by decide +kernel
theorem dX10_here_31 : decode cX10_here 31 = .ok (.goto 4, 3) := by decide +kernel
theorem dX10_here_34 : decode cX10_here 34 = .ok (.iconst (-1), 1) := by decide +kernel
theorem dX10_here_35 : decode cX10_here 35 = .ok (.ireturn, 1) := by decide +kernel
theorem dX10_fine_0 : decode cX10_fine 0 = .ok (.aload_n 0, 1) := by decide +kernel
theorem dX10_fine_1 : decode cX10_fine 1 = .ok (.getfield 206, 3) := by decide +kernel
theorem dX10_fine_4 : decode cX10_fine 4 = .ok (.iconst (-1), 1) := by decide +kernel
theorem dX10_fine_5 : decode cX10_fine 5 = .ok (.if_icmp .ne 7, 3) := by decide +kernel
theorem dX10_fine_8 : decode cX10_fine 8 = .ok (.iconst 1, 1) := by decide +kernel
theorem dX10_fine_9 : decode cX10_fine 9 = .ok (.goto 4, 3) := by decide +kernel
theorem dX10_fine_12 : decode cX10_fine 12 = .ok (.iconst 0, 1) := by decide +kernel
theorem dX10_fine_13 : decode cX10_fine 13 = .ok (.ireturn, 1) := by decide +kernel
theorem dX10_fault_0 : decode cX10_fault 0 = .ok (.aload_n 0, 1) := by decide +kernel
theorem dX10_fault_1 : decode cX10_fault 1 = .ok (.invokevirtual 209, 3) := by decide +kernel
theorem dX10_fault_4 : decode cX10_fault 4 = .ok (.ifCond .eq 8, 3) := by decide +kernel
theorem dX10_fault_7 : decode cX10_fault 7 = .ok (.aload_n 0, 1) := by decide +kernel
theorem dX10_fault_8 : decode cX10_fault 8 = .ok (.iload_n 1, 1) := by decide +kernel
theorem dX10_fault_9 : decode cX10_fault 9 = .ok (.putfield 206, 3) := by decide +kernel
theorem dX10_fault_12 : decode cX10_fault 12 = .ok (.return_, 1) := by decide +kernel
theorem dX10_passes_0 : decode cX10_passes 0 = .ok (.aload_n 0, 1) := by decide +kernel
theorem dX10_passes_1 : decode cX10_passes 1 = .ok (.invokevirtual 209, 3) := by decide +kernel
theorem dX10_passes_4 : decode cX10_passes 4 = .ok (.ifCond .eq 11, 3) := by decide +kernel
theorem dX10_passes_7 : decode cX10_passes 7 = .ok (.aload_n 0, 1) := by decide +kernel
theorem dX10_passes_8 : decode cX10_passes 8 = .ok (.invokevirtual 213, 3) := by decide +kernel
theorem dX10_passes_11 : decode cX10_passes 11 = .ok (.iload_n 1, 1) := by decide +kernel
theorem dX10_passes_12 : decode cX10_passes 12 = .ok (.if_icmp .eq 5, 3) := by decide +kernel
theorem dX10_passes_15 : decode cX10_passes 15 = .ok (.iconst 0, 1) := by decide +kernel
theorem dX10_passes_16 : decode cX10_passes 16 = .ok (.ireturn, 1) := by decide +kernel
theorem dX10_passes_17 : decode cX10_passes 17 = .ok (.aload_n 0, 1) := by decide +kernel
theorem dX10_passes_18 : decode cX10_passes 18 = .ok (.dup, 1) := by decide +kernel
theorem dX10_passes_19 : decode cX10_passes 19 = .ok (.getfield 203, 3) := by decide +kernel
theorem dX10_passes_22 : decode cX10_passes 22 = .ok (.iconst 1, 1) := by decide +kernel
theorem dX10_passes_23 : decode cX10_passes 23 = .ok (.iadd, 1) := by decide +kernel
theorem dX10_passes_24 : decode cX10_passes 24 = .ok (.putfield 203, 3) := by decide +kernel
theorem dX10_passes_27 : decode cX10_passes 27 = .ok (.iconst 1, 1) := by decide +kernel
theorem dX10_passes_28 : decode cX10_passes 28 = .ok (.ireturn, 1) := by decide +kernel
theorem dX10_need_0 : decode cX10_need 0 = .ok (.aload_n 0, 1) := by decide +kernel
theorem dX10_need_1 : decode cX10_need 1 = .ok (.iload_n 1, 1) := by decide +kernel
theorem dX10_need_2 : decode cX10_need 2 = .ok (.invokevirtual 216, 3) := by decide +kernel
theorem dX10_need_5 : decode cX10_need 5 = .ok (.ifCond .ne 11, 3) := by decide +kernel
theorem dX10_need_8 : decode cX10_need 8 = .ok (.aload_n 0, 1) := by decide +kernel
theorem dX10_need_9 : decode cX10_need 9 = .ok (.aload_n 0, 1) := by decide +kernel
theorem dX10_need_10 : decode cX10_need 10 = .ok (.getfield 203, 3) := by decide +kernel
theorem dX10_need_13 : decode cX10_need 13 = .ok (.invokevirtual 220, 3) := by decide +kernel
theorem dX10_need_16 : decode cX10_need 16 = .ok (.return_, 1) := by decide +kernel
theorem dX10_number_0 : decode cX10_number 0 = .ok (.aload_n 0, 1) := by decide +kernel
theorem dX10_number_1 : decode cX10_number 1 = .ok (.invokevirtual 209, 3) := by decide +kernel
theorem dX10_number_4 : decode cX10_number 4 = .ok (.ifCond .ne 5, 3) := by decide +kernel
theorem dX10_number_7 : decode cX10_number 7 = .ok (.iconst 0, 1) := by decide +kernel
theorem dX10_number_8 : decode cX10_number 8 = .ok (.ireturn, 1) := by decide +kernel
theorem dX10_number_9 : decode cX10_number 9 = .ok (.aload_n 0, 1) := by decide +kernel
theorem dX10_number_10 : decode cX10_number 10 = .ok (.getfield 203, 3) := by decide +kernel
theorem dX10_number_13 : decode cX10_number 13 = .ok (.istore_n 3, 1) := by decide +kernel
theorem dX10_number_14 : decode cX10_number 14 = .ok (.iconst 0, 1) := by decide +kernel
theorem dX10_number_15 : decode cX10_number 15 = .ok (.istore 4, 2) := by decide +kernel
theorem dX10_number_17 : decode cX10_number 17 = .ok (.aload_n 0, 1) := by decide +kernel
theorem dX10_number_18 : decode cX10_number 18 = .ok (.getfield 203, 3) := by decide +kernel
theorem dX10_number_21 : decode cX10_number 21 = .ok (.iload_n 3, 1) := by decide +kernel
theorem dX10_number_22 : decode cX10_number 22 = .ok (.iconst 3, 1) := by decide +kernel
theorem dX10_number_23 : decode cX10_number 23 = .ok (.iadd, 1) := by decide +kernel
theorem dX10_number_24 : decode cX10_number 24 = .ok (.if_icmp .ge 45, 3) := by decide +kernel
theorem dX10_number_27 : decode cX10_number 27 = .ok (.aload_n 0, 1) := by decide +kernel
theorem dX10_number_28 : decode cX10_number 28 = .ok (.invokevirtual 213, 3) := by decide +kernel
theorem dX10_number_31 : decode cX10_number 31 = .ok (.bipush 48, 2) := by decide +kernel
theorem dX10_number_33 : decode cX10_number 33 = .ok (.bipush 57, 2) := by decide +kernel
theorem dX10_number_35 : decode cX10_number 35 = .ok (.invokestatic 151, 3) := by decide +kernel
theorem dX10_number_38 : decode cX10_number 38 = .ok (.ifCond .eq 31, 3) := by decide +kernel
theorem dX10_number_41 : decode cX10_number 41 = .ok (.bipush 10, 2) := by decide +kernel
theorem dX10_number_43 : decode cX10_number 43 = .ok (.iload 4, 2) := by decide +kernel
theorem dX10_number_45 : decode cX10_number 45 = .ok (.imul, 1) := by decide +kernel
theorem dX10_number_46 : decode cX10_number 46 = .ok (.aload_n 0, 1) := by decide +kernel
theorem dX10_number_47 : decode cX10_number 47 = .ok (.invokevirtual 213, 3) := by decide +kernel
theorem dX10_number_50 : decode cX10_number 50 = .ok (.iadd, 1) := by decide +kernel
theorem dX10_number_51 : decode cX10_number 51 = .ok (.bipush 48, 2) := by decide +kernel
theorem dX10_number_53 : decode cX10_number 53 = .ok (.isub, 1) := by decide +kernel
theorem dX10_number_54 : decode cX10_number 54 = .ok (.istore 4, 2) := by decide +kernel
theorem dX10_number_56 : decode cX10_number 56 = .ok (.aload_n 0, 1) := by decide +kernel
theorem dX10_number_57 : decode cX10_number 57 = .ok (.dup, 1) := by decide +kernel
theorem dX10_number_58 : decode cX10_number 58 = .ok (.getfield 203, 3) := by decide +kernel
theorem dX10_number_61 : decode cX10_number 61 = .ok (.iconst 1, 1) := by decide +kernel
theorem dX10_number_62 : decode cX10_number 62 = .ok (.iadd, 1) := by decide +kernel
theorem dX10_number_63 : decode cX10_number 63 = .ok (.putfield 203, 3) := by decide +kernel
theorem dX10_number_66 : decode cX10_number 66 = .ok (.goto (-49), 3) := by decide +kernel
theorem dX10_number_69 : decode cX10_number 69 = .ok (.aload_n 0, 1) := by decide +kernel
theorem dX10_number_70 : decode cX10_number 70 = .ok (.getfield 203, 3) := by decide +kernel
theorem dX10_number_73 : decode cX10_number 73 = .ok (.iload_n 3, 1) := by decide +kernel
theorem dX10_number_74 : decode cX10_number 74 = .ok (.if_icmp .ne 14, 3) := by decide +kernel
theorem dX10_number_77 : decode cX10_number 77 = .ok (.aload_n 0, 1) := by decide +kernel
theorem dX10_number_78 : decode cX10_number 78 = .ok (.aload_n 0, 1) := by decide +kernel
theorem dX10_number_79 : decode cX10_number 79 = .ok (.getfield 203, 3) := by decide +kernel
theorem dX10_number_82 : decode cX10_number 82 = .ok (.invokevirtual 220, 3) := by decide +kernel
theorem dX10_number_85 : decode cX10_number 85 = .ok (.goto 23, 3) := by decide +kernel
theorem dX10_number_88 : decode cX10_number 88 = .ok (.iload 4, 2) := by decide +kernel
theorem dX10_number_90 : decode cX10_number 90 = .ok (.iload_n 1, 1) := by decide +kernel
theorem dX10_number_91 : decode cX10_number 91 = .ok (.iload_n 2, 1) := by decide +kernel
theorem dX10_number_92 : decode cX10_number 92 = .ok (.invokestatic 151, 3) := by decide +kernel
theorem dX10_number_95 : decode cX10_number 95 = .ok (.ifCond .ne 13, 3) := by decide +kernel
theorem dX10_number_98 : decode cX10_number 98 = .ok (.aload_n 0, 1) := by decide +kernel
theorem dX10_number_99 : decode cX10_number 99 = .ok (.aload_n 0, 1) := by decide +kernel
theorem dX10_number_100 : decode cX10_number 100 = .ok (.getfield 203, 3) := by decide +kernel
theorem dX10_number_103 : decode cX10_number 103 = .ok (.iconst 1, 1) := by decide +kernel
theorem dX10_number_104 : decode cX10_number 104 = .ok (.isub, 1) := by decide +kernel
theorem dX10_number_105 : decode cX10_number 105 = .ok (.invokevirtual 220, 3) := by decide +kernel
theorem dX10_number_108 : decode cX10_number 108 = .ok (.aload_n 0, 1) := by decide +kernel
theorem dX10_number_109 : decode cX10_number 109 = .ok (.invokevirtual 209, 3) := by decide +kernel
theorem dX10_number_112 : decode cX10_number 112 = .ok (.ifCond .eq 8, 3) := by decide +kernel
theorem dX10_number_115 : decode cX10_number 115 = .ok (.iload 4, 2) := by decide +kernel
theorem dX10_number_117 : decode cX10_number 117 = .ok (.goto 4, 3) := by decide +kernel
theorem dX10_number_120 : decode cX10_number 120 = .ok (.iconst 0, 1) := by decide +kernel
theorem dX10_number_121 : decode cX10_number 121 = .ok (.ireturn, 1) := by decide +kernel
theorem dX10_lay_0 : decode cX10_lay 0 = .ok (.aload_n 0, 1) := by decide +kernel
theorem dX10_lay_1 : decode cX10_lay 1 = .ok (.getfield 67, 3) := by decide +kernel
theorem dX10_lay_4 : decode cX10_lay 4 = .ok (.aload_n 0, 1) := by decide +kernel
theorem dX10_lay_5 : decode cX10_lay 5 = .ok (.getfield 224, 3) := by decide +kernel
theorem dX10_lay_8 : decode cX10_lay 8 = .ok (.iload_n 1, 1) := by decide +kernel
theorem dX10_lay_9 : decode cX10_lay 9 = .ok (.iastore, 1) := by decide +kernel
theorem dX10_lay_10 : decode cX10_lay 10 = .ok (.aload_n 0, 1) := by decide +kernel
theorem dX10_lay_11 : decode cX10_lay 11 = .ok (.getfield 70, 3) := by decide +kernel
theorem dX10_lay_14 : decode cX10_lay 14 = .ok (.aload_n 0, 1) := by decide +kernel
theorem dX10_lay_15 : decode cX10_lay 15 = .ok (.getfield 224, 3) := by decide +kernel
theorem dX10_lay_18 : decode cX10_lay 18 = .ok (.iload_n 2, 1) := by decide +kernel
theorem dX10_lay_19 : decode cX10_lay 19 = .ok (.iastore, 1) := by decide +kernel
theorem dX10_lay_20 : decode cX10_lay 20 = .ok (.aload_n 0, 1) := by decide +kernel
theorem dX10_lay_21 : decode cX10_lay 21 = .ok (.getfield 73, 3) := by decide +kernel
theorem dX10_lay_24 : decode cX10_lay 24 = .ok (.aload_n 0, 1) := by decide +kernel
theorem dX10_lay_25 : decode cX10_lay 25 = .ok (.getfield 224, 3) := by decide +kernel
theorem dX10_lay_28 : decode cX10_lay 28 = .ok (.aload_n 0, 1) := by decide +kernel
theorem dX10_lay_29 : decode cX10_lay 29 = .ok (.getfield 227, 3) := by decide +kernel
theorem dX10_lay_32 : decode cX10_lay 32 = .ok (.iastore, 1) := by decide +kernel
theorem dX10_lay_33 : decode cX10_lay 33 = .ok (.aload_n 0, 1) := by decide +kernel
theorem dX10_lay_34 : decode cX10_lay 34 = .ok (.getfield 76, 3) := by decide +kernel
theorem dX10_lay_37 : decode cX10_lay 37 = .ok (.aload_n 0, 1) := by decide +kernel
theorem dX10_lay_38 : decode cX10_lay 38 = .ok (.getfield 224, 3) := by decide +kernel
theorem dX10_lay_41 : decode cX10_lay 41 = .ok (.iload_n 3, 1) := by decide +kernel
theorem dX10_lay_42 : decode cX10_lay 42 = .ok (.iastore, 1) := by decide +kernel
theorem dX10_lay_43 : decode cX10_lay 43 = .ok (.aload_n 0, 1) := by decide +kernel
theorem dX10_lay_44 : decode cX10_lay 44 = .ok (.dup, 1) := by decide +kernel
theorem dX10_lay_45 : decode cX10_lay 45 = .ok (.getfield 224, 3) := by decide +kernel
theorem dX10_lay_48 : decode cX10_lay 48 = .ok (.iconst 1, 1) := by decide +kernel
theorem dX10_lay_49 : decode cX10_lay 49 = .ok (.iadd, 1) := by decide +kernel
theorem dX10_lay_50 : decode cX10_lay 50 = .ok (.putfield 224, 3) := by decide +kernel
theorem dX10_lay_53 : decode cX10_lay 53 = .ok (.return_, 1) := by decide +kernel
theorem dX10_walk_0 : decode cX10_walk 0 = .ok (.aload_n 0, 1) := by decide +kernel
theorem dX10_walk_1 : decode cX10_walk 1 = .ok (.iconst 0, 1) := by decide +kernel
theorem dX10_walk_2 : decode cX10_walk 2 = .ok (.putfield 142, 3) := by decide +kernel
theorem dX10_walk_5 : decode cX10_walk 5 = .ok (.aload_n 0, 1) := by decide +kernel
theorem dX10_walk_6 : decode cX10_walk 6 = .ok (.aload_n 0, 1) := by decide +kernel
theorem dX10_walk_7 : decode cX10_walk 7 = .ok (.getfield 41, 3) := by decide +kernel
theorem dX10_walk_10 : decode cX10_walk 10 = .ok (.aload_n 0, 1) := by decide +kernel
theorem dX10_walk_11 : decode cX10_walk 11 = .ok (.getfield 191, 3) := by decide +kernel
theorem dX10_walk_14 : decode cX10_walk 14 = .ok (.bipush 60, 2) := by decide +kernel
theorem dX10_walk_16 : decode cX10_walk 16 = .ok (.invokevirtual 230, 3) := by decide +kernel
theorem dX10_walk_19 : decode cX10_walk 19 = .ok (.aload_n 0, 1) := by decide +kernel
theorem dX10_walk_20 : decode cX10_walk 20 = .ok (.iconst 0, 1) := by decide +kernel
theorem dX10_walk_21 : decode cX10_walk 21 = .ok (.putfield 191, 3) := by decide +kernel
theorem dX10_walk_24 : decode cX10_walk 24 = .ok (.iload_n 1, 1) := by decide +kernel
theorem dX10_walk_25 : decode cX10_walk 25 = .ok (.iconst 0, 1) := by decide +kernel
theorem dX10_walk_26 : decode cX10_walk 26 = .ok (.iconst 3, 1) := by decide +kernel
theorem dX10_walk_27 : decode cX10_walk 27 = .ok (.invokestatic 151, 3) := by decide +kernel
theorem dX10_walk_30 : decode cX10_walk 30 = .ok (.ifCond .ne 6, 3) := by decide +kernel
theorem dX10_walk_33 : decode cX10_walk 33 = .ok (.bipush (-100), 2) := by decide +kernel
theorem dX10_walk_35 : decode cX10_walk 35 = .ok (.ireturn, 1) := by decide +kernel
theorem dX10_walk_36 : decode cX10_walk 36 = .ok (.aload_n 0, 1) := by decide +kernel
theorem dX10_walk_37 : decode cX10_walk 37 = .ok (.iconst 0, 1) := by decide +kernel
theorem dX10_walk_38 : decode cX10_walk 38 = .ok (.putfield 224, 3) := by decide +kernel
theorem dX10_walk_41 : decode cX10_walk 41 = .ok (.aload_n 0, 1) := by decide +kernel
theorem dX10_walk_42 : decode cX10_walk 42 = .ok (.iconst 0, 1) := by decide +kernel
theorem dX10_walk_43 : decode cX10_walk 43 = .ok (.putfield 227, 3) := by decide +kernel
theorem dX10_walk_46 : decode cX10_walk 46 = .ok (.iconst 0, 1) := by decide +kernel
theorem dX10_walk_47 : decode cX10_walk 47 = .ok (.istore_n 2, 1) := by decide +kernel
theorem dX10_walk_48 : decode cX10_walk 48 = .ok (.aload_n 0, 1) := by decide +kernel
theorem dX10_walk_49 : decode cX10_walk 49 = .ok (.getfield 197, 3) := by decide +kernel
theorem dX10_walk_52 : decode cX10_walk 52 = .ok (.ifCond .le 7, 3) := by decide +kernel
theorem dX10_walk_55 : decode cX10_walk 55 = .ok (.iconst 1, 1) := by decide +kernel
theorem dX10_walk_56 : decode cX10_walk 56 = .ok (.goto 4, 3) := by decide +kernel
theorem dX10_walk_59 : decode cX10_walk 59 = .ok (.iconst 0, 1) := by decide +kernel
theorem dX10_walk_60 : decode cX10_walk 60 = .ok (.istore_n 3, 1) := by decide +kernel
theorem dX10_walk_61 : decode cX10_walk 61 = .ok (.iload_n 3, 1) := by decide +kernel
theorem dX10_walk_62 : decode cX10_walk 62 = .ok (.ifCond .eq 396, 3) := by decide +kernel
theorem dX10_walk_65 : decode cX10_walk 65 = .ok (.aload_n 0, 1) := by decide +kernel
theorem dX10_walk_66 : decode cX10_walk 66 = .ok (.invokevirtual 213, 3) := by decide +kernel
theorem dX10_walk_69 : decode cX10_walk 69 = .ok (.istore 4, 2) := by decide +kernel
theorem dX10_walk_71 : decode cX10_walk 71 = .ok (.aload_n 0, 1) := by decide +kernel
theorem dX10_walk_72 : decode cX10_walk 72 = .ok (.dup, 1) := by decide +kernel
theorem dX10_walk_73 : decode cX10_walk 73 = .ok (.getfield 203, 3) := by decide +kernel
theorem dX10_walk_76 : decode cX10_walk 76 = .ok (.iconst 1, 1) := by decide +kernel
theorem dX10_walk_77 : decode cX10_walk 77 = .ok (.iadd, 1) := by decide +kernel
theorem dX10_walk_78 : decode cX10_walk 78 = .ok (.putfield 203, 3) := by decide +kernel
theorem dX10_walk_81 : decode cX10_walk 81 = .ok (.iload 4, 2) := by decide +kernel
theorem dX10_walk_83 : decode cX10_walk 83 = .ok (.bipush 103, 2) := by decide +kernel
theorem dX10_walk_85 : decode cX10_walk 85 = .ok (.if_icmp .ne 170, 3) := by decide +kernel
theorem dX10_walk_88 : decode cX10_walk 88 = .ok (.aload_n 0, 1) := by decide +kernel
theorem dX10_walk_89 : decode cX10_walk 89 = .ok (.iconst 0, 1) := by decide +kernel
theorem dX10_walk_90 : decode cX10_walk 90 = .ok (.sipush 200, 3) := by decide +kernel
theorem dX10_walk_93 : decode cX10_walk 93 = .ok (.invokevirtual 234, 3) := by decide +kernel
theorem dX10_walk_96 : decode cX10_walk 96 = .ok (.istore 5, 2) := by decide +kernel
theorem dX10_walk_98 : decode cX10_walk 98 = .ok (.aload_n 0, 1) := by decide +kernel
theorem dX10_walk_99 : decode cX10_walk 99 = .ok (.bipush 44, 2) := by decide +kernel
theorem dX10_walk_101 : decode cX10_walk 101 = .ok (.invokevirtual 237, 3) := by decide +kernel
theorem dX10_walk_104 : decode cX10_walk 104 = .ok (.aload_n 0, 1) := by decide +kernel
theorem dX10_walk_105 : decode cX10_walk 105 = .ok (.iconst 2, 1) := by decide +kernel
theorem dX10_walk_106 : decode cX10_walk 106 = .ok (.bipush 40, 2) := by decide +kernel
theorem dX10_walk_108 : decode cX10_walk 108 = .ok (.invokevirtual 234, 3) := by decide +kernel
theorem dX10_walk_111 : decode cX10_walk 111 = .ok (.istore 6, 2) := by decide +kernel
theorem dX10_walk_113 : decode cX10_walk 113 = .ok (.aload_n 0, 1) := by decide +kernel
theorem dX10_walk_114 : decode cX10_walk 114 = .ok (.bipush 44, 2) := by decide +kernel
theorem dX10_walk_116 : decode cX10_walk 116 = .ok (.invokevirtual 237, 3) := by decide +kernel
theorem dX10_walk_119 : decode cX10_walk 119 = .ok (.aload_n 0, 1) := by decide +kernel
theorem dX10_walk_120 : decode cX10_walk 120 = .ok (.iconst 0, 1) := by decide +kernel
theorem dX10_walk_121 : decode cX10_walk 121 = .ok (.sipush 200, 3) := by decide +kernel
theorem dX10_walk_124 : decode cX10_walk 124 = .ok (.invokevirtual 234, 3) := by decide +kernel
theorem dX10_walk_127 : decode cX10_walk 127 = .ok (.istore 7, 2) := by decide +kernel
theorem dX10_walk_129 : decode cX10_walk 129 = .ok (.aload_n 0, 1) := by decide +kernel
theorem dX10_walk_130 : decode cX10_walk 130 = .ok (.bipush 42, 2) := by decide +kernel
theorem dX10_walk_132 : decode cX10_walk 132 = .ok (.invokevirtual 237, 3) := by decide +kernel
theorem dX10_walk_135 : decode cX10_walk 135 = .ok (.aload_n 0, 1) := by decide +kernel
theorem dX10_walk_136 : decode cX10_walk 136 = .ok (.iconst 1, 1) := by decide +kernel
theorem dX10_walk_137 : decode cX10_walk 137 = .ok (.bipush 50, 2) := by decide +kernel
theorem dX10_walk_139 : decode cX10_walk 139 = .ok (.invokevirtual 234, 3) := by decide +kernel
theorem dX10_walk_142 : decode cX10_walk 142 = .ok (.istore 8, 2) := by decide +kernel
theorem dX10_walk_144 : decode cX10_walk 144 = .ok (.aload_n 0, 1) := by decide +kernel
theorem dX10_walk_145 : decode cX10_walk 145 = .ok (.getfield 224, 3) := by decide +kernel
theorem dX10_walk_148 : decode cX10_walk 148 = .ok (.iload 6, 2) := by decide +kernel
theorem dX10_walk_150 : decode cX10_walk 150 = .ok (.iload 8, 2) := by decide +kernel
theorem dX10_walk_152 : decode cX10_walk 152 = .ok (.imul, 1) := by decide +kernel
theorem dX10_walk_153 : decode cX10_walk 153 = .ok (.iadd, 1) := by decide +kernel
theorem dX10_walk_154 : decode cX10_walk 154 = .ok (.sipush 1000, 3) := by decide +kernel
theorem dX10_walk_157 : decode cX10_walk 157 = .ok (.if_icmp .le 13, 3) := by decide +kernel
theorem dX10_walk_160 : decode cX10_walk 160 = .ok (.aload_n 0, 1) := by decide +kernel
theorem dX10_walk_161 : decode cX10_walk 161 = .ok (.aload_n 0, 1) := by decide +kernel
theorem dX10_walk_162 : decode cX10_walk 162 = .ok (.getfield 203, 3) := by decide +kernel
theorem dX10_walk_165 : decode cX10_walk 165 = .ok (.iconst 1, 1) := by decide +kernel
theorem dX10_walk_166 : decode cX10_walk 166 = .ok (.isub, 1) := by decide +kernel
theorem dX10_walk_167 : decode cX10_walk 167 = .ok (.invokevirtual 220, 3) := by decide +kernel
theorem dX10_walk_170 : decode cX10_walk 170 = .ok (.iconst 0, 1) := by decide +kernel
theorem dX10_walk_171 : decode cX10_walk 171 = .ok (.istore 9, 2) := by decide +kernel
theorem dX10_walk_173 : decode cX10_walk 173 = .ok (.iload 9, 2) := by decide +kernel
theorem dX10_walk_175 : decode cX10_walk 175 = .ok (.iload 6, 2) := by decide +kernel
theorem dX10_walk_177 : decode cX10_walk 177 = .ok (.iload 8, 2) := by decide +kernel
theorem dX10_walk_179 : decode cX10_walk 179 = .ok (.imul, 1) := by decide +kernel
theorem dX10_walk_180 : decode cX10_walk 180 = .ok (.if_icmp .ge 67, 3) := by decide +kernel
theorem dX10_walk_183 : decode cX10_walk 183 = .ok (.aload_n 0, 1) := by decide +kernel
theorem dX10_walk_184 : decode cX10_walk 184 = .ok (.invokevirtual 209, 3) := by decide +kernel
theorem dX10_walk_187 : decode cX10_walk 187 = .ok (.ifCond .eq 60, 3) := by decide +kernel
theorem dX10_walk_190 : decode cX10_walk 190 = .ok (.aload_n 0, 1) := by decide +kernel
theorem dX10_walk_191 : decode cX10_walk 191 = .ok (.iload 9, 2) := by decide +kernel
theorem dX10_walk_193 : decode cX10_walk 193 = .ok (.iload 6, 2) := by decide +kernel
theorem dX10_walk_195 : decode cX10_walk 195 = .ok (.irem, 1) := by decide +kernel
theorem dX10_walk_196 : decode cX10_walk 196 = .ok (.iload 6, 2) := by decide +kernel
theorem dX10_walk_198 : decode cX10_walk 198 = .ok (.iconst 2, 1) := by decide +kernel
theorem dX10_walk_199 : decode cX10_walk 199 = .ok (.idiv, 1) := by decide +kernel
theorem dX10_walk_200 : decode cX10_walk 200 = .ok (.if_icmp .ge 8, 3) := by decide +kernel
theorem dX10_walk_203 : decode cX10_walk 203 = .ok (.iload 5, 2) := by decide +kernel
theorem dX10_walk_205 : decode cX10_walk 205 = .ok (.goto 6, 3) := by decide +kernel
theorem dX10_walk_208 : decode cX10_walk 208 = .ok (.iload 5, 2) := by decide +kernel
theorem dX10_walk_210 : decode cX10_walk 210 = .ok (.ineg, 1) := by decide +kernel
theorem dX10_walk_211 : decode cX10_walk 211 = .ok (.iload_n 2, 1) := by decide +kernel
theorem dX10_walk_212 : decode cX10_walk 212 = .ok (.iload 9, 2) := by decide +kernel
theorem dX10_walk_214 : decode cX10_walk 214 = .ok (.iload 6, 2) := by decide +kernel
theorem dX10_walk_216 : decode cX10_walk 216 = .ok (.idiv, 1) := by decide +kernel
theorem dX10_walk_217 : decode cX10_walk 217 = .ok (.iadd, 1) := by decide +kernel
theorem dX10_walk_218 : decode cX10_walk 218 = .ok (.iconst 2, 1) := by decide +kernel
theorem dX10_walk_219 : decode cX10_walk 219 = .ok (.irem, 1) := by decide +kernel
theorem dX10_walk_220 : decode cX10_walk 220 = .ok (.ifCond .ne 8, 3) := by decide +kernel
theorem dX10_walk_223 : decode cX10_walk 223 = .ok (.iload 7, 2) := by decide +kernel
theorem dX10_walk_225 : decode cX10_walk 225 = .ok (.goto 6, 3) := by decide +kernel
theorem dX10_walk_228 : decode cX10_walk 228 = .ok (.iload 7, 2) := by decide +kernel
theorem dX10_walk_230 : decode cX10_walk 230 = .ok (.ineg, 1) := by decide +kernel
theorem dX10_walk_231 : decode cX10_walk 231 = .ok (.iload_n 2, 1) := by decide +kernel
theorem dX10_walk_232 : decode cX10_walk 232 = .ok (.iload 9, 2) := by decide +kernel
theorem dX10_walk_234 : decode cX10_walk 234 = .ok (.iload 6, 2) := by decide +kernel
theorem dX10_walk_236 : decode cX10_walk 236 = .ok (.idiv, 1) := by decide +kernel
theorem dX10_walk_237 : decode cX10_walk 237 = .ok (.iadd, 1) := by decide +kernel
theorem dX10_walk_238 : decode cX10_walk 238 = .ok (.invokevirtual 241, 3) := by decide +kernel
theorem dX10_walk_241 : decode cX10_walk 241 = .ok (.iinc 9 1, 3) := by decide +kernel
theorem dX10_walk_244 : decode cX10_walk 244 = .ok (.goto (-71), 3) := by decide +kernel
theorem dX10_walk_247 : decode cX10_walk 247 = .ok (.iload_n 2, 1) := by decide +kernel
theorem dX10_walk_248 : decode cX10_walk 248 = .ok (.iload 8, 2) := by decide +kernel
theorem dX10_walk_250 : decode cX10_walk 250 = .ok (.iadd, 1) := by decide +kernel
theorem dX10_walk_251 : decode cX10_walk 251 = .ok (.istore_n 2, 1) := by decide +kernel
theorem dX10_walk_252 : decode cX10_walk 252 = .ok (.goto 182, 3) := by decide +kernel
theorem dX10_walk_255 : decode cX10_walk 255 = .ok (.iload 4, 2) := by decide +kernel
theorem dX10_walk_257 : decode cX10_walk 257 = .ok (.bipush 115, 2) := by decide +kernel
theorem dX10_walk_259 : decode cX10_walk 259 = .ok (.if_icmp .ne 68, 3) := by decide +kernel
theorem dX10_walk_262 : decode cX10_walk 262 = .ok (.aload_n 0, 1) := by decide +kernel
theorem dX10_walk_263 : decode cX10_walk 263 = .ok (.iconst 1, 1) := by decide +kernel
theorem dX10_walk_264 : decode cX10_walk 264 = .ok (.bipush 99, 2) := by decide +kernel
theorem dX10_walk_266 : decode cX10_walk 266 = .ok (.invokevirtual 234, 3) := by decide +kernel
theorem dX10_walk_269 : decode cX10_walk 269 = .ok (.istore 5, 2) := by decide +kernel
theorem dX10_walk_271 : decode cX10_walk 271 = .ok (.aload_n 0, 1) := by decide +kernel
theorem dX10_walk_272 : decode cX10_walk 272 = .ok (.getfield 224, 3) := by decide +kernel
theorem dX10_walk_275 : decode cX10_walk 275 = .ok (.iload 5, 2) := by decide +kernel
theorem dX10_walk_277 : decode cX10_walk 277 = .ok (.iadd, 1) := by decide +kernel
theorem dX10_walk_278 : decode cX10_walk 278 = .ok (.sipush 1000, 3) := by decide +kernel
theorem dX10_walk_281 : decode cX10_walk 281 = .ok (.if_icmp .le 13, 3) := by decide +kernel
theorem dX10_walk_284 : decode cX10_walk 284 = .ok (.aload_n 0, 1) := by decide +kernel
theorem dX10_walk_285 : decode cX10_walk 285 = .ok (.aload_n 0, 1) := by decide +kernel
theorem dX10_walk_286 : decode cX10_walk 286 = .ok (.getfield 203, 3) := by decide +kernel
theorem dX10_walk_289 : decode cX10_walk 289 = .ok (.iconst 1, 1) := by decide +kernel
theorem dX10_walk_290 : decode cX10_walk 290 = .ok (.isub, 1) := by decide +kernel
theorem dX10_walk_291 : decode cX10_walk 291 = .ok (.invokevirtual 220, 3) := by decide +kernel
theorem dX10_walk_294 : decode cX10_walk 294 = .ok (.iconst 0, 1) := by decide +kernel
theorem dX10_walk_295 : decode cX10_walk 295 = .ok (.istore 6, 2) := by decide +kernel
theorem dX10_walk_297 : decode cX10_walk 297 = .ok (.iload 6, 2) := by decide +kernel
theorem dX10_walk_299 : decode cX10_walk 299 = .ok (.iload 5, 2) := by decide +kernel
theorem dX10_walk_301 : decode cX10_walk 301 = .ok (.if_icmp .ge 23, 3) := by decide +kernel
theorem dX10_walk_304 : decode cX10_walk 304 = .ok (.aload_n 0, 1) := by decide +kernel
theorem dX10_walk_305 : decode cX10_walk 305 = .ok (.invokevirtual 209, 3) := by decide +kernel
theorem dX10_walk_308 : decode cX10_walk 308 = .ok (.ifCond .eq 16, 3) := by decide +kernel
theorem dX10_walk_311 : decode cX10_walk 311 = .ok (.aload_n 0, 1) := by decide +kernel
theorem dX10_walk_312 : decode cX10_walk 312 = .ok (.iconst 0, 1) := by decide +kernel
theorem dX10_walk_313 : decode cX10_walk 313 = .ok (.iconst 0, 1) := by decide +kernel
theorem dX10_walk_314 : decode cX10_walk 314 = .ok (.iconst (-1), 1) := by decide +kernel
theorem dX10_walk_315 : decode cX10_walk 315 = .ok (.invokevirtual 241, 3) := by decide +kernel
theorem dX10_walk_318 : decode cX10_walk 318 = .ok (.iinc 6 1, 3) := by decide +kernel
theorem dX10_walk_321 : decode cX10_walk 321 = .ok (.goto (-24), 3) := by decide +kernel
theorem dX10_walk_324 : decode cX10_walk 324 = .ok (.goto 110, 3) := by decide +kernel
theorem dX10_walk_327 : decode cX10_walk 327 = .ok (.iload 4, 2) := by decide +kernel
theorem dX10_walk_329 : decode cX10_walk 329 = .ok (.bipush 106, 2) := by decide +kernel
theorem dX10_walk_331 : decode cX10_walk 331 = .ok (.if_icmp .ne 72, 3) := by decide +kernel
theorem dX10_walk_334 : decode cX10_walk 334 = .ok (.aload_n 0, 1) := by decide +kernel
theorem dX10_walk_335 : decode cX10_walk 335 = .ok (.bipush 45, 2) := by decide +kernel
theorem dX10_walk_337 : decode cX10_walk 337 = .ok (.invokevirtual 216, 3) := by decide +kernel
theorem dX10_walk_340 : decode cX10_walk 340 = .ok (.istore 5, 2) := by decide +kernel
theorem dX10_walk_342 : decode cX10_walk 342 = .ok (.aload_n 0, 1) := by decide +kernel
theorem dX10_walk_343 : decode cX10_walk 343 = .ok (.iconst 0, 1) := by decide +kernel
theorem dX10_walk_344 : decode cX10_walk 344 = .ok (.sipush 200, 3) := by decide +kernel
theorem dX10_walk_347 : decode cX10_walk 347 = .ok (.invokevirtual 234, 3) := by decide +kernel
theorem dX10_walk_350 : decode cX10_walk 350 = .ok (.istore 6, 2) := by decide +kernel
theorem dX10_walk_352 : decode cX10_walk 352 = .ok (.aload_n 0, 1) := by decide +kernel
theorem dX10_walk_353 : decode cX10_walk 353 = .ok (.getfield 224, 3) := by decide +kernel
theorem dX10_walk_356 : decode cX10_walk 356 = .ok (.iconst 1, 1) := by decide +kernel
theorem dX10_walk_357 : decode cX10_walk 357 = .ok (.iadd, 1) := by decide +kernel
theorem dX10_walk_358 : decode cX10_walk 358 = .ok (.sipush 1000, 3) := by decide +kernel
theorem dX10_walk_361 : decode cX10_walk 361 = .ok (.if_icmp .le 13, 3) := by decide +kernel
theorem dX10_walk_364 : decode cX10_walk 364 = .ok (.aload_n 0, 1) := by decide +kernel
theorem dX10_walk_365 : decode cX10_walk 365 = .ok (.aload_n 0, 1) := by decide +kernel
theorem dX10_walk_366 : decode cX10_walk 366 = .ok (.getfield 203, 3) := by decide +kernel
theorem dX10_walk_369 : decode cX10_walk 369 = .ok (.iconst 1, 1) := by decide +kernel
theorem dX10_walk_370 : decode cX10_walk 370 = .ok (.isub, 1) := by decide +kernel
theorem dX10_walk_371 : decode cX10_walk 371 = .ok (.invokevirtual 220, 3) := by decide +kernel
theorem dX10_walk_374 : decode cX10_walk 374 = .ok (.aload_n 0, 1) := by decide +kernel
theorem dX10_walk_375 : decode cX10_walk 375 = .ok (.invokevirtual 209, 3) := by decide +kernel
theorem dX10_walk_378 : decode cX10_walk 378 = .ok (.ifCond .eq 22, 3) := by decide +kernel
theorem dX10_walk_381 : decode cX10_walk 381 = .ok (.aload_n 0, 1) := by decide +kernel
theorem dX10_walk_382 : decode cX10_walk 382 = .ok (.iload 5, 2) := by decide +kernel
theorem dX10_walk_384 : decode cX10_walk 384 = .ok (.ifCond .eq 9, 3) := by decide +kernel
theorem dX10_walk_387 : decode cX10_walk 387 = .ok (.iload 6, 2) := by decide +kernel
theorem dX10_walk_389 : decode cX10_walk 389 = .ok (.ineg, 1) := by decide +kernel
theorem dX10_walk_390 : decode cX10_walk 390 = .ok (.goto 5, 3) := by decide +kernel
theorem dX10_walk_393 : decode cX10_walk 393 = .ok (.iload 6, 2) := by decide +kernel
theorem dX10_walk_395 : decode cX10_walk 395 = .ok (.iconst 0, 1) := by decide +kernel
theorem dX10_walk_396 : decode cX10_walk 396 = .ok (.iconst (-1), 1) := by decide +kernel
theorem dX10_walk_397 : decode cX10_walk 397 = .ok (.invokevirtual 241, 3) := by decide +kernel
theorem dX10_walk_400 : decode cX10_walk 400 = .ok (.goto 34, 3) := by decide +kernel
theorem dX10_walk_403 : decode cX10_walk 403 = .ok (.iload 4, 2) := by decide +kernel
theorem dX10_walk_405 : decode cX10_walk 405 = .ok (.bipush 119, 2) := by decide +kernel
theorem dX10_walk_407 : decode cX10_walk 407 = .ok (.if_icmp .ne 17, 3) := by decide +kernel
theorem dX10_walk_410 : decode cX10_walk 410 = .ok (.aload_n 0, 1) := by decide +kernel
theorem dX10_walk_411 : decode cX10_walk 411 = .ok (.aload_n 0, 1) := by decide +kernel
theorem dX10_walk_412 : decode cX10_walk 412 = .ok (.iconst 0, 1) := by decide +kernel
theorem dX10_walk_413 : decode cX10_walk 413 = .ok (.bipush 50, 2) := by decide +kernel
theorem dX10_walk_415 : decode cX10_walk 415 = .ok (.invokevirtual 234, 3) := by decide +kernel
theorem dX10_walk_418 : decode cX10_walk 418 = .ok (.putfield 227, 3) := by decide +kernel
theorem dX10_walk_421 : decode cX10_walk 421 = .ok (.goto 13, 3) := by decide +kernel
theorem dX10_walk_424 : decode cX10_walk 424 = .ok (.aload_n 0, 1) := by decide +kernel
theorem dX10_walk_425 : decode cX10_walk 425 = .ok (.aload_n 0, 1) := by decide +kernel
theorem dX10_walk_426 : decode cX10_walk 426 = .ok (.getfield 203, 3) := by decide +kernel
theorem dX10_walk_429 : decode cX10_walk 429 = .ok (.iconst 1, 1) := by decide +kernel
theorem dX10_walk_430 : decode cX10_walk 430 = .ok (.isub, 1) := by decide +kernel
theorem dX10_walk_431 : decode cX10_walk 431 = .ok (.invokevirtual 220, 3) := by decide +kernel
theorem dX10_walk_434 : decode cX10_walk 434 = .ok (.aload_n 0, 1) := by decide +kernel
theorem dX10_walk_435 : decode cX10_walk 435 = .ok (.invokevirtual 209, 3) := by decide +kernel
theorem dX10_walk_438 : decode cX10_walk 438 = .ok (.ifCond .ne 10, 3) := by decide +kernel
theorem dX10_walk_441 : decode cX10_walk 441 = .ok (.iconst (-1), 1) := by decide +kernel
theorem dX10_walk_442 : decode cX10_walk 442 = .ok (.aload_n 0, 1) := by decide +kernel
theorem dX10_walk_443 : decode cX10_walk 443 = .ok (.getfield 206, 3) := by decide +kernel
theorem dX10_walk_446 : decode cX10_walk 446 = .ok (.isub, 1) := by decide +kernel
theorem dX10_walk_447 : decode cX10_walk 447 = .ok (.ireturn, 1) := by decide +kernel
theorem dX10_walk_448 : decode cX10_walk 448 = .ok (.aload_n 0, 1) := by decide +kernel
theorem dX10_walk_449 : decode cX10_walk 449 = .ok (.bipush 59, 2) := by decide +kernel
theorem dX10_walk_451 : decode cX10_walk 451 = .ok (.invokevirtual 216, 3) := by decide +kernel
theorem dX10_walk_454 : decode cX10_walk 454 = .ok (.istore_n 3, 1) := by decide +kernel
theorem dX10_walk_455 : decode cX10_walk 455 = .ok (.goto (-394), 3) := by decide +kernel
theorem dX10_walk_458 : decode cX10_walk 458 = .ok (.aload_n 0, 1) := by decide +kernel
theorem dX10_walk_459 : decode cX10_walk 459 = .ok (.getfield 203, 3) := by decide +kernel
theorem dX10_walk_462 : decode cX10_walk 462 = .ok (.aload_n 0, 1) := by decide +kernel
theorem dX10_walk_463 : decode cX10_walk 463 = .ok (.getfield 197, 3) := by decide +kernel
theorem dX10_walk_466 : decode cX10_walk 466 = .ok (.if_icmp .ge 10, 3) := by decide +kernel
theorem dX10_walk_469 : decode cX10_walk 469 = .ok (.iconst (-1), 1) := by decide +kernel
theorem dX10_walk_470 : decode cX10_walk 470 = .ok (.aload_n 0, 1) := by decide +kernel
theorem dX10_walk_471 : decode cX10_walk 471 = .ok (.getfield 203, 3) := by decide +kernel
theorem dX10_walk_474 : decode cX10_walk 474 = .ok (.isub, 1) := by decide +kernel
theorem dX10_walk_475 : decode cX10_walk 475 = .ok (.ireturn, 1) := by decide +kernel
theorem dX10_walk_476 : decode cX10_walk 476 = .ok (.aload_n 0, 1) := by decide +kernel
theorem dX10_walk_477 : decode cX10_walk 477 = .ok (.getfield 49, 3) := by decide +kernel
theorem dX10_walk_480 : decode cX10_walk 480 = .ok (.iload_n 1, 1) := by decide +kernel
theorem dX10_walk_481 : decode cX10_walk 481 = .ok (.aload_n 0, 1) := by decide +kernel
theorem dX10_walk_482 : decode cX10_walk 482 = .ok (.getfield 224, 3) := by decide +kernel
theorem dX10_walk_485 : decode cX10_walk 485 = .ok (.iastore, 1) := by decide +kernel
theorem dX10_walk_486 : decode cX10_walk 486 = .ok (.aload_n 0, 1) := by decide +kernel
theorem dX10_walk_487 : decode cX10_walk 487 = .ok (.getfield 52, 3) := by decide +kernel
theorem dX10_walk_490 : decode cX10_walk 490 = .ok (.iload_n 1, 1) := by decide +kernel
theorem dX10_walk_491 : decode cX10_walk 491 = .ok (.iload_n 2, 1) := by decide +kernel
theorem dX10_walk_492 : decode cX10_walk 492 = .ok (.iastore, 1) := by decide +kernel
theorem dX10_walk_493 : decode cX10_walk 493 = .ok (.iconst 0, 1) := by decide +kernel
theorem dX10_walk_494 : decode cX10_walk 494 = .ok (.istore 4, 2) := by decide +kernel
theorem dX10_walk_496 : decode cX10_walk 496 = .ok (.iload 4, 2) := by decide +kernel
theorem dX10_walk_498 : decode cX10_walk 498 = .ok (.aload_n 0, 1) := by decide +kernel
theorem dX10_walk_499 : decode cX10_walk 499 = .ok (.getfield 224, 3) := by decide +kernel
theorem dX10_walk_502 : decode cX10_walk 502 = .ok (.if_icmp .ge 89, 3) := by decide +kernel
theorem dX10_walk_505 : decode cX10_walk 505 = .ok (.aload_n 0, 1) := by decide +kernel
theorem dX10_walk_506 : decode cX10_walk 506 = .ok (.getfield 55, 3) := by decide +kernel
theorem dX10_walk_509 : decode cX10_walk 509 = .ok (.sipush 1000, 3) := by decide +kernel
theorem dX10_walk_512 : decode cX10_walk 512 = .ok (.iload_n 1, 1) := by decide +kernel
theorem dX10_walk_513 : decode cX10_walk 513 = .ok (.imul, 1) := by decide +kernel
theorem dX10_walk_514 : decode cX10_walk 514 = .ok (.iload 4, 2) := by decide +kernel
theorem dX10_walk_516 : decode cX10_walk 516 = .ok (.iadd, 1) := by decide +kernel
theorem dX10_walk_517 : decode cX10_walk 517 = .ok (.aload_n 0, 1) := by decide +kernel
theorem dX10_walk_518 : decode cX10_walk 518 = .ok (.getfield 67, 3) := by decide +kernel
theorem dX10_walk_521 : decode cX10_walk 521 = .ok (.iload 4, 2) := by decide +kernel
theorem dX10_walk_523 : decode cX10_walk 523 = .ok (.iaload, 1) := by decide +kernel
theorem dX10_walk_524 : decode cX10_walk 524 = .ok (.iastore, 1) := by decide +kernel
theorem dX10_walk_525 : decode cX10_walk 525 = .ok (.aload_n 0, 1) := by decide +kernel
theorem dX10_walk_526 : decode cX10_walk 526 = .ok (.getfield 58, 3) := by decide +kernel
theorem dX10_walk_529 : decode cX10_walk 529 = .ok (.sipush 1000, 3) := by decide +kernel
theorem dX10_walk_532 : decode cX10_walk 532 = .ok (.iload_n 1, 1) := by decide +kernel
theorem dX10_walk_533 : decode cX10_walk 533 = .ok (.imul, 1) := by decide +kernel
theorem dX10_walk_534 : decode cX10_walk 534 = .ok (.iload 4, 2) := by decide +kernel
theorem dX10_walk_536 : decode cX10_walk 536 = .ok (.iadd, 1) := by decide +kernel
theorem dX10_walk_537 : decode cX10_walk 537 = .ok (.aload_n 0, 1) := by decide +kernel
theorem dX10_walk_538 : decode cX10_walk 538 = .ok (.getfield 70, 3) := by decide +kernel
theorem dX10_walk_541 : decode cX10_walk 541 = .ok (.iload 4, 2) := by decide +kernel
theorem dX10_walk_543 : decode cX10_walk 543 = .ok (.iaload, 1) := by decide +kernel
theorem dX10_walk_544 : decode cX10_walk 544 = .ok (.iastore, 1) := by decide +kernel
theorem dX10_walk_545 : decode cX10_walk 545 = .ok (.aload_n 0, 1) := by decide +kernel
theorem dX10_walk_546 : decode cX10_walk 546 = .ok (.getfield 61, 3) := by decide +kernel
theorem dX10_walk_549 : decode cX10_walk 549 = .ok (.sipush 1000, 3) := by decide +kernel
theorem dX10_walk_552 : decode cX10_walk 552 = .ok (.iload_n 1, 1) := by decide +kernel
theorem dX10_walk_553 : decode cX10_walk 553 = .ok (.imul, 1) := by decide +kernel
theorem dX10_walk_554 : decode cX10_walk 554 = .ok (.iload 4, 2) := by decide +kernel
theorem dX10_walk_556 : decode cX10_walk 556 = .ok (.iadd, 1) := by decide +kernel
theorem dX10_walk_557 : decode cX10_walk 557 = .ok (.aload_n 0, 1) := by decide +kernel
theorem dX10_walk_558 : decode cX10_walk 558 = .ok (.getfield 73, 3) := by decide +kernel
theorem dX10_walk_561 : decode cX10_walk 561 = .ok (.iload 4, 2) := by decide +kernel
theorem dX10_walk_563 : decode cX10_walk 563 = .ok (.iaload, 1) := by decide +kernel
theorem dX10_walk_564 : decode cX10_walk 564 = .ok (.iastore, 1) := by decide +kernel
theorem dX10_walk_565 : decode cX10_walk 565 = .ok (.aload_n 0, 1) := by decide +kernel
theorem dX10_walk_566 : decode cX10_walk 566 = .ok (.getfield 64, 3) := by decide +kernel
theorem dX10_walk_569 : decode cX10_walk 569 = .ok (.sipush 1000, 3) := by decide +kernel
theorem dX10_walk_572 : decode cX10_walk 572 = .ok (.iload_n 1, 1) := by decide +kernel
theorem dX10_walk_573 : decode cX10_walk 573 = .ok (.imul, 1) := by decide +kernel
theorem dX10_walk_574 : decode cX10_walk 574 = .ok (.iload 4, 2) := by decide +kernel
theorem dX10_walk_576 : decode cX10_walk 576 = .ok (.iadd, 1) := by decide +kernel
theorem dX10_walk_577 : decode cX10_walk 577 = .ok (.aload_n 0, 1) := by decide +kernel
theorem dX10_walk_578 : decode cX10_walk 578 = .ok (.getfield 76, 3) := by decide +kernel
theorem dX10_walk_581 : decode cX10_walk 581 = .ok (.iload 4, 2) := by decide +kernel
theorem dX10_walk_583 : decode cX10_walk 583 = .ok (.iaload, 1) := by decide +kernel
theorem dX10_walk_584 : decode cX10_walk 584 = .ok (.iastore, 1) := by decide +kernel
theorem dX10_walk_585 : decode cX10_walk 585 = .ok (.iinc 4 1, 3) := by decide +kernel
theorem dX10_walk_588 : decode cX10_walk 588 = .ok (.goto (-92), 3) := by decide +kernel
theorem dX10_walk_591 : decode cX10_walk 591 = .ok (.aload_n 0, 1) := by decide +kernel
theorem dX10_walk_592 : decode cX10_walk 592 = .ok (.getfield 224, 3) := by decide +kernel
theorem dX10_walk_595 : decode cX10_walk 595 = .ok (.ireturn, 1) := by decide +kernel
theorem dX10_isWalk_0 : decode cX10_isWalk 0 = .ok (.iload_n 0, 1) := by decide +kernel
theorem dX10_isWalk_1 : decode cX10_isWalk 1 = .ok (.iconst 0, 1) := by decide +kernel
theorem dX10_isWalk_2 : decode cX10_isWalk 2 = .ok (.iconst 3, 1) := by decide +kernel
theorem dX10_isWalk_3 : decode cX10_isWalk 3 = .ok (.invokestatic 151, 3) := by decide +kernel
theorem dX10_isWalk_6 : decode cX10_isWalk 6 = .ok (.ireturn, 1) := by decide +kernel
theorem dX10_steps_0 : decode cX10_steps 0 = .ok (.aload_n 0, 1) := by decide +kernel
theorem dX10_steps_1 : decode cX10_steps 1 = .ok (.iconst 0, 1) := by decide +kernel
theorem dX10_steps_2 : decode cX10_steps 2 = .ok (.putfield 142, 3) := by decide +kernel
theorem dX10_steps_5 : decode cX10_steps 5 = .ok (.iload_n 1, 1) := by decide +kernel
theorem dX10_steps_6 : decode cX10_steps 6 = .ok (.invokestatic 245, 3) := by decide +kernel
theorem dX10_steps_9 : decode cX10_steps 9 = .ok (.ifCond .ne 5, 3) := by decide +kernel
theorem dX10_steps_12 : decode cX10_steps 12 = .ok (.iconst (-1), 1) := by decide +kernel
theorem dX10_steps_13 : decode cX10_steps 13 = .ok (.ireturn, 1) := by decide +kernel
theorem dX10_steps_14 : decode cX10_steps 14 = .ok (.iconst 0, 1) := by decide +kernel
theorem dX10_steps_15 : decode cX10_steps 15 = .ok (.istore_n 2, 1) := by decide +kernel
theorem dX10_steps_16 : decode cX10_steps 16 = .ok (.iconst 0, 1) := by decide +kernel
theorem dX10_steps_17 : decode cX10_steps 17 = .ok (.istore_n 3, 1) := by decide +kernel
theorem dX10_steps_18 : decode cX10_steps 18 = .ok (.iconst 0, 1) := by decide +kernel
theorem dX10_steps_19 : decode cX10_steps 19 = .ok (.istore 4, 2) := by decide +kernel
theorem dX10_steps_21 : decode cX10_steps 21 = .ok (.iload 4, 2) := by decide +kernel
theorem dX10_steps_23 : decode cX10_steps 23 = .ok (.aload_n 0, 1) := by decide +kernel
theorem dX10_steps_24 : decode cX10_steps 24 = .ok (.getfield 49, 3) := by decide +kernel
theorem dX10_steps_27 : decode cX10_steps 27 = .ok (.iload_n 1, 1) := by decide +kernel
theorem dX10_steps_28 : decode cX10_steps 28 = .ok (.iaload, 1) := by decide +kernel
theorem dX10_steps_29 : decode cX10_steps 29 = .ok (.if_icmp .ge 47, 3) := by decide +kernel
theorem dX10_steps_32 : decode cX10_steps 32 = .ok (.iload_n 2, 1) := by decide +kernel
theorem dX10_steps_33 : decode cX10_steps 33 = .ok (.aload_n 0, 1) := by decide +kernel
theorem dX10_steps_34 : decode cX10_steps 34 = .ok (.getfield 55, 3) := by decide +kernel
theorem dX10_steps_37 : decode cX10_steps 37 = .ok (.sipush 1000, 3) := by decide +kernel
theorem dX10_steps_40 : decode cX10_steps 40 = .ok (.iload_n 1, 1) := by decide +kernel
theorem dX10_steps_41 : decode cX10_steps 41 = .ok (.imul, 1) := by decide +kernel
theorem dX10_steps_42 : decode cX10_steps 42 = .ok (.iload 4, 2) := by decide +kernel
theorem dX10_steps_44 : decode cX10_steps 44 = .ok (.iadd, 1) := by decide +kernel
theorem dX10_steps_45 : decode cX10_steps 45 = .ok (.iaload, 1) := by decide +kernel
theorem dX10_steps_46 : decode cX10_steps 46 = .ok (.invokestatic 248, 3) := by decide +kernel
theorem dX10_steps_49 : decode cX10_steps 49 = .ok (.iadd, 1) := by decide +kernel
theorem dX10_steps_50 : decode cX10_steps 50 = .ok (.istore_n 2, 1) := by decide +kernel
theorem dX10_steps_51 : decode cX10_steps 51 = .ok (.iload_n 3, 1) := by decide +kernel
theorem dX10_steps_52 : decode cX10_steps 52 = .ok (.aload_n 0, 1) := by decide +kernel
theorem dX10_steps_53 : decode cX10_steps 53 = .ok (.getfield 58, 3) := by decide +kernel
theorem dX10_steps_56 : decode cX10_steps 56 = .ok (.sipush 1000, 3) := by decide +kernel
theorem dX10_steps_59 : decode cX10_steps 59 = .ok (.iload_n 1, 1) := by decide +kernel
theorem dX10_steps_60 : decode cX10_steps 60 = .ok (.imul, 1) := by decide +kernel
theorem dX10_steps_61 : decode cX10_steps 61 = .ok (.iload 4, 2) := by decide +kernel
theorem dX10_steps_63 : decode cX10_steps 63 = .ok (.iadd, 1) := by decide +kernel
theorem dX10_steps_64 : decode cX10_steps 64 = .ok (.iaload, 1) := by decide +kernel
theorem dX10_steps_65 : decode cX10_steps 65 = .ok (.invokestatic 248, 3) := by decide +kernel
theorem dX10_steps_68 : decode cX10_steps 68 = .ok (.iadd, 1) := by decide +kernel
theorem dX10_steps_69 : decode cX10_steps 69 = .ok (.istore_n 3, 1) := by decide +kernel
theorem dX10_steps_70 : decode cX10_steps 70 = .ok (.iinc 4 1, 3) := by decide +kernel
theorem dX10_steps_73 : decode cX10_steps 73 = .ok (.goto (-52), 3) := by decide +kernel
theorem dX10_steps_76 : decode cX10_steps 76 = .ok (.aload_n 0, 1) := by decide +kernel
theorem dX10_steps_77 : decode cX10_steps 77 = .ok (.iconst 0, 1) := by decide +kernel
theorem dX10_steps_78 : decode cX10_steps 78 = .ok (.putfield 145, 3) := by decide +kernel
theorem dX10_steps_81 : decode cX10_steps 81 = .ok (.aload_n 0, 1) := by decide +kernel
theorem dX10_steps_82 : decode cX10_steps 82 = .ok (.aload_n 0, 1) := by decide +kernel
theorem dX10_steps_83 : decode cX10_steps 83 = .ok (.getfield 49, 3) := by decide +kernel
theorem dX10_steps_86 : decode cX10_steps 86 = .ok (.iload_n 1, 1) := by decide +kernel
theorem dX10_steps_87 : decode cX10_steps 87 = .ok (.iaload, 1) := by decide +kernel
theorem dX10_steps_88 : decode cX10_steps 88 = .ok (.i2l, 1) := by decide +kernel
theorem dX10_steps_89 : decode cX10_steps 89 = .ok (.invokevirtual 252, 3) := by decide +kernel
theorem dX10_steps_92 : decode cX10_steps 92 = .ok (.aload_n 0, 1) := by decide +kernel
theorem dX10_steps_93 : decode cX10_steps 93 = .ok (.iload_n 2, 1) := by decide +kernel
theorem dX10_steps_94 : decode cX10_steps 94 = .ok (.i2l, 1) := by decide +kernel
theorem dX10_steps_95 : decode cX10_steps 95 = .ok (.invokevirtual 252, 3) := by decide +kernel
theorem dX10_steps_98 : decode cX10_steps 98 = .ok (.aload_n 0, 1) := by decide +kernel
theorem dX10_steps_99 : decode cX10_steps 99 = .ok (.iload_n 3, 1) := by decide +kernel
theorem dX10_steps_100 : decode cX10_steps 100 = .ok (.i2l, 1) := by decide +kernel
theorem dX10_steps_101 : decode cX10_steps 101 = .ok (.invokevirtual 252, 3) := by decide +kernel
theorem dX10_steps_104 : decode cX10_steps 104 = .ok (.aload_n 0, 1) := by decide +kernel
theorem dX10_steps_105 : decode cX10_steps 105 = .ok (.getfield 52, 3) := by decide +kernel
theorem dX10_steps_108 : decode cX10_steps 108 = .ok (.iload_n 1, 1) := by decide +kernel
theorem dX10_steps_109 : decode cX10_steps 109 = .ok (.iaload, 1) := by decide +kernel
theorem dX10_steps_110 : decode cX10_steps 110 = .ok (.ireturn, 1) := by decide +kernel
theorem dX10_sum_0 : decode cX10_sum 0 = .ok (.aload_n 0, 1) := by decide +kernel
theorem dX10_sum_1 : decode cX10_sum 1 = .ok (.iload_n 1, 1) := by decide +kernel
theorem dX10_sum_2 : decode cX10_sum 2 = .ok (.invokevirtual 256, 3) := by decide +kernel
theorem dX10_sum_5 : decode cX10_sum 5 = .ok (.istore_n 2, 1) := by decide +kernel
theorem dX10_sum_6 : decode cX10_sum 6 = .ok (.aload_n 0, 1) := by decide +kernel
theorem dX10_sum_7 : decode cX10_sum 7 = .ok (.invokevirtual 209, 3) := by decide +kernel
theorem dX10_sum_10 : decode cX10_sum 10 = .ok (.ifCond .eq 72, 3) := by decide +kernel
theorem dX10_sum_13 : decode cX10_sum 13 = .ok (.aload_n 0, 1) := by decide +kernel
theorem dX10_sum_14 : decode cX10_sum 14 = .ok (.invokevirtual 213, 3) := by decide +kernel
theorem dX10_sum_17 : decode cX10_sum 17 = .ok (.bipush 43, 2) := by decide +kernel
theorem dX10_sum_19 : decode cX10_sum 19 = .ok (.if_icmp .eq 12, 3) := by decide +kernel
theorem dX10_sum_22 : decode cX10_sum 22 = .ok (.aload_n 0, 1) := by decide +kernel
theorem dX10_sum_23 : decode cX10_sum 23 = .ok (.invokevirtual 213, 3) := by decide +kernel
theorem dX10_sum_26 : decode cX10_sum 26 = .ok (.bipush 45, 2) := by decide +kernel
theorem dX10_sum_28 : decode cX10_sum 28 = .ok (.if_icmp .ne 54, 3) := by decide +kernel
theorem dX10_sum_31 : decode cX10_sum 31 = .ok (.aload_n 0, 1) := by decide +kernel
theorem dX10_sum_32 : decode cX10_sum 32 = .ok (.invokevirtual 213, 3) := by decide +kernel
theorem dX10_sum_35 : decode cX10_sum 35 = .ok (.bipush 43, 2) := by decide +kernel
theorem dX10_sum_37 : decode cX10_sum 37 = .ok (.if_icmp .ne 7, 3) := by decide +kernel
theorem dX10_sum_40 : decode cX10_sum 40 = .ok (.iconst 1, 1) := by decide +kernel
theorem dX10_sum_41 : decode cX10_sum 41 = .ok (.goto 4, 3) := by decide +kernel
theorem dX10_sum_44 : decode cX10_sum 44 = .ok (.iconst 0, 1) := by decide +kernel
theorem dX10_sum_45 : decode cX10_sum 45 = .ok (.istore_n 3, 1) := by decide +kernel
theorem dX10_sum_46 : decode cX10_sum 46 = .ok (.aload_n 0, 1) := by decide +kernel
theorem dX10_sum_47 : decode cX10_sum 47 = .ok (.dup, 1) := by decide +kernel
theorem dX10_sum_48 : decode cX10_sum 48 = .ok (.getfield 203, 3) := by decide +kernel
theorem dX10_sum_51 : decode cX10_sum 51 = .ok (.iconst 1, 1) := by decide +kernel
theorem dX10_sum_52 : decode cX10_sum 52 = .ok (.iadd, 1) := by decide +kernel
theorem dX10_sum_53 : decode cX10_sum 53 = .ok (.putfield 203, 3) := by decide +kernel
theorem dX10_sum_56 : decode cX10_sum 56 = .ok (.aload_n 0, 1) := by decide +kernel
theorem dX10_sum_57 : decode cX10_sum 57 = .ok (.iload_n 1, 1) := by decide +kernel
theorem dX10_sum_58 : decode cX10_sum 58 = .ok (.invokevirtual 256, 3) := by decide +kernel
theorem dX10_sum_61 : decode cX10_sum 61 = .ok (.istore 4, 2) := by decide +kernel
theorem dX10_sum_63 : decode cX10_sum 63 = .ok (.iload_n 3, 1) := by decide +kernel
theorem dX10_sum_64 : decode cX10_sum 64 = .ok (.ifCond .eq 10, 3) := by decide +kernel
theorem dX10_sum_67 : decode cX10_sum 67 = .ok (.iload_n 2, 1) := by decide +kernel
theorem dX10_sum_68 : decode cX10_sum 68 = .ok (.iload 4, 2) := by decide +kernel
theorem dX10_sum_70 : decode cX10_sum 70 = .ok (.iadd, 1) := by decide +kernel
theorem dX10_sum_71 : decode cX10_sum 71 = .ok (.goto 7, 3) := by decide +kernel
theorem dX10_sum_74 : decode cX10_sum 74 = .ok (.iload_n 2, 1) := by decide +kernel
theorem dX10_sum_75 : decode cX10_sum 75 = .ok (.iload 4, 2) := by decide +kernel
theorem dX10_sum_77 : decode cX10_sum 77 = .ok (.isub, 1) := by decide +kernel
theorem dX10_sum_78 : decode cX10_sum 78 = .ok (.istore_n 2, 1) := by decide +kernel
theorem dX10_sum_79 : decode cX10_sum 79 = .ok (.goto (-73), 3) := by decide +kernel
theorem dX10_sum_82 : decode cX10_sum 82 = .ok (.iload_n 2, 1) := by decide +kernel
theorem dX10_sum_83 : decode cX10_sum 83 = .ok (.ireturn, 1) := by decide +kernel
theorem dX10_product_0 : decode cX10_product 0 = .ok (.aload_n 0, 1) := by decide +kernel
theorem dX10_product_1 : decode cX10_product 1 = .ok (.iload_n 1, 1) := by decide +kernel
theorem dX10_product_2 : decode cX10_product 2 = .ok (.invokevirtual 259, 3) := by decide +kernel
theorem dX10_product_5 : decode cX10_product 5 = .ok (.istore_n 2, 1) := by decide +kernel
theorem dX10_product_6 : decode cX10_product 6 = .ok (.aload_n 0, 1) := by decide +kernel
theorem dX10_product_7 : decode cX10_product 7 = .ok (.invokevirtual 209, 3) := by decide +kernel
theorem dX10_product_10 : decode cX10_product 10 = .ok (.ifCond .eq 81, 3) := by decide +kernel
theorem dX10_product_13 : decode cX10_product 13 = .ok (.aload_n 0, 1) := by decide +kernel
theorem dX10_product_14 : decode cX10_product 14 = .ok (.invokevirtual 213, 3) := by decide +kernel
theorem dX10_product_17 : decode cX10_product 17 = .ok (.bipush 42, 2) := by decide +kernel
theorem dX10_product_19 : decode cX10_product 19 = .ok (.if_icmp .eq 12, 3) := by decide +kernel
theorem dX10_product_22 : decode cX10_product 22 = .ok (.aload_n 0, 1) := by decide +kernel
theorem dX10_product_23 : decode cX10_product 23 = .ok (.invokevirtual 213, 3) := by decide +kernel
theorem dX10_product_26 : decode cX10_product 26 = .ok (.bipush 47, 2) := by decide +kernel
theorem dX10_product_28 : decode cX10_product 28 = .ok (.if_icmp .ne 63, 3) := by decide +kernel
theorem dX10_product_31 : decode cX10_product 31 = .ok (.aload_n 0, 1) := by decide +kernel
theorem dX10_product_32 : decode cX10_product 32 = .ok (.invokevirtual 213, 3) := by decide +kernel
theorem dX10_product_35 : decode cX10_product 35 = .ok (.bipush 42, 2) := by decide +kernel
theorem dX10_product_37 : decode cX10_product 37 = .ok (.if_icmp .ne 7, 3) := by decide +kernel
theorem dX10_product_40 : decode cX10_product 40 = .ok (.iconst 1, 1) := by decide +kernel
theorem dX10_product_41 : decode cX10_product 41 = .ok (.goto 4, 3) := by decide +kernel
theorem dX10_product_44 : decode cX10_product 44 = .ok (.iconst 0, 1) := by decide +kernel
theorem dX10_product_45 : decode cX10_product 45 = .ok (.istore_n 3, 1) := by decide +kernel
theorem dX10_product_46 : decode cX10_product 46 = .ok (.aload_n 0, 1) := by decide +kernel
theorem dX10_product_47 : decode cX10_product 47 = .ok (.dup, 1) := by decide +kernel
theorem dX10_product_48 : decode cX10_product 48 = .ok (.getfield 203, 3) := by decide +kernel
theorem dX10_product_51 : decode cX10_product 51 = .ok (.iconst 1, 1) := by decide +kernel
theorem dX10_product_52 : decode cX10_product 52 = .ok (.iadd, 1) := by decide +kernel
theorem dX10_product_53 : decode cX10_product 53 = .ok (.putfield 203, 3) := by decide +kernel
theorem dX10_product_56 : decode cX10_product 56 = .ok (.aload_n 0, 1) := by decide +kernel
theorem dX10_product_57 : decode cX10_product 57 = .ok (.iload_n 1, 1) := by decide +kernel
theorem dX10_product_58 : decode cX10_product 58 = .ok (.invokevirtual 259, 3) := by decide +kernel
theorem dX10_product_61 : decode cX10_product 61 = .ok (.istore 4, 2) := by decide +kernel
theorem dX10_product_63 : decode cX10_product 63 = .ok (.iload_n 3, 1) := by decide +kernel
theorem dX10_product_64 : decode cX10_product 64 = .ok (.ifCond .eq 10, 3) := by decide +kernel
theorem dX10_product_67 : decode cX10_product 67 = .ok (.iload_n 2, 1) := by decide +kernel
theorem dX10_product_68 : decode cX10_product 68 = .ok (.iload 4, 2) := by decide +kernel
theorem dX10_product_70 : decode cX10_product 70 = .ok (.imul, 1) := by decide +kernel
theorem dX10_product_71 : decode cX10_product 71 = .ok (.goto 16, 3) := by decide +kernel
theorem dX10_product_74 : decode cX10_product 74 = .ok (.iload 4, 2) := by decide +kernel
theorem dX10_product_76 : decode cX10_product 76 = .ok (.ifCond .ne 7, 3) := by decide +kernel
theorem dX10_product_79 : decode cX10_product 79 = .ok (.iconst 0, 1) := by decide +kernel
theorem dX10_product_80 : decode cX10_product 80 = .ok (.goto 7, 3) := by decide +kernel
theorem dX10_product_83 : decode cX10_product 83 = .ok (.iload_n 2, 1) := by decide +kernel
theorem dX10_product_84 : decode cX10_product 84 = .ok (.iload 4, 2) := by decide +kernel
theorem dX10_product_86 : decode cX10_product 86 = .ok (.idiv, 1) := by decide +kernel
theorem dX10_product_87 : decode cX10_product 87 = .ok (.istore_n 2, 1) := by decide +kernel
theorem dX10_product_88 : decode cX10_product 88 = .ok (.goto (-82), 3) := by decide +kernel
theorem dX10_product_91 : decode cX10_product 91 = .ok (.iload_n 2, 1) := by decide +kernel
theorem dX10_product_92 : decode cX10_product 92 = .ok (.ireturn, 1) := by decide +kernel
theorem dX10_thing_0 : decode cX10_thing 0 = .ok (.aload_n 0, 1) := by decide +kernel
theorem dX10_thing_1 : decode cX10_thing 1 = .ok (.bipush 45, 2) := by decide +kernel
theorem dX10_thing_3 : decode cX10_thing 3 = .ok (.invokevirtual 216, 3) := by decide +kernel
theorem dX10_thing_6 : decode cX10_thing 6 = .ok (.ifCond .eq 10, 3) := by decide +kernel
theorem dX10_thing_9 : decode cX10_thing 9 = .ok (.aload_n 0, 1) := by decide +kernel
theorem dX10_thing_10 : decode cX10_thing 10 = .ok (.iload_n 1, 1) := by decide +kernel
theorem dX10_thing_11 : decode cX10_thing 11 = .ok (.invokevirtual 259, 3) := by decide +kernel
theorem dX10_thing_14 : decode cX10_thing 14 = .ok (.ineg, 1) := by decide +kernel
theorem dX10_thing_15 : decode cX10_thing 15 = .ok (.ireturn, 1) := by decide +kernel
theorem dX10_thing_16 : decode cX10_thing 16 = .ok (.aload_n 0, 1) := by decide +kernel
theorem dX10_thing_17 : decode cX10_thing 17 = .ok (.invokevirtual 209, 3) := by decide +kernel
theorem dX10_thing_20 : decode cX10_thing 20 = .ok (.ifCond .ne 5, 3) := by decide +kernel
theorem dX10_thing_23 : decode cX10_thing 23 = .ok (.iconst 0, 1) := by decide +kernel
theorem dX10_thing_24 : decode cX10_thing 24 = .ok (.ireturn, 1) := by decide +kernel
theorem dX10_thing_25 : decode cX10_thing 25 = .ok (.aload_n 0, 1) := by decide +kernel
theorem dX10_thing_26 : decode cX10_thing 26 = .ok (.invokevirtual 213, 3) := by decide +kernel
theorem dX10_thing_29 : decode cX10_thing 29 = .ok (.istore_n 2, 1) := by decide +kernel
theorem dX10_thing_30 : decode cX10_thing 30 = .ok (.iload_n 2, 1) := by decide +kernel
theorem dX10_thing_31 : decode cX10_thing 31 = .ok (.bipush 40, 2) := by decide +kernel
theorem dX10_thing_33 : decode cX10_thing 33 = .ok (.if_icmp .ne 34, 3) := by decide +kernel
theorem dX10_thing_36 : decode cX10_thing 36 = .ok (.iload_n 1, 1) := by decide +kernel
theorem dX10_thing_37 : decode cX10_thing 37 = .ok (.iconst 4, 1) := by decide +kernel
theorem dX10_thing_38 : decode cX10_thing 38 = .ok (.if_icmp .ge 29, 3) := by decide +kernel
theorem dX10_thing_41 : decode cX10_thing 41 = .ok (.aload_n 0, 1) := by decide +kernel
theorem dX10_thing_42 : decode cX10_thing 42 = .ok (.dup, 1) := by decide +kernel
theorem dX10_thing_43 : decode cX10_thing 43 = .ok (.getfield 203, 3) := by decide +kernel
theorem dX10_thing_46 : decode cX10_thing 46 = .ok (.iconst 1, 1) := by decide +kernel
theorem dX10_thing_47 : decode cX10_thing 47 = .ok (.iadd, 1) := by decide +kernel
theorem dX10_thing_48 : decode cX10_thing 48 = .ok (.putfield 203, 3) := by decide +kernel
theorem dX10_thing_51 : decode cX10_thing 51 = .ok (.aload_n 0, 1) := by decide +kernel
theorem dX10_thing_52 : decode cX10_thing 52 = .ok (.iload_n 1, 1) := by decide +kernel
theorem dX10_thing_53 : decode cX10_thing 53 = .ok (.iconst 1, 1) := by decide +kernel
theorem dX10_thing_54 : decode cX10_thing 54 = .ok (.iadd, 1) := by decide +kernel
theorem dX10_thing_55 : decode cX10_thing 55 = .ok (.invokevirtual 262, 3) := by decide +kernel
theorem dX10_thing_58 : decode cX10_thing 58 = .ok (.istore_n 3, 1) := by decide +kernel
theorem dX10_thing_59 : decode cX10_thing 59 = .ok (.aload_n 0, 1) := by decide +kernel
theorem dX10_thing_60 : decode cX10_thing 60 = .ok (.bipush 41, 2) := by decide +kernel
theorem dX10_thing_62 : decode cX10_thing 62 = .ok (.invokevirtual 237, 3) := by decide +kernel
theorem dX10_thing_65 : decode cX10_thing 65 = .ok (.iload_n 3, 1) := by decide +kernel
theorem dX10_thing_66 : decode cX10_thing 66 = .ok (.ireturn, 1) := by decide +kernel
theorem dX10_thing_67 : decode cX10_thing 67 = .ok (.iload_n 2, 1) := by decide +kernel
theorem dX10_thing_68 : decode cX10_thing 68 = .ok (.bipush 48, 2) := by decide +kernel
theorem dX10_thing_70 : decode cX10_thing 70 = .ok (.bipush 57, 2) := by decide +kernel
theorem dX10_thing_72 : decode cX10_thing 72 = .ok (.invokestatic 151, 3) := by decide +kernel
theorem dX10_thing_75 : decode cX10_thing 75 = .ok (.ifCond .eq 12, 3) := by decide +kernel
theorem dX10_thing_78 : decode cX10_thing 78 = .ok (.aload_n 0, 1) := by decide +kernel
theorem dX10_thing_79 : decode cX10_thing 79 = .ok (.iconst 0, 1) := by decide +kernel
theorem dX10_thing_80 : decode cX10_thing 80 = .ok (.sipush 999, 3) := by decide +kernel
theorem dX10_thing_83 : decode cX10_thing 83 = .ok (.invokevirtual 234, 3) := by decide +kernel
theorem dX10_thing_86 : decode cX10_thing 86 = .ok (.ireturn, 1) := by decide +kernel
theorem dX10_thing_87 : decode cX10_thing 87 = .ok (.iload_n 2, 1) := by decide +kernel
theorem dX10_thing_88 : decode cX10_thing 88 = .ok (.bipush 112, 2) := by decide +kernel
theorem dX10_thing_90 : decode cX10_thing 90 = .ok (.if_icmp .eq 37, 3) := by decide +kernel
theorem dX10_thing_93 : decode cX10_thing 93 = .ok (.iload_n 2, 1) := by decide +kernel
theorem dX10_thing_94 : decode cX10_thing 94 = .ok (.bipush 115, 2) := by decide +kernel
theorem dX10_thing_96 : decode cX10_thing 96 = .ok (.if_icmp .eq 31, 3) := by decide +kernel
theorem dX10_thing_99 : decode cX10_thing 99 = .ok (.iload_n 2, 1) := by decide +kernel
theorem dX10_thing_100 : decode cX10_thing 100 = .ok (.bipush 116, 2) := by decide +kernel
theorem dX10_thing_102 : decode cX10_thing 102 = .ok (.if_icmp .eq 25, 3) := by decide +kernel
theorem dX10_thing_105 : decode cX10_thing 105 = .ok (.iload_n 2, 1) := by decide +kernel
theorem dX10_thing_106 : decode cX10_thing 106 = .ok (.bipush 102, 2) := by decide +kernel
theorem dX10_thing_108 : decode cX10_thing 108 = .ok (.if_icmp .eq 19, 3) := by decide +kernel
theorem dX10_thing_111 : decode cX10_thing 111 = .ok (.iload_n 2, 1) := by decide +kernel
theorem dX10_thing_112 : decode cX10_thing 112 = .ok (.bipush 104, 2) := by decide +kernel
theorem dX10_thing_114 : decode cX10_thing 114 = .ok (.if_icmp .eq 13, 3) := by decide +kernel
theorem dX10_thing_117 : decode cX10_thing 117 = .ok (.aload_n 0, 1) := by decide +kernel
theorem dX10_thing_118 : decode cX10_thing 118 = .ok (.aload_n 0, 1) := by decide +kernel
theorem dX10_thing_119 : decode cX10_thing 119 = .ok (.getfield 203, 3) := by decide +kernel
theorem dX10_thing_122 : decode cX10_thing 122 = .ok (.invokevirtual 220, 3) := by decide +kernel
theorem dX10_thing_125 : decode cX10_thing 125 = .ok (.iconst 0, 1) := by decide +kernel
theorem dX10_thing_126 : decode cX10_thing 126 = .ok (.ireturn, 1) := by decide +kernel
theorem dX10_thing_127 : decode cX10_thing 127 = .ok (.aload_n 0, 1) := by decide +kernel
theorem dX10_thing_128 : decode cX10_thing 128 = .ok (.dup, 1) := by decide +kernel
theorem dX10_thing_129 : decode cX10_thing 129 = .ok (.getfield 203, 3) := by decide +kernel
theorem dX10_thing_132 : decode cX10_thing 132 = .ok (.iconst 1, 1) := by decide +kernel
theorem dX10_thing_133 : decode cX10_thing 133 = .ok (.iadd, 1) := by decide +kernel
theorem dX10_thing_134 : decode cX10_thing 134 = .ok (.putfield 203, 3) := by decide +kernel
theorem dX10_thing_137 : decode cX10_thing 137 = .ok (.iload_n 2, 1) := by decide +kernel
theorem dX10_thing_138 : decode cX10_thing 138 = .ok (.bipush 112, 2) := by decide +kernel
theorem dX10_thing_140 : decode cX10_thing 140 = .ok (.if_icmp .ne 10, 3) := by decide +kernel
theorem dX10_thing_143 : decode cX10_thing 143 = .ok (.aload_n 0, 1) := by decide +kernel
theorem dX10_thing_144 : decode cX10_thing 144 = .ok (.getfield 265, 3) := by decide +kernel
theorem dX10_thing_147 : decode cX10_thing 147 = .ok (.goto 48, 3) := by decide +kernel
theorem dX10_thing_150 : decode cX10_thing 150 = .ok (.iload_n 2, 1) := by decide +kernel
theorem dX10_thing_151 : decode cX10_thing 151 = .ok (.bipush 115, 2) := by decide +kernel
theorem dX10_thing_153 : decode cX10_thing 153 = .ok (.if_icmp .ne 10, 3) := by decide +kernel
theorem dX10_thing_156 : decode cX10_thing 156 = .ok (.aload_n 0, 1) := by decide +kernel
theorem dX10_thing_157 : decode cX10_thing 157 = .ok (.getfield 268, 3) := by decide +kernel
theorem dX10_thing_160 : decode cX10_thing 160 = .ok (.goto 35, 3) := by decide +kernel
theorem dX10_thing_163 : decode cX10_thing 163 = .ok (.iload_n 2, 1) := by decide +kernel
theorem dX10_thing_164 : decode cX10_thing 164 = .ok (.bipush 116, 2) := by decide +kernel
theorem dX10_thing_166 : decode cX10_thing 166 = .ok (.if_icmp .ne 10, 3) := by decide +kernel
theorem dX10_thing_169 : decode cX10_thing 169 = .ok (.aload_n 0, 1) := by decide +kernel
theorem dX10_thing_170 : decode cX10_thing 170 = .ok (.getfield 271, 3) := by decide +kernel
theorem dX10_thing_173 : decode cX10_thing 173 = .ok (.goto 22, 3) := by decide +kernel
theorem dX10_thing_176 : decode cX10_thing 176 = .ok (.iload_n 2, 1) := by decide +kernel
theorem dX10_thing_177 : decode cX10_thing 177 = .ok (.bipush 102, 2) := by decide +kernel
theorem dX10_thing_179 : decode cX10_thing 179 = .ok (.if_icmp .ne 12, 3) := by decide +kernel
theorem dX10_thing_182 : decode cX10_thing 182 = .ok (.aload_n 0, 1) := by decide +kernel
theorem dX10_thing_183 : decode cX10_thing 183 = .ok (.getfield 19, 3) := by decide +kernel
theorem dX10_thing_186 : decode cX10_thing 186 = .ok (.iconst 2, 1) := by decide +kernel
theorem dX10_thing_187 : decode cX10_thing 187 = .ok (.iaload, 1) := by decide +kernel
theorem dX10_thing_188 : decode cX10_thing 188 = .ok (.goto 7, 3) := by decide +kernel
theorem dX10_thing_191 : decode cX10_thing 191 = .ok (.aload_n 0, 1) := by decide +kernel
theorem dX10_thing_192 : decode cX10_thing 192 = .ok (.getfield 274, 3) := by decide +kernel
theorem dX10_thing_195 : decode cX10_thing 195 = .ok (.ireturn, 1) := by decide +kernel
theorem dX10_law_0 : decode cX10_law 0 = .ok (.aload_n 0, 1) := by decide +kernel
theorem dX10_law_1 : decode cX10_law 1 = .ok (.iconst 0, 1) := by decide +kernel
theorem dX10_law_2 : decode cX10_law 2 = .ok (.putfield 142, 3) := by decide +kernel
theorem dX10_law_5 : decode cX10_law 5 = .ok (.aload_n 0, 1) := by decide +kernel
theorem dX10_law_6 : decode cX10_law 6 = .ok (.getfield 191, 3) := by decide +kernel
theorem dX10_law_9 : decode cX10_law 9 = .ok (.istore_n 2, 1) := by decide +kernel
theorem dX10_law_10 : decode cX10_law 10 = .ok (.aload_n 0, 1) := by decide +kernel
theorem dX10_law_11 : decode cX10_law 11 = .ok (.aload_n 0, 1) := by decide +kernel
theorem dX10_law_12 : decode cX10_law 12 = .ok (.getfield 41, 3) := by decide +kernel
theorem dX10_law_15 : decode cX10_law 15 = .ok (.iload_n 2, 1) := by decide +kernel
theorem dX10_law_16 : decode cX10_law 16 = .ok (.bipush 40, 2) := by decide +kernel
theorem dX10_law_18 : decode cX10_law 18 = .ok (.invokevirtual 230, 3) := by decide +kernel
theorem dX10_law_21 : decode cX10_law 21 = .ok (.aload_n 0, 1) := by decide +kernel
theorem dX10_law_22 : decode cX10_law 22 = .ok (.iconst 0, 1) := by decide +kernel
theorem dX10_law_23 : decode cX10_law 23 = .ok (.putfield 191, 3) := by decide +kernel
theorem dX10_law_26 : decode cX10_law 26 = .ok (.iload_n 1, 1) := by decide +kernel
theorem dX10_law_27 : decode cX10_law 27 = .ok (.iconst 0, 1) := by decide +kernel
theorem dX10_law_28 : decode cX10_law 28 = .ok (.iconst 2, 1) := by decide +kernel
theorem dX10_law_29 : decode cX10_law 29 = .ok (.invokestatic 151, 3) := by decide +kernel
theorem dX10_law_32 : decode cX10_law 32 = .ok (.ifCond .ne 6, 3) := by decide +kernel
theorem dX10_law_35 : decode cX10_law 35 = .ok (.bipush (-100), 2) := by decide +kernel
theorem dX10_law_37 : decode cX10_law 37 = .ok (.ireturn, 1) := by decide +kernel
theorem dX10_law_38 : decode cX10_law 38 = .ok (.iload_n 2, 1) := by decide +kernel
theorem dX10_law_39 : decode cX10_law 39 = .ok (.ifCond .le 39, 3) := by decide +kernel
theorem dX10_law_42 : decode cX10_law 42 = .ok (.aload_n 0, 1) := by decide +kernel
theorem dX10_law_43 : decode cX10_law 43 = .ok (.iconst 0, 1) := by decide +kernel
theorem dX10_law_44 : decode cX10_law 44 = .ok (.invokevirtual 262, 3) := by decide +kernel
theorem dX10_law_47 : decode cX10_law 47 = .ok (.pop, 1) := by decide +kernel
theorem dX10_law_48 : decode cX10_law 48 = .ok (.aload_n 0, 1) := by decide +kernel
theorem dX10_law_49 : decode cX10_law 49 = .ok (.getfield 203, 3) := by decide +kernel
theorem dX10_law_52 : decode cX10_law 52 = .ok (.iload_n 2, 1) := by decide +kernel
theorem dX10_law_53 : decode cX10_law 53 = .ok (.if_icmp .ge 11, 3) := by decide +kernel
theorem dX10_law_56 : decode cX10_law 56 = .ok (.aload_n 0, 1) := by decide +kernel
theorem dX10_law_57 : decode cX10_law 57 = .ok (.aload_n 0, 1) := by decide +kernel
theorem dX10_law_58 : decode cX10_law 58 = .ok (.getfield 203, 3) := by decide +kernel
theorem dX10_law_61 : decode cX10_law 61 = .ok (.invokevirtual 220, 3) := by decide +kernel
theorem dX10_law_64 : decode cX10_law 64 = .ok (.aload_n 0, 1) := by decide +kernel
theorem dX10_law_65 : decode cX10_law 65 = .ok (.invokevirtual 209, 3) := by decide +kernel
theorem dX10_law_68 : decode cX10_law 68 = .ok (.ifCond .ne 10, 3) := by decide +kernel
theorem dX10_law_71 : decode cX10_law 71 = .ok (.iconst (-1), 1) := by decide +kernel
theorem dX10_law_72 : decode cX10_law 72 = .ok (.aload_n 0, 1) := by decide +kernel
theorem dX10_law_73 : decode cX10_law 73 = .ok (.getfield 206, 3) := by decide +kernel
theorem dX10_law_76 : decode cX10_law 76 = .ok (.isub, 1) := by decide +kernel
theorem dX10_law_77 : decode cX10_law 77 = .ok (.ireturn, 1) := by decide +kernel
theorem dX10_law_78 : decode cX10_law 78 = .ok (.iconst 0, 1) := by decide +kernel
theorem dX10_law_79 : decode cX10_law 79 = .ok (.istore_n 3, 1) := by decide +kernel
theorem dX10_law_80 : decode cX10_law 80 = .ok (.iload_n 3, 1) := by decide +kernel
theorem dX10_law_81 : decode cX10_law 81 = .ok (.iload_n 2, 1) := by decide +kernel
theorem dX10_law_82 : decode cX10_law 82 = .ok (.if_icmp .ge 23, 3) := by decide +kernel
theorem dX10_law_85 : decode cX10_law 85 = .ok (.aload_n 0, 1) := by decide +kernel
theorem dX10_law_86 : decode cX10_law 86 = .ok (.getfield 81, 3) := by decide +kernel
theorem dX10_law_89 : decode cX10_law 89 = .ok (.iload_n 1, 1) := by decide +kernel
theorem dX10_law_90 : decode cX10_law 90 = .ok (.aaload, 1) := by decide +kernel
theorem dX10_law_91 : decode cX10_law 91 = .ok (.iload_n 3, 1) := by decide +kernel
theorem dX10_law_92 : decode cX10_law 92 = .ok (.aload_n 0, 1) := by decide +kernel
theorem dX10_law_93 : decode cX10_law 93 = .ok (.getfield 41, 3) := by decide +kernel
theorem dX10_law_96 : decode cX10_law 96 = .ok (.iload_n 3, 1) := by decide +kernel
theorem dX10_law_97 : decode cX10_law 97 = .ok (.baload, 1) := by decide +kernel
theorem dX10_law_98 : decode cX10_law 98 = .ok (.bastore, 1) := by decide +kernel
theorem dX10_law_99 : decode cX10_law 99 = .ok (.iinc 3 1, 3) := by decide +kernel
theorem dX10_law_102 : decode cX10_law 102 = .ok (.goto (-22), 3) := by decide +kernel
theorem dX10_law_105 : decode cX10_law 105 = .ok (.aload_n 0, 1) := by decide +kernel
theorem dX10_law_106 : decode cX10_law 106 = .ok (.getfield 84, 3) := by decide +kernel
theorem dX10_law_109 : decode cX10_law 109 = .ok (.iload_n 1, 1) := by decide +kernel
theorem dX10_law_110 : decode cX10_law 110 = .ok (.iload_n 2, 1) := by decide +kernel
theorem dX10_law_111 : decode cX10_law 111 = .ok (.iastore, 1) := by decide +kernel
theorem dX10_law_112 : decode cX10_law 112 = .ok (.iconst 0, 1) := by decide +kernel
theorem dX10_law_113 : decode cX10_law 113 = .ok (.ireturn, 1) := by decide +kernel
theorem dX10_isLaw_0 : decode cX10_isLaw 0 = .ok (.iload_n 1, 1) := by decide +kernel
theorem dX10_isLaw_1 : decode cX10_isLaw 1 = .ok (.iconst 0, 1) := by decide +kernel
theorem dX10_isLaw_2 : decode cX10_isLaw 2 = .ok (.iconst 2, 1) := by decide +kernel
theorem dX10_isLaw_3 : decode cX10_isLaw 3 = .ok (.invokestatic 151, 3) := by decide +kernel
theorem dX10_isLaw_6 : decode cX10_isLaw 6 = .ok (.ifCond .eq 16, 3) := by decide +kernel
theorem dX10_isLaw_9 : decode cX10_isLaw 9 = .ok (.aload_n 0, 1) := by decide +kernel
theorem dX10_isLaw_10 : decode cX10_isLaw 10 = .ok (.getfield 84, 3) := by decide +kernel
theorem dX10_isLaw_13 : decode cX10_isLaw 13 = .ok (.iload_n 1, 1) := by decide +kernel
theorem dX10_isLaw_14 : decode cX10_isLaw 14 = .ok (.iaload, 1) := by decide +kernel
theorem dX10_isLaw_15 : decode cX10_isLaw 15 = .ok (.ifCond .le 7, 3) := by decide +kernel
theorem dX10_isLaw_18 : decode cX10_isLaw 18 = .ok (.iconst 1, 1) := by decide +kernel
theorem dX10_isLaw_19 : decode cX10_isLaw 19 = .ok (.goto 4, 3) := by decide +kernel
theorem dX10_isLaw_22 : decode cX10_isLaw 22 = .ok (.iconst 0, 1) := by decide +kernel
theorem dX10_isLaw_23 : decode cX10_isLaw 23 = .ok (.ireturn, 1) := by decide +kernel
theorem dX10_bounded_0 : decode cX10_bounded 0 = .ok (.sipush (-500), 3) := by decide +kernel
theorem dX10_bounded_3 : decode cX10_bounded 3 = .ok (.sipush 500, 3) := by decide +kernel
theorem dX10_bounded_6 : decode cX10_bounded 6 = .ok (.iload_n 0, 1) := by decide +kernel
theorem dX10_bounded_7 : decode cX10_bounded 7 = .ok (.invokestatic 162, 3) := by decide +kernel
theorem dX10_bounded_10 : decode cX10_bounded 10 = .ok (.invokestatic 168, 3) := by decide +kernel
theorem dX10_bounded_13 : decode cX10_bounded 13 = .ok (.ireturn, 1) := by decide +kernel
theorem dX10_byLaw_0 : decode cX10_byLaw 0 = .ok (.aload_n 0, 1) := by decide +kernel
theorem dX10_byLaw_1 : decode cX10_byLaw 1 = .ok (.iload_n 2, 1) := by decide +kernel
theorem dX10_byLaw_2 : decode cX10_byLaw 2 = .ok (.putfield 265, 3) := by decide +kernel
theorem dX10_byLaw_5 : decode cX10_byLaw 5 = .ok (.aload_n 0, 1) := by decide +kernel
theorem dX10_byLaw_6 : decode cX10_byLaw 6 = .ok (.iload_n 3, 1) := by decide +kernel
theorem dX10_byLaw_7 : decode cX10_byLaw 7 = .ok (.putfield 268, 3) := by decide +kernel
theorem dX10_byLaw_10 : decode cX10_byLaw 10 = .ok (.aload_n 0, 1) := by decide +kernel
theorem dX10_byLaw_11 : decode cX10_byLaw 11 = .ok (.iload 4, 2) := by decide +kernel
theorem dX10_byLaw_13 : decode cX10_byLaw 13 = .ok (.putfield 271, 3) := by decide +kernel
theorem dX10_byLaw_16 : decode cX10_byLaw 16 = .ok (.aload_n 0, 1) := by decide +kernel
theorem dX10_byLaw_17 : decode cX10_byLaw 17 = .ok (.iload 5, 2) := by decide +kernel
theorem dX10_byLaw_19 : decode cX10_byLaw 19 = .ok (.putfield 274, 3) := by decide +kernel
theorem dX10_byLaw_22 : decode cX10_byLaw 22 = .ok (.aload_n 0, 1) := by decide +kernel
theorem dX10_byLaw_23 : decode cX10_byLaw 23 = .ok (.aload_n 0, 1) := by decide +kernel
theorem dX10_byLaw_24 : decode cX10_byLaw 24 = .ok (.getfield 81, 3) := by decide +kernel
theorem dX10_byLaw_27 : decode cX10_byLaw 27 = .ok (.iload_n 1, 1) := by decide +kernel
theorem dX10_byLaw_28 : decode cX10_byLaw 28 = .ok (.aaload, 1) := by decide +kernel
theorem dX10_byLaw_29 : decode cX10_byLaw 29 = .ok (.aload_n 0, 1) := by decide +kernel
theorem dX10_byLaw_30 : decode cX10_byLaw 30 = .ok (.getfield 84, 3) := by decide +kernel
theorem dX10_byLaw_33 : decode cX10_byLaw 33 = .ok (.iload_n 1, 1) := by decide +kernel
theorem dX10_byLaw_34 : decode cX10_byLaw 34 = .ok (.iaload, 1) := by decide +kernel
theorem dX10_byLaw_35 : decode cX10_byLaw 35 = .ok (.bipush 40, 2) := by decide +kernel
theorem dX10_byLaw_37 : decode cX10_byLaw 37 = .ok (.invokevirtual 230, 3) := by decide +kernel
theorem dX10_byLaw_40 : decode cX10_byLaw 40 = .ok (.aload_n 0, 1) := by decide +kernel
theorem dX10_byLaw_41 : decode cX10_byLaw 41 = .ok (.iconst 0, 1) := by decide +kernel
theorem dX10_byLaw_42 : decode cX10_byLaw 42 = .ok (.invokevirtual 262, 3) := by decide +kernel
theorem dX10_byLaw_45 : decode cX10_byLaw 45 = .ok (.invokestatic 277, 3) := by decide +kernel
theorem dX10_byLaw_48 : decode cX10_byLaw 48 = .ok (.ireturn, 1) := by decide +kernel
theorem dX10_byHand_0 : decode cX10_byHand 0 = .ok (.aload_n 0, 1) := by decide +kernel
theorem dX10_byHand_1 : decode cX10_byHand 1 = .ok (.iload_n 1, 1) := by decide +kernel
theorem dX10_byHand_2 : decode cX10_byHand 2 = .ok (.invokevirtual 280, 3) := by decide +kernel
theorem dX10_byHand_5 : decode cX10_byHand 5 = .ok (.ifCond .ne 5, 3) := by decide +kernel
theorem dX10_byHand_8 : decode cX10_byHand 8 = .ok (.iload_n 2, 1) := by decide +kernel
theorem dX10_byHand_9 : decode cX10_byHand 9 = .ok (.ireturn, 1) := by decide +kernel
theorem dX10_byHand_10 : decode cX10_byHand 10 = .ok (.aload_n 0, 1) := by decide +kernel
theorem dX10_byHand_11 : decode cX10_byHand 11 = .ok (.getfield 19, 3) := by decide +kernel
theorem dX10_byHand_14 : decode cX10_byHand 14 = .ok (.iconst 5, 1) := by decide +kernel
theorem dX10_byHand_15 : decode cX10_byHand 15 = .ok (.iaload, 1) := by decide +kernel
theorem dX10_byHand_16 : decode cX10_byHand 16 = .ok (.istore_n 3, 1) := by decide +kernel
theorem dX10_byHand_17 : decode cX10_byHand 17 = .ok (.iload_n 3, 1) := by decide +kernel
theorem dX10_byHand_18 : decode cX10_byHand 18 = .ok (.ifCond .ne 10, 3) := by decide +kernel
theorem dX10_byHand_21 : decode cX10_byHand 21 = .ok (.aload_n 0, 1) := by decide +kernel
theorem dX10_byHand_22 : decode cX10_byHand 22 = .ok (.invokevirtual 175, 3) := by decide +kernel
theorem dX10_byHand_25 : decode cX10_byHand 25 = .ok (.goto 29, 3) := by decide +kernel
theorem dX10_byHand_28 : decode cX10_byHand 28 = .ok (.aload_n 0, 1) := by decide +kernel
theorem dX10_byHand_29 : decode cX10_byHand 29 = .ok (.getfield 148, 3) := by decide +kernel
theorem dX10_byHand_32 : decode cX10_byHand 32 = .ok (.iload_n 3, 1) := by decide +kernel
theorem dX10_byHand_33 : decode cX10_byHand 33 = .ok (.if_icmp .ge 7, 3) := by decide +kernel
theorem dX10_byHand_36 : decode cX10_byHand 36 = .ok (.iconst 0, 1) := by decide +kernel
theorem dX10_byHand_37 : decode cX10_byHand 37 = .ok (.goto 17, 3) := by decide +kernel
theorem dX10_byHand_40 : decode cX10_byHand 40 = .ok (.aload_n 0, 1) := by decide +kernel
theorem dX10_byHand_41 : decode cX10_byHand 41 = .ok (.getfield 35, 3) := by decide +kernel
theorem dX10_byHand_44 : decode cX10_byHand 44 = .ok (.aload_n 0, 1) := by decide +kernel
theorem dX10_byHand_45 : decode cX10_byHand 45 = .ok (.getfield 148, 3) := by decide +kernel
theorem dX10_byHand_48 : decode cX10_byHand 48 = .ok (.iload_n 3, 1) := by decide +kernel
theorem dX10_byHand_49 : decode cX10_byHand 49 = .ok (.isub, 1) := by decide +kernel
theorem dX10_byHand_50 : decode cX10_byHand 50 = .ok (.bipush 21, 2) := by decide +kernel
theorem dX10_byHand_52 : decode cX10_byHand 52 = .ok (.irem, 1) := by decide +kernel
theorem dX10_byHand_53 : decode cX10_byHand 53 = .ok (.iaload, 1) := by decide +kernel
theorem dX10_byHand_54 : decode cX10_byHand 54 = .ok (.istore 4, 2) := by decide +kernel
theorem dX10_byHand_56 : decode cX10_byHand 56 = .ok (.aload_n 0, 1) := by decide +kernel
theorem dX10_byHand_57 : decode cX10_byHand 57 = .ok (.iload_n 1, 1) := by decide +kernel
theorem dX10_byHand_58 : decode cX10_byHand 58 = .ok (.iload_n 2, 1) := by decide +kernel
theorem dX10_byHand_59 : decode cX10_byHand 59 = .ok (.iload 4, 2) := by decide +kernel
theorem dX10_byHand_61 : decode cX10_byHand 61 = .ok (.aload_n 0, 1) := by decide +kernel
theorem dX10_byHand_62 : decode cX10_byHand 62 = .ok (.getfield 148, 3) := by decide +kernel
theorem dX10_byHand_65 : decode cX10_byHand 65 = .ok (.aload_n 0, 1) := by decide +kernel
theorem dX10_byHand_66 : decode cX10_byHand 66 = .ok (.getfield 26, 3) := by decide +kernel
theorem dX10_byHand_69 : decode cX10_byHand 69 = .ok (.iconst 0, 1) := by decide +kernel
theorem dX10_byHand_70 : decode cX10_byHand 70 = .ok (.iaload, 1) := by decide +kernel
theorem dX10_byHand_71 : decode cX10_byHand 71 = .ok (.invokevirtual 283, 3) := by decide +kernel
theorem dX10_byHand_74 : decode cX10_byHand 74 = .ok (.ireturn, 1) := by decide +kernel
theorem dX10_gives_0 : decode cX10_gives 0 = .ok (.aload_n 0, 1) := by decide +kernel
theorem dX10_gives_1 : decode cX10_gives 1 = .ok (.iconst 0, 1) := by decide +kernel
theorem dX10_gives_2 : decode cX10_gives 2 = .ok (.putfield 142, 3) := by decide +kernel
theorem dX10_gives_5 : decode cX10_gives 5 = .ok (.aload_n 0, 1) := by decide +kernel
theorem dX10_gives_6 : decode cX10_gives 6 = .ok (.iload_n 1, 1) := by decide +kernel
theorem dX10_gives_7 : decode cX10_gives 7 = .ok (.invokevirtual 280, 3) := by decide +kernel
theorem dX10_gives_10 : decode cX10_gives 10 = .ok (.ifCond .eq 25, 3) := by decide +kernel
theorem dX10_gives_13 : decode cX10_gives 13 = .ok (.iload_n 2, 1) := by decide +kernel
theorem dX10_gives_14 : decode cX10_gives 14 = .ok (.sipush (-500), 3) := by decide +kernel
theorem dX10_gives_17 : decode cX10_gives 17 = .ok (.sipush 500, 3) := by decide +kernel
theorem dX10_gives_20 : decode cX10_gives 20 = .ok (.invokestatic 151, 3) := by decide +kernel
theorem dX10_gives_23 : decode cX10_gives 23 = .ok (.ifCond .eq 12, 3) := by decide +kernel
theorem dX10_gives_26 : decode cX10_gives 26 = .ok (.aload_n 0, 1) := by decide +kernel
theorem dX10_gives_27 : decode cX10_gives 27 = .ok (.iload_n 1, 1) := by decide +kernel
theorem dX10_gives_28 : decode cX10_gives 28 = .ok (.iload_n 2, 1) := by decide +kernel
theorem dX10_gives_29 : decode cX10_gives 29 = .ok (.invokevirtual 287, 3) := by decide +kernel
theorem dX10_gives_32 : decode cX10_gives 32 = .ok (.goto 7, 3) := by decide +kernel
theorem dX10_gives_35 : decode cX10_gives 35 = .ok (.aload_n 0, 1) := by decide +kernel
theorem dX10_gives_36 : decode cX10_gives 36 = .ok (.invokevirtual 188, 3) := by decide +kernel
theorem dX10_gives_39 : decode cX10_gives 39 = .ok (.ireturn, 1) := by decide +kernel
theorem dX10_draw_0 : decode cX10_draw 0 = .ok (.aload_n 0, 1) := by decide +kernel
theorem dX10_draw_1 : decode cX10_draw 1 = .ok (.aload_n 0, 1) := by decide +kernel
theorem dX10_draw_2 : decode cX10_draw 2 = .ok (.getfield 38, 3) := by decide +kernel
theorem dX10_draw_5 : decode cX10_draw 5 = .ok (.ldc_w 290, 3) := by decide +kernel
theorem dX10_draw_8 : decode cX10_draw 8 = .ok (.imul, 1) := by decide +kernel
theorem dX10_draw_9 : decode cX10_draw 9 = .ok (.sipush 12345, 3) := by decide +kernel
theorem dX10_draw_12 : decode cX10_draw 12 = .ok (.iadd, 1) := by decide +kernel
theorem dX10_draw_13 : decode cX10_draw 13 = .ok (.putfield 38, 3) := by decide +kernel
theorem dX10_draw_16 : decode cX10_draw 16 = .ok (.aload_n 0, 1) := by decide +kernel
theorem dX10_draw_17 : decode cX10_draw 17 = .ok (.getfield 38, 3) := by decide +kernel
theorem dX10_draw_20 : decode cX10_draw 20 = .ok (.bipush 16, 2) := by decide +kernel
theorem dX10_draw_22 : decode cX10_draw 22 = .ok (.iushr, 1) := by decide +kernel
theorem dX10_draw_23 : decode cX10_draw 23 = .ok (.iload_n 1, 1) := by decide +kernel
theorem dX10_draw_24 : decode cX10_draw 24 = .ok (.irem, 1) := by decide +kernel
theorem dX10_draw_25 : decode cX10_draw 25 = .ok (.ireturn, 1) := by decide +kernel
theorem dX10_watch_0 : decode cX10_watch 0 = .ok (.aload_n 0, 1) := by decide +kernel
theorem dX10_watch_1 : decode cX10_watch 1 = .ok (.iconst (-1), 1) := by decide +kernel
theorem dX10_watch_2 : decode cX10_watch 2 = .ok (.putfield 291, 3) := by decide +kernel
theorem dX10_watch_5 : decode cX10_watch 5 = .ok (.aload_n 0, 1) := by decide +kernel
theorem dX10_watch_6 : decode cX10_watch 6 = .ok (.iconst (-1), 1) := by decide +kernel
theorem dX10_watch_7 : decode cX10_watch 7 = .ok (.putfield 294, 3) := by decide +kernel
theorem dX10_watch_10 : decode cX10_watch 10 = .ok (.aload_n 0, 1) := by decide +kernel
theorem dX10_watch_11 : decode cX10_watch 11 = .ok (.iconst 0, 1) := by decide +kernel
theorem dX10_watch_12 : decode cX10_watch 12 = .ok (.putfield 297, 3) := by decide +kernel
theorem dX10_watch_15 : decode cX10_watch 15 = .ok (.aload_n 0, 1) := by decide +kernel
theorem dX10_watch_16 : decode cX10_watch 16 = .ok (.iconst 0, 1) := by decide +kernel
theorem dX10_watch_17 : decode cX10_watch 17 = .ok (.putfield 300, 3) := by decide +kernel
theorem dX10_watch_20 : decode cX10_watch 20 = .ok (.return_, 1) := by decide +kernel
theorem dX10_passWatched_0 : decode cX10_passWatched 0 = .ok (.aload_n 0, 1) := by decide +kernel
theorem dX10_passWatched_1 : decode cX10_passWatched 1 = .ok (.iload_n 1, 1) := by decide +kernel
theorem dX10_passWatched_2 : decode cX10_passWatched 2 = .ok (.iload_n 2, 1) := by decide +kernel
theorem dX10_passWatched_3 : decode cX10_passWatched 3 = .ok (.invokevirtual 185, 3) := by decide +kernel
theorem dX10_passWatched_6 : decode cX10_passWatched 6 = .ok (.istore 4, 2) := by decide +kernel
theorem dX10_passWatched_8 : decode cX10_passWatched 8 = .ok (.iload 4, 2) := by decide +kernel
theorem dX10_passWatched_10 : decode cX10_passWatched 10 = .ok (.ifCond .le 60, 3) := by decide +kernel
theorem dX10_passWatched_13 : decode cX10_passWatched 13 = .ok (.aload_n 0, 1) := by decide +kernel
theorem dX10_passWatched_14 : decode cX10_passWatched 14 = .ok (.getfield 291, 3) := by decide +kernel
theorem dX10_passWatched_17 : decode cX10_passWatched 17 = .ok (.iconst (-1), 1) := by decide +kernel
theorem dX10_passWatched_18 : decode cX10_passWatched 18 = .ok (.if_icmp .ne 18, 3) := by decide +kernel
theorem dX10_passWatched_21 : decode cX10_passWatched 21 = .ok (.aload_n 0, 1) := by decide +kernel
theorem dX10_passWatched_22 : decode cX10_passWatched 22 = .ok (.aload_n 0, 1) := by decide +kernel
theorem dX10_passWatched_23 : decode cX10_passWatched 23 = .ok (.getfield 148, 3) := by decide +kernel
theorem dX10_passWatched_26 : decode cX10_passWatched 26 = .ok (.iconst 1, 1) := by decide +kernel
theorem dX10_passWatched_27 : decode cX10_passWatched 27 = .ok (.isub, 1) := by decide +kernel
theorem dX10_passWatched_28 : decode cX10_passWatched 28 = .ok (.putfield 291, 3) := by decide +kernel
theorem dX10_passWatched_31 : decode cX10_passWatched 31 = .ok (.aload_n 0, 1) := by decide +kernel
theorem dX10_passWatched_32 : decode cX10_passWatched 32 = .ok (.iload_n 3, 1) := by decide +kernel
theorem dX10_passWatched_33 : decode cX10_passWatched 33 = .ok (.putfield 294, 3) := by decide +kernel
theorem dX10_passWatched_36 : decode cX10_passWatched 36 = .ok (.aload_n 0, 1) := by decide +kernel
theorem dX10_passWatched_37 : decode cX10_passWatched 37 = .ok (.getfield 300, 3) := by decide +kernel
theorem dX10_passWatched_40 : decode cX10_passWatched 40 = .ok (.aload_n 0, 1) := by decide +kernel
theorem dX10_passWatched_41 : decode cX10_passWatched 41 = .ok (.getfield 87, 3) := by decide +kernel
theorem dX10_passWatched_44 : decode cX10_passWatched 44 = .ok (.arraylength, 1) := by decide +kernel
theorem dX10_passWatched_45 : decode cX10_passWatched 45 = .ok (.if_icmp .ge 25, 3) := by decide +kernel
theorem dX10_passWatched_48 : decode cX10_passWatched 48 = .ok (.aload_n 0, 1) := by decide +kernel
theorem dX10_passWatched_49 : decode cX10_passWatched 49 = .ok (.getfield 87, 3) := by decide +kernel
theorem dX10_passWatched_52 : decode cX10_passWatched 52 = .ok (.aload_n 0, 1) := by decide +kernel
theorem dX10_passWatched_53 : decode cX10_passWatched 53 = .ok (.dup, 1) := by decide +kernel
theorem dX10_passWatched_54 : decode cX10_passWatched 54 = .ok (.getfield 300, 3) := by decide +kernel
theorem dX10_passWatched_57 : decode cX10_passWatched 57 = .ok (.dup_x1, 1) := by decide +kernel
theorem dX10_passWatched_58 : decode cX10_passWatched 58 = .ok (.iconst 1, 1) := by decide +kernel
theorem dX10_passWatched_59 : decode cX10_passWatched 59 = .ok (.iadd, 1) := by decide +kernel
theorem dX10_passWatched_60 : decode cX10_passWatched 60 = .ok (.putfield 300, 3) := by decide +kernel
theorem dX10_passWatched_63 : decode cX10_passWatched 63 = .ok (.aload_n 0, 1) := by decide +kernel
theorem dX10_passWatched_64 : decode cX10_passWatched 64 = .ok (.getfield 148, 3) := by decide +kernel
theorem dX10_passWatched_67 : decode cX10_passWatched 67 = .ok (.iconst 1, 1) := by decide +kernel
theorem dX10_passWatched_68 : decode cX10_passWatched 68 = .ok (.isub, 1) := by decide +kernel
theorem dX10_passWatched_69 : decode cX10_passWatched 69 = .ok (.iastore, 1) := by decide +kernel
theorem dX10_passWatched_70 : decode cX10_passWatched 70 = .ok (.iconst 0, 1) := by decide +kernel
theorem dX10_passWatched_71 : decode cX10_passWatched 71 = .ok (.istore 5, 2) := by decide +kernel
theorem dX10_passWatched_73 : decode cX10_passWatched 73 = .ok (.iload 5, 2) := by decide +kernel
theorem dX10_passWatched_75 : decode cX10_passWatched 75 = .ok (.iconst 2, 1) := by decide +kernel
theorem dX10_passWatched_76 : decode cX10_passWatched 76 = .ok (.if_icmp .ge 50, 3) := by decide +kernel
theorem dX10_passWatched_79 : decode cX10_passWatched 79 = .ok (.aload_n 0, 1) := by decide +kernel
theorem dX10_passWatched_80 : decode cX10_passWatched 80 = .ok (.aload_n 0, 1) := by decide +kernel
theorem dX10_passWatched_81 : decode cX10_passWatched 81 = .ok (.getfield 297, 3) := by decide +kernel
theorem dX10_passWatched_84 : decode cX10_passWatched 84 = .ok (.aload_n 0, 1) := by decide +kernel
theorem dX10_passWatched_85 : decode cX10_passWatched 85 = .ok (.getfield 26, 3) := by decide +kernel
theorem dX10_passWatched_88 : decode cX10_passWatched 88 = .ok (.bipush 20, 2) := by decide +kernel
theorem dX10_passWatched_90 : decode cX10_passWatched 90 = .ok (.iload 5, 2) := by decide +kernel
theorem dX10_passWatched_92 : decode cX10_passWatched 92 = .ok (.imul, 1) := by decide +kernel
theorem dX10_passWatched_93 : decode cX10_passWatched 93 = .ok (.iaload, 1) := by decide +kernel
theorem dX10_passWatched_94 : decode cX10_passWatched 94 = .ok (.aload_n 0, 1) := by decide +kernel
theorem dX10_passWatched_95 : decode cX10_passWatched 95 = .ok (.getfield 26, 3) := by decide +kernel
theorem dX10_passWatched_98 : decode cX10_passWatched 98 = .ok (.bipush 20, 2) := by decide +kernel
theorem dX10_passWatched_100 : decode cX10_passWatched 100 = .ok (.iload 5, 2) := by decide +kernel
theorem dX10_passWatched_102 : decode cX10_passWatched 102 = .ok (.imul, 1) := by decide +kernel
theorem dX10_passWatched_103 : decode cX10_passWatched 103 = .ok (.aload_n 0, 1) := by decide +kernel
theorem dX10_passWatched_104 : decode cX10_passWatched 104 = .ok (.getfield 9, 3) := by decide +kernel
theorem dX10_passWatched_107 : decode cX10_passWatched 107 = .ok (.iadd, 1) := by decide +kernel
theorem dX10_passWatched_108 : decode cX10_passWatched 108 = .ok (.iconst 1, 1) := by decide +kernel
theorem dX10_passWatched_109 : decode cX10_passWatched 109 = .ok (.isub, 1) := by decide +kernel
theorem dX10_passWatched_110 : decode cX10_passWatched 110 = .ok (.iaload, 1) := by decide +kernel
theorem dX10_passWatched_111 : decode cX10_passWatched 111 = .ok (.invokestatic 168, 3) := by decide +kernel
theorem dX10_passWatched_114 : decode cX10_passWatched 114 = .ok (.invokestatic 168, 3) := by decide +kernel
theorem dX10_passWatched_117 : decode cX10_passWatched 117 = .ok (.putfield 297, 3) := by decide +kernel
theorem dX10_passWatched_120 : decode cX10_passWatched 120 = .ok (.iinc 5 1, 3) := by decide +kernel
theorem dX10_passWatched_123 : decode cX10_passWatched 123 = .ok (.goto (-50), 3) := by decide +kernel
theorem dX10_passWatched_126 : decode cX10_passWatched 126 = .ok (.iload 4, 2) := by decide +kernel
theorem dX10_passWatched_128 : decode cX10_passWatched 128 = .ok (.ireturn, 1) := by decide +kernel
theorem dX10_goOn_0 : decode cX10_goOn 0 = .ok (.iconst 0, 1) := by decide +kernel
theorem dX10_goOn_1 : decode cX10_goOn 1 = .ok (.istore 5, 2) := by decide +kernel
theorem dX10_goOn_3 : decode cX10_goOn 3 = .ok (.iload_n 2, 1) := by decide +kernel
theorem dX10_goOn_4 : decode cX10_goOn 4 = .ok (.istore 6, 2) := by decide +kernel
theorem dX10_goOn_6 : decode cX10_goOn 6 = .ok (.iload 6, 2) := by decide +kernel
theorem dX10_goOn_8 : decode cX10_goOn 8 = .ok (.iload_n 3, 1) := by decide +kernel
theorem dX10_goOn_9 : decode cX10_goOn 9 = .ok (.if_icmp .ge 147, 3) := by decide +kernel
theorem dX10_goOn_12 : decode cX10_goOn 12 = .ok (.iload 6, 2) := by decide +kernel
theorem dX10_goOn_14 : decode cX10_goOn 14 = .ok (.aload_n 0, 1) := by decide +kernel
theorem dX10_goOn_15 : decode cX10_goOn 15 = .ok (.getfield 49, 3) := by decide +kernel
theorem dX10_goOn_18 : decode cX10_goOn 18 = .ok (.iload_n 1, 1) := by decide +kernel
theorem dX10_goOn_19 : decode cX10_goOn 19 = .ok (.iaload, 1) := by decide +kernel
theorem dX10_goOn_20 : decode cX10_goOn 20 = .ok (.if_icmp .ge 136, 3) := by decide +kernel
theorem dX10_goOn_23 : decode cX10_goOn 23 = .ok (.sipush 1000, 3) := by decide +kernel
theorem dX10_goOn_26 : decode cX10_goOn 26 = .ok (.iload_n 1, 1) := by decide +kernel
theorem dX10_goOn_27 : decode cX10_goOn 27 = .ok (.imul, 1) := by decide +kernel
theorem dX10_goOn_28 : decode cX10_goOn 28 = .ok (.iload 6, 2) := by decide +kernel
theorem dX10_goOn_30 : decode cX10_goOn 30 = .ok (.iadd, 1) := by decide +kernel
theorem dX10_goOn_31 : decode cX10_goOn 31 = .ok (.istore 7, 2) := by decide +kernel
theorem dX10_goOn_33 : decode cX10_goOn 33 = .ok (.aload_n 0, 1) := by decide +kernel
theorem dX10_goOn_34 : decode cX10_goOn 34 = .ok (.getfield 55, 3) := by decide +kernel
theorem dX10_goOn_37 : decode cX10_goOn 37 = .ok (.iload 7, 2) := by decide +kernel
theorem dX10_goOn_39 : decode cX10_goOn 39 = .ok (.iaload, 1) := by decide +kernel
theorem dX10_goOn_40 : decode cX10_goOn 40 = .ok (.aload_n 0, 1) := by decide +kernel
theorem dX10_goOn_41 : decode cX10_goOn 41 = .ok (.getfield 61, 3) := by decide +kernel
theorem dX10_goOn_44 : decode cX10_goOn 44 = .ok (.iload 7, 2) := by decide +kernel
theorem dX10_goOn_46 : decode cX10_goOn 46 = .ok (.iaload, 1) := by decide +kernel
theorem dX10_goOn_47 : decode cX10_goOn 47 = .ok (.ifCond .le 29, 3) := by decide +kernel
theorem dX10_goOn_50 : decode cX10_goOn 50 = .ok (.aload_n 0, 1) := by decide +kernel
theorem dX10_goOn_51 : decode cX10_goOn 51 = .ok (.iconst 2, 1) := by decide +kernel
theorem dX10_goOn_52 : decode cX10_goOn 52 = .ok (.aload_n 0, 1) := by decide +kernel
theorem dX10_goOn_53 : decode cX10_goOn 53 = .ok (.getfield 61, 3) := by decide +kernel
theorem dX10_goOn_56 : decode cX10_goOn 56 = .ok (.iload 7, 2) := by decide +kernel
theorem dX10_goOn_58 : decode cX10_goOn 58 = .ok (.iaload, 1) := by decide +kernel
theorem dX10_goOn_59 : decode cX10_goOn 59 = .ok (.imul, 1) := by decide +kernel
theorem dX10_goOn_60 : decode cX10_goOn 60 = .ok (.iconst 1, 1) := by decide +kernel
theorem dX10_goOn_61 : decode cX10_goOn 61 = .ok (.iadd, 1) := by decide +kernel
theorem dX10_goOn_62 : decode cX10_goOn 62 = .ok (.invokevirtual 303, 3) := by decide +kernel
theorem dX10_goOn_65 : decode cX10_goOn 65 = .ok (.aload_n 0, 1) := by decide +kernel
theorem dX10_goOn_66 : decode cX10_goOn 66 = .ok (.getfield 61, 3) := by decide +kernel
theorem dX10_goOn_69 : decode cX10_goOn 69 = .ok (.iload 7, 2) := by decide +kernel
theorem dX10_goOn_71 : decode cX10_goOn 71 = .ok (.iaload, 1) := by decide +kernel
theorem dX10_goOn_72 : decode cX10_goOn 72 = .ok (.isub, 1) := by decide +kernel
theorem dX10_goOn_73 : decode cX10_goOn 73 = .ok (.goto 4, 3) := by decide +kernel
theorem dX10_goOn_76 : decode cX10_goOn 76 = .ok (.iconst 0, 1) := by decide +kernel
theorem dX10_goOn_77 : decode cX10_goOn 77 = .ok (.iadd, 1) := by decide +kernel
theorem dX10_goOn_78 : decode cX10_goOn 78 = .ok (.istore 8, 2) := by decide +kernel
theorem dX10_goOn_80 : decode cX10_goOn 80 = .ok (.aload_n 0, 1) := by decide +kernel
theorem dX10_goOn_81 : decode cX10_goOn 81 = .ok (.aload_n 0, 1) := by decide +kernel
theorem dX10_goOn_82 : decode cX10_goOn 82 = .ok (.getfield 19, 3) := by decide +kernel
theorem dX10_goOn_85 : decode cX10_goOn 85 = .ok (.bipush 6, 2) := by decide +kernel
theorem dX10_goOn_87 : decode cX10_goOn 87 = .ok (.iaload, 1) := by decide +kernel
theorem dX10_goOn_88 : decode cX10_goOn 88 = .ok (.iload 8, 2) := by decide +kernel
theorem dX10_goOn_90 : decode cX10_goOn 90 = .ok (.invokevirtual 287, 3) := by decide +kernel
theorem dX10_goOn_93 : decode cX10_goOn 93 = .ok (.istore 9, 2) := by decide +kernel
theorem dX10_goOn_95 : decode cX10_goOn 95 = .ok (.iload 5, 2) := by decide +kernel
theorem dX10_goOn_97 : decode cX10_goOn 97 = .ok (.iload 6, 2) := by decide +kernel
theorem dX10_goOn_99 : decode cX10_goOn 99 = .ok (.iload 4, 2) := by decide +kernel
theorem dX10_goOn_101 : decode cX10_goOn 101 = .ok (.if_icmp .lt 26, 3) := by decide +kernel
theorem dX10_goOn_104 : decode cX10_goOn 104 = .ok (.aload_n 0, 1) := by decide +kernel
theorem dX10_goOn_105 : decode cX10_goOn 105 = .ok (.aload_n 0, 1) := by decide +kernel
theorem dX10_goOn_106 : decode cX10_goOn 106 = .ok (.getfield 58, 3) := by decide +kernel
theorem dX10_goOn_109 : decode cX10_goOn 109 = .ok (.iload 7, 2) := by decide +kernel
theorem dX10_goOn_111 : decode cX10_goOn 111 = .ok (.iaload, 1) := by decide +kernel
theorem dX10_goOn_112 : decode cX10_goOn 112 = .ok (.iload 9, 2) := by decide +kernel
theorem dX10_goOn_114 : decode cX10_goOn 114 = .ok (.aload_n 0, 1) := by decide +kernel
theorem dX10_goOn_115 : decode cX10_goOn 115 = .ok (.getfield 64, 3) := by decide +kernel
theorem dX10_goOn_118 : decode cX10_goOn 118 = .ok (.iload 7, 2) := by decide +kernel
theorem dX10_goOn_120 : decode cX10_goOn 120 = .ok (.iaload, 1) := by decide +kernel
theorem dX10_goOn_121 : decode cX10_goOn 121 = .ok (.invokevirtual 306, 3) := by decide +kernel
theorem dX10_goOn_124 : decode cX10_goOn 124 = .ok (.goto 23, 3) := by decide +kernel
theorem dX10_goOn_127 : decode cX10_goOn 127 = .ok (.aload_n 0, 1) := by decide +kernel
theorem dX10_goOn_128 : decode cX10_goOn 128 = .ok (.iload 9, 2) := by decide +kernel
theorem dX10_goOn_130 : decode cX10_goOn 130 = .ok (.aload_n 0, 1) := by decide +kernel
theorem dX10_goOn_131 : decode cX10_goOn 131 = .ok (.getfield 58, 3) := by decide +kernel
theorem dX10_goOn_134 : decode cX10_goOn 134 = .ok (.iload 7, 2) := by decide +kernel
theorem dX10_goOn_136 : decode cX10_goOn 136 = .ok (.iaload, 1) := by decide +kernel
theorem dX10_goOn_137 : decode cX10_goOn 137 = .ok (.aload_n 0, 1) := by decide +kernel
theorem dX10_goOn_138 : decode cX10_goOn 138 = .ok (.getfield 64, 3) := by decide +kernel
theorem dX10_goOn_141 : decode cX10_goOn 141 = .ok (.iload 7, 2) := by decide +kernel
theorem dX10_goOn_143 : decode cX10_goOn 143 = .ok (.iaload, 1) := by decide +kernel
theorem dX10_goOn_144 : decode cX10_goOn 144 = .ok (.invokevirtual 306, 3) := by decide +kernel
theorem dX10_goOn_147 : decode cX10_goOn 147 = .ok (.iadd, 1) := by decide +kernel
theorem dX10_goOn_148 : decode cX10_goOn 148 = .ok (.istore 5, 2) := by decide +kernel
theorem dX10_goOn_150 : decode cX10_goOn 150 = .ok (.iinc 6 1, 3) := by decide +kernel
theorem dX10_goOn_153 : decode cX10_goOn 153 = .ok (.goto (-147), 3) := by decide +kernel
theorem dX10_goOn_156 : decode cX10_goOn 156 = .ok (.iload 5, 2) := by decide +kernel
theorem dX10_goOn_158 : decode cX10_goOn 158 = .ok (.ireturn, 1) := by decide +kernel
theorem dX10_go_0 : decode cX10_go 0 = .ok (.aload_n 0, 1) := by decide +kernel
theorem dX10_go_1 : decode cX10_go 1 = .ok (.iconst 0, 1) := by decide +kernel
theorem dX10_go_2 : decode cX10_go 2 = .ok (.putfield 142, 3) := by decide +kernel
theorem dX10_go_5 : decode cX10_go 5 = .ok (.iload_n 1, 1) := by decide +kernel
theorem dX10_go_6 : decode cX10_go 6 = .ok (.invokestatic 245, 3) := by decide +kernel
theorem dX10_go_9 : decode cX10_go 9 = .ok (.ifCond .eq 25, 3) := by decide +kernel
theorem dX10_go_12 : decode cX10_go 12 = .ok (.iload_n 2, 1) := by decide +kernel
theorem dX10_go_13 : decode cX10_go 13 = .ok (.iconst 0, 1) := by decide +kernel
theorem dX10_go_14 : decode cX10_go 14 = .ok (.sipush 1000, 3) := by decide +kernel
theorem dX10_go_17 : decode cX10_go 17 = .ok (.invokestatic 151, 3) := by decide +kernel
theorem dX10_go_20 : decode cX10_go 20 = .ok (.ifCond .eq 14, 3) := by decide +kernel
theorem dX10_go_23 : decode cX10_go 23 = .ok (.iload_n 3, 1) := by decide +kernel
theorem dX10_go_24 : decode cX10_go 24 = .ok (.iconst 0, 1) := by decide +kernel
theorem dX10_go_25 : decode cX10_go 25 = .ok (.sipush 1000, 3) := by decide +kernel
theorem dX10_go_28 : decode cX10_go 28 = .ok (.invokestatic 151, 3) := by decide +kernel
theorem dX10_go_31 : decode cX10_go 31 = .ok (.ifCond .ne 5, 3) := by decide +kernel
theorem dX10_go_34 : decode cX10_go 34 = .ok (.iconst (-1), 1) := by decide +kernel
theorem dX10_go_35 : decode cX10_go 35 = .ok (.ireturn, 1) := by decide +kernel
theorem dX10_go_36 : decode cX10_go 36 = .ok (.aload_n 0, 1) := by decide +kernel
theorem dX10_go_37 : decode cX10_go 37 = .ok (.invokevirtual 310, 3) := by decide +kernel
theorem dX10_go_40 : decode cX10_go 40 = .ok (.aload_n 0, 1) := by decide +kernel
theorem dX10_go_41 : decode cX10_go 41 = .ok (.iload_n 1, 1) := by decide +kernel
theorem dX10_go_42 : decode cX10_go 42 = .ok (.iload_n 2, 1) := by decide +kernel
theorem dX10_go_43 : decode cX10_go 43 = .ok (.iload_n 2, 1) := by decide +kernel
theorem dX10_go_44 : decode cX10_go 44 = .ok (.iload_n 3, 1) := by decide +kernel
theorem dX10_go_45 : decode cX10_go 45 = .ok (.iadd, 1) := by decide +kernel
theorem dX10_go_46 : decode cX10_go 46 = .ok (.sipush 1001, 3) := by decide +kernel
theorem dX10_go_49 : decode cX10_go 49 = .ok (.invokevirtual 313, 3) := by decide +kernel
theorem dX10_go_52 : decode cX10_go 52 = .ok (.ireturn, 1) := by decide +kernel
theorem dX10_put_0 : decode cX10_put 0 = .ok (.aload_n 0, 1) := by decide +kernel
theorem dX10_put_1 : decode cX10_put 1 = .ok (.getfield 90, 3) := by decide +kernel
theorem dX10_put_4 : decode cX10_put 4 = .ok (.aload_n 0, 1) := by decide +kernel
theorem dX10_put_5 : decode cX10_put 5 = .ok (.getfield 317, 3) := by decide +kernel
theorem dX10_put_8 : decode cX10_put 8 = .ok (.iload_n 1, 1) := by decide +kernel
theorem dX10_put_9 : decode cX10_put 9 = .ok (.iastore, 1) := by decide +kernel
theorem dX10_put_10 : decode cX10_put 10 = .ok (.aload_n 0, 1) := by decide +kernel
theorem dX10_put_11 : decode cX10_put 11 = .ok (.dup, 1) := by decide +kernel
theorem dX10_put_12 : decode cX10_put 12 = .ok (.getfield 317, 3) := by decide +kernel
theorem dX10_put_15 : decode cX10_put 15 = .ok (.iconst 1, 1) := by decide +kernel
theorem dX10_put_16 : decode cX10_put 16 = .ok (.iadd, 1) := by decide +kernel
theorem dX10_put_17 : decode cX10_put 17 = .ok (.putfield 317, 3) := by decide +kernel
theorem dX10_put_20 : decode cX10_put 20 = .ok (.return_, 1) := by decide +kernel
theorem dX10_take_0 : decode cX10_take 0 = .ok (.aload_n 0, 1) := by decide +kernel
theorem dX10_take_1 : decode cX10_take 1 = .ok (.dup, 1) := by decide +kernel
theorem dX10_take_2 : decode cX10_take 2 = .ok (.getfield 317, 3) := by decide +kernel
theorem dX10_take_5 : decode cX10_take 5 = .ok (.iconst 1, 1) := by decide +kernel
theorem dX10_take_6 : decode cX10_take 6 = .ok (.iadd, 1) := by decide +kernel
theorem dX10_take_7 : decode cX10_take 7 = .ok (.putfield 317, 3) := by decide +kernel
theorem dX10_take_10 : decode cX10_take 10 = .ok (.aload_n 0, 1) := by decide +kernel
theorem dX10_take_11 : decode cX10_take 11 = .ok (.getfield 90, 3) := by decide +kernel
theorem dX10_take_14 : decode cX10_take 14 = .ok (.aload_n 0, 1) := by decide +kernel
theorem dX10_take_15 : decode cX10_take 15 = .ok (.getfield 317, 3) := by decide +kernel
theorem dX10_take_18 : decode cX10_take 18 = .ok (.iconst 1, 1) := by decide +kernel
theorem dX10_take_19 : decode cX10_take 19 = .ok (.isub, 1) := by decide +kernel
theorem dX10_take_20 : decode cX10_take 20 = .ok (.iaload, 1) := by decide +kernel
theorem dX10_take_21 : decode cX10_take 21 = .ok (.ireturn, 1) := by decide +kernel
theorem dX10_putBy_0 : decode cX10_putBy 0 = .ok (.aload_n 0, 1) := by decide +kernel
theorem dX10_putBy_1 : decode cX10_putBy 1 = .ok (.bipush 105, 2) := by decide +kernel
theorem dX10_putBy_3 : decode cX10_putBy 3 = .ok (.iload_n 1, 1) := by decide +kernel
theorem dX10_putBy_4 : decode cX10_putBy 4 = .ok (.imul, 1) := by decide +kernel
theorem dX10_putBy_5 : decode cX10_putBy 5 = .ok (.putfield 317, 3) := by decide +kernel
theorem dX10_putBy_8 : decode cX10_putBy 8 = .ok (.iconst 0, 1) := by decide +kernel
theorem dX10_putBy_9 : decode cX10_putBy 9 = .ok (.istore_n 2, 1) := by decide +kernel
theorem dX10_putBy_10 : decode cX10_putBy 10 = .ok (.iload_n 2, 1) := by decide +kernel
theorem dX10_putBy_11 : decode cX10_putBy 11 = .ok (.bipush 40, 2) := by decide +kernel
theorem dX10_putBy_13 : decode cX10_putBy 13 = .ok (.if_icmp .ge 29, 3) := by decide +kernel
theorem dX10_putBy_16 : decode cX10_putBy 16 = .ok (.aload_n 0, 1) := by decide +kernel
theorem dX10_putBy_17 : decode cX10_putBy 17 = .ok (.aload_n 0, 1) := by decide +kernel
theorem dX10_putBy_18 : decode cX10_putBy 18 = .ok (.getfield 26, 3) := by decide +kernel
theorem dX10_putBy_21 : decode cX10_putBy 21 = .ok (.iload_n 2, 1) := by decide +kernel
theorem dX10_putBy_22 : decode cX10_putBy 22 = .ok (.iaload, 1) := by decide +kernel
theorem dX10_putBy_23 : decode cX10_putBy 23 = .ok (.invokevirtual 320, 3) := by decide +kernel
theorem dX10_putBy_26 : decode cX10_putBy 26 = .ok (.aload_n 0, 1) := by decide +kernel
theorem dX10_putBy_27 : decode cX10_putBy 27 = .ok (.aload_n 0, 1) := by decide +kernel
theorem dX10_putBy_28 : decode cX10_putBy 28 = .ok (.getfield 29, 3) := by decide +kernel
theorem dX10_putBy_31 : decode cX10_putBy 31 = .ok (.iload_n 2, 1) := by decide +kernel
theorem dX10_putBy_32 : decode cX10_putBy 32 = .ok (.iaload, 1) := by decide +kernel
theorem dX10_putBy_33 : decode cX10_putBy 33 = .ok (.invokevirtual 320, 3) := by decide +kernel
theorem dX10_putBy_36 : decode cX10_putBy 36 = .ok (.iinc 2 1, 3) := by decide +kernel
theorem dX10_putBy_39 : decode cX10_putBy 39 = .ok (.goto (-29), 3) := by decide +kernel
theorem dX10_putBy_42 : decode cX10_putBy 42 = .ok (.aload_n 0, 1) := by decide +kernel
theorem dX10_putBy_43 : decode cX10_putBy 43 = .ok (.aload_n 0, 1) := by decide +kernel
theorem dX10_putBy_44 : decode cX10_putBy 44 = .ok (.getfield 32, 3) := by decide +kernel
theorem dX10_putBy_47 : decode cX10_putBy 47 = .ok (.iconst 0, 1) := by decide +kernel
theorem dX10_putBy_48 : decode cX10_putBy 48 = .ok (.iaload, 1) := by decide +kernel
theorem dX10_putBy_49 : decode cX10_putBy 49 = .ok (.invokevirtual 320, 3) := by decide +kernel
theorem dX10_putBy_52 : decode cX10_putBy 52 = .ok (.aload_n 0, 1) := by decide +kernel
theorem dX10_putBy_53 : decode cX10_putBy 53 = .ok (.aload_n 0, 1) := by decide +kernel
theorem dX10_putBy_54 : decode cX10_putBy 54 = .ok (.getfield 32, 3) := by decide +kernel
theorem dX10_putBy_57 : decode cX10_putBy 57 = .ok (.iconst 1, 1) := by decide +kernel
theorem dX10_putBy_58 : decode cX10_putBy 58 = .ok (.iaload, 1) := by decide +kernel
theorem dX10_putBy_59 : decode cX10_putBy 59 = .ok (.invokevirtual 320, 3) := by decide +kernel
theorem dX10_putBy_62 : decode cX10_putBy 62 = .ok (.aload_n 0, 1) := by decide +kernel
theorem dX10_putBy_63 : decode cX10_putBy 63 = .ok (.aload_n 0, 1) := by decide +kernel
theorem dX10_putBy_64 : decode cX10_putBy 64 = .ok (.getfield 148, 3) := by decide +kernel
theorem dX10_putBy_67 : decode cX10_putBy 67 = .ok (.invokevirtual 320, 3) := by decide +kernel
theorem dX10_putBy_70 : decode cX10_putBy 70 = .ok (.aload_n 0, 1) := by decide +kernel
theorem dX10_putBy_71 : decode cX10_putBy 71 = .ok (.getfield 35, 3) := by decide +kernel
theorem dX10_putBy_74 : decode cX10_putBy 74 = .ok (.astore_n 2, 1) := by decide +kernel
theorem dX10_putBy_75 : decode cX10_putBy 75 = .ok (.aload_n 2, 1) := by decide +kernel
theorem dX10_putBy_76 : decode cX10_putBy 76 = .ok (.arraylength, 1) := by decide +kernel
theorem dX10_putBy_77 : decode cX10_putBy 77 = .ok (.istore_n 3, 1) := by decide +kernel
theorem dX10_putBy_78 : decode cX10_putBy 78 = .ok (.iconst 0, 1) := by decide +kernel
theorem dX10_putBy_79 : decode cX10_putBy 79 = .ok (.istore 4, 2) := by decide +kernel
theorem dX10_putBy_81 : decode cX10_putBy 81 = .ok (.iload 4, 2) := by decide +kernel
theorem dX10_putBy_83 : decode cX10_putBy 83 = .ok (.iload_n 3, 1) := by decide +kernel
theorem dX10_putBy_84 : decode cX10_putBy 84 = .ok (.if_icmp .ge 21, 3) := by decide +kernel
theorem dX10_putBy_87 : decode cX10_putBy 87 = .ok (.aload_n 2, 1) := by decide +kernel
theorem dX10_putBy_88 : decode cX10_putBy 88 = .ok (.iload 4, 2) := by decide +kernel
theorem dX10_putBy_90 : decode cX10_putBy 90 = .ok (.iaload, 1) := by decide +kernel
theorem dX10_putBy_91 : decode cX10_putBy 91 = .ok (.istore 5, 2) := by decide +kernel
theorem dX10_putBy_93 : decode cX10_putBy 93 = .ok (.aload_n 0, 1) := by decide +kernel
theorem dX10_putBy_94 : decode cX10_putBy 94 = .ok (.iload 5, 2) := by decide +kernel
theorem dX10_putBy_96 : decode cX10_putBy 96 = .ok (.invokevirtual 320, 3) := by decide +kernel
theorem dX10_putBy_99 : decode cX10_putBy 99 = .ok (.iinc 4 1, 3) := by decide +kernel
theorem dX10_putBy_102 : decode cX10_putBy 102 = .ok (.goto (-21), 3) := by decide +kernel
theorem dX10_putBy_105 : decode cX10_putBy 105 = .ok (.aload_n 0, 1) := by decide +kernel
theorem dX10_putBy_106 : decode cX10_putBy 106 = .ok (.aload_n 0, 1) := by decide +kernel
theorem dX10_putBy_107 : decode cX10_putBy 107 = .ok (.getfield 38, 3) := by decide +kernel
theorem dX10_putBy_110 : decode cX10_putBy 110 = .ok (.invokevirtual 320, 3) := by decide +kernel
theorem dX10_putBy_113 : decode cX10_putBy 113 = .ok (.return_, 1) := by decide +kernel
theorem dX10_bringBack_0 : decode cX10_bringBack 0 = .ok (.aload_n 0, 1) := by decide +kernel
theorem dX10_bringBack_1 : decode cX10_bringBack 1 = .ok (.bipush 105, 2) := by decide +kernel
theorem dX10_bringBack_3 : decode cX10_bringBack 3 = .ok (.iload_n 1, 1) := by decide +kernel
theorem dX10_bringBack_4 : decode cX10_bringBack 4 = .ok (.imul, 1) := by decide +kernel
theorem dX10_bringBack_5 : decode cX10_bringBack 5 = .ok (.putfield 317, 3) := by decide +kernel
theorem dX10_bringBack_8 : decode cX10_bringBack 8 = .ok (.iconst 0, 1) := by decide +kernel
theorem dX10_bringBack_9 : decode cX10_bringBack 9 = .ok (.istore_n 2, 1) := by decide +kernel
theorem dX10_bringBack_10 : decode cX10_bringBack 10 = .ok (.iload_n 2, 1) := by decide +kernel
theorem dX10_bringBack_11 : decode cX10_bringBack 11 = .ok (.bipush 40, 2) := by decide +kernel
theorem dX10_bringBack_13 : decode cX10_bringBack 13 = .ok (.if_icmp .ge 29, 3) := by decide +kernel
theorem dX10_bringBack_16 : decode cX10_bringBack 16 = .ok (.aload_n 0, 1) := by decide +kernel
theorem dX10_bringBack_17 : decode cX10_bringBack 17 = .ok (.getfield 26, 3) := by decide +kernel
theorem dX10_bringBack_20 : decode cX10_bringBack 20 = .ok (.iload_n 2, 1) := by decide +kernel
theorem dX10_bringBack_21 : decode cX10_bringBack 21 = .ok (.aload_n 0, 1) := by decide +kernel
theorem dX10_bringBack_22 : decode cX10_bringBack 22 = .ok (.invokevirtual 323, 3) := by decide +kernel
theorem dX10_bringBack_25 : decode cX10_bringBack 25 = .ok (.iastore, 1) := by decide +kernel
theorem dX10_bringBack_26 : decode cX10_bringBack 26 = .ok (.aload_n 0, 1) := by decide +kernel
theorem dX10_bringBack_27 : decode cX10_bringBack 27 = .ok (.getfield 29, 3) := by decide +kernel
theorem dX10_bringBack_30 : decode cX10_bringBack 30 = .ok (.iload_n 2, 1) := by decide +kernel
theorem dX10_bringBack_31 : decode cX10_bringBack 31 = .ok (.aload_n 0, 1) := by decide +kernel
theorem dX10_bringBack_32 : decode cX10_bringBack 32 = .ok (.invokevirtual 323, 3) := by decide +kernel
theorem dX10_bringBack_35 : decode cX10_bringBack 35 = .ok (.iastore, 1) := by decide +kernel
theorem dX10_bringBack_36 : decode cX10_bringBack 36 = .ok (.iinc 2 1, 3) := by decide +kernel
theorem dX10_bringBack_39 : decode cX10_bringBack 39 = .ok (.goto (-29), 3) := by decide +kernel
theorem dX10_bringBack_42 : decode cX10_bringBack 42 = .ok (.aload_n 0, 1) := by decide +kernel
theorem dX10_bringBack_43 : decode cX10_bringBack 43 = .ok (.getfield 32, 3) := by decide +kernel
theorem dX10_bringBack_46 : decode cX10_bringBack 46 = .ok (.iconst 0, 1) := by decide +kernel
theorem dX10_bringBack_47 : decode cX10_bringBack 47 = .ok (.aload_n 0, 1) := by decide +kernel
theorem dX10_bringBack_48 : decode cX10_bringBack 48 = .ok (.invokevirtual 323, 3) := by decide +kernel
theorem dX10_bringBack_51 : decode cX10_bringBack 51 = .ok (.iastore, 1) := by decide +kernel
theorem dX10_bringBack_52 : decode cX10_bringBack 52 = .ok (.aload_n 0, 1) := by decide +kernel
theorem dX10_bringBack_53 : decode cX10_bringBack 53 = .ok (.getfield 32, 3) := by decide +kernel
theorem dX10_bringBack_56 : decode cX10_bringBack 56 = .ok (.iconst 1, 1) := by decide +kernel
theorem dX10_bringBack_57 : decode cX10_bringBack 57 = .ok (.aload_n 0, 1) := by decide +kernel
theorem dX10_bringBack_58 : decode cX10_bringBack 58 = .ok (.invokevirtual 323, 3) := by decide +kernel
theorem dX10_bringBack_61 : decode cX10_bringBack 61 = .ok (.iastore, 1) := by decide +kernel
theorem dX10_bringBack_62 : decode cX10_bringBack 62 = .ok (.aload_n 0, 1) := by decide +kernel
theorem dX10_bringBack_63 : decode cX10_bringBack 63 = .ok (.aload_n 0, 1) := by decide +kernel
theorem dX10_bringBack_64 : decode cX10_bringBack 64 = .ok (.invokevirtual 323, 3) := by decide +kernel
theorem dX10_bringBack_67 : decode cX10_bringBack 67 = .ok (.putfield 148, 3) := by decide +kernel
theorem dX10_bringBack_70 : decode cX10_bringBack 70 = .ok (.iconst 0, 1) := by decide +kernel
theorem dX10_bringBack_71 : decode cX10_bringBack 71 = .ok (.istore_n 2, 1) := by decide +kernel
theorem dX10_bringBack_72 : decode cX10_bringBack 72 = .ok (.iload_n 2, 1) := by decide +kernel
theorem dX10_bringBack_73 : decode cX10_bringBack 73 = .ok (.bipush 21, 2) := by decide +kernel
theorem dX10_bringBack_75 : decode cX10_bringBack 75 = .ok (.if_icmp .ge 19, 3) := by decide +kernel
theorem dX10_bringBack_78 : decode cX10_bringBack 78 = .ok (.aload_n 0, 1) := by decide +kernel
theorem dX10_bringBack_79 : decode cX10_bringBack 79 = .ok (.getfield 35, 3) := by decide +kernel
theorem dX10_bringBack_82 : decode cX10_bringBack 82 = .ok (.iload_n 2, 1) := by decide +kernel
theorem dX10_bringBack_83 : decode cX10_bringBack 83 = .ok (.aload_n 0, 1) := by decide +kernel
theorem dX10_bringBack_84 : decode cX10_bringBack 84 = .ok (.invokevirtual 323, 3) := by decide +kernel
theorem dX10_bringBack_87 : decode cX10_bringBack 87 = .ok (.iastore, 1) := by decide +kernel
theorem dX10_bringBack_88 : decode cX10_bringBack 88 = .ok (.iinc 2 1, 3) := by decide +kernel
theorem dX10_bringBack_91 : decode cX10_bringBack 91 = .ok (.goto (-19), 3) := by decide +kernel
theorem dX10_bringBack_94 : decode cX10_bringBack 94 = .ok (.aload_n 0, 1) := by decide +kernel
theorem dX10_bringBack_95 : decode cX10_bringBack 95 = .ok (.aload_n 0, 1) := by decide +kernel
theorem dX10_bringBack_96 : decode cX10_bringBack 96 = .ok (.invokevirtual 323, 3) := by decide +kernel
theorem dX10_bringBack_99 : decode cX10_bringBack 99 = .ok (.putfield 38, 3) := by decide +kernel
theorem dX10_bringBack_102 : decode cX10_bringBack 102 = .ok (.return_, 1) := by decide +kernel
theorem dX10_wholly_0 : decode cX10_wholly 0 = .ok (.aload_n 0, 1) := by decide +kernel
theorem dX10_wholly_1 : decode cX10_wholly 1 = .ok (.iconst 3, 1) := by decide +kernel
theorem dX10_wholly_2 : decode cX10_wholly 2 = .ok (.invokevirtual 326, 3) := by decide +kernel
theorem dX10_wholly_5 : decode cX10_wholly 5 = .ok (.aload_n 0, 1) := by decide +kernel
theorem dX10_wholly_6 : decode cX10_wholly 6 = .ok (.invokevirtual 139, 3) := by decide +kernel
theorem dX10_wholly_9 : decode cX10_wholly 9 = .ok (.aload_n 0, 1) := by decide +kernel
theorem dX10_wholly_10 : decode cX10_wholly 10 = .ok (.iload_n 2, 1) := by decide +kernel
theorem dX10_wholly_11 : decode cX10_wholly 11 = .ok (.putfield 38, 3) := by decide +kernel
theorem dX10_wholly_14 : decode cX10_wholly 14 = .ok (.aload_n 0, 1) := by decide +kernel
theorem dX10_wholly_15 : decode cX10_wholly 15 = .ok (.invokevirtual 310, 3) := by decide +kernel
theorem dX10_wholly_18 : decode cX10_wholly 18 = .ok (.aload_n 0, 1) := by decide +kernel
theorem dX10_wholly_19 : decode cX10_wholly 19 = .ok (.iload_n 1, 1) := by decide +kernel
theorem dX10_wholly_20 : decode cX10_wholly 20 = .ok (.iconst 0, 1) := by decide +kernel
theorem dX10_wholly_21 : decode cX10_wholly 21 = .ok (.sipush 1000, 3) := by decide +kernel
theorem dX10_wholly_24 : decode cX10_wholly 24 = .ok (.sipush 1001, 3) := by decide +kernel
theorem dX10_wholly_27 : decode cX10_wholly 27 = .ok (.invokevirtual 313, 3) := by decide +kernel
theorem dX10_wholly_30 : decode cX10_wholly 30 = .ok (.istore_n 3, 1) := by decide +kernel
theorem dX10_wholly_31 : decode cX10_wholly 31 = .ok (.aload_n 0, 1) := by decide +kernel
theorem dX10_wholly_32 : decode cX10_wholly 32 = .ok (.iconst 3, 1) := by decide +kernel
theorem dX10_wholly_33 : decode cX10_wholly 33 = .ok (.invokevirtual 329, 3) := by decide +kernel
theorem dX10_wholly_36 : decode cX10_wholly 36 = .ok (.iload_n 3, 1) := by decide +kernel
theorem dX10_wholly_37 : decode cX10_wholly 37 = .ok (.ireturn, 1) := by decide +kernel
theorem dX10_letGo_0 : decode cX10_letGo 0 = .ok (.aload_n 0, 1) := by decide +kernel
theorem dX10_letGo_1 : decode cX10_letGo 1 = .ok (.iconst 3, 1) := by decide +kernel
theorem dX10_letGo_2 : decode cX10_letGo 2 = .ok (.invokevirtual 326, 3) := by decide +kernel
theorem dX10_letGo_5 : decode cX10_letGo 5 = .ok (.aload_n 0, 1) := by decide +kernel
theorem dX10_letGo_6 : decode cX10_letGo 6 = .ok (.invokevirtual 139, 3) := by decide +kernel
theorem dX10_letGo_9 : decode cX10_letGo 9 = .ok (.aload_n 0, 1) := by decide +kernel
theorem dX10_letGo_10 : decode cX10_letGo 10 = .ok (.iconst 0, 1) := by decide +kernel
theorem dX10_letGo_11 : decode cX10_letGo 11 = .ok (.iload_n 1, 1) := by decide +kernel
theorem dX10_letGo_12 : decode cX10_letGo 12 = .ok (.invokevirtual 171, 3) := by decide +kernel
theorem dX10_letGo_15 : decode cX10_letGo 15 = .ok (.aload_n 0, 1) := by decide +kernel
theorem dX10_letGo_16 : decode cX10_letGo 16 = .ok (.getfield 93, 3) := by decide +kernel
theorem dX10_letGo_19 : decode cX10_letGo 19 = .ok (.iconst 0, 1) := by decide +kernel
theorem dX10_letGo_20 : decode cX10_letGo 20 = .ok (.aload_n 0, 1) := by decide +kernel
theorem dX10_letGo_21 : decode cX10_letGo 21 = .ok (.invokevirtual 175, 3) := by decide +kernel
theorem dX10_letGo_24 : decode cX10_letGo 24 = .ok (.iastore, 1) := by decide +kernel
theorem dX10_letGo_25 : decode cX10_letGo 25 = .ok (.iconst 1, 1) := by decide +kernel
theorem dX10_letGo_26 : decode cX10_letGo 26 = .ok (.istore_n 3, 1) := by decide +kernel
theorem dX10_letGo_27 : decode cX10_letGo 27 = .ok (.iload_n 3, 1) := by decide +kernel
theorem dX10_letGo_28 : decode cX10_letGo 28 = .ok (.iload_n 2, 1) := by decide +kernel
theorem dX10_letGo_29 : decode cX10_letGo 29 = .ok (.if_icmp .gt 26, 3) := by decide +kernel
theorem dX10_letGo_32 : decode cX10_letGo 32 = .ok (.aload_n 0, 1) := by decide +kernel
theorem dX10_letGo_33 : decode cX10_letGo 33 = .ok (.iconst 0, 1) := by decide +kernel
theorem dX10_letGo_34 : decode cX10_letGo 34 = .ok (.iconst 0, 1) := by decide +kernel
theorem dX10_letGo_35 : decode cX10_letGo 35 = .ok (.invokevirtual 185, 3) := by decide +kernel
theorem dX10_letGo_38 : decode cX10_letGo 38 = .ok (.pop, 1) := by decide +kernel
theorem dX10_letGo_39 : decode cX10_letGo 39 = .ok (.aload_n 0, 1) := by decide +kernel
theorem dX10_letGo_40 : decode cX10_letGo 40 = .ok (.getfield 93, 3) := by decide +kernel
theorem dX10_letGo_43 : decode cX10_letGo 43 = .ok (.iload_n 3, 1) := by decide +kernel
theorem dX10_letGo_44 : decode cX10_letGo 44 = .ok (.aload_n 0, 1) := by decide +kernel
theorem dX10_letGo_45 : decode cX10_letGo 45 = .ok (.invokevirtual 175, 3) := by decide +kernel
theorem dX10_letGo_48 : decode cX10_letGo 48 = .ok (.iastore, 1) := by decide +kernel
theorem dX10_letGo_49 : decode cX10_letGo 49 = .ok (.iinc 3 1, 3) := by decide +kernel
theorem dX10_letGo_52 : decode cX10_letGo 52 = .ok (.goto (-25), 3) := by decide +kernel
theorem dX10_letGo_55 : decode cX10_letGo 55 = .ok (.aload_n 0, 1) := by decide +kernel
theorem dX10_letGo_56 : decode cX10_letGo 56 = .ok (.iconst 3, 1) := by decide +kernel
theorem dX10_letGo_57 : decode cX10_letGo 57 = .ok (.invokevirtual 329, 3) := by decide +kernel
theorem dX10_letGo_60 : decode cX10_letGo 60 = .ok (.return_, 1) := by decide +kernel
theorem dX10_isTilt_0 : decode cX10_isTilt 0 = .ok (.iload_n 0, 1) := by decide +kernel
theorem dX10_isTilt_1 : decode cX10_isTilt 1 = .ok (.iconst 1, 1) := by decide +kernel
theorem dX10_isTilt_2 : decode cX10_isTilt 2 = .ok (.sipush 500, 3) := by decide +kernel
theorem dX10_isTilt_5 : decode cX10_isTilt 5 = .ok (.invokestatic 151, 3) := by decide +kernel
theorem dX10_isTilt_8 : decode cX10_isTilt 8 = .ok (.ireturn, 1) := by decide +kernel
theorem dX10_swing_0 : decode cX10_swing 0 = .ok (.aload_n 0, 1) := by decide +kernel
theorem dX10_swing_1 : decode cX10_swing 1 = .ok (.iconst 0, 1) := by decide +kernel
theorem dX10_swing_2 : decode cX10_swing 2 = .ok (.putfield 142, 3) := by decide +kernel
theorem dX10_swing_5 : decode cX10_swing 5 = .ok (.iload_n 1, 1) := by decide +kernel
theorem dX10_swing_6 : decode cX10_swing 6 = .ok (.invokestatic 332, 3) := by decide +kernel
theorem dX10_swing_9 : decode cX10_swing 9 = .ok (.ifCond .ne 5, 3) := by decide +kernel
theorem dX10_swing_12 : decode cX10_swing 12 = .ok (.iconst (-1), 1) := by decide +kernel
theorem dX10_swing_13 : decode cX10_swing 13 = .ok (.ireturn, 1) := by decide +kernel
theorem dX10_swing_14 : decode cX10_swing 14 = .ok (.aload_n 0, 1) := by decide +kernel
theorem dX10_swing_15 : decode cX10_swing 15 = .ok (.iload_n 1, 1) := by decide +kernel
theorem dX10_swing_16 : decode cX10_swing 16 = .ok (.sipush 400, 3) := by decide +kernel
theorem dX10_swing_19 : decode cX10_swing 19 = .ok (.invokevirtual 335, 3) := by decide +kernel
theorem dX10_swing_22 : decode cX10_swing 22 = .ok (.iconst 2, 1) := by decide +kernel
theorem dX10_swing_23 : decode cX10_swing 23 = .ok (.istore_n 2, 1) := by decide +kernel
theorem dX10_swing_24 : decode cX10_swing 24 = .ok (.iload_n 2, 1) := by decide +kernel
theorem dX10_swing_25 : decode cX10_swing 25 = .ok (.sipush 400, 3) := by decide +kernel
theorem dX10_swing_28 : decode cX10_swing 28 = .ok (.if_icmp .ge 75, 3) := by decide +kernel
theorem dX10_swing_31 : decode cX10_swing 31 = .ok (.aload_n 0, 1) := by decide +kernel
theorem dX10_swing_32 : decode cX10_swing 32 = .ok (.getfield 93, 3) := by decide +kernel
theorem dX10_swing_35 : decode cX10_swing 35 = .ok (.iload_n 2, 1) := by decide +kernel
theorem dX10_swing_36 : decode cX10_swing 36 = .ok (.iaload, 1) := by decide +kernel
theorem dX10_swing_37 : decode cX10_swing 37 = .ok (.aload_n 0, 1) := by decide +kernel
theorem dX10_swing_38 : decode cX10_swing 38 = .ok (.getfield 93, 3) := by decide +kernel
theorem dX10_swing_41 : decode cX10_swing 41 = .ok (.iload_n 2, 1) := by decide +kernel
theorem dX10_swing_42 : decode cX10_swing 42 = .ok (.iconst 1, 1) := by decide +kernel
theorem dX10_swing_43 : decode cX10_swing 43 = .ok (.isub, 1) := by decide +kernel
theorem dX10_swing_44 : decode cX10_swing 44 = .ok (.iaload, 1) := by decide +kernel
theorem dX10_swing_45 : decode cX10_swing 45 = .ok (.if_icmp .le 52, 3) := by decide +kernel
theorem dX10_swing_48 : decode cX10_swing 48 = .ok (.aload_n 0, 1) := by decide +kernel
theorem dX10_swing_49 : decode cX10_swing 49 = .ok (.getfield 93, 3) := by decide +kernel
theorem dX10_swing_52 : decode cX10_swing 52 = .ok (.iload_n 2, 1) := by decide +kernel
theorem dX10_swing_53 : decode cX10_swing 53 = .ok (.iaload, 1) := by decide +kernel
theorem dX10_swing_54 : decode cX10_swing 54 = .ok (.aload_n 0, 1) := by decide +kernel
theorem dX10_swing_55 : decode cX10_swing 55 = .ok (.getfield 93, 3) := by decide +kernel
theorem dX10_swing_58 : decode cX10_swing 58 = .ok (.iload_n 2, 1) := by decide +kernel
theorem dX10_swing_59 : decode cX10_swing 59 = .ok (.iconst 1, 1) := by decide +kernel
theorem dX10_swing_60 : decode cX10_swing 60 = .ok (.iadd, 1) := by decide +kernel
theorem dX10_swing_61 : decode cX10_swing 61 = .ok (.iaload, 1) := by decide +kernel
theorem dX10_swing_62 : decode cX10_swing 62 = .ok (.if_icmp .ge 6, 3) := by decide +kernel
theorem dX10_swing_65 : decode cX10_swing 65 = .ok (.goto 32, 3) := by decide +kernel
theorem dX10_swing_68 : decode cX10_swing 68 = .ok (.aload_n 0, 1) := by decide +kernel
theorem dX10_swing_69 : decode cX10_swing 69 = .ok (.iconst 0, 1) := by decide +kernel
theorem dX10_swing_70 : decode cX10_swing 70 = .ok (.putfield 145, 3) := by decide +kernel
theorem dX10_swing_73 : decode cX10_swing 73 = .ok (.aload_n 0, 1) := by decide +kernel
theorem dX10_swing_74 : decode cX10_swing 74 = .ok (.aload_n 0, 1) := by decide +kernel
theorem dX10_swing_75 : decode cX10_swing 75 = .ok (.getfield 93, 3) := by decide +kernel
theorem dX10_swing_78 : decode cX10_swing 78 = .ok (.iconst 0, 1) := by decide +kernel
theorem dX10_swing_79 : decode cX10_swing 79 = .ok (.iaload, 1) := by decide +kernel
theorem dX10_swing_80 : decode cX10_swing 80 = .ok (.i2l, 1) := by decide +kernel
theorem dX10_swing_81 : decode cX10_swing 81 = .ok (.invokevirtual 252, 3) := by decide +kernel
theorem dX10_swing_84 : decode cX10_swing 84 = .ok (.aload_n 0, 1) := by decide +kernel
theorem dX10_swing_85 : decode cX10_swing 85 = .ok (.aload_n 0, 1) := by decide +kernel
theorem dX10_swing_86 : decode cX10_swing 86 = .ok (.getfield 93, 3) := by decide +kernel
theorem dX10_swing_89 : decode cX10_swing 89 = .ok (.iload_n 2, 1) := by decide +kernel
theorem dX10_swing_90 : decode cX10_swing 90 = .ok (.iaload, 1) := by decide +kernel
theorem dX10_swing_91 : decode cX10_swing 91 = .ok (.i2l, 1) := by decide +kernel
theorem dX10_swing_92 : decode cX10_swing 92 = .ok (.invokevirtual 252, 3) := by decide +kernel
theorem dX10_swing_95 : decode cX10_swing 95 = .ok (.iload_n 2, 1) := by decide +kernel
theorem dX10_swing_96 : decode cX10_swing 96 = .ok (.ireturn, 1) := by decide +kernel
theorem dX10_swing_97 : decode cX10_swing 97 = .ok (.iinc 2 1, 3) := by decide +kernel
theorem dX10_swing_100 : decode cX10_swing 100 = .ok (.goto (-76), 3) := by decide +kernel
theorem dX10_swing_103 : decode cX10_swing 103 = .ok (.bipush (-2), 2) := by decide +kernel
theorem dX10_swing_105 : decode cX10_swing 105 = .ok (.ireturn, 1) := by decide +kernel
theorem dX10_dies_0 : decode cX10_dies 0 = .ok (.aload_n 0, 1) := by decide +kernel
theorem dX10_dies_1 : decode cX10_dies 1 = .ok (.iconst 0, 1) := by decide +kernel
theorem dX10_dies_2 : decode cX10_dies 2 = .ok (.putfield 142, 3) := by decide +kernel
theorem dX10_dies_5 : decode cX10_dies 5 = .ok (.iload_n 1, 1) := by decide +kernel
theorem dX10_dies_6 : decode cX10_dies 6 = .ok (.invokestatic 332, 3) := by decide +kernel
theorem dX10_dies_9 : decode cX10_dies 9 = .ok (.ifCond .eq 13, 3) := by decide +kernel
theorem dX10_dies_12 : decode cX10_dies 12 = .ok (.iload_n 2, 1) := by decide +kernel
theorem dX10_dies_13 : decode cX10_dies 13 = .ok (.iconst 1, 1) := by decide +kernel
theorem dX10_dies_14 : decode cX10_dies 14 = .ok (.bipush 100, 2) := by decide +kernel
theorem dX10_dies_16 : decode cX10_dies 16 = .ok (.invokestatic 151, 3) := by decide +kernel
theorem dX10_dies_19 : decode cX10_dies 19 = .ok (.ifCond .ne 5, 3) := by decide +kernel
theorem dX10_dies_22 : decode cX10_dies 22 = .ok (.iconst (-1), 1) := by decide +kernel
theorem dX10_dies_23 : decode cX10_dies 23 = .ok (.ireturn, 1) := by decide +kernel
theorem dX10_dies_24 : decode cX10_dies 24 = .ok (.aload_n 0, 1) := by decide +kernel
theorem dX10_dies_25 : decode cX10_dies 25 = .ok (.iload_n 1, 1) := by decide +kernel
theorem dX10_dies_26 : decode cX10_dies 26 = .ok (.sipush 400, 3) := by decide +kernel
theorem dX10_dies_29 : decode cX10_dies 29 = .ok (.invokevirtual 335, 3) := by decide +kernel
theorem dX10_dies_32 : decode cX10_dies 32 = .ok (.aload_n 0, 1) := by decide +kernel
theorem dX10_dies_33 : decode cX10_dies 33 = .ok (.getfield 93, 3) := by decide +kernel
theorem dX10_dies_36 : decode cX10_dies 36 = .ok (.iconst 0, 1) := by decide +kernel
theorem dX10_dies_37 : decode cX10_dies 37 = .ok (.iaload, 1) := by decide +kernel
theorem dX10_dies_38 : decode cX10_dies 38 = .ok (.invokestatic 248, 3) := by decide +kernel
theorem dX10_dies_41 : decode cX10_dies 41 = .ok (.iload_n 2, 1) := by decide +kernel
theorem dX10_dies_42 : decode cX10_dies 42 = .ok (.imul, 1) := by decide +kernel
theorem dX10_dies_43 : decode cX10_dies 43 = .ok (.bipush 100, 2) := by decide +kernel
theorem dX10_dies_45 : decode cX10_dies 45 = .ok (.idiv, 1) := by decide +kernel
theorem dX10_dies_46 : decode cX10_dies 46 = .ok (.istore_n 3, 1) := by decide +kernel
theorem dX10_dies_47 : decode cX10_dies 47 = .ok (.sipush 401, 3) := by decide +kernel
theorem dX10_dies_50 : decode cX10_dies 50 = .ok (.istore 4, 2) := by decide +kernel
theorem dX10_dies_52 : decode cX10_dies 52 = .ok (.iload 4, 2) := by decide +kernel
theorem dX10_dies_54 : decode cX10_dies 54 = .ok (.ifCond .le 25, 3) := by decide +kernel
theorem dX10_dies_57 : decode cX10_dies 57 = .ok (.aload_n 0, 1) := by decide +kernel
theorem dX10_dies_58 : decode cX10_dies 58 = .ok (.getfield 93, 3) := by decide +kernel
theorem dX10_dies_61 : decode cX10_dies 61 = .ok (.iload 4, 2) := by decide +kernel
theorem dX10_dies_63 : decode cX10_dies 63 = .ok (.iconst 1, 1) := by decide +kernel
theorem dX10_dies_64 : decode cX10_dies 64 = .ok (.isub, 1) := by decide +kernel
theorem dX10_dies_65 : decode cX10_dies 65 = .ok (.iaload, 1) := by decide +kernel
theorem dX10_dies_66 : decode cX10_dies 66 = .ok (.invokestatic 248, 3) := by decide +kernel
theorem dX10_dies_69 : decode cX10_dies 69 = .ok (.iload_n 3, 1) := by decide +kernel
theorem dX10_dies_70 : decode cX10_dies 70 = .ok (.if_icmp .gt 9, 3) := by decide +kernel
theorem dX10_dies_73 : decode cX10_dies 73 = .ok (.iinc 4 (-1), 3) := by decide +kernel
theorem dX10_dies_76 : decode cX10_dies 76 = .ok (.goto (-24), 3) := by decide +kernel
theorem dX10_dies_79 : decode cX10_dies 79 = .ok (.iload 4, 2) := by decide +kernel
theorem dX10_dies_81 : decode cX10_dies 81 = .ok (.sipush 400, 3) := by decide +kernel
theorem dX10_dies_84 : decode cX10_dies 84 = .ok (.if_icmp .le 8, 3) := by decide +kernel
theorem dX10_dies_87 : decode cX10_dies 87 = .ok (.bipush (-2), 2) := by decide +kernel
theorem dX10_dies_89 : decode cX10_dies 89 = .ok (.goto 5, 3) := by decide +kernel
theorem dX10_dies_92 : decode cX10_dies 92 = .ok (.iload 4, 2) := by decide +kernel
theorem dX10_dies_94 : decode cX10_dies 94 = .ok (.ireturn, 1) := by decide +kernel
theorem dX10_worst_0 : decode cX10_worst 0 = .ok (.aload_n 0, 1) := by decide +kernel
theorem dX10_worst_1 : decode cX10_worst 1 = .ok (.iconst 0, 1) := by decide +kernel
theorem dX10_worst_2 : decode cX10_worst 2 = .ok (.putfield 142, 3) := by decide +kernel
theorem dX10_worst_5 : decode cX10_worst 5 = .ok (.iload_n 1, 1) := by decide +kernel
theorem dX10_worst_6 : decode cX10_worst 6 = .ok (.iconst 1, 1) := by decide +kernel
theorem dX10_worst_7 : decode cX10_worst 7 = .ok (.sipush 200, 3) := by decide +kernel
theorem dX10_worst_10 : decode cX10_worst 10 = .ok (.invokestatic 151, 3) := by decide +kernel
theorem dX10_worst_13 : decode cX10_worst 13 = .ok (.ifCond .ne 5, 3) := by decide +kernel
theorem dX10_worst_16 : decode cX10_worst 16 = .ok (.iconst (-1), 1) := by decide +kernel
theorem dX10_worst_17 : decode cX10_worst 17 = .ok (.ireturn, 1) := by decide +kernel
theorem dX10_worst_18 : decode cX10_worst 18 = .ok (.iconst (-1), 1) := by decide +kernel
theorem dX10_worst_19 : decode cX10_worst 19 = .ok (.istore_n 2, 1) := by decide +kernel
theorem dX10_worst_20 : decode cX10_worst 20 = .ok (.iconst 0, 1) := by decide +kernel
theorem dX10_worst_21 : decode cX10_worst 21 = .ok (.istore_n 3, 1) := by decide +kernel
theorem dX10_worst_22 : decode cX10_worst 22 = .ok (.aload_n 0, 1) := by decide +kernel
theorem dX10_worst_23 : decode cX10_worst 23 = .ok (.getfield 19, 3) := by decide +kernel
theorem dX10_worst_26 : decode cX10_worst 26 = .ok (.iconst 4, 1) := by decide +kernel
theorem dX10_worst_27 : decode cX10_worst 27 = .ok (.iaload, 1) := by decide +kernel
theorem dX10_worst_28 : decode cX10_worst 28 = .ok (.istore 4, 2) := by decide +kernel
theorem dX10_worst_30 : decode cX10_worst 30 = .ok (.aload_n 0, 1) := by decide +kernel
theorem dX10_worst_31 : decode cX10_worst 31 = .ok (.getfield 19, 3) := by decide +kernel
theorem dX10_worst_34 : decode cX10_worst 34 = .ok (.iconst 4, 1) := by decide +kernel
theorem dX10_worst_35 : decode cX10_worst 35 = .ok (.bipush 100, 2) := by decide +kernel
theorem dX10_worst_37 : decode cX10_worst 37 = .ok (.iastore, 1) := by decide +kernel
theorem dX10_worst_38 : decode cX10_worst 38 = .ok (.aload_n 0, 1) := by decide +kernel
theorem dX10_worst_39 : decode cX10_worst 39 = .ok (.iconst 3, 1) := by decide +kernel
theorem dX10_worst_40 : decode cX10_worst 40 = .ok (.invokevirtual 326, 3) := by decide +kernel
theorem dX10_worst_43 : decode cX10_worst 43 = .ok (.iconst 2, 1) := by decide +kernel
theorem dX10_worst_44 : decode cX10_worst 44 = .ok (.istore 5, 2) := by decide +kernel
theorem dX10_worst_46 : decode cX10_worst 46 = .ok (.iload 5, 2) := by decide +kernel
theorem dX10_worst_48 : decode cX10_worst 48 = .ok (.bipush 40, 2) := by decide +kernel
theorem dX10_worst_50 : decode cX10_worst 50 = .ok (.if_icmp .gt 104, 3) := by decide +kernel
theorem dX10_worst_53 : decode cX10_worst 53 = .ok (.aload_n 0, 1) := by decide +kernel
theorem dX10_worst_54 : decode cX10_worst 54 = .ok (.invokevirtual 139, 3) := by decide +kernel
theorem dX10_worst_57 : decode cX10_worst 57 = .ok (.iconst 0, 1) := by decide +kernel
theorem dX10_worst_58 : decode cX10_worst 58 = .ok (.istore 6, 2) := by decide +kernel
theorem dX10_worst_60 : decode cX10_worst 60 = .ok (.iconst 0, 1) := by decide +kernel
theorem dX10_worst_61 : decode cX10_worst 61 = .ok (.istore 7, 2) := by decide +kernel
theorem dX10_worst_63 : decode cX10_worst 63 = .ok (.iload 7, 2) := by decide +kernel
theorem dX10_worst_65 : decode cX10_worst 65 = .ok (.bipush 20, 2) := by decide +kernel
theorem dX10_worst_67 : decode cX10_worst 67 = .ok (.iload 5, 2) := by decide +kernel
theorem dX10_worst_69 : decode cX10_worst 69 = .ok (.imul, 1) := by decide +kernel
theorem dX10_worst_70 : decode cX10_worst 70 = .ok (.if_icmp .ge 58, 3) := by decide +kernel
theorem dX10_worst_73 : decode cX10_worst 73 = .ok (.aload_n 0, 1) := by decide +kernel
theorem dX10_worst_74 : decode cX10_worst 74 = .ok (.aload_n 0, 1) := by decide +kernel
theorem dX10_worst_75 : decode cX10_worst 75 = .ok (.aload_n 0, 1) := by decide +kernel
theorem dX10_worst_76 : decode cX10_worst 76 = .ok (.getfield 19, 3) := by decide +kernel
theorem dX10_worst_79 : decode cX10_worst 79 = .ok (.bipush 6, 2) := by decide +kernel
theorem dX10_worst_81 : decode cX10_worst 81 = .ok (.iaload, 1) := by decide +kernel
theorem dX10_worst_82 : decode cX10_worst 82 = .ok (.iload 7, 2) := by decide +kernel
theorem dX10_worst_84 : decode cX10_worst 84 = .ok (.iload 5, 2) := by decide +kernel
theorem dX10_worst_86 : decode cX10_worst 86 = .ok (.irem, 1) := by decide +kernel
theorem dX10_worst_87 : decode cX10_worst 87 = .ok (.iload 5, 2) := by decide +kernel
theorem dX10_worst_89 : decode cX10_worst 89 = .ok (.iconst 2, 1) := by decide +kernel
theorem dX10_worst_90 : decode cX10_worst 90 = .ok (.idiv, 1) := by decide +kernel
theorem dX10_worst_91 : decode cX10_worst 91 = .ok (.if_icmp .ge 7, 3) := by decide +kernel
theorem dX10_worst_94 : decode cX10_worst 94 = .ok (.iload_n 1, 1) := by decide +kernel
theorem dX10_worst_95 : decode cX10_worst 95 = .ok (.goto 5, 3) := by decide +kernel
theorem dX10_worst_98 : decode cX10_worst 98 = .ok (.iload_n 1, 1) := by decide +kernel
theorem dX10_worst_99 : decode cX10_worst 99 = .ok (.ineg, 1) := by decide +kernel
theorem dX10_worst_100 : decode cX10_worst 100 = .ok (.invokevirtual 287, 3) := by decide +kernel
theorem dX10_worst_103 : decode cX10_worst 103 = .ok (.iconst 0, 1) := by decide +kernel
theorem dX10_worst_104 : decode cX10_worst 104 = .ok (.invokevirtual 185, 3) := by decide +kernel
theorem dX10_worst_107 : decode cX10_worst 107 = .ok (.pop, 1) := by decide +kernel
theorem dX10_worst_108 : decode cX10_worst 108 = .ok (.iload 6, 2) := by decide +kernel
theorem dX10_worst_110 : decode cX10_worst 110 = .ok (.aload_n 0, 1) := by decide +kernel
theorem dX10_worst_111 : decode cX10_worst 111 = .ok (.invokevirtual 175, 3) := by decide +kernel
theorem dX10_worst_114 : decode cX10_worst 114 = .ok (.invokestatic 248, 3) := by decide +kernel
theorem dX10_worst_117 : decode cX10_worst 117 = .ok (.invokestatic 168, 3) := by decide +kernel
theorem dX10_worst_120 : decode cX10_worst 120 = .ok (.istore 6, 2) := by decide +kernel
theorem dX10_worst_122 : decode cX10_worst 122 = .ok (.iinc 7 1, 3) := by decide +kernel
theorem dX10_worst_125 : decode cX10_worst 125 = .ok (.goto (-62), 3) := by decide +kernel
theorem dX10_worst_128 : decode cX10_worst 128 = .ok (.iload_n 2, 1) := by decide +kernel
theorem dX10_worst_129 : decode cX10_worst 129 = .ok (.iconst (-1), 1) := by decide +kernel
theorem dX10_worst_130 : decode cX10_worst 130 = .ok (.if_icmp .eq 12, 3) := by decide +kernel
theorem dX10_worst_133 : decode cX10_worst 133 = .ok (.iload 6, 2) := by decide +kernel
theorem dX10_worst_135 : decode cX10_worst 135 = .ok (.iload_n 3, 1) := by decide +kernel
theorem dX10_worst_136 : decode cX10_worst 136 = .ok (.if_icmp .gt 6, 3) := by decide +kernel
theorem dX10_worst_139 : decode cX10_worst 139 = .ok (.goto 9, 3) := by decide +kernel
theorem dX10_worst_142 : decode cX10_worst 142 = .ok (.iload 5, 2) := by decide +kernel
theorem dX10_worst_144 : decode cX10_worst 144 = .ok (.istore_n 2, 1) := by decide +kernel
theorem dX10_worst_145 : decode cX10_worst 145 = .ok (.iload 6, 2) := by decide +kernel
theorem dX10_worst_147 : decode cX10_worst 147 = .ok (.istore_n 3, 1) := by decide +kernel
theorem dX10_worst_148 : decode cX10_worst 148 = .ok (.iinc 5 1, 3) := by decide +kernel
theorem dX10_worst_151 : decode cX10_worst 151 = .ok (.goto (-105), 3) := by decide +kernel
theorem dX10_worst_154 : decode cX10_worst 154 = .ok (.aload_n 0, 1) := by decide +kernel
theorem dX10_worst_155 : decode cX10_worst 155 = .ok (.iconst 3, 1) := by decide +kernel
theorem dX10_worst_156 : decode cX10_worst 156 = .ok (.invokevirtual 329, 3) := by decide +kernel
theorem dX10_worst_159 : decode cX10_worst 159 = .ok (.aload_n 0, 1) := by decide +kernel
theorem dX10_worst_160 : decode cX10_worst 160 = .ok (.getfield 19, 3) := by decide +kernel
theorem dX10_worst_163 : decode cX10_worst 163 = .ok (.iconst 4, 1) := by decide +kernel
theorem dX10_worst_164 : decode cX10_worst 164 = .ok (.iload 4, 2) := by decide +kernel
theorem dX10_worst_166 : decode cX10_worst 166 = .ok (.iastore, 1) := by decide +kernel
theorem dX10_worst_167 : decode cX10_worst 167 = .ok (.aload_n 0, 1) := by decide +kernel
theorem dX10_worst_168 : decode cX10_worst 168 = .ok (.iconst 0, 1) := by decide +kernel
theorem dX10_worst_169 : decode cX10_worst 169 = .ok (.putfield 145, 3) := by decide +kernel
theorem dX10_worst_172 : decode cX10_worst 172 = .ok (.aload_n 0, 1) := by decide +kernel
theorem dX10_worst_173 : decode cX10_worst 173 = .ok (.iload_n 3, 1) := by decide +kernel
theorem dX10_worst_174 : decode cX10_worst 174 = .ok (.i2l, 1) := by decide +kernel
theorem dX10_worst_175 : decode cX10_worst 175 = .ok (.invokevirtual 252, 3) := by decide +kernel
theorem dX10_worst_178 : decode cX10_worst 178 = .ok (.iload_n 2, 1) := by decide +kernel
theorem dX10_worst_179 : decode cX10_worst 179 = .ok (.ireturn, 1) := by decide +kernel
theorem dX10_would_0 : decode cX10_would 0 = .ok (.aload_n 0, 1) := by decide +kernel
theorem dX10_would_1 : decode cX10_would 1 = .ok (.iconst 0, 1) := by decide +kernel
theorem dX10_would_2 : decode cX10_would 2 = .ok (.putfield 142, 3) := by decide +kernel
theorem dX10_would_5 : decode cX10_would 5 = .ok (.iload_n 1, 1) := by decide +kernel
theorem dX10_would_6 : decode cX10_would 6 = .ok (.invokestatic 245, 3) := by decide +kernel
theorem dX10_would_9 : decode cX10_would 9 = .ok (.ifCond .ne 5, 3) := by decide +kernel
theorem dX10_would_12 : decode cX10_would 12 = .ok (.iconst (-1), 1) := by decide +kernel
theorem dX10_would_13 : decode cX10_would 13 = .ok (.ireturn, 1) := by decide +kernel
theorem dX10_would_14 : decode cX10_would 14 = .ok (.aload_n 0, 1) := by decide +kernel
theorem dX10_would_15 : decode cX10_would 15 = .ok (.iload_n 1, 1) := by decide +kernel
theorem dX10_would_16 : decode cX10_would 16 = .ok (.iload_n 2, 1) := by decide +kernel
theorem dX10_would_17 : decode cX10_would 17 = .ok (.invokevirtual 338, 3) := by decide +kernel
theorem dX10_would_20 : decode cX10_would 20 = .ok (.istore_n 3, 1) := by decide +kernel
theorem dX10_would_21 : decode cX10_would 21 = .ok (.aload_n 0, 1) := by decide +kernel
theorem dX10_would_22 : decode cX10_would 22 = .ok (.iconst 0, 1) := by decide +kernel
theorem dX10_would_23 : decode cX10_would 23 = .ok (.putfield 145, 3) := by decide +kernel
theorem dX10_would_26 : decode cX10_would 26 = .ok (.aload_n 0, 1) := by decide +kernel
theorem dX10_would_27 : decode cX10_would 27 = .ok (.aload_n 0, 1) := by decide +kernel
theorem dX10_would_28 : decode cX10_would 28 = .ok (.getfield 291, 3) := by decide +kernel
theorem dX10_would_31 : decode cX10_would 31 = .ok (.i2l, 1) := by decide +kernel
theorem dX10_would_32 : decode cX10_would 32 = .ok (.invokevirtual 252, 3) := by decide +kernel
theorem dX10_would_35 : decode cX10_would 35 = .ok (.aload_n 0, 1) := by decide +kernel
theorem dX10_would_36 : decode cX10_would 36 = .ok (.aload_n 0, 1) := by decide +kernel
theorem dX10_would_37 : decode cX10_would 37 = .ok (.getfield 294, 3) := by decide +kernel
theorem dX10_would_40 : decode cX10_would 40 = .ok (.i2l, 1) := by decide +kernel
theorem dX10_would_41 : decode cX10_would 41 = .ok (.invokevirtual 252, 3) := by decide +kernel
theorem dX10_would_44 : decode cX10_would 44 = .ok (.aload_n 0, 1) := by decide +kernel
theorem dX10_would_45 : decode cX10_would 45 = .ok (.aload_n 0, 1) := by decide +kernel
theorem dX10_would_46 : decode cX10_would 46 = .ok (.getfield 297, 3) := by decide +kernel
theorem dX10_would_49 : decode cX10_would 49 = .ok (.i2l, 1) := by decide +kernel
theorem dX10_would_50 : decode cX10_would 50 = .ok (.invokevirtual 252, 3) := by decide +kernel
theorem dX10_would_53 : decode cX10_would 53 = .ok (.iload_n 3, 1) := by decide +kernel
theorem dX10_would_54 : decode cX10_would 54 = .ok (.ireturn, 1) := by decide +kernel
theorem dX10_common_0 : decode cX10_common 0 = .ok (.lload_n 2, 1) := by decide +kernel
theorem dX10_common_1 : decode cX10_common 1 = .ok (.lconst 0, 1) := by decide +kernel
theorem dX10_common_2 : decode cX10_common 2 = .ok (.lcmp, 1) := by decide +kernel
theorem dX10_common_3 : decode cX10_common 3 = .ok (.ifCond .ne 10, 3) := by decide +kernel
theorem dX10_common_6 : decode cX10_common 6 = .ok (.lload_n 0, 1) := by decide +kernel
theorem dX10_common_7 : decode cX10_common 7 = .ok (.invokestatic 341, 3) := by decide +kernel
theorem dX10_common_10 : decode cX10_common 10 = .ok (.goto 10, 3) := by decide +kernel
theorem dX10_common_13 : decode cX10_common 13 = .ok (.lload_n 2, 1) := by decide +kernel
theorem dX10_common_14 : decode cX10_common 14 = .ok (.lload_n 0, 1) := by decide +kernel
theorem dX10_common_15 : decode cX10_common 15 = .ok (.lload_n 2, 1) := by decide +kernel
theorem dX10_common_16 : decode cX10_common 16 = .ok (.lrem, 1) := by decide +kernel
theorem dX10_common_17 : decode cX10_common 17 = .ok (.invokestatic 344, 3) := by decide +kernel
theorem dX10_common_20 : decode cX10_common 20 = .ok (.lreturn, 1) := by decide +kernel
theorem dX10_tellPart_0 : decode cX10_tellPart 0 = .ok (.lload_n 1, 1) := by decide +kernel
theorem dX10_tellPart_1 : decode cX10_tellPart 1 = .ok (.lload_n 3, 1) := by decide +kernel
theorem dX10_tellPart_2 : decode cX10_tellPart 2 = .ok (.invokestatic 344, 3) := by decide +kernel
theorem dX10_tellPart_5 : decode cX10_tellPart 5 = .ok (.lstore 5, 2) := by decide +kernel
theorem dX10_tellPart_7 : decode cX10_tellPart 7 = .ok (.aload_n 0, 1) := by decide +kernel
theorem dX10_tellPart_8 : decode cX10_tellPart 8 = .ok (.lload_n 1, 1) := by decide +kernel
theorem dX10_tellPart_9 : decode cX10_tellPart 9 = .ok (.lload 5, 2) := by decide +kernel
theorem dX10_tellPart_11 : decode cX10_tellPart 11 = .ok (.ldiv, 1) := by decide +kernel
theorem dX10_tellPart_12 : decode cX10_tellPart 12 = .ok (.invokevirtual 252, 3) := by decide +kernel
theorem dX10_tellPart_15 : decode cX10_tellPart 15 = .ok (.aload_n 0, 1) := by decide +kernel
theorem dX10_tellPart_16 : decode cX10_tellPart 16 = .ok (.lload_n 3, 1) := by decide +kernel
theorem dX10_tellPart_17 : decode cX10_tellPart 17 = .ok (.lload 5, 2) := by decide +kernel
theorem dX10_tellPart_19 : decode cX10_tellPart 19 = .ok (.ldiv, 1) := by decide +kernel
theorem dX10_tellPart_20 : decode cX10_tellPart 20 = .ok (.invokevirtual 252, 3) := by decide +kernel
theorem dX10_tellPart_23 : decode cX10_tellPart 23 = .ok (.return_, 1) := by decide +kernel
theorem dX10_odds_0 : decode cX10_odds 0 = .ok (.aload_n 0, 1) := by decide +kernel
theorem dX10_odds_1 : decode cX10_odds 1 = .ok (.iconst 0, 1) := by decide +kernel
theorem dX10_odds_2 : decode cX10_odds 2 = .ok (.putfield 142, 3) := by decide +kernel
theorem dX10_odds_5 : decode cX10_odds 5 = .ok (.iload_n 1, 1) := by decide +kernel
theorem dX10_odds_6 : decode cX10_odds 6 = .ok (.invokestatic 245, 3) := by decide +kernel
theorem dX10_odds_9 : decode cX10_odds 9 = .ok (.ifCond .eq 13, 3) := by decide +kernel
theorem dX10_odds_12 : decode cX10_odds 12 = .ok (.iload_n 2, 1) := by decide +kernel
theorem dX10_odds_13 : decode cX10_odds 13 = .ok (.iconst 1, 1) := by decide +kernel
theorem dX10_odds_14 : decode cX10_odds 14 = .ok (.bipush 20, 2) := by decide +kernel
theorem dX10_odds_16 : decode cX10_odds 16 = .ok (.invokestatic 151, 3) := by decide +kernel
theorem dX10_odds_19 : decode cX10_odds 19 = .ok (.ifCond .ne 5, 3) := by decide +kernel
theorem dX10_odds_22 : decode cX10_odds 22 = .ok (.iconst (-1), 1) := by decide +kernel
theorem dX10_odds_23 : decode cX10_odds 23 = .ok (.ireturn, 1) := by decide +kernel
theorem dX10_odds_24 : decode cX10_odds 24 = .ok (.iconst 0, 1) := by decide +kernel
theorem dX10_odds_25 : decode cX10_odds 25 = .ok (.istore_n 3, 1) := by decide +kernel
theorem dX10_odds_26 : decode cX10_odds 26 = .ok (.iload_n 3, 1) := by decide +kernel
theorem dX10_odds_27 : decode cX10_odds 27 = .ok (.sipush 1000, 3) := by decide +kernel
theorem dX10_odds_30 : decode cX10_odds 30 = .ok (.if_icmp .ge 16, 3) := by decide +kernel
theorem dX10_odds_33 : decode cX10_odds 33 = .ok (.aload_n 0, 1) := by decide +kernel
theorem dX10_odds_34 : decode cX10_odds 34 = .ok (.getfield 96, 3) := by decide +kernel
theorem dX10_odds_37 : decode cX10_odds 37 = .ok (.iload_n 3, 1) := by decide +kernel
theorem dX10_odds_38 : decode cX10_odds 38 = .ok (.iconst 0, 1) := by decide +kernel
theorem dX10_odds_39 : decode cX10_odds 39 = .ok (.iastore, 1) := by decide +kernel
theorem dX10_odds_40 : decode cX10_odds 40 = .ok (.iinc 3 1, 3) := by decide +kernel
theorem dX10_odds_43 : decode cX10_odds 43 = .ok (.goto (-17), 3) := by decide +kernel
theorem dX10_odds_46 : decode cX10_odds 46 = .ok (.iconst 0, 1) := by decide +kernel
theorem dX10_odds_47 : decode cX10_odds 47 = .ok (.istore_n 3, 1) := by decide +kernel
theorem dX10_odds_48 : decode cX10_odds 48 = .ok (.iconst 1, 1) := by decide +kernel
theorem dX10_odds_49 : decode cX10_odds 49 = .ok (.istore 4, 2) := by decide +kernel
theorem dX10_odds_51 : decode cX10_odds 51 = .ok (.iload 4, 2) := by decide +kernel
theorem dX10_odds_53 : decode cX10_odds 53 = .ok (.iload_n 2, 1) := by decide +kernel
theorem dX10_odds_54 : decode cX10_odds 54 = .ok (.if_icmp .gt 46, 3) := by decide +kernel
theorem dX10_odds_57 : decode cX10_odds 57 = .ok (.aload_n 0, 1) := by decide +kernel
theorem dX10_odds_58 : decode cX10_odds 58 = .ok (.iload_n 1, 1) := by decide +kernel
theorem dX10_odds_59 : decode cX10_odds 59 = .ok (.iload 4, 2) := by decide +kernel
theorem dX10_odds_61 : decode cX10_odds 61 = .ok (.invokevirtual 338, 3) := by decide +kernel
theorem dX10_odds_64 : decode cX10_odds 64 = .ok (.ifCond .ne 6, 3) := by decide +kernel
theorem dX10_odds_67 : decode cX10_odds 67 = .ok (.goto 27, 3) := by decide +kernel
theorem dX10_odds_70 : decode cX10_odds 70 = .ok (.iinc 3 1, 3) := by decide +kernel
theorem dX10_odds_73 : decode cX10_odds 73 = .ok (.aload_n 0, 1) := by decide +kernel
theorem dX10_odds_74 : decode cX10_odds 74 = .ok (.getfield 294, 3) := by decide +kernel
theorem dX10_odds_77 : decode cX10_odds 77 = .ok (.iconst (-1), 1) := by decide +kernel
theorem dX10_odds_78 : decode cX10_odds 78 = .ok (.if_icmp .eq 16, 3) := by decide +kernel
theorem dX10_odds_81 : decode cX10_odds 81 = .ok (.aload_n 0, 1) := by decide +kernel
theorem dX10_odds_82 : decode cX10_odds 82 = .ok (.getfield 96, 3) := by decide +kernel
theorem dX10_odds_85 : decode cX10_odds 85 = .ok (.aload_n 0, 1) := by decide +kernel
theorem dX10_odds_86 : decode cX10_odds 86 = .ok (.getfield 294, 3) := by decide +kernel
theorem dX10_odds_89 : decode cX10_odds 89 = .ok (.dup2, 1) := by decide +kernel
theorem dX10_odds_90 : decode cX10_odds 90 = .ok (.iaload, 1) := by decide +kernel
theorem dX10_odds_91 : decode cX10_odds 91 = .ok (.iconst 1, 1) := by decide +kernel
theorem dX10_odds_92 : decode cX10_odds 92 = .ok (.iadd, 1) := by decide +kernel
theorem dX10_odds_93 : decode cX10_odds 93 = .ok (.iastore, 1) := by decide +kernel
theorem dX10_odds_94 : decode cX10_odds 94 = .ok (.iinc 4 1, 3) := by decide +kernel
theorem dX10_odds_97 : decode cX10_odds 97 = .ok (.goto (-46), 3) := by decide +kernel
theorem dX10_odds_100 : decode cX10_odds 100 = .ok (.iconst 0, 1) := by decide +kernel
theorem dX10_odds_101 : decode cX10_odds 101 = .ok (.istore 4, 2) := by decide +kernel
theorem dX10_odds_103 : decode cX10_odds 103 = .ok (.iconst 0, 1) := by decide +kernel
theorem dX10_odds_104 : decode cX10_odds 104 = .ok (.istore 5, 2) := by decide +kernel
theorem dX10_odds_106 : decode cX10_odds 106 = .ok (.iload 5, 2) := by decide +kernel
theorem dX10_odds_108 : decode cX10_odds 108 = .ok (.sipush 1000, 3) := by decide +kernel
theorem dX10_odds_111 : decode cX10_odds 111 = .ok (.if_icmp .ge 30, 3) := by decide +kernel
theorem dX10_odds_114 : decode cX10_odds 114 = .ok (.aload_n 0, 1) := by decide +kernel
theorem dX10_odds_115 : decode cX10_odds 115 = .ok (.getfield 96, 3) := by decide +kernel
theorem dX10_odds_118 : decode cX10_odds 118 = .ok (.iload 5, 2) := by decide +kernel
theorem dX10_odds_120 : decode cX10_odds 120 = .ok (.iaload, 1) := by decide +kernel
theorem dX10_odds_121 : decode cX10_odds 121 = .ok (.aload_n 0, 1) := by decide +kernel
theorem dX10_odds_122 : decode cX10_odds 122 = .ok (.getfield 96, 3) := by decide +kernel
theorem dX10_odds_125 : decode cX10_odds 125 = .ok (.iload 4, 2) := by decide +kernel
theorem dX10_odds_127 : decode cX10_odds 127 = .ok (.iaload, 1) := by decide +kernel
theorem dX10_odds_128 : decode cX10_odds 128 = .ok (.if_icmp .le 7, 3) := by decide +kernel
theorem dX10_odds_131 : decode cX10_odds 131 = .ok (.iload 5, 2) := by decide +kernel
theorem dX10_odds_133 : decode cX10_odds 133 = .ok (.istore 4, 2) := by decide +kernel
theorem dX10_odds_135 : decode cX10_odds 135 = .ok (.iinc 5 1, 3) := by decide +kernel
theorem dX10_odds_138 : decode cX10_odds 138 = .ok (.goto (-32), 3) := by decide +kernel
theorem dX10_odds_141 : decode cX10_odds 141 = .ok (.aload_n 0, 1) := by decide +kernel
theorem dX10_odds_142 : decode cX10_odds 142 = .ok (.iconst 0, 1) := by decide +kernel
theorem dX10_odds_143 : decode cX10_odds 143 = .ok (.putfield 145, 3) := by decide +kernel
theorem dX10_odds_146 : decode cX10_odds 146 = .ok (.aload_n 0, 1) := by decide +kernel
theorem dX10_odds_147 : decode cX10_odds 147 = .ok (.iload_n 3, 1) := by decide +kernel
theorem dX10_odds_148 : decode cX10_odds 148 = .ok (.i2l, 1) := by decide +kernel
theorem dX10_odds_149 : decode cX10_odds 149 = .ok (.iload_n 2, 1) := by decide +kernel
theorem dX10_odds_150 : decode cX10_odds 150 = .ok (.i2l, 1) := by decide +kernel
theorem dX10_odds_151 : decode cX10_odds 151 = .ok (.invokevirtual 348, 3) := by decide +kernel
theorem dX10_odds_154 : decode cX10_odds 154 = .ok (.aload_n 0, 1) := by decide +kernel
theorem dX10_odds_155 : decode cX10_odds 155 = .ok (.aload_n 0, 1) := by decide +kernel
theorem dX10_odds_156 : decode cX10_odds 156 = .ok (.getfield 96, 3) := by decide +kernel
theorem dX10_odds_159 : decode cX10_odds 159 = .ok (.iload 4, 2) := by decide +kernel
theorem dX10_odds_161 : decode cX10_odds 161 = .ok (.iaload, 1) := by decide +kernel
theorem dX10_odds_162 : decode cX10_odds 162 = .ok (.ifCond .ne 9, 3) := by decide +kernel
theorem dX10_odds_165 : decode cX10_odds 165 = .ok (.ldc2_w 352, 3) := by decide +kernel
theorem dX10_odds_168 : decode cX10_odds 168 = .ok (.goto 6, 3) := by decide +kernel
theorem dX10_odds_171 : decode cX10_odds 171 = .ok (.iload 4, 2) := by decide +kernel
theorem dX10_odds_173 : decode cX10_odds 173 = .ok (.i2l, 1) := by decide +kernel
theorem dX10_odds_174 : decode cX10_odds 174 = .ok (.invokevirtual 252, 3) := by decide +kernel
theorem dX10_odds_177 : decode cX10_odds 177 = .ok (.iconst 0, 1) := by decide +kernel
theorem dX10_odds_178 : decode cX10_odds 178 = .ok (.ireturn, 1) := by decide +kernel
theorem dX10_full_0 : decode cX10_full 0 = .ok (.aload_n 0, 1) := by decide +kernel
theorem dX10_full_1 : decode cX10_full 1 = .ok (.iconst 0, 1) := by decide +kernel
theorem dX10_full_2 : decode cX10_full 2 = .ok (.putfield 142, 3) := by decide +kernel
theorem dX10_full_5 : decode cX10_full 5 = .ok (.iload_n 1, 1) := by decide +kernel
theorem dX10_full_6 : decode cX10_full 6 = .ok (.invokestatic 245, 3) := by decide +kernel
theorem dX10_full_9 : decode cX10_full 9 = .ok (.ifCond .ne 5, 3) := by decide +kernel
theorem dX10_full_12 : decode cX10_full 12 = .ok (.iconst (-1), 1) := by decide +kernel
theorem dX10_full_13 : decode cX10_full 13 = .ok (.ireturn, 1) := by decide +kernel
theorem dX10_full_14 : decode cX10_full 14 = .ok (.aload_n 0, 1) := by decide +kernel
theorem dX10_full_15 : decode cX10_full 15 = .ok (.getfield 16, 3) := by decide +kernel
theorem dX10_full_18 : decode cX10_full 18 = .ok (.istore_n 2, 1) := by decide +kernel
theorem dX10_full_19 : decode cX10_full 19 = .ok (.bipush (-2), 2) := by decide +kernel
theorem dX10_full_21 : decode cX10_full 21 = .ok (.istore_n 3, 1) := by decide +kernel
theorem dX10_full_22 : decode cX10_full 22 = .ok (.bipush 20, 2) := by decide +kernel
theorem dX10_full_24 : decode cX10_full 24 = .ok (.istore 4, 2) := by decide +kernel
theorem dX10_full_26 : decode cX10_full 26 = .ok (.iload 4, 2) := by decide +kernel
theorem dX10_full_28 : decode cX10_full 28 = .ok (.ifCond .lt 41, 3) := by decide +kernel
theorem dX10_full_31 : decode cX10_full 31 = .ok (.iload_n 3, 1) := by decide +kernel
theorem dX10_full_32 : decode cX10_full 32 = .ok (.ifCond .ge 37, 3) := by decide +kernel
theorem dX10_full_35 : decode cX10_full 35 = .ok (.aload_n 0, 1) := by decide +kernel
theorem dX10_full_36 : decode cX10_full 36 = .ok (.aload_n 0, 1) := by decide +kernel
theorem dX10_full_37 : decode cX10_full 37 = .ok (.getfield 13, 3) := by decide +kernel
theorem dX10_full_40 : decode cX10_full 40 = .ok (.iload 4, 2) := by decide +kernel
theorem dX10_full_42 : decode cX10_full 42 = .ok (.imul, 1) := by decide +kernel
theorem dX10_full_43 : decode cX10_full 43 = .ok (.bipush 20, 2) := by decide +kernel
theorem dX10_full_45 : decode cX10_full 45 = .ok (.idiv, 1) := by decide +kernel
theorem dX10_full_46 : decode cX10_full 46 = .ok (.putfield 16, 3) := by decide +kernel
theorem dX10_full_49 : decode cX10_full 49 = .ok (.aload_n 0, 1) := by decide +kernel
theorem dX10_full_50 : decode cX10_full 50 = .ok (.iload_n 1, 1) := by decide +kernel
theorem dX10_full_51 : decode cX10_full 51 = .ok (.iconst 1, 1) := by decide +kernel
theorem dX10_full_52 : decode cX10_full 52 = .ok (.invokevirtual 338, 3) := by decide +kernel
theorem dX10_full_55 : decode cX10_full 55 = .ok (.ifCond .ne 8, 3) := by decide +kernel
theorem dX10_full_58 : decode cX10_full 58 = .ok (.aload_n 0, 1) := by decide +kernel
theorem dX10_full_59 : decode cX10_full 59 = .ok (.getfield 16, 3) := by decide +kernel
theorem dX10_full_62 : decode cX10_full 62 = .ok (.istore_n 3, 1) := by decide +kernel
theorem dX10_full_63 : decode cX10_full 63 = .ok (.iinc 4 (-1), 3) := by decide +kernel
theorem dX10_full_66 : decode cX10_full 66 = .ok (.goto (-40), 3) := by decide +kernel
theorem dX10_full_69 : decode cX10_full 69 = .ok (.aload_n 0, 1) := by decide +kernel
theorem dX10_full_70 : decode cX10_full 70 = .ok (.iload_n 2, 1) := by decide +kernel
theorem dX10_full_71 : decode cX10_full 71 = .ok (.putfield 16, 3) := by decide +kernel
theorem dX10_full_74 : decode cX10_full 74 = .ok (.iload_n 3, 1) := by decide +kernel
theorem dX10_full_75 : decode cX10_full 75 = .ok (.ireturn, 1) := by decide +kernel
theorem dX10_leads_0 : decode cX10_leads 0 = .ok (.aload_n 0, 1) := by decide +kernel
theorem dX10_leads_1 : decode cX10_leads 1 = .ok (.iconst 0, 1) := by decide +kernel
theorem dX10_leads_2 : decode cX10_leads 2 = .ok (.putfield 142, 3) := by decide +kernel
theorem dX10_leads_5 : decode cX10_leads 5 = .ok (.iload_n 1, 1) := by decide +kernel
theorem dX10_leads_6 : decode cX10_leads 6 = .ok (.invokestatic 245, 3) := by decide +kernel
theorem dX10_leads_9 : decode cX10_leads 9 = .ok (.ifCond .eq 13, 3) := by decide +kernel
theorem dX10_leads_12 : decode cX10_leads 12 = .ok (.iload_n 2, 1) := by decide +kernel
theorem dX10_leads_13 : decode cX10_leads 13 = .ok (.iconst 0, 1) := by decide +kernel
theorem dX10_leads_14 : decode cX10_leads 14 = .ok (.bipush 99, 2) := by decide +kernel
theorem dX10_leads_16 : decode cX10_leads 16 = .ok (.invokestatic 151, 3) := by decide +kernel
theorem dX10_leads_19 : decode cX10_leads 19 = .ok (.ifCond .ne 5, 3) := by decide +kernel
theorem dX10_leads_22 : decode cX10_leads 22 = .ok (.iconst (-1), 1) := by decide +kernel
theorem dX10_leads_23 : decode cX10_leads 23 = .ok (.ireturn, 1) := by decide +kernel
theorem dX10_leads_24 : decode cX10_leads 24 = .ok (.aload_n 0, 1) := by decide +kernel
theorem dX10_leads_25 : decode cX10_leads 25 = .ok (.getfield 99, 3) := by decide +kernel
theorem dX10_leads_28 : decode cX10_leads 28 = .ok (.iload_n 1, 1) := by decide +kernel
theorem dX10_leads_29 : decode cX10_leads 29 = .ok (.iaload, 1) := by decide +kernel
theorem dX10_leads_30 : decode cX10_leads 30 = .ok (.istore_n 3, 1) := by decide +kernel
theorem dX10_leads_31 : decode cX10_leads 31 = .ok (.aload_n 0, 1) := by decide +kernel
theorem dX10_leads_32 : decode cX10_leads 32 = .ok (.getfield 99, 3) := by decide +kernel
theorem dX10_leads_35 : decode cX10_leads 35 = .ok (.iload_n 1, 1) := by decide +kernel
theorem dX10_leads_36 : decode cX10_leads 36 = .ok (.iload_n 2, 1) := by decide +kernel
theorem dX10_leads_37 : decode cX10_leads 37 = .ok (.iastore, 1) := by decide +kernel
theorem dX10_leads_38 : decode cX10_leads 38 = .ok (.iload_n 3, 1) := by decide +kernel
theorem dX10_leads_39 : decode cX10_leads 39 = .ok (.ireturn, 1) := by decide +kernel
theorem dX10_planFrom_0 : decode cX10_planFrom 0 = .ok (.iconst 0, 1) := by decide +kernel
theorem dX10_planFrom_1 : decode cX10_planFrom 1 = .ok (.istore 4, 2) := by decide +kernel
theorem dX10_planFrom_3 : decode cX10_planFrom 3 = .ok (.iload 4, 2) := by decide +kernel
theorem dX10_planFrom_5 : decode cX10_planFrom 5 = .ok (.iconst 4, 1) := by decide +kernel
theorem dX10_planFrom_6 : decode cX10_planFrom 6 = .ok (.if_icmp .ge 174, 3) := by decide +kernel
theorem dX10_planFrom_9 : decode cX10_planFrom 9 = .ok (.aload_n 0, 1) := by decide +kernel
theorem dX10_planFrom_10 : decode cX10_planFrom 10 = .ok (.getfield 99, 3) := by decide +kernel
theorem dX10_planFrom_13 : decode cX10_planFrom 13 = .ok (.iload 4, 2) := by decide +kernel
theorem dX10_planFrom_15 : decode cX10_planFrom 15 = .ok (.iaload, 1) := by decide +kernel
theorem dX10_planFrom_16 : decode cX10_planFrom 16 = .ok (.ifCond .ne 6, 3) := by decide +kernel
theorem dX10_planFrom_19 : decode cX10_planFrom 19 = .ok (.goto 155, 3) := by decide +kernel
theorem dX10_planFrom_22 : decode cX10_planFrom 22 = .ok (.iload_n 3, 1) := by decide +kernel
theorem dX10_planFrom_23 : decode cX10_planFrom 23 = .ok (.aload_n 0, 1) := by decide +kernel
theorem dX10_planFrom_24 : decode cX10_planFrom 24 = .ok (.getfield 49, 3) := by decide +kernel
theorem dX10_planFrom_27 : decode cX10_planFrom 27 = .ok (.iload 4, 2) := by decide +kernel
theorem dX10_planFrom_29 : decode cX10_planFrom 29 = .ok (.iaload, 1) := by decide +kernel
theorem dX10_planFrom_30 : decode cX10_planFrom 30 = .ok (.iadd, 1) := by decide +kernel
theorem dX10_planFrom_31 : decode cX10_planFrom 31 = .ok (.istore 5, 2) := by decide +kernel
theorem dX10_planFrom_33 : decode cX10_planFrom 33 = .ok (.aload_n 0, 1) := by decide +kernel
theorem dX10_planFrom_34 : decode cX10_planFrom 34 = .ok (.getfield 354, 3) := by decide +kernel
theorem dX10_planFrom_37 : decode cX10_planFrom 37 = .ok (.iconst (-1), 1) := by decide +kernel
theorem dX10_planFrom_38 : decode cX10_planFrom 38 = .ok (.if_icmp .eq 15, 3) := by decide +kernel
theorem dX10_planFrom_41 : decode cX10_planFrom 41 = .ok (.iload 5, 2) := by decide +kernel
theorem dX10_planFrom_43 : decode cX10_planFrom 43 = .ok (.aload_n 0, 1) := by decide +kernel
theorem dX10_planFrom_44 : decode cX10_planFrom 44 = .ok (.getfield 357, 3) := by decide +kernel
theorem dX10_planFrom_47 : decode cX10_planFrom 47 = .ok (.if_icmp .lt 6, 3) := by decide +kernel
theorem dX10_planFrom_50 : decode cX10_planFrom 50 = .ok (.goto 124, 3) := by decide +kernel
theorem dX10_planFrom_53 : decode cX10_planFrom 53 = .ok (.aload_n 0, 1) := by decide +kernel
theorem dX10_planFrom_54 : decode cX10_planFrom 54 = .ok (.iconst 3, 1) := by decide +kernel
theorem dX10_planFrom_55 : decode cX10_planFrom 55 = .ok (.invokevirtual 326, 3) := by decide +kernel
theorem dX10_planFrom_58 : decode cX10_planFrom 58 = .ok (.aload_n 0, 1) := by decide +kernel
theorem dX10_planFrom_59 : decode cX10_planFrom 59 = .ok (.getfield 102, 3) := by decide +kernel
theorem dX10_planFrom_62 : decode cX10_planFrom 62 = .ok (.iload_n 1, 1) := by decide +kernel
theorem dX10_planFrom_63 : decode cX10_planFrom 63 = .ok (.iload 4, 2) := by decide +kernel
theorem dX10_planFrom_65 : decode cX10_planFrom 65 = .ok (.iastore, 1) := by decide +kernel
theorem dX10_planFrom_66 : decode cX10_planFrom 66 = .ok (.aload_n 0, 1) := by decide +kernel
theorem dX10_planFrom_67 : decode cX10_planFrom 67 = .ok (.iload_n 1, 1) := by decide +kernel
theorem dX10_planFrom_68 : decode cX10_planFrom 68 = .ok (.invokevirtual 360, 3) := by decide +kernel
theorem dX10_planFrom_71 : decode cX10_planFrom 71 = .ok (.istore 6, 2) := by decide +kernel
theorem dX10_planFrom_73 : decode cX10_planFrom 73 = .ok (.aload_n 0, 1) := by decide +kernel
theorem dX10_planFrom_74 : decode cX10_planFrom 74 = .ok (.iload 4, 2) := by decide +kernel
theorem dX10_planFrom_76 : decode cX10_planFrom 76 = .ok (.iconst 0, 1) := by decide +kernel
theorem dX10_planFrom_77 : decode cX10_planFrom 77 = .ok (.sipush 1000, 3) := by decide +kernel
theorem dX10_planFrom_80 : decode cX10_planFrom 80 = .ok (.sipush 1001, 3) := by decide +kernel
theorem dX10_planFrom_83 : decode cX10_planFrom 83 = .ok (.invokevirtual 313, 3) := by decide +kernel
theorem dX10_planFrom_86 : decode cX10_planFrom 86 = .ok (.ifCond .ne 82, 3) := by decide +kernel
theorem dX10_planFrom_89 : decode cX10_planFrom 89 = .ok (.aload_n 0, 1) := by decide +kernel
theorem dX10_planFrom_90 : decode cX10_planFrom 90 = .ok (.getfield 99, 3) := by decide +kernel
theorem dX10_planFrom_93 : decode cX10_planFrom 93 = .ok (.iload 4, 2) := by decide +kernel
theorem dX10_planFrom_95 : decode cX10_planFrom 95 = .ok (.iaload, 1) := by decide +kernel
theorem dX10_planFrom_96 : decode cX10_planFrom 96 = .ok (.iload_n 2, 1) := by decide +kernel
theorem dX10_planFrom_97 : decode cX10_planFrom 97 = .ok (.if_icmp .lt 48, 3) := by decide +kernel
theorem dX10_planFrom_100 : decode cX10_planFrom 100 = .ok (.aload_n 0, 1) := by decide +kernel
theorem dX10_planFrom_101 : decode cX10_planFrom 101 = .ok (.iload 5, 2) := by decide +kernel
theorem dX10_planFrom_103 : decode cX10_planFrom 103 = .ok (.putfield 357, 3) := by decide +kernel
theorem dX10_planFrom_106 : decode cX10_planFrom 106 = .ok (.aload_n 0, 1) := by decide +kernel
theorem dX10_planFrom_107 : decode cX10_planFrom 107 = .ok (.iload_n 1, 1) := by decide +kernel
theorem dX10_planFrom_108 : decode cX10_planFrom 108 = .ok (.iconst 1, 1) := by decide +kernel
theorem dX10_planFrom_109 : decode cX10_planFrom 109 = .ok (.iadd, 1) := by decide +kernel
theorem dX10_planFrom_110 : decode cX10_planFrom 110 = .ok (.putfield 354, 3) := by decide +kernel
theorem dX10_planFrom_113 : decode cX10_planFrom 113 = .ok (.iconst 0, 1) := by decide +kernel
theorem dX10_planFrom_114 : decode cX10_planFrom 114 = .ok (.istore 7, 2) := by decide +kernel
theorem dX10_planFrom_116 : decode cX10_planFrom 116 = .ok (.iload 7, 2) := by decide +kernel
theorem dX10_planFrom_118 : decode cX10_planFrom 118 = .ok (.iload_n 1, 1) := by decide +kernel
theorem dX10_planFrom_119 : decode cX10_planFrom 119 = .ok (.if_icmp .gt 23, 3) := by decide +kernel
theorem dX10_planFrom_122 : decode cX10_planFrom 122 = .ok (.aload_n 0, 1) := by decide +kernel
theorem dX10_planFrom_123 : decode cX10_planFrom 123 = .ok (.getfield 105, 3) := by decide +kernel
theorem dX10_planFrom_126 : decode cX10_planFrom 126 = .ok (.iload 7, 2) := by decide +kernel
theorem dX10_planFrom_128 : decode cX10_planFrom 128 = .ok (.aload_n 0, 1) := by decide +kernel
theorem dX10_planFrom_129 : decode cX10_planFrom 129 = .ok (.getfield 102, 3) := by decide +kernel
theorem dX10_planFrom_132 : decode cX10_planFrom 132 = .ok (.iload 7, 2) := by decide +kernel
theorem dX10_planFrom_134 : decode cX10_planFrom 134 = .ok (.iaload, 1) := by decide +kernel
theorem dX10_planFrom_135 : decode cX10_planFrom 135 = .ok (.iastore, 1) := by decide +kernel
theorem dX10_planFrom_136 : decode cX10_planFrom 136 = .ok (.iinc 7 1, 3) := by decide +kernel
theorem dX10_planFrom_139 : decode cX10_planFrom 139 = .ok (.goto (-23), 3) := by decide +kernel
theorem dX10_planFrom_142 : decode cX10_planFrom 142 = .ok (.goto 26, 3) := by decide +kernel
theorem dX10_planFrom_145 : decode cX10_planFrom 145 = .ok (.iload_n 1, 1) := by decide +kernel
theorem dX10_planFrom_146 : decode cX10_planFrom 146 = .ok (.iconst 3, 1) := by decide +kernel
theorem dX10_planFrom_147 : decode cX10_planFrom 147 = .ok (.if_icmp .ge 21, 3) := by decide +kernel
theorem dX10_planFrom_150 : decode cX10_planFrom 150 = .ok (.aload_n 0, 1) := by decide +kernel
theorem dX10_planFrom_151 : decode cX10_planFrom 151 = .ok (.iload_n 1, 1) := by decide +kernel
theorem dX10_planFrom_152 : decode cX10_planFrom 152 = .ok (.iconst 1, 1) := by decide +kernel
theorem dX10_planFrom_153 : decode cX10_planFrom 153 = .ok (.iadd, 1) := by decide +kernel
theorem dX10_planFrom_154 : decode cX10_planFrom 154 = .ok (.iload_n 2, 1) := by decide +kernel
theorem dX10_planFrom_155 : decode cX10_planFrom 155 = .ok (.aload_n 0, 1) := by decide +kernel
theorem dX10_planFrom_156 : decode cX10_planFrom 156 = .ok (.getfield 99, 3) := by decide +kernel
theorem dX10_planFrom_159 : decode cX10_planFrom 159 = .ok (.iload 4, 2) := by decide +kernel
theorem dX10_planFrom_161 : decode cX10_planFrom 161 = .ok (.iaload, 1) := by decide +kernel
theorem dX10_planFrom_162 : decode cX10_planFrom 162 = .ok (.isub, 1) := by decide +kernel
theorem dX10_planFrom_163 : decode cX10_planFrom 163 = .ok (.iload 5, 2) := by decide +kernel
theorem dX10_planFrom_165 : decode cX10_planFrom 165 = .ok (.invokevirtual 363, 3) := by decide +kernel
theorem dX10_planFrom_168 : decode cX10_planFrom 168 = .ok (.aload_n 0, 1) := by decide +kernel
theorem dX10_planFrom_169 : decode cX10_planFrom 169 = .ok (.iload 6, 2) := by decide +kernel
theorem dX10_planFrom_171 : decode cX10_planFrom 171 = .ok (.invokevirtual 366, 3) := by decide +kernel
theorem dX10_planFrom_174 : decode cX10_planFrom 174 = .ok (.iinc 4 1, 3) := by decide +kernel
theorem dX10_planFrom_177 : decode cX10_planFrom 177 = .ok (.goto (-174), 3) := by decide +kernel
theorem dX10_planFrom_180 : decode cX10_planFrom 180 = .ok (.return_, 1) := by decide +kernel
theorem dX10_keepPlan_0 : decode cX10_keepPlan 0 = .ok (.iconst 0, 1) := by decide +kernel
theorem dX10_keepPlan_1 : decode cX10_keepPlan 1 = .ok (.istore_n 2, 1) := by decide +kernel
theorem dX10_keepPlan_2 : decode cX10_keepPlan 2 = .ok (.iload_n 2, 1) := by decide +kernel
theorem dX10_keepPlan_3 : decode cX10_keepPlan 3 = .ok (.bipush 105, 2) := by decide +kernel
theorem dX10_keepPlan_5 : decode cX10_keepPlan 5 = .ok (.if_icmp .ge 30, 3) := by decide +kernel
theorem dX10_keepPlan_8 : decode cX10_keepPlan 8 = .ok (.aload_n 0, 1) := by decide +kernel
theorem dX10_keepPlan_9 : decode cX10_keepPlan 9 = .ok (.getfield 108, 3) := by decide +kernel
theorem dX10_keepPlan_12 : decode cX10_keepPlan 12 = .ok (.bipush 105, 2) := by decide +kernel
theorem dX10_keepPlan_14 : decode cX10_keepPlan 14 = .ok (.iload_n 1, 1) := by decide +kernel
theorem dX10_keepPlan_15 : decode cX10_keepPlan 15 = .ok (.imul, 1) := by decide +kernel
theorem dX10_keepPlan_16 : decode cX10_keepPlan 16 = .ok (.iload_n 2, 1) := by decide +kernel
theorem dX10_keepPlan_17 : decode cX10_keepPlan 17 = .ok (.iadd, 1) := by decide +kernel
theorem dX10_keepPlan_18 : decode cX10_keepPlan 18 = .ok (.aload_n 0, 1) := by decide +kernel
theorem dX10_keepPlan_19 : decode cX10_keepPlan 19 = .ok (.getfield 90, 3) := by decide +kernel
theorem dX10_keepPlan_22 : decode cX10_keepPlan 22 = .ok (.sipush 315, 3) := by decide +kernel
theorem dX10_keepPlan_25 : decode cX10_keepPlan 25 = .ok (.iload_n 2, 1) := by decide +kernel
theorem dX10_keepPlan_26 : decode cX10_keepPlan 26 = .ok (.iadd, 1) := by decide +kernel
theorem dX10_keepPlan_27 : decode cX10_keepPlan 27 = .ok (.iaload, 1) := by decide +kernel
theorem dX10_keepPlan_28 : decode cX10_keepPlan 28 = .ok (.iastore, 1) := by decide +kernel
theorem dX10_keepPlan_29 : decode cX10_keepPlan 29 = .ok (.iinc 2 1, 3) := by decide +kernel
theorem dX10_keepPlan_32 : decode cX10_keepPlan 32 = .ok (.goto (-30), 3) := by decide +kernel
theorem dX10_keepPlan_35 : decode cX10_keepPlan 35 = .ok (.iload_n 1, 1) := by decide +kernel
theorem dX10_keepPlan_36 : decode cX10_keepPlan 36 = .ok (.ireturn, 1) := by decide +kernel
theorem dX10_fromPlan_0 : decode cX10_fromPlan 0 = .ok (.iconst 0, 1) := by decide +kernel
theorem dX10_fromPlan_1 : decode cX10_fromPlan 1 = .ok (.istore_n 2, 1) := by decide +kernel
theorem dX10_fromPlan_2 : decode cX10_fromPlan 2 = .ok (.iload_n 2, 1) := by decide +kernel
theorem dX10_fromPlan_3 : decode cX10_fromPlan 3 = .ok (.bipush 105, 2) := by decide +kernel
theorem dX10_fromPlan_5 : decode cX10_fromPlan 5 = .ok (.if_icmp .ge 30, 3) := by decide +kernel
theorem dX10_fromPlan_8 : decode cX10_fromPlan 8 = .ok (.aload_n 0, 1) := by decide +kernel
theorem dX10_fromPlan_9 : decode cX10_fromPlan 9 = .ok (.getfield 90, 3) := by decide +kernel
theorem dX10_fromPlan_12 : decode cX10_fromPlan 12 = .ok (.sipush 315, 3) := by decide +kernel
theorem dX10_fromPlan_15 : decode cX10_fromPlan 15 = .ok (.iload_n 2, 1) := by decide +kernel
theorem dX10_fromPlan_16 : decode cX10_fromPlan 16 = .ok (.iadd, 1) := by decide +kernel
theorem dX10_fromPlan_17 : decode cX10_fromPlan 17 = .ok (.aload_n 0, 1) := by decide +kernel
theorem dX10_fromPlan_18 : decode cX10_fromPlan 18 = .ok (.getfield 108, 3) := by decide +kernel
theorem dX10_fromPlan_21 : decode cX10_fromPlan 21 = .ok (.bipush 105, 2) := by decide +kernel
theorem dX10_fromPlan_23 : decode cX10_fromPlan 23 = .ok (.iload_n 1, 1) := by decide +kernel
theorem dX10_fromPlan_24 : decode cX10_fromPlan 24 = .ok (.imul, 1) := by decide +kernel
theorem dX10_fromPlan_25 : decode cX10_fromPlan 25 = .ok (.iload_n 2, 1) := by decide +kernel
theorem dX10_fromPlan_26 : decode cX10_fromPlan 26 = .ok (.iadd, 1) := by decide +kernel
theorem dX10_fromPlan_27 : decode cX10_fromPlan 27 = .ok (.iaload, 1) := by decide +kernel
theorem dX10_fromPlan_28 : decode cX10_fromPlan 28 = .ok (.iastore, 1) := by decide +kernel
theorem dX10_fromPlan_29 : decode cX10_fromPlan 29 = .ok (.iinc 2 1, 3) := by decide +kernel
theorem dX10_fromPlan_32 : decode cX10_fromPlan 32 = .ok (.goto (-30), 3) := by decide +kernel
theorem dX10_fromPlan_35 : decode cX10_fromPlan 35 = .ok (.aload_n 0, 1) := by decide +kernel
theorem dX10_fromPlan_36 : decode cX10_fromPlan 36 = .ok (.iconst 3, 1) := by decide +kernel
theorem dX10_fromPlan_37 : decode cX10_fromPlan 37 = .ok (.invokevirtual 329, 3) := by decide +kernel
theorem dX10_fromPlan_40 : decode cX10_fromPlan 40 = .ok (.return_, 1) := by decide +kernel
theorem dX10_plan_0 : decode cX10_plan 0 = .ok (.aload_n 0, 1) := by decide +kernel
theorem dX10_plan_1 : decode cX10_plan 1 = .ok (.iconst 0, 1) := by decide +kernel
theorem dX10_plan_2 : decode cX10_plan 2 = .ok (.putfield 142, 3) := by decide +kernel
theorem dX10_plan_5 : decode cX10_plan 5 = .ok (.iload_n 1, 1) := by decide +kernel
theorem dX10_plan_6 : decode cX10_plan 6 = .ok (.iconst 1, 1) := by decide +kernel
theorem dX10_plan_7 : decode cX10_plan 7 = .ok (.sipush 400, 3) := by decide +kernel
theorem dX10_plan_10 : decode cX10_plan 10 = .ok (.invokestatic 151, 3) := by decide +kernel
theorem dX10_plan_13 : decode cX10_plan 13 = .ok (.ifCond .ne 5, 3) := by decide +kernel
theorem dX10_plan_16 : decode cX10_plan 16 = .ok (.iconst (-1), 1) := by decide +kernel
theorem dX10_plan_17 : decode cX10_plan 17 = .ok (.ireturn, 1) := by decide +kernel
theorem dX10_plan_18 : decode cX10_plan 18 = .ok (.aload_n 0, 1) := by decide +kernel
theorem dX10_plan_19 : decode cX10_plan 19 = .ok (.iconst 3, 1) := by decide +kernel
theorem dX10_plan_20 : decode cX10_plan 20 = .ok (.invokevirtual 326, 3) := by decide +kernel
theorem dX10_plan_23 : decode cX10_plan 23 = .ok (.iconst 0, 1) := by decide +kernel
theorem dX10_plan_24 : decode cX10_plan 24 = .ok (.istore_n 2, 1) := by decide +kernel
theorem dX10_plan_25 : decode cX10_plan 25 = .ok (.iload_n 2, 1) := by decide +kernel
theorem dX10_plan_26 : decode cX10_plan 26 = .ok (.bipush 105, 2) := by decide +kernel
theorem dX10_plan_28 : decode cX10_plan 28 = .ok (.if_icmp .ge 25, 3) := by decide +kernel
theorem dX10_plan_31 : decode cX10_plan 31 = .ok (.aload_n 0, 1) := by decide +kernel
theorem dX10_plan_32 : decode cX10_plan 32 = .ok (.getfield 111, 3) := by decide +kernel
theorem dX10_plan_35 : decode cX10_plan 35 = .ok (.iload_n 2, 1) := by decide +kernel
theorem dX10_plan_36 : decode cX10_plan 36 = .ok (.aload_n 0, 1) := by decide +kernel
theorem dX10_plan_37 : decode cX10_plan 37 = .ok (.getfield 90, 3) := by decide +kernel
theorem dX10_plan_40 : decode cX10_plan 40 = .ok (.sipush 315, 3) := by decide +kernel
theorem dX10_plan_43 : decode cX10_plan 43 = .ok (.iload_n 2, 1) := by decide +kernel
theorem dX10_plan_44 : decode cX10_plan 44 = .ok (.iadd, 1) := by decide +kernel
theorem dX10_plan_45 : decode cX10_plan 45 = .ok (.iaload, 1) := by decide +kernel
theorem dX10_plan_46 : decode cX10_plan 46 = .ok (.iastore, 1) := by decide +kernel
theorem dX10_plan_47 : decode cX10_plan 47 = .ok (.iinc 2 1, 3) := by decide +kernel
theorem dX10_plan_50 : decode cX10_plan 50 = .ok (.goto (-25), 3) := by decide +kernel
theorem dX10_plan_53 : decode cX10_plan 53 = .ok (.aload_n 0, 1) := by decide +kernel
theorem dX10_plan_54 : decode cX10_plan 54 = .ok (.invokevirtual 139, 3) := by decide +kernel
theorem dX10_plan_57 : decode cX10_plan 57 = .ok (.aload_n 0, 1) := by decide +kernel
theorem dX10_plan_58 : decode cX10_plan 58 = .ok (.iconst 1, 1) := by decide +kernel
theorem dX10_plan_59 : decode cX10_plan 59 = .ok (.putfield 38, 3) := by decide +kernel
theorem dX10_plan_62 : decode cX10_plan 62 = .ok (.aload_n 0, 1) := by decide +kernel
theorem dX10_plan_63 : decode cX10_plan 63 = .ok (.invokevirtual 310, 3) := by decide +kernel
theorem dX10_plan_66 : decode cX10_plan 66 = .ok (.aload_n 0, 1) := by decide +kernel
theorem dX10_plan_67 : decode cX10_plan 67 = .ok (.iconst (-1), 1) := by decide +kernel
theorem dX10_plan_68 : decode cX10_plan 68 = .ok (.putfield 354, 3) := by decide +kernel
theorem dX10_plan_71 : decode cX10_plan 71 = .ok (.aload_n 0, 1) := by decide +kernel
theorem dX10_plan_72 : decode cX10_plan 72 = .ok (.iconst 0, 1) := by decide +kernel
theorem dX10_plan_73 : decode cX10_plan 73 = .ok (.iload_n 1, 1) := by decide +kernel
theorem dX10_plan_74 : decode cX10_plan 74 = .ok (.iconst 0, 1) := by decide +kernel
theorem dX10_plan_75 : decode cX10_plan 75 = .ok (.invokevirtual 363, 3) := by decide +kernel
theorem dX10_plan_78 : decode cX10_plan 78 = .ok (.iconst 0, 1) := by decide +kernel
theorem dX10_plan_79 : decode cX10_plan 79 = .ok (.istore_n 2, 1) := by decide +kernel
theorem dX10_plan_80 : decode cX10_plan 80 = .ok (.iload_n 2, 1) := by decide +kernel
theorem dX10_plan_81 : decode cX10_plan 81 = .ok (.bipush 105, 2) := by decide +kernel
theorem dX10_plan_83 : decode cX10_plan 83 = .ok (.if_icmp .ge 25, 3) := by decide +kernel
theorem dX10_plan_86 : decode cX10_plan 86 = .ok (.aload_n 0, 1) := by decide +kernel
theorem dX10_plan_87 : decode cX10_plan 87 = .ok (.getfield 90, 3) := by decide +kernel
theorem dX10_plan_90 : decode cX10_plan 90 = .ok (.sipush 315, 3) := by decide +kernel
theorem dX10_plan_93 : decode cX10_plan 93 = .ok (.iload_n 2, 1) := by decide +kernel
theorem dX10_plan_94 : decode cX10_plan 94 = .ok (.iadd, 1) := by decide +kernel
theorem dX10_plan_95 : decode cX10_plan 95 = .ok (.aload_n 0, 1) := by decide +kernel
theorem dX10_plan_96 : decode cX10_plan 96 = .ok (.getfield 111, 3) := by decide +kernel
theorem dX10_plan_99 : decode cX10_plan 99 = .ok (.iload_n 2, 1) := by decide +kernel
theorem dX10_plan_100 : decode cX10_plan 100 = .ok (.iaload, 1) := by decide +kernel
theorem dX10_plan_101 : decode cX10_plan 101 = .ok (.iastore, 1) := by decide +kernel
theorem dX10_plan_102 : decode cX10_plan 102 = .ok (.iinc 2 1, 3) := by decide +kernel
theorem dX10_plan_105 : decode cX10_plan 105 = .ok (.goto (-25), 3) := by decide +kernel
theorem dX10_plan_108 : decode cX10_plan 108 = .ok (.aload_n 0, 1) := by decide +kernel
theorem dX10_plan_109 : decode cX10_plan 109 = .ok (.iconst 3, 1) := by decide +kernel
theorem dX10_plan_110 : decode cX10_plan 110 = .ok (.invokevirtual 329, 3) := by decide +kernel
theorem dX10_plan_113 : decode cX10_plan 113 = .ok (.aload_n 0, 1) := by decide +kernel
theorem dX10_plan_114 : decode cX10_plan 114 = .ok (.getfield 354, 3) := by decide +kernel
theorem dX10_plan_117 : decode cX10_plan 117 = .ok (.iconst (-1), 1) := by decide +kernel
theorem dX10_plan_118 : decode cX10_plan 118 = .ok (.if_icmp .ne 6, 3) := by decide +kernel
theorem dX10_plan_121 : decode cX10_plan 121 = .ok (.bipush (-2), 2) := by decide +kernel
theorem dX10_plan_123 : decode cX10_plan 123 = .ok (.ireturn, 1) := by decide +kernel
theorem dX10_plan_124 : decode cX10_plan 124 = .ok (.aload_n 0, 1) := by decide +kernel
theorem dX10_plan_125 : decode cX10_plan 125 = .ok (.iconst 0, 1) := by decide +kernel
theorem dX10_plan_126 : decode cX10_plan 126 = .ok (.putfield 145, 3) := by decide +kernel
theorem dX10_plan_129 : decode cX10_plan 129 = .ok (.iconst 0, 1) := by decide +kernel
theorem dX10_plan_130 : decode cX10_plan 130 = .ok (.istore_n 2, 1) := by decide +kernel
theorem dX10_plan_131 : decode cX10_plan 131 = .ok (.iload_n 2, 1) := by decide +kernel
theorem dX10_plan_132 : decode cX10_plan 132 = .ok (.aload_n 0, 1) := by decide +kernel
theorem dX10_plan_133 : decode cX10_plan 133 = .ok (.getfield 354, 3) := by decide +kernel
theorem dX10_plan_136 : decode cX10_plan 136 = .ok (.if_icmp .ge 20, 3) := by decide +kernel
theorem dX10_plan_139 : decode cX10_plan 139 = .ok (.aload_n 0, 1) := by decide +kernel
theorem dX10_plan_140 : decode cX10_plan 140 = .ok (.aload_n 0, 1) := by decide +kernel
theorem dX10_plan_141 : decode cX10_plan 141 = .ok (.getfield 105, 3) := by decide +kernel
theorem dX10_plan_144 : decode cX10_plan 144 = .ok (.iload_n 2, 1) := by decide +kernel
theorem dX10_plan_145 : decode cX10_plan 145 = .ok (.iaload, 1) := by decide +kernel
theorem dX10_plan_146 : decode cX10_plan 146 = .ok (.i2l, 1) := by decide +kernel
theorem dX10_plan_147 : decode cX10_plan 147 = .ok (.invokevirtual 252, 3) := by decide +kernel
theorem dX10_plan_150 : decode cX10_plan 150 = .ok (.iinc 2 1, 3) := by decide +kernel
theorem dX10_plan_153 : decode cX10_plan 153 = .ok (.goto (-22), 3) := by decide +kernel
theorem dX10_plan_156 : decode cX10_plan 156 = .ok (.aload_n 0, 1) := by decide +kernel
theorem dX10_plan_157 : decode cX10_plan 157 = .ok (.getfield 357, 3) := by decide +kernel
theorem dX10_plan_160 : decode cX10_plan 160 = .ok (.ireturn, 1) := by decide +kernel
theorem dX10_helps_0 : decode cX10_helps 0 = .ok (.aload_n 0, 1) := by decide +kernel
theorem dX10_helps_1 : decode cX10_helps 1 = .ok (.iconst 0, 1) := by decide +kernel
theorem dX10_helps_2 : decode cX10_helps 2 = .ok (.putfield 142, 3) := by decide +kernel
theorem dX10_helps_5 : decode cX10_helps 5 = .ok (.iload_n 1, 1) := by decide +kernel
theorem dX10_helps_6 : decode cX10_helps 6 = .ok (.invokestatic 245, 3) := by decide +kernel
theorem dX10_helps_9 : decode cX10_helps 9 = .ok (.ifCond .eq 11, 3) := by decide +kernel
theorem dX10_helps_12 : decode cX10_helps 12 = .ok (.aload_n 0, 1) := by decide +kernel
theorem dX10_helps_13 : decode cX10_helps 13 = .ok (.iload_n 2, 1) := by decide +kernel
theorem dX10_helps_14 : decode cX10_helps 14 = .ok (.invokevirtual 280, 3) := by decide +kernel
theorem dX10_helps_17 : decode cX10_helps 17 = .ok (.ifCond .ne 5, 3) := by decide +kernel
theorem dX10_helps_20 : decode cX10_helps 20 = .ok (.iconst (-1), 1) := by decide +kernel
theorem dX10_helps_21 : decode cX10_helps 21 = .ok (.ireturn, 1) := by decide +kernel
theorem dX10_helps_22 : decode cX10_helps 22 = .ok (.aload_n 0, 1) := by decide +kernel
theorem dX10_helps_23 : decode cX10_helps 23 = .ok (.getfield 19, 3) := by decide +kernel
theorem dX10_helps_26 : decode cX10_helps 26 = .ok (.bipush 6, 2) := by decide +kernel
theorem dX10_helps_28 : decode cX10_helps 28 = .ok (.iaload, 1) := by decide +kernel
theorem dX10_helps_29 : decode cX10_helps 29 = .ok (.istore_n 3, 1) := by decide +kernel
theorem dX10_helps_30 : decode cX10_helps 30 = .ok (.aload_n 0, 1) := by decide +kernel
theorem dX10_helps_31 : decode cX10_helps 31 = .ok (.getfield 19, 3) := by decide +kernel
theorem dX10_helps_34 : decode cX10_helps 34 = .ok (.iconst 5, 1) := by decide +kernel
theorem dX10_helps_35 : decode cX10_helps 35 = .ok (.iaload, 1) := by decide +kernel
theorem dX10_helps_36 : decode cX10_helps 36 = .ok (.istore 4, 2) := by decide +kernel
theorem dX10_helps_38 : decode cX10_helps 38 = .ok (.aload_n 0, 1) := by decide +kernel
theorem dX10_helps_39 : decode cX10_helps 39 = .ok (.getfield 19, 3) := by decide +kernel
theorem dX10_helps_42 : decode cX10_helps 42 = .ok (.bipush 6, 2) := by decide +kernel
theorem dX10_helps_44 : decode cX10_helps 44 = .ok (.iconst 3, 1) := by decide +kernel
theorem dX10_helps_45 : decode cX10_helps 45 = .ok (.iastore, 1) := by decide +kernel
theorem dX10_helps_46 : decode cX10_helps 46 = .ok (.aload_n 0, 1) := by decide +kernel
theorem dX10_helps_47 : decode cX10_helps 47 = .ok (.iload_n 1, 1) := by decide +kernel
theorem dX10_helps_48 : decode cX10_helps 48 = .ok (.iconst 1, 1) := by decide +kernel
theorem dX10_helps_49 : decode cX10_helps 49 = .ok (.invokevirtual 338, 3) := by decide +kernel
theorem dX10_helps_52 : decode cX10_helps 52 = .ok (.istore 5, 2) := by decide +kernel
theorem dX10_helps_54 : decode cX10_helps 54 = .ok (.aload_n 0, 1) := by decide +kernel
theorem dX10_helps_55 : decode cX10_helps 55 = .ok (.getfield 19, 3) := by decide +kernel
theorem dX10_helps_58 : decode cX10_helps 58 = .ok (.bipush 6, 2) := by decide +kernel
theorem dX10_helps_60 : decode cX10_helps 60 = .ok (.iload_n 2, 1) := by decide +kernel
theorem dX10_helps_61 : decode cX10_helps 61 = .ok (.iastore, 1) := by decide +kernel
theorem dX10_helps_62 : decode cX10_helps 62 = .ok (.iconst 0, 1) := by decide +kernel
theorem dX10_helps_63 : decode cX10_helps 63 = .ok (.istore 6, 2) := by decide +kernel
theorem dX10_helps_65 : decode cX10_helps 65 = .ok (.iconst (-1), 1) := by decide +kernel
theorem dX10_helps_66 : decode cX10_helps 66 = .ok (.istore 7, 2) := by decide +kernel
theorem dX10_helps_68 : decode cX10_helps 68 = .ok (.iconst 0, 1) := by decide +kernel
theorem dX10_helps_69 : decode cX10_helps 69 = .ok (.istore 8, 2) := by decide +kernel
theorem dX10_helps_71 : decode cX10_helps 71 = .ok (.iconst 0, 1) := by decide +kernel
theorem dX10_helps_72 : decode cX10_helps 72 = .ok (.istore 9, 2) := by decide +kernel
theorem dX10_helps_74 : decode cX10_helps 74 = .ok (.iload 9, 2) := by decide +kernel
theorem dX10_helps_76 : decode cX10_helps 76 = .ok (.bipush 20, 2) := by decide +kernel
theorem dX10_helps_78 : decode cX10_helps 78 = .ok (.if_icmp .gt 69, 3) := by decide +kernel
theorem dX10_helps_81 : decode cX10_helps 81 = .ok (.aload_n 0, 1) := by decide +kernel
theorem dX10_helps_82 : decode cX10_helps 82 = .ok (.getfield 19, 3) := by decide +kernel
theorem dX10_helps_85 : decode cX10_helps 85 = .ok (.iconst 5, 1) := by decide +kernel
theorem dX10_helps_86 : decode cX10_helps 86 = .ok (.iload 9, 2) := by decide +kernel
theorem dX10_helps_88 : decode cX10_helps 88 = .ok (.iastore, 1) := by decide +kernel
theorem dX10_helps_89 : decode cX10_helps 89 = .ok (.aload_n 0, 1) := by decide +kernel
theorem dX10_helps_90 : decode cX10_helps 90 = .ok (.iload_n 1, 1) := by decide +kernel
theorem dX10_helps_91 : decode cX10_helps 91 = .ok (.iconst 1, 1) := by decide +kernel
theorem dX10_helps_92 : decode cX10_helps 92 = .ok (.invokevirtual 338, 3) := by decide +kernel
theorem dX10_helps_95 : decode cX10_helps 95 = .ok (.istore 10, 2) := by decide +kernel
theorem dX10_helps_97 : decode cX10_helps 97 = .ok (.iload 6, 2) := by decide +kernel
theorem dX10_helps_99 : decode cX10_helps 99 = .ok (.iload 10, 2) := by decide +kernel
theorem dX10_helps_101 : decode cX10_helps 101 = .ok (.iload 5, 2) := by decide +kernel
theorem dX10_helps_103 : decode cX10_helps 103 = .ok (.if_icmp .ge 10, 3) := by decide +kernel
theorem dX10_helps_106 : decode cX10_helps 106 = .ok (.iconst 1, 1) := by decide +kernel
theorem dX10_helps_107 : decode cX10_helps 107 = .ok (.iload 9, 2) := by decide +kernel
theorem dX10_helps_109 : decode cX10_helps 109 = .ok (.ishl, 1) := by decide +kernel
theorem dX10_helps_110 : decode cX10_helps 110 = .ok (.goto 4, 3) := by decide +kernel
theorem dX10_helps_113 : decode cX10_helps 113 = .ok (.iconst 0, 1) := by decide +kernel
theorem dX10_helps_114 : decode cX10_helps 114 = .ok (.ior, 1) := by decide +kernel
theorem dX10_helps_115 : decode cX10_helps 115 = .ok (.istore 6, 2) := by decide +kernel
theorem dX10_helps_117 : decode cX10_helps 117 = .ok (.iload 7, 2) := by decide +kernel
theorem dX10_helps_119 : decode cX10_helps 119 = .ok (.iconst (-1), 1) := by decide +kernel
theorem dX10_helps_120 : decode cX10_helps 120 = .ok (.if_icmp .eq 13, 3) := by decide +kernel
theorem dX10_helps_123 : decode cX10_helps 123 = .ok (.iload 10, 2) := by decide +kernel
theorem dX10_helps_125 : decode cX10_helps 125 = .ok (.iload 7, 2) := by decide +kernel
theorem dX10_helps_127 : decode cX10_helps 127 = .ok (.if_icmp .lt 6, 3) := by decide +kernel
theorem dX10_helps_130 : decode cX10_helps 130 = .ok (.goto 11, 3) := by decide +kernel
theorem dX10_helps_133 : decode cX10_helps 133 = .ok (.iload 10, 2) := by decide +kernel
theorem dX10_helps_135 : decode cX10_helps 135 = .ok (.istore 7, 2) := by decide +kernel
theorem dX10_helps_137 : decode cX10_helps 137 = .ok (.iload 9, 2) := by decide +kernel
theorem dX10_helps_139 : decode cX10_helps 139 = .ok (.istore 8, 2) := by decide +kernel
theorem dX10_helps_141 : decode cX10_helps 141 = .ok (.iinc 9 1, 3) := by decide +kernel
theorem dX10_helps_144 : decode cX10_helps 144 = .ok (.goto (-70), 3) := by decide +kernel
theorem dX10_helps_147 : decode cX10_helps 147 = .ok (.aload_n 0, 1) := by decide +kernel
theorem dX10_helps_148 : decode cX10_helps 148 = .ok (.getfield 19, 3) := by decide +kernel
theorem dX10_helps_151 : decode cX10_helps 151 = .ok (.bipush 6, 2) := by decide +kernel
theorem dX10_helps_153 : decode cX10_helps 153 = .ok (.iload_n 3, 1) := by decide +kernel
theorem dX10_helps_154 : decode cX10_helps 154 = .ok (.iastore, 1) := by decide +kernel
theorem dX10_helps_155 : decode cX10_helps 155 = .ok (.aload_n 0, 1) := by decide +kernel
theorem dX10_helps_156 : decode cX10_helps 156 = .ok (.getfield 19, 3) := by decide +kernel
theorem dX10_helps_159 : decode cX10_helps 159 = .ok (.iconst 5, 1) := by decide +kernel
theorem dX10_helps_160 : decode cX10_helps 160 = .ok (.iload 4, 2) := by decide +kernel
theorem dX10_helps_162 : decode cX10_helps 162 = .ok (.iastore, 1) := by decide +kernel
theorem dX10_helps_163 : decode cX10_helps 163 = .ok (.aload_n 0, 1) := by decide +kernel
theorem dX10_helps_164 : decode cX10_helps 164 = .ok (.iconst 0, 1) := by decide +kernel
theorem dX10_helps_165 : decode cX10_helps 165 = .ok (.putfield 145, 3) := by decide +kernel
theorem dX10_helps_168 : decode cX10_helps 168 = .ok (.aload_n 0, 1) := by decide +kernel
theorem dX10_helps_169 : decode cX10_helps 169 = .ok (.iload 5, 2) := by decide +kernel
theorem dX10_helps_171 : decode cX10_helps 171 = .ok (.i2l, 1) := by decide +kernel
theorem dX10_helps_172 : decode cX10_helps 172 = .ok (.invokevirtual 252, 3) := by decide +kernel
theorem dX10_helps_175 : decode cX10_helps 175 = .ok (.aload_n 0, 1) := by decide +kernel
theorem dX10_helps_176 : decode cX10_helps 176 = .ok (.iload 7, 2) := by decide +kernel
theorem dX10_helps_178 : decode cX10_helps 178 = .ok (.i2l, 1) := by decide +kernel
theorem dX10_helps_179 : decode cX10_helps 179 = .ok (.invokevirtual 252, 3) := by decide +kernel
theorem dX10_helps_182 : decode cX10_helps 182 = .ok (.aload_n 0, 1) := by decide +kernel
theorem dX10_helps_183 : decode cX10_helps 183 = .ok (.iload 8, 2) := by decide +kernel
theorem dX10_helps_185 : decode cX10_helps 185 = .ok (.i2l, 1) := by decide +kernel
theorem dX10_helps_186 : decode cX10_helps 186 = .ok (.invokevirtual 252, 3) := by decide +kernel
theorem dX10_helps_189 : decode cX10_helps 189 = .ok (.iload 6, 2) := by decide +kernel
theorem dX10_helps_191 : decode cX10_helps 191 = .ok (.ireturn, 1) := by decide +kernel
theorem dX10_leastOf_0 : decode cX10_leastOf 0 = .ok (.aload_n 0, 1) := by decide +kernel
theorem dX10_leastOf_1 : decode cX10_leastOf 1 = .ok (.getfield 19, 3) := by decide +kernel
theorem dX10_leastOf_4 : decode cX10_leastOf 4 = .ok (.iload_n 1, 1) := by decide +kernel
theorem dX10_leastOf_5 : decode cX10_leastOf 5 = .ok (.iaload, 1) := by decide +kernel
theorem dX10_leastOf_6 : decode cX10_leastOf 6 = .ok (.istore 5, 2) := by decide +kernel
theorem dX10_leastOf_8 : decode cX10_leastOf 8 = .ok (.bipush (-2), 2) := by decide +kernel
theorem dX10_leastOf_10 : decode cX10_leastOf 10 = .ok (.istore 6, 2) := by decide +kernel
theorem dX10_leastOf_12 : decode cX10_leastOf 12 = .ok (.iconst 0, 1) := by decide +kernel
theorem dX10_leastOf_13 : decode cX10_leastOf 13 = .ok (.istore 7, 2) := by decide +kernel
theorem dX10_leastOf_15 : decode cX10_leastOf 15 = .ok (.iload 7, 2) := by decide +kernel
theorem dX10_leastOf_17 : decode cX10_leastOf 17 = .ok (.iload_n 2, 1) := by decide +kernel
theorem dX10_leastOf_18 : decode cX10_leastOf 18 = .ok (.if_icmp .gt 37, 3) := by decide +kernel
theorem dX10_leastOf_21 : decode cX10_leastOf 21 = .ok (.iload 6, 2) := by decide +kernel
theorem dX10_leastOf_23 : decode cX10_leastOf 23 = .ok (.ifCond .ge 32, 3) := by decide +kernel
theorem dX10_leastOf_26 : decode cX10_leastOf 26 = .ok (.aload_n 0, 1) := by decide +kernel
theorem dX10_leastOf_27 : decode cX10_leastOf 27 = .ok (.getfield 19, 3) := by decide +kernel
theorem dX10_leastOf_30 : decode cX10_leastOf 30 = .ok (.iload_n 1, 1) := by decide +kernel
theorem dX10_leastOf_31 : decode cX10_leastOf 31 = .ok (.iload 7, 2) := by decide +kernel
theorem dX10_leastOf_33 : decode cX10_leastOf 33 = .ok (.iastore, 1) := by decide +kernel
theorem dX10_leastOf_34 : decode cX10_leastOf 34 = .ok (.aload_n 0, 1) := by decide +kernel
theorem dX10_leastOf_35 : decode cX10_leastOf 35 = .ok (.iload_n 3, 1) := by decide +kernel
theorem dX10_leastOf_36 : decode cX10_leastOf 36 = .ok (.iconst 1, 1) := by decide +kernel
theorem dX10_leastOf_37 : decode cX10_leastOf 37 = .ok (.invokevirtual 338, 3) := by decide +kernel
theorem dX10_leastOf_40 : decode cX10_leastOf 40 = .ok (.iload 4, 2) := by decide +kernel
theorem dX10_leastOf_42 : decode cX10_leastOf 42 = .ok (.if_icmp .gt 7, 3) := by decide +kernel
theorem dX10_leastOf_45 : decode cX10_leastOf 45 = .ok (.iload 7, 2) := by decide +kernel
theorem dX10_leastOf_47 : decode cX10_leastOf 47 = .ok (.istore 6, 2) := by decide +kernel
theorem dX10_leastOf_49 : decode cX10_leastOf 49 = .ok (.iinc 7 1, 3) := by decide +kernel
theorem dX10_leastOf_52 : decode cX10_leastOf 52 = .ok (.goto (-37), 3) := by decide +kernel
theorem dX10_leastOf_55 : decode cX10_leastOf 55 = .ok (.aload_n 0, 1) := by decide +kernel
theorem dX10_leastOf_56 : decode cX10_leastOf 56 = .ok (.getfield 19, 3) := by decide +kernel
theorem dX10_leastOf_59 : decode cX10_leastOf 59 = .ok (.iload_n 1, 1) := by decide +kernel
theorem dX10_leastOf_60 : decode cX10_leastOf 60 = .ok (.iload 5, 2) := by decide +kernel
theorem dX10_leastOf_62 : decode cX10_leastOf 62 = .ok (.iastore, 1) := by decide +kernel
theorem dX10_leastOf_63 : decode cX10_leastOf 63 = .ok (.iload 6, 2) := by decide +kernel
theorem dX10_leastOf_65 : decode cX10_leastOf 65 = .ok (.ireturn, 1) := by decide +kernel
theorem dX10_layers_0 : decode cX10_layers 0 = .ok (.aload_n 0, 1) := by decide +kernel
theorem dX10_layers_1 : decode cX10_layers 1 = .ok (.iconst 0, 1) := by decide +kernel
theorem dX10_layers_2 : decode cX10_layers 2 = .ok (.putfield 142, 3) := by decide +kernel
theorem dX10_layers_5 : decode cX10_layers 5 = .ok (.iload_n 1, 1) := by decide +kernel
theorem dX10_layers_6 : decode cX10_layers 6 = .ok (.invokestatic 245, 3) := by decide +kernel
theorem dX10_layers_9 : decode cX10_layers 9 = .ok (.ifCond .eq 15, 3) := by decide +kernel
theorem dX10_layers_12 : decode cX10_layers 12 = .ok (.aload_n 0, 1) := by decide +kernel
theorem dX10_layers_13 : decode cX10_layers 13 = .ok (.iconst 2, 1) := by decide +kernel
theorem dX10_layers_14 : decode cX10_layers 14 = .ok (.bipush 9, 2) := by decide +kernel
theorem dX10_layers_16 : decode cX10_layers 16 = .ok (.iload_n 1, 1) := by decide +kernel
theorem dX10_layers_17 : decode cX10_layers 17 = .ok (.iconst 0, 1) := by decide +kernel
theorem dX10_layers_18 : decode cX10_layers 18 = .ok (.invokevirtual 369, 3) := by decide +kernel
theorem dX10_layers_21 : decode cX10_layers 21 = .ok (.goto 4, 3) := by decide +kernel
theorem dX10_layers_24 : decode cX10_layers 24 = .ok (.iconst (-1), 1) := by decide +kernel
theorem dX10_layers_25 : decode cX10_layers 25 = .ok (.ireturn, 1) := by decide +kernel
theorem dX10_greatestSlope_0 : decode cX10_greatestSlope 0 = .ok (.aload_n 0, 1) := by decide +kernel
theorem dX10_greatestSlope_1 : decode cX10_greatestSlope 1 = .ok (.getfield 19, 3) := by decide +kernel
theorem dX10_greatestSlope_4 : decode cX10_greatestSlope 4 = .ok (.iconst 2, 1) := by decide +kernel
theorem dX10_greatestSlope_5 : decode cX10_greatestSlope 5 = .ok (.iaload, 1) := by decide +kernel
theorem dX10_greatestSlope_6 : decode cX10_greatestSlope 6 = .ok (.istore 4, 2) := by decide +kernel
theorem dX10_greatestSlope_8 : decode cX10_greatestSlope 8 = .ok (.aload_n 0, 1) := by decide +kernel
theorem dX10_greatestSlope_9 : decode cX10_greatestSlope 9 = .ok (.getfield 19, 3) := by decide +kernel
theorem dX10_greatestSlope_12 : decode cX10_greatestSlope 12 = .ok (.iconst 2, 1) := by decide +kernel
theorem dX10_greatestSlope_13 : decode cX10_greatestSlope 13 = .ok (.iload_n 3, 1) := by decide +kernel
theorem dX10_greatestSlope_14 : decode cX10_greatestSlope 14 = .ok (.iastore, 1) := by decide +kernel
theorem dX10_greatestSlope_15 : decode cX10_greatestSlope 15 = .ok (.aload_n 0, 1) := by decide +kernel
theorem dX10_greatestSlope_16 : decode cX10_greatestSlope 16 = .ok (.iload_n 1, 1) := by decide +kernel
theorem dX10_greatestSlope_17 : decode cX10_greatestSlope 17 = .ok (.iload_n 2, 1) := by decide +kernel
theorem dX10_greatestSlope_18 : decode cX10_greatestSlope 18 = .ok (.invokevirtual 335, 3) := by decide +kernel
theorem dX10_greatestSlope_21 : decode cX10_greatestSlope 21 = .ok (.aload_n 0, 1) := by decide +kernel
theorem dX10_greatestSlope_22 : decode cX10_greatestSlope 22 = .ok (.getfield 19, 3) := by decide +kernel
theorem dX10_greatestSlope_25 : decode cX10_greatestSlope 25 = .ok (.iconst 2, 1) := by decide +kernel
theorem dX10_greatestSlope_26 : decode cX10_greatestSlope 26 = .ok (.iload 4, 2) := by decide +kernel
theorem dX10_greatestSlope_28 : decode cX10_greatestSlope 28 = .ok (.iastore, 1) := by decide +kernel
theorem dX10_greatestSlope_29 : decode cX10_greatestSlope 29 = .ok (.iconst 0, 1) := by decide +kernel
theorem dX10_greatestSlope_30 : decode cX10_greatestSlope 30 = .ok (.istore 5, 2) := by decide +kernel
theorem dX10_greatestSlope_32 : decode cX10_greatestSlope 32 = .ok (.iconst 1, 1) := by decide +kernel
theorem dX10_greatestSlope_33 : decode cX10_greatestSlope 33 = .ok (.iload_n 2, 1) := by decide +kernel
theorem dX10_greatestSlope_34 : decode cX10_greatestSlope 34 = .ok (.iconst 2, 1) := by decide +kernel
theorem dX10_greatestSlope_35 : decode cX10_greatestSlope 35 = .ok (.idiv, 1) := by decide +kernel
theorem dX10_greatestSlope_36 : decode cX10_greatestSlope 36 = .ok (.invokestatic 168, 3) := by decide +kernel
theorem dX10_greatestSlope_39 : decode cX10_greatestSlope 39 = .ok (.istore 6, 2) := by decide +kernel
theorem dX10_greatestSlope_41 : decode cX10_greatestSlope 41 = .ok (.iload 6, 2) := by decide +kernel
theorem dX10_greatestSlope_43 : decode cX10_greatestSlope 43 = .ok (.iload_n 2, 1) := by decide +kernel
theorem dX10_greatestSlope_44 : decode cX10_greatestSlope 44 = .ok (.if_icmp .gt 26, 3) := by decide +kernel
theorem dX10_greatestSlope_47 : decode cX10_greatestSlope 47 = .ok (.iload 5, 2) := by decide +kernel
theorem dX10_greatestSlope_49 : decode cX10_greatestSlope 49 = .ok (.aload_n 0, 1) := by decide +kernel
theorem dX10_greatestSlope_50 : decode cX10_greatestSlope 50 = .ok (.getfield 93, 3) := by decide +kernel
theorem dX10_greatestSlope_53 : decode cX10_greatestSlope 53 = .ok (.iload 6, 2) := by decide +kernel
theorem dX10_greatestSlope_55 : decode cX10_greatestSlope 55 = .ok (.iaload, 1) := by decide +kernel
theorem dX10_greatestSlope_56 : decode cX10_greatestSlope 56 = .ok (.invokestatic 248, 3) := by decide +kernel
theorem dX10_greatestSlope_59 : decode cX10_greatestSlope 59 = .ok (.invokestatic 168, 3) := by decide +kernel
theorem dX10_greatestSlope_62 : decode cX10_greatestSlope 62 = .ok (.istore 5, 2) := by decide +kernel
theorem dX10_greatestSlope_64 : decode cX10_greatestSlope 64 = .ok (.iinc 6 1, 3) := by decide +kernel
theorem dX10_greatestSlope_67 : decode cX10_greatestSlope 67 = .ok (.goto (-26), 3) := by decide +kernel
theorem dX10_greatestSlope_70 : decode cX10_greatestSlope 70 = .ok (.iload 5, 2) := by decide +kernel
theorem dX10_greatestSlope_72 : decode cX10_greatestSlope 72 = .ok (.ireturn, 1) := by decide +kernel
theorem dX10_off_0 : decode cX10_off 0 = .ok (.aload_n 0, 1) := by decide +kernel
theorem dX10_off_1 : decode cX10_off 1 = .ok (.iconst 0, 1) := by decide +kernel
theorem dX10_off_2 : decode cX10_off 2 = .ok (.putfield 142, 3) := by decide +kernel
theorem dX10_off_5 : decode cX10_off 5 = .ok (.iload_n 1, 1) := by decide +kernel
theorem dX10_off_6 : decode cX10_off 6 = .ok (.invokestatic 332, 3) := by decide +kernel
theorem dX10_off_9 : decode cX10_off 9 = .ok (.ifCond .eq 24, 3) := by decide +kernel
theorem dX10_off_12 : decode cX10_off 12 = .ok (.iload_n 2, 1) := by decide +kernel
theorem dX10_off_13 : decode cX10_off 13 = .ok (.iconst 1, 1) := by decide +kernel
theorem dX10_off_14 : decode cX10_off 14 = .ok (.sipush 400, 3) := by decide +kernel
theorem dX10_off_17 : decode cX10_off 17 = .ok (.invokestatic 151, 3) := by decide +kernel
theorem dX10_off_20 : decode cX10_off 20 = .ok (.ifCond .eq 13, 3) := by decide +kernel
theorem dX10_off_23 : decode cX10_off 23 = .ok (.iload_n 3, 1) := by decide +kernel
theorem dX10_off_24 : decode cX10_off 24 = .ok (.iconst 0, 1) := by decide +kernel
theorem dX10_off_25 : decode cX10_off 25 = .ok (.bipush 9, 2) := by decide +kernel
theorem dX10_off_27 : decode cX10_off 27 = .ok (.invokestatic 151, 3) := by decide +kernel
theorem dX10_off_30 : decode cX10_off 30 = .ok (.ifCond .ne 5, 3) := by decide +kernel
theorem dX10_off_33 : decode cX10_off 33 = .ok (.iconst (-1), 1) := by decide +kernel
theorem dX10_off_34 : decode cX10_off 34 = .ok (.ireturn, 1) := by decide +kernel
theorem dX10_off_35 : decode cX10_off 35 = .ok (.aload_n 0, 1) := by decide +kernel
theorem dX10_off_36 : decode cX10_off 36 = .ok (.iload_n 1, 1) := by decide +kernel
theorem dX10_off_37 : decode cX10_off 37 = .ok (.iload_n 2, 1) := by decide +kernel
theorem dX10_off_38 : decode cX10_off 38 = .ok (.iload_n 3, 1) := by decide +kernel
theorem dX10_off_39 : decode cX10_off 39 = .ok (.invokevirtual 372, 3) := by decide +kernel
theorem dX10_off_42 : decode cX10_off 42 = .ok (.istore 4, 2) := by decide +kernel
theorem dX10_off_44 : decode cX10_off 44 = .ok (.aload_n 0, 1) := by decide +kernel
theorem dX10_off_45 : decode cX10_off 45 = .ok (.iload_n 1, 1) := by decide +kernel
theorem dX10_off_46 : decode cX10_off 46 = .ok (.iload_n 2, 1) := by decide +kernel
theorem dX10_off_47 : decode cX10_off 47 = .ok (.iconst 0, 1) := by decide +kernel
theorem dX10_off_48 : decode cX10_off 48 = .ok (.invokevirtual 372, 3) := by decide +kernel
theorem dX10_off_51 : decode cX10_off 51 = .ok (.istore 5, 2) := by decide +kernel
theorem dX10_off_53 : decode cX10_off 53 = .ok (.aload_n 0, 1) := by decide +kernel
theorem dX10_off_54 : decode cX10_off 54 = .ok (.iconst 0, 1) := by decide +kernel
theorem dX10_off_55 : decode cX10_off 55 = .ok (.putfield 145, 3) := by decide +kernel
theorem dX10_off_58 : decode cX10_off 58 = .ok (.aload_n 0, 1) := by decide +kernel
theorem dX10_off_59 : decode cX10_off 59 = .ok (.iload 4, 2) := by decide +kernel
theorem dX10_off_61 : decode cX10_off 61 = .ok (.i2l, 1) := by decide +kernel
theorem dX10_off_62 : decode cX10_off 62 = .ok (.invokevirtual 252, 3) := by decide +kernel
theorem dX10_off_65 : decode cX10_off 65 = .ok (.aload_n 0, 1) := by decide +kernel
theorem dX10_off_66 : decode cX10_off 66 = .ok (.iload 5, 2) := by decide +kernel
theorem dX10_off_68 : decode cX10_off 68 = .ok (.i2l, 1) := by decide +kernel
theorem dX10_off_69 : decode cX10_off 69 = .ok (.invokevirtual 252, 3) := by decide +kernel
theorem dX10_off_72 : decode cX10_off 72 = .ok (.iload 5, 2) := by decide +kernel
theorem dX10_off_74 : decode cX10_off 74 = .ok (.ifCond .ne 12, 3) := by decide +kernel
theorem dX10_off_77 : decode cX10_off 77 = .ok (.aload_n 0, 1) := by decide +kernel
theorem dX10_off_78 : decode cX10_off 78 = .ok (.lconst 0, 1) := by decide +kernel
theorem dX10_off_79 : decode cX10_off 79 = .ok (.lconst 1, 1) := by decide +kernel
theorem dX10_off_80 : decode cX10_off 80 = .ok (.invokevirtual 348, 3) := by decide +kernel
theorem dX10_off_83 : decode cX10_off 83 = .ok (.goto 16, 3) := by decide +kernel
theorem dX10_off_86 : decode cX10_off 86 = .ok (.aload_n 0, 1) := by decide +kernel
theorem dX10_off_87 : decode cX10_off 87 = .ok (.iload 5, 2) := by decide +kernel
theorem dX10_off_89 : decode cX10_off 89 = .ok (.iload 4, 2) := by decide +kernel
theorem dX10_off_91 : decode cX10_off 91 = .ok (.isub, 1) := by decide +kernel
theorem dX10_off_92 : decode cX10_off 92 = .ok (.i2l, 1) := by decide +kernel
theorem dX10_off_93 : decode cX10_off 93 = .ok (.iload 5, 2) := by decide +kernel
theorem dX10_off_95 : decode cX10_off 95 = .ok (.i2l, 1) := by decide +kernel
theorem dX10_off_96 : decode cX10_off 96 = .ok (.invokevirtual 348, 3) := by decide +kernel
theorem dX10_off_99 : decode cX10_off 99 = .ok (.iconst 0, 1) := by decide +kernel
theorem dX10_off_100 : decode cX10_off 100 = .ok (.ireturn, 1) := by decide +kernel
theorem dX10_few_0 : decode cX10_few 0 = .ok (.aload_n 0, 1) := by decide +kernel
theorem dX10_few_1 : decode cX10_few 1 = .ok (.iconst 0, 1) := by decide +kernel
theorem dX10_few_2 : decode cX10_few 2 = .ok (.putfield 142, 3) := by decide +kernel
theorem dX10_few_5 : decode cX10_few 5 = .ok (.iload_n 1, 1) := by decide +kernel
theorem dX10_few_6 : decode cX10_few 6 = .ok (.invokestatic 245, 3) := by decide +kernel
theorem dX10_few_9 : decode cX10_few 9 = .ok (.ifCond .eq 13, 3) := by decide +kernel
theorem dX10_few_12 : decode cX10_few 12 = .ok (.iload_n 2, 1) := by decide +kernel
theorem dX10_few_13 : decode cX10_few 13 = .ok (.iconst 0, 1) := by decide +kernel
theorem dX10_few_14 : decode cX10_few 14 = .ok (.bipush 99, 2) := by decide +kernel
theorem dX10_few_16 : decode cX10_few 16 = .ok (.invokestatic 151, 3) := by decide +kernel
theorem dX10_few_19 : decode cX10_few 19 = .ok (.ifCond .ne 5, 3) := by decide +kernel
theorem dX10_few_22 : decode cX10_few 22 = .ok (.iconst (-1), 1) := by decide +kernel
theorem dX10_few_23 : decode cX10_few 23 = .ok (.ireturn, 1) := by decide +kernel
theorem dX10_few_24 : decode cX10_few 24 = .ok (.aload_n 0, 1) := by decide +kernel
theorem dX10_few_25 : decode cX10_few 25 = .ok (.iload_n 1, 1) := by decide +kernel
theorem dX10_few_26 : decode cX10_few 26 = .ok (.iconst 1, 1) := by decide +kernel
theorem dX10_few_27 : decode cX10_few 27 = .ok (.invokevirtual 338, 3) := by decide +kernel
theorem dX10_few_30 : decode cX10_few 30 = .ok (.ifCond .ne 10, 3) := by decide +kernel
theorem dX10_few_33 : decode cX10_few 33 = .ok (.aload_n 0, 1) := by decide +kernel
theorem dX10_few_34 : decode cX10_few 34 = .ok (.iconst 0, 1) := by decide +kernel
theorem dX10_few_35 : decode cX10_few 35 = .ok (.putfield 145, 3) := by decide +kernel
theorem dX10_few_38 : decode cX10_few 38 = .ok (.iconst 0, 1) := by decide +kernel
theorem dX10_few_39 : decode cX10_few 39 = .ok (.ireturn, 1) := by decide +kernel
theorem dX10_few_40 : decode cX10_few 40 = .ok (.iconst 0, 1) := by decide +kernel
theorem dX10_few_41 : decode cX10_few 41 = .ok (.istore_n 3, 1) := by decide +kernel
theorem dX10_few_42 : decode cX10_few 42 = .ok (.iload_n 3, 1) := by decide +kernel
theorem dX10_few_43 : decode cX10_few 43 = .ok (.aload_n 0, 1) := by decide +kernel
theorem dX10_few_44 : decode cX10_few 44 = .ok (.getfield 9, 3) := by decide +kernel
theorem dX10_few_47 : decode cX10_few 47 = .ok (.iconst 1, 1) := by decide +kernel
theorem dX10_few_48 : decode cX10_few 48 = .ok (.isub, 1) := by decide +kernel
theorem dX10_few_49 : decode cX10_few 49 = .ok (.if_icmp .ge 75, 3) := by decide +kernel
theorem dX10_few_52 : decode cX10_few 52 = .ok (.aload_n 0, 1) := by decide +kernel
theorem dX10_few_53 : decode cX10_few 53 = .ok (.getfield 23, 3) := by decide +kernel
theorem dX10_few_56 : decode cX10_few 56 = .ok (.iload_n 3, 1) := by decide +kernel
theorem dX10_few_57 : decode cX10_few 57 = .ok (.iaload, 1) := by decide +kernel
theorem dX10_few_58 : decode cX10_few 58 = .ok (.bipush 100, 2) := by decide +kernel
theorem dX10_few_60 : decode cX10_few 60 = .ok (.if_icmp .ge 6, 3) := by decide +kernel
theorem dX10_few_63 : decode cX10_few 63 = .ok (.goto 55, 3) := by decide +kernel
theorem dX10_few_66 : decode cX10_few 66 = .ok (.aload_n 0, 1) := by decide +kernel
theorem dX10_few_67 : decode cX10_few 67 = .ok (.getfield 23, 3) := by decide +kernel
theorem dX10_few_70 : decode cX10_few 70 = .ok (.iload_n 3, 1) := by decide +kernel
theorem dX10_few_71 : decode cX10_few 71 = .ok (.iload_n 2, 1) := by decide +kernel
theorem dX10_few_72 : decode cX10_few 72 = .ok (.iastore, 1) := by decide +kernel
theorem dX10_few_73 : decode cX10_few 73 = .ok (.aload_n 0, 1) := by decide +kernel
theorem dX10_few_74 : decode cX10_few 74 = .ok (.iload_n 1, 1) := by decide +kernel
theorem dX10_few_75 : decode cX10_few 75 = .ok (.iconst 1, 1) := by decide +kernel
theorem dX10_few_76 : decode cX10_few 76 = .ok (.invokevirtual 338, 3) := by decide +kernel
theorem dX10_few_79 : decode cX10_few 79 = .ok (.ifCond .ne 7, 3) := by decide +kernel
theorem dX10_few_82 : decode cX10_few 82 = .ok (.iconst 1, 1) := by decide +kernel
theorem dX10_few_83 : decode cX10_few 83 = .ok (.goto 4, 3) := by decide +kernel
theorem dX10_few_86 : decode cX10_few 86 = .ok (.iconst 0, 1) := by decide +kernel
theorem dX10_few_87 : decode cX10_few 87 = .ok (.istore 4, 2) := by decide +kernel
theorem dX10_few_89 : decode cX10_few 89 = .ok (.aload_n 0, 1) := by decide +kernel
theorem dX10_few_90 : decode cX10_few 90 = .ok (.getfield 23, 3) := by decide +kernel
theorem dX10_few_93 : decode cX10_few 93 = .ok (.iload_n 3, 1) := by decide +kernel
theorem dX10_few_94 : decode cX10_few 94 = .ok (.bipush 100, 2) := by decide +kernel
theorem dX10_few_96 : decode cX10_few 96 = .ok (.iastore, 1) := by decide +kernel
theorem dX10_few_97 : decode cX10_few 97 = .ok (.iload 4, 2) := by decide +kernel
theorem dX10_few_99 : decode cX10_few 99 = .ok (.ifCond .ne 6, 3) := by decide +kernel
theorem dX10_few_102 : decode cX10_few 102 = .ok (.goto 16, 3) := by decide +kernel
theorem dX10_few_105 : decode cX10_few 105 = .ok (.aload_n 0, 1) := by decide +kernel
theorem dX10_few_106 : decode cX10_few 106 = .ok (.iconst 0, 1) := by decide +kernel
theorem dX10_few_107 : decode cX10_few 107 = .ok (.putfield 145, 3) := by decide +kernel
theorem dX10_few_110 : decode cX10_few 110 = .ok (.aload_n 0, 1) := by decide +kernel
theorem dX10_few_111 : decode cX10_few 111 = .ok (.iload_n 3, 1) := by decide +kernel
theorem dX10_few_112 : decode cX10_few 112 = .ok (.i2l, 1) := by decide +kernel
theorem dX10_few_113 : decode cX10_few 113 = .ok (.invokevirtual 252, 3) := by decide +kernel
theorem dX10_few_116 : decode cX10_few 116 = .ok (.iconst 1, 1) := by decide +kernel
theorem dX10_few_117 : decode cX10_few 117 = .ok (.ireturn, 1) := by decide +kernel
theorem dX10_few_118 : decode cX10_few 118 = .ok (.iinc 3 1, 3) := by decide +kernel
theorem dX10_few_121 : decode cX10_few 121 = .ok (.goto (-79), 3) := by decide +kernel
theorem dX10_few_124 : decode cX10_few 124 = .ok (.iconst 0, 1) := by decide +kernel
theorem dX10_few_125 : decode cX10_few 125 = .ok (.istore_n 3, 1) := by decide +kernel
theorem dX10_few_126 : decode cX10_few 126 = .ok (.iload_n 3, 1) := by decide +kernel
theorem dX10_few_127 : decode cX10_few 127 = .ok (.aload_n 0, 1) := by decide +kernel
theorem dX10_few_128 : decode cX10_few 128 = .ok (.getfield 9, 3) := by decide +kernel
theorem dX10_few_131 : decode cX10_few 131 = .ok (.iconst 1, 1) := by decide +kernel
theorem dX10_few_132 : decode cX10_few 132 = .ok (.isub, 1) := by decide +kernel
theorem dX10_few_133 : decode cX10_few 133 = .ok (.if_icmp .ge 133, 3) := by decide +kernel
theorem dX10_few_136 : decode cX10_few 136 = .ok (.iload_n 3, 1) := by decide +kernel
theorem dX10_few_137 : decode cX10_few 137 = .ok (.iconst 1, 1) := by decide +kernel
theorem dX10_few_138 : decode cX10_few 138 = .ok (.iadd, 1) := by decide +kernel
theorem dX10_few_139 : decode cX10_few 139 = .ok (.istore 4, 2) := by decide +kernel
theorem dX10_few_141 : decode cX10_few 141 = .ok (.iload 4, 2) := by decide +kernel
theorem dX10_few_143 : decode cX10_few 143 = .ok (.aload_n 0, 1) := by decide +kernel
theorem dX10_few_144 : decode cX10_few 144 = .ok (.getfield 9, 3) := by decide +kernel
theorem dX10_few_147 : decode cX10_few 147 = .ok (.iconst 1, 1) := by decide +kernel
theorem dX10_few_148 : decode cX10_few 148 = .ok (.isub, 1) := by decide +kernel
theorem dX10_few_149 : decode cX10_few 149 = .ok (.if_icmp .ge 111, 3) := by decide +kernel
theorem dX10_few_152 : decode cX10_few 152 = .ok (.aload_n 0, 1) := by decide +kernel
theorem dX10_few_153 : decode cX10_few 153 = .ok (.getfield 23, 3) := by decide +kernel
theorem dX10_few_156 : decode cX10_few 156 = .ok (.iload_n 3, 1) := by decide +kernel
theorem dX10_few_157 : decode cX10_few 157 = .ok (.iaload, 1) := by decide +kernel
theorem dX10_few_158 : decode cX10_few 158 = .ok (.bipush 100, 2) := by decide +kernel
theorem dX10_few_160 : decode cX10_few 160 = .ok (.if_icmp .lt 94, 3) := by decide +kernel
theorem dX10_few_163 : decode cX10_few 163 = .ok (.aload_n 0, 1) := by decide +kernel
theorem dX10_few_164 : decode cX10_few 164 = .ok (.getfield 23, 3) := by decide +kernel
theorem dX10_few_167 : decode cX10_few 167 = .ok (.iload 4, 2) := by decide +kernel
theorem dX10_few_169 : decode cX10_few 169 = .ok (.iaload, 1) := by decide +kernel
theorem dX10_few_170 : decode cX10_few 170 = .ok (.bipush 100, 2) := by decide +kernel
theorem dX10_few_172 : decode cX10_few 172 = .ok (.if_icmp .ge 6, 3) := by decide +kernel
theorem dX10_few_175 : decode cX10_few 175 = .ok (.goto 79, 3) := by decide +kernel
theorem dX10_few_178 : decode cX10_few 178 = .ok (.aload_n 0, 1) := by decide +kernel
theorem dX10_few_179 : decode cX10_few 179 = .ok (.getfield 23, 3) := by decide +kernel
theorem dX10_few_182 : decode cX10_few 182 = .ok (.iload_n 3, 1) := by decide +kernel
theorem dX10_few_183 : decode cX10_few 183 = .ok (.iload_n 2, 1) := by decide +kernel
theorem dX10_few_184 : decode cX10_few 184 = .ok (.iastore, 1) := by decide +kernel
theorem dX10_few_185 : decode cX10_few 185 = .ok (.aload_n 0, 1) := by decide +kernel
theorem dX10_few_186 : decode cX10_few 186 = .ok (.getfield 23, 3) := by decide +kernel
theorem dX10_few_189 : decode cX10_few 189 = .ok (.iload 4, 2) := by decide +kernel
theorem dX10_few_191 : decode cX10_few 191 = .ok (.iload_n 2, 1) := by decide +kernel
theorem dX10_few_192 : decode cX10_few 192 = .ok (.iastore, 1) := by decide +kernel
theorem dX10_few_193 : decode cX10_few 193 = .ok (.aload_n 0, 1) := by decide +kernel
theorem dX10_few_194 : decode cX10_few 194 = .ok (.iload_n 1, 1) := by decide +kernel
theorem dX10_few_195 : decode cX10_few 195 = .ok (.iconst 1, 1) := by decide +kernel
theorem dX10_few_196 : decode cX10_few 196 = .ok (.invokevirtual 338, 3) := by decide +kernel
theorem dX10_few_199 : decode cX10_few 199 = .ok (.ifCond .ne 7, 3) := by decide +kernel
theorem dX10_few_202 : decode cX10_few 202 = .ok (.iconst 1, 1) := by decide +kernel
theorem dX10_few_203 : decode cX10_few 203 = .ok (.goto 4, 3) := by decide +kernel
theorem dX10_few_206 : decode cX10_few 206 = .ok (.iconst 0, 1) := by decide +kernel
theorem dX10_few_207 : decode cX10_few 207 = .ok (.istore 5, 2) := by decide +kernel
theorem dX10_few_209 : decode cX10_few 209 = .ok (.aload_n 0, 1) := by decide +kernel
theorem dX10_few_210 : decode cX10_few 210 = .ok (.getfield 23, 3) := by decide +kernel
theorem dX10_few_213 : decode cX10_few 213 = .ok (.iload_n 3, 1) := by decide +kernel
theorem dX10_few_214 : decode cX10_few 214 = .ok (.bipush 100, 2) := by decide +kernel
theorem dX10_few_216 : decode cX10_few 216 = .ok (.iastore, 1) := by decide +kernel
theorem dX10_few_217 : decode cX10_few 217 = .ok (.aload_n 0, 1) := by decide +kernel
theorem dX10_few_218 : decode cX10_few 218 = .ok (.getfield 23, 3) := by decide +kernel
theorem dX10_few_221 : decode cX10_few 221 = .ok (.iload 4, 2) := by decide +kernel
theorem dX10_few_223 : decode cX10_few 223 = .ok (.bipush 100, 2) := by decide +kernel
theorem dX10_few_225 : decode cX10_few 225 = .ok (.iastore, 1) := by decide +kernel
theorem dX10_few_226 : decode cX10_few 226 = .ok (.iload 5, 2) := by decide +kernel
theorem dX10_few_228 : decode cX10_few 228 = .ok (.ifCond .ne 6, 3) := by decide +kernel
theorem dX10_few_231 : decode cX10_few 231 = .ok (.goto 23, 3) := by decide +kernel
theorem dX10_few_234 : decode cX10_few 234 = .ok (.aload_n 0, 1) := by decide +kernel
theorem dX10_few_235 : decode cX10_few 235 = .ok (.iconst 0, 1) := by decide +kernel
theorem dX10_few_236 : decode cX10_few 236 = .ok (.putfield 145, 3) := by decide +kernel
theorem dX10_few_239 : decode cX10_few 239 = .ok (.aload_n 0, 1) := by decide +kernel
theorem dX10_few_240 : decode cX10_few 240 = .ok (.iload_n 3, 1) := by decide +kernel
theorem dX10_few_241 : decode cX10_few 241 = .ok (.i2l, 1) := by decide +kernel
theorem dX10_few_242 : decode cX10_few 242 = .ok (.invokevirtual 252, 3) := by decide +kernel
theorem dX10_few_245 : decode cX10_few 245 = .ok (.aload_n 0, 1) := by decide +kernel
theorem dX10_few_246 : decode cX10_few 246 = .ok (.iload 4, 2) := by decide +kernel
theorem dX10_few_248 : decode cX10_few 248 = .ok (.i2l, 1) := by decide +kernel
theorem dX10_few_249 : decode cX10_few 249 = .ok (.invokevirtual 252, 3) := by decide +kernel
theorem dX10_few_252 : decode cX10_few 252 = .ok (.iconst 2, 1) := by decide +kernel
theorem dX10_few_253 : decode cX10_few 253 = .ok (.ireturn, 1) := by decide +kernel
theorem dX10_few_254 : decode cX10_few 254 = .ok (.iinc 4 1, 3) := by decide +kernel
theorem dX10_few_257 : decode cX10_few 257 = .ok (.goto (-116), 3) := by decide +kernel
theorem dX10_few_260 : decode cX10_few 260 = .ok (.iinc 3 1, 3) := by decide +kernel
theorem dX10_few_263 : decode cX10_few 263 = .ok (.goto (-137), 3) := by decide +kernel
theorem dX10_few_266 : decode cX10_few 266 = .ok (.bipush (-2), 2) := by decide +kernel
theorem dX10_few_268 : decode cX10_few 268 = .ok (.ireturn, 1) := by decide +kernel
theorem dX10_best_0 : decode cX10_best 0 = .ok (.aload_n 0, 1) := by decide +kernel
theorem dX10_best_1 : decode cX10_best 1 = .ok (.iconst 0, 1) := by decide +kernel
theorem dX10_best_2 : decode cX10_best 2 = .ok (.putfield 142, 3) := by decide +kernel
theorem dX10_best_5 : decode cX10_best 5 = .ok (.iload_n 1, 1) := by decide +kernel
theorem dX10_best_6 : decode cX10_best 6 = .ok (.invokestatic 245, 3) := by decide +kernel
theorem dX10_best_9 : decode cX10_best 9 = .ok (.ifCond .eq 11, 3) := by decide +kernel
theorem dX10_best_12 : decode cX10_best 12 = .ok (.aload_n 0, 1) := by decide +kernel
theorem dX10_best_13 : decode cX10_best 13 = .ok (.iload_n 2, 1) := by decide +kernel
theorem dX10_best_14 : decode cX10_best 14 = .ok (.invokevirtual 158, 3) := by decide +kernel
theorem dX10_best_17 : decode cX10_best 17 = .ok (.ifCond .ne 5, 3) := by decide +kernel
theorem dX10_best_20 : decode cX10_best 20 = .ok (.iconst (-1), 1) := by decide +kernel
theorem dX10_best_21 : decode cX10_best 21 = .ok (.ireturn, 1) := by decide +kernel
theorem dX10_best_22 : decode cX10_best 22 = .ok (.aload_n 0, 1) := by decide +kernel
theorem dX10_best_23 : decode cX10_best 23 = .ok (.getfield 23, 3) := by decide +kernel
theorem dX10_best_26 : decode cX10_best 26 = .ok (.iload_n 2, 1) := by decide +kernel
theorem dX10_best_27 : decode cX10_best 27 = .ok (.iaload, 1) := by decide +kernel
theorem dX10_best_28 : decode cX10_best 28 = .ok (.istore_n 3, 1) := by decide +kernel
theorem dX10_best_29 : decode cX10_best 29 = .ok (.iconst (-1), 1) := by decide +kernel
theorem dX10_best_30 : decode cX10_best 30 = .ok (.istore 4, 2) := by decide +kernel
theorem dX10_best_32 : decode cX10_best 32 = .ok (.iconst 0, 1) := by decide +kernel
theorem dX10_best_33 : decode cX10_best 33 = .ok (.istore 5, 2) := by decide +kernel
theorem dX10_best_35 : decode cX10_best 35 = .ok (.bipush 100, 2) := by decide +kernel
theorem dX10_best_37 : decode cX10_best 37 = .ok (.istore 6, 2) := by decide +kernel
theorem dX10_best_39 : decode cX10_best 39 = .ok (.iload 6, 2) := by decide +kernel
theorem dX10_best_41 : decode cX10_best 41 = .ok (.ifCond .lt 52, 3) := by decide +kernel
theorem dX10_best_44 : decode cX10_best 44 = .ok (.aload_n 0, 1) := by decide +kernel
theorem dX10_best_45 : decode cX10_best 45 = .ok (.getfield 23, 3) := by decide +kernel
theorem dX10_best_48 : decode cX10_best 48 = .ok (.iload_n 2, 1) := by decide +kernel
theorem dX10_best_49 : decode cX10_best 49 = .ok (.iload 6, 2) := by decide +kernel
theorem dX10_best_51 : decode cX10_best 51 = .ok (.iastore, 1) := by decide +kernel
theorem dX10_best_52 : decode cX10_best 52 = .ok (.aload_n 0, 1) := by decide +kernel
theorem dX10_best_53 : decode cX10_best 53 = .ok (.iload_n 1, 1) := by decide +kernel
theorem dX10_best_54 : decode cX10_best 54 = .ok (.iconst 1, 1) := by decide +kernel
theorem dX10_best_55 : decode cX10_best 55 = .ok (.invokevirtual 338, 3) := by decide +kernel
theorem dX10_best_58 : decode cX10_best 58 = .ok (.pop, 1) := by decide +kernel
theorem dX10_best_59 : decode cX10_best 59 = .ok (.iload 4, 2) := by decide +kernel
theorem dX10_best_61 : decode cX10_best 61 = .ok (.iconst (-1), 1) := by decide +kernel
theorem dX10_best_62 : decode cX10_best 62 = .ok (.if_icmp .eq 15, 3) := by decide +kernel
theorem dX10_best_65 : decode cX10_best 65 = .ok (.aload_n 0, 1) := by decide +kernel
theorem dX10_best_66 : decode cX10_best 66 = .ok (.getfield 297, 3) := by decide +kernel
theorem dX10_best_69 : decode cX10_best 69 = .ok (.iload 5, 2) := by decide +kernel
theorem dX10_best_71 : decode cX10_best 71 = .ok (.if_icmp .lt 6, 3) := by decide +kernel
theorem dX10_best_74 : decode cX10_best 74 = .ok (.goto 13, 3) := by decide +kernel
theorem dX10_best_77 : decode cX10_best 77 = .ok (.iload 6, 2) := by decide +kernel
theorem dX10_best_79 : decode cX10_best 79 = .ok (.istore 4, 2) := by decide +kernel
theorem dX10_best_81 : decode cX10_best 81 = .ok (.aload_n 0, 1) := by decide +kernel
theorem dX10_best_82 : decode cX10_best 82 = .ok (.getfield 297, 3) := by decide +kernel
theorem dX10_best_85 : decode cX10_best 85 = .ok (.istore 5, 2) := by decide +kernel
theorem dX10_best_87 : decode cX10_best 87 = .ok (.iinc 6 (-1), 3) := by decide +kernel
theorem dX10_best_90 : decode cX10_best 90 = .ok (.goto (-51), 3) := by decide +kernel
theorem dX10_best_93 : decode cX10_best 93 = .ok (.aload_n 0, 1) := by decide +kernel
theorem dX10_best_94 : decode cX10_best 94 = .ok (.getfield 23, 3) := by decide +kernel
theorem dX10_best_97 : decode cX10_best 97 = .ok (.iload_n 2, 1) := by decide +kernel
theorem dX10_best_98 : decode cX10_best 98 = .ok (.iload_n 3, 1) := by decide +kernel
theorem dX10_best_99 : decode cX10_best 99 = .ok (.iastore, 1) := by decide +kernel
theorem dX10_best_100 : decode cX10_best 100 = .ok (.aload_n 0, 1) := by decide +kernel
theorem dX10_best_101 : decode cX10_best 101 = .ok (.iconst 0, 1) := by decide +kernel
theorem dX10_best_102 : decode cX10_best 102 = .ok (.putfield 145, 3) := by decide +kernel
theorem dX10_best_105 : decode cX10_best 105 = .ok (.aload_n 0, 1) := by decide +kernel
theorem dX10_best_106 : decode cX10_best 106 = .ok (.iload 5, 2) := by decide +kernel
theorem dX10_best_108 : decode cX10_best 108 = .ok (.i2l, 1) := by decide +kernel
theorem dX10_best_109 : decode cX10_best 109 = .ok (.invokevirtual 252, 3) := by decide +kernel
theorem dX10_best_112 : decode cX10_best 112 = .ok (.iload 4, 2) := by decide +kernel
theorem dX10_best_114 : decode cX10_best 114 = .ok (.ireturn, 1) := by decide +kernel
theorem dX10_lid_0 : decode cX10_lid 0 = .ok (.aload_n 0, 1) := by decide +kernel
theorem dX10_lid_1 : decode cX10_lid 1 = .ok (.iconst 0, 1) := by decide +kernel
theorem dX10_lid_2 : decode cX10_lid 2 = .ok (.putfield 142, 3) := by decide +kernel
theorem dX10_lid_5 : decode cX10_lid 5 = .ok (.iload_n 1, 1) := by decide +kernel
theorem dX10_lid_6 : decode cX10_lid 6 = .ok (.invokestatic 245, 3) := by decide +kernel
theorem dX10_lid_9 : decode cX10_lid 9 = .ok (.ifCond .eq 26, 3) := by decide +kernel
theorem dX10_lid_12 : decode cX10_lid 12 = .ok (.iload_n 2, 1) := by decide +kernel
theorem dX10_lid_13 : decode cX10_lid 13 = .ok (.iconst 0, 1) := by decide +kernel
theorem dX10_lid_14 : decode cX10_lid 14 = .ok (.sipush 9999, 3) := by decide +kernel
theorem dX10_lid_17 : decode cX10_lid 17 = .ok (.invokestatic 151, 3) := by decide +kernel
theorem dX10_lid_20 : decode cX10_lid 20 = .ok (.ifCond .eq 15, 3) := by decide +kernel
theorem dX10_lid_23 : decode cX10_lid 23 = .ok (.aload_n 0, 1) := by decide +kernel
theorem dX10_lid_24 : decode cX10_lid 24 = .ok (.iconst 4, 1) := by decide +kernel
theorem dX10_lid_25 : decode cX10_lid 25 = .ok (.bipush 100, 2) := by decide +kernel
theorem dX10_lid_27 : decode cX10_lid 27 = .ok (.iload_n 1, 1) := by decide +kernel
theorem dX10_lid_28 : decode cX10_lid 28 = .ok (.iload_n 2, 1) := by decide +kernel
theorem dX10_lid_29 : decode cX10_lid 29 = .ok (.invokevirtual 369, 3) := by decide +kernel
theorem dX10_lid_32 : decode cX10_lid 32 = .ok (.goto 4, 3) := by decide +kernel
theorem dX10_lid_35 : decode cX10_lid 35 = .ok (.iconst (-1), 1) := by decide +kernel
theorem dX10_lid_36 : decode cX10_lid 36 = .ok (.ireturn, 1) := by decide +kernel
theorem dX10_form_0 : decode cX10_form 0 = .ok (.aload_n 0, 1) := by decide +kernel
theorem dX10_form_1 : decode cX10_form 1 = .ok (.iconst 0, 1) := by decide +kernel
theorem dX10_form_2 : decode cX10_form 2 = .ok (.putfield 142, 3) := by decide +kernel
theorem dX10_form_5 : decode cX10_form 5 = .ok (.iload_n 1, 1) := by decide +kernel
theorem dX10_form_6 : decode cX10_form 6 = .ok (.iconst 1, 1) := by decide +kernel
theorem dX10_form_7 : decode cX10_form 7 = .ok (.bipush 15, 2) := by decide +kernel
theorem dX10_form_9 : decode cX10_form 9 = .ok (.invokestatic 151, 3) := by decide +kernel
theorem dX10_form_12 : decode cX10_form 12 = .ok (.ifCond .ne 5, 3) := by decide +kernel
theorem dX10_form_15 : decode cX10_form 15 = .ok (.iconst (-1), 1) := by decide +kernel
theorem dX10_form_16 : decode cX10_form 16 = .ok (.ireturn, 1) := by decide +kernel
theorem dX10_form_17 : decode cX10_form 17 = .ok (.aload_n 0, 1) := by decide +kernel
theorem dX10_form_18 : decode cX10_form 18 = .ok (.getfield 9, 3) := by decide +kernel
theorem dX10_form_21 : decode cX10_form 21 = .ok (.istore_n 2, 1) := by decide +kernel
theorem dX10_form_22 : decode cX10_form 22 = .ok (.iconst 0, 1) := by decide +kernel
theorem dX10_form_23 : decode cX10_form 23 = .ok (.istore_n 3, 1) := by decide +kernel
theorem dX10_form_24 : decode cX10_form 24 = .ok (.iload_n 3, 1) := by decide +kernel
theorem dX10_form_25 : decode cX10_form 25 = .ok (.bipush 20, 2) := by decide +kernel
theorem dX10_form_27 : decode cX10_form 27 = .ok (.if_icmp .ge 29, 3) := by decide +kernel
theorem dX10_form_30 : decode cX10_form 30 = .ok (.aload_n 0, 1) := by decide +kernel
theorem dX10_form_31 : decode cX10_form 31 = .ok (.getfield 114, 3) := by decide +kernel
theorem dX10_form_34 : decode cX10_form 34 = .ok (.iload_n 3, 1) := by decide +kernel
theorem dX10_form_35 : decode cX10_form 35 = .ok (.aload_n 0, 1) := by decide +kernel
theorem dX10_form_36 : decode cX10_form 36 = .ok (.getfield 23, 3) := by decide +kernel
theorem dX10_form_39 : decode cX10_form 39 = .ok (.iload_n 3, 1) := by decide +kernel
theorem dX10_form_40 : decode cX10_form 40 = .ok (.iaload, 1) := by decide +kernel
theorem dX10_form_41 : decode cX10_form 41 = .ok (.iastore, 1) := by decide +kernel
theorem dX10_form_42 : decode cX10_form 42 = .ok (.aload_n 0, 1) := by decide +kernel
theorem dX10_form_43 : decode cX10_form 43 = .ok (.getfield 23, 3) := by decide +kernel
theorem dX10_form_46 : decode cX10_form 46 = .ok (.iload_n 3, 1) := by decide +kernel
theorem dX10_form_47 : decode cX10_form 47 = .ok (.bipush 100, 2) := by decide +kernel
theorem dX10_form_49 : decode cX10_form 49 = .ok (.iastore, 1) := by decide +kernel
theorem dX10_form_50 : decode cX10_form 50 = .ok (.iinc 3 1, 3) := by decide +kernel
theorem dX10_form_53 : decode cX10_form 53 = .ok (.goto (-29), 3) := by decide +kernel
theorem dX10_form_56 : decode cX10_form 56 = .ok (.bipush (-2), 2) := by decide +kernel
theorem dX10_form_58 : decode cX10_form 58 = .ok (.istore_n 3, 1) := by decide +kernel
theorem dX10_form_59 : decode cX10_form 59 = .ok (.iconst 2, 1) := by decide +kernel
theorem dX10_form_60 : decode cX10_form 60 = .ok (.istore 4, 2) := by decide +kernel
theorem dX10_form_62 : decode cX10_form 62 = .ok (.iload 4, 2) := by decide +kernel
theorem dX10_form_64 : decode cX10_form 64 = .ok (.bipush 20, 2) := by decide +kernel
theorem dX10_form_66 : decode cX10_form 66 = .ok (.if_icmp .gt 76, 3) := by decide +kernel
theorem dX10_form_69 : decode cX10_form 69 = .ok (.iload_n 3, 1) := by decide +kernel
theorem dX10_form_70 : decode cX10_form 70 = .ok (.ifCond .ge 72, 3) := by decide +kernel
theorem dX10_form_73 : decode cX10_form 73 = .ok (.aload_n 0, 1) := by decide +kernel
theorem dX10_form_74 : decode cX10_form 74 = .ok (.iload 4, 2) := by decide +kernel
theorem dX10_form_76 : decode cX10_form 76 = .ok (.putfield 9, 3) := by decide +kernel
theorem dX10_form_79 : decode cX10_form 79 = .ok (.iconst 1, 1) := by decide +kernel
theorem dX10_form_80 : decode cX10_form 80 = .ok (.istore 5, 2) := by decide +kernel
theorem dX10_form_82 : decode cX10_form 82 = .ok (.iconst 0, 1) := by decide +kernel
theorem dX10_form_83 : decode cX10_form 83 = .ok (.istore 6, 2) := by decide +kernel
theorem dX10_form_85 : decode cX10_form 85 = .ok (.iload 6, 2) := by decide +kernel
theorem dX10_form_87 : decode cX10_form 87 = .ok (.iconst 4, 1) := by decide +kernel
theorem dX10_form_88 : decode cX10_form 88 = .ok (.if_icmp .ge 40, 3) := by decide +kernel
theorem dX10_form_91 : decode cX10_form 91 = .ok (.iload 5, 2) := by decide +kernel
theorem dX10_form_93 : decode cX10_form 93 = .ok (.ifCond .eq 35, 3) := by decide +kernel
theorem dX10_form_96 : decode cX10_form 96 = .ok (.iload_n 1, 1) := by decide +kernel
theorem dX10_form_97 : decode cX10_form 97 = .ok (.iload 6, 2) := by decide +kernel
theorem dX10_form_99 : decode cX10_form 99 = .ok (.ishr, 1) := by decide +kernel
theorem dX10_form_100 : decode cX10_form 100 = .ok (.iconst 1, 1) := by decide +kernel
theorem dX10_form_101 : decode cX10_form 101 = .ok (.iand, 1) := by decide +kernel
theorem dX10_form_102 : decode cX10_form 102 = .ok (.ifCond .eq 13, 3) := by decide +kernel
theorem dX10_form_105 : decode cX10_form 105 = .ok (.aload_n 0, 1) := by decide +kernel
theorem dX10_form_106 : decode cX10_form 106 = .ok (.iload 6, 2) := by decide +kernel
theorem dX10_form_108 : decode cX10_form 108 = .ok (.iconst 1, 1) := by decide +kernel
theorem dX10_form_109 : decode cX10_form 109 = .ok (.invokevirtual 338, 3) := by decide +kernel
theorem dX10_form_112 : decode cX10_form 112 = .ok (.ifCond .ne 7, 3) := by decide +kernel
theorem dX10_form_115 : decode cX10_form 115 = .ok (.iconst 1, 1) := by decide +kernel
theorem dX10_form_116 : decode cX10_form 116 = .ok (.goto 4, 3) := by decide +kernel
theorem dX10_form_119 : decode cX10_form 119 = .ok (.iconst 0, 1) := by decide +kernel
theorem dX10_form_120 : decode cX10_form 120 = .ok (.istore 5, 2) := by decide +kernel
theorem dX10_form_122 : decode cX10_form 122 = .ok (.iinc 6 1, 3) := by decide +kernel
theorem dX10_form_125 : decode cX10_form 125 = .ok (.goto (-40), 3) := by decide +kernel
theorem dX10_form_128 : decode cX10_form 128 = .ok (.iload 5, 2) := by decide +kernel
theorem dX10_form_130 : decode cX10_form 130 = .ok (.ifCond .eq 6, 3) := by decide +kernel
theorem dX10_form_133 : decode cX10_form 133 = .ok (.iload 4, 2) := by decide +kernel
theorem dX10_form_135 : decode cX10_form 135 = .ok (.istore_n 3, 1) := by decide +kernel
theorem dX10_form_136 : decode cX10_form 136 = .ok (.iinc 4 1, 3) := by decide +kernel
theorem dX10_form_139 : decode cX10_form 139 = .ok (.goto (-77), 3) := by decide +kernel
theorem dX10_form_142 : decode cX10_form 142 = .ok (.aload_n 0, 1) := by decide +kernel
theorem dX10_form_143 : decode cX10_form 143 = .ok (.iload_n 2, 1) := by decide +kernel
theorem dX10_form_144 : decode cX10_form 144 = .ok (.putfield 9, 3) := by decide +kernel
theorem dX10_form_147 : decode cX10_form 147 = .ok (.iconst 0, 1) := by decide +kernel
theorem dX10_form_148 : decode cX10_form 148 = .ok (.istore 4, 2) := by decide +kernel
theorem dX10_form_150 : decode cX10_form 150 = .ok (.iload 4, 2) := by decide +kernel
theorem dX10_form_152 : decode cX10_form 152 = .ok (.bipush 20, 2) := by decide +kernel
theorem dX10_form_154 : decode cX10_form 154 = .ok (.if_icmp .ge 23, 3) := by decide +kernel
theorem dX10_form_157 : decode cX10_form 157 = .ok (.aload_n 0, 1) := by decide +kernel
theorem dX10_form_158 : decode cX10_form 158 = .ok (.getfield 23, 3) := by decide +kernel
theorem dX10_form_161 : decode cX10_form 161 = .ok (.iload 4, 2) := by decide +kernel
theorem dX10_form_163 : decode cX10_form 163 = .ok (.aload_n 0, 1) := by decide +kernel
theorem dX10_form_164 : decode cX10_form 164 = .ok (.getfield 114, 3) := by decide +kernel
theorem dX10_form_167 : decode cX10_form 167 = .ok (.iload 4, 2) := by decide +kernel
theorem dX10_form_169 : decode cX10_form 169 = .ok (.iaload, 1) := by decide +kernel
theorem dX10_form_170 : decode cX10_form 170 = .ok (.iastore, 1) := by decide +kernel
theorem dX10_form_171 : decode cX10_form 171 = .ok (.iinc 4 1, 3) := by decide +kernel
theorem dX10_form_174 : decode cX10_form 174 = .ok (.goto (-24), 3) := by decide +kernel
theorem dX10_form_177 : decode cX10_form 177 = .ok (.iload_n 3, 1) := by decide +kernel
theorem dX10_form_178 : decode cX10_form 178 = .ok (.ireturn, 1) := by decide +kernel
theorem dX10_withPause_0 : decode cX10_withPause 0 = .ok (.aload_n 0, 1) := by decide +kernel
theorem dX10_withPause_1 : decode cX10_withPause 1 = .ok (.iconst 3, 1) := by decide +kernel
theorem dX10_withPause_2 : decode cX10_withPause 2 = .ok (.invokevirtual 326, 3) := by decide +kernel
theorem dX10_withPause_5 : decode cX10_withPause 5 = .ok (.aload_n 0, 1) := by decide +kernel
theorem dX10_withPause_6 : decode cX10_withPause 6 = .ok (.invokevirtual 139, 3) := by decide +kernel
theorem dX10_withPause_9 : decode cX10_withPause 9 = .ok (.aload_n 0, 1) := by decide +kernel
theorem dX10_withPause_10 : decode cX10_withPause 10 = .ok (.iconst 1, 1) := by decide +kernel
theorem dX10_withPause_11 : decode cX10_withPause 11 = .ok (.putfield 38, 3) := by decide +kernel
theorem dX10_withPause_14 : decode cX10_withPause 14 = .ok (.aload_n 0, 1) := by decide +kernel
theorem dX10_withPause_15 : decode cX10_withPause 15 = .ok (.invokevirtual 310, 3) := by decide +kernel
theorem dX10_withPause_18 : decode cX10_withPause 18 = .ok (.aload_n 0, 1) := by decide +kernel
theorem dX10_withPause_19 : decode cX10_withPause 19 = .ok (.iload_n 1, 1) := by decide +kernel
theorem dX10_withPause_20 : decode cX10_withPause 20 = .ok (.iconst 0, 1) := by decide +kernel
theorem dX10_withPause_21 : decode cX10_withPause 21 = .ok (.iload_n 3, 1) := by decide +kernel
theorem dX10_withPause_22 : decode cX10_withPause 22 = .ok (.iload_n 2, 1) := by decide +kernel
theorem dX10_withPause_23 : decode cX10_withPause 23 = .ok (.invokevirtual 313, 3) := by decide +kernel
theorem dX10_withPause_26 : decode cX10_withPause 26 = .ok (.istore 5, 2) := by decide +kernel
theorem dX10_withPause_28 : decode cX10_withPause 28 = .ok (.iconst 0, 1) := by decide +kernel
theorem dX10_withPause_29 : decode cX10_withPause 29 = .ok (.istore 6, 2) := by decide +kernel
theorem dX10_withPause_31 : decode cX10_withPause 31 = .ok (.iload 6, 2) := by decide +kernel
theorem dX10_withPause_33 : decode cX10_withPause 33 = .ok (.iload 4, 2) := by decide +kernel
theorem dX10_withPause_35 : decode cX10_withPause 35 = .ok (.if_icmp .ge 21, 3) := by decide +kernel
theorem dX10_withPause_38 : decode cX10_withPause 38 = .ok (.iload 5, 2) := by decide +kernel
theorem dX10_withPause_40 : decode cX10_withPause 40 = .ok (.aload_n 0, 1) := by decide +kernel
theorem dX10_withPause_41 : decode cX10_withPause 41 = .ok (.iconst 0, 1) := by decide +kernel
theorem dX10_withPause_42 : decode cX10_withPause 42 = .ok (.iconst 0, 1) := by decide +kernel
theorem dX10_withPause_43 : decode cX10_withPause 43 = .ok (.iconst (-1), 1) := by decide +kernel
theorem dX10_withPause_44 : decode cX10_withPause 44 = .ok (.invokevirtual 306, 3) := by decide +kernel
theorem dX10_withPause_47 : decode cX10_withPause 47 = .ok (.iadd, 1) := by decide +kernel
theorem dX10_withPause_48 : decode cX10_withPause 48 = .ok (.istore 5, 2) := by decide +kernel
theorem dX10_withPause_50 : decode cX10_withPause 50 = .ok (.iinc 6 1, 3) := by decide +kernel
theorem dX10_withPause_53 : decode cX10_withPause 53 = .ok (.goto (-22), 3) := by decide +kernel
theorem dX10_withPause_56 : decode cX10_withPause 56 = .ok (.iload 5, 2) := by decide +kernel
theorem dX10_withPause_58 : decode cX10_withPause 58 = .ok (.aload_n 0, 1) := by decide +kernel
theorem dX10_withPause_59 : decode cX10_withPause 59 = .ok (.iload_n 1, 1) := by decide +kernel
theorem dX10_withPause_60 : decode cX10_withPause 60 = .ok (.iload_n 3, 1) := by decide +kernel
theorem dX10_withPause_61 : decode cX10_withPause 61 = .ok (.sipush 1000, 3) := by decide +kernel
theorem dX10_withPause_64 : decode cX10_withPause 64 = .ok (.iload_n 2, 1) := by decide +kernel
theorem dX10_withPause_65 : decode cX10_withPause 65 = .ok (.invokevirtual 313, 3) := by decide +kernel
theorem dX10_withPause_68 : decode cX10_withPause 68 = .ok (.iadd, 1) := by decide +kernel
theorem dX10_withPause_69 : decode cX10_withPause 69 = .ok (.istore 5, 2) := by decide +kernel
theorem dX10_withPause_71 : decode cX10_withPause 71 = .ok (.aload_n 0, 1) := by decide +kernel
theorem dX10_withPause_72 : decode cX10_withPause 72 = .ok (.iconst 3, 1) := by decide +kernel
theorem dX10_withPause_73 : decode cX10_withPause 73 = .ok (.invokevirtual 329, 3) := by decide +kernel
theorem dX10_withPause_76 : decode cX10_withPause 76 = .ok (.iload 5, 2) := by decide +kernel
theorem dX10_withPause_78 : decode cX10_withPause 78 = .ok (.ireturn, 1) := by decide +kernel
theorem dX10_turn_0 : decode cX10_turn 0 = .ok (.aload_n 0, 1) := by decide +kernel
theorem dX10_turn_1 : decode cX10_turn 1 = .ok (.iconst 0, 1) := by decide +kernel
theorem dX10_turn_2 : decode cX10_turn 2 = .ok (.putfield 142, 3) := by decide +kernel
theorem dX10_turn_5 : decode cX10_turn 5 = .ok (.iload_n 1, 1) := by decide +kernel
theorem dX10_turn_6 : decode cX10_turn 6 = .ok (.invokestatic 245, 3) := by decide +kernel
theorem dX10_turn_9 : decode cX10_turn 9 = .ok (.ifCond .eq 14, 3) := by decide +kernel
theorem dX10_turn_12 : decode cX10_turn 12 = .ok (.iload_n 2, 1) := by decide +kernel
theorem dX10_turn_13 : decode cX10_turn 13 = .ok (.iconst 0, 1) := by decide +kernel
theorem dX10_turn_14 : decode cX10_turn 14 = .ok (.sipush 1000, 3) := by decide +kernel
theorem dX10_turn_17 : decode cX10_turn 17 = .ok (.invokestatic 151, 3) := by decide +kernel
theorem dX10_turn_20 : decode cX10_turn 20 = .ok (.ifCond .ne 5, 3) := by decide +kernel
theorem dX10_turn_23 : decode cX10_turn 23 = .ok (.iconst (-1), 1) := by decide +kernel
theorem dX10_turn_24 : decode cX10_turn 24 = .ok (.ireturn, 1) := by decide +kernel
theorem dX10_turn_25 : decode cX10_turn 25 = .ok (.aload_n 0, 1) := by decide +kernel
theorem dX10_turn_26 : decode cX10_turn 26 = .ok (.iload_n 1, 1) := by decide +kernel
theorem dX10_turn_27 : decode cX10_turn 27 = .ok (.iload_n 2, 1) := by decide +kernel
theorem dX10_turn_28 : decode cX10_turn 28 = .ok (.iconst 0, 1) := by decide +kernel
theorem dX10_turn_29 : decode cX10_turn 29 = .ok (.iconst 0, 1) := by decide +kernel
theorem dX10_turn_30 : decode cX10_turn 30 = .ok (.invokevirtual 375, 3) := by decide +kernel
theorem dX10_turn_33 : decode cX10_turn 33 = .ok (.istore_n 3, 1) := by decide +kernel
theorem dX10_turn_34 : decode cX10_turn 34 = .ok (.aload_n 0, 1) := by decide +kernel
theorem dX10_turn_35 : decode cX10_turn 35 = .ok (.iconst 0, 1) := by decide +kernel
theorem dX10_turn_36 : decode cX10_turn 36 = .ok (.putfield 145, 3) := by decide +kernel
theorem dX10_turn_39 : decode cX10_turn 39 = .ok (.aload_n 0, 1) := by decide +kernel
theorem dX10_turn_40 : decode cX10_turn 40 = .ok (.aload_n 0, 1) := by decide +kernel
theorem dX10_turn_41 : decode cX10_turn 41 = .ok (.iload_n 1, 1) := by decide +kernel
theorem dX10_turn_42 : decode cX10_turn 42 = .ok (.iconst 1, 1) := by decide +kernel
theorem dX10_turn_43 : decode cX10_turn 43 = .ok (.invokevirtual 338, 3) := by decide +kernel
theorem dX10_turn_46 : decode cX10_turn 46 = .ok (.i2l, 1) := by decide +kernel
theorem dX10_turn_47 : decode cX10_turn 47 = .ok (.invokevirtual 252, 3) := by decide +kernel
theorem dX10_turn_50 : decode cX10_turn 50 = .ok (.iload_n 3, 1) := by decide +kernel
theorem dX10_turn_51 : decode cX10_turn 51 = .ok (.ireturn, 1) := by decide +kernel
theorem dX10_door_0 : decode cX10_door 0 = .ok (.aload_n 0, 1) := by decide +kernel
theorem dX10_door_1 : decode cX10_door 1 = .ok (.iconst 0, 1) := by decide +kernel
theorem dX10_door_2 : decode cX10_door 2 = .ok (.putfield 142, 3) := by decide +kernel
theorem dX10_door_5 : decode cX10_door 5 = .ok (.iload_n 1, 1) := by decide +kernel
theorem dX10_door_6 : decode cX10_door 6 = .ok (.invokestatic 245, 3) := by decide +kernel
theorem dX10_door_9 : decode cX10_door 9 = .ok (.ifCond .ne 5, 3) := by decide +kernel
theorem dX10_door_12 : decode cX10_door 12 = .ok (.iconst (-1), 1) := by decide +kernel
theorem dX10_door_13 : decode cX10_door 13 = .ok (.ireturn, 1) := by decide +kernel
theorem dX10_door_14 : decode cX10_door 14 = .ok (.aload_n 0, 1) := by decide +kernel
theorem dX10_door_15 : decode cX10_door 15 = .ok (.getfield 49, 3) := by decide +kernel
theorem dX10_door_18 : decode cX10_door 18 = .ok (.iload_n 1, 1) := by decide +kernel
theorem dX10_door_19 : decode cX10_door 19 = .ok (.iaload, 1) := by decide +kernel
theorem dX10_door_20 : decode cX10_door 20 = .ok (.istore_n 2, 1) := by decide +kernel
theorem dX10_door_21 : decode cX10_door 21 = .ok (.iconst (-1), 1) := by decide +kernel
theorem dX10_door_22 : decode cX10_door 22 = .ok (.istore_n 3, 1) := by decide +kernel
theorem dX10_door_23 : decode cX10_door 23 = .ok (.iconst 0, 1) := by decide +kernel
theorem dX10_door_24 : decode cX10_door 24 = .ok (.istore 4, 2) := by decide +kernel
theorem dX10_door_26 : decode cX10_door 26 = .ok (.iconst 0, 1) := by decide +kernel
theorem dX10_door_27 : decode cX10_door 27 = .ok (.istore 5, 2) := by decide +kernel
theorem dX10_door_29 : decode cX10_door 29 = .ok (.iload 5, 2) := by decide +kernel
theorem dX10_door_31 : decode cX10_door 31 = .ok (.iload_n 2, 1) := by decide +kernel
theorem dX10_door_32 : decode cX10_door 32 = .ok (.bipush 10, 2) := by decide +kernel
theorem dX10_door_34 : decode cX10_door 34 = .ok (.iadd, 1) := by decide +kernel
theorem dX10_door_35 : decode cX10_door 35 = .ok (.if_icmp .ge 50, 3) := by decide +kernel
theorem dX10_door_38 : decode cX10_door 38 = .ok (.iload 5, 2) := by decide +kernel
theorem dX10_door_40 : decode cX10_door 40 = .ok (.iload_n 2, 1) := by decide +kernel
theorem dX10_door_41 : decode cX10_door 41 = .ok (.invokestatic 162, 3) := by decide +kernel
theorem dX10_door_44 : decode cX10_door 44 = .ok (.istore 6, 2) := by decide +kernel
theorem dX10_door_46 : decode cX10_door 46 = .ok (.aload_n 0, 1) := by decide +kernel
theorem dX10_door_47 : decode cX10_door 47 = .ok (.iload_n 1, 1) := by decide +kernel
theorem dX10_door_48 : decode cX10_door 48 = .ok (.iload 6, 2) := by decide +kernel
theorem dX10_door_50 : decode cX10_door 50 = .ok (.iconst 0, 1) := by decide +kernel
theorem dX10_door_51 : decode cX10_door 51 = .ok (.iconst 0, 1) := by decide +kernel
theorem dX10_door_52 : decode cX10_door 52 = .ok (.invokevirtual 375, 3) := by decide +kernel
theorem dX10_door_55 : decode cX10_door 55 = .ok (.istore 7, 2) := by decide +kernel
theorem dX10_door_57 : decode cX10_door 57 = .ok (.iload_n 3, 1) := by decide +kernel
theorem dX10_door_58 : decode cX10_door 58 = .ok (.iconst (-1), 1) := by decide +kernel
theorem dX10_door_59 : decode cX10_door 59 = .ok (.if_icmp .eq 13, 3) := by decide +kernel
theorem dX10_door_62 : decode cX10_door 62 = .ok (.iload 7, 2) := by decide +kernel
theorem dX10_door_64 : decode cX10_door 64 = .ok (.iload 4, 2) := by decide +kernel
theorem dX10_door_66 : decode cX10_door 66 = .ok (.if_icmp .lt 6, 3) := by decide +kernel
theorem dX10_door_69 : decode cX10_door 69 = .ok (.goto 10, 3) := by decide +kernel
theorem dX10_door_72 : decode cX10_door 72 = .ok (.iload 6, 2) := by decide +kernel
theorem dX10_door_74 : decode cX10_door 74 = .ok (.istore_n 3, 1) := by decide +kernel
theorem dX10_door_75 : decode cX10_door 75 = .ok (.iload 7, 2) := by decide +kernel
theorem dX10_door_77 : decode cX10_door 77 = .ok (.istore 4, 2) := by decide +kernel
theorem dX10_door_79 : decode cX10_door 79 = .ok (.iinc 5 10, 3) := by decide +kernel
theorem dX10_door_82 : decode cX10_door 82 = .ok (.goto (-53), 3) := by decide +kernel
theorem dX10_door_85 : decode cX10_door 85 = .ok (.aload_n 0, 1) := by decide +kernel
theorem dX10_door_86 : decode cX10_door 86 = .ok (.iconst 0, 1) := by decide +kernel
theorem dX10_door_87 : decode cX10_door 87 = .ok (.putfield 145, 3) := by decide +kernel
theorem dX10_door_90 : decode cX10_door 90 = .ok (.aload_n 0, 1) := by decide +kernel
theorem dX10_door_91 : decode cX10_door 91 = .ok (.iload 4, 2) := by decide +kernel
theorem dX10_door_93 : decode cX10_door 93 = .ok (.i2l, 1) := by decide +kernel
theorem dX10_door_94 : decode cX10_door 94 = .ok (.invokevirtual 252, 3) := by decide +kernel
theorem dX10_door_97 : decode cX10_door 97 = .ok (.iload_n 3, 1) := by decide +kernel
theorem dX10_door_98 : decode cX10_door 98 = .ok (.ireturn, 1) := by decide +kernel
theorem dX10_two_0 : decode cX10_two 0 = .ok (.aload_n 0, 1) := by decide +kernel
theorem dX10_two_1 : decode cX10_two 1 = .ok (.iconst 0, 1) := by decide +kernel
theorem dX10_two_2 : decode cX10_two 2 = .ok (.putfield 142, 3) := by decide +kernel
theorem dX10_two_5 : decode cX10_two 5 = .ok (.iload_n 1, 1) := by decide +kernel
theorem dX10_two_6 : decode cX10_two 6 = .ok (.invokestatic 245, 3) := by decide +kernel
theorem dX10_two_9 : decode cX10_two 9 = .ok (.ifCond .ne 5, 3) := by decide +kernel
theorem dX10_two_12 : decode cX10_two 12 = .ok (.iconst (-1), 1) := by decide +kernel
theorem dX10_two_13 : decode cX10_two 13 = .ok (.ireturn, 1) := by decide +kernel
theorem dX10_two_14 : decode cX10_two 14 = .ok (.aload_n 0, 1) := by decide +kernel
theorem dX10_two_15 : decode cX10_two 15 = .ok (.iload_n 1, 1) := by decide +kernel
theorem dX10_two_16 : decode cX10_two 16 = .ok (.iconst 1, 1) := by decide +kernel
theorem dX10_two_17 : decode cX10_two 17 = .ok (.invokevirtual 338, 3) := by decide +kernel
theorem dX10_two_20 : decode cX10_two 20 = .ok (.istore_n 2, 1) := by decide +kernel
theorem dX10_two_21 : decode cX10_two 21 = .ok (.iconst (-1), 1) := by decide +kernel
theorem dX10_two_22 : decode cX10_two 22 = .ok (.istore_n 3, 1) := by decide +kernel
theorem dX10_two_23 : decode cX10_two 23 = .ok (.iconst 0, 1) := by decide +kernel
theorem dX10_two_24 : decode cX10_two 24 = .ok (.istore 4, 2) := by decide +kernel
theorem dX10_two_26 : decode cX10_two 26 = .ok (.iconst 0, 1) := by decide +kernel
theorem dX10_two_27 : decode cX10_two 27 = .ok (.istore 5, 2) := by decide +kernel
theorem dX10_two_29 : decode cX10_two 29 = .ok (.iload 5, 2) := by decide +kernel
theorem dX10_two_31 : decode cX10_two 31 = .ok (.bipush 40, 2) := by decide +kernel
theorem dX10_two_33 : decode cX10_two 33 = .ok (.if_icmp .gt 69, 3) := by decide +kernel
theorem dX10_two_36 : decode cX10_two 36 = .ok (.aload_n 0, 1) := by decide +kernel
theorem dX10_two_37 : decode cX10_two 37 = .ok (.iconst 3, 1) := by decide +kernel
theorem dX10_two_38 : decode cX10_two 38 = .ok (.invokevirtual 326, 3) := by decide +kernel
theorem dX10_two_41 : decode cX10_two 41 = .ok (.aload_n 0, 1) := by decide +kernel
theorem dX10_two_42 : decode cX10_two 42 = .ok (.invokevirtual 139, 3) := by decide +kernel
theorem dX10_two_45 : decode cX10_two 45 = .ok (.aload_n 0, 1) := by decide +kernel
theorem dX10_two_46 : decode cX10_two 46 = .ok (.iconst 1, 1) := by decide +kernel
theorem dX10_two_47 : decode cX10_two 47 = .ok (.putfield 38, 3) := by decide +kernel
theorem dX10_two_50 : decode cX10_two 50 = .ok (.aload_n 0, 1) := by decide +kernel
theorem dX10_two_51 : decode cX10_two 51 = .ok (.invokevirtual 310, 3) := by decide +kernel
theorem dX10_two_54 : decode cX10_two 54 = .ok (.aload_n 0, 1) := by decide +kernel
theorem dX10_two_55 : decode cX10_two 55 = .ok (.iload_n 1, 1) := by decide +kernel
theorem dX10_two_56 : decode cX10_two 56 = .ok (.iload 5, 2) := by decide +kernel
theorem dX10_two_58 : decode cX10_two 58 = .ok (.sipush 1000, 3) := by decide +kernel
theorem dX10_two_61 : decode cX10_two 61 = .ok (.sipush 1001, 3) := by decide +kernel
theorem dX10_two_64 : decode cX10_two 64 = .ok (.invokevirtual 313, 3) := by decide +kernel
theorem dX10_two_67 : decode cX10_two 67 = .ok (.istore 6, 2) := by decide +kernel
theorem dX10_two_69 : decode cX10_two 69 = .ok (.aload_n 0, 1) := by decide +kernel
theorem dX10_two_70 : decode cX10_two 70 = .ok (.iconst 3, 1) := by decide +kernel
theorem dX10_two_71 : decode cX10_two 71 = .ok (.invokevirtual 329, 3) := by decide +kernel
theorem dX10_two_74 : decode cX10_two 74 = .ok (.iload_n 3, 1) := by decide +kernel
theorem dX10_two_75 : decode cX10_two 75 = .ok (.iconst (-1), 1) := by decide +kernel
theorem dX10_two_76 : decode cX10_two 76 = .ok (.if_icmp .eq 13, 3) := by decide +kernel
theorem dX10_two_79 : decode cX10_two 79 = .ok (.iload 6, 2) := by decide +kernel
theorem dX10_two_81 : decode cX10_two 81 = .ok (.iload 4, 2) := by decide +kernel
theorem dX10_two_83 : decode cX10_two 83 = .ok (.if_icmp .lt 6, 3) := by decide +kernel
theorem dX10_two_86 : decode cX10_two 86 = .ok (.goto 10, 3) := by decide +kernel
theorem dX10_two_89 : decode cX10_two 89 = .ok (.iload 5, 2) := by decide +kernel
theorem dX10_two_91 : decode cX10_two 91 = .ok (.istore_n 3, 1) := by decide +kernel
theorem dX10_two_92 : decode cX10_two 92 = .ok (.iload 6, 2) := by decide +kernel
theorem dX10_two_94 : decode cX10_two 94 = .ok (.istore 4, 2) := by decide +kernel
theorem dX10_two_96 : decode cX10_two 96 = .ok (.iinc 5 1, 3) := by decide +kernel
theorem dX10_two_99 : decode cX10_two 99 = .ok (.goto (-70), 3) := by decide +kernel
theorem dX10_two_102 : decode cX10_two 102 = .ok (.aload_n 0, 1) := by decide +kernel
theorem dX10_two_103 : decode cX10_two 103 = .ok (.iconst 0, 1) := by decide +kernel
theorem dX10_two_104 : decode cX10_two 104 = .ok (.putfield 145, 3) := by decide +kernel
theorem dX10_two_107 : decode cX10_two 107 = .ok (.aload_n 0, 1) := by decide +kernel
theorem dX10_two_108 : decode cX10_two 108 = .ok (.iload_n 2, 1) := by decide +kernel
theorem dX10_two_109 : decode cX10_two 109 = .ok (.i2l, 1) := by decide +kernel
theorem dX10_two_110 : decode cX10_two 110 = .ok (.invokevirtual 252, 3) := by decide +kernel
theorem dX10_two_113 : decode cX10_two 113 = .ok (.aload_n 0, 1) := by decide +kernel
theorem dX10_two_114 : decode cX10_two 114 = .ok (.iload 4, 2) := by decide +kernel
theorem dX10_two_116 : decode cX10_two 116 = .ok (.i2l, 1) := by decide +kernel
theorem dX10_two_117 : decode cX10_two 117 = .ok (.invokevirtual 252, 3) := by decide +kernel
theorem dX10_two_120 : decode cX10_two 120 = .ok (.iload_n 3, 1) := by decide +kernel
theorem dX10_two_121 : decode cX10_two 121 = .ok (.ireturn, 1) := by decide +kernel
theorem dX10_stop_0 : decode cX10_stop 0 = .ok (.aload_n 0, 1) := by decide +kernel
theorem dX10_stop_1 : decode cX10_stop 1 = .ok (.iconst 0, 1) := by decide +kernel
theorem dX10_stop_2 : decode cX10_stop 2 = .ok (.putfield 142, 3) := by decide +kernel
theorem dX10_stop_5 : decode cX10_stop 5 = .ok (.iload_n 1, 1) := by decide +kernel
theorem dX10_stop_6 : decode cX10_stop 6 = .ok (.iconst 1, 1) := by decide +kernel
theorem dX10_stop_7 : decode cX10_stop 7 = .ok (.sipush 5000, 3) := by decide +kernel
theorem dX10_stop_10 : decode cX10_stop 10 = .ok (.invokestatic 151, 3) := by decide +kernel
theorem dX10_stop_13 : decode cX10_stop 13 = .ok (.ifCond .ne 5, 3) := by decide +kernel
theorem dX10_stop_16 : decode cX10_stop 16 = .ok (.iconst (-1), 1) := by decide +kernel
theorem dX10_stop_17 : decode cX10_stop 17 = .ok (.ireturn, 1) := by decide +kernel
theorem dX10_stop_18 : decode cX10_stop 18 = .ok (.iconst 1, 1) := by decide +kernel
theorem dX10_stop_19 : decode cX10_stop 19 = .ok (.istore_n 2, 1) := by decide +kernel
theorem dX10_stop_20 : decode cX10_stop 20 = .ok (.iload_n 2, 1) := by decide +kernel
theorem dX10_stop_21 : decode cX10_stop 21 = .ok (.sipush 200, 3) := by decide +kernel
theorem dX10_stop_24 : decode cX10_stop 24 = .ok (.if_icmp .gt 126, 3) := by decide +kernel
theorem dX10_stop_27 : decode cX10_stop 27 = .ok (.iload_n 1, 1) := by decide +kernel
theorem dX10_stop_28 : decode cX10_stop 28 = .ok (.iload_n 2, 1) := by decide +kernel
theorem dX10_stop_29 : decode cX10_stop 29 = .ok (.iadd, 1) := by decide +kernel
theorem dX10_stop_30 : decode cX10_stop 30 = .ok (.iconst 1, 1) := by decide +kernel
theorem dX10_stop_31 : decode cX10_stop 31 = .ok (.isub, 1) := by decide +kernel
theorem dX10_stop_32 : decode cX10_stop 32 = .ok (.iload_n 2, 1) := by decide +kernel
theorem dX10_stop_33 : decode cX10_stop 33 = .ok (.idiv, 1) := by decide +kernel
theorem dX10_stop_34 : decode cX10_stop 34 = .ok (.sipush 500, 3) := by decide +kernel
theorem dX10_stop_37 : decode cX10_stop 37 = .ok (.if_icmp .le 6, 3) := by decide +kernel
theorem dX10_stop_40 : decode cX10_stop 40 = .ok (.goto 104, 3) := by decide +kernel
theorem dX10_stop_43 : decode cX10_stop 43 = .ok (.aload_n 0, 1) := by decide +kernel
theorem dX10_stop_44 : decode cX10_stop 44 = .ok (.iconst 3, 1) := by decide +kernel
theorem dX10_stop_45 : decode cX10_stop 45 = .ok (.invokevirtual 326, 3) := by decide +kernel
theorem dX10_stop_48 : decode cX10_stop 48 = .ok (.aload_n 0, 1) := by decide +kernel
theorem dX10_stop_49 : decode cX10_stop 49 = .ok (.invokevirtual 139, 3) := by decide +kernel
theorem dX10_stop_52 : decode cX10_stop 52 = .ok (.aload_n 0, 1) := by decide +kernel
theorem dX10_stop_53 : decode cX10_stop 53 = .ok (.invokevirtual 310, 3) := by decide +kernel
theorem dX10_stop_56 : decode cX10_stop 56 = .ok (.iconst 0, 1) := by decide +kernel
theorem dX10_stop_57 : decode cX10_stop 57 = .ok (.istore_n 3, 1) := by decide +kernel
theorem dX10_stop_58 : decode cX10_stop 58 = .ok (.iconst 0, 1) := by decide +kernel
theorem dX10_stop_59 : decode cX10_stop 59 = .ok (.istore 4, 2) := by decide +kernel
theorem dX10_stop_61 : decode cX10_stop 61 = .ok (.iload 4, 2) := by decide +kernel
theorem dX10_stop_63 : decode cX10_stop 63 = .ok (.iload_n 2, 1) := by decide +kernel
theorem dX10_stop_64 : decode cX10_stop 64 = .ok (.bipush 100, 2) := by decide +kernel
theorem dX10_stop_66 : decode cX10_stop 66 = .ok (.iadd, 1) := by decide +kernel
theorem dX10_stop_67 : decode cX10_stop 67 = .ok (.if_icmp .ge 49, 3) := by decide +kernel
theorem dX10_stop_70 : decode cX10_stop 70 = .ok (.iload_n 3, 1) := by decide +kernel
theorem dX10_stop_71 : decode cX10_stop 71 = .ok (.ifCond .ne 45, 3) := by decide +kernel
theorem dX10_stop_74 : decode cX10_stop 74 = .ok (.iload_n 3, 1) := by decide +kernel
theorem dX10_stop_75 : decode cX10_stop 75 = .ok (.aload_n 0, 1) := by decide +kernel
theorem dX10_stop_76 : decode cX10_stop 76 = .ok (.iload 4, 2) := by decide +kernel
theorem dX10_stop_78 : decode cX10_stop 78 = .ok (.iload_n 2, 1) := by decide +kernel
theorem dX10_stop_79 : decode cX10_stop 79 = .ok (.if_icmp .lt 7, 3) := by decide +kernel
theorem dX10_stop_82 : decode cX10_stop 82 = .ok (.iconst 0, 1) := by decide +kernel
theorem dX10_stop_83 : decode cX10_stop 83 = .ok (.goto 20, 3) := by decide +kernel
theorem dX10_stop_86 : decode cX10_stop 86 = .ok (.iload_n 1, 1) := by decide +kernel
theorem dX10_stop_87 : decode cX10_stop 87 = .ok (.iload_n 2, 1) := by decide +kernel
theorem dX10_stop_88 : decode cX10_stop 88 = .ok (.idiv, 1) := by decide +kernel
theorem dX10_stop_89 : decode cX10_stop 89 = .ok (.iload 4, 2) := by decide +kernel
theorem dX10_stop_91 : decode cX10_stop 91 = .ok (.iload_n 1, 1) := by decide +kernel
theorem dX10_stop_92 : decode cX10_stop 92 = .ok (.iload_n 2, 1) := by decide +kernel
theorem dX10_stop_93 : decode cX10_stop 93 = .ok (.irem, 1) := by decide +kernel
theorem dX10_stop_94 : decode cX10_stop 94 = .ok (.if_icmp .ge 7, 3) := by decide +kernel
theorem dX10_stop_97 : decode cX10_stop 97 = .ok (.iconst 1, 1) := by decide +kernel
theorem dX10_stop_98 : decode cX10_stop 98 = .ok (.goto 4, 3) := by decide +kernel
theorem dX10_stop_101 : decode cX10_stop 101 = .ok (.iconst 0, 1) := by decide +kernel
theorem dX10_stop_102 : decode cX10_stop 102 = .ok (.iadd, 1) := by decide +kernel
theorem dX10_stop_103 : decode cX10_stop 103 = .ok (.iconst 0, 1) := by decide +kernel
theorem dX10_stop_104 : decode cX10_stop 104 = .ok (.iconst (-1), 1) := by decide +kernel
theorem dX10_stop_105 : decode cX10_stop 105 = .ok (.invokevirtual 306, 3) := by decide +kernel
theorem dX10_stop_108 : decode cX10_stop 108 = .ok (.iadd, 1) := by decide +kernel
theorem dX10_stop_109 : decode cX10_stop 109 = .ok (.istore_n 3, 1) := by decide +kernel
theorem dX10_stop_110 : decode cX10_stop 110 = .ok (.iinc 4 1, 3) := by decide +kernel
theorem dX10_stop_113 : decode cX10_stop 113 = .ok (.goto (-52), 3) := by decide +kernel
theorem dX10_stop_116 : decode cX10_stop 116 = .ok (.aload_n 0, 1) := by decide +kernel
theorem dX10_stop_117 : decode cX10_stop 117 = .ok (.iconst 3, 1) := by decide +kernel
theorem dX10_stop_118 : decode cX10_stop 118 = .ok (.invokevirtual 329, 3) := by decide +kernel
theorem dX10_stop_121 : decode cX10_stop 121 = .ok (.iload_n 3, 1) := by decide +kernel
theorem dX10_stop_122 : decode cX10_stop 122 = .ok (.ifCond .le 6, 3) := by decide +kernel
theorem dX10_stop_125 : decode cX10_stop 125 = .ok (.goto 19, 3) := by decide +kernel
theorem dX10_stop_128 : decode cX10_stop 128 = .ok (.aload_n 0, 1) := by decide +kernel
theorem dX10_stop_129 : decode cX10_stop 129 = .ok (.iconst 0, 1) := by decide +kernel
theorem dX10_stop_130 : decode cX10_stop 130 = .ok (.putfield 145, 3) := by decide +kernel
theorem dX10_stop_133 : decode cX10_stop 133 = .ok (.aload_n 0, 1) := by decide +kernel
theorem dX10_stop_134 : decode cX10_stop 134 = .ok (.aload_n 0, 1) := by decide +kernel
theorem dX10_stop_135 : decode cX10_stop 135 = .ok (.getfield 297, 3) := by decide +kernel
theorem dX10_stop_138 : decode cX10_stop 138 = .ok (.i2l, 1) := by decide +kernel
theorem dX10_stop_139 : decode cX10_stop 139 = .ok (.invokevirtual 252, 3) := by decide +kernel
theorem dX10_stop_142 : decode cX10_stop 142 = .ok (.iload_n 2, 1) := by decide +kernel
theorem dX10_stop_143 : decode cX10_stop 143 = .ok (.ireturn, 1) := by decide +kernel
theorem dX10_stop_144 : decode cX10_stop 144 = .ok (.iinc 2 1, 3) := by decide +kernel
theorem dX10_stop_147 : decode cX10_stop 147 = .ok (.goto (-127), 3) := by decide +kernel
theorem dX10_stop_150 : decode cX10_stop 150 = .ok (.bipush (-2), 2) := by decide +kernel
theorem dX10_stop_152 : decode cX10_stop 152 = .ok (.ireturn, 1) := by decide +kernel
theorem dX10_pause_0 : decode cX10_pause 0 = .ok (.aload_n 0, 1) := by decide +kernel
theorem dX10_pause_1 : decode cX10_pause 1 = .ok (.iconst 0, 1) := by decide +kernel
theorem dX10_pause_2 : decode cX10_pause 2 = .ok (.putfield 142, 3) := by decide +kernel
theorem dX10_pause_5 : decode cX10_pause 5 = .ok (.iload_n 1, 1) := by decide +kernel
theorem dX10_pause_6 : decode cX10_pause 6 = .ok (.invokestatic 245, 3) := by decide +kernel
theorem dX10_pause_9 : decode cX10_pause 9 = .ok (.ifCond .eq 14, 3) := by decide +kernel
theorem dX10_pause_12 : decode cX10_pause 12 = .ok (.iload_n 2, 1) := by decide +kernel
theorem dX10_pause_13 : decode cX10_pause 13 = .ok (.iconst 0, 1) := by decide +kernel
theorem dX10_pause_14 : decode cX10_pause 14 = .ok (.sipush 1000, 3) := by decide +kernel
theorem dX10_pause_17 : decode cX10_pause 17 = .ok (.invokestatic 151, 3) := by decide +kernel
theorem dX10_pause_20 : decode cX10_pause 20 = .ok (.ifCond .ne 5, 3) := by decide +kernel
theorem dX10_pause_23 : decode cX10_pause 23 = .ok (.iconst (-1), 1) := by decide +kernel
theorem dX10_pause_24 : decode cX10_pause 24 = .ok (.ireturn, 1) := by decide +kernel
theorem dX10_pause_25 : decode cX10_pause 25 = .ok (.iconst (-1), 1) := by decide +kernel
theorem dX10_pause_26 : decode cX10_pause 26 = .ok (.istore_n 3, 1) := by decide +kernel
theorem dX10_pause_27 : decode cX10_pause 27 = .ok (.iconst 0, 1) := by decide +kernel
theorem dX10_pause_28 : decode cX10_pause 28 = .ok (.istore 4, 2) := by decide +kernel
theorem dX10_pause_30 : decode cX10_pause 30 = .ok (.iconst 0, 1) := by decide +kernel
theorem dX10_pause_31 : decode cX10_pause 31 = .ok (.istore 5, 2) := by decide +kernel
theorem dX10_pause_33 : decode cX10_pause 33 = .ok (.iload 5, 2) := by decide +kernel
theorem dX10_pause_35 : decode cX10_pause 35 = .ok (.bipush 40, 2) := by decide +kernel
theorem dX10_pause_37 : decode cX10_pause 37 = .ok (.if_icmp .gt 44, 3) := by decide +kernel
theorem dX10_pause_40 : decode cX10_pause 40 = .ok (.aload_n 0, 1) := by decide +kernel
theorem dX10_pause_41 : decode cX10_pause 41 = .ok (.iload_n 1, 1) := by decide +kernel
theorem dX10_pause_42 : decode cX10_pause 42 = .ok (.sipush 1001, 3) := by decide +kernel
theorem dX10_pause_45 : decode cX10_pause 45 = .ok (.iload_n 2, 1) := by decide +kernel
theorem dX10_pause_46 : decode cX10_pause 46 = .ok (.iload 5, 2) := by decide +kernel
theorem dX10_pause_48 : decode cX10_pause 48 = .ok (.invokevirtual 375, 3) := by decide +kernel
theorem dX10_pause_51 : decode cX10_pause 51 = .ok (.istore 6, 2) := by decide +kernel
theorem dX10_pause_53 : decode cX10_pause 53 = .ok (.iload_n 3, 1) := by decide +kernel
theorem dX10_pause_54 : decode cX10_pause 54 = .ok (.iconst (-1), 1) := by decide +kernel
theorem dX10_pause_55 : decode cX10_pause 55 = .ok (.if_icmp .eq 13, 3) := by decide +kernel
theorem dX10_pause_58 : decode cX10_pause 58 = .ok (.iload 6, 2) := by decide +kernel
theorem dX10_pause_60 : decode cX10_pause 60 = .ok (.iload 4, 2) := by decide +kernel
theorem dX10_pause_62 : decode cX10_pause 62 = .ok (.if_icmp .lt 6, 3) := by decide +kernel
theorem dX10_pause_65 : decode cX10_pause 65 = .ok (.goto 10, 3) := by decide +kernel
theorem dX10_pause_68 : decode cX10_pause 68 = .ok (.iload 5, 2) := by decide +kernel
theorem dX10_pause_70 : decode cX10_pause 70 = .ok (.istore_n 3, 1) := by decide +kernel
theorem dX10_pause_71 : decode cX10_pause 71 = .ok (.iload 6, 2) := by decide +kernel
theorem dX10_pause_73 : decode cX10_pause 73 = .ok (.istore 4, 2) := by decide +kernel
theorem dX10_pause_75 : decode cX10_pause 75 = .ok (.iinc 5 1, 3) := by decide +kernel
theorem dX10_pause_78 : decode cX10_pause 78 = .ok (.goto (-45), 3) := by decide +kernel
theorem dX10_pause_81 : decode cX10_pause 81 = .ok (.aload_n 0, 1) := by decide +kernel
theorem dX10_pause_82 : decode cX10_pause 82 = .ok (.iconst 0, 1) := by decide +kernel
theorem dX10_pause_83 : decode cX10_pause 83 = .ok (.putfield 145, 3) := by decide +kernel
theorem dX10_pause_86 : decode cX10_pause 86 = .ok (.aload_n 0, 1) := by decide +kernel
theorem dX10_pause_87 : decode cX10_pause 87 = .ok (.iload 4, 2) := by decide +kernel
theorem dX10_pause_89 : decode cX10_pause 89 = .ok (.i2l, 1) := by decide +kernel
theorem dX10_pause_90 : decode cX10_pause 90 = .ok (.invokevirtual 252, 3) := by decide +kernel
theorem dX10_pause_93 : decode cX10_pause 93 = .ok (.iload_n 3, 1) := by decide +kernel
theorem dX10_pause_94 : decode cX10_pause 94 = .ok (.ireturn, 1) := by decide +kernel
theorem dX10_stir_0 : decode cX10_stir 0 = .ok (.aload_n 0, 1) := by decide +kernel
theorem dX10_stir_1 : decode cX10_stir 1 = .ok (.iconst 0, 1) := by decide +kernel
theorem dX10_stir_2 : decode cX10_stir 2 = .ok (.putfield 142, 3) := by decide +kernel
theorem dX10_stir_5 : decode cX10_stir 5 = .ok (.iload_n 1, 1) := by decide +kernel
theorem dX10_stir_6 : decode cX10_stir 6 = .ok (.iconst 0, 1) := by decide +kernel
theorem dX10_stir_7 : decode cX10_stir 7 = .ok (.iconst 1, 1) := by decide +kernel
theorem dX10_stir_8 : decode cX10_stir 8 = .ok (.invokestatic 151, 3) := by decide +kernel
theorem dX10_stir_11 : decode cX10_stir 11 = .ok (.ifCond .ne 7, 3) := by decide +kernel
theorem dX10_stir_14 : decode cX10_stir 14 = .ok (.ldc2_w 352, 3) := by decide +kernel
theorem dX10_stir_17 : decode cX10_stir 17 = .ok (.lreturn, 1) := by decide +kernel
theorem dX10_stir_18 : decode cX10_stir 18 = .ok (.lconst 0, 1) := by decide +kernel
theorem dX10_stir_19 : decode cX10_stir 19 = .ok (.lstore_n 2, 1) := by decide +kernel
theorem dX10_stir_20 : decode cX10_stir 20 = .ok (.iconst 0, 1) := by decide +kernel
theorem dX10_stir_21 : decode cX10_stir 21 = .ok (.istore 4, 2) := by decide +kernel
theorem dX10_stir_23 : decode cX10_stir 23 = .ok (.iload 4, 2) := by decide +kernel
theorem dX10_stir_25 : decode cX10_stir 25 = .ok (.aload_n 0, 1) := by decide +kernel
theorem dX10_stir_26 : decode cX10_stir 26 = .ok (.getfield 9, 3) := by decide +kernel
theorem dX10_stir_29 : decode cX10_stir 29 = .ok (.if_icmp .ge 76, 3) := by decide +kernel
theorem dX10_stir_32 : decode cX10_stir 32 = .ok (.aload_n 0, 1) := by decide +kernel
theorem dX10_stir_33 : decode cX10_stir 33 = .ok (.getfield 26, 3) := by decide +kernel
theorem dX10_stir_36 : decode cX10_stir 36 = .ok (.bipush 20, 2) := by decide +kernel
theorem dX10_stir_38 : decode cX10_stir 38 = .ok (.iload_n 1, 1) := by decide +kernel
theorem dX10_stir_39 : decode cX10_stir 39 = .ok (.imul, 1) := by decide +kernel
theorem dX10_stir_40 : decode cX10_stir 40 = .ok (.iload 4, 2) := by decide +kernel
theorem dX10_stir_42 : decode cX10_stir 42 = .ok (.iadd, 1) := by decide +kernel
theorem dX10_stir_43 : decode cX10_stir 43 = .ok (.iaload, 1) := by decide +kernel
theorem dX10_stir_44 : decode cX10_stir 44 = .ok (.aload_n 0, 1) := by decide +kernel
theorem dX10_stir_45 : decode cX10_stir 45 = .ok (.getfield 16, 3) := by decide +kernel
theorem dX10_stir_48 : decode cX10_stir 48 = .ok (.isub, 1) := by decide +kernel
theorem dX10_stir_49 : decode cX10_stir 49 = .ok (.i2l, 1) := by decide +kernel
theorem dX10_stir_50 : decode cX10_stir 50 = .ok (.lstore 5, 2) := by decide +kernel
theorem dX10_stir_52 : decode cX10_stir 52 = .ok (.iload 4, 2) := by decide +kernel
theorem dX10_stir_54 : decode cX10_stir 54 = .ok (.aload_n 0, 1) := by decide +kernel
theorem dX10_stir_55 : decode cX10_stir 55 = .ok (.getfield 9, 3) := by decide +kernel
theorem dX10_stir_58 : decode cX10_stir 58 = .ok (.iconst 1, 1) := by decide +kernel
theorem dX10_stir_59 : decode cX10_stir 59 = .ok (.isub, 1) := by decide +kernel
theorem dX10_stir_60 : decode cX10_stir 60 = .ok (.if_icmp .ne 7, 3) := by decide +kernel
theorem dX10_stir_63 : decode cX10_stir 63 = .ok (.lconst 0, 1) := by decide +kernel
theorem dX10_stir_64 : decode cX10_stir 64 = .ok (.goto 19, 3) := by decide +kernel
theorem dX10_stir_67 : decode cX10_stir 67 = .ok (.aload_n 0, 1) := by decide +kernel
theorem dX10_stir_68 : decode cX10_stir 68 = .ok (.getfield 29, 3) := by decide +kernel
theorem dX10_stir_71 : decode cX10_stir 71 = .ok (.bipush 20, 2) := by decide +kernel
theorem dX10_stir_73 : decode cX10_stir 73 = .ok (.iload_n 1, 1) := by decide +kernel
theorem dX10_stir_74 : decode cX10_stir 74 = .ok (.imul, 1) := by decide +kernel
theorem dX10_stir_75 : decode cX10_stir 75 = .ok (.iload 4, 2) := by decide +kernel
theorem dX10_stir_77 : decode cX10_stir 77 = .ok (.iadd, 1) := by decide +kernel
theorem dX10_stir_78 : decode cX10_stir 78 = .ok (.iaload, 1) := by decide +kernel
theorem dX10_stir_79 : decode cX10_stir 79 = .ok (.bipush 8, 2) := by decide +kernel
theorem dX10_stir_81 : decode cX10_stir 81 = .ok (.idiv, 1) := by decide +kernel
theorem dX10_stir_82 : decode cX10_stir 82 = .ok (.i2l, 1) := by decide +kernel
theorem dX10_stir_83 : decode cX10_stir 83 = .ok (.lstore 7, 2) := by decide +kernel
theorem dX10_stir_85 : decode cX10_stir 85 = .ok (.lload_n 2, 1) := by decide +kernel
theorem dX10_stir_86 : decode cX10_stir 86 = .ok (.lload 5, 2) := by decide +kernel
theorem dX10_stir_88 : decode cX10_stir 88 = .ok (.lload 5, 2) := by decide +kernel
theorem dX10_stir_90 : decode cX10_stir 90 = .ok (.lmul, 1) := by decide +kernel
theorem dX10_stir_91 : decode cX10_stir 91 = .ok (.lload 7, 2) := by decide +kernel
theorem dX10_stir_93 : decode cX10_stir 93 = .ok (.lload 7, 2) := by decide +kernel
theorem dX10_stir_95 : decode cX10_stir 95 = .ok (.lmul, 1) := by decide +kernel
theorem dX10_stir_96 : decode cX10_stir 96 = .ok (.ladd, 1) := by decide +kernel
theorem dX10_stir_97 : decode cX10_stir 97 = .ok (.ladd, 1) := by decide +kernel
theorem dX10_stir_98 : decode cX10_stir 98 = .ok (.lstore_n 2, 1) := by decide +kernel
theorem dX10_stir_99 : decode cX10_stir 99 = .ok (.iinc 4 1, 3) := by decide +kernel
theorem dX10_stir_102 : decode cX10_stir 102 = .ok (.goto (-79), 3) := by decide +kernel
theorem dX10_stir_105 : decode cX10_stir 105 = .ok (.lload_n 2, 1) := by decide +kernel
theorem dX10_stir_106 : decode cX10_stir 106 = .ok (.lreturn, 1) := by decide +kernel
theorem dX10_spot_0 : decode cX10_spot 0 = .ok (.aload_n 0, 1) := by decide +kernel
theorem dX10_spot_1 : decode cX10_spot 1 = .ok (.iconst 0, 1) := by decide +kernel
theorem dX10_spot_2 : decode cX10_spot 2 = .ok (.putfield 142, 3) := by decide +kernel
theorem dX10_spot_5 : decode cX10_spot 5 = .ok (.iload_n 1, 1) := by decide +kernel
theorem dX10_spot_6 : decode cX10_spot 6 = .ok (.iconst 0, 1) := by decide +kernel
theorem dX10_spot_7 : decode cX10_spot 7 = .ok (.sipush 1000, 3) := by decide +kernel
theorem dX10_spot_10 : decode cX10_spot 10 = .ok (.invokestatic 151, 3) := by decide +kernel
theorem dX10_spot_13 : decode cX10_spot 13 = .ok (.ifCond .eq 12, 3) := by decide +kernel
theorem dX10_spot_16 : decode cX10_spot 16 = .ok (.aload_n 0, 1) := by decide +kernel
theorem dX10_spot_17 : decode cX10_spot 17 = .ok (.getfield 378, 3) := by decide +kernel
theorem dX10_spot_20 : decode cX10_spot 20 = .ok (.bipush 12, 2) := by decide +kernel
theorem dX10_spot_22 : decode cX10_spot 22 = .ok (.if_icmp .ne 5, 3) := by decide +kernel
theorem dX10_spot_25 : decode cX10_spot 25 = .ok (.iconst (-1), 1) := by decide +kernel
theorem dX10_spot_26 : decode cX10_spot 26 = .ok (.ireturn, 1) := by decide +kernel
theorem dX10_spot_27 : decode cX10_spot 27 = .ok (.aload_n 0, 1) := by decide +kernel
theorem dX10_spot_28 : decode cX10_spot 28 = .ok (.getfield 117, 3) := by decide +kernel
theorem dX10_spot_31 : decode cX10_spot 31 = .ok (.aload_n 0, 1) := by decide +kernel
theorem dX10_spot_32 : decode cX10_spot 32 = .ok (.getfield 378, 3) := by decide +kernel
theorem dX10_spot_35 : decode cX10_spot 35 = .ok (.iload_n 1, 1) := by decide +kernel
theorem dX10_spot_36 : decode cX10_spot 36 = .ok (.iastore, 1) := by decide +kernel
theorem dX10_spot_37 : decode cX10_spot 37 = .ok (.aload_n 0, 1) := by decide +kernel
theorem dX10_spot_38 : decode cX10_spot 38 = .ok (.dup, 1) := by decide +kernel
theorem dX10_spot_39 : decode cX10_spot 39 = .ok (.getfield 378, 3) := by decide +kernel
theorem dX10_spot_42 : decode cX10_spot 42 = .ok (.iconst 1, 1) := by decide +kernel
theorem dX10_spot_43 : decode cX10_spot 43 = .ok (.iadd, 1) := by decide +kernel
theorem dX10_spot_44 : decode cX10_spot 44 = .ok (.putfield 378, 3) := by decide +kernel
theorem dX10_spot_47 : decode cX10_spot 47 = .ok (.aload_n 0, 1) := by decide +kernel
theorem dX10_spot_48 : decode cX10_spot 48 = .ok (.getfield 378, 3) := by decide +kernel
theorem dX10_spot_51 : decode cX10_spot 51 = .ok (.ireturn, 1) := by decide +kernel
theorem dX10_wipe_0 : decode cX10_wipe 0 = .ok (.aload_n 0, 1) := by decide +kernel
theorem dX10_wipe_1 : decode cX10_wipe 1 = .ok (.iconst 0, 1) := by decide +kernel
theorem dX10_wipe_2 : decode cX10_wipe 2 = .ok (.putfield 142, 3) := by decide +kernel
theorem dX10_wipe_5 : decode cX10_wipe 5 = .ok (.aload_n 0, 1) := by decide +kernel
theorem dX10_wipe_6 : decode cX10_wipe 6 = .ok (.getfield 378, 3) := by decide +kernel
theorem dX10_wipe_9 : decode cX10_wipe 9 = .ok (.istore_n 1, 1) := by decide +kernel
theorem dX10_wipe_10 : decode cX10_wipe 10 = .ok (.aload_n 0, 1) := by decide +kernel
theorem dX10_wipe_11 : decode cX10_wipe 11 = .ok (.iconst 0, 1) := by decide +kernel
theorem dX10_wipe_12 : decode cX10_wipe 12 = .ok (.putfield 378, 3) := by decide +kernel
theorem dX10_wipe_15 : decode cX10_wipe 15 = .ok (.iload_n 1, 1) := by decide +kernel
theorem dX10_wipe_16 : decode cX10_wipe 16 = .ok (.ireturn, 1) := by decide +kernel
theorem dX10_farFrom_0 : decode cX10_farFrom 0 = .ok (.aload_n 0, 1) := by decide +kernel
theorem dX10_farFrom_1 : decode cX10_farFrom 1 = .ok (.getfield 19, 3) := by decide +kernel
theorem dX10_farFrom_4 : decode cX10_farFrom 4 = .ok (.bipush 6, 2) := by decide +kernel
theorem dX10_farFrom_6 : decode cX10_farFrom 6 = .ok (.iaload, 1) := by decide +kernel
theorem dX10_farFrom_7 : decode cX10_farFrom 7 = .ok (.istore_n 3, 1) := by decide +kernel
theorem dX10_farFrom_8 : decode cX10_farFrom 8 = .ok (.aload_n 0, 1) := by decide +kernel
theorem dX10_farFrom_9 : decode cX10_farFrom 9 = .ok (.getfield 19, 3) := by decide +kernel
theorem dX10_farFrom_12 : decode cX10_farFrom 12 = .ok (.bipush 6, 2) := by decide +kernel
theorem dX10_farFrom_14 : decode cX10_farFrom 14 = .ok (.iload_n 2, 1) := by decide +kernel
theorem dX10_farFrom_15 : decode cX10_farFrom 15 = .ok (.iastore, 1) := by decide +kernel
theorem dX10_farFrom_16 : decode cX10_farFrom 16 = .ok (.aload_n 0, 1) := by decide +kernel
theorem dX10_farFrom_17 : decode cX10_farFrom 17 = .ok (.iload_n 1, 1) := by decide +kernel
theorem dX10_farFrom_18 : decode cX10_farFrom 18 = .ok (.iconst 1, 1) := by decide +kernel
theorem dX10_farFrom_19 : decode cX10_farFrom 19 = .ok (.invokevirtual 338, 3) := by decide +kernel
theorem dX10_farFrom_22 : decode cX10_farFrom 22 = .ok (.pop, 1) := by decide +kernel
theorem dX10_farFrom_23 : decode cX10_farFrom 23 = .ok (.aload_n 0, 1) := by decide +kernel
theorem dX10_farFrom_24 : decode cX10_farFrom 24 = .ok (.getfield 19, 3) := by decide +kernel
theorem dX10_farFrom_27 : decode cX10_farFrom 27 = .ok (.bipush 6, 2) := by decide +kernel
theorem dX10_farFrom_29 : decode cX10_farFrom 29 = .ok (.iload_n 3, 1) := by decide +kernel
theorem dX10_farFrom_30 : decode cX10_farFrom 30 = .ok (.iastore, 1) := by decide +kernel
theorem dX10_farFrom_31 : decode cX10_farFrom 31 = .ok (.iconst 0, 1) := by decide +kernel
theorem dX10_farFrom_32 : decode cX10_farFrom 32 = .ok (.istore 4, 2) := by decide +kernel
theorem dX10_farFrom_34 : decode cX10_farFrom 34 = .ok (.iconst 0, 1) := by decide +kernel
theorem dX10_farFrom_35 : decode cX10_farFrom 35 = .ok (.istore 5, 2) := by decide +kernel
theorem dX10_farFrom_37 : decode cX10_farFrom 37 = .ok (.iload 5, 2) := by decide +kernel
theorem dX10_farFrom_39 : decode cX10_farFrom 39 = .ok (.aload_n 0, 1) := by decide +kernel
theorem dX10_farFrom_40 : decode cX10_farFrom 40 = .ok (.getfield 378, 3) := by decide +kernel
theorem dX10_farFrom_43 : decode cX10_farFrom 43 = .ok (.if_icmp .ge 64, 3) := by decide +kernel
theorem dX10_farFrom_46 : decode cX10_farFrom 46 = .ok (.sipush 1000, 3) := by decide +kernel
theorem dX10_farFrom_49 : decode cX10_farFrom 49 = .ok (.istore 6, 2) := by decide +kernel
theorem dX10_farFrom_51 : decode cX10_farFrom 51 = .ok (.iconst 0, 1) := by decide +kernel
theorem dX10_farFrom_52 : decode cX10_farFrom 52 = .ok (.istore 7, 2) := by decide +kernel
theorem dX10_farFrom_54 : decode cX10_farFrom 54 = .ok (.iload 7, 2) := by decide +kernel
theorem dX10_farFrom_56 : decode cX10_farFrom 56 = .ok (.aload_n 0, 1) := by decide +kernel
theorem dX10_farFrom_57 : decode cX10_farFrom 57 = .ok (.getfield 300, 3) := by decide +kernel
theorem dX10_farFrom_60 : decode cX10_farFrom 60 = .ok (.if_icmp .ge 34, 3) := by decide +kernel
theorem dX10_farFrom_63 : decode cX10_farFrom 63 = .ok (.iload 6, 2) := by decide +kernel
theorem dX10_farFrom_65 : decode cX10_farFrom 65 = .ok (.aload_n 0, 1) := by decide +kernel
theorem dX10_farFrom_66 : decode cX10_farFrom 66 = .ok (.getfield 87, 3) := by decide +kernel
theorem dX10_farFrom_69 : decode cX10_farFrom 69 = .ok (.iload 7, 2) := by decide +kernel
theorem dX10_farFrom_71 : decode cX10_farFrom 71 = .ok (.iaload, 1) := by decide +kernel
theorem dX10_farFrom_72 : decode cX10_farFrom 72 = .ok (.aload_n 0, 1) := by decide +kernel
theorem dX10_farFrom_73 : decode cX10_farFrom 73 = .ok (.getfield 117, 3) := by decide +kernel
theorem dX10_farFrom_76 : decode cX10_farFrom 76 = .ok (.iload 5, 2) := by decide +kernel
theorem dX10_farFrom_78 : decode cX10_farFrom 78 = .ok (.iaload, 1) := by decide +kernel
theorem dX10_farFrom_79 : decode cX10_farFrom 79 = .ok (.isub, 1) := by decide +kernel
theorem dX10_farFrom_80 : decode cX10_farFrom 80 = .ok (.invokestatic 248, 3) := by decide +kernel
theorem dX10_farFrom_83 : decode cX10_farFrom 83 = .ok (.invokestatic 162, 3) := by decide +kernel
theorem dX10_farFrom_86 : decode cX10_farFrom 86 = .ok (.istore 6, 2) := by decide +kernel
theorem dX10_farFrom_88 : decode cX10_farFrom 88 = .ok (.iinc 7 1, 3) := by decide +kernel
theorem dX10_farFrom_91 : decode cX10_farFrom 91 = .ok (.goto (-37), 3) := by decide +kernel
theorem dX10_farFrom_94 : decode cX10_farFrom 94 = .ok (.iload 4, 2) := by decide +kernel
theorem dX10_farFrom_96 : decode cX10_farFrom 96 = .ok (.iload 6, 2) := by decide +kernel
theorem dX10_farFrom_98 : decode cX10_farFrom 98 = .ok (.iadd, 1) := by decide +kernel
theorem dX10_farFrom_99 : decode cX10_farFrom 99 = .ok (.istore 4, 2) := by decide +kernel
theorem dX10_farFrom_101 : decode cX10_farFrom 101 = .ok (.iinc 5 1, 3) := by decide +kernel
theorem dX10_farFrom_104 : decode cX10_farFrom 104 = .ok (.goto (-67), 3) := by decide +kernel
theorem dX10_farFrom_107 : decode cX10_farFrom 107 = .ok (.iconst 0, 1) := by decide +kernel
theorem dX10_farFrom_108 : decode cX10_farFrom 108 = .ok (.istore 5, 2) := by decide +kernel
theorem dX10_farFrom_110 : decode cX10_farFrom 110 = .ok (.iload 5, 2) := by decide +kernel
theorem dX10_farFrom_112 : decode cX10_farFrom 112 = .ok (.aload_n 0, 1) := by decide +kernel
theorem dX10_farFrom_113 : decode cX10_farFrom 113 = .ok (.getfield 300, 3) := by decide +kernel
theorem dX10_farFrom_116 : decode cX10_farFrom 116 = .ok (.if_icmp .ge 64, 3) := by decide +kernel
theorem dX10_farFrom_119 : decode cX10_farFrom 119 = .ok (.sipush 1000, 3) := by decide +kernel
theorem dX10_farFrom_122 : decode cX10_farFrom 122 = .ok (.istore 6, 2) := by decide +kernel
theorem dX10_farFrom_124 : decode cX10_farFrom 124 = .ok (.iconst 0, 1) := by decide +kernel
theorem dX10_farFrom_125 : decode cX10_farFrom 125 = .ok (.istore 7, 2) := by decide +kernel
theorem dX10_farFrom_127 : decode cX10_farFrom 127 = .ok (.iload 7, 2) := by decide +kernel
theorem dX10_farFrom_129 : decode cX10_farFrom 129 = .ok (.aload_n 0, 1) := by decide +kernel
theorem dX10_farFrom_130 : decode cX10_farFrom 130 = .ok (.getfield 378, 3) := by decide +kernel
theorem dX10_farFrom_133 : decode cX10_farFrom 133 = .ok (.if_icmp .ge 34, 3) := by decide +kernel
theorem dX10_farFrom_136 : decode cX10_farFrom 136 = .ok (.iload 6, 2) := by decide +kernel
theorem dX10_farFrom_138 : decode cX10_farFrom 138 = .ok (.aload_n 0, 1) := by decide +kernel
theorem dX10_farFrom_139 : decode cX10_farFrom 139 = .ok (.getfield 87, 3) := by decide +kernel
theorem dX10_farFrom_142 : decode cX10_farFrom 142 = .ok (.iload 5, 2) := by decide +kernel
theorem dX10_farFrom_144 : decode cX10_farFrom 144 = .ok (.iaload, 1) := by decide +kernel
theorem dX10_farFrom_145 : decode cX10_farFrom 145 = .ok (.aload_n 0, 1) := by decide +kernel
theorem dX10_farFrom_146 : decode cX10_farFrom 146 = .ok (.getfield 117, 3) := by decide +kernel
theorem dX10_farFrom_149 : decode cX10_farFrom 149 = .ok (.iload 7, 2) := by decide +kernel
theorem dX10_farFrom_151 : decode cX10_farFrom 151 = .ok (.iaload, 1) := by decide +kernel
theorem dX10_farFrom_152 : decode cX10_farFrom 152 = .ok (.isub, 1) := by decide +kernel
theorem dX10_farFrom_153 : decode cX10_farFrom 153 = .ok (.invokestatic 248, 3) := by decide +kernel
theorem dX10_farFrom_156 : decode cX10_farFrom 156 = .ok (.invokestatic 162, 3) := by decide +kernel
theorem dX10_farFrom_159 : decode cX10_farFrom 159 = .ok (.istore 6, 2) := by decide +kernel
theorem dX10_farFrom_161 : decode cX10_farFrom 161 = .ok (.iinc 7 1, 3) := by decide +kernel
theorem dX10_farFrom_164 : decode cX10_farFrom 164 = .ok (.goto (-37), 3) := by decide +kernel
theorem dX10_farFrom_167 : decode cX10_farFrom 167 = .ok (.iload 4, 2) := by decide +kernel
theorem dX10_farFrom_169 : decode cX10_farFrom 169 = .ok (.iload 6, 2) := by decide +kernel
theorem dX10_farFrom_171 : decode cX10_farFrom 171 = .ok (.iadd, 1) := by decide +kernel
theorem dX10_farFrom_172 : decode cX10_farFrom 172 = .ok (.istore 4, 2) := by decide +kernel
theorem dX10_farFrom_174 : decode cX10_farFrom 174 = .ok (.iinc 5 1, 3) := by decide +kernel
theorem dX10_farFrom_177 : decode cX10_farFrom 177 = .ok (.goto (-67), 3) := by decide +kernel
theorem dX10_farFrom_180 : decode cX10_farFrom 180 = .ok (.iload 4, 2) := by decide +kernel
theorem dX10_farFrom_182 : decode cX10_farFrom 182 = .ok (.ireturn, 1) := by decide +kernel
theorem dX10_far_0 : decode cX10_far 0 = .ok (.aload_n 0, 1) := by decide +kernel
theorem dX10_far_1 : decode cX10_far 1 = .ok (.iconst 0, 1) := by decide +kernel
theorem dX10_far_2 : decode cX10_far 2 = .ok (.putfield 142, 3) := by decide +kernel
theorem dX10_far_5 : decode cX10_far 5 = .ok (.iload_n 1, 1) := by decide +kernel
theorem dX10_far_6 : decode cX10_far 6 = .ok (.invokestatic 245, 3) := by decide +kernel
theorem dX10_far_9 : decode cX10_far 9 = .ok (.ifCond .eq 25, 3) := by decide +kernel
theorem dX10_far_12 : decode cX10_far 12 = .ok (.iload_n 2, 1) := by decide +kernel
theorem dX10_far_13 : decode cX10_far 13 = .ok (.iconst 3, 1) := by decide +kernel
theorem dX10_far_14 : decode cX10_far 14 = .ok (.if_icmp .eq 11, 3) := by decide +kernel
theorem dX10_far_17 : decode cX10_far 17 = .ok (.aload_n 0, 1) := by decide +kernel
theorem dX10_far_18 : decode cX10_far 18 = .ok (.iload_n 2, 1) := by decide +kernel
theorem dX10_far_19 : decode cX10_far 19 = .ok (.invokevirtual 280, 3) := by decide +kernel
theorem dX10_far_22 : decode cX10_far 22 = .ok (.ifCond .eq 12, 3) := by decide +kernel
theorem dX10_far_25 : decode cX10_far 25 = .ok (.aload_n 0, 1) := by decide +kernel
theorem dX10_far_26 : decode cX10_far 26 = .ok (.iload_n 1, 1) := by decide +kernel
theorem dX10_far_27 : decode cX10_far 27 = .ok (.iload_n 2, 1) := by decide +kernel
theorem dX10_far_28 : decode cX10_far 28 = .ok (.invokevirtual 381, 3) := by decide +kernel
theorem dX10_far_31 : decode cX10_far 31 = .ok (.goto 4, 3) := by decide +kernel
theorem dX10_far_34 : decode cX10_far 34 = .ok (.iconst (-1), 1) := by decide +kernel
theorem dX10_far_35 : decode cX10_far 35 = .ok (.ireturn, 1) := by decide +kernel
theorem dX10_who_0 : decode cX10_who 0 = .ok (.aload_n 0, 1) := by decide +kernel
theorem dX10_who_1 : decode cX10_who 1 = .ok (.iconst 0, 1) := by decide +kernel
theorem dX10_who_2 : decode cX10_who 2 = .ok (.putfield 142, 3) := by decide +kernel
theorem dX10_who_5 : decode cX10_who 5 = .ok (.iconst (-1), 1) := by decide +kernel
theorem dX10_who_6 : decode cX10_who 6 = .ok (.istore_n 1, 1) := by decide +kernel
theorem dX10_who_7 : decode cX10_who 7 = .ok (.iconst (-1), 1) := by decide +kernel
theorem dX10_who_8 : decode cX10_who 8 = .ok (.istore_n 2, 1) := by decide +kernel
theorem dX10_who_9 : decode cX10_who 9 = .ok (.iconst 0, 1) := by decide +kernel
theorem dX10_who_10 : decode cX10_who 10 = .ok (.istore_n 3, 1) := by decide +kernel
theorem dX10_who_11 : decode cX10_who 11 = .ok (.iconst 0, 1) := by decide +kernel
theorem dX10_who_12 : decode cX10_who 12 = .ok (.istore 4, 2) := by decide +kernel
theorem dX10_who_14 : decode cX10_who 14 = .ok (.iconst 0, 1) := by decide +kernel
theorem dX10_who_15 : decode cX10_who 15 = .ok (.istore 5, 2) := by decide +kernel
theorem dX10_who_17 : decode cX10_who 17 = .ok (.iload 5, 2) := by decide +kernel
theorem dX10_who_19 : decode cX10_who 19 = .ok (.iconst 4, 1) := by decide +kernel
theorem dX10_who_20 : decode cX10_who 20 = .ok (.if_icmp .ge 105, 3) := by decide +kernel
theorem dX10_who_23 : decode cX10_who 23 = .ok (.iconst 0, 1) := by decide +kernel
theorem dX10_who_24 : decode cX10_who 24 = .ok (.istore 6, 2) := by decide +kernel
theorem dX10_who_26 : decode cX10_who 26 = .ok (.iload 6, 2) := by decide +kernel
theorem dX10_who_28 : decode cX10_who 28 = .ok (.iconst 3, 1) := by decide +kernel
theorem dX10_who_29 : decode cX10_who 29 = .ok (.if_icmp .gt 90, 3) := by decide +kernel
theorem dX10_who_32 : decode cX10_who 32 = .ok (.aload_n 0, 1) := by decide +kernel
theorem dX10_who_33 : decode cX10_who 33 = .ok (.getfield 49, 3) := by decide +kernel
theorem dX10_who_36 : decode cX10_who 36 = .ok (.iload 5, 2) := by decide +kernel
theorem dX10_who_38 : decode cX10_who 38 = .ok (.iaload, 1) := by decide +kernel
theorem dX10_who_39 : decode cX10_who 39 = .ok (.ifCond .eq 74, 3) := by decide +kernel
theorem dX10_who_42 : decode cX10_who 42 = .ok (.iload 6, 2) := by decide +kernel
theorem dX10_who_44 : decode cX10_who 44 = .ok (.iconst 3, 1) := by decide +kernel
theorem dX10_who_45 : decode cX10_who 45 = .ok (.if_icmp .eq 15, 3) := by decide +kernel
theorem dX10_who_48 : decode cX10_who 48 = .ok (.aload_n 0, 1) := by decide +kernel
theorem dX10_who_49 : decode cX10_who 49 = .ok (.iload 6, 2) := by decide +kernel
theorem dX10_who_51 : decode cX10_who 51 = .ok (.invokevirtual 280, 3) := by decide +kernel
theorem dX10_who_54 : decode cX10_who 54 = .ok (.ifCond .ne 6, 3) := by decide +kernel
theorem dX10_who_57 : decode cX10_who 57 = .ok (.goto 56, 3) := by decide +kernel
theorem dX10_who_60 : decode cX10_who 60 = .ok (.aload_n 0, 1) := by decide +kernel
theorem dX10_who_61 : decode cX10_who 61 = .ok (.iload 5, 2) := by decide +kernel
theorem dX10_who_63 : decode cX10_who 63 = .ok (.iload 6, 2) := by decide +kernel
theorem dX10_who_65 : decode cX10_who 65 = .ok (.invokevirtual 381, 3) := by decide +kernel
theorem dX10_who_68 : decode cX10_who 68 = .ok (.istore 7, 2) := by decide +kernel
theorem dX10_who_70 : decode cX10_who 70 = .ok (.iload_n 1, 1) := by decide +kernel
theorem dX10_who_71 : decode cX10_who 71 = .ok (.iconst (-1), 1) := by decide +kernel
theorem dX10_who_72 : decode cX10_who 72 = .ok (.if_icmp .eq 12, 3) := by decide +kernel
theorem dX10_who_75 : decode cX10_who 75 = .ok (.iload 7, 2) := by decide +kernel
theorem dX10_who_77 : decode cX10_who 77 = .ok (.iload_n 3, 1) := by decide +kernel
theorem dX10_who_78 : decode cX10_who 78 = .ok (.if_icmp .le 6, 3) := by decide +kernel
theorem dX10_who_81 : decode cX10_who 81 = .ok (.goto 32, 3) := by decide +kernel
theorem dX10_who_84 : decode cX10_who 84 = .ok (.iload_n 1, 1) := by decide +kernel
theorem dX10_who_85 : decode cX10_who 85 = .ok (.iconst (-1), 1) := by decide +kernel
theorem dX10_who_86 : decode cX10_who 86 = .ok (.if_icmp .eq 15, 3) := by decide +kernel
theorem dX10_who_89 : decode cX10_who 89 = .ok (.iload 7, 2) := by decide +kernel
theorem dX10_who_91 : decode cX10_who 91 = .ok (.iload_n 3, 1) := by decide +kernel
theorem dX10_who_92 : decode cX10_who 92 = .ok (.if_icmp .ne 9, 3) := by decide +kernel
theorem dX10_who_95 : decode cX10_who 95 = .ok (.iinc 4 1, 3) := by decide +kernel
theorem dX10_who_98 : decode cX10_who 98 = .ok (.goto 15, 3) := by decide +kernel
theorem dX10_who_101 : decode cX10_who 101 = .ok (.iload 5, 2) := by decide +kernel
theorem dX10_who_103 : decode cX10_who 103 = .ok (.istore_n 1, 1) := by decide +kernel
theorem dX10_who_104 : decode cX10_who 104 = .ok (.iload 6, 2) := by decide +kernel
theorem dX10_who_106 : decode cX10_who 106 = .ok (.istore_n 2, 1) := by decide +kernel
theorem dX10_who_107 : decode cX10_who 107 = .ok (.iload 7, 2) := by decide +kernel
theorem dX10_who_109 : decode cX10_who 109 = .ok (.istore_n 3, 1) := by decide +kernel
theorem dX10_who_110 : decode cX10_who 110 = .ok (.iconst 1, 1) := by decide +kernel
theorem dX10_who_111 : decode cX10_who 111 = .ok (.istore 4, 2) := by decide +kernel
theorem dX10_who_113 : decode cX10_who 113 = .ok (.iinc 6 1, 3) := by decide +kernel
theorem dX10_who_116 : decode cX10_who 116 = .ok (.goto (-90), 3) := by decide +kernel
theorem dX10_who_119 : decode cX10_who 119 = .ok (.iinc 5 1, 3) := by decide +kernel
theorem dX10_who_122 : decode cX10_who 122 = .ok (.goto (-105), 3) := by decide +kernel
theorem dX10_who_125 : decode cX10_who 125 = .ok (.iload_n 1, 1) := by decide +kernel
theorem dX10_who_126 : decode cX10_who 126 = .ok (.iconst (-1), 1) := by decide +kernel
theorem dX10_who_127 : decode cX10_who 127 = .ok (.if_icmp .ne 6, 3) := by decide +kernel
theorem dX10_who_130 : decode cX10_who 130 = .ok (.bipush (-2), 2) := by decide +kernel
theorem dX10_who_132 : decode cX10_who 132 = .ok (.ireturn, 1) := by decide +kernel
theorem dX10_who_133 : decode cX10_who 133 = .ok (.aload_n 0, 1) := by decide +kernel
theorem dX10_who_134 : decode cX10_who 134 = .ok (.iconst 0, 1) := by decide +kernel
theorem dX10_who_135 : decode cX10_who 135 = .ok (.putfield 145, 3) := by decide +kernel
theorem dX10_who_138 : decode cX10_who 138 = .ok (.aload_n 0, 1) := by decide +kernel
theorem dX10_who_139 : decode cX10_who 139 = .ok (.iload_n 1, 1) := by decide +kernel
theorem dX10_who_140 : decode cX10_who 140 = .ok (.i2l, 1) := by decide +kernel
theorem dX10_who_141 : decode cX10_who 141 = .ok (.invokevirtual 252, 3) := by decide +kernel
theorem dX10_who_144 : decode cX10_who 144 = .ok (.aload_n 0, 1) := by decide +kernel
theorem dX10_who_145 : decode cX10_who 145 = .ok (.iload_n 2, 1) := by decide +kernel
theorem dX10_who_146 : decode cX10_who 146 = .ok (.i2l, 1) := by decide +kernel
theorem dX10_who_147 : decode cX10_who 147 = .ok (.invokevirtual 252, 3) := by decide +kernel
theorem dX10_who_150 : decode cX10_who 150 = .ok (.aload_n 0, 1) := by decide +kernel
theorem dX10_who_151 : decode cX10_who 151 = .ok (.iload 4, 2) := by decide +kernel
theorem dX10_who_153 : decode cX10_who 153 = .ok (.i2l, 1) := by decide +kernel
theorem dX10_who_154 : decode cX10_who 154 = .ok (.invokevirtual 252, 3) := by decide +kernel
theorem dX10_who_157 : decode cX10_who 157 = .ok (.iload_n 3, 1) := by decide +kernel
theorem dX10_who_158 : decode cX10_who 158 = .ok (.ireturn, 1) := by decide +kernel
theorem dX10_film_0 : decode cX10_film 0 = .ok (.aload_n 0, 1) := by decide +kernel
theorem dX10_film_1 : decode cX10_film 1 = .ok (.iconst 0, 1) := by decide +kernel
theorem dX10_film_2 : decode cX10_film 2 = .ok (.putfield 142, 3) := by decide +kernel
theorem dX10_film_5 : decode cX10_film 5 = .ok (.iload_n 1, 1) := by decide +kernel
theorem dX10_film_6 : decode cX10_film 6 = .ok (.sipush (-500), 3) := by decide +kernel
theorem dX10_film_9 : decode cX10_film 9 = .ok (.sipush 500, 3) := by decide +kernel
theorem dX10_film_12 : decode cX10_film 12 = .ok (.invokestatic 151, 3) := by decide +kernel
theorem dX10_film_15 : decode cX10_film 15 = .ok (.ifCond .eq 50, 3) := by decide +kernel
theorem dX10_film_18 : decode cX10_film 18 = .ok (.iload_n 2, 1) := by decide +kernel
theorem dX10_film_19 : decode cX10_film 19 = .ok (.sipush (-999), 3) := by decide +kernel
theorem dX10_film_22 : decode cX10_film 22 = .ok (.sipush 999, 3) := by decide +kernel
theorem dX10_film_25 : decode cX10_film 25 = .ok (.invokestatic 151, 3) := by decide +kernel
theorem dX10_film_28 : decode cX10_film 28 = .ok (.ifCond .eq 37, 3) := by decide +kernel
theorem dX10_film_31 : decode cX10_film 31 = .ok (.iload_n 3, 1) := by decide +kernel
theorem dX10_film_32 : decode cX10_film 32 = .ok (.iconst 0, 1) := by decide +kernel
theorem dX10_film_33 : decode cX10_film 33 = .ok (.sipush 1000, 3) := by decide +kernel
theorem dX10_film_36 : decode cX10_film 36 = .ok (.invokestatic 151, 3) := by decide +kernel
theorem dX10_film_39 : decode cX10_film 39 = .ok (.ifCond .eq 26, 3) := by decide +kernel
theorem dX10_film_42 : decode cX10_film 42 = .ok (.iload 4, 2) := by decide +kernel
theorem dX10_film_44 : decode cX10_film 44 = .ok (.sipush (-500), 3) := by decide +kernel
theorem dX10_film_47 : decode cX10_film 47 = .ok (.sipush 500, 3) := by decide +kernel
theorem dX10_film_50 : decode cX10_film 50 = .ok (.invokestatic 151, 3) := by decide +kernel
theorem dX10_film_53 : decode cX10_film 53 = .ok (.ifCond .eq 12, 3) := by decide +kernel
theorem dX10_film_56 : decode cX10_film 56 = .ok (.aload_n 0, 1) := by decide +kernel
theorem dX10_film_57 : decode cX10_film 57 = .ok (.getfield 384, 3) := by decide +kernel
theorem dX10_film_60 : decode cX10_film 60 = .ok (.bipush 20, 2) := by decide +kernel
theorem dX10_film_62 : decode cX10_film 62 = .ok (.if_icmp .ne 5, 3) := by decide +kernel
theorem dX10_film_65 : decode cX10_film 65 = .ok (.iconst (-1), 1) := by decide +kernel
theorem dX10_film_66 : decode cX10_film 66 = .ok (.ireturn, 1) := by decide +kernel
theorem dX10_film_67 : decode cX10_film 67 = .ok (.aload_n 0, 1) := by decide +kernel
theorem dX10_film_68 : decode cX10_film 68 = .ok (.getfield 120, 3) := by decide +kernel
theorem dX10_film_71 : decode cX10_film 71 = .ok (.aload_n 0, 1) := by decide +kernel
theorem dX10_film_72 : decode cX10_film 72 = .ok (.getfield 384, 3) := by decide +kernel
theorem dX10_film_75 : decode cX10_film 75 = .ok (.iload_n 1, 1) := by decide +kernel
theorem dX10_film_76 : decode cX10_film 76 = .ok (.iastore, 1) := by decide +kernel
theorem dX10_film_77 : decode cX10_film 77 = .ok (.aload_n 0, 1) := by decide +kernel
theorem dX10_film_78 : decode cX10_film 78 = .ok (.getfield 123, 3) := by decide +kernel
theorem dX10_film_81 : decode cX10_film 81 = .ok (.aload_n 0, 1) := by decide +kernel
theorem dX10_film_82 : decode cX10_film 82 = .ok (.getfield 384, 3) := by decide +kernel
theorem dX10_film_85 : decode cX10_film 85 = .ok (.iload_n 2, 1) := by decide +kernel
theorem dX10_film_86 : decode cX10_film 86 = .ok (.iastore, 1) := by decide +kernel
theorem dX10_film_87 : decode cX10_film 87 = .ok (.aload_n 0, 1) := by decide +kernel
theorem dX10_film_88 : decode cX10_film 88 = .ok (.getfield 126, 3) := by decide +kernel
theorem dX10_film_91 : decode cX10_film 91 = .ok (.aload_n 0, 1) := by decide +kernel
theorem dX10_film_92 : decode cX10_film 92 = .ok (.getfield 384, 3) := by decide +kernel
theorem dX10_film_95 : decode cX10_film 95 = .ok (.iload_n 3, 1) := by decide +kernel
theorem dX10_film_96 : decode cX10_film 96 = .ok (.iastore, 1) := by decide +kernel
theorem dX10_film_97 : decode cX10_film 97 = .ok (.aload_n 0, 1) := by decide +kernel
theorem dX10_film_98 : decode cX10_film 98 = .ok (.getfield 129, 3) := by decide +kernel
theorem dX10_film_101 : decode cX10_film 101 = .ok (.aload_n 0, 1) := by decide +kernel
theorem dX10_film_102 : decode cX10_film 102 = .ok (.getfield 384, 3) := by decide +kernel
theorem dX10_film_105 : decode cX10_film 105 = .ok (.iload 4, 2) := by decide +kernel
theorem dX10_film_107 : decode cX10_film 107 = .ok (.iastore, 1) := by decide +kernel
theorem dX10_film_108 : decode cX10_film 108 = .ok (.aload_n 0, 1) := by decide +kernel
theorem dX10_film_109 : decode cX10_film 109 = .ok (.dup, 1) := by decide +kernel
theorem dX10_film_110 : decode cX10_film 110 = .ok (.getfield 384, 3) := by decide +kernel
theorem dX10_film_113 : decode cX10_film 113 = .ok (.iconst 1, 1) := by decide +kernel
theorem dX10_film_114 : decode cX10_film 114 = .ok (.iadd, 1) := by decide +kernel
theorem dX10_film_115 : decode cX10_film 115 = .ok (.putfield 384, 3) := by decide +kernel
theorem dX10_film_118 : decode cX10_film 118 = .ok (.aload_n 0, 1) := by decide +kernel
theorem dX10_film_119 : decode cX10_film 119 = .ok (.getfield 384, 3) := by decide +kernel
theorem dX10_film_122 : decode cX10_film 122 = .ok (.ireturn, 1) := by decide +kernel
theorem dX10_fits_0 : decode cX10_fits 0 = .ok (.aload_n 0, 1) := by decide +kernel
theorem dX10_fits_1 : decode cX10_fits 1 = .ok (.iconst 0, 1) := by decide +kernel
theorem dX10_fits_2 : decode cX10_fits 2 = .ok (.putfield 142, 3) := by decide +kernel
theorem dX10_fits_5 : decode cX10_fits 5 = .ok (.aload_n 0, 1) := by decide +kernel
theorem dX10_fits_6 : decode cX10_fits 6 = .ok (.iload_n 1, 1) := by decide +kernel
theorem dX10_fits_7 : decode cX10_fits 7 = .ok (.invokevirtual 280, 3) := by decide +kernel
theorem dX10_fits_10 : decode cX10_fits 10 = .ok (.ifCond .eq 13, 3) := by decide +kernel
theorem dX10_fits_13 : decode cX10_fits 13 = .ok (.iload_n 2, 1) := by decide +kernel
theorem dX10_fits_14 : decode cX10_fits 14 = .ok (.iconst 0, 1) := by decide +kernel
theorem dX10_fits_15 : decode cX10_fits 15 = .ok (.bipush 99, 2) := by decide +kernel
theorem dX10_fits_17 : decode cX10_fits 17 = .ok (.invokestatic 151, 3) := by decide +kernel
theorem dX10_fits_20 : decode cX10_fits 20 = .ok (.ifCond .ne 5, 3) := by decide +kernel
theorem dX10_fits_23 : decode cX10_fits 23 = .ok (.iconst (-1), 1) := by decide +kernel
theorem dX10_fits_24 : decode cX10_fits 24 = .ok (.ireturn, 1) := by decide +kernel
theorem dX10_fits_25 : decode cX10_fits 25 = .ok (.iconst 0, 1) := by decide +kernel
theorem dX10_fits_26 : decode cX10_fits 26 = .ok (.istore_n 3, 1) := by decide +kernel
theorem dX10_fits_27 : decode cX10_fits 27 = .ok (.iconst 0, 1) := by decide +kernel
theorem dX10_fits_28 : decode cX10_fits 28 = .ok (.istore 4, 2) := by decide +kernel
theorem dX10_fits_30 : decode cX10_fits 30 = .ok (.iconst (-1), 1) := by decide +kernel
theorem dX10_fits_31 : decode cX10_fits 31 = .ok (.istore 5, 2) := by decide +kernel
theorem dX10_fits_33 : decode cX10_fits 33 = .ok (.iconst 0, 1) := by decide +kernel
theorem dX10_fits_34 : decode cX10_fits 34 = .ok (.istore 6, 2) := by decide +kernel
theorem dX10_fits_36 : decode cX10_fits 36 = .ok (.iconst 0, 1) := by decide +kernel
theorem dX10_fits_37 : decode cX10_fits 37 = .ok (.istore 7, 2) := by decide +kernel
theorem dX10_fits_39 : decode cX10_fits 39 = .ok (.iload 7, 2) := by decide +kernel
theorem dX10_fits_41 : decode cX10_fits 41 = .ok (.aload_n 0, 1) := by decide +kernel
theorem dX10_fits_42 : decode cX10_fits 42 = .ok (.getfield 384, 3) := by decide +kernel
theorem dX10_fits_45 : decode cX10_fits 45 = .ok (.if_icmp .ge 97, 3) := by decide +kernel
theorem dX10_fits_48 : decode cX10_fits 48 = .ok (.aload_n 0, 1) := by decide +kernel
theorem dX10_fits_49 : decode cX10_fits 49 = .ok (.iload_n 1, 1) := by decide +kernel
theorem dX10_fits_50 : decode cX10_fits 50 = .ok (.aload_n 0, 1) := by decide +kernel
theorem dX10_fits_51 : decode cX10_fits 51 = .ok (.getfield 120, 3) := by decide +kernel
theorem dX10_fits_54 : decode cX10_fits 54 = .ok (.iload 7, 2) := by decide +kernel
theorem dX10_fits_56 : decode cX10_fits 56 = .ok (.iaload, 1) := by decide +kernel
theorem dX10_fits_57 : decode cX10_fits 57 = .ok (.aload_n 0, 1) := by decide +kernel
theorem dX10_fits_58 : decode cX10_fits 58 = .ok (.getfield 123, 3) := by decide +kernel
theorem dX10_fits_61 : decode cX10_fits 61 = .ok (.iload 7, 2) := by decide +kernel
theorem dX10_fits_63 : decode cX10_fits 63 = .ok (.iaload, 1) := by decide +kernel
theorem dX10_fits_64 : decode cX10_fits 64 = .ok (.aload_n 0, 1) := by decide +kernel
theorem dX10_fits_65 : decode cX10_fits 65 = .ok (.getfield 126, 3) := by decide +kernel
theorem dX10_fits_68 : decode cX10_fits 68 = .ok (.iload 7, 2) := by decide +kernel
theorem dX10_fits_70 : decode cX10_fits 70 = .ok (.iaload, 1) := by decide +kernel
theorem dX10_fits_71 : decode cX10_fits 71 = .ok (.aload_n 0, 1) := by decide +kernel
theorem dX10_fits_72 : decode cX10_fits 72 = .ok (.getfield 16, 3) := by decide +kernel
theorem dX10_fits_75 : decode cX10_fits 75 = .ok (.invokevirtual 283, 3) := by decide +kernel
theorem dX10_fits_78 : decode cX10_fits 78 = .ok (.aload_n 0, 1) := by decide +kernel
theorem dX10_fits_79 : decode cX10_fits 79 = .ok (.getfield 129, 3) := by decide +kernel
theorem dX10_fits_82 : decode cX10_fits 82 = .ok (.iload 7, 2) := by decide +kernel
theorem dX10_fits_84 : decode cX10_fits 84 = .ok (.iaload, 1) := by decide +kernel
theorem dX10_fits_85 : decode cX10_fits 85 = .ok (.isub, 1) := by decide +kernel
theorem dX10_fits_86 : decode cX10_fits 86 = .ok (.invokestatic 248, 3) := by decide +kernel
theorem dX10_fits_89 : decode cX10_fits 89 = .ok (.istore 8, 2) := by decide +kernel
theorem dX10_fits_91 : decode cX10_fits 91 = .ok (.iload_n 3, 1) := by decide +kernel
theorem dX10_fits_92 : decode cX10_fits 92 = .ok (.iload 8, 2) := by decide +kernel
theorem dX10_fits_94 : decode cX10_fits 94 = .ok (.iload_n 2, 1) := by decide +kernel
theorem dX10_fits_95 : decode cX10_fits 95 = .ok (.if_icmp .gt 7, 3) := by decide +kernel
theorem dX10_fits_98 : decode cX10_fits 98 = .ok (.iconst 1, 1) := by decide +kernel
theorem dX10_fits_99 : decode cX10_fits 99 = .ok (.goto 4, 3) := by decide +kernel
theorem dX10_fits_102 : decode cX10_fits 102 = .ok (.iconst 0, 1) := by decide +kernel
theorem dX10_fits_103 : decode cX10_fits 103 = .ok (.iadd, 1) := by decide +kernel
theorem dX10_fits_104 : decode cX10_fits 104 = .ok (.istore_n 3, 1) := by decide +kernel
theorem dX10_fits_105 : decode cX10_fits 105 = .ok (.iload 4, 2) := by decide +kernel
theorem dX10_fits_107 : decode cX10_fits 107 = .ok (.iload 8, 2) := by decide +kernel
theorem dX10_fits_109 : decode cX10_fits 109 = .ok (.iadd, 1) := by decide +kernel
theorem dX10_fits_110 : decode cX10_fits 110 = .ok (.istore 4, 2) := by decide +kernel
theorem dX10_fits_112 : decode cX10_fits 112 = .ok (.iload 5, 2) := by decide +kernel
theorem dX10_fits_114 : decode cX10_fits 114 = .ok (.iconst (-1), 1) := by decide +kernel
theorem dX10_fits_115 : decode cX10_fits 115 = .ok (.if_icmp .eq 13, 3) := by decide +kernel
theorem dX10_fits_118 : decode cX10_fits 118 = .ok (.iload 8, 2) := by decide +kernel
theorem dX10_fits_120 : decode cX10_fits 120 = .ok (.iload 6, 2) := by decide +kernel
theorem dX10_fits_122 : decode cX10_fits 122 = .ok (.if_icmp .gt 6, 3) := by decide +kernel
theorem dX10_fits_125 : decode cX10_fits 125 = .ok (.goto 11, 3) := by decide +kernel
theorem dX10_fits_128 : decode cX10_fits 128 = .ok (.iload 7, 2) := by decide +kernel
theorem dX10_fits_130 : decode cX10_fits 130 = .ok (.istore 5, 2) := by decide +kernel
theorem dX10_fits_132 : decode cX10_fits 132 = .ok (.iload 8, 2) := by decide +kernel
theorem dX10_fits_134 : decode cX10_fits 134 = .ok (.istore 6, 2) := by decide +kernel
theorem dX10_fits_136 : decode cX10_fits 136 = .ok (.iinc 7 1, 3) := by decide +kernel
theorem dX10_fits_139 : decode cX10_fits 139 = .ok (.goto (-100), 3) := by decide +kernel
theorem dX10_fits_142 : decode cX10_fits 142 = .ok (.aload_n 0, 1) := by decide +kernel
theorem dX10_fits_143 : decode cX10_fits 143 = .ok (.iconst 0, 1) := by decide +kernel
theorem dX10_fits_144 : decode cX10_fits 144 = .ok (.putfield 145, 3) := by decide +kernel
theorem dX10_fits_147 : decode cX10_fits 147 = .ok (.aload_n 0, 1) := by decide +kernel
theorem dX10_fits_148 : decode cX10_fits 148 = .ok (.iload 4, 2) := by decide +kernel
theorem dX10_fits_150 : decode cX10_fits 150 = .ok (.i2l, 1) := by decide +kernel
theorem dX10_fits_151 : decode cX10_fits 151 = .ok (.invokevirtual 252, 3) := by decide +kernel
theorem dX10_fits_154 : decode cX10_fits 154 = .ok (.aload_n 0, 1) := by decide +kernel
theorem dX10_fits_155 : decode cX10_fits 155 = .ok (.iload 5, 2) := by decide +kernel
theorem dX10_fits_157 : decode cX10_fits 157 = .ok (.i2l, 1) := by decide +kernel
theorem dX10_fits_158 : decode cX10_fits 158 = .ok (.invokevirtual 252, 3) := by decide +kernel
theorem dX10_fits_161 : decode cX10_fits 161 = .ok (.iload_n 3, 1) := by decide +kernel
theorem dX10_fits_162 : decode cX10_fits 162 = .ok (.ireturn, 1) := by decide +kernel
theorem dX10_reads_0 : decode cX10_reads 0 = .ok (.aload_n 0, 1) := by decide +kernel
theorem dX10_reads_1 : decode cX10_reads 1 = .ok (.iconst 0, 1) := by decide +kernel
theorem dX10_reads_2 : decode cX10_reads 2 = .ok (.putfield 142, 3) := by decide +kernel
theorem dX10_reads_5 : decode cX10_reads 5 = .ok (.aload_n 0, 1) := by decide +kernel
theorem dX10_reads_6 : decode cX10_reads 6 = .ok (.getfield 384, 3) := by decide +kernel
theorem dX10_reads_9 : decode cX10_reads 9 = .ok (.ifCond .ne 5, 3) := by decide +kernel
theorem dX10_reads_12 : decode cX10_reads 12 = .ok (.iconst (-1), 1) := by decide +kernel
theorem dX10_reads_13 : decode cX10_reads 13 = .ok (.ireturn, 1) := by decide +kernel
theorem dX10_reads_14 : decode cX10_reads 14 = .ok (.iconst (-1), 1) := by decide +kernel
theorem dX10_reads_15 : decode cX10_reads 15 = .ok (.istore_n 1, 1) := by decide +kernel
theorem dX10_reads_16 : decode cX10_reads 16 = .ok (.iconst 0, 1) := by decide +kernel
theorem dX10_reads_17 : decode cX10_reads 17 = .ok (.istore_n 2, 1) := by decide +kernel
theorem dX10_reads_18 : decode cX10_reads 18 = .ok (.iconst 0, 1) := by decide +kernel
theorem dX10_reads_19 : decode cX10_reads 19 = .ok (.istore_n 3, 1) := by decide +kernel
theorem dX10_reads_20 : decode cX10_reads 20 = .ok (.iconst 0, 1) := by decide +kernel
theorem dX10_reads_21 : decode cX10_reads 21 = .ok (.istore 4, 2) := by decide +kernel
theorem dX10_reads_23 : decode cX10_reads 23 = .ok (.iload 4, 2) := by decide +kernel
theorem dX10_reads_25 : decode cX10_reads 25 = .ok (.bipush 20, 2) := by decide +kernel
theorem dX10_reads_27 : decode cX10_reads 27 = .ok (.if_icmp .gt 115, 3) := by decide +kernel
theorem dX10_reads_30 : decode cX10_reads 30 = .ok (.iconst 0, 1) := by decide +kernel
theorem dX10_reads_31 : decode cX10_reads 31 = .ok (.istore 5, 2) := by decide +kernel
theorem dX10_reads_33 : decode cX10_reads 33 = .ok (.iload 5, 2) := by decide +kernel
theorem dX10_reads_35 : decode cX10_reads 35 = .ok (.bipush 20, 2) := by decide +kernel
theorem dX10_reads_37 : decode cX10_reads 37 = .ok (.if_icmp .gt 99, 3) := by decide +kernel
theorem dX10_reads_40 : decode cX10_reads 40 = .ok (.iconst 0, 1) := by decide +kernel
theorem dX10_reads_41 : decode cX10_reads 41 = .ok (.istore 6, 2) := by decide +kernel
theorem dX10_reads_43 : decode cX10_reads 43 = .ok (.iconst 0, 1) := by decide +kernel
theorem dX10_reads_44 : decode cX10_reads 44 = .ok (.istore 7, 2) := by decide +kernel
theorem dX10_reads_46 : decode cX10_reads 46 = .ok (.iload 7, 2) := by decide +kernel
theorem dX10_reads_48 : decode cX10_reads 48 = .ok (.aload_n 0, 1) := by decide +kernel
theorem dX10_reads_49 : decode cX10_reads 49 = .ok (.getfield 384, 3) := by decide +kernel
theorem dX10_reads_52 : decode cX10_reads 52 = .ok (.if_icmp .ge 55, 3) := by decide +kernel
theorem dX10_reads_55 : decode cX10_reads 55 = .ok (.iload 6, 2) := by decide +kernel
theorem dX10_reads_57 : decode cX10_reads 57 = .ok (.aload_n 0, 1) := by decide +kernel
theorem dX10_reads_58 : decode cX10_reads 58 = .ok (.getfield 120, 3) := by decide +kernel
theorem dX10_reads_61 : decode cX10_reads 61 = .ok (.iload 7, 2) := by decide +kernel
theorem dX10_reads_63 : decode cX10_reads 63 = .ok (.iaload, 1) := by decide +kernel
theorem dX10_reads_64 : decode cX10_reads 64 = .ok (.iload 4, 2) := by decide +kernel
theorem dX10_reads_66 : decode cX10_reads 66 = .ok (.imul, 1) := by decide +kernel
theorem dX10_reads_67 : decode cX10_reads 67 = .ok (.bipush 10, 2) := by decide +kernel
theorem dX10_reads_69 : decode cX10_reads 69 = .ok (.idiv, 1) := by decide +kernel
theorem dX10_reads_70 : decode cX10_reads 70 = .ok (.aload_n 0, 1) := by decide +kernel
theorem dX10_reads_71 : decode cX10_reads 71 = .ok (.getfield 123, 3) := by decide +kernel
theorem dX10_reads_74 : decode cX10_reads 74 = .ok (.iload 7, 2) := by decide +kernel
theorem dX10_reads_76 : decode cX10_reads 76 = .ok (.iaload, 1) := by decide +kernel
theorem dX10_reads_77 : decode cX10_reads 77 = .ok (.iload 5, 2) := by decide +kernel
theorem dX10_reads_79 : decode cX10_reads 79 = .ok (.imul, 1) := by decide +kernel
theorem dX10_reads_80 : decode cX10_reads 80 = .ok (.bipush 10, 2) := by decide +kernel
theorem dX10_reads_82 : decode cX10_reads 82 = .ok (.idiv, 1) := by decide +kernel
theorem dX10_reads_83 : decode cX10_reads 83 = .ok (.isub, 1) := by decide +kernel
theorem dX10_reads_84 : decode cX10_reads 84 = .ok (.invokestatic 277, 3) := by decide +kernel
theorem dX10_reads_87 : decode cX10_reads 87 = .ok (.aload_n 0, 1) := by decide +kernel
theorem dX10_reads_88 : decode cX10_reads 88 = .ok (.getfield 129, 3) := by decide +kernel
theorem dX10_reads_91 : decode cX10_reads 91 = .ok (.iload 7, 2) := by decide +kernel
theorem dX10_reads_93 : decode cX10_reads 93 = .ok (.iaload, 1) := by decide +kernel
theorem dX10_reads_94 : decode cX10_reads 94 = .ok (.isub, 1) := by decide +kernel
theorem dX10_reads_95 : decode cX10_reads 95 = .ok (.invokestatic 248, 3) := by decide +kernel
theorem dX10_reads_98 : decode cX10_reads 98 = .ok (.iadd, 1) := by decide +kernel
theorem dX10_reads_99 : decode cX10_reads 99 = .ok (.istore 6, 2) := by decide +kernel
theorem dX10_reads_101 : decode cX10_reads 101 = .ok (.iinc 7 1, 3) := by decide +kernel
theorem dX10_reads_104 : decode cX10_reads 104 = .ok (.goto (-58), 3) := by decide +kernel
theorem dX10_reads_107 : decode cX10_reads 107 = .ok (.iload_n 1, 1) := by decide +kernel
theorem dX10_reads_108 : decode cX10_reads 108 = .ok (.iconst (-1), 1) := by decide +kernel
theorem dX10_reads_109 : decode cX10_reads 109 = .ok (.if_icmp .eq 12, 3) := by decide +kernel
theorem dX10_reads_112 : decode cX10_reads 112 = .ok (.iload 6, 2) := by decide +kernel
theorem dX10_reads_114 : decode cX10_reads 114 = .ok (.iload_n 3, 1) := by decide +kernel
theorem dX10_reads_115 : decode cX10_reads 115 = .ok (.if_icmp .lt 6, 3) := by decide +kernel
theorem dX10_reads_118 : decode cX10_reads 118 = .ok (.goto 12, 3) := by decide +kernel
theorem dX10_reads_121 : decode cX10_reads 121 = .ok (.iload 4, 2) := by decide +kernel
theorem dX10_reads_123 : decode cX10_reads 123 = .ok (.istore_n 1, 1) := by decide +kernel
theorem dX10_reads_124 : decode cX10_reads 124 = .ok (.iload 5, 2) := by decide +kernel
theorem dX10_reads_126 : decode cX10_reads 126 = .ok (.istore_n 2, 1) := by decide +kernel
theorem dX10_reads_127 : decode cX10_reads 127 = .ok (.iload 6, 2) := by decide +kernel
theorem dX10_reads_129 : decode cX10_reads 129 = .ok (.istore_n 3, 1) := by decide +kernel
theorem dX10_reads_130 : decode cX10_reads 130 = .ok (.iinc 5 1, 3) := by decide +kernel
theorem dX10_reads_133 : decode cX10_reads 133 = .ok (.goto (-100), 3) := by decide +kernel
theorem dX10_reads_136 : decode cX10_reads 136 = .ok (.iinc 4 1, 3) := by decide +kernel
theorem dX10_reads_139 : decode cX10_reads 139 = .ok (.goto (-116), 3) := by decide +kernel
theorem dX10_reads_142 : decode cX10_reads 142 = .ok (.aload_n 0, 1) := by decide +kernel
theorem dX10_reads_143 : decode cX10_reads 143 = .ok (.iconst 0, 1) := by decide +kernel
theorem dX10_reads_144 : decode cX10_reads 144 = .ok (.putfield 145, 3) := by decide +kernel
theorem dX10_reads_147 : decode cX10_reads 147 = .ok (.aload_n 0, 1) := by decide +kernel
theorem dX10_reads_148 : decode cX10_reads 148 = .ok (.iload_n 1, 1) := by decide +kernel
theorem dX10_reads_149 : decode cX10_reads 149 = .ok (.i2l, 1) := by decide +kernel
theorem dX10_reads_150 : decode cX10_reads 150 = .ok (.invokevirtual 252, 3) := by decide +kernel
theorem dX10_reads_153 : decode cX10_reads 153 = .ok (.aload_n 0, 1) := by decide +kernel
theorem dX10_reads_154 : decode cX10_reads 154 = .ok (.iload_n 2, 1) := by decide +kernel
theorem dX10_reads_155 : decode cX10_reads 155 = .ok (.i2l, 1) := by decide +kernel
theorem dX10_reads_156 : decode cX10_reads 156 = .ok (.invokevirtual 252, 3) := by decide +kernel
theorem dX10_reads_159 : decode cX10_reads 159 = .ok (.aload_n 0, 1) := by decide +kernel
theorem dX10_reads_160 : decode cX10_reads 160 = .ok (.iload_n 3, 1) := by decide +kernel
theorem dX10_reads_161 : decode cX10_reads 161 = .ok (.i2l, 1) := by decide +kernel
theorem dX10_reads_162 : decode cX10_reads 162 = .ok (.invokevirtual 252, 3) := by decide +kernel
theorem dX10_reads_165 : decode cX10_reads 165 = .ok (.iconst 0, 1) := by decide +kernel
theorem dX10_reads_166 : decode cX10_reads 166 = .ok (.ireturn, 1) := by decide +kernel
theorem dX10_seed_0 : decode cX10_seed 0 = .ok (.aload_n 0, 1) := by decide +kernel
theorem dX10_seed_1 : decode cX10_seed 1 = .ok (.iconst 0, 1) := by decide +kernel
theorem dX10_seed_2 : decode cX10_seed 2 = .ok (.putfield 142, 3) := by decide +kernel
theorem dX10_seed_5 : decode cX10_seed 5 = .ok (.aload_n 0, 1) := by decide +kernel
theorem dX10_seed_6 : decode cX10_seed 6 = .ok (.getfield 38, 3) := by decide +kernel
theorem dX10_seed_9 : decode cX10_seed 9 = .ok (.istore_n 2, 1) := by decide +kernel
theorem dX10_seed_10 : decode cX10_seed 10 = .ok (.aload_n 0, 1) := by decide +kernel
theorem dX10_seed_11 : decode cX10_seed 11 = .ok (.iload_n 1, 1) := by decide +kernel
theorem dX10_seed_12 : decode cX10_seed 12 = .ok (.putfield 38, 3) := by decide +kernel
theorem dX10_seed_15 : decode cX10_seed 15 = .ok (.iload_n 2, 1) := by decide +kernel
theorem dX10_seed_16 : decode cX10_seed 16 = .ok (.ireturn, 1) := by decide +kernel
theorem dX10_keep_0 : decode cX10_keep 0 = .ok (.aload_n 0, 1) := by decide +kernel
theorem dX10_keep_1 : decode cX10_keep 1 = .ok (.iconst 0, 1) := by decide +kernel
theorem dX10_keep_2 : decode cX10_keep 2 = .ok (.putfield 142, 3) := by decide +kernel
theorem dX10_keep_5 : decode cX10_keep 5 = .ok (.iload_n 1, 1) := by decide +kernel
theorem dX10_keep_6 : decode cX10_keep 6 = .ok (.iconst 0, 1) := by decide +kernel
theorem dX10_keep_7 : decode cX10_keep 7 = .ok (.iconst 2, 1) := by decide +kernel
theorem dX10_keep_8 : decode cX10_keep 8 = .ok (.invokestatic 151, 3) := by decide +kernel
theorem dX10_keep_11 : decode cX10_keep 11 = .ok (.ifCond .ne 5, 3) := by decide +kernel
theorem dX10_keep_14 : decode cX10_keep 14 = .ok (.iconst 0, 1) := by decide +kernel
theorem dX10_keep_15 : decode cX10_keep 15 = .ok (.ireturn, 1) := by decide +kernel
theorem dX10_keep_16 : decode cX10_keep 16 = .ok (.aload_n 0, 1) := by decide +kernel
theorem dX10_keep_17 : decode cX10_keep 17 = .ok (.getfield 132, 3) := by decide +kernel
theorem dX10_keep_20 : decode cX10_keep 20 = .ok (.iload_n 1, 1) := by decide +kernel
theorem dX10_keep_21 : decode cX10_keep 21 = .ok (.iconst 1, 1) := by decide +kernel
theorem dX10_keep_22 : decode cX10_keep 22 = .ok (.bastore, 1) := by decide +kernel
theorem dX10_keep_23 : decode cX10_keep 23 = .ok (.aload_n 0, 1) := by decide +kernel
theorem dX10_keep_24 : decode cX10_keep 24 = .ok (.getfield 136, 3) := by decide +kernel
theorem dX10_keep_27 : decode cX10_keep 27 = .ok (.iload_n 1, 1) := by decide +kernel
theorem dX10_keep_28 : decode cX10_keep 28 = .ok (.aload_n 0, 1) := by decide +kernel
theorem dX10_keep_29 : decode cX10_keep 29 = .ok (.getfield 155, 3) := by decide +kernel
theorem dX10_keep_32 : decode cX10_keep 32 = .ok (.iastore, 1) := by decide +kernel
theorem dX10_keep_33 : decode cX10_keep 33 = .ok (.aload_n 0, 1) := by decide +kernel
theorem dX10_keep_34 : decode cX10_keep 34 = .ok (.iload_n 1, 1) := by decide +kernel
theorem dX10_keep_35 : decode cX10_keep 35 = .ok (.invokevirtual 326, 3) := by decide +kernel
theorem dX10_keep_38 : decode cX10_keep 38 = .ok (.iconst 1, 1) := by decide +kernel
theorem dX10_keep_39 : decode cX10_keep 39 = .ok (.ireturn, 1) := by decide +kernel
theorem dX10_again_0 : decode cX10_again 0 = .ok (.aload_n 0, 1) := by decide +kernel
theorem dX10_again_1 : decode cX10_again 1 = .ok (.iconst 0, 1) := by decide +kernel
theorem dX10_again_2 : decode cX10_again 2 = .ok (.putfield 142, 3) := by decide +kernel
theorem dX10_again_5 : decode cX10_again 5 = .ok (.iload_n 1, 1) := by decide +kernel
theorem dX10_again_6 : decode cX10_again 6 = .ok (.iconst 0, 1) := by decide +kernel
theorem dX10_again_7 : decode cX10_again 7 = .ok (.iconst 2, 1) := by decide +kernel
theorem dX10_again_8 : decode cX10_again 8 = .ok (.invokestatic 151, 3) := by decide +kernel
theorem dX10_again_11 : decode cX10_again 11 = .ok (.ifCond .eq 25, 3) := by decide +kernel
theorem dX10_again_14 : decode cX10_again 14 = .ok (.aload_n 0, 1) := by decide +kernel
theorem dX10_again_15 : decode cX10_again 15 = .ok (.getfield 132, 3) := by decide +kernel
theorem dX10_again_18 : decode cX10_again 18 = .ok (.iload_n 1, 1) := by decide +kernel
theorem dX10_again_19 : decode cX10_again 19 = .ok (.baload, 1) := by decide +kernel
theorem dX10_again_20 : decode cX10_again 20 = .ok (.ifCond .eq 16, 3) := by decide +kernel
theorem dX10_again_23 : decode cX10_again 23 = .ok (.aload_n 0, 1) := by decide +kernel
theorem dX10_again_24 : decode cX10_again 24 = .ok (.getfield 136, 3) := by decide +kernel
theorem dX10_again_27 : decode cX10_again 27 = .ok (.iload_n 1, 1) := by decide +kernel
theorem dX10_again_28 : decode cX10_again 28 = .ok (.iaload, 1) := by decide +kernel
theorem dX10_again_29 : decode cX10_again 29 = .ok (.aload_n 0, 1) := by decide +kernel
theorem dX10_again_30 : decode cX10_again 30 = .ok (.getfield 155, 3) := by decide +kernel
theorem dX10_again_33 : decode cX10_again 33 = .ok (.if_icmp .eq 5, 3) := by decide +kernel
theorem dX10_again_36 : decode cX10_again 36 = .ok (.iconst 0, 1) := by decide +kernel
theorem dX10_again_37 : decode cX10_again 37 = .ok (.ireturn, 1) := by decide +kernel
theorem dX10_again_38 : decode cX10_again 38 = .ok (.aload_n 0, 1) := by decide +kernel
theorem dX10_again_39 : decode cX10_again 39 = .ok (.iload_n 1, 1) := by decide +kernel
theorem dX10_again_40 : decode cX10_again 40 = .ok (.invokevirtual 329, 3) := by decide +kernel
theorem dX10_again_43 : decode cX10_again 43 = .ok (.iconst 1, 1) := by decide +kernel
theorem dX10_again_44 : decode cX10_again 44 = .ok (.ireturn, 1) := by decide +kernel
theorem dX10_count_0 : decode cX10_count 0 = .ok (.aload_n 0, 1) := by decide +kernel
theorem dX10_count_1 : decode cX10_count 1 = .ok (.iconst 0, 1) := by decide +kernel
theorem dX10_count_2 : decode cX10_count 2 = .ok (.putfield 142, 3) := by decide +kernel
theorem dX10_count_5 : decode cX10_count 5 = .ok (.iconst 0, 1) := by decide +kernel
theorem dX10_count_6 : decode cX10_count 6 = .ok (.istore_n 2, 1) := by decide +kernel
theorem dX10_count_7 : decode cX10_count 7 = .ok (.iload_n 1, 1) := by decide +kernel
theorem dX10_count_8 : decode cX10_count 8 = .ok (.tableswitch 169 0 9 #[56, 61, 66, 71, 76, 110, 115, 120, 125, 130], 56) := by decide +kernel
theorem dX10_count_64 : decode cX10_count 64 = .ok (.aload_n 0, 1) := by decide +kernel
theorem dX10_count_65 : decode cX10_count 65 = .ok (.getfield 9, 3) := by decide +kernel
theorem dX10_count_68 : decode cX10_count 68 = .ok (.ireturn, 1) := by decide +kernel
theorem dX10_count_69 : decode cX10_count 69 = .ok (.aload_n 0, 1) := by decide +kernel
theorem dX10_count_70 : decode cX10_count 70 = .ok (.getfield 13, 3) := by decide +kernel
theorem dX10_count_73 : decode cX10_count 73 = .ok (.ireturn, 1) := by decide +kernel
theorem dX10_count_74 : decode cX10_count 74 = .ok (.aload_n 0, 1) := by decide +kernel
theorem dX10_count_75 : decode cX10_count 75 = .ok (.getfield 16, 3) := by decide +kernel
theorem dX10_count_78 : decode cX10_count 78 = .ok (.ireturn, 1) := by decide +kernel
theorem dX10_count_79 : decode cX10_count 79 = .ok (.aload_n 0, 1) := by decide +kernel
theorem dX10_count_80 : decode cX10_count 80 = .ok (.getfield 148, 3) := by decide +kernel
theorem dX10_count_83 : decode cX10_count 83 = .ok (.ireturn, 1) := by decide +kernel
theorem dX10_count_84 : decode cX10_count 84 = .ok (.iconst 0, 1) := by decide +kernel
theorem dX10_count_85 : decode cX10_count 85 = .ok (.istore_n 3, 1) := by decide +kernel
theorem dX10_count_86 : decode cX10_count 86 = .ok (.iload_n 3, 1) := by decide +kernel
theorem dX10_count_87 : decode cX10_count 87 = .ok (.iconst 3, 1) := by decide +kernel
theorem dX10_count_88 : decode cX10_count 88 = .ok (.if_icmp .ge 28, 3) := by decide +kernel
theorem dX10_count_91 : decode cX10_count 91 = .ok (.iload_n 2, 1) := by decide +kernel
theorem dX10_count_92 : decode cX10_count 92 = .ok (.aload_n 0, 1) := by decide +kernel
theorem dX10_count_93 : decode cX10_count 93 = .ok (.getfield 84, 3) := by decide +kernel
theorem dX10_count_96 : decode cX10_count 96 = .ok (.iload_n 3, 1) := by decide +kernel
theorem dX10_count_97 : decode cX10_count 97 = .ok (.iaload, 1) := by decide +kernel
theorem dX10_count_98 : decode cX10_count 98 = .ok (.ifCond .le 9, 3) := by decide +kernel
theorem dX10_count_101 : decode cX10_count 101 = .ok (.iconst 1, 1) := by decide +kernel
theorem dX10_count_102 : decode cX10_count 102 = .ok (.iload_n 3, 1) := by decide +kernel
theorem dX10_count_103 : decode cX10_count 103 = .ok (.ishl, 1) := by decide +kernel
theorem dX10_count_104 : decode cX10_count 104 = .ok (.goto 4, 3) := by decide +kernel
theorem dX10_count_107 : decode cX10_count 107 = .ok (.iconst 0, 1) := by decide +kernel
theorem dX10_count_108 : decode cX10_count 108 = .ok (.ior, 1) := by decide +kernel
theorem dX10_count_109 : decode cX10_count 109 = .ok (.istore_n 2, 1) := by decide +kernel
theorem dX10_count_110 : decode cX10_count 110 = .ok (.iinc 3 1, 3) := by decide +kernel
theorem dX10_count_113 : decode cX10_count 113 = .ok (.goto (-27), 3) := by decide +kernel
theorem dX10_count_116 : decode cX10_count 116 = .ok (.iload_n 2, 1) := by decide +kernel
theorem dX10_count_117 : decode cX10_count 117 = .ok (.ireturn, 1) := by decide +kernel
theorem dX10_count_118 : decode cX10_count 118 = .ok (.aload_n 0, 1) := by decide +kernel
theorem dX10_count_119 : decode cX10_count 119 = .ok (.getfield 378, 3) := by decide +kernel
theorem dX10_count_122 : decode cX10_count 122 = .ok (.ireturn, 1) := by decide +kernel
theorem dX10_count_123 : decode cX10_count 123 = .ok (.aload_n 0, 1) := by decide +kernel
theorem dX10_count_124 : decode cX10_count 124 = .ok (.getfield 384, 3) := by decide +kernel
theorem dX10_count_127 : decode cX10_count 127 = .ok (.ireturn, 1) := by decide +kernel
theorem dX10_count_128 : decode cX10_count 128 = .ok (.aload_n 0, 1) := by decide +kernel
theorem dX10_count_129 : decode cX10_count 129 = .ok (.getfield 145, 3) := by decide +kernel
theorem dX10_count_132 : decode cX10_count 132 = .ok (.ireturn, 1) := by decide +kernel
theorem dX10_count_133 : decode cX10_count 133 = .ok (.aload_n 0, 1) := by decide +kernel
theorem dX10_count_134 : decode cX10_count 134 = .ok (.getfield 191, 3) := by decide +kernel
theorem dX10_count_137 : decode cX10_count 137 = .ok (.ireturn, 1) := by decide +kernel
theorem dX10_count_138 : decode cX10_count 138 = .ok (.iconst 0, 1) := by decide +kernel
theorem dX10_count_139 : decode cX10_count 139 = .ok (.istore_n 3, 1) := by decide +kernel
theorem dX10_count_140 : decode cX10_count 140 = .ok (.iload_n 3, 1) := by decide +kernel
theorem dX10_count_141 : decode cX10_count 141 = .ok (.aload_n 0, 1) := by decide +kernel
theorem dX10_count_142 : decode cX10_count 142 = .ok (.getfield 9, 3) := by decide +kernel
theorem dX10_count_145 : decode cX10_count 145 = .ok (.iconst 1, 1) := by decide +kernel
theorem dX10_count_146 : decode cX10_count 146 = .ok (.isub, 1) := by decide +kernel
theorem dX10_count_147 : decode cX10_count 147 = .ok (.if_icmp .ge 28, 3) := by decide +kernel
theorem dX10_count_150 : decode cX10_count 150 = .ok (.iload_n 2, 1) := by decide +kernel
theorem dX10_count_151 : decode cX10_count 151 = .ok (.aload_n 0, 1) := by decide +kernel
theorem dX10_count_152 : decode cX10_count 152 = .ok (.getfield 23, 3) := by decide +kernel
theorem dX10_count_155 : decode cX10_count 155 = .ok (.iload_n 3, 1) := by decide +kernel
theorem dX10_count_156 : decode cX10_count 156 = .ok (.iaload, 1) := by decide +kernel
theorem dX10_count_157 : decode cX10_count 157 = .ok (.bipush 100, 2) := by decide +kernel
theorem dX10_count_159 : decode cX10_count 159 = .ok (.if_icmp .ge 7, 3) := by decide +kernel
theorem dX10_count_162 : decode cX10_count 162 = .ok (.iconst 1, 1) := by decide +kernel
theorem dX10_count_163 : decode cX10_count 163 = .ok (.goto 4, 3) := by decide +kernel
theorem dX10_count_166 : decode cX10_count 166 = .ok (.iconst 0, 1) := by decide +kernel
theorem dX10_count_167 : decode cX10_count 167 = .ok (.iadd, 1) := by decide +kernel
theorem dX10_count_168 : decode cX10_count 168 = .ok (.istore_n 2, 1) := by decide +kernel
theorem dX10_count_169 : decode cX10_count 169 = .ok (.iinc 3 1, 3) := by decide +kernel
theorem dX10_count_172 : decode cX10_count 172 = .ok (.goto (-32), 3) := by decide +kernel
theorem dX10_count_175 : decode cX10_count 175 = .ok (.iload_n 2, 1) := by decide +kernel
theorem dX10_count_176 : decode cX10_count 176 = .ok (.ireturn, 1) := by decide +kernel
theorem dX10_count_177 : decode cX10_count 177 = .ok (.iconst (-1), 1) := by decide +kernel
theorem dX10_count_178 : decode cX10_count 178 = .ok (.ireturn, 1) := by decide +kernel
theorem dX10_row_0 : decode cX10_row 0 = .ok (.aload_n 0, 1) := by decide +kernel
theorem dX10_row_1 : decode cX10_row 1 = .ok (.iconst 0, 1) := by decide +kernel
theorem dX10_row_2 : decode cX10_row 2 = .ok (.putfield 142, 3) := by decide +kernel
theorem dX10_row_5 : decode cX10_row 5 = .ok (.iload_n 1, 1) := by decide +kernel
theorem dX10_row_6 : decode cX10_row 6 = .ok (.iconst 0, 1) := by decide +kernel
theorem dX10_row_7 : decode cX10_row 7 = .ok (.aload_n 0, 1) := by decide +kernel
theorem dX10_row_8 : decode cX10_row 8 = .ok (.getfield 145, 3) := by decide +kernel
theorem dX10_row_11 : decode cX10_row 11 = .ok (.iconst 1, 1) := by decide +kernel
theorem dX10_row_12 : decode cX10_row 12 = .ok (.isub, 1) := by decide +kernel
theorem dX10_row_13 : decode cX10_row 13 = .ok (.invokestatic 151, 3) := by decide +kernel
theorem dX10_row_16 : decode cX10_row 16 = .ok (.ifCond .eq 12, 3) := by decide +kernel
theorem dX10_row_19 : decode cX10_row 19 = .ok (.aload_n 0, 1) := by decide +kernel
theorem dX10_row_20 : decode cX10_row 20 = .ok (.getfield 45, 3) := by decide +kernel
theorem dX10_row_23 : decode cX10_row 23 = .ok (.iload_n 1, 1) := by decide +kernel
theorem dX10_row_24 : decode cX10_row 24 = .ok (.laload, 1) := by decide +kernel
theorem dX10_row_25 : decode cX10_row 25 = .ok (.goto 8, 3) := by decide +kernel
theorem dX10_row_28 : decode cX10_row 28 = .ok (.aload_n 0, 1) := by decide +kernel
theorem dX10_row_29 : decode cX10_row 29 = .ok (.invokevirtual 188, 3) := by decide +kernel
theorem dX10_row_32 : decode cX10_row 32 = .ok (.i2l, 1) := by decide +kernel
theorem dX10_row_33 : decode cX10_row 33 = .ok (.lreturn, 1) := by decide +kernel
