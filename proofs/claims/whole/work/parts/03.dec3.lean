theorem dX12_init_0 : decode cX12_init 0 = .ok (.aload_n 0, 1) := by decide +kernel
theorem dX12_init_1 : decode cX12_init 1 = .ok (.invokespecial 1, 3) := by decide +kernel
theorem dX12_init_4 : decode cX12_init 4 = .ok (.aload_n 0, 1) := by decide +kernel
theorem dX12_init_5 : decode cX12_init 5 = .ok (.sipush 1000, 3) := by decide +kernel
theorem dX12_init_8 : decode cX12_init 8 = .ok (.newarray .int, 2) := by decide +kernel
theorem dX12_init_10 : decode cX12_init 10 = .ok (.putfield 7, 3) := by decide +kernel
theorem dX12_init_13 : decode cX12_init 13 = .ok (.aload_n 0, 1) := by decide +kernel
theorem dX12_init_14 : decode cX12_init 14 = .ok (.sipush 3816, 3) := by decide +kernel
theorem dX12_init_17 : decode cX12_init 17 = .ok (.newarray .int, 2) := by decide +kernel
theorem dX12_init_19 : decode cX12_init 19 = .ok (.putfield 13, 3) := by decide +kernel
theorem dX12_init_22 : decode cX12_init 22 = .ok (.aload_n 0, 1) := by decide +kernel
theorem dX12_init_23 : decode cX12_init 23 = .ok (.sipush 3816, 3) := by decide +kernel
theorem dX12_init_26 : decode cX12_init 26 = .ok (.newarray .int, 2) := by decide +kernel
theorem dX12_init_28 : decode cX12_init 28 = .ok (.putfield 16, 3) := by decide +kernel
theorem dX12_init_31 : decode cX12_init 31 = .ok (.aload_n 0, 1) := by decide +kernel
theorem dX12_init_32 : decode cX12_init 32 = .ok (.bipush 84, 2) := by decide +kernel
theorem dX12_init_34 : decode cX12_init 34 = .ok (.newarray .long, 2) := by decide +kernel
theorem dX12_init_36 : decode cX12_init 36 = .ok (.putfield 19, 3) := by decide +kernel
theorem dX12_init_39 : decode cX12_init 39 = .ok (.aload_n 0, 1) := by decide +kernel
theorem dX12_init_40 : decode cX12_init 40 = .ok (.bipush 84, 2) := by decide +kernel
theorem dX12_init_42 : decode cX12_init 42 = .ok (.newarray .long, 2) := by decide +kernel
theorem dX12_init_44 : decode cX12_init 44 = .ok (.putfield 23, 3) := by decide +kernel
theorem dX12_init_47 : decode cX12_init 47 = .ok (.aload_n 0, 1) := by decide +kernel
theorem dX12_init_48 : decode cX12_init 48 = .ok (.iconst (-1), 1) := by decide +kernel
theorem dX12_init_49 : decode cX12_init 49 = .ok (.putfield 26, 3) := by decide +kernel
theorem dX12_init_52 : decode cX12_init 52 = .ok (.aload_n 0, 1) := by decide +kernel
theorem dX12_init_53 : decode cX12_init 53 = .ok (.iconst (-1), 1) := by decide +kernel
theorem dX12_init_54 : decode cX12_init 54 = .ok (.putfield 30, 3) := by decide +kernel
theorem dX12_init_57 : decode cX12_init 57 = .ok (.aload_n 0, 1) := by decide +kernel
theorem dX12_init_58 : decode cX12_init 58 = .ok (.bipush 64, 2) := by decide +kernel
theorem dX12_init_60 : decode cX12_init 60 = .ok (.newarray .int, 2) := by decide +kernel
theorem dX12_init_62 : decode cX12_init 62 = .ok (.putfield 33, 3) := by decide +kernel
theorem dX12_init_65 : decode cX12_init 65 = .ok (.aload_n 0, 1) := by decide +kernel
theorem dX12_init_66 : decode cX12_init 66 = .ok (.bipush 32, 2) := by decide +kernel
theorem dX12_init_68 : decode cX12_init 68 = .ok (.newarray .int, 2) := by decide +kernel
theorem dX12_init_70 : decode cX12_init 70 = .ok (.putfield 36, 3) := by decide +kernel
theorem dX12_init_73 : decode cX12_init 73 = .ok (.aload_n 0, 1) := by decide +kernel
theorem dX12_init_74 : decode cX12_init 74 = .ok (.bipush 32, 2) := by decide +kernel
theorem dX12_init_76 : decode cX12_init 76 = .ok (.newarray .int, 2) := by decide +kernel
theorem dX12_init_78 : decode cX12_init 78 = .ok (.putfield 39, 3) := by decide +kernel
theorem dX12_init_81 : decode cX12_init 81 = .ok (.aload_n 0, 1) := by decide +kernel
theorem dX12_init_82 : decode cX12_init 82 = .ok (.bipush 32, 2) := by decide +kernel
theorem dX12_init_84 : decode cX12_init 84 = .ok (.newarray .int, 2) := by decide +kernel
theorem dX12_init_86 : decode cX12_init 86 = .ok (.putfield 42, 3) := by decide +kernel
theorem dX12_init_89 : decode cX12_init 89 = .ok (.aload_n 0, 1) := by decide +kernel
theorem dX12_init_90 : decode cX12_init 90 = .ok (.bipush 32, 2) := by decide +kernel
theorem dX12_init_92 : decode cX12_init 92 = .ok (.newarray .int, 2) := by decide +kernel
theorem dX12_init_94 : decode cX12_init 94 = .ok (.putfield 45, 3) := by decide +kernel
theorem dX12_init_97 : decode cX12_init 97 = .ok (.aload_n 0, 1) := by decide +kernel
theorem dX12_init_98 : decode cX12_init 98 = .ok (.bipush 8, 2) := by decide +kernel
theorem dX12_init_100 : decode cX12_init 100 = .ok (.newarray .int, 2) := by decide +kernel
theorem dX12_init_102 : decode cX12_init 102 = .ok (.putfield 48, 3) := by decide +kernel
theorem dX12_init_105 : decode cX12_init 105 = .ok (.aload_n 0, 1) := by decide +kernel
theorem dX12_init_106 : decode cX12_init 106 = .ok (.bipush 64, 2) := by decide +kernel
theorem dX12_init_108 : decode cX12_init 108 = .ok (.newarray .int, 2) := by decide +kernel
theorem dX12_init_110 : decode cX12_init 110 = .ok (.putfield 51, 3) := by decide +kernel
theorem dX12_init_113 : decode cX12_init 113 = .ok (.aload_n 0, 1) := by decide +kernel
theorem dX12_init_114 : decode cX12_init 114 = .ok (.bipush 8, 2) := by decide +kernel
theorem dX12_init_116 : decode cX12_init 116 = .ok (.newarray .int, 2) := by decide +kernel
theorem dX12_init_118 : decode cX12_init 118 = .ok (.putfield 54, 3) := by decide +kernel
theorem dX12_init_121 : decode cX12_init 121 = .ok (.aload_n 0, 1) := by decide +kernel
theorem dX12_init_122 : decode cX12_init 122 = .ok (.bipush 100, 2) := by decide +kernel
theorem dX12_init_124 : decode cX12_init 124 = .ok (.newarray .int, 2) := by decide +kernel
theorem dX12_init_126 : decode cX12_init 126 = .ok (.putfield 57, 3) := by decide +kernel
theorem dX12_init_129 : decode cX12_init 129 = .ok (.aload_n 0, 1) := by decide +kernel
theorem dX12_init_130 : decode cX12_init 130 = .ok (.iconst 4, 1) := by decide +kernel
theorem dX12_init_131 : decode cX12_init 131 = .ok (.newarray .int, 2) := by decide +kernel
theorem dX12_init_133 : decode cX12_init 133 = .ok (.putfield 60, 3) := by decide +kernel
theorem dX12_init_136 : decode cX12_init 136 = .ok (.aload_n 0, 1) := by decide +kernel
theorem dX12_init_137 : decode cX12_init 137 = .ok (.bipush 112, 2) := by decide +kernel
theorem dX12_init_139 : decode cX12_init 139 = .ok (.newarray .int, 2) := by decide +kernel
theorem dX12_init_141 : decode cX12_init 141 = .ok (.putfield 63, 3) := by decide +kernel
theorem dX12_init_144 : decode cX12_init 144 = .ok (.aload_n 0, 1) := by decide +kernel
theorem dX12_init_145 : decode cX12_init 145 = .ok (.bipush 8, 2) := by decide +kernel
theorem dX12_init_147 : decode cX12_init 147 = .ok (.newarray .int, 2) := by decide +kernel
theorem dX12_init_149 : decode cX12_init 149 = .ok (.putfield 66, 3) := by decide +kernel
theorem dX12_init_152 : decode cX12_init 152 = .ok (.aload_n 0, 1) := by decide +kernel
theorem dX12_init_153 : decode cX12_init 153 = .ok (.bipush 8, 2) := by decide +kernel
theorem dX12_init_155 : decode cX12_init 155 = .ok (.newarray .int, 2) := by decide +kernel
theorem dX12_init_157 : decode cX12_init 157 = .ok (.putfield 69, 3) := by decide +kernel
theorem dX12_init_160 : decode cX12_init 160 = .ok (.aload_n 0, 1) := by decide +kernel
theorem dX12_init_161 : decode cX12_init 161 = .ok (.iconst 4, 1) := by decide +kernel
theorem dX12_init_162 : decode cX12_init 162 = .ok (.newarray .int, 2) := by decide +kernel
theorem dX12_init_164 : decode cX12_init 164 = .ok (.putfield 72, 3) := by decide +kernel
theorem dX12_init_167 : decode cX12_init 167 = .ok (.aload_n 0, 1) := by decide +kernel
theorem dX12_init_168 : decode cX12_init 168 = .ok (.bipush 40, 2) := by decide +kernel
theorem dX12_init_170 : decode cX12_init 170 = .ok (.newarray .int, 2) := by decide +kernel
theorem dX12_init_172 : decode cX12_init 172 = .ok (.putfield 75, 3) := by decide +kernel
theorem dX12_init_175 : decode cX12_init 175 = .ok (.aload_n 0, 1) := by decide +kernel
theorem dX12_init_176 : decode cX12_init 176 = .ok (.bipush 40, 2) := by decide +kernel
theorem dX12_init_178 : decode cX12_init 178 = .ok (.newarray .int, 2) := by decide +kernel
theorem dX12_init_180 : decode cX12_init 180 = .ok (.putfield 78, 3) := by decide +kernel
theorem dX12_init_183 : decode cX12_init 183 = .ok (.aload_n 0, 1) := by decide +kernel
theorem dX12_init_184 : decode cX12_init 184 = .ok (.bipush 40, 2) := by decide +kernel
theorem dX12_init_186 : decode cX12_init 186 = .ok (.newarray .int, 2) := by decide +kernel
theorem dX12_init_188 : decode cX12_init 188 = .ok (.putfield 81, 3) := by decide +kernel
theorem dX12_init_191 : decode cX12_init 191 = .ok (.aload_n 0, 1) := by decide +kernel
theorem dX12_init_192 : decode cX12_init 192 = .ok (.bipush 40, 2) := by decide +kernel
theorem dX12_init_194 : decode cX12_init 194 = .ok (.newarray .int, 2) := by decide +kernel
theorem dX12_init_196 : decode cX12_init 196 = .ok (.putfield 84, 3) := by decide +kernel
theorem dX12_init_199 : decode cX12_init 199 = .ok (.aload_n 0, 1) := by decide +kernel
theorem dX12_init_200 : decode cX12_init 200 = .ok (.bipush 40, 2) := by decide +kernel
theorem dX12_init_202 : decode cX12_init 202 = .ok (.newarray .int, 2) := by decide +kernel
theorem dX12_init_204 : decode cX12_init 204 = .ok (.putfield 87, 3) := by decide +kernel
theorem dX12_init_207 : decode cX12_init 207 = .ok (.aload_n 0, 1) := by decide +kernel
theorem dX12_init_208 : decode cX12_init 208 = .ok (.bipush 40, 2) := by decide +kernel
theorem dX12_init_210 : decode cX12_init 210 = .ok (.newarray .int, 2) := by decide +kernel
theorem dX12_init_212 : decode cX12_init 212 = .ok (.putfield 90, 3) := by decide +kernel
theorem dX12_init_215 : decode cX12_init 215 = .ok (.aload_n 0, 1) := by decide +kernel
theorem dX12_init_216 : decode cX12_init 216 = .ok (.iconst 4, 1) := by decide +kernel
theorem dX12_init_217 : decode cX12_init 217 = .ok (.newarray .int, 2) := by decide +kernel
theorem dX12_init_219 : decode cX12_init 219 = .ok (.putfield 93, 3) := by decide +kernel
theorem dX12_init_222 : decode cX12_init 222 = .ok (.aload_n 0, 1) := by decide +kernel
theorem dX12_init_223 : decode cX12_init 223 = .ok (.sipush 320, 3) := by decide +kernel
theorem dX12_init_226 : decode cX12_init 226 = .ok (.newarray .int, 2) := by decide +kernel
theorem dX12_init_228 : decode cX12_init 228 = .ok (.putfield 96, 3) := by decide +kernel
theorem dX12_init_231 : decode cX12_init 231 = .ok (.aload_n 0, 1) := by decide +kernel
theorem dX12_init_232 : decode cX12_init 232 = .ok (.sipush 320, 3) := by decide +kernel
theorem dX12_init_235 : decode cX12_init 235 = .ok (.newarray .int, 2) := by decide +kernel
theorem dX12_init_237 : decode cX12_init 237 = .ok (.putfield 99, 3) := by decide +kernel
theorem dX12_init_240 : decode cX12_init 240 = .ok (.aload_n 0, 1) := by decide +kernel
theorem dX12_init_241 : decode cX12_init 241 = .ok (.sipush 320, 3) := by decide +kernel
theorem dX12_init_244 : decode cX12_init 244 = .ok (.newarray .int, 2) := by decide +kernel
theorem dX12_init_246 : decode cX12_init 246 = .ok (.putfield 102, 3) := by decide +kernel
theorem dX12_init_249 : decode cX12_init 249 = .ok (.aload_n 0, 1) := by decide +kernel
theorem dX12_init_250 : decode cX12_init 250 = .ok (.sipush 320, 3) := by decide +kernel
theorem dX12_init_253 : decode cX12_init 253 = .ok (.newarray .int, 2) := by decide +kernel
theorem dX12_init_255 : decode cX12_init 255 = .ok (.putfield 105, 3) := by decide +kernel
theorem dX12_init_258 : decode cX12_init 258 = .ok (.aload_n 0, 1) := by decide +kernel
theorem dX12_init_259 : decode cX12_init 259 = .ok (.sipush 320, 3) := by decide +kernel
theorem dX12_init_262 : decode cX12_init 262 = .ok (.newarray .int, 2) := by decide +kernel
theorem dX12_init_264 : decode cX12_init 264 = .ok (.putfield 108, 3) := by decide +kernel
theorem dX12_init_267 : decode cX12_init 267 = .ok (.aload_n 0, 1) := by decide +kernel
theorem dX12_init_268 : decode cX12_init 268 = .ok (.sipush 320, 3) := by decide +kernel
theorem dX12_init_271 : decode cX12_init 271 = .ok (.newarray .int, 2) := by decide +kernel
theorem dX12_init_273 : decode cX12_init 273 = .ok (.putfield 111, 3) := by decide +kernel
theorem dX12_init_276 : decode cX12_init 276 = .ok (.aload_n 0, 1) := by decide +kernel
theorem dX12_init_277 : decode cX12_init 277 = .ok (.sipush 320, 3) := by decide +kernel
theorem dX12_init_280 : decode cX12_init 280 = .ok (.newarray .int, 2) := by decide +kernel
theorem dX12_init_282 : decode cX12_init 282 = .ok (.putfield 114, 3) := by decide +kernel
theorem dX12_init_285 : decode cX12_init 285 = .ok (.aload_n 0, 1) := by decide +kernel
theorem dX12_init_286 : decode cX12_init 286 = .ok (.sipush 320, 3) := by decide +kernel
theorem dX12_init_289 : decode cX12_init 289 = .ok (.newarray .int, 2) := by decide +kernel
theorem dX12_init_291 : decode cX12_init 291 = .ok (.putfield 117, 3) := by decide +kernel
theorem dX12_init_294 : decode cX12_init 294 = .ok (.aload_n 0, 1) := by decide +kernel
theorem dX12_init_295 : decode cX12_init 295 = .ok (.sipush 3200, 3) := by decide +kernel
theorem dX12_init_298 : decode cX12_init 298 = .ok (.newarray .int, 2) := by decide +kernel
theorem dX12_init_300 : decode cX12_init 300 = .ok (.putfield 120, 3) := by decide +kernel
theorem dX12_init_303 : decode cX12_init 303 = .ok (.aload_n 0, 1) := by decide +kernel
theorem dX12_init_304 : decode cX12_init 304 = .ok (.sipush 3200, 3) := by decide +kernel
theorem dX12_init_307 : decode cX12_init 307 = .ok (.newarray .int, 2) := by decide +kernel
theorem dX12_init_309 : decode cX12_init 309 = .ok (.putfield 123, 3) := by decide +kernel
theorem dX12_init_312 : decode cX12_init 312 = .ok (.aload_n 0, 1) := by decide +kernel
theorem dX12_init_313 : decode cX12_init 313 = .ok (.sipush 320, 3) := by decide +kernel
theorem dX12_init_316 : decode cX12_init 316 = .ok (.newarray .boolean, 2) := by decide +kernel
theorem dX12_init_318 : decode cX12_init 318 = .ok (.putfield 126, 3) := by decide +kernel
theorem dX12_init_321 : decode cX12_init 321 = .ok (.aload_n 0, 1) := by decide +kernel
theorem dX12_init_322 : decode cX12_init 322 = .ok (.sipush 320, 3) := by decide +kernel
theorem dX12_init_325 : decode cX12_init 325 = .ok (.newarray .boolean, 2) := by decide +kernel
theorem dX12_init_327 : decode cX12_init 327 = .ok (.putfield 130, 3) := by decide +kernel
theorem dX12_init_330 : decode cX12_init 330 = .ok (.aload_n 0, 1) := by decide +kernel
theorem dX12_init_331 : decode cX12_init 331 = .ok (.sipush 320, 3) := by decide +kernel
theorem dX12_init_334 : decode cX12_init 334 = .ok (.newarray .boolean, 2) := by decide +kernel
theorem dX12_init_336 : decode cX12_init 336 = .ok (.putfield 133, 3) := by decide +kernel
theorem dX12_init_339 : decode cX12_init 339 = .ok (.aload_n 0, 1) := by decide +kernel
theorem dX12_init_340 : decode cX12_init 340 = .ok (.sipush 320, 3) := by decide +kernel
theorem dX12_init_343 : decode cX12_init 343 = .ok (.newarray .boolean, 2) := by decide +kernel
theorem dX12_init_345 : decode cX12_init 345 = .ok (.putfield 136, 3) := by decide +kernel
theorem dX12_init_348 : decode cX12_init 348 = .ok (.aload_n 0, 1) := by decide +kernel
theorem dX12_init_349 : decode cX12_init 349 = .ok (.sipush 320, 3) := by decide +kernel
theorem dX12_init_352 : decode cX12_init 352 = .ok (.newarray .boolean, 2) := by decide +kernel
theorem dX12_init_354 : decode cX12_init 354 = .ok (.putfield 139, 3) := by decide +kernel
theorem dX12_init_357 : decode cX12_init 357 = .ok (.aload_n 0, 1) := by decide +kernel
theorem dX12_init_358 : decode cX12_init 358 = .ok (.sipush 320, 3) := by decide +kernel
theorem dX12_init_361 : decode cX12_init 361 = .ok (.newarray .boolean, 2) := by decide +kernel
theorem dX12_init_363 : decode cX12_init 363 = .ok (.putfield 142, 3) := by decide +kernel
theorem dX12_init_366 : decode cX12_init 366 = .ok (.aload_n 0, 1) := by decide +kernel
theorem dX12_init_367 : decode cX12_init 367 = .ok (.bipush 64, 2) := by decide +kernel
theorem dX12_init_369 : decode cX12_init 369 = .ok (.newarray .int, 2) := by decide +kernel
theorem dX12_init_371 : decode cX12_init 371 = .ok (.putfield 145, 3) := by decide +kernel
theorem dX12_init_374 : decode cX12_init 374 = .ok (.aload_n 0, 1) := by decide +kernel
theorem dX12_init_375 : decode cX12_init 375 = .ok (.sipush 320, 3) := by decide +kernel
theorem dX12_init_378 : decode cX12_init 378 = .ok (.newarray .int, 2) := by decide +kernel
theorem dX12_init_380 : decode cX12_init 380 = .ok (.putfield 148, 3) := by decide +kernel
theorem dX12_init_383 : decode cX12_init 383 = .ok (.return_, 1) := by decide +kernel
theorem dX12_status_0 : decode cX12_status 0 = .ok (.aload_n 0, 1) := by decide +kernel
theorem dX12_status_1 : decode cX12_status 1 = .ok (.getfield 151, 3) := by decide +kernel
theorem dX12_status_4 : decode cX12_status 4 = .ok (.ireturn, 1) := by decide +kernel
theorem dX12_refuse_0 : decode cX12_refuse 0 = .ok (.aload_n 0, 1) := by decide +kernel
theorem dX12_refuse_1 : decode cX12_refuse 1 = .ok (.iload_n 1, 1) := by decide +kernel
theorem dX12_refuse_2 : decode cX12_refuse 2 = .ok (.putfield 151, 3) := by decide +kernel
theorem dX12_refuse_5 : decode cX12_refuse 5 = .ok (.iconst (-1), 1) := by decide +kernel
theorem dX12_refuse_6 : decode cX12_refuse 6 = .ok (.ireturn, 1) := by decide +kernel
theorem dX12_gives_0 : decode cX12_gives 0 = .ok (.aload_n 0, 1) := by decide +kernel
theorem dX12_gives_1 : decode cX12_gives 1 = .ok (.iconst 0, 1) := by decide +kernel
theorem dX12_gives_2 : decode cX12_gives 2 = .ok (.putfield 151, 3) := by decide +kernel
theorem dX12_gives_5 : decode cX12_gives 5 = .ok (.iload_n 1, 1) := by decide +kernel
theorem dX12_gives_6 : decode cX12_gives 6 = .ok (.ireturn, 1) := by decide +kernel
theorem dX12_isFrom_0 : decode cX12_isFrom 0 = .ok (.iload_n 0, 1) := by decide +kernel
theorem dX12_isFrom_1 : decode cX12_isFrom 1 = .ok (.iload_n 1, 1) := by decide +kernel
theorem dX12_isFrom_2 : decode cX12_isFrom 2 = .ok (.if_icmp .lt 12, 3) := by decide +kernel
theorem dX12_isFrom_5 : decode cX12_isFrom 5 = .ok (.iload_n 0, 1) := by decide +kernel
theorem dX12_isFrom_6 : decode cX12_isFrom 6 = .ok (.iload_n 2, 1) := by decide +kernel
theorem dX12_isFrom_7 : decode cX12_isFrom 7 = .ok (.if_icmp .gt 7, 3) := by decide +kernel
theorem dX12_isFrom_10 : decode cX12_isFrom 10 = .ok (.iconst 1, 1) := by decide +kernel
theorem dX12_isFrom_11 : decode cX12_isFrom 11 = .ok (.goto 4, 3) := by decide +kernel
theorem dX12_isFrom_14 : decode cX12_isFrom 14 = .ok (.iconst 0, 1) := by decide +kernel
theorem dX12_isFrom_15 : decode cX12_isFrom 15 = .ok (.ireturn, 1) := by decide +kernel
theorem dX12_has_0 : decode cX12_has 0 = .ok (.iload_n 0, 1) := by decide +kernel
theorem dX12_has_1 : decode cX12_has 1 = .ok (.iload_n 1, 1) := by decide +kernel
theorem dX12_has_2 : decode cX12_has 2 = .ok (.ishr, 1) := by decide +kernel
theorem dX12_has_3 : decode cX12_has 3 = .ok (.iconst 1, 1) := by decide +kernel
theorem dX12_has_4 : decode cX12_has 4 = .ok (.iand, 1) := by decide +kernel
theorem dX12_has_5 : decode cX12_has 5 = .ok (.iconst 1, 1) := by decide +kernel
theorem dX12_has_6 : decode cX12_has 6 = .ok (.if_icmp .ne 7, 3) := by decide +kernel
theorem dX12_has_9 : decode cX12_has 9 = .ok (.iconst 1, 1) := by decide +kernel
theorem dX12_has_10 : decode cX12_has 10 = .ok (.goto 4, 3) := by decide +kernel
theorem dX12_has_13 : decode cX12_has 13 = .ok (.iconst 0, 1) := by decide +kernel
theorem dX12_has_14 : decode cX12_has 14 = .ok (.ireturn, 1) := by decide +kernel
theorem dX12_come_0 : decode cX12_come 0 = .ok (.bipush 24, 2) := by decide +kernel
theorem dX12_come_2 : decode cX12_come 2 = .ok (.istore_n 2, 1) := by decide +kernel
theorem dX12_come_3 : decode cX12_come 3 = .ok (.iload_n 2, 1) := by decide +kernel
theorem dX12_come_4 : decode cX12_come 4 = .ok (.ifCond .lt 35, 3) := by decide +kernel
theorem dX12_come_7 : decode cX12_come 7 = .ok (.aload_n 0, 1) := by decide +kernel
theorem dX12_come_8 : decode cX12_come 8 = .ok (.getfield 7, 3) := by decide +kernel
theorem dX12_come_11 : decode cX12_come 11 = .ok (.aload_n 0, 1) := by decide +kernel
theorem dX12_come_12 : decode cX12_come 12 = .ok (.getfield 154, 3) := by decide +kernel
theorem dX12_come_15 : decode cX12_come 15 = .ok (.iload_n 1, 1) := by decide +kernel
theorem dX12_come_16 : decode cX12_come 16 = .ok (.iload_n 2, 1) := by decide +kernel
theorem dX12_come_17 : decode cX12_come 17 = .ok (.iushr, 1) := by decide +kernel
theorem dX12_come_18 : decode cX12_come 18 = .ok (.sipush 255, 3) := by decide +kernel
theorem dX12_come_21 : decode cX12_come 21 = .ok (.iand, 1) := by decide +kernel
theorem dX12_come_22 : decode cX12_come 22 = .ok (.iastore, 1) := by decide +kernel
theorem dX12_come_23 : decode cX12_come 23 = .ok (.aload_n 0, 1) := by decide +kernel
theorem dX12_come_24 : decode cX12_come 24 = .ok (.dup, 1) := by decide +kernel
theorem dX12_come_25 : decode cX12_come 25 = .ok (.getfield 154, 3) := by decide +kernel
theorem dX12_come_28 : decode cX12_come 28 = .ok (.iconst 1, 1) := by decide +kernel
theorem dX12_come_29 : decode cX12_come 29 = .ok (.iadd, 1) := by decide +kernel
theorem dX12_come_30 : decode cX12_come 30 = .ok (.putfield 154, 3) := by decide +kernel
theorem dX12_come_33 : decode cX12_come 33 = .ok (.iinc 2 (-8), 3) := by decide +kernel
theorem dX12_come_36 : decode cX12_come 36 = .ok (.goto (-33), 3) := by decide +kernel
theorem dX12_come_39 : decode cX12_come 39 = .ok (.return_, 1) := by decide +kernel
theorem dX12_feed_0 : decode cX12_feed 0 = .ok (.aload_n 0, 1) := by decide +kernel
theorem dX12_feed_1 : decode cX12_feed 1 = .ok (.getfield 154, 3) := by decide +kernel
theorem dX12_feed_4 : decode cX12_feed 4 = .ok (.bipush 20, 2) := by decide +kernel
theorem dX12_feed_6 : decode cX12_feed 6 = .ok (.iadd, 1) := by decide +kernel
theorem dX12_feed_7 : decode cX12_feed 7 = .ok (.sipush 1000, 3) := by decide +kernel
theorem dX12_feed_10 : decode cX12_feed 10 = .ok (.if_icmp .le 5, 3) := by decide +kernel
theorem dX12_feed_13 : decode cX12_feed 13 = .ok (.iconst (-1), 1) := by decide +kernel
theorem dX12_feed_14 : decode cX12_feed 14 = .ok (.ireturn, 1) := by decide +kernel
theorem dX12_feed_15 : decode cX12_feed 15 = .ok (.aload_n 0, 1) := by decide +kernel
theorem dX12_feed_16 : decode cX12_feed 16 = .ok (.iload_n 1, 1) := by decide +kernel
theorem dX12_feed_17 : decode cX12_feed 17 = .ok (.invokevirtual 157, 3) := by decide +kernel
theorem dX12_feed_20 : decode cX12_feed 20 = .ok (.aload_n 0, 1) := by decide +kernel
theorem dX12_feed_21 : decode cX12_feed 21 = .ok (.iload_n 2, 1) := by decide +kernel
theorem dX12_feed_22 : decode cX12_feed 22 = .ok (.invokevirtual 157, 3) := by decide +kernel
theorem dX12_feed_25 : decode cX12_feed 25 = .ok (.aload_n 0, 1) := by decide +kernel
theorem dX12_feed_26 : decode cX12_feed 26 = .ok (.iload_n 3, 1) := by decide +kernel
theorem dX12_feed_27 : decode cX12_feed 27 = .ok (.invokevirtual 157, 3) := by decide +kernel
theorem dX12_feed_30 : decode cX12_feed 30 = .ok (.aload_n 0, 1) := by decide +kernel
theorem dX12_feed_31 : decode cX12_feed 31 = .ok (.iload 4, 2) := by decide +kernel
theorem dX12_feed_33 : decode cX12_feed 33 = .ok (.invokevirtual 157, 3) := by decide +kernel
theorem dX12_feed_36 : decode cX12_feed 36 = .ok (.aload_n 0, 1) := by decide +kernel
theorem dX12_feed_37 : decode cX12_feed 37 = .ok (.iload 5, 2) := by decide +kernel
theorem dX12_feed_39 : decode cX12_feed 39 = .ok (.invokevirtual 157, 3) := by decide +kernel
theorem dX12_feed_42 : decode cX12_feed 42 = .ok (.aload_n 0, 1) := by decide +kernel
theorem dX12_feed_43 : decode cX12_feed 43 = .ok (.getfield 154, 3) := by decide +kernel
theorem dX12_feed_46 : decode cX12_feed 46 = .ok (.ireturn, 1) := by decide +kernel
theorem dX12_byteAt_0 : decode cX12_byteAt 0 = .ok (.iload_n 1, 1) := by decide +kernel
theorem dX12_byteAt_1 : decode cX12_byteAt 1 = .ok (.aload_n 0, 1) := by decide +kernel
theorem dX12_byteAt_2 : decode cX12_byteAt 2 = .ok (.getfield 161, 3) := by decide +kernel
theorem dX12_byteAt_5 : decode cX12_byteAt 5 = .ok (.if_icmp .ge 12, 3) := by decide +kernel
theorem dX12_byteAt_8 : decode cX12_byteAt 8 = .ok (.aload_n 0, 1) := by decide +kernel
theorem dX12_byteAt_9 : decode cX12_byteAt 9 = .ok (.getfield 7, 3) := by decide +kernel
theorem dX12_byteAt_12 : decode cX12_byteAt 12 = .ok (.iload_n 1, 1) := by decide +kernel
theorem dX12_byteAt_13 : decode cX12_byteAt 13 = .ok (.iaload, 1) := by decide +kernel
theorem dX12_byteAt_14 : decode cX12_byteAt 14 = .ok (.goto 4, 3) := by decide +kernel
theorem dX12_byteAt_17 : decode cX12_byteAt 17 = .ok (.iconst (-1), 1) := by decide +kernel
theorem dX12_byteAt_18 : decode cX12_byteAt 18 = .ok (.ireturn, 1) := by decide +kernel
theorem dX12_isLetter_0 : decode cX12_isLetter 0 = .ok (.iload_n 0, 1) := by decide +kernel
theorem dX12_isLetter_1 : decode cX12_isLetter 1 = .ok (.bipush 97, 2) := by decide +kernel
theorem dX12_isLetter_3 : decode cX12_isLetter 3 = .ok (.if_icmp .lt 13, 3) := by decide +kernel
theorem dX12_isLetter_6 : decode cX12_isLetter 6 = .ok (.iload_n 0, 1) := by decide +kernel
theorem dX12_isLetter_7 : decode cX12_isLetter 7 = .ok (.bipush 122, 2) := by decide +kernel
theorem dX12_isLetter_9 : decode cX12_isLetter 9 = .ok (.if_icmp .gt 7, 3) := by decide +kernel
theorem dX12_isLetter_12 : decode cX12_isLetter 12 = .ok (.iconst 1, 1) := by decide +kernel
theorem dX12_isLetter_13 : decode cX12_isLetter 13 = .ok (.goto 4, 3) := by decide +kernel
theorem dX12_isLetter_16 : decode cX12_isLetter 16 = .ok (.iconst 0, 1) := by decide +kernel
theorem dX12_isLetter_17 : decode cX12_isLetter 17 = .ok (.ireturn, 1) := by decide +kernel
theorem dX12_isDigit_0 : decode cX12_isDigit 0 = .ok (.iload_n 0, 1) := by decide +kernel
theorem dX12_isDigit_1 : decode cX12_isDigit 1 = .ok (.bipush 48, 2) := by decide +kernel
theorem dX12_isDigit_3 : decode cX12_isDigit 3 = .ok (.if_icmp .lt 13, 3) := by decide +kernel
theorem dX12_isDigit_6 : decode cX12_isDigit 6 = .ok (.iload_n 0, 1) := by decide +kernel
theorem dX12_isDigit_7 : decode cX12_isDigit 7 = .ok (.bipush 57, 2) := by decide +kernel
theorem dX12_isDigit_9 : decode cX12_isDigit 9 = .ok (.if_icmp .gt 7, 3) := by decide +kernel
theorem dX12_isDigit_12 : decode cX12_isDigit 12 = .ok (.iconst 1, 1) := by decide +kernel
theorem dX12_isDigit_13 : decode cX12_isDigit 13 = .ok (.goto 4, 3) := by decide +kernel
theorem dX12_isDigit_16 : decode cX12_isDigit 16 = .ok (.iconst 0, 1) := by decide +kernel
theorem dX12_isDigit_17 : decode cX12_isDigit 17 = .ok (.ireturn, 1) := by decide +kernel
theorem dX12_isKnownSign_0 : decode cX12_isKnownSign 0 = .ok (.iload_n 0, 1) := by decide +kernel
theorem dX12_isKnownSign_1 : decode cX12_isKnownSign 1 = .ok (.bipush 59, 2) := by decide +kernel
theorem dX12_isKnownSign_3 : decode cX12_isKnownSign 3 = .ok (.if_icmp .eq 75, 3) := by decide +kernel
theorem dX12_isKnownSign_6 : decode cX12_isKnownSign 6 = .ok (.iload_n 0, 1) := by decide +kernel
theorem dX12_isKnownSign_7 : decode cX12_isKnownSign 7 = .ok (.bipush 58, 2) := by decide +kernel
theorem dX12_isKnownSign_9 : decode cX12_isKnownSign 9 = .ok (.if_icmp .eq 69, 3) := by decide +kernel
theorem dX12_isKnownSign_12 : decode cX12_isKnownSign 12 = .ok (.iload_n 0, 1) := by decide +kernel
theorem dX12_isKnownSign_13 : decode cX12_isKnownSign 13 = .ok (.bipush 44, 2) := by decide +kernel
theorem dX12_isKnownSign_15 : decode cX12_isKnownSign 15 = .ok (.if_icmp .eq 63, 3) := by decide +kernel
theorem dX12_isKnownSign_18 : decode cX12_isKnownSign 18 = .ok (.iload_n 0, 1) := by decide +kernel
theorem dX12_isKnownSign_19 : decode cX12_isKnownSign 19 = .ok (.bipush 46, 2) := by decide +kernel
theorem dX12_isKnownSign_21 : decode cX12_isKnownSign 21 = .ok (.if_icmp .eq 57, 3) := by decide +kernel
theorem dX12_isKnownSign_24 : decode cX12_isKnownSign 24 = .ok (.iload_n 0, 1) := by decide +kernel
theorem dX12_isKnownSign_25 : decode cX12_isKnownSign 25 = .ok (.bipush 61, 2) := by decide +kernel
theorem dX12_isKnownSign_27 : decode cX12_isKnownSign 27 = .ok (.if_icmp .eq 51, 3) := by decide +kernel
theorem dX12_isKnownSign_30 : decode cX12_isKnownSign 30 = .ok (.iload_n 0, 1) := by decide +kernel
theorem dX12_isKnownSign_31 : decode cX12_isKnownSign 31 = .ok (.bipush 43, 2) := by decide +kernel
theorem dX12_isKnownSign_33 : decode cX12_isKnownSign 33 = .ok (.if_icmp .eq 45, 3) := by decide +kernel
theorem dX12_isKnownSign_36 : decode cX12_isKnownSign 36 = .ok (.iload_n 0, 1) := by decide +kernel
theorem dX12_isKnownSign_37 : decode cX12_isKnownSign 37 = .ok (.bipush 45, 2) := by decide +kernel
theorem dX12_isKnownSign_39 : decode cX12_isKnownSign 39 = .ok (.if_icmp .eq 39, 3) := by decide +kernel
theorem dX12_isKnownSign_42 : decode cX12_isKnownSign 42 = .ok (.iload_n 0, 1) := by decide +kernel
theorem dX12_isKnownSign_43 : decode cX12_isKnownSign 43 = .ok (.bipush 42, 2) := by decide +kernel
theorem dX12_isKnownSign_45 : decode cX12_isKnownSign 45 = .ok (.if_icmp .eq 33, 3) := by decide +kernel
theorem dX12_isKnownSign_48 : decode cX12_isKnownSign 48 = .ok (.iload_n 0, 1) := by decide +kernel
theorem dX12_isKnownSign_49 : decode cX12_isKnownSign 49 = .ok (.bipush 124, 2) := by decide +kernel
theorem dX12_isKnownSign_51 : decode cX12_isKnownSign 51 = .ok (.if_icmp .eq 27, 3) := by decide +kernel
theorem dX12_isKnownSign_54 : decode cX12_isKnownSign 54 = .ok (.iload_n 0, 1) := by decide +kernel
theorem dX12_isKnownSign_55 : decode cX12_isKnownSign 55 = .ok (.bipush 38, 2) := by decide +kernel
theorem dX12_isKnownSign_57 : decode cX12_isKnownSign 57 = .ok (.if_icmp .eq 21, 3) := by decide +kernel
theorem dX12_isKnownSign_60 : decode cX12_isKnownSign 60 = .ok (.iload_n 0, 1) := by decide +kernel
theorem dX12_isKnownSign_61 : decode cX12_isKnownSign 61 = .ok (.bipush 60, 2) := by decide +kernel
theorem dX12_isKnownSign_63 : decode cX12_isKnownSign 63 = .ok (.if_icmp .eq 15, 3) := by decide +kernel
theorem dX12_isKnownSign_66 : decode cX12_isKnownSign 66 = .ok (.iload_n 0, 1) := by decide +kernel
theorem dX12_isKnownSign_67 : decode cX12_isKnownSign 67 = .ok (.bipush 40, 2) := by decide +kernel
theorem dX12_isKnownSign_69 : decode cX12_isKnownSign 69 = .ok (.if_icmp .eq 9, 3) := by decide +kernel
theorem dX12_isKnownSign_72 : decode cX12_isKnownSign 72 = .ok (.iload_n 0, 1) := by decide +kernel
theorem dX12_isKnownSign_73 : decode cX12_isKnownSign 73 = .ok (.bipush 41, 2) := by decide +kernel
theorem dX12_isKnownSign_75 : decode cX12_isKnownSign 75 = .ok (.if_icmp .ne 7, 3) := by decide +kernel
theorem dX12_isKnownSign_78 : decode cX12_isKnownSign 78 = .ok (.iconst 1, 1) := by decide +kernel
theorem dX12_isKnownSign_79 : decode cX12_isKnownSign 79 = .ok (.goto 4, 3) := by decide +kernel
theorem dX12_isKnownSign_82 : decode cX12_isKnownSign 82 = .ok (.iconst 0, 1) := by decide +kernel
theorem dX12_isKnownSign_83 : decode cX12_isKnownSign 83 = .ok (.ireturn, 1) := by decide +kernel
theorem dX12_go_0 : decode cX12_go 0 = .ok (.aload_n 0, 1) := by decide +kernel
theorem dX12_go_1 : decode cX12_go 1 = .ok (.aload_n 0, 1) := by decide +kernel
theorem dX12_go_2 : decode cX12_go 2 = .ok (.getfield 164, 3) := by decide +kernel
theorem dX12_go_5 : decode cX12_go 5 = .ok (.invokevirtual 167, 3) := by decide +kernel
theorem dX12_go_8 : decode cX12_go 8 = .ok (.bipush 32, 2) := by decide +kernel
theorem dX12_go_10 : decode cX12_go 10 = .ok (.if_icmp .eq 16, 3) := by decide +kernel
theorem dX12_go_13 : decode cX12_go 13 = .ok (.aload_n 0, 1) := by decide +kernel
theorem dX12_go_14 : decode cX12_go 14 = .ok (.aload_n 0, 1) := by decide +kernel
theorem dX12_go_15 : decode cX12_go 15 = .ok (.getfield 164, 3) := by decide +kernel
theorem dX12_go_18 : decode cX12_go 18 = .ok (.invokevirtual 167, 3) := by decide +kernel
theorem dX12_go_21 : decode cX12_go 21 = .ok (.bipush 10, 2) := by decide +kernel
theorem dX12_go_23 : decode cX12_go 23 = .ok (.if_icmp .ne 16, 3) := by decide +kernel
theorem dX12_go_26 : decode cX12_go 26 = .ok (.aload_n 0, 1) := by decide +kernel
theorem dX12_go_27 : decode cX12_go 27 = .ok (.dup, 1) := by decide +kernel
theorem dX12_go_28 : decode cX12_go 28 = .ok (.getfield 164, 3) := by decide +kernel
theorem dX12_go_31 : decode cX12_go 31 = .ok (.iconst 1, 1) := by decide +kernel
theorem dX12_go_32 : decode cX12_go 32 = .ok (.iadd, 1) := by decide +kernel
theorem dX12_go_33 : decode cX12_go 33 = .ok (.putfield 164, 3) := by decide +kernel
theorem dX12_go_36 : decode cX12_go 36 = .ok (.goto (-36), 3) := by decide +kernel
theorem dX12_go_39 : decode cX12_go 39 = .ok (.aload_n 0, 1) := by decide +kernel
theorem dX12_go_40 : decode cX12_go 40 = .ok (.aload_n 0, 1) := by decide +kernel
theorem dX12_go_41 : decode cX12_go 41 = .ok (.getfield 164, 3) := by decide +kernel
theorem dX12_go_44 : decode cX12_go 44 = .ok (.putfield 171, 3) := by decide +kernel
theorem dX12_go_47 : decode cX12_go 47 = .ok (.aload_n 0, 1) := by decide +kernel
theorem dX12_go_48 : decode cX12_go 48 = .ok (.aload_n 0, 1) := by decide +kernel
theorem dX12_go_49 : decode cX12_go 49 = .ok (.getfield 164, 3) := by decide +kernel
theorem dX12_go_52 : decode cX12_go 52 = .ok (.invokevirtual 167, 3) := by decide +kernel
theorem dX12_go_55 : decode cX12_go 55 = .ok (.istore_n 1, 1) := by decide +kernel
theorem dX12_go_56 : decode cX12_go 56 = .ok (.iload_n 1, 1) := by decide +kernel
theorem dX12_go_57 : decode cX12_go 57 = .ok (.iconst (-1), 1) := by decide +kernel
theorem dX12_go_58 : decode cX12_go 58 = .ok (.if_icmp .ne 11, 3) := by decide +kernel
theorem dX12_go_61 : decode cX12_go 61 = .ok (.aload_n 0, 1) := by decide +kernel
theorem dX12_go_62 : decode cX12_go 62 = .ok (.iconst 0, 1) := by decide +kernel
theorem dX12_go_63 : decode cX12_go 63 = .ok (.putfield 174, 3) := by decide +kernel
theorem dX12_go_66 : decode cX12_go 66 = .ok (.goto 239, 3) := by decide +kernel
theorem dX12_go_69 : decode cX12_go 69 = .ok (.iload_n 1, 1) := by decide +kernel
theorem dX12_go_70 : decode cX12_go 70 = .ok (.invokestatic 177, 3) := by decide +kernel
theorem dX12_go_73 : decode cX12_go 73 = .ok (.ifCond .eq 101, 3) := by decide +kernel
theorem dX12_go_76 : decode cX12_go 76 = .ok (.aload_n 0, 1) := by decide +kernel
theorem dX12_go_77 : decode cX12_go 77 = .ok (.lconst 0, 1) := by decide +kernel
theorem dX12_go_78 : decode cX12_go 78 = .ok (.putfield 181, 3) := by decide +kernel
theorem dX12_go_81 : decode cX12_go 81 = .ok (.aload_n 0, 1) := by decide +kernel
theorem dX12_go_82 : decode cX12_go 82 = .ok (.aload_n 0, 1) := by decide +kernel
theorem dX12_go_83 : decode cX12_go 83 = .ok (.getfield 164, 3) := by decide +kernel
theorem dX12_go_86 : decode cX12_go 86 = .ok (.invokevirtual 167, 3) := by decide +kernel
theorem dX12_go_89 : decode cX12_go 89 = .ok (.invokestatic 177, 3) := by decide +kernel
theorem dX12_go_92 : decode cX12_go 92 = .ok (.ifCond .eq 56, 3) := by decide +kernel
theorem dX12_go_95 : decode cX12_go 95 = .ok (.aload_n 0, 1) := by decide +kernel
theorem dX12_go_96 : decode cX12_go 96 = .ok (.getfield 164, 3) := by decide +kernel
theorem dX12_go_99 : decode cX12_go 99 = .ok (.aload_n 0, 1) := by decide +kernel
theorem dX12_go_100 : decode cX12_go 100 = .ok (.getfield 171, 3) := by decide +kernel
theorem dX12_go_103 : decode cX12_go 103 = .ok (.isub, 1) := by decide +kernel
theorem dX12_go_104 : decode cX12_go 104 = .ok (.bipush 8, 2) := by decide +kernel
theorem dX12_go_106 : decode cX12_go 106 = .ok (.if_icmp .ge 29, 3) := by decide +kernel
theorem dX12_go_109 : decode cX12_go 109 = .ok (.aload_n 0, 1) := by decide +kernel
theorem dX12_go_110 : decode cX12_go 110 = .ok (.ldc2_w 185, 3) := by decide +kernel
theorem dX12_go_113 : decode cX12_go 113 = .ok (.aload_n 0, 1) := by decide +kernel
theorem dX12_go_114 : decode cX12_go 114 = .ok (.getfield 181, 3) := by decide +kernel
theorem dX12_go_117 : decode cX12_go 117 = .ok (.lmul, 1) := by decide +kernel
theorem dX12_go_118 : decode cX12_go 118 = .ok (.aload_n 0, 1) := by decide +kernel
theorem dX12_go_119 : decode cX12_go 119 = .ok (.aload_n 0, 1) := by decide +kernel
theorem dX12_go_120 : decode cX12_go 120 = .ok (.getfield 164, 3) := by decide +kernel
theorem dX12_go_123 : decode cX12_go 123 = .ok (.invokevirtual 167, 3) := by decide +kernel
theorem dX12_go_126 : decode cX12_go 126 = .ok (.i2l, 1) := by decide +kernel
theorem dX12_go_127 : decode cX12_go 127 = .ok (.ladd, 1) := by decide +kernel
theorem dX12_go_128 : decode cX12_go 128 = .ok (.ldc2_w 187, 3) := by decide +kernel
theorem dX12_go_131 : decode cX12_go 131 = .ok (.lsub, 1) := by decide +kernel
theorem dX12_go_132 : decode cX12_go 132 = .ok (.putfield 181, 3) := by decide +kernel
theorem dX12_go_135 : decode cX12_go 135 = .ok (.aload_n 0, 1) := by decide +kernel
theorem dX12_go_136 : decode cX12_go 136 = .ok (.dup, 1) := by decide +kernel
theorem dX12_go_137 : decode cX12_go 137 = .ok (.getfield 164, 3) := by decide +kernel
theorem dX12_go_140 : decode cX12_go 140 = .ok (.iconst 1, 1) := by decide +kernel
theorem dX12_go_141 : decode cX12_go 141 = .ok (.iadd, 1) := by decide +kernel
theorem dX12_go_142 : decode cX12_go 142 = .ok (.putfield 164, 3) := by decide +kernel
theorem dX12_go_145 : decode cX12_go 145 = .ok (.goto (-64), 3) := by decide +kernel
theorem dX12_go_148 : decode cX12_go 148 = .ok (.aload_n 0, 1) := by decide +kernel
theorem dX12_go_149 : decode cX12_go 149 = .ok (.aload_n 0, 1) := by decide +kernel
theorem dX12_go_150 : decode cX12_go 150 = .ok (.getfield 164, 3) := by decide +kernel
theorem dX12_go_153 : decode cX12_go 153 = .ok (.aload_n 0, 1) := by decide +kernel
theorem dX12_go_154 : decode cX12_go 154 = .ok (.getfield 171, 3) := by decide +kernel
theorem dX12_go_157 : decode cX12_go 157 = .ok (.isub, 1) := by decide +kernel
theorem dX12_go_158 : decode cX12_go 158 = .ok (.bipush 8, 2) := by decide +kernel
theorem dX12_go_160 : decode cX12_go 160 = .ok (.if_icmp .le 7, 3) := by decide +kernel
theorem dX12_go_163 : decode cX12_go 163 = .ok (.iconst 1, 1) := by decide +kernel
theorem dX12_go_164 : decode cX12_go 164 = .ok (.goto 4, 3) := by decide +kernel
theorem dX12_go_167 : decode cX12_go 167 = .ok (.iconst 2, 1) := by decide +kernel
theorem dX12_go_168 : decode cX12_go 168 = .ok (.putfield 174, 3) := by decide +kernel
theorem dX12_go_171 : decode cX12_go 171 = .ok (.goto 134, 3) := by decide +kernel
theorem dX12_go_174 : decode cX12_go 174 = .ok (.iload_n 1, 1) := by decide +kernel
theorem dX12_go_175 : decode cX12_go 175 = .ok (.invokestatic 189, 3) := by decide +kernel
theorem dX12_go_178 : decode cX12_go 178 = .ok (.ifCond .eq 96, 3) := by decide +kernel
theorem dX12_go_181 : decode cX12_go 181 = .ok (.aload_n 0, 1) := by decide +kernel
theorem dX12_go_182 : decode cX12_go 182 = .ok (.iconst 0, 1) := by decide +kernel
theorem dX12_go_183 : decode cX12_go 183 = .ok (.putfield 192, 3) := by decide +kernel
theorem dX12_go_186 : decode cX12_go 186 = .ok (.aload_n 0, 1) := by decide +kernel
theorem dX12_go_187 : decode cX12_go 187 = .ok (.aload_n 0, 1) := by decide +kernel
theorem dX12_go_188 : decode cX12_go 188 = .ok (.getfield 164, 3) := by decide +kernel
theorem dX12_go_191 : decode cX12_go 191 = .ok (.invokevirtual 167, 3) := by decide +kernel
theorem dX12_go_194 : decode cX12_go 194 = .ok (.invokestatic 189, 3) := by decide +kernel
theorem dX12_go_197 : decode cX12_go 197 = .ok (.ifCond .eq 52, 3) := by decide +kernel
theorem dX12_go_200 : decode cX12_go 200 = .ok (.aload_n 0, 1) := by decide +kernel
theorem dX12_go_201 : decode cX12_go 201 = .ok (.getfield 164, 3) := by decide +kernel
theorem dX12_go_204 : decode cX12_go 204 = .ok (.aload_n 0, 1) := by decide +kernel
theorem dX12_go_205 : decode cX12_go 205 = .ok (.getfield 171, 3) := by decide +kernel
theorem dX12_go_208 : decode cX12_go 208 = .ok (.isub, 1) := by decide +kernel
theorem dX12_go_209 : decode cX12_go 209 = .ok (.iconst 4, 1) := by decide +kernel
theorem dX12_go_210 : decode cX12_go 210 = .ok (.if_icmp .ge 26, 3) := by decide +kernel
theorem dX12_go_213 : decode cX12_go 213 = .ok (.aload_n 0, 1) := by decide +kernel
theorem dX12_go_214 : decode cX12_go 214 = .ok (.bipush 10, 2) := by decide +kernel
theorem dX12_go_216 : decode cX12_go 216 = .ok (.aload_n 0, 1) := by decide +kernel
theorem dX12_go_217 : decode cX12_go 217 = .ok (.getfield 192, 3) := by decide +kernel
theorem dX12_go_220 : decode cX12_go 220 = .ok (.imul, 1) := by decide +kernel
theorem dX12_go_221 : decode cX12_go 221 = .ok (.aload_n 0, 1) := by decide +kernel
theorem dX12_go_222 : decode cX12_go 222 = .ok (.aload_n 0, 1) := by decide +kernel
theorem dX12_go_223 : decode cX12_go 223 = .ok (.getfield 164, 3) := by decide +kernel
theorem dX12_go_226 : decode cX12_go 226 = .ok (.invokevirtual 167, 3) := by decide +kernel
theorem dX12_go_229 : decode cX12_go 229 = .ok (.iadd, 1) := by decide +kernel
theorem dX12_go_230 : decode cX12_go 230 = .ok (.bipush 48, 2) := by decide +kernel
theorem dX12_go_232 : decode cX12_go 232 = .ok (.isub, 1) := by decide +kernel
theorem dX12_go_233 : decode cX12_go 233 = .ok (.putfield 192, 3) := by decide +kernel
theorem dX12_go_236 : decode cX12_go 236 = .ok (.aload_n 0, 1) := by decide +kernel
theorem dX12_go_237 : decode cX12_go 237 = .ok (.dup, 1) := by decide +kernel
theorem dX12_go_238 : decode cX12_go 238 = .ok (.getfield 164, 3) := by decide +kernel
theorem dX12_go_241 : decode cX12_go 241 = .ok (.iconst 1, 1) := by decide +kernel
theorem dX12_go_242 : decode cX12_go 242 = .ok (.iadd, 1) := by decide +kernel
theorem dX12_go_243 : decode cX12_go 243 = .ok (.putfield 164, 3) := by decide +kernel
theorem dX12_go_246 : decode cX12_go 246 = .ok (.goto (-60), 3) := by decide +kernel
theorem dX12_go_249 : decode cX12_go 249 = .ok (.aload_n 0, 1) := by decide +kernel
theorem dX12_go_250 : decode cX12_go 250 = .ok (.aload_n 0, 1) := by decide +kernel
theorem dX12_go_251 : decode cX12_go 251 = .ok (.getfield 164, 3) := by decide +kernel
theorem dX12_go_254 : decode cX12_go 254 = .ok (.aload_n 0, 1) := by decide +kernel
theorem dX12_go_255 : decode cX12_go 255 = .ok (.getfield 171, 3) := by decide +kernel
theorem dX12_go_258 : decode cX12_go 258 = .ok (.isub, 1) := by decide +kernel
theorem dX12_go_259 : decode cX12_go 259 = .ok (.iconst 4, 1) := by decide +kernel
theorem dX12_go_260 : decode cX12_go 260 = .ok (.if_icmp .le 7, 3) := by decide +kernel
theorem dX12_go_263 : decode cX12_go 263 = .ok (.iconst 1, 1) := by decide +kernel
theorem dX12_go_264 : decode cX12_go 264 = .ok (.goto 4, 3) := by decide +kernel
theorem dX12_go_267 : decode cX12_go 267 = .ok (.iconst 3, 1) := by decide +kernel
theorem dX12_go_268 : decode cX12_go 268 = .ok (.putfield 174, 3) := by decide +kernel
theorem dX12_go_271 : decode cX12_go 271 = .ok (.goto 34, 3) := by decide +kernel
theorem dX12_go_274 : decode cX12_go 274 = .ok (.aload_n 0, 1) := by decide +kernel
theorem dX12_go_275 : decode cX12_go 275 = .ok (.dup, 1) := by decide +kernel
theorem dX12_go_276 : decode cX12_go 276 = .ok (.getfield 164, 3) := by decide +kernel
theorem dX12_go_279 : decode cX12_go 279 = .ok (.iconst 1, 1) := by decide +kernel
theorem dX12_go_280 : decode cX12_go 280 = .ok (.iadd, 1) := by decide +kernel
theorem dX12_go_281 : decode cX12_go 281 = .ok (.putfield 164, 3) := by decide +kernel
theorem dX12_go_284 : decode cX12_go 284 = .ok (.aload_n 0, 1) := by decide +kernel
theorem dX12_go_285 : decode cX12_go 285 = .ok (.iload_n 1, 1) := by decide +kernel
theorem dX12_go_286 : decode cX12_go 286 = .ok (.invokestatic 195, 3) := by decide +kernel
theorem dX12_go_289 : decode cX12_go 289 = .ok (.ifCond .eq 7, 3) := by decide +kernel
theorem dX12_go_292 : decode cX12_go 292 = .ok (.iconst 4, 1) := by decide +kernel
theorem dX12_go_293 : decode cX12_go 293 = .ok (.goto 4, 3) := by decide +kernel
theorem dX12_go_296 : decode cX12_go 296 = .ok (.iconst 1, 1) := by decide +kernel
theorem dX12_go_297 : decode cX12_go 297 = .ok (.putfield 174, 3) := by decide +kernel
theorem dX12_go_300 : decode cX12_go 300 = .ok (.aload_n 0, 1) := by decide +kernel
theorem dX12_go_301 : decode cX12_go 301 = .ok (.iload_n 1, 1) := by decide +kernel
theorem dX12_go_302 : decode cX12_go 302 = .ok (.putfield 198, 3) := by decide +kernel
theorem dX12_go_305 : decode cX12_go 305 = .ok (.return_, 1) := by decide +kernel
theorem dX12_spelt_0 : decode cX12_spelt 0 = .ok (.ldc2_w 185, 3) := by decide +kernel
theorem dX12_spelt_3 : decode cX12_spelt 3 = .ok (.iload_n 0, 1) := by decide +kernel
theorem dX12_spelt_4 : decode cX12_spelt 4 = .ok (.i2l, 1) := by decide +kernel
theorem dX12_spelt_5 : decode cX12_spelt 5 = .ok (.ldc2_w 187, 3) := by decide +kernel
theorem dX12_spelt_8 : decode cX12_spelt 8 = .ok (.lsub, 1) := by decide +kernel
theorem dX12_spelt_9 : decode cX12_spelt 9 = .ok (.lmul, 1) := by decide +kernel
theorem dX12_spelt_10 : decode cX12_spelt 10 = .ok (.iload_n 1, 1) := by decide +kernel
theorem dX12_spelt_11 : decode cX12_spelt 11 = .ok (.i2l, 1) := by decide +kernel
theorem dX12_spelt_12 : decode cX12_spelt 12 = .ok (.ladd, 1) := by decide +kernel
theorem dX12_spelt_13 : decode cX12_spelt 13 = .ok (.ldc2_w 187, 3) := by decide +kernel
theorem dX12_spelt_16 : decode cX12_spelt 16 = .ok (.lsub, 1) := by decide +kernel
theorem dX12_spelt_17 : decode cX12_spelt 17 = .ok (.lstore 6, 2) := by decide +kernel
theorem dX12_spelt_19 : decode cX12_spelt 19 = .ok (.iload_n 2, 1) := by decide +kernel
theorem dX12_spelt_20 : decode cX12_spelt 20 = .ok (.ifCond .le 18, 3) := by decide +kernel
theorem dX12_spelt_23 : decode cX12_spelt 23 = .ok (.ldc2_w 185, 3) := by decide +kernel
theorem dX12_spelt_26 : decode cX12_spelt 26 = .ok (.lload 6, 2) := by decide +kernel
theorem dX12_spelt_28 : decode cX12_spelt 28 = .ok (.lmul, 1) := by decide +kernel
theorem dX12_spelt_29 : decode cX12_spelt 29 = .ok (.iload_n 2, 1) := by decide +kernel
theorem dX12_spelt_30 : decode cX12_spelt 30 = .ok (.i2l, 1) := by decide +kernel
theorem dX12_spelt_31 : decode cX12_spelt 31 = .ok (.ladd, 1) := by decide +kernel
theorem dX12_spelt_32 : decode cX12_spelt 32 = .ok (.ldc2_w 187, 3) := by decide +kernel
theorem dX12_spelt_35 : decode cX12_spelt 35 = .ok (.lsub, 1) := by decide +kernel
theorem dX12_spelt_36 : decode cX12_spelt 36 = .ok (.lstore 6, 2) := by decide +kernel
theorem dX12_spelt_38 : decode cX12_spelt 38 = .ok (.iload_n 3, 1) := by decide +kernel
theorem dX12_spelt_39 : decode cX12_spelt 39 = .ok (.ifCond .le 18, 3) := by decide +kernel
theorem dX12_spelt_42 : decode cX12_spelt 42 = .ok (.ldc2_w 185, 3) := by decide +kernel
theorem dX12_spelt_45 : decode cX12_spelt 45 = .ok (.lload 6, 2) := by decide +kernel
theorem dX12_spelt_47 : decode cX12_spelt 47 = .ok (.lmul, 1) := by decide +kernel
theorem dX12_spelt_48 : decode cX12_spelt 48 = .ok (.iload_n 3, 1) := by decide +kernel
theorem dX12_spelt_49 : decode cX12_spelt 49 = .ok (.i2l, 1) := by decide +kernel
theorem dX12_spelt_50 : decode cX12_spelt 50 = .ok (.ladd, 1) := by decide +kernel
theorem dX12_spelt_51 : decode cX12_spelt 51 = .ok (.ldc2_w 187, 3) := by decide +kernel
theorem dX12_spelt_54 : decode cX12_spelt 54 = .ok (.lsub, 1) := by decide +kernel
theorem dX12_spelt_55 : decode cX12_spelt 55 = .ok (.lstore 6, 2) := by decide +kernel
theorem dX12_spelt_57 : decode cX12_spelt 57 = .ok (.iload 4, 2) := by decide +kernel
theorem dX12_spelt_59 : decode cX12_spelt 59 = .ok (.ifCond .le 19, 3) := by decide +kernel
theorem dX12_spelt_62 : decode cX12_spelt 62 = .ok (.ldc2_w 185, 3) := by decide +kernel
theorem dX12_spelt_65 : decode cX12_spelt 65 = .ok (.lload 6, 2) := by decide +kernel
theorem dX12_spelt_67 : decode cX12_spelt 67 = .ok (.lmul, 1) := by decide +kernel
theorem dX12_spelt_68 : decode cX12_spelt 68 = .ok (.iload 4, 2) := by decide +kernel
theorem dX12_spelt_70 : decode cX12_spelt 70 = .ok (.i2l, 1) := by decide +kernel
theorem dX12_spelt_71 : decode cX12_spelt 71 = .ok (.ladd, 1) := by decide +kernel
theorem dX12_spelt_72 : decode cX12_spelt 72 = .ok (.ldc2_w 187, 3) := by decide +kernel
theorem dX12_spelt_75 : decode cX12_spelt 75 = .ok (.lsub, 1) := by decide +kernel
theorem dX12_spelt_76 : decode cX12_spelt 76 = .ok (.lstore 6, 2) := by decide +kernel
theorem dX12_spelt_78 : decode cX12_spelt 78 = .ok (.iload 5, 2) := by decide +kernel
theorem dX12_spelt_80 : decode cX12_spelt 80 = .ok (.ifCond .le 19, 3) := by decide +kernel
theorem dX12_spelt_83 : decode cX12_spelt 83 = .ok (.ldc2_w 185, 3) := by decide +kernel
theorem dX12_spelt_86 : decode cX12_spelt 86 = .ok (.lload 6, 2) := by decide +kernel
theorem dX12_spelt_88 : decode cX12_spelt 88 = .ok (.lmul, 1) := by decide +kernel
theorem dX12_spelt_89 : decode cX12_spelt 89 = .ok (.iload 5, 2) := by decide +kernel
theorem dX12_spelt_91 : decode cX12_spelt 91 = .ok (.i2l, 1) := by decide +kernel
theorem dX12_spelt_92 : decode cX12_spelt 92 = .ok (.ladd, 1) := by decide +kernel
theorem dX12_spelt_93 : decode cX12_spelt 93 = .ok (.ldc2_w 187, 3) := by decide +kernel
theorem dX12_spelt_96 : decode cX12_spelt 96 = .ok (.lsub, 1) := by decide +kernel
theorem dX12_spelt_97 : decode cX12_spelt 97 = .ok (.lstore 6, 2) := by decide +kernel
theorem dX12_spelt_99 : decode cX12_spelt 99 = .ok (.lload 6, 2) := by decide +kernel
theorem dX12_spelt_101 : decode cX12_spelt 101 = .ok (.lreturn, 1) := by decide +kernel
theorem dX12_wordOf_0 : decode cX12_wordOf 0 = .ok (.iload_n 0, 1) := by decide +kernel
theorem dX12_wordOf_1 : decode cX12_wordOf 1 = .ok (.tableswitch 155 0 7 #[47, 63, 77, 91, 103, 116, 129, 142], 47) := by decide +kernel
theorem dX12_wordOf_48 : decode cX12_wordOf 48 = .ok (.bipush 115, 2) := by decide +kernel
theorem dX12_wordOf_50 : decode cX12_wordOf 50 = .ok (.bipush 121, 2) := by decide +kernel
theorem dX12_wordOf_52 : decode cX12_wordOf 52 = .ok (.bipush 109, 2) := by decide +kernel
theorem dX12_wordOf_54 : decode cX12_wordOf 54 = .ok (.bipush 98, 2) := by decide +kernel
theorem dX12_wordOf_56 : decode cX12_wordOf 56 = .ok (.bipush 111, 2) := by decide +kernel
theorem dX12_wordOf_58 : decode cX12_wordOf 58 = .ok (.bipush 108, 2) := by decide +kernel
theorem dX12_wordOf_60 : decode cX12_wordOf 60 = .ok (.invokestatic 201, 3) := by decide +kernel
theorem dX12_wordOf_63 : decode cX12_wordOf 63 = .ok (.lreturn, 1) := by decide +kernel
theorem dX12_wordOf_64 : decode cX12_wordOf 64 = .ok (.bipush 112, 2) := by decide +kernel
theorem dX12_wordOf_66 : decode cX12_wordOf 66 = .ok (.bipush 114, 2) := by decide +kernel
theorem dX12_wordOf_68 : decode cX12_wordOf 68 = .ok (.bipush 111, 2) := by decide +kernel
theorem dX12_wordOf_70 : decode cX12_wordOf 70 = .ok (.bipush 100, 2) := by decide +kernel
theorem dX12_wordOf_72 : decode cX12_wordOf 72 = .ok (.iconst 0, 1) := by decide +kernel
theorem dX12_wordOf_73 : decode cX12_wordOf 73 = .ok (.iconst 0, 1) := by decide +kernel
theorem dX12_wordOf_74 : decode cX12_wordOf 74 = .ok (.invokestatic 201, 3) := by decide +kernel
theorem dX12_wordOf_77 : decode cX12_wordOf 77 = .ok (.lreturn, 1) := by decide +kernel
theorem dX12_wordOf_78 : decode cX12_wordOf 78 = .ok (.bipush 114, 2) := by decide +kernel
theorem dX12_wordOf_80 : decode cX12_wordOf 80 = .ok (.bipush 117, 2) := by decide +kernel
theorem dX12_wordOf_82 : decode cX12_wordOf 82 = .ok (.bipush 108, 2) := by decide +kernel
theorem dX12_wordOf_84 : decode cX12_wordOf 84 = .ok (.bipush 101, 2) := by decide +kernel
theorem dX12_wordOf_86 : decode cX12_wordOf 86 = .ok (.iconst 0, 1) := by decide +kernel
theorem dX12_wordOf_87 : decode cX12_wordOf 87 = .ok (.iconst 0, 1) := by decide +kernel
theorem dX12_wordOf_88 : decode cX12_wordOf 88 = .ok (.invokestatic 201, 3) := by decide +kernel
theorem dX12_wordOf_91 : decode cX12_wordOf 91 = .ok (.lreturn, 1) := by decide +kernel
theorem dX12_wordOf_92 : decode cX12_wordOf 92 = .ok (.bipush 105, 2) := by decide +kernel
theorem dX12_wordOf_94 : decode cX12_wordOf 94 = .ok (.bipush 110, 2) := by decide +kernel
theorem dX12_wordOf_96 : decode cX12_wordOf 96 = .ok (.iconst 0, 1) := by decide +kernel
theorem dX12_wordOf_97 : decode cX12_wordOf 97 = .ok (.iconst 0, 1) := by decide +kernel
theorem dX12_wordOf_98 : decode cX12_wordOf 98 = .ok (.iconst 0, 1) := by decide +kernel
theorem dX12_wordOf_99 : decode cX12_wordOf 99 = .ok (.iconst 0, 1) := by decide +kernel
theorem dX12_wordOf_100 : decode cX12_wordOf 100 = .ok (.invokestatic 201, 3) := by decide +kernel
theorem dX12_wordOf_103 : decode cX12_wordOf 103 = .ok (.lreturn, 1) := by decide +kernel
theorem dX12_wordOf_104 : decode cX12_wordOf 104 = .ok (.bipush 111, 2) := by decide +kernel
theorem dX12_wordOf_106 : decode cX12_wordOf 106 = .ok (.bipush 117, 2) := by decide +kernel
theorem dX12_wordOf_108 : decode cX12_wordOf 108 = .ok (.bipush 116, 2) := by decide +kernel
theorem dX12_wordOf_110 : decode cX12_wordOf 110 = .ok (.iconst 0, 1) := by decide +kernel
theorem dX12_wordOf_111 : decode cX12_wordOf 111 = .ok (.iconst 0, 1) := by decide +kernel
theorem dX12_wordOf_112 : decode cX12_wordOf 112 = .ok (.iconst 0, 1) := by decide +kernel
theorem dX12_wordOf_113 : decode cX12_wordOf 113 = .ok (.invokestatic 201, 3) := by decide +kernel
theorem dX12_wordOf_116 : decode cX12_wordOf 116 = .ok (.lreturn, 1) := by decide +kernel
theorem dX12_wordOf_117 : decode cX12_wordOf 117 = .ok (.bipush 110, 2) := by decide +kernel
theorem dX12_wordOf_119 : decode cX12_wordOf 119 = .ok (.bipush 117, 2) := by decide +kernel
theorem dX12_wordOf_121 : decode cX12_wordOf 121 = .ok (.bipush 109, 2) := by decide +kernel
theorem dX12_wordOf_123 : decode cX12_wordOf 123 = .ok (.iconst 0, 1) := by decide +kernel
theorem dX12_wordOf_124 : decode cX12_wordOf 124 = .ok (.iconst 0, 1) := by decide +kernel
theorem dX12_wordOf_125 : decode cX12_wordOf 125 = .ok (.iconst 0, 1) := by decide +kernel
theorem dX12_wordOf_126 : decode cX12_wordOf 126 = .ok (.invokestatic 201, 3) := by decide +kernel
theorem dX12_wordOf_129 : decode cX12_wordOf 129 = .ok (.lreturn, 1) := by decide +kernel
theorem dX12_wordOf_130 : decode cX12_wordOf 130 = .ok (.bipush 109, 2) := by decide +kernel
theorem dX12_wordOf_132 : decode cX12_wordOf 132 = .ok (.bipush 97, 2) := by decide +kernel
theorem dX12_wordOf_134 : decode cX12_wordOf 134 = .ok (.bipush 120, 2) := by decide +kernel
theorem dX12_wordOf_136 : decode cX12_wordOf 136 = .ok (.iconst 0, 1) := by decide +kernel
theorem dX12_wordOf_137 : decode cX12_wordOf 137 = .ok (.iconst 0, 1) := by decide +kernel
theorem dX12_wordOf_138 : decode cX12_wordOf 138 = .ok (.iconst 0, 1) := by decide +kernel
theorem dX12_wordOf_139 : decode cX12_wordOf 139 = .ok (.invokestatic 201, 3) := by decide +kernel
theorem dX12_wordOf_142 : decode cX12_wordOf 142 = .ok (.lreturn, 1) := by decide +kernel
theorem dX12_wordOf_143 : decode cX12_wordOf 143 = .ok (.bipush 109, 2) := by decide +kernel
theorem dX12_wordOf_145 : decode cX12_wordOf 145 = .ok (.bipush 105, 2) := by decide +kernel
theorem dX12_wordOf_147 : decode cX12_wordOf 147 = .ok (.bipush 110, 2) := by decide +kernel
theorem dX12_wordOf_149 : decode cX12_wordOf 149 = .ok (.iconst 0, 1) := by decide +kernel
theorem dX12_wordOf_150 : decode cX12_wordOf 150 = .ok (.iconst 0, 1) := by decide +kernel
theorem dX12_wordOf_151 : decode cX12_wordOf 151 = .ok (.iconst 0, 1) := by decide +kernel
theorem dX12_wordOf_152 : decode cX12_wordOf 152 = .ok (.invokestatic 201, 3) := by decide +kernel
theorem dX12_wordOf_155 : decode cX12_wordOf 155 = .ok (.lreturn, 1) := by decide +kernel
theorem dX12_wordOf_156 : decode cX12_wordOf 156 = .ok (.bipush 105, 2) := by decide +kernel
theorem dX12_wordOf_158 : decode cX12_wordOf 158 = .ok (.bipush 102, 2) := by decide +kernel
theorem dX12_wordOf_160 : decode cX12_wordOf 160 = .ok (.iconst 0, 1) := by decide +kernel
theorem dX12_wordOf_161 : decode cX12_wordOf 161 = .ok (.iconst 0, 1) := by decide +kernel
theorem dX12_wordOf_162 : decode cX12_wordOf 162 = .ok (.iconst 0, 1) := by decide +kernel
theorem dX12_wordOf_163 : decode cX12_wordOf 163 = .ok (.iconst 0, 1) := by decide +kernel
theorem dX12_wordOf_164 : decode cX12_wordOf 164 = .ok (.invokestatic 201, 3) := by decide +kernel
theorem dX12_wordOf_167 : decode cX12_wordOf 167 = .ok (.lreturn, 1) := by decide +kernel
theorem dX12_isWord_0 : decode cX12_isWord 0 = .ok (.aload_n 0, 1) := by decide +kernel
theorem dX12_isWord_1 : decode cX12_isWord 1 = .ok (.getfield 174, 3) := by decide +kernel
theorem dX12_isWord_4 : decode cX12_isWord 4 = .ok (.iconst 2, 1) := by decide +kernel
theorem dX12_isWord_5 : decode cX12_isWord 5 = .ok (.if_icmp .ne 19, 3) := by decide +kernel
theorem dX12_isWord_8 : decode cX12_isWord 8 = .ok (.aload_n 0, 1) := by decide +kernel
theorem dX12_isWord_9 : decode cX12_isWord 9 = .ok (.getfield 181, 3) := by decide +kernel
theorem dX12_isWord_12 : decode cX12_isWord 12 = .ok (.iload_n 1, 1) := by decide +kernel
theorem dX12_isWord_13 : decode cX12_isWord 13 = .ok (.invokestatic 205, 3) := by decide +kernel
theorem dX12_isWord_16 : decode cX12_isWord 16 = .ok (.lcmp, 1) := by decide +kernel
theorem dX12_isWord_17 : decode cX12_isWord 17 = .ok (.ifCond .ne 7, 3) := by decide +kernel
theorem dX12_isWord_20 : decode cX12_isWord 20 = .ok (.iconst 1, 1) := by decide +kernel
theorem dX12_isWord_21 : decode cX12_isWord 21 = .ok (.goto 4, 3) := by decide +kernel
theorem dX12_isWord_24 : decode cX12_isWord 24 = .ok (.iconst 0, 1) := by decide +kernel
theorem dX12_isWord_25 : decode cX12_isWord 25 = .ok (.ireturn, 1) := by decide +kernel
theorem dX12_isName_0 : decode cX12_isName 0 = .ok (.aload_n 0, 1) := by decide +kernel
theorem dX12_isName_1 : decode cX12_isName 1 = .ok (.getfield 174, 3) := by decide +kernel
theorem dX12_isName_4 : decode cX12_isName 4 = .ok (.iconst 2, 1) := by decide +kernel
theorem dX12_isName_5 : decode cX12_isName 5 = .ok (.if_icmp .eq 5, 3) := by decide +kernel
theorem dX12_isName_8 : decode cX12_isName 8 = .ok (.iconst 0, 1) := by decide +kernel
theorem dX12_isName_9 : decode cX12_isName 9 = .ok (.ireturn, 1) := by decide +kernel
theorem dX12_isName_10 : decode cX12_isName 10 = .ok (.iconst 0, 1) := by decide +kernel
theorem dX12_isName_11 : decode cX12_isName 11 = .ok (.istore_n 1, 1) := by decide +kernel
theorem dX12_isName_12 : decode cX12_isName 12 = .ok (.iload_n 1, 1) := by decide +kernel
theorem dX12_isName_13 : decode cX12_isName 13 = .ok (.bipush 8, 2) := by decide +kernel
theorem dX12_isName_15 : decode cX12_isName 15 = .ok (.if_icmp .gt 23, 3) := by decide +kernel
theorem dX12_isName_18 : decode cX12_isName 18 = .ok (.aload_n 0, 1) := by decide +kernel
theorem dX12_isName_19 : decode cX12_isName 19 = .ok (.getfield 181, 3) := by decide +kernel
theorem dX12_isName_22 : decode cX12_isName 22 = .ok (.iload_n 1, 1) := by decide +kernel
theorem dX12_isName_23 : decode cX12_isName 23 = .ok (.invokestatic 205, 3) := by decide +kernel
theorem dX12_isName_26 : decode cX12_isName 26 = .ok (.lcmp, 1) := by decide +kernel
theorem dX12_isName_27 : decode cX12_isName 27 = .ok (.ifCond .ne 5, 3) := by decide +kernel
theorem dX12_isName_30 : decode cX12_isName 30 = .ok (.iconst 0, 1) := by decide +kernel
theorem dX12_isName_31 : decode cX12_isName 31 = .ok (.ireturn, 1) := by decide +kernel
theorem dX12_isName_32 : decode cX12_isName 32 = .ok (.iinc 1 1, 3) := by decide +kernel
theorem dX12_isName_35 : decode cX12_isName 35 = .ok (.goto (-23), 3) := by decide +kernel
theorem dX12_isName_38 : decode cX12_isName 38 = .ok (.iconst 1, 1) := by decide +kernel
theorem dX12_isName_39 : decode cX12_isName 39 = .ok (.ireturn, 1) := by decide +kernel
theorem dX12_isSign_0 : decode cX12_isSign 0 = .ok (.aload_n 0, 1) := by decide +kernel
theorem dX12_isSign_1 : decode cX12_isSign 1 = .ok (.getfield 174, 3) := by decide +kernel
theorem dX12_isSign_4 : decode cX12_isSign 4 = .ok (.iconst 4, 1) := by decide +kernel
theorem dX12_isSign_5 : decode cX12_isSign 5 = .ok (.if_icmp .ne 15, 3) := by decide +kernel
theorem dX12_isSign_8 : decode cX12_isSign 8 = .ok (.aload_n 0, 1) := by decide +kernel
theorem dX12_isSign_9 : decode cX12_isSign 9 = .ok (.getfield 198, 3) := by decide +kernel
theorem dX12_isSign_12 : decode cX12_isSign 12 = .ok (.iload_n 1, 1) := by decide +kernel
theorem dX12_isSign_13 : decode cX12_isSign 13 = .ok (.if_icmp .ne 7, 3) := by decide +kernel
theorem dX12_isSign_16 : decode cX12_isSign 16 = .ok (.iconst 1, 1) := by decide +kernel
theorem dX12_isSign_17 : decode cX12_isSign 17 = .ok (.goto 4, 3) := by decide +kernel
theorem dX12_isSign_20 : decode cX12_isSign 20 = .ok (.iconst 0, 1) := by decide +kernel
theorem dX12_isSign_21 : decode cX12_isSign 21 = .ok (.ireturn, 1) := by decide +kernel
theorem dX12_bad_0 : decode cX12_bad 0 = .ok (.aload_n 0, 1) := by decide +kernel
theorem dX12_bad_1 : decode cX12_bad 1 = .ok (.aload_n 0, 1) := by decide +kernel
theorem dX12_bad_2 : decode cX12_bad 2 = .ok (.getfield 174, 3) := by decide +kernel
theorem dX12_bad_5 : decode cX12_bad 5 = .ok (.iconst 1, 1) := by decide +kernel
theorem dX12_bad_6 : decode cX12_bad 6 = .ok (.if_icmp .ne 7, 3) := by decide +kernel
theorem dX12_bad_9 : decode cX12_bad 9 = .ok (.iconst 1, 1) := by decide +kernel
theorem dX12_bad_10 : decode cX12_bad 10 = .ok (.goto 4, 3) := by decide +kernel
theorem dX12_bad_13 : decode cX12_bad 13 = .ok (.iload_n 1, 1) := by decide +kernel
theorem dX12_bad_14 : decode cX12_bad 14 = .ok (.putfield 209, 3) := by decide +kernel
theorem dX12_bad_17 : decode cX12_bad 17 = .ok (.aload_n 0, 1) := by decide +kernel
theorem dX12_bad_18 : decode cX12_bad 18 = .ok (.aload_n 0, 1) := by decide +kernel
theorem dX12_bad_19 : decode cX12_bad 19 = .ok (.getfield 171, 3) := by decide +kernel
theorem dX12_bad_22 : decode cX12_bad 22 = .ok (.putfield 212, 3) := by decide +kernel
theorem dX12_bad_25 : decode cX12_bad 25 = .ok (.iconst 0, 1) := by decide +kernel
theorem dX12_bad_26 : decode cX12_bad 26 = .ok (.ireturn, 1) := by decide +kernel
theorem dX12_badAt_0 : decode cX12_badAt 0 = .ok (.aload_n 0, 1) := by decide +kernel
theorem dX12_badAt_1 : decode cX12_badAt 1 = .ok (.iload_n 1, 1) := by decide +kernel
theorem dX12_badAt_2 : decode cX12_badAt 2 = .ok (.putfield 209, 3) := by decide +kernel
theorem dX12_badAt_5 : decode cX12_badAt 5 = .ok (.aload_n 0, 1) := by decide +kernel
theorem dX12_badAt_6 : decode cX12_badAt 6 = .ok (.iload_n 2, 1) := by decide +kernel
theorem dX12_badAt_7 : decode cX12_badAt 7 = .ok (.putfield 212, 3) := by decide +kernel
theorem dX12_badAt_10 : decode cX12_badAt 10 = .ok (.iconst 0, 1) := by decide +kernel
theorem dX12_badAt_11 : decode cX12_badAt 11 = .ok (.ireturn, 1) := by decide +kernel
theorem dX12_eats_0 : decode cX12_eats 0 = .ok (.aload_n 0, 1) := by decide +kernel
theorem dX12_eats_1 : decode cX12_eats 1 = .ok (.iload_n 1, 1) := by decide +kernel
theorem dX12_eats_2 : decode cX12_eats 2 = .ok (.invokevirtual 215, 3) := by decide +kernel
theorem dX12_eats_5 : decode cX12_eats 5 = .ok (.ifCond .ne 9, 3) := by decide +kernel
theorem dX12_eats_8 : decode cX12_eats 8 = .ok (.aload_n 0, 1) := by decide +kernel
theorem dX12_eats_9 : decode cX12_eats 9 = .ok (.iconst 2, 1) := by decide +kernel
theorem dX12_eats_10 : decode cX12_eats 10 = .ok (.invokevirtual 218, 3) := by decide +kernel
theorem dX12_eats_13 : decode cX12_eats 13 = .ok (.ireturn, 1) := by decide +kernel
theorem dX12_eats_14 : decode cX12_eats 14 = .ok (.aload_n 0, 1) := by decide +kernel
theorem dX12_eats_15 : decode cX12_eats 15 = .ok (.invokevirtual 221, 3) := by decide +kernel
theorem dX12_eats_18 : decode cX12_eats 18 = .ok (.iconst 1, 1) := by decide +kernel
theorem dX12_eats_19 : decode cX12_eats 19 = .ok (.ireturn, 1) := by decide +kernel
theorem dX12_findIn_0 : decode cX12_findIn 0 = .ok (.iconst 0, 1) := by decide +kernel
theorem dX12_findIn_1 : decode cX12_findIn 1 = .ok (.istore 5, 2) := by decide +kernel
theorem dX12_findIn_3 : decode cX12_findIn 3 = .ok (.iload 5, 2) := by decide +kernel
theorem dX12_findIn_5 : decode cX12_findIn 5 = .ok (.iload_n 2, 1) := by decide +kernel
theorem dX12_findIn_6 : decode cX12_findIn 6 = .ok (.if_icmp .ge 23, 3) := by decide +kernel
theorem dX12_findIn_9 : decode cX12_findIn 9 = .ok (.aload_n 0, 1) := by decide +kernel
theorem dX12_findIn_10 : decode cX12_findIn 10 = .ok (.iload_n 1, 1) := by decide +kernel
theorem dX12_findIn_11 : decode cX12_findIn 11 = .ok (.iload 5, 2) := by decide +kernel
theorem dX12_findIn_13 : decode cX12_findIn 13 = .ok (.iadd, 1) := by decide +kernel
theorem dX12_findIn_14 : decode cX12_findIn 14 = .ok (.laload, 1) := by decide +kernel
theorem dX12_findIn_15 : decode cX12_findIn 15 = .ok (.lload_n 3, 1) := by decide +kernel
theorem dX12_findIn_16 : decode cX12_findIn 16 = .ok (.lcmp, 1) := by decide +kernel
theorem dX12_findIn_17 : decode cX12_findIn 17 = .ok (.ifCond .ne 6, 3) := by decide +kernel
theorem dX12_findIn_20 : decode cX12_findIn 20 = .ok (.iload 5, 2) := by decide +kernel
theorem dX12_findIn_22 : decode cX12_findIn 22 = .ok (.ireturn, 1) := by decide +kernel
theorem dX12_findIn_23 : decode cX12_findIn 23 = .ok (.iinc 5 1, 3) := by decide +kernel
theorem dX12_findIn_26 : decode cX12_findIn 26 = .ok (.goto (-23), 3) := by decide +kernel
theorem dX12_findIn_29 : decode cX12_findIn 29 = .ok (.iconst (-1), 1) := by decide +kernel
theorem dX12_findIn_30 : decode cX12_findIn 30 = .ok (.ireturn, 1) := by decide +kernel
theorem dX12_attributesIn_0 : decode cX12_attributesIn 0 = .ok (.aload_n 0, 1) := by decide +kernel
theorem dX12_attributesIn_1 : decode cX12_attributesIn 1 = .ok (.iconst 4, 1) := by decide +kernel
theorem dX12_attributesIn_2 : decode cX12_attributesIn 2 = .ok (.iload_n 1, 1) := by decide +kernel
theorem dX12_attributesIn_3 : decode cX12_attributesIn 3 = .ok (.iadd, 1) := by decide +kernel
theorem dX12_attributesIn_4 : decode cX12_attributesIn 4 = .ok (.iaload, 1) := by decide +kernel
theorem dX12_attributesIn_5 : decode cX12_attributesIn 5 = .ok (.aload_n 0, 1) := by decide +kernel
theorem dX12_attributesIn_6 : decode cX12_attributesIn 6 = .ok (.bipush 12, 2) := by decide +kernel
theorem dX12_attributesIn_8 : decode cX12_attributesIn 8 = .ok (.iload_n 1, 1) := by decide +kernel
theorem dX12_attributesIn_9 : decode cX12_attributesIn 9 = .ok (.iadd, 1) := by decide +kernel
theorem dX12_attributesIn_10 : decode cX12_attributesIn 10 = .ok (.iaload, 1) := by decide +kernel
theorem dX12_attributesIn_11 : decode cX12_attributesIn 11 = .ok (.iadd, 1) := by decide +kernel
theorem dX12_attributesIn_12 : decode cX12_attributesIn 12 = .ok (.ireturn, 1) := by decide +kernel
theorem dX12_readAttributes_0 : decode cX12_readAttributes 0 = .ok (.aload_n 0, 1) := by decide +kernel
theorem dX12_readAttributes_1 : decode cX12_readAttributes 1 = .ok (.invokevirtual 224, 3) := by decide +kernel
theorem dX12_readAttributes_4 : decode cX12_readAttributes 4 = .ok (.ifCond .ne 9, 3) := by decide +kernel
theorem dX12_readAttributes_7 : decode cX12_readAttributes 7 = .ok (.aload_n 0, 1) := by decide +kernel
theorem dX12_readAttributes_8 : decode cX12_readAttributes 8 = .ok (.iconst 2, 1) := by decide +kernel
theorem dX12_readAttributes_9 : decode cX12_readAttributes 9 = .ok (.invokevirtual 218, 3) := by decide +kernel
theorem dX12_readAttributes_12 : decode cX12_readAttributes 12 = .ok (.ireturn, 1) := by decide +kernel
theorem dX12_readAttributes_13 : decode cX12_readAttributes 13 = .ok (.aload_n 0, 1) := by decide +kernel
theorem dX12_readAttributes_14 : decode cX12_readAttributes 14 = .ok (.getfield 23, 3) := by decide +kernel
theorem dX12_readAttributes_17 : decode cX12_readAttributes 17 = .ok (.bipush 20, 2) := by decide +kernel
theorem dX12_readAttributes_19 : decode cX12_readAttributes 19 = .ok (.bipush 8, 2) := by decide +kernel
theorem dX12_readAttributes_21 : decode cX12_readAttributes 21 = .ok (.iload_n 1, 1) := by decide +kernel
theorem dX12_readAttributes_22 : decode cX12_readAttributes 22 = .ok (.imul, 1) := by decide +kernel
theorem dX12_readAttributes_23 : decode cX12_readAttributes 23 = .ok (.iadd, 1) := by decide +kernel
theorem dX12_readAttributes_24 : decode cX12_readAttributes 24 = .ok (.aload_n 0, 1) := by decide +kernel
theorem dX12_readAttributes_25 : decode cX12_readAttributes 25 = .ok (.getfield 16, 3) := by decide +kernel
theorem dX12_readAttributes_28 : decode cX12_readAttributes 28 = .ok (.iload_n 1, 1) := by decide +kernel
theorem dX12_readAttributes_29 : decode cX12_readAttributes 29 = .ok (.invokestatic 228, 3) := by decide +kernel
theorem dX12_readAttributes_32 : decode cX12_readAttributes 32 = .ok (.aload_n 0, 1) := by decide +kernel
theorem dX12_readAttributes_33 : decode cX12_readAttributes 33 = .ok (.getfield 181, 3) := by decide +kernel
theorem dX12_readAttributes_36 : decode cX12_readAttributes 36 = .ok (.invokestatic 232, 3) := by decide +kernel
theorem dX12_readAttributes_39 : decode cX12_readAttributes 39 = .ok (.iconst (-1), 1) := by decide +kernel
theorem dX12_readAttributes_40 : decode cX12_readAttributes 40 = .ok (.if_icmp .eq 9, 3) := by decide +kernel
theorem dX12_readAttributes_43 : decode cX12_readAttributes 43 = .ok (.aload_n 0, 1) := by decide +kernel
theorem dX12_readAttributes_44 : decode cX12_readAttributes 44 = .ok (.iconst 4, 1) := by decide +kernel
theorem dX12_readAttributes_45 : decode cX12_readAttributes 45 = .ok (.invokevirtual 218, 3) := by decide +kernel
theorem dX12_readAttributes_48 : decode cX12_readAttributes 48 = .ok (.ireturn, 1) := by decide +kernel
theorem dX12_readAttributes_49 : decode cX12_readAttributes 49 = .ok (.aload_n 0, 1) := by decide +kernel
theorem dX12_readAttributes_50 : decode cX12_readAttributes 50 = .ok (.getfield 16, 3) := by decide +kernel
theorem dX12_readAttributes_53 : decode cX12_readAttributes 53 = .ok (.iload_n 2, 1) := by decide +kernel
theorem dX12_readAttributes_54 : decode cX12_readAttributes 54 = .ok (.iload_n 1, 1) := by decide +kernel
theorem dX12_readAttributes_55 : decode cX12_readAttributes 55 = .ok (.iadd, 1) := by decide +kernel
theorem dX12_readAttributes_56 : decode cX12_readAttributes 56 = .ok (.iaload, 1) := by decide +kernel
theorem dX12_readAttributes_57 : decode cX12_readAttributes 57 = .ok (.iconst 4, 1) := by decide +kernel
theorem dX12_readAttributes_58 : decode cX12_readAttributes 58 = .ok (.if_icmp .ne 10, 3) := by decide +kernel
theorem dX12_readAttributes_61 : decode cX12_readAttributes 61 = .ok (.aload_n 0, 1) := by decide +kernel
theorem dX12_readAttributes_62 : decode cX12_readAttributes 62 = .ok (.bipush 6, 2) := by decide +kernel
theorem dX12_readAttributes_64 : decode cX12_readAttributes 64 = .ok (.invokevirtual 218, 3) := by decide +kernel
theorem dX12_readAttributes_67 : decode cX12_readAttributes 67 = .ok (.ireturn, 1) := by decide +kernel
theorem dX12_readAttributes_68 : decode cX12_readAttributes 68 = .ok (.aload_n 0, 1) := by decide +kernel
theorem dX12_readAttributes_69 : decode cX12_readAttributes 69 = .ok (.getfield 23, 3) := by decide +kernel
theorem dX12_readAttributes_72 : decode cX12_readAttributes 72 = .ok (.bipush 20, 2) := by decide +kernel
theorem dX12_readAttributes_74 : decode cX12_readAttributes 74 = .ok (.bipush 8, 2) := by decide +kernel
theorem dX12_readAttributes_76 : decode cX12_readAttributes 76 = .ok (.iload_n 1, 1) := by decide +kernel
theorem dX12_readAttributes_77 : decode cX12_readAttributes 77 = .ok (.imul, 1) := by decide +kernel
theorem dX12_readAttributes_78 : decode cX12_readAttributes 78 = .ok (.iadd, 1) := by decide +kernel
theorem dX12_readAttributes_79 : decode cX12_readAttributes 79 = .ok (.aload_n 0, 1) := by decide +kernel
theorem dX12_readAttributes_80 : decode cX12_readAttributes 80 = .ok (.getfield 16, 3) := by decide +kernel
theorem dX12_readAttributes_83 : decode cX12_readAttributes 83 = .ok (.iload_n 1, 1) := by decide +kernel
theorem dX12_readAttributes_84 : decode cX12_readAttributes 84 = .ok (.invokestatic 228, 3) := by decide +kernel
theorem dX12_readAttributes_87 : decode cX12_readAttributes 87 = .ok (.iadd, 1) := by decide +kernel
theorem dX12_readAttributes_88 : decode cX12_readAttributes 88 = .ok (.aload_n 0, 1) := by decide +kernel
theorem dX12_readAttributes_89 : decode cX12_readAttributes 89 = .ok (.getfield 181, 3) := by decide +kernel
theorem dX12_readAttributes_92 : decode cX12_readAttributes 92 = .ok (.lastore, 1) := by decide +kernel
theorem dX12_readAttributes_93 : decode cX12_readAttributes 93 = .ok (.aload_n 0, 1) := by decide +kernel
theorem dX12_readAttributes_94 : decode cX12_readAttributes 94 = .ok (.getfield 16, 3) := by decide +kernel
theorem dX12_readAttributes_97 : decode cX12_readAttributes 97 = .ok (.iload_n 2, 1) := by decide +kernel
theorem dX12_readAttributes_98 : decode cX12_readAttributes 98 = .ok (.iload_n 1, 1) := by decide +kernel
theorem dX12_readAttributes_99 : decode cX12_readAttributes 99 = .ok (.iadd, 1) := by decide +kernel
theorem dX12_readAttributes_100 : decode cX12_readAttributes 100 = .ok (.dup2, 1) := by decide +kernel
theorem dX12_readAttributes_101 : decode cX12_readAttributes 101 = .ok (.iaload, 1) := by decide +kernel
theorem dX12_readAttributes_102 : decode cX12_readAttributes 102 = .ok (.iconst 1, 1) := by decide +kernel
theorem dX12_readAttributes_103 : decode cX12_readAttributes 103 = .ok (.iadd, 1) := by decide +kernel
theorem dX12_readAttributes_104 : decode cX12_readAttributes 104 = .ok (.iastore, 1) := by decide +kernel
theorem dX12_readAttributes_105 : decode cX12_readAttributes 105 = .ok (.aload_n 0, 1) := by decide +kernel
theorem dX12_readAttributes_106 : decode cX12_readAttributes 106 = .ok (.invokevirtual 221, 3) := by decide +kernel
theorem dX12_readAttributes_109 : decode cX12_readAttributes 109 = .ok (.aload_n 0, 1) := by decide +kernel
theorem dX12_readAttributes_110 : decode cX12_readAttributes 110 = .ok (.invokevirtual 224, 3) := by decide +kernel
theorem dX12_readAttributes_113 : decode cX12_readAttributes 113 = .ok (.ifCond .ne (-113), 3) := by decide +kernel
theorem dX12_readAttributes_116 : decode cX12_readAttributes 116 = .ok (.iconst 1, 1) := by decide +kernel
theorem dX12_readAttributes_117 : decode cX12_readAttributes 117 = .ok (.ireturn, 1) := by decide +kernel
theorem dX12_readSymbol_0 : decode cX12_readSymbol 0 = .ok (.aload_n 0, 1) := by decide +kernel
theorem dX12_readSymbol_1 : decode cX12_readSymbol 1 = .ok (.getfield 16, 3) := by decide +kernel
theorem dX12_readSymbol_4 : decode cX12_readSymbol 4 = .ok (.iconst 0, 1) := by decide +kernel
theorem dX12_readSymbol_5 : decode cX12_readSymbol 5 = .ok (.iaload, 1) := by decide +kernel
theorem dX12_readSymbol_6 : decode cX12_readSymbol 6 = .ok (.istore_n 1, 1) := by decide +kernel
theorem dX12_readSymbol_7 : decode cX12_readSymbol 7 = .ok (.iload_n 1, 1) := by decide +kernel
theorem dX12_readSymbol_8 : decode cX12_readSymbol 8 = .ok (.bipush 8, 2) := by decide +kernel
theorem dX12_readSymbol_10 : decode cX12_readSymbol 10 = .ok (.if_icmp .ne 10, 3) := by decide +kernel
theorem dX12_readSymbol_13 : decode cX12_readSymbol 13 = .ok (.aload_n 0, 1) := by decide +kernel
theorem dX12_readSymbol_14 : decode cX12_readSymbol 14 = .ok (.bipush 6, 2) := by decide +kernel
theorem dX12_readSymbol_16 : decode cX12_readSymbol 16 = .ok (.invokevirtual 218, 3) := by decide +kernel
theorem dX12_readSymbol_19 : decode cX12_readSymbol 19 = .ok (.ireturn, 1) := by decide +kernel
theorem dX12_readSymbol_20 : decode cX12_readSymbol 20 = .ok (.aload_n 0, 1) := by decide +kernel
theorem dX12_readSymbol_21 : decode cX12_readSymbol 21 = .ok (.invokevirtual 221, 3) := by decide +kernel
theorem dX12_readSymbol_24 : decode cX12_readSymbol 24 = .ok (.aload_n 0, 1) := by decide +kernel
theorem dX12_readSymbol_25 : decode cX12_readSymbol 25 = .ok (.invokevirtual 224, 3) := by decide +kernel
theorem dX12_readSymbol_28 : decode cX12_readSymbol 28 = .ok (.ifCond .ne 9, 3) := by decide +kernel
theorem dX12_readSymbol_31 : decode cX12_readSymbol 31 = .ok (.aload_n 0, 1) := by decide +kernel
theorem dX12_readSymbol_32 : decode cX12_readSymbol 32 = .ok (.iconst 2, 1) := by decide +kernel
theorem dX12_readSymbol_33 : decode cX12_readSymbol 33 = .ok (.invokevirtual 218, 3) := by decide +kernel
theorem dX12_readSymbol_36 : decode cX12_readSymbol 36 = .ok (.ireturn, 1) := by decide +kernel
theorem dX12_readSymbol_37 : decode cX12_readSymbol 37 = .ok (.aload_n 0, 1) := by decide +kernel
theorem dX12_readSymbol_38 : decode cX12_readSymbol 38 = .ok (.getfield 23, 3) := by decide +kernel
theorem dX12_readSymbol_41 : decode cX12_readSymbol 41 = .ok (.iconst 0, 1) := by decide +kernel
theorem dX12_readSymbol_42 : decode cX12_readSymbol 42 = .ok (.iload_n 1, 1) := by decide +kernel
theorem dX12_readSymbol_43 : decode cX12_readSymbol 43 = .ok (.aload_n 0, 1) := by decide +kernel
theorem dX12_readSymbol_44 : decode cX12_readSymbol 44 = .ok (.getfield 181, 3) := by decide +kernel
theorem dX12_readSymbol_47 : decode cX12_readSymbol 47 = .ok (.invokestatic 232, 3) := by decide +kernel
theorem dX12_readSymbol_50 : decode cX12_readSymbol 50 = .ok (.iconst (-1), 1) := by decide +kernel
theorem dX12_readSymbol_51 : decode cX12_readSymbol 51 = .ok (.if_icmp .eq 9, 3) := by decide +kernel
theorem dX12_readSymbol_54 : decode cX12_readSymbol 54 = .ok (.aload_n 0, 1) := by decide +kernel
theorem dX12_readSymbol_55 : decode cX12_readSymbol 55 = .ok (.iconst 4, 1) := by decide +kernel
theorem dX12_readSymbol_56 : decode cX12_readSymbol 56 = .ok (.invokevirtual 218, 3) := by decide +kernel
theorem dX12_readSymbol_59 : decode cX12_readSymbol 59 = .ok (.ireturn, 1) := by decide +kernel
theorem dX12_readSymbol_60 : decode cX12_readSymbol 60 = .ok (.aload_n 0, 1) := by decide +kernel
theorem dX12_readSymbol_61 : decode cX12_readSymbol 61 = .ok (.getfield 23, 3) := by decide +kernel
theorem dX12_readSymbol_64 : decode cX12_readSymbol 64 = .ok (.iconst 0, 1) := by decide +kernel
theorem dX12_readSymbol_65 : decode cX12_readSymbol 65 = .ok (.iload_n 1, 1) := by decide +kernel
theorem dX12_readSymbol_66 : decode cX12_readSymbol 66 = .ok (.iadd, 1) := by decide +kernel
theorem dX12_readSymbol_67 : decode cX12_readSymbol 67 = .ok (.aload_n 0, 1) := by decide +kernel
theorem dX12_readSymbol_68 : decode cX12_readSymbol 68 = .ok (.getfield 181, 3) := by decide +kernel
theorem dX12_readSymbol_71 : decode cX12_readSymbol 71 = .ok (.lastore, 1) := by decide +kernel
theorem dX12_readSymbol_72 : decode cX12_readSymbol 72 = .ok (.aload_n 0, 1) := by decide +kernel
theorem dX12_readSymbol_73 : decode cX12_readSymbol 73 = .ok (.getfield 16, 3) := by decide +kernel
theorem dX12_readSymbol_76 : decode cX12_readSymbol 76 = .ok (.iconst 4, 1) := by decide +kernel
theorem dX12_readSymbol_77 : decode cX12_readSymbol 77 = .ok (.iload_n 1, 1) := by decide +kernel
theorem dX12_readSymbol_78 : decode cX12_readSymbol 78 = .ok (.iadd, 1) := by decide +kernel
theorem dX12_readSymbol_79 : decode cX12_readSymbol 79 = .ok (.iconst 0, 1) := by decide +kernel
theorem dX12_readSymbol_80 : decode cX12_readSymbol 80 = .ok (.iastore, 1) := by decide +kernel
theorem dX12_readSymbol_81 : decode cX12_readSymbol 81 = .ok (.aload_n 0, 1) := by decide +kernel
theorem dX12_readSymbol_82 : decode cX12_readSymbol 82 = .ok (.getfield 16, 3) := by decide +kernel
theorem dX12_readSymbol_85 : decode cX12_readSymbol 85 = .ok (.bipush 12, 2) := by decide +kernel
theorem dX12_readSymbol_87 : decode cX12_readSymbol 87 = .ok (.iload_n 1, 1) := by decide +kernel
theorem dX12_readSymbol_88 : decode cX12_readSymbol 88 = .ok (.iadd, 1) := by decide +kernel
theorem dX12_readSymbol_89 : decode cX12_readSymbol 89 = .ok (.iconst 0, 1) := by decide +kernel
theorem dX12_readSymbol_90 : decode cX12_readSymbol 90 = .ok (.iastore, 1) := by decide +kernel
theorem dX12_readSymbol_91 : decode cX12_readSymbol 91 = .ok (.aload_n 0, 1) := by decide +kernel
theorem dX12_readSymbol_92 : decode cX12_readSymbol 92 = .ok (.invokevirtual 221, 3) := by decide +kernel
theorem dX12_readSymbol_95 : decode cX12_readSymbol 95 = .ok (.aload_n 0, 1) := by decide +kernel
theorem dX12_readSymbol_96 : decode cX12_readSymbol 96 = .ok (.iconst 3, 1) := by decide +kernel
theorem dX12_readSymbol_97 : decode cX12_readSymbol 97 = .ok (.invokevirtual 236, 3) := by decide +kernel
theorem dX12_readSymbol_100 : decode cX12_readSymbol 100 = .ok (.ifCond .eq 18, 3) := by decide +kernel
theorem dX12_readSymbol_103 : decode cX12_readSymbol 103 = .ok (.aload_n 0, 1) := by decide +kernel
theorem dX12_readSymbol_104 : decode cX12_readSymbol 104 = .ok (.invokevirtual 221, 3) := by decide +kernel
theorem dX12_readSymbol_107 : decode cX12_readSymbol 107 = .ok (.aload_n 0, 1) := by decide +kernel
theorem dX12_readSymbol_108 : decode cX12_readSymbol 108 = .ok (.iload_n 1, 1) := by decide +kernel
theorem dX12_readSymbol_109 : decode cX12_readSymbol 109 = .ok (.iconst 4, 1) := by decide +kernel
theorem dX12_readSymbol_110 : decode cX12_readSymbol 110 = .ok (.invokevirtual 239, 3) := by decide +kernel
theorem dX12_readSymbol_113 : decode cX12_readSymbol 113 = .ok (.ifCond .ne 5, 3) := by decide +kernel
theorem dX12_readSymbol_116 : decode cX12_readSymbol 116 = .ok (.iconst 0, 1) := by decide +kernel
theorem dX12_readSymbol_117 : decode cX12_readSymbol 117 = .ok (.ireturn, 1) := by decide +kernel
theorem dX12_readSymbol_118 : decode cX12_readSymbol 118 = .ok (.aload_n 0, 1) := by decide +kernel
theorem dX12_readSymbol_119 : decode cX12_readSymbol 119 = .ok (.iconst 4, 1) := by decide +kernel
theorem dX12_readSymbol_120 : decode cX12_readSymbol 120 = .ok (.invokevirtual 236, 3) := by decide +kernel
theorem dX12_readSymbol_123 : decode cX12_readSymbol 123 = .ok (.ifCond .eq 19, 3) := by decide +kernel
theorem dX12_readSymbol_126 : decode cX12_readSymbol 126 = .ok (.aload_n 0, 1) := by decide +kernel
theorem dX12_readSymbol_127 : decode cX12_readSymbol 127 = .ok (.invokevirtual 221, 3) := by decide +kernel
theorem dX12_readSymbol_130 : decode cX12_readSymbol 130 = .ok (.aload_n 0, 1) := by decide +kernel
theorem dX12_readSymbol_131 : decode cX12_readSymbol 131 = .ok (.iload_n 1, 1) := by decide +kernel
theorem dX12_readSymbol_132 : decode cX12_readSymbol 132 = .ok (.bipush 12, 2) := by decide +kernel
theorem dX12_readSymbol_134 : decode cX12_readSymbol 134 = .ok (.invokevirtual 239, 3) := by decide +kernel
theorem dX12_readSymbol_137 : decode cX12_readSymbol 137 = .ok (.ifCond .ne 5, 3) := by decide +kernel
theorem dX12_readSymbol_140 : decode cX12_readSymbol 140 = .ok (.iconst 0, 1) := by decide +kernel
theorem dX12_readSymbol_141 : decode cX12_readSymbol 141 = .ok (.ireturn, 1) := by decide +kernel
theorem dX12_readSymbol_142 : decode cX12_readSymbol 142 = .ok (.aload_n 0, 1) := by decide +kernel
theorem dX12_readSymbol_143 : decode cX12_readSymbol 143 = .ok (.getfield 16, 3) := by decide +kernel
theorem dX12_readSymbol_146 : decode cX12_readSymbol 146 = .ok (.iconst 0, 1) := by decide +kernel
theorem dX12_readSymbol_147 : decode cX12_readSymbol 147 = .ok (.dup2, 1) := by decide +kernel
theorem dX12_readSymbol_148 : decode cX12_readSymbol 148 = .ok (.iaload, 1) := by decide +kernel
theorem dX12_readSymbol_149 : decode cX12_readSymbol 149 = .ok (.iconst 1, 1) := by decide +kernel
theorem dX12_readSymbol_150 : decode cX12_readSymbol 150 = .ok (.iadd, 1) := by decide +kernel
theorem dX12_readSymbol_151 : decode cX12_readSymbol 151 = .ok (.iastore, 1) := by decide +kernel
theorem dX12_readSymbol_152 : decode cX12_readSymbol 152 = .ok (.iconst 1, 1) := by decide +kernel
theorem dX12_readSymbol_153 : decode cX12_readSymbol 153 = .ok (.ireturn, 1) := by decide +kernel
theorem dX12_readProduction_0 : decode cX12_readProduction 0 = .ok (.aload_n 0, 1) := by decide +kernel
theorem dX12_readProduction_1 : decode cX12_readProduction 1 = .ok (.getfield 16, 3) := by decide +kernel
theorem dX12_readProduction_4 : decode cX12_readProduction 4 = .ok (.iconst 1, 1) := by decide +kernel
theorem dX12_readProduction_5 : decode cX12_readProduction 5 = .ok (.iaload, 1) := by decide +kernel
theorem dX12_readProduction_6 : decode cX12_readProduction 6 = .ok (.istore_n 1, 1) := by decide +kernel
theorem dX12_readProduction_7 : decode cX12_readProduction 7 = .ok (.iload_n 1, 1) := by decide +kernel
theorem dX12_readProduction_8 : decode cX12_readProduction 8 = .ok (.bipush 12, 2) := by decide +kernel
theorem dX12_readProduction_10 : decode cX12_readProduction 10 = .ok (.if_icmp .ne 10, 3) := by decide +kernel
theorem dX12_readProduction_13 : decode cX12_readProduction 13 = .ok (.aload_n 0, 1) := by decide +kernel
theorem dX12_readProduction_14 : decode cX12_readProduction 14 = .ok (.bipush 6, 2) := by decide +kernel
theorem dX12_readProduction_16 : decode cX12_readProduction 16 = .ok (.invokevirtual 218, 3) := by decide +kernel
theorem dX12_readProduction_19 : decode cX12_readProduction 19 = .ok (.ireturn, 1) := by decide +kernel
theorem dX12_readProduction_20 : decode cX12_readProduction 20 = .ok (.aload_n 0, 1) := by decide +kernel
theorem dX12_readProduction_21 : decode cX12_readProduction 21 = .ok (.invokevirtual 221, 3) := by decide +kernel
theorem dX12_readProduction_24 : decode cX12_readProduction 24 = .ok (.aload_n 0, 1) := by decide +kernel
theorem dX12_readProduction_25 : decode cX12_readProduction 25 = .ok (.invokevirtual 224, 3) := by decide +kernel
theorem dX12_readProduction_28 : decode cX12_readProduction 28 = .ok (.ifCond .ne 9, 3) := by decide +kernel
theorem dX12_readProduction_31 : decode cX12_readProduction 31 = .ok (.aload_n 0, 1) := by decide +kernel
theorem dX12_readProduction_32 : decode cX12_readProduction 32 = .ok (.iconst 2, 1) := by decide +kernel
theorem dX12_readProduction_33 : decode cX12_readProduction 33 = .ok (.invokevirtual 218, 3) := by decide +kernel
theorem dX12_readProduction_36 : decode cX12_readProduction 36 = .ok (.ireturn, 1) := by decide +kernel
theorem dX12_readProduction_37 : decode cX12_readProduction 37 = .ok (.aload_n 0, 1) := by decide +kernel
theorem dX12_readProduction_38 : decode cX12_readProduction 38 = .ok (.getfield 23, 3) := by decide +kernel
theorem dX12_readProduction_41 : decode cX12_readProduction 41 = .ok (.bipush 8, 2) := by decide +kernel
theorem dX12_readProduction_43 : decode cX12_readProduction 43 = .ok (.iload_n 1, 1) := by decide +kernel
theorem dX12_readProduction_44 : decode cX12_readProduction 44 = .ok (.aload_n 0, 1) := by decide +kernel
theorem dX12_readProduction_45 : decode cX12_readProduction 45 = .ok (.getfield 181, 3) := by decide +kernel
theorem dX12_readProduction_48 : decode cX12_readProduction 48 = .ok (.invokestatic 232, 3) := by decide +kernel
theorem dX12_readProduction_51 : decode cX12_readProduction 51 = .ok (.iconst (-1), 1) := by decide +kernel
theorem dX12_readProduction_52 : decode cX12_readProduction 52 = .ok (.if_icmp .eq 9, 3) := by decide +kernel
theorem dX12_readProduction_55 : decode cX12_readProduction 55 = .ok (.aload_n 0, 1) := by decide +kernel
theorem dX12_readProduction_56 : decode cX12_readProduction 56 = .ok (.iconst 4, 1) := by decide +kernel
theorem dX12_readProduction_57 : decode cX12_readProduction 57 = .ok (.invokevirtual 218, 3) := by decide +kernel
theorem dX12_readProduction_60 : decode cX12_readProduction 60 = .ok (.ireturn, 1) := by decide +kernel
theorem dX12_readProduction_61 : decode cX12_readProduction 61 = .ok (.aload_n 0, 1) := by decide +kernel
theorem dX12_readProduction_62 : decode cX12_readProduction 62 = .ok (.getfield 23, 3) := by decide +kernel
theorem dX12_readProduction_65 : decode cX12_readProduction 65 = .ok (.bipush 8, 2) := by decide +kernel
theorem dX12_readProduction_67 : decode cX12_readProduction 67 = .ok (.iload_n 1, 1) := by decide +kernel
theorem dX12_readProduction_68 : decode cX12_readProduction 68 = .ok (.iadd, 1) := by decide +kernel
theorem dX12_readProduction_69 : decode cX12_readProduction 69 = .ok (.aload_n 0, 1) := by decide +kernel
theorem dX12_readProduction_70 : decode cX12_readProduction 70 = .ok (.getfield 181, 3) := by decide +kernel
theorem dX12_readProduction_73 : decode cX12_readProduction 73 = .ok (.lastore, 1) := by decide +kernel
theorem dX12_readProduction_74 : decode cX12_readProduction 74 = .ok (.aload_n 0, 1) := by decide +kernel
theorem dX12_readProduction_75 : decode cX12_readProduction 75 = .ok (.invokevirtual 221, 3) := by decide +kernel
theorem dX12_readProduction_78 : decode cX12_readProduction 78 = .ok (.aload_n 0, 1) := by decide +kernel
theorem dX12_readProduction_79 : decode cX12_readProduction 79 = .ok (.bipush 58, 2) := by decide +kernel
theorem dX12_readProduction_81 : decode cX12_readProduction 81 = .ok (.invokevirtual 243, 3) := by decide +kernel
theorem dX12_readProduction_84 : decode cX12_readProduction 84 = .ok (.ifCond .ne 5, 3) := by decide +kernel
theorem dX12_readProduction_87 : decode cX12_readProduction 87 = .ok (.iconst 0, 1) := by decide +kernel
theorem dX12_readProduction_88 : decode cX12_readProduction 88 = .ok (.ireturn, 1) := by decide +kernel
theorem dX12_readProduction_89 : decode cX12_readProduction 89 = .ok (.aload_n 0, 1) := by decide +kernel
theorem dX12_readProduction_90 : decode cX12_readProduction 90 = .ok (.invokevirtual 224, 3) := by decide +kernel
theorem dX12_readProduction_93 : decode cX12_readProduction 93 = .ok (.ifCond .ne 9, 3) := by decide +kernel
theorem dX12_readProduction_96 : decode cX12_readProduction 96 = .ok (.aload_n 0, 1) := by decide +kernel
theorem dX12_readProduction_97 : decode cX12_readProduction 97 = .ok (.iconst 2, 1) := by decide +kernel
theorem dX12_readProduction_98 : decode cX12_readProduction 98 = .ok (.invokevirtual 218, 3) := by decide +kernel
theorem dX12_readProduction_101 : decode cX12_readProduction 101 = .ok (.ireturn, 1) := by decide +kernel
theorem dX12_readProduction_102 : decode cX12_readProduction 102 = .ok (.aload_n 0, 1) := by decide +kernel
theorem dX12_readProduction_103 : decode cX12_readProduction 103 = .ok (.getfield 23, 3) := by decide +kernel
theorem dX12_readProduction_106 : decode cX12_readProduction 106 = .ok (.iconst 0, 1) := by decide +kernel
theorem dX12_readProduction_107 : decode cX12_readProduction 107 = .ok (.aload_n 0, 1) := by decide +kernel
theorem dX12_readProduction_108 : decode cX12_readProduction 108 = .ok (.getfield 16, 3) := by decide +kernel
theorem dX12_readProduction_111 : decode cX12_readProduction 111 = .ok (.iconst 0, 1) := by decide +kernel
theorem dX12_readProduction_112 : decode cX12_readProduction 112 = .ok (.iaload, 1) := by decide +kernel
theorem dX12_readProduction_113 : decode cX12_readProduction 113 = .ok (.aload_n 0, 1) := by decide +kernel
theorem dX12_readProduction_114 : decode cX12_readProduction 114 = .ok (.getfield 181, 3) := by decide +kernel
theorem dX12_readProduction_117 : decode cX12_readProduction 117 = .ok (.invokestatic 232, 3) := by decide +kernel
theorem dX12_readProduction_120 : decode cX12_readProduction 120 = .ok (.istore_n 2, 1) := by decide +kernel
theorem dX12_readProduction_121 : decode cX12_readProduction 121 = .ok (.iload_n 2, 1) := by decide +kernel
theorem dX12_readProduction_122 : decode cX12_readProduction 122 = .ok (.iconst (-1), 1) := by decide +kernel
theorem dX12_readProduction_123 : decode cX12_readProduction 123 = .ok (.if_icmp .ne 9, 3) := by decide +kernel
theorem dX12_readProduction_126 : decode cX12_readProduction 126 = .ok (.aload_n 0, 1) := by decide +kernel
theorem dX12_readProduction_127 : decode cX12_readProduction 127 = .ok (.iconst 3, 1) := by decide +kernel
theorem dX12_readProduction_128 : decode cX12_readProduction 128 = .ok (.invokevirtual 218, 3) := by decide +kernel
theorem dX12_readProduction_131 : decode cX12_readProduction 131 = .ok (.ireturn, 1) := by decide +kernel
theorem dX12_readProduction_132 : decode cX12_readProduction 132 = .ok (.aload_n 0, 1) := by decide +kernel
theorem dX12_readProduction_133 : decode cX12_readProduction 133 = .ok (.getfield 16, 3) := by decide +kernel
theorem dX12_readProduction_136 : decode cX12_readProduction 136 = .ok (.bipush 20, 2) := by decide +kernel
theorem dX12_readProduction_138 : decode cX12_readProduction 138 = .ok (.iload_n 1, 1) := by decide +kernel
theorem dX12_readProduction_139 : decode cX12_readProduction 139 = .ok (.iadd, 1) := by decide +kernel
theorem dX12_readProduction_140 : decode cX12_readProduction 140 = .ok (.iload_n 2, 1) := by decide +kernel
theorem dX12_readProduction_141 : decode cX12_readProduction 141 = .ok (.iastore, 1) := by decide +kernel
theorem dX12_readProduction_142 : decode cX12_readProduction 142 = .ok (.aload_n 0, 1) := by decide +kernel
theorem dX12_readProduction_143 : decode cX12_readProduction 143 = .ok (.getfield 16, 3) := by decide +kernel
theorem dX12_readProduction_146 : decode cX12_readProduction 146 = .ok (.bipush 32, 2) := by decide +kernel
theorem dX12_readProduction_148 : decode cX12_readProduction 148 = .ok (.iload_n 1, 1) := by decide +kernel
theorem dX12_readProduction_149 : decode cX12_readProduction 149 = .ok (.iadd, 1) := by decide +kernel
theorem dX12_readProduction_150 : decode cX12_readProduction 150 = .ok (.iconst 0, 1) := by decide +kernel
theorem dX12_readProduction_151 : decode cX12_readProduction 151 = .ok (.iastore, 1) := by decide +kernel
theorem dX12_readProduction_152 : decode cX12_readProduction 152 = .ok (.aload_n 0, 1) := by decide +kernel
theorem dX12_readProduction_153 : decode cX12_readProduction 153 = .ok (.invokevirtual 221, 3) := by decide +kernel
theorem dX12_readProduction_156 : decode cX12_readProduction 156 = .ok (.aload_n 0, 1) := by decide +kernel
theorem dX12_readProduction_157 : decode cX12_readProduction 157 = .ok (.invokevirtual 224, 3) := by decide +kernel
theorem dX12_readProduction_160 : decode cX12_readProduction 160 = .ok (.ifCond .eq 95, 3) := by decide +kernel
theorem dX12_readProduction_163 : decode cX12_readProduction 163 = .ok (.aload_n 0, 1) := by decide +kernel
theorem dX12_readProduction_164 : decode cX12_readProduction 164 = .ok (.getfield 23, 3) := by decide +kernel
theorem dX12_readProduction_167 : decode cX12_readProduction 167 = .ok (.iconst 0, 1) := by decide +kernel
theorem dX12_readProduction_168 : decode cX12_readProduction 168 = .ok (.aload_n 0, 1) := by decide +kernel
theorem dX12_readProduction_169 : decode cX12_readProduction 169 = .ok (.getfield 16, 3) := by decide +kernel
theorem dX12_readProduction_172 : decode cX12_readProduction 172 = .ok (.iconst 0, 1) := by decide +kernel
theorem dX12_readProduction_173 : decode cX12_readProduction 173 = .ok (.iaload, 1) := by decide +kernel
theorem dX12_readProduction_174 : decode cX12_readProduction 174 = .ok (.aload_n 0, 1) := by decide +kernel
theorem dX12_readProduction_175 : decode cX12_readProduction 175 = .ok (.getfield 181, 3) := by decide +kernel
theorem dX12_readProduction_178 : decode cX12_readProduction 178 = .ok (.invokestatic 232, 3) := by decide +kernel
theorem dX12_readProduction_181 : decode cX12_readProduction 181 = .ok (.istore_n 2, 1) := by decide +kernel
theorem dX12_readProduction_182 : decode cX12_readProduction 182 = .ok (.iload_n 2, 1) := by decide +kernel
theorem dX12_readProduction_183 : decode cX12_readProduction 183 = .ok (.iconst (-1), 1) := by decide +kernel
theorem dX12_readProduction_184 : decode cX12_readProduction 184 = .ok (.if_icmp .ne 9, 3) := by decide +kernel
theorem dX12_readProduction_187 : decode cX12_readProduction 187 = .ok (.aload_n 0, 1) := by decide +kernel
theorem dX12_readProduction_188 : decode cX12_readProduction 188 = .ok (.iconst 3, 1) := by decide +kernel
theorem dX12_readProduction_189 : decode cX12_readProduction 189 = .ok (.invokevirtual 218, 3) := by decide +kernel
theorem dX12_readProduction_192 : decode cX12_readProduction 192 = .ok (.ireturn, 1) := by decide +kernel
theorem dX12_readProduction_193 : decode cX12_readProduction 193 = .ok (.aload_n 0, 1) := by decide +kernel
theorem dX12_readProduction_194 : decode cX12_readProduction 194 = .ok (.getfield 16, 3) := by decide +kernel
theorem dX12_readProduction_197 : decode cX12_readProduction 197 = .ok (.bipush 32, 2) := by decide +kernel
theorem dX12_readProduction_199 : decode cX12_readProduction 199 = .ok (.iload_n 1, 1) := by decide +kernel
theorem dX12_readProduction_200 : decode cX12_readProduction 200 = .ok (.iadd, 1) := by decide +kernel
theorem dX12_readProduction_201 : decode cX12_readProduction 201 = .ok (.iaload, 1) := by decide +kernel
theorem dX12_readProduction_202 : decode cX12_readProduction 202 = .ok (.iconst 3, 1) := by decide +kernel
theorem dX12_readProduction_203 : decode cX12_readProduction 203 = .ok (.if_icmp .ne 10, 3) := by decide +kernel
theorem dX12_readProduction_206 : decode cX12_readProduction 206 = .ok (.aload_n 0, 1) := by decide +kernel
theorem dX12_readProduction_207 : decode cX12_readProduction 207 = .ok (.bipush 6, 2) := by decide +kernel
theorem dX12_readProduction_209 : decode cX12_readProduction 209 = .ok (.invokevirtual 218, 3) := by decide +kernel
theorem dX12_readProduction_212 : decode cX12_readProduction 212 = .ok (.ireturn, 1) := by decide +kernel
theorem dX12_readProduction_213 : decode cX12_readProduction 213 = .ok (.aload_n 0, 1) := by decide +kernel
theorem dX12_readProduction_214 : decode cX12_readProduction 214 = .ok (.getfield 16, 3) := by decide +kernel
theorem dX12_readProduction_217 : decode cX12_readProduction 217 = .ok (.bipush 44, 2) := by decide +kernel
theorem dX12_readProduction_219 : decode cX12_readProduction 219 = .ok (.iconst 3, 1) := by decide +kernel
theorem dX12_readProduction_220 : decode cX12_readProduction 220 = .ok (.iload_n 1, 1) := by decide +kernel
theorem dX12_readProduction_221 : decode cX12_readProduction 221 = .ok (.imul, 1) := by decide +kernel
theorem dX12_readProduction_222 : decode cX12_readProduction 222 = .ok (.iadd, 1) := by decide +kernel
theorem dX12_readProduction_223 : decode cX12_readProduction 223 = .ok (.aload_n 0, 1) := by decide +kernel
theorem dX12_readProduction_224 : decode cX12_readProduction 224 = .ok (.getfield 16, 3) := by decide +kernel
theorem dX12_readProduction_227 : decode cX12_readProduction 227 = .ok (.bipush 32, 2) := by decide +kernel
theorem dX12_readProduction_229 : decode cX12_readProduction 229 = .ok (.iload_n 1, 1) := by decide +kernel
theorem dX12_readProduction_230 : decode cX12_readProduction 230 = .ok (.iadd, 1) := by decide +kernel
theorem dX12_readProduction_231 : decode cX12_readProduction 231 = .ok (.iaload, 1) := by decide +kernel
theorem dX12_readProduction_232 : decode cX12_readProduction 232 = .ok (.iadd, 1) := by decide +kernel
theorem dX12_readProduction_233 : decode cX12_readProduction 233 = .ok (.iload_n 2, 1) := by decide +kernel
theorem dX12_readProduction_234 : decode cX12_readProduction 234 = .ok (.iastore, 1) := by decide +kernel
theorem dX12_readProduction_235 : decode cX12_readProduction 235 = .ok (.aload_n 0, 1) := by decide +kernel
theorem dX12_readProduction_236 : decode cX12_readProduction 236 = .ok (.getfield 16, 3) := by decide +kernel
theorem dX12_readProduction_239 : decode cX12_readProduction 239 = .ok (.bipush 32, 2) := by decide +kernel
theorem dX12_readProduction_241 : decode cX12_readProduction 241 = .ok (.iload_n 1, 1) := by decide +kernel
theorem dX12_readProduction_242 : decode cX12_readProduction 242 = .ok (.iadd, 1) := by decide +kernel
theorem dX12_readProduction_243 : decode cX12_readProduction 243 = .ok (.dup2, 1) := by decide +kernel
theorem dX12_readProduction_244 : decode cX12_readProduction 244 = .ok (.iaload, 1) := by decide +kernel
theorem dX12_readProduction_245 : decode cX12_readProduction 245 = .ok (.iconst 1, 1) := by decide +kernel
theorem dX12_readProduction_246 : decode cX12_readProduction 246 = .ok (.iadd, 1) := by decide +kernel
theorem dX12_readProduction_247 : decode cX12_readProduction 247 = .ok (.iastore, 1) := by decide +kernel
theorem dX12_readProduction_248 : decode cX12_readProduction 248 = .ok (.aload_n 0, 1) := by decide +kernel
theorem dX12_readProduction_249 : decode cX12_readProduction 249 = .ok (.invokevirtual 221, 3) := by decide +kernel
theorem dX12_readProduction_252 : decode cX12_readProduction 252 = .ok (.goto (-96), 3) := by decide +kernel
theorem dX12_readProduction_255 : decode cX12_readProduction 255 = .ok (.iconst 0, 1) := by decide +kernel
theorem dX12_readProduction_256 : decode cX12_readProduction 256 = .ok (.istore_n 3, 1) := by decide +kernel
theorem dX12_readProduction_257 : decode cX12_readProduction 257 = .ok (.iload_n 3, 1) := by decide +kernel
theorem dX12_readProduction_258 : decode cX12_readProduction 258 = .ok (.bipush 32, 2) := by decide +kernel
theorem dX12_readProduction_260 : decode cX12_readProduction 260 = .ok (.if_icmp .ge 72, 3) := by decide +kernel
theorem dX12_readProduction_263 : decode cX12_readProduction 263 = .ok (.aload_n 0, 1) := by decide +kernel
theorem dX12_readProduction_264 : decode cX12_readProduction 264 = .ok (.getfield 16, 3) := by decide +kernel
theorem dX12_readProduction_267 : decode cX12_readProduction 267 = .ok (.sipush 1232, 3) := by decide +kernel
theorem dX12_readProduction_270 : decode cX12_readProduction 270 = .ok (.bipush 32, 2) := by decide +kernel
theorem dX12_readProduction_272 : decode cX12_readProduction 272 = .ok (.iload_n 1, 1) := by decide +kernel
theorem dX12_readProduction_273 : decode cX12_readProduction 273 = .ok (.imul, 1) := by decide +kernel
theorem dX12_readProduction_274 : decode cX12_readProduction 274 = .ok (.iadd, 1) := by decide +kernel
theorem dX12_readProduction_275 : decode cX12_readProduction 275 = .ok (.iload_n 3, 1) := by decide +kernel
theorem dX12_readProduction_276 : decode cX12_readProduction 276 = .ok (.iadd, 1) := by decide +kernel
theorem dX12_readProduction_277 : decode cX12_readProduction 277 = .ok (.iconst 0, 1) := by decide +kernel
theorem dX12_readProduction_278 : decode cX12_readProduction 278 = .ok (.iastore, 1) := by decide +kernel
theorem dX12_readProduction_279 : decode cX12_readProduction 279 = .ok (.aload_n 0, 1) := by decide +kernel
theorem dX12_readProduction_280 : decode cX12_readProduction 280 = .ok (.getfield 16, 3) := by decide +kernel
theorem dX12_readProduction_283 : decode cX12_readProduction 283 = .ok (.sipush 848, 3) := by decide +kernel
theorem dX12_readProduction_286 : decode cX12_readProduction 286 = .ok (.bipush 32, 2) := by decide +kernel
theorem dX12_readProduction_288 : decode cX12_readProduction 288 = .ok (.iload_n 1, 1) := by decide +kernel
theorem dX12_readProduction_289 : decode cX12_readProduction 289 = .ok (.imul, 1) := by decide +kernel
theorem dX12_readProduction_290 : decode cX12_readProduction 290 = .ok (.iadd, 1) := by decide +kernel
theorem dX12_readProduction_291 : decode cX12_readProduction 291 = .ok (.iload_n 3, 1) := by decide +kernel
theorem dX12_readProduction_292 : decode cX12_readProduction 292 = .ok (.iadd, 1) := by decide +kernel
theorem dX12_readProduction_293 : decode cX12_readProduction 293 = .ok (.iconst 0, 1) := by decide +kernel
theorem dX12_readProduction_294 : decode cX12_readProduction 294 = .ok (.iastore, 1) := by decide +kernel
theorem dX12_readProduction_295 : decode cX12_readProduction 295 = .ok (.aload_n 0, 1) := by decide +kernel
theorem dX12_readProduction_296 : decode cX12_readProduction 296 = .ok (.getfield 16, 3) := by decide +kernel
theorem dX12_readProduction_299 : decode cX12_readProduction 299 = .ok (.bipush 80, 2) := by decide +kernel
theorem dX12_readProduction_301 : decode cX12_readProduction 301 = .ok (.bipush 32, 2) := by decide +kernel
theorem dX12_readProduction_303 : decode cX12_readProduction 303 = .ok (.iload_n 1, 1) := by decide +kernel
theorem dX12_readProduction_304 : decode cX12_readProduction 304 = .ok (.imul, 1) := by decide +kernel
theorem dX12_readProduction_305 : decode cX12_readProduction 305 = .ok (.iadd, 1) := by decide +kernel
theorem dX12_readProduction_306 : decode cX12_readProduction 306 = .ok (.iload_n 3, 1) := by decide +kernel
theorem dX12_readProduction_307 : decode cX12_readProduction 307 = .ok (.iadd, 1) := by decide +kernel
theorem dX12_readProduction_308 : decode cX12_readProduction 308 = .ok (.iconst 0, 1) := by decide +kernel
theorem dX12_readProduction_309 : decode cX12_readProduction 309 = .ok (.iastore, 1) := by decide +kernel
theorem dX12_readProduction_310 : decode cX12_readProduction 310 = .ok (.aload_n 0, 1) := by decide +kernel
theorem dX12_readProduction_311 : decode cX12_readProduction 311 = .ok (.getfield 16, 3) := by decide +kernel
theorem dX12_readProduction_314 : decode cX12_readProduction 314 = .ok (.sipush 464, 3) := by decide +kernel
theorem dX12_readProduction_317 : decode cX12_readProduction 317 = .ok (.bipush 32, 2) := by decide +kernel
theorem dX12_readProduction_319 : decode cX12_readProduction 319 = .ok (.iload_n 1, 1) := by decide +kernel
theorem dX12_readProduction_320 : decode cX12_readProduction 320 = .ok (.imul, 1) := by decide +kernel
theorem dX12_readProduction_321 : decode cX12_readProduction 321 = .ok (.iadd, 1) := by decide +kernel
theorem dX12_readProduction_322 : decode cX12_readProduction 322 = .ok (.iload_n 3, 1) := by decide +kernel
theorem dX12_readProduction_323 : decode cX12_readProduction 323 = .ok (.iadd, 1) := by decide +kernel
theorem dX12_readProduction_324 : decode cX12_readProduction 324 = .ok (.iconst 0, 1) := by decide +kernel
theorem dX12_readProduction_325 : decode cX12_readProduction 325 = .ok (.iastore, 1) := by decide +kernel
theorem dX12_readProduction_326 : decode cX12_readProduction 326 = .ok (.iinc 3 1, 3) := by decide +kernel
theorem dX12_readProduction_329 : decode cX12_readProduction 329 = .ok (.goto (-72), 3) := by decide +kernel
theorem dX12_readProduction_332 : decode cX12_readProduction 332 = .ok (.aload_n 0, 1) := by decide +kernel
theorem dX12_readProduction_333 : decode cX12_readProduction 333 = .ok (.getfield 16, 3) := by decide +kernel
theorem dX12_readProduction_336 : decode cX12_readProduction 336 = .ok (.iconst 1, 1) := by decide +kernel
theorem dX12_readProduction_337 : decode cX12_readProduction 337 = .ok (.dup2, 1) := by decide +kernel
theorem dX12_readProduction_338 : decode cX12_readProduction 338 = .ok (.iaload, 1) := by decide +kernel
theorem dX12_readProduction_339 : decode cX12_readProduction 339 = .ok (.iconst 1, 1) := by decide +kernel
theorem dX12_readProduction_340 : decode cX12_readProduction 340 = .ok (.iadd, 1) := by decide +kernel
theorem dX12_readProduction_341 : decode cX12_readProduction 341 = .ok (.iastore, 1) := by decide +kernel
theorem dX12_readProduction_342 : decode cX12_readProduction 342 = .ok (.iconst 1, 1) := by decide +kernel
theorem dX12_readProduction_343 : decode cX12_readProduction 343 = .ok (.ireturn, 1) := by decide +kernel
theorem dX12_symbolAt_0 : decode cX12_symbolAt 0 = .ok (.iload_n 2, 1) := by decide +kernel
theorem dX12_symbolAt_1 : decode cX12_symbolAt 1 = .ok (.ifCond .ne 12, 3) := by decide +kernel
theorem dX12_symbolAt_4 : decode cX12_symbolAt 4 = .ok (.aload_n 0, 1) := by decide +kernel
theorem dX12_symbolAt_5 : decode cX12_symbolAt 5 = .ok (.bipush 20, 2) := by decide +kernel
theorem dX12_symbolAt_7 : decode cX12_symbolAt 7 = .ok (.iload_n 1, 1) := by decide +kernel
theorem dX12_symbolAt_8 : decode cX12_symbolAt 8 = .ok (.iadd, 1) := by decide +kernel
theorem dX12_symbolAt_9 : decode cX12_symbolAt 9 = .ok (.iaload, 1) := by decide +kernel
theorem dX12_symbolAt_10 : decode cX12_symbolAt 10 = .ok (.goto 15, 3) := by decide +kernel
theorem dX12_symbolAt_13 : decode cX12_symbolAt 13 = .ok (.aload_n 0, 1) := by decide +kernel
theorem dX12_symbolAt_14 : decode cX12_symbolAt 14 = .ok (.bipush 44, 2) := by decide +kernel
theorem dX12_symbolAt_16 : decode cX12_symbolAt 16 = .ok (.iconst 3, 1) := by decide +kernel
theorem dX12_symbolAt_17 : decode cX12_symbolAt 17 = .ok (.iload_n 1, 1) := by decide +kernel
theorem dX12_symbolAt_18 : decode cX12_symbolAt 18 = .ok (.imul, 1) := by decide +kernel
theorem dX12_symbolAt_19 : decode cX12_symbolAt 19 = .ok (.iadd, 1) := by decide +kernel
theorem dX12_symbolAt_20 : decode cX12_symbolAt 20 = .ok (.iload_n 2, 1) := by decide +kernel
theorem dX12_symbolAt_21 : decode cX12_symbolAt 21 = .ok (.iadd, 1) := by decide +kernel
theorem dX12_symbolAt_22 : decode cX12_symbolAt 22 = .ok (.iconst 1, 1) := by decide +kernel
theorem dX12_symbolAt_23 : decode cX12_symbolAt 23 = .ok (.isub, 1) := by decide +kernel
theorem dX12_symbolAt_24 : decode cX12_symbolAt 24 = .ok (.iaload, 1) := by decide +kernel
theorem dX12_symbolAt_25 : decode cX12_symbolAt 25 = .ok (.ireturn, 1) := by decide +kernel
theorem dX12_isPosition_0 : decode cX12_isPosition 0 = .ok (.iload_n 2, 1) := by decide +kernel
theorem dX12_isPosition_1 : decode cX12_isPosition 1 = .ok (.iconst 0, 1) := by decide +kernel
theorem dX12_isPosition_2 : decode cX12_isPosition 2 = .ok (.aload_n 0, 1) := by decide +kernel
theorem dX12_isPosition_3 : decode cX12_isPosition 3 = .ok (.bipush 32, 2) := by decide +kernel
theorem dX12_isPosition_5 : decode cX12_isPosition 5 = .ok (.iload_n 1, 1) := by decide +kernel
theorem dX12_isPosition_6 : decode cX12_isPosition 6 = .ok (.iadd, 1) := by decide +kernel
theorem dX12_isPosition_7 : decode cX12_isPosition 7 = .ok (.iaload, 1) := by decide +kernel
theorem dX12_isPosition_8 : decode cX12_isPosition 8 = .ok (.invokestatic 246, 3) := by decide +kernel
theorem dX12_isPosition_11 : decode cX12_isPosition 11 = .ok (.ireturn, 1) := by decide +kernel
theorem dX12_canTell_0 : decode cX12_canTell 0 = .ok (.iload_n 2, 1) := by decide +kernel
theorem dX12_canTell_1 : decode cX12_canTell 1 = .ok (.bipush 8, 2) := by decide +kernel
theorem dX12_canTell_3 : decode cX12_canTell 3 = .ok (.idiv, 1) := by decide +kernel
theorem dX12_canTell_4 : decode cX12_canTell 4 = .ok (.istore_n 3, 1) := by decide +kernel
theorem dX12_canTell_5 : decode cX12_canTell 5 = .ok (.iload_n 2, 1) := by decide +kernel
theorem dX12_canTell_6 : decode cX12_canTell 6 = .ok (.bipush 8, 2) := by decide +kernel
theorem dX12_canTell_8 : decode cX12_canTell 8 = .ok (.irem, 1) := by decide +kernel
theorem dX12_canTell_9 : decode cX12_canTell 9 = .ok (.aload_n 0, 1) := by decide +kernel
theorem dX12_canTell_10 : decode cX12_canTell 10 = .ok (.iconst 4, 1) := by decide +kernel
theorem dX12_canTell_11 : decode cX12_canTell 11 = .ok (.aload_n 0, 1) := by decide +kernel
theorem dX12_canTell_12 : decode cX12_canTell 12 = .ok (.iload_n 1, 1) := by decide +kernel
theorem dX12_canTell_13 : decode cX12_canTell 13 = .ok (.iload_n 3, 1) := by decide +kernel
theorem dX12_canTell_14 : decode cX12_canTell 14 = .ok (.invokestatic 250, 3) := by decide +kernel
theorem dX12_canTell_17 : decode cX12_canTell 17 = .ok (.iadd, 1) := by decide +kernel
theorem dX12_canTell_18 : decode cX12_canTell 18 = .ok (.iaload, 1) := by decide +kernel
theorem dX12_canTell_19 : decode cX12_canTell 19 = .ok (.if_icmp .lt 7, 3) := by decide +kernel
theorem dX12_canTell_22 : decode cX12_canTell 22 = .ok (.iconst 1, 1) := by decide +kernel
theorem dX12_canTell_23 : decode cX12_canTell 23 = .ok (.goto 4, 3) := by decide +kernel
theorem dX12_canTell_26 : decode cX12_canTell 26 = .ok (.iconst 0, 1) := by decide +kernel
theorem dX12_canTell_27 : decode cX12_canTell 27 = .ok (.istore 4, 2) := by decide +kernel
theorem dX12_canTell_29 : decode cX12_canTell 29 = .ok (.iload_n 3, 1) := by decide +kernel
theorem dX12_canTell_30 : decode cX12_canTell 30 = .ok (.ifCond .ne 8, 3) := by decide +kernel
theorem dX12_canTell_33 : decode cX12_canTell 33 = .ok (.iload 4, 2) := by decide +kernel
theorem dX12_canTell_35 : decode cX12_canTell 35 = .ok (.goto 13, 3) := by decide +kernel
theorem dX12_canTell_38 : decode cX12_canTell 38 = .ok (.iload 4, 2) := by decide +kernel
theorem dX12_canTell_40 : decode cX12_canTell 40 = .ok (.ifCond .ne 7, 3) := by decide +kernel
theorem dX12_canTell_43 : decode cX12_canTell 43 = .ok (.iconst 1, 1) := by decide +kernel
theorem dX12_canTell_44 : decode cX12_canTell 44 = .ok (.goto 4, 3) := by decide +kernel
theorem dX12_canTell_47 : decode cX12_canTell 47 = .ok (.iconst 0, 1) := by decide +kernel
theorem dX12_canTell_48 : decode cX12_canTell 48 = .ok (.ireturn, 1) := by decide +kernel
theorem dX12_readOccName_0 : decode cX12_readOccName 0 = .ok (.aload_n 0, 1) := by decide +kernel
theorem dX12_readOccName_1 : decode cX12_readOccName 1 = .ok (.bipush 46, 2) := by decide +kernel
theorem dX12_readOccName_3 : decode cX12_readOccName 3 = .ok (.invokevirtual 243, 3) := by decide +kernel
theorem dX12_readOccName_6 : decode cX12_readOccName 6 = .ok (.ifCond .ne 5, 3) := by decide +kernel
theorem dX12_readOccName_9 : decode cX12_readOccName 9 = .ok (.iconst 0, 1) := by decide +kernel
theorem dX12_readOccName_10 : decode cX12_readOccName 10 = .ok (.ireturn, 1) := by decide +kernel
theorem dX12_readOccName_11 : decode cX12_readOccName 11 = .ok (.aload_n 0, 1) := by decide +kernel
theorem dX12_readOccName_12 : decode cX12_readOccName 12 = .ok (.invokevirtual 224, 3) := by decide +kernel
theorem dX12_readOccName_15 : decode cX12_readOccName 15 = .ok (.ifCond .ne 9, 3) := by decide +kernel
theorem dX12_readOccName_18 : decode cX12_readOccName 18 = .ok (.aload_n 0, 1) := by decide +kernel
theorem dX12_readOccName_19 : decode cX12_readOccName 19 = .ok (.iconst 2, 1) := by decide +kernel
theorem dX12_readOccName_20 : decode cX12_readOccName 20 = .ok (.invokevirtual 218, 3) := by decide +kernel
theorem dX12_readOccName_23 : decode cX12_readOccName 23 = .ok (.ireturn, 1) := by decide +kernel
theorem dX12_readOccName_24 : decode cX12_readOccName 24 = .ok (.aload_n 0, 1) := by decide +kernel
theorem dX12_readOccName_25 : decode cX12_readOccName 25 = .ok (.getfield 16, 3) := by decide +kernel
theorem dX12_readOccName_28 : decode cX12_readOccName 28 = .ok (.iload_n 1, 1) := by decide +kernel
theorem dX12_readOccName_29 : decode cX12_readOccName 29 = .ok (.iload_n 2, 1) := by decide +kernel
theorem dX12_readOccName_30 : decode cX12_readOccName 30 = .ok (.invokestatic 250, 3) := by decide +kernel
theorem dX12_readOccName_33 : decode cX12_readOccName 33 = .ok (.istore_n 3, 1) := by decide +kernel
theorem dX12_readOccName_34 : decode cX12_readOccName 34 = .ok (.aload_n 0, 1) := by decide +kernel
theorem dX12_readOccName_35 : decode cX12_readOccName 35 = .ok (.getfield 23, 3) := by decide +kernel
theorem dX12_readOccName_38 : decode cX12_readOccName 38 = .ok (.bipush 20, 2) := by decide +kernel
theorem dX12_readOccName_40 : decode cX12_readOccName 40 = .ok (.bipush 8, 2) := by decide +kernel
theorem dX12_readOccName_42 : decode cX12_readOccName 42 = .ok (.iload_n 3, 1) := by decide +kernel
theorem dX12_readOccName_43 : decode cX12_readOccName 43 = .ok (.imul, 1) := by decide +kernel
theorem dX12_readOccName_44 : decode cX12_readOccName 44 = .ok (.iadd, 1) := by decide +kernel
theorem dX12_readOccName_45 : decode cX12_readOccName 45 = .ok (.aload_n 0, 1) := by decide +kernel
theorem dX12_readOccName_46 : decode cX12_readOccName 46 = .ok (.getfield 16, 3) := by decide +kernel
theorem dX12_readOccName_49 : decode cX12_readOccName 49 = .ok (.iload_n 3, 1) := by decide +kernel
theorem dX12_readOccName_50 : decode cX12_readOccName 50 = .ok (.invokestatic 228, 3) := by decide +kernel
theorem dX12_readOccName_53 : decode cX12_readOccName 53 = .ok (.aload_n 0, 1) := by decide +kernel
theorem dX12_readOccName_54 : decode cX12_readOccName 54 = .ok (.getfield 181, 3) := by decide +kernel
theorem dX12_readOccName_57 : decode cX12_readOccName 57 = .ok (.invokestatic 232, 3) := by decide +kernel
theorem dX12_readOccName_60 : decode cX12_readOccName 60 = .ok (.istore 4, 2) := by decide +kernel
theorem dX12_readOccName_62 : decode cX12_readOccName 62 = .ok (.iload 4, 2) := by decide +kernel
theorem dX12_readOccName_64 : decode cX12_readOccName 64 = .ok (.iconst (-1), 1) := by decide +kernel
theorem dX12_readOccName_65 : decode cX12_readOccName 65 = .ok (.if_icmp .ne 9, 3) := by decide +kernel
theorem dX12_readOccName_68 : decode cX12_readOccName 68 = .ok (.aload_n 0, 1) := by decide +kernel
theorem dX12_readOccName_69 : decode cX12_readOccName 69 = .ok (.iconst 3, 1) := by decide +kernel
theorem dX12_readOccName_70 : decode cX12_readOccName 70 = .ok (.invokevirtual 218, 3) := by decide +kernel
theorem dX12_readOccName_73 : decode cX12_readOccName 73 = .ok (.ireturn, 1) := by decide +kernel
theorem dX12_readOccName_74 : decode cX12_readOccName 74 = .ok (.aload_n 0, 1) := by decide +kernel
theorem dX12_readOccName_75 : decode cX12_readOccName 75 = .ok (.bipush 8, 2) := by decide +kernel
theorem dX12_readOccName_77 : decode cX12_readOccName 77 = .ok (.iload_n 2, 1) := by decide +kernel
theorem dX12_readOccName_78 : decode cX12_readOccName 78 = .ok (.imul, 1) := by decide +kernel
theorem dX12_readOccName_79 : decode cX12_readOccName 79 = .ok (.iload 4, 2) := by decide +kernel
theorem dX12_readOccName_81 : decode cX12_readOccName 81 = .ok (.iadd, 1) := by decide +kernel
theorem dX12_readOccName_82 : decode cX12_readOccName 82 = .ok (.putfield 254, 3) := by decide +kernel
theorem dX12_readOccName_85 : decode cX12_readOccName 85 = .ok (.iconst 1, 1) := by decide +kernel
theorem dX12_readOccName_86 : decode cX12_readOccName 86 = .ok (.ireturn, 1) := by decide +kernel
theorem dX12_readRule_0 : decode cX12_readRule 0 = .ok (.aload_n 0, 1) := by decide +kernel
theorem dX12_readRule_1 : decode cX12_readRule 1 = .ok (.invokevirtual 221, 3) := by decide +kernel
theorem dX12_readRule_4 : decode cX12_readRule 4 = .ok (.aload_n 0, 1) := by decide +kernel
theorem dX12_readRule_5 : decode cX12_readRule 5 = .ok (.invokevirtual 224, 3) := by decide +kernel
theorem dX12_readRule_8 : decode cX12_readRule 8 = .ok (.ifCond .ne 9, 3) := by decide +kernel
theorem dX12_readRule_11 : decode cX12_readRule 11 = .ok (.aload_n 0, 1) := by decide +kernel
theorem dX12_readRule_12 : decode cX12_readRule 12 = .ok (.iconst 2, 1) := by decide +kernel
theorem dX12_readRule_13 : decode cX12_readRule 13 = .ok (.invokevirtual 218, 3) := by decide +kernel
theorem dX12_readRule_16 : decode cX12_readRule 16 = .ok (.ireturn, 1) := by decide +kernel
theorem dX12_readRule_17 : decode cX12_readRule 17 = .ok (.aload_n 0, 1) := by decide +kernel
theorem dX12_readRule_18 : decode cX12_readRule 18 = .ok (.getfield 23, 3) := by decide +kernel
theorem dX12_readRule_21 : decode cX12_readRule 21 = .ok (.bipush 8, 2) := by decide +kernel
theorem dX12_readRule_23 : decode cX12_readRule 23 = .ok (.aload_n 0, 1) := by decide +kernel
theorem dX12_readRule_24 : decode cX12_readRule 24 = .ok (.getfield 16, 3) := by decide +kernel
theorem dX12_readRule_27 : decode cX12_readRule 27 = .ok (.iconst 1, 1) := by decide +kernel
theorem dX12_readRule_28 : decode cX12_readRule 28 = .ok (.iaload, 1) := by decide +kernel
theorem dX12_readRule_29 : decode cX12_readRule 29 = .ok (.aload_n 0, 1) := by decide +kernel
theorem dX12_readRule_30 : decode cX12_readRule 30 = .ok (.getfield 181, 3) := by decide +kernel
theorem dX12_readRule_33 : decode cX12_readRule 33 = .ok (.invokestatic 232, 3) := by decide +kernel
theorem dX12_readRule_36 : decode cX12_readRule 36 = .ok (.istore_n 1, 1) := by decide +kernel
theorem dX12_readRule_37 : decode cX12_readRule 37 = .ok (.iload_n 1, 1) := by decide +kernel
theorem dX12_readRule_38 : decode cX12_readRule 38 = .ok (.iconst (-1), 1) := by decide +kernel
theorem dX12_readRule_39 : decode cX12_readRule 39 = .ok (.if_icmp .ne 9, 3) := by decide +kernel
theorem dX12_readRule_42 : decode cX12_readRule 42 = .ok (.aload_n 0, 1) := by decide +kernel
theorem dX12_readRule_43 : decode cX12_readRule 43 = .ok (.iconst 3, 1) := by decide +kernel
theorem dX12_readRule_44 : decode cX12_readRule 44 = .ok (.invokevirtual 218, 3) := by decide +kernel
theorem dX12_readRule_47 : decode cX12_readRule 47 = .ok (.ireturn, 1) := by decide +kernel
theorem dX12_readRule_48 : decode cX12_readRule 48 = .ok (.aload_n 0, 1) := by decide +kernel
theorem dX12_readRule_49 : decode cX12_readRule 49 = .ok (.invokevirtual 221, 3) := by decide +kernel
theorem dX12_readRule_52 : decode cX12_readRule 52 = .ok (.aload_n 0, 1) := by decide +kernel
theorem dX12_readRule_53 : decode cX12_readRule 53 = .ok (.getfield 174, 3) := by decide +kernel
theorem dX12_readRule_56 : decode cX12_readRule 56 = .ok (.iconst 3, 1) := by decide +kernel
theorem dX12_readRule_57 : decode cX12_readRule 57 = .ok (.if_icmp .eq 9, 3) := by decide +kernel
theorem dX12_readRule_60 : decode cX12_readRule 60 = .ok (.aload_n 0, 1) := by decide +kernel
theorem dX12_readRule_61 : decode cX12_readRule 61 = .ok (.iconst 2, 1) := by decide +kernel
theorem dX12_readRule_62 : decode cX12_readRule 62 = .ok (.invokevirtual 218, 3) := by decide +kernel
theorem dX12_readRule_65 : decode cX12_readRule 65 = .ok (.ireturn, 1) := by decide +kernel
theorem dX12_readRule_66 : decode cX12_readRule 66 = .ok (.aload_n 0, 1) := by decide +kernel
theorem dX12_readRule_67 : decode cX12_readRule 67 = .ok (.getfield 16, 3) := by decide +kernel
theorem dX12_readRule_70 : decode cX12_readRule 70 = .ok (.iload_n 1, 1) := by decide +kernel
theorem dX12_readRule_71 : decode cX12_readRule 71 = .ok (.aload_n 0, 1) := by decide +kernel
theorem dX12_readRule_72 : decode cX12_readRule 72 = .ok (.getfield 192, 3) := by decide +kernel
theorem dX12_readRule_75 : decode cX12_readRule 75 = .ok (.invokestatic 257, 3) := by decide +kernel
theorem dX12_readRule_78 : decode cX12_readRule 78 = .ok (.ifCond .ne 9, 3) := by decide +kernel
theorem dX12_readRule_81 : decode cX12_readRule 81 = .ok (.aload_n 0, 1) := by decide +kernel
theorem dX12_readRule_82 : decode cX12_readRule 82 = .ok (.iconst 3, 1) := by decide +kernel
theorem dX12_readRule_83 : decode cX12_readRule 83 = .ok (.invokevirtual 218, 3) := by decide +kernel
theorem dX12_readRule_86 : decode cX12_readRule 86 = .ok (.ireturn, 1) := by decide +kernel
theorem dX12_readRule_87 : decode cX12_readRule 87 = .ok (.aload_n 0, 1) := by decide +kernel
theorem dX12_readRule_88 : decode cX12_readRule 88 = .ok (.getfield 192, 3) := by decide +kernel
theorem dX12_readRule_91 : decode cX12_readRule 91 = .ok (.istore_n 2, 1) := by decide +kernel
theorem dX12_readRule_92 : decode cX12_readRule 92 = .ok (.aload_n 0, 1) := by decide +kernel
theorem dX12_readRule_93 : decode cX12_readRule 93 = .ok (.invokevirtual 221, 3) := by decide +kernel
theorem dX12_readRule_96 : decode cX12_readRule 96 = .ok (.aload_n 0, 1) := by decide +kernel
theorem dX12_readRule_97 : decode cX12_readRule 97 = .ok (.iload_n 1, 1) := by decide +kernel
theorem dX12_readRule_98 : decode cX12_readRule 98 = .ok (.iload_n 2, 1) := by decide +kernel
theorem dX12_readRule_99 : decode cX12_readRule 99 = .ok (.invokevirtual 261, 3) := by decide +kernel
theorem dX12_readRule_102 : decode cX12_readRule 102 = .ok (.ifCond .ne 5, 3) := by decide +kernel
theorem dX12_readRule_105 : decode cX12_readRule 105 = .ok (.iconst 0, 1) := by decide +kernel
theorem dX12_readRule_106 : decode cX12_readRule 106 = .ok (.ireturn, 1) := by decide +kernel
theorem dX12_readRule_107 : decode cX12_readRule 107 = .ok (.bipush 32, 2) := by decide +kernel
theorem dX12_readRule_109 : decode cX12_readRule 109 = .ok (.iload_n 1, 1) := by decide +kernel
theorem dX12_readRule_110 : decode cX12_readRule 110 = .ok (.imul, 1) := by decide +kernel
theorem dX12_readRule_111 : decode cX12_readRule 111 = .ok (.aload_n 0, 1) := by decide +kernel
theorem dX12_readRule_112 : decode cX12_readRule 112 = .ok (.getfield 254, 3) := by decide +kernel
theorem dX12_readRule_115 : decode cX12_readRule 115 = .ok (.iadd, 1) := by decide +kernel
theorem dX12_readRule_116 : decode cX12_readRule 116 = .ok (.istore_n 3, 1) := by decide +kernel
theorem dX12_readRule_117 : decode cX12_readRule 117 = .ok (.aload_n 0, 1) := by decide +kernel
theorem dX12_readRule_118 : decode cX12_readRule 118 = .ok (.getfield 16, 3) := by decide +kernel
theorem dX12_readRule_121 : decode cX12_readRule 121 = .ok (.iload_n 1, 1) := by decide +kernel
theorem dX12_readRule_122 : decode cX12_readRule 122 = .ok (.aload_n 0, 1) := by decide +kernel
theorem dX12_readRule_123 : decode cX12_readRule 123 = .ok (.getfield 254, 3) := by decide +kernel
theorem dX12_readRule_126 : decode cX12_readRule 126 = .ok (.invokestatic 264, 3) := by decide +kernel
theorem dX12_readRule_129 : decode cX12_readRule 129 = .ok (.ifCond .eq 17, 3) := by decide +kernel
theorem dX12_readRule_132 : decode cX12_readRule 132 = .ok (.aload_n 0, 1) := by decide +kernel
theorem dX12_readRule_133 : decode cX12_readRule 133 = .ok (.getfield 16, 3) := by decide +kernel
theorem dX12_readRule_136 : decode cX12_readRule 136 = .ok (.sipush 1232, 3) := by decide +kernel
theorem dX12_readRule_139 : decode cX12_readRule 139 = .ok (.iload_n 3, 1) := by decide +kernel
theorem dX12_readRule_140 : decode cX12_readRule 140 = .ok (.iadd, 1) := by decide +kernel
theorem dX12_readRule_141 : decode cX12_readRule 141 = .ok (.iaload, 1) := by decide +kernel
theorem dX12_readRule_142 : decode cX12_readRule 142 = .ok (.iconst 1, 1) := by decide +kernel
theorem dX12_readRule_143 : decode cX12_readRule 143 = .ok (.if_icmp .ne 9, 3) := by decide +kernel
theorem dX12_readRule_146 : decode cX12_readRule 146 = .ok (.aload_n 0, 1) := by decide +kernel
theorem dX12_readRule_147 : decode cX12_readRule 147 = .ok (.iconst 5, 1) := by decide +kernel
theorem dX12_readRule_148 : decode cX12_readRule 148 = .ok (.invokevirtual 218, 3) := by decide +kernel
theorem dX12_readRule_151 : decode cX12_readRule 151 = .ok (.ireturn, 1) := by decide +kernel
theorem dX12_readRule_152 : decode cX12_readRule 152 = .ok (.aload_n 0, 1) := by decide +kernel
theorem dX12_readRule_153 : decode cX12_readRule 153 = .ok (.invokevirtual 221, 3) := by decide +kernel
theorem dX12_readRule_156 : decode cX12_readRule 156 = .ok (.aload_n 0, 1) := by decide +kernel
theorem dX12_readRule_157 : decode cX12_readRule 157 = .ok (.bipush 61, 2) := by decide +kernel
theorem dX12_readRule_159 : decode cX12_readRule 159 = .ok (.invokevirtual 243, 3) := by decide +kernel
theorem dX12_readRule_162 : decode cX12_readRule 162 = .ok (.ifCond .ne 5, 3) := by decide +kernel
theorem dX12_readRule_165 : decode cX12_readRule 165 = .ok (.iconst 0, 1) := by decide +kernel
theorem dX12_readRule_166 : decode cX12_readRule 166 = .ok (.ireturn, 1) := by decide +kernel
theorem dX12_readRule_167 : decode cX12_readRule 167 = .ok (.aload_n 0, 1) := by decide +kernel
theorem dX12_readRule_168 : decode cX12_readRule 168 = .ok (.iconst 0, 1) := by decide +kernel
theorem dX12_readRule_169 : decode cX12_readRule 169 = .ok (.putfield 267, 3) := by decide +kernel
theorem dX12_readRule_172 : decode cX12_readRule 172 = .ok (.aload_n 0, 1) := by decide +kernel
theorem dX12_readRule_173 : decode cX12_readRule 173 = .ok (.iconst 0, 1) := by decide +kernel
theorem dX12_readRule_174 : decode cX12_readRule 174 = .ok (.putfield 270, 3) := by decide +kernel
theorem dX12_readRule_177 : decode cX12_readRule 177 = .ok (.aload_n 0, 1) := by decide +kernel
theorem dX12_readRule_178 : decode cX12_readRule 178 = .ok (.getfield 16, 3) := by decide +kernel
theorem dX12_readRule_181 : decode cX12_readRule 181 = .ok (.bipush 80, 2) := by decide +kernel
theorem dX12_readRule_183 : decode cX12_readRule 183 = .ok (.iload_n 3, 1) := by decide +kernel
theorem dX12_readRule_184 : decode cX12_readRule 184 = .ok (.iadd, 1) := by decide +kernel
theorem dX12_readRule_185 : decode cX12_readRule 185 = .ok (.aload_n 0, 1) := by decide +kernel
theorem dX12_readRule_186 : decode cX12_readRule 186 = .ok (.getfield 16, 3) := by decide +kernel
theorem dX12_readRule_189 : decode cX12_readRule 189 = .ok (.iconst 3, 1) := by decide +kernel
theorem dX12_readRule_190 : decode cX12_readRule 190 = .ok (.iaload, 1) := by decide +kernel
theorem dX12_readRule_191 : decode cX12_readRule 191 = .ok (.iastore, 1) := by decide +kernel
theorem dX12_readRule_192 : decode cX12_readRule 192 = .ok (.aload_n 0, 1) := by decide +kernel
theorem dX12_readRule_193 : decode cX12_readRule 193 = .ok (.iload_n 1, 1) := by decide +kernel
theorem dX12_readRule_194 : decode cX12_readRule 194 = .ok (.iconst 0, 1) := by decide +kernel
theorem dX12_readRule_195 : decode cX12_readRule 195 = .ok (.invokevirtual 273, 3) := by decide +kernel
theorem dX12_readRule_198 : decode cX12_readRule 198 = .ok (.ifCond .ne 5, 3) := by decide +kernel
theorem dX12_readRule_201 : decode cX12_readRule 201 = .ok (.iconst 0, 1) := by decide +kernel
theorem dX12_readRule_202 : decode cX12_readRule 202 = .ok (.ireturn, 1) := by decide +kernel
theorem dX12_readRule_203 : decode cX12_readRule 203 = .ok (.aload_n 0, 1) := by decide +kernel
theorem dX12_readRule_204 : decode cX12_readRule 204 = .ok (.getfield 16, 3) := by decide +kernel
theorem dX12_readRule_207 : decode cX12_readRule 207 = .ok (.sipush 464, 3) := by decide +kernel
theorem dX12_readRule_210 : decode cX12_readRule 210 = .ok (.iload_n 3, 1) := by decide +kernel
theorem dX12_readRule_211 : decode cX12_readRule 211 = .ok (.iadd, 1) := by decide +kernel
theorem dX12_readRule_212 : decode cX12_readRule 212 = .ok (.aload_n 0, 1) := by decide +kernel
theorem dX12_readRule_213 : decode cX12_readRule 213 = .ok (.getfield 16, 3) := by decide +kernel
theorem dX12_readRule_216 : decode cX12_readRule 216 = .ok (.iconst 3, 1) := by decide +kernel
theorem dX12_readRule_217 : decode cX12_readRule 217 = .ok (.iaload, 1) := by decide +kernel
theorem dX12_readRule_218 : decode cX12_readRule 218 = .ok (.iastore, 1) := by decide +kernel
theorem dX12_readRule_219 : decode cX12_readRule 219 = .ok (.aload_n 0, 1) := by decide +kernel
theorem dX12_readRule_220 : decode cX12_readRule 220 = .ok (.getfield 16, 3) := by decide +kernel
theorem dX12_readRule_223 : decode cX12_readRule 223 = .ok (.sipush 848, 3) := by decide +kernel
theorem dX12_readRule_226 : decode cX12_readRule 226 = .ok (.iload_n 3, 1) := by decide +kernel
theorem dX12_readRule_227 : decode cX12_readRule 227 = .ok (.iadd, 1) := by decide +kernel
theorem dX12_readRule_228 : decode cX12_readRule 228 = .ok (.aload_n 0, 1) := by decide +kernel
theorem dX12_readRule_229 : decode cX12_readRule 229 = .ok (.getfield 270, 3) := by decide +kernel
theorem dX12_readRule_232 : decode cX12_readRule 232 = .ok (.iastore, 1) := by decide +kernel
theorem dX12_readRule_233 : decode cX12_readRule 233 = .ok (.aload_n 0, 1) := by decide +kernel
theorem dX12_readRule_234 : decode cX12_readRule 234 = .ok (.getfield 16, 3) := by decide +kernel
theorem dX12_readRule_237 : decode cX12_readRule 237 = .ok (.sipush 1232, 3) := by decide +kernel
theorem dX12_readRule_240 : decode cX12_readRule 240 = .ok (.iload_n 3, 1) := by decide +kernel
theorem dX12_readRule_241 : decode cX12_readRule 241 = .ok (.iadd, 1) := by decide +kernel
theorem dX12_readRule_242 : decode cX12_readRule 242 = .ok (.iconst 1, 1) := by decide +kernel
theorem dX12_readRule_243 : decode cX12_readRule 243 = .ok (.iastore, 1) := by decide +kernel
theorem dX12_readRule_244 : decode cX12_readRule 244 = .ok (.aload_n 0, 1) := by decide +kernel
theorem dX12_readRule_245 : decode cX12_readRule 245 = .ok (.getfield 16, 3) := by decide +kernel
theorem dX12_readRule_248 : decode cX12_readRule 248 = .ok (.iconst 2, 1) := by decide +kernel
theorem dX12_readRule_249 : decode cX12_readRule 249 = .ok (.dup2, 1) := by decide +kernel
theorem dX12_readRule_250 : decode cX12_readRule 250 = .ok (.iaload, 1) := by decide +kernel
theorem dX12_readRule_251 : decode cX12_readRule 251 = .ok (.iconst 1, 1) := by decide +kernel
theorem dX12_readRule_252 : decode cX12_readRule 252 = .ok (.iadd, 1) := by decide +kernel
theorem dX12_readRule_253 : decode cX12_readRule 253 = .ok (.iastore, 1) := by decide +kernel
theorem dX12_readRule_254 : decode cX12_readRule 254 = .ok (.iconst 1, 1) := by decide +kernel
theorem dX12_readRule_255 : decode cX12_readRule 255 = .ok (.ireturn, 1) := by decide +kernel
theorem dX12_codes_0 : decode cX12_codes 0 = .ok (.aload_n 0, 1) := by decide +kernel
theorem dX12_codes_1 : decode cX12_codes 1 = .ok (.getfield 16, 3) := by decide +kernel
theorem dX12_codes_4 : decode cX12_codes 4 = .ok (.sipush 1616, 3) := by decide +kernel
theorem dX12_codes_7 : decode cX12_codes 7 = .ok (.aload_n 0, 1) := by decide +kernel
theorem dX12_codes_8 : decode cX12_codes 8 = .ok (.getfield 16, 3) := by decide +kernel
theorem dX12_codes_11 : decode cX12_codes 11 = .ok (.iconst 3, 1) := by decide +kernel
theorem dX12_codes_12 : decode cX12_codes 12 = .ok (.iaload, 1) := by decide +kernel
theorem dX12_codes_13 : decode cX12_codes 13 = .ok (.iadd, 1) := by decide +kernel
theorem dX12_codes_14 : decode cX12_codes 14 = .ok (.iload_n 1, 1) := by decide +kernel
theorem dX12_codes_15 : decode cX12_codes 15 = .ok (.iastore, 1) := by decide +kernel
theorem dX12_codes_16 : decode cX12_codes 16 = .ok (.aload_n 0, 1) := by decide +kernel
theorem dX12_codes_17 : decode cX12_codes 17 = .ok (.getfield 16, 3) := by decide +kernel
theorem dX12_codes_20 : decode cX12_codes 20 = .ok (.sipush 2716, 3) := by decide +kernel
theorem dX12_codes_23 : decode cX12_codes 23 = .ok (.aload_n 0, 1) := by decide +kernel
theorem dX12_codes_24 : decode cX12_codes 24 = .ok (.getfield 16, 3) := by decide +kernel
theorem dX12_codes_27 : decode cX12_codes 27 = .ok (.iconst 3, 1) := by decide +kernel
theorem dX12_codes_28 : decode cX12_codes 28 = .ok (.iaload, 1) := by decide +kernel
theorem dX12_codes_29 : decode cX12_codes 29 = .ok (.iadd, 1) := by decide +kernel
theorem dX12_codes_30 : decode cX12_codes 30 = .ok (.iload_n 2, 1) := by decide +kernel
theorem dX12_codes_31 : decode cX12_codes 31 = .ok (.iastore, 1) := by decide +kernel
theorem dX12_codes_32 : decode cX12_codes 32 = .ok (.aload_n 0, 1) := by decide +kernel
theorem dX12_codes_33 : decode cX12_codes 33 = .ok (.getfield 16, 3) := by decide +kernel
theorem dX12_codes_36 : decode cX12_codes 36 = .ok (.iconst 3, 1) := by decide +kernel
theorem dX12_codes_37 : decode cX12_codes 37 = .ok (.dup2, 1) := by decide +kernel
theorem dX12_codes_38 : decode cX12_codes 38 = .ok (.iaload, 1) := by decide +kernel
theorem dX12_codes_39 : decode cX12_codes 39 = .ok (.iconst 1, 1) := by decide +kernel
theorem dX12_codes_40 : decode cX12_codes 40 = .ok (.iadd, 1) := by decide +kernel
theorem dX12_codes_41 : decode cX12_codes 41 = .ok (.iastore, 1) := by decide +kernel
theorem dX12_codes_42 : decode cX12_codes 42 = .ok (.return_, 1) := by decide +kernel
theorem dX12_joint_0 : decode cX12_joint 0 = .ok (.aload_n 0, 1) := by decide +kernel
theorem dX12_joint_1 : decode cX12_joint 1 = .ok (.bipush 6, 2) := by decide +kernel
theorem dX12_joint_3 : decode cX12_joint 3 = .ok (.invokevirtual 236, 3) := by decide +kernel
theorem dX12_joint_6 : decode cX12_joint 6 = .ok (.ifCond .eq 5, 3) := by decide +kernel
theorem dX12_joint_9 : decode cX12_joint 9 = .ok (.iconst 4, 1) := by decide +kernel
theorem dX12_joint_10 : decode cX12_joint 10 = .ok (.ireturn, 1) := by decide +kernel
theorem dX12_joint_11 : decode cX12_joint 11 = .ok (.aload_n 0, 1) := by decide +kernel
theorem dX12_joint_12 : decode cX12_joint 12 = .ok (.bipush 7, 2) := by decide +kernel
theorem dX12_joint_14 : decode cX12_joint 14 = .ok (.invokevirtual 236, 3) := by decide +kernel
theorem dX12_joint_17 : decode cX12_joint 17 = .ok (.ifCond .eq 5, 3) := by decide +kernel
theorem dX12_joint_20 : decode cX12_joint 20 = .ok (.iconst 5, 1) := by decide +kernel
theorem dX12_joint_21 : decode cX12_joint 21 = .ok (.ireturn, 1) := by decide +kernel
theorem dX12_joint_22 : decode cX12_joint 22 = .ok (.aload_n 0, 1) := by decide +kernel
theorem dX12_joint_23 : decode cX12_joint 23 = .ok (.bipush 43, 2) := by decide +kernel
theorem dX12_joint_25 : decode cX12_joint 25 = .ok (.invokevirtual 215, 3) := by decide +kernel
theorem dX12_joint_28 : decode cX12_joint 28 = .ok (.ifCond .ne 48, 3) := by decide +kernel
theorem dX12_joint_31 : decode cX12_joint 31 = .ok (.aload_n 0, 1) := by decide +kernel
theorem dX12_joint_32 : decode cX12_joint 32 = .ok (.bipush 45, 2) := by decide +kernel
theorem dX12_joint_34 : decode cX12_joint 34 = .ok (.invokevirtual 215, 3) := by decide +kernel
theorem dX12_joint_37 : decode cX12_joint 37 = .ok (.ifCond .ne 39, 3) := by decide +kernel
theorem dX12_joint_40 : decode cX12_joint 40 = .ok (.aload_n 0, 1) := by decide +kernel
theorem dX12_joint_41 : decode cX12_joint 41 = .ok (.bipush 42, 2) := by decide +kernel
theorem dX12_joint_43 : decode cX12_joint 43 = .ok (.invokevirtual 215, 3) := by decide +kernel
theorem dX12_joint_46 : decode cX12_joint 46 = .ok (.ifCond .ne 30, 3) := by decide +kernel
theorem dX12_joint_49 : decode cX12_joint 49 = .ok (.aload_n 0, 1) := by decide +kernel
theorem dX12_joint_50 : decode cX12_joint 50 = .ok (.bipush 124, 2) := by decide +kernel
theorem dX12_joint_52 : decode cX12_joint 52 = .ok (.invokevirtual 215, 3) := by decide +kernel
theorem dX12_joint_55 : decode cX12_joint 55 = .ok (.ifCond .ne 21, 3) := by decide +kernel
theorem dX12_joint_58 : decode cX12_joint 58 = .ok (.aload_n 0, 1) := by decide +kernel
theorem dX12_joint_59 : decode cX12_joint 59 = .ok (.bipush 38, 2) := by decide +kernel
theorem dX12_joint_61 : decode cX12_joint 61 = .ok (.invokevirtual 215, 3) := by decide +kernel
theorem dX12_joint_64 : decode cX12_joint 64 = .ok (.ifCond .ne 12, 3) := by decide +kernel
theorem dX12_joint_67 : decode cX12_joint 67 = .ok (.aload_n 0, 1) := by decide +kernel
theorem dX12_joint_68 : decode cX12_joint 68 = .ok (.bipush 60, 2) := by decide +kernel
theorem dX12_joint_70 : decode cX12_joint 70 = .ok (.invokevirtual 215, 3) := by decide +kernel
theorem dX12_joint_73 : decode cX12_joint 73 = .ok (.ifCond .eq 10, 3) := by decide +kernel
theorem dX12_joint_76 : decode cX12_joint 76 = .ok (.aload_n 0, 1) := by decide +kernel
theorem dX12_joint_77 : decode cX12_joint 77 = .ok (.getfield 198, 3) := by decide +kernel
theorem dX12_joint_80 : decode cX12_joint 80 = .ok (.goto 4, 3) := by decide +kernel
theorem dX12_joint_83 : decode cX12_joint 83 = .ok (.iconst (-1), 1) := by decide +kernel
theorem dX12_joint_84 : decode cX12_joint 84 = .ok (.ireturn, 1) := by decide +kernel
theorem dX12_readSum_0 : decode cX12_readSum 0 = .ok (.aload_n 0, 1) := by decide +kernel
theorem dX12_readSum_1 : decode cX12_readSum 1 = .ok (.iload_n 1, 1) := by decide +kernel
theorem dX12_readSum_2 : decode cX12_readSum 2 = .ok (.iload_n 2, 1) := by decide +kernel
theorem dX12_readSum_3 : decode cX12_readSum 3 = .ok (.invokevirtual 276, 3) := by decide +kernel
theorem dX12_readSum_6 : decode cX12_readSum 6 = .ok (.ifCond .ne 5, 3) := by decide +kernel
theorem dX12_readSum_9 : decode cX12_readSum 9 = .ok (.iconst 0, 1) := by decide +kernel
theorem dX12_readSum_10 : decode cX12_readSum 10 = .ok (.ireturn, 1) := by decide +kernel
theorem dX12_readSum_11 : decode cX12_readSum 11 = .ok (.aload_n 0, 1) := by decide +kernel
theorem dX12_readSum_12 : decode cX12_readSum 12 = .ok (.invokevirtual 279, 3) := by decide +kernel
theorem dX12_readSum_15 : decode cX12_readSum 15 = .ok (.istore_n 3, 1) := by decide +kernel
theorem dX12_readSum_16 : decode cX12_readSum 16 = .ok (.iload_n 3, 1) := by decide +kernel
theorem dX12_readSum_17 : decode cX12_readSum 17 = .ok (.iconst (-1), 1) := by decide +kernel
theorem dX12_readSum_18 : decode cX12_readSum 18 = .ok (.if_icmp .eq 32, 3) := by decide +kernel
theorem dX12_readSum_21 : decode cX12_readSum 21 = .ok (.aload_n 0, 1) := by decide +kernel
theorem dX12_readSum_22 : decode cX12_readSum 22 = .ok (.invokevirtual 221, 3) := by decide +kernel
theorem dX12_readSum_25 : decode cX12_readSum 25 = .ok (.aload_n 0, 1) := by decide +kernel
theorem dX12_readSum_26 : decode cX12_readSum 26 = .ok (.iload_n 1, 1) := by decide +kernel
theorem dX12_readSum_27 : decode cX12_readSum 27 = .ok (.iload_n 2, 1) := by decide +kernel
theorem dX12_readSum_28 : decode cX12_readSum 28 = .ok (.invokevirtual 276, 3) := by decide +kernel
theorem dX12_readSum_31 : decode cX12_readSum 31 = .ok (.ifCond .ne 5, 3) := by decide +kernel
theorem dX12_readSum_34 : decode cX12_readSum 34 = .ok (.iconst 0, 1) := by decide +kernel
theorem dX12_readSum_35 : decode cX12_readSum 35 = .ok (.ireturn, 1) := by decide +kernel
theorem dX12_readSum_36 : decode cX12_readSum 36 = .ok (.aload_n 0, 1) := by decide +kernel
theorem dX12_readSum_37 : decode cX12_readSum 37 = .ok (.iload_n 3, 1) := by decide +kernel
theorem dX12_readSum_38 : decode cX12_readSum 38 = .ok (.iconst 0, 1) := by decide +kernel
theorem dX12_readSum_39 : decode cX12_readSum 39 = .ok (.invokevirtual 283, 3) := by decide +kernel
theorem dX12_readSum_42 : decode cX12_readSum 42 = .ok (.aload_n 0, 1) := by decide +kernel
theorem dX12_readSum_43 : decode cX12_readSum 43 = .ok (.invokevirtual 279, 3) := by decide +kernel
theorem dX12_readSum_46 : decode cX12_readSum 46 = .ok (.istore_n 3, 1) := by decide +kernel
theorem dX12_readSum_47 : decode cX12_readSum 47 = .ok (.goto (-31), 3) := by decide +kernel
theorem dX12_readSum_50 : decode cX12_readSum 50 = .ok (.iconst 1, 1) := by decide +kernel
theorem dX12_readSum_51 : decode cX12_readSum 51 = .ok (.ireturn, 1) := by decide +kernel
theorem dX12_opens_0 : decode cX12_opens 0 = .ok (.aload_n 0, 1) := by decide +kernel
theorem dX12_opens_1 : decode cX12_opens 1 = .ok (.bipush 40, 2) := by decide +kernel
theorem dX12_opens_3 : decode cX12_opens 3 = .ok (.invokevirtual 215, 3) := by decide +kernel
theorem dX12_opens_6 : decode cX12_opens 6 = .ok (.ifCond .ne 9, 3) := by decide +kernel
theorem dX12_opens_9 : decode cX12_opens 9 = .ok (.aload_n 0, 1) := by decide +kernel
theorem dX12_opens_10 : decode cX12_opens 10 = .ok (.iconst 2, 1) := by decide +kernel
theorem dX12_opens_11 : decode cX12_opens 11 = .ok (.invokevirtual 218, 3) := by decide +kernel
theorem dX12_opens_14 : decode cX12_opens 14 = .ok (.ireturn, 1) := by decide +kernel
theorem dX12_opens_15 : decode cX12_opens 15 = .ok (.iload_n 1, 1) := by decide +kernel
theorem dX12_opens_16 : decode cX12_opens 16 = .ok (.bipush 6, 2) := by decide +kernel
theorem dX12_opens_18 : decode cX12_opens 18 = .ok (.if_icmp .ne 10, 3) := by decide +kernel
theorem dX12_opens_21 : decode cX12_opens 21 = .ok (.aload_n 0, 1) := by decide +kernel
theorem dX12_opens_22 : decode cX12_opens 22 = .ok (.bipush 6, 2) := by decide +kernel
theorem dX12_opens_24 : decode cX12_opens 24 = .ok (.invokevirtual 218, 3) := by decide +kernel
theorem dX12_opens_27 : decode cX12_opens 27 = .ok (.ireturn, 1) := by decide +kernel
theorem dX12_opens_28 : decode cX12_opens 28 = .ok (.aload_n 0, 1) := by decide +kernel
theorem dX12_opens_29 : decode cX12_opens 29 = .ok (.invokevirtual 221, 3) := by decide +kernel
theorem dX12_opens_32 : decode cX12_opens 32 = .ok (.iconst 1, 1) := by decide +kernel
theorem dX12_opens_33 : decode cX12_opens 33 = .ok (.ireturn, 1) := by decide +kernel
theorem dX12_readPart_0 : decode cX12_readPart 0 = .ok (.aload_n 0, 1) := by decide +kernel
theorem dX12_readPart_1 : decode cX12_readPart 1 = .ok (.getfield 174, 3) := by decide +kernel
theorem dX12_readPart_4 : decode cX12_readPart 4 = .ok (.iconst 3, 1) := by decide +kernel
theorem dX12_readPart_5 : decode cX12_readPart 5 = .ok (.if_icmp .ne 9, 3) := by decide +kernel
theorem dX12_readPart_8 : decode cX12_readPart 8 = .ok (.aload_n 0, 1) := by decide +kernel
theorem dX12_readPart_9 : decode cX12_readPart 9 = .ok (.iload_n 1, 1) := by decide +kernel
theorem dX12_readPart_10 : decode cX12_readPart 10 = .ok (.invokevirtual 287, 3) := by decide +kernel
theorem dX12_readPart_13 : decode cX12_readPart 13 = .ok (.ireturn, 1) := by decide +kernel
theorem dX12_readPart_14 : decode cX12_readPart 14 = .ok (.aload_n 0, 1) := by decide +kernel
theorem dX12_readPart_15 : decode cX12_readPart 15 = .ok (.iconst 5, 1) := by decide +kernel
theorem dX12_readPart_16 : decode cX12_readPart 16 = .ok (.invokevirtual 236, 3) := by decide +kernel
theorem dX12_readPart_19 : decode cX12_readPart 19 = .ok (.ifCond .eq 41, 3) := by decide +kernel
theorem dX12_readPart_22 : decode cX12_readPart 22 = .ok (.aload_n 0, 1) := by decide +kernel
theorem dX12_readPart_23 : decode cX12_readPart 23 = .ok (.getfield 267, 3) := by decide +kernel
theorem dX12_readPart_26 : decode cX12_readPart 26 = .ok (.bipush 24, 2) := by decide +kernel
theorem dX12_readPart_28 : decode cX12_readPart 28 = .ok (.if_icmp .ne 10, 3) := by decide +kernel
theorem dX12_readPart_31 : decode cX12_readPart 31 = .ok (.aload_n 0, 1) := by decide +kernel
theorem dX12_readPart_32 : decode cX12_readPart 32 = .ok (.bipush 6, 2) := by decide +kernel
theorem dX12_readPart_34 : decode cX12_readPart 34 = .ok (.invokevirtual 218, 3) := by decide +kernel
theorem dX12_readPart_37 : decode cX12_readPart 37 = .ok (.ireturn, 1) := by decide +kernel
theorem dX12_readPart_38 : decode cX12_readPart 38 = .ok (.aload_n 0, 1) := by decide +kernel
theorem dX12_readPart_39 : decode cX12_readPart 39 = .ok (.dup, 1) := by decide +kernel
theorem dX12_readPart_40 : decode cX12_readPart 40 = .ok (.getfield 267, 3) := by decide +kernel
theorem dX12_readPart_43 : decode cX12_readPart 43 = .ok (.iconst 1, 1) := by decide +kernel
theorem dX12_readPart_44 : decode cX12_readPart 44 = .ok (.iadd, 1) := by decide +kernel
theorem dX12_readPart_45 : decode cX12_readPart 45 = .ok (.putfield 267, 3) := by decide +kernel
theorem dX12_readPart_48 : decode cX12_readPart 48 = .ok (.aload_n 0, 1) := by decide +kernel
theorem dX12_readPart_49 : decode cX12_readPart 49 = .ok (.iconst 1, 1) := by decide +kernel
theorem dX12_readPart_50 : decode cX12_readPart 50 = .ok (.iconst 0, 1) := by decide +kernel
theorem dX12_readPart_51 : decode cX12_readPart 51 = .ok (.invokevirtual 283, 3) := by decide +kernel
theorem dX12_readPart_54 : decode cX12_readPart 54 = .ok (.aload_n 0, 1) := by decide +kernel
theorem dX12_readPart_55 : decode cX12_readPart 55 = .ok (.invokevirtual 221, 3) := by decide +kernel
theorem dX12_readPart_58 : decode cX12_readPart 58 = .ok (.iconst 1, 1) := by decide +kernel
theorem dX12_readPart_59 : decode cX12_readPart 59 = .ok (.ireturn, 1) := by decide +kernel
theorem dX12_readPart_60 : decode cX12_readPart 60 = .ok (.aload_n 0, 1) := by decide +kernel
theorem dX12_readPart_61 : decode cX12_readPart 61 = .ok (.bipush 8, 2) := by decide +kernel
theorem dX12_readPart_63 : decode cX12_readPart 63 = .ok (.invokevirtual 236, 3) := by decide +kernel
theorem dX12_readPart_66 : decode cX12_readPart 66 = .ok (.ifCond .eq 95, 3) := by decide +kernel
theorem dX12_readPart_69 : decode cX12_readPart 69 = .ok (.aload_n 0, 1) := by decide +kernel
theorem dX12_readPart_70 : decode cX12_readPart 70 = .ok (.invokevirtual 221, 3) := by decide +kernel
theorem dX12_readPart_73 : decode cX12_readPart 73 = .ok (.aload_n 0, 1) := by decide +kernel
theorem dX12_readPart_74 : decode cX12_readPart 74 = .ok (.iload_n 2, 1) := by decide +kernel
theorem dX12_readPart_75 : decode cX12_readPart 75 = .ok (.invokevirtual 290, 3) := by decide +kernel
theorem dX12_readPart_78 : decode cX12_readPart 78 = .ok (.ifCond .ne 5, 3) := by decide +kernel
theorem dX12_readPart_81 : decode cX12_readPart 81 = .ok (.iconst 0, 1) := by decide +kernel
theorem dX12_readPart_82 : decode cX12_readPart 82 = .ok (.ireturn, 1) := by decide +kernel
theorem dX12_readPart_83 : decode cX12_readPart 83 = .ok (.aload_n 0, 1) := by decide +kernel
theorem dX12_readPart_84 : decode cX12_readPart 84 = .ok (.iload_n 1, 1) := by decide +kernel
theorem dX12_readPart_85 : decode cX12_readPart 85 = .ok (.iload_n 2, 1) := by decide +kernel
theorem dX12_readPart_86 : decode cX12_readPart 86 = .ok (.iconst 1, 1) := by decide +kernel
theorem dX12_readPart_87 : decode cX12_readPart 87 = .ok (.iadd, 1) := by decide +kernel
theorem dX12_readPart_88 : decode cX12_readPart 88 = .ok (.invokevirtual 273, 3) := by decide +kernel
theorem dX12_readPart_91 : decode cX12_readPart 91 = .ok (.ifCond .eq 56, 3) := by decide +kernel
theorem dX12_readPart_94 : decode cX12_readPart 94 = .ok (.aload_n 0, 1) := by decide +kernel
theorem dX12_readPart_95 : decode cX12_readPart 95 = .ok (.bipush 44, 2) := by decide +kernel
theorem dX12_readPart_97 : decode cX12_readPart 97 = .ok (.invokevirtual 243, 3) := by decide +kernel
theorem dX12_readPart_100 : decode cX12_readPart 100 = .ok (.ifCond .eq 47, 3) := by decide +kernel
theorem dX12_readPart_103 : decode cX12_readPart 103 = .ok (.aload_n 0, 1) := by decide +kernel
theorem dX12_readPart_104 : decode cX12_readPart 104 = .ok (.iload_n 1, 1) := by decide +kernel
theorem dX12_readPart_105 : decode cX12_readPart 105 = .ok (.iload_n 2, 1) := by decide +kernel
theorem dX12_readPart_106 : decode cX12_readPart 106 = .ok (.iconst 1, 1) := by decide +kernel
theorem dX12_readPart_107 : decode cX12_readPart 107 = .ok (.iadd, 1) := by decide +kernel
theorem dX12_readPart_108 : decode cX12_readPart 108 = .ok (.invokevirtual 273, 3) := by decide +kernel
theorem dX12_readPart_111 : decode cX12_readPart 111 = .ok (.ifCond .eq 36, 3) := by decide +kernel
theorem dX12_readPart_114 : decode cX12_readPart 114 = .ok (.aload_n 0, 1) := by decide +kernel
theorem dX12_readPart_115 : decode cX12_readPart 115 = .ok (.bipush 44, 2) := by decide +kernel
theorem dX12_readPart_117 : decode cX12_readPart 117 = .ok (.invokevirtual 243, 3) := by decide +kernel
theorem dX12_readPart_120 : decode cX12_readPart 120 = .ok (.ifCond .eq 27, 3) := by decide +kernel
theorem dX12_readPart_123 : decode cX12_readPart 123 = .ok (.aload_n 0, 1) := by decide +kernel
theorem dX12_readPart_124 : decode cX12_readPart 124 = .ok (.iload_n 1, 1) := by decide +kernel
theorem dX12_readPart_125 : decode cX12_readPart 125 = .ok (.iload_n 2, 1) := by decide +kernel
theorem dX12_readPart_126 : decode cX12_readPart 126 = .ok (.iconst 1, 1) := by decide +kernel
theorem dX12_readPart_127 : decode cX12_readPart 127 = .ok (.iadd, 1) := by decide +kernel
theorem dX12_readPart_128 : decode cX12_readPart 128 = .ok (.invokevirtual 273, 3) := by decide +kernel
theorem dX12_readPart_131 : decode cX12_readPart 131 = .ok (.ifCond .eq 16, 3) := by decide +kernel
theorem dX12_readPart_134 : decode cX12_readPart 134 = .ok (.aload_n 0, 1) := by decide +kernel
theorem dX12_readPart_135 : decode cX12_readPart 135 = .ok (.bipush 41, 2) := by decide +kernel
theorem dX12_readPart_137 : decode cX12_readPart 137 = .ok (.invokevirtual 243, 3) := by decide +kernel
theorem dX12_readPart_140 : decode cX12_readPart 140 = .ok (.ifCond .eq 7, 3) := by decide +kernel
theorem dX12_readPart_143 : decode cX12_readPart 143 = .ok (.iconst 1, 1) := by decide +kernel
theorem dX12_readPart_144 : decode cX12_readPart 144 = .ok (.goto 4, 3) := by decide +kernel
theorem dX12_readPart_147 : decode cX12_readPart 147 = .ok (.iconst 0, 1) := by decide +kernel
theorem dX12_readPart_148 : decode cX12_readPart 148 = .ok (.istore_n 3, 1) := by decide +kernel
theorem dX12_readPart_149 : decode cX12_readPart 149 = .ok (.iload_n 3, 1) := by decide +kernel
theorem dX12_readPart_150 : decode cX12_readPart 150 = .ok (.ifCond .eq 9, 3) := by decide +kernel
theorem dX12_readPart_153 : decode cX12_readPart 153 = .ok (.aload_n 0, 1) := by decide +kernel
theorem dX12_readPart_154 : decode cX12_readPart 154 = .ok (.iconst 3, 1) := by decide +kernel
theorem dX12_readPart_155 : decode cX12_readPart 155 = .ok (.iconst 0, 1) := by decide +kernel
theorem dX12_readPart_156 : decode cX12_readPart 156 = .ok (.invokevirtual 283, 3) := by decide +kernel
theorem dX12_readPart_159 : decode cX12_readPart 159 = .ok (.iload_n 3, 1) := by decide +kernel
theorem dX12_readPart_160 : decode cX12_readPart 160 = .ok (.ireturn, 1) := by decide +kernel
theorem dX12_readPart_161 : decode cX12_readPart 161 = .ok (.aload_n 0, 1) := by decide +kernel
theorem dX12_readPart_162 : decode cX12_readPart 162 = .ok (.iload_n 2, 1) := by decide +kernel
theorem dX12_readPart_163 : decode cX12_readPart 163 = .ok (.invokevirtual 290, 3) := by decide +kernel
theorem dX12_readPart_166 : decode cX12_readPart 166 = .ok (.ifCond .eq 27, 3) := by decide +kernel
theorem dX12_readPart_169 : decode cX12_readPart 169 = .ok (.aload_n 0, 1) := by decide +kernel
theorem dX12_readPart_170 : decode cX12_readPart 170 = .ok (.iload_n 1, 1) := by decide +kernel
theorem dX12_readPart_171 : decode cX12_readPart 171 = .ok (.iload_n 2, 1) := by decide +kernel
theorem dX12_readPart_172 : decode cX12_readPart 172 = .ok (.iconst 1, 1) := by decide +kernel
theorem dX12_readPart_173 : decode cX12_readPart 173 = .ok (.iadd, 1) := by decide +kernel
theorem dX12_readPart_174 : decode cX12_readPart 174 = .ok (.invokevirtual 273, 3) := by decide +kernel
theorem dX12_readPart_177 : decode cX12_readPart 177 = .ok (.ifCond .eq 16, 3) := by decide +kernel
theorem dX12_readPart_180 : decode cX12_readPart 180 = .ok (.aload_n 0, 1) := by decide +kernel
theorem dX12_readPart_181 : decode cX12_readPart 181 = .ok (.bipush 41, 2) := by decide +kernel
theorem dX12_readPart_183 : decode cX12_readPart 183 = .ok (.invokevirtual 243, 3) := by decide +kernel
theorem dX12_readPart_186 : decode cX12_readPart 186 = .ok (.ifCond .eq 7, 3) := by decide +kernel
theorem dX12_readPart_189 : decode cX12_readPart 189 = .ok (.iconst 1, 1) := by decide +kernel
theorem dX12_readPart_190 : decode cX12_readPart 190 = .ok (.goto 4, 3) := by decide +kernel
theorem dX12_readPart_193 : decode cX12_readPart 193 = .ok (.iconst 0, 1) := by decide +kernel
theorem dX12_readPart_194 : decode cX12_readPart 194 = .ok (.ireturn, 1) := by decide +kernel
theorem dX12_readNumber_0 : decode cX12_readNumber 0 = .ok (.aload_n 0, 1) := by decide +kernel
theorem dX12_readNumber_1 : decode cX12_readNumber 1 = .ok (.getfield 192, 3) := by decide +kernel
theorem dX12_readNumber_4 : decode cX12_readNumber 4 = .ok (.istore_n 2, 1) := by decide +kernel
theorem dX12_readNumber_5 : decode cX12_readNumber 5 = .ok (.aload_n 0, 1) := by decide +kernel
theorem dX12_readNumber_6 : decode cX12_readNumber 6 = .ok (.getfield 171, 3) := by decide +kernel
theorem dX12_readNumber_9 : decode cX12_readNumber 9 = .ok (.istore_n 3, 1) := by decide +kernel
theorem dX12_readNumber_10 : decode cX12_readNumber 10 = .ok (.aload_n 0, 1) := by decide +kernel
theorem dX12_readNumber_11 : decode cX12_readNumber 11 = .ok (.invokevirtual 221, 3) := by decide +kernel
theorem dX12_readNumber_14 : decode cX12_readNumber 14 = .ok (.aload_n 0, 1) := by decide +kernel
theorem dX12_readNumber_15 : decode cX12_readNumber 15 = .ok (.bipush 46, 2) := by decide +kernel
theorem dX12_readNumber_17 : decode cX12_readNumber 17 = .ok (.invokevirtual 215, 3) := by decide +kernel
theorem dX12_readNumber_20 : decode cX12_readNumber 20 = .ok (.ifCond .ne 38, 3) := by decide +kernel
theorem dX12_readNumber_23 : decode cX12_readNumber 23 = .ok (.aload_n 0, 1) := by decide +kernel
theorem dX12_readNumber_24 : decode cX12_readNumber 24 = .ok (.getfield 267, 3) := by decide +kernel
theorem dX12_readNumber_27 : decode cX12_readNumber 27 = .ok (.bipush 24, 2) := by decide +kernel
theorem dX12_readNumber_29 : decode cX12_readNumber 29 = .ok (.if_icmp .ne 11, 3) := by decide +kernel
theorem dX12_readNumber_32 : decode cX12_readNumber 32 = .ok (.aload_n 0, 1) := by decide +kernel
theorem dX12_readNumber_33 : decode cX12_readNumber 33 = .ok (.bipush 6, 2) := by decide +kernel
theorem dX12_readNumber_35 : decode cX12_readNumber 35 = .ok (.iload_n 3, 1) := by decide +kernel
theorem dX12_readNumber_36 : decode cX12_readNumber 36 = .ok (.invokevirtual 293, 3) := by decide +kernel
theorem dX12_readNumber_39 : decode cX12_readNumber 39 = .ok (.ireturn, 1) := by decide +kernel
theorem dX12_readNumber_40 : decode cX12_readNumber 40 = .ok (.aload_n 0, 1) := by decide +kernel
theorem dX12_readNumber_41 : decode cX12_readNumber 41 = .ok (.dup, 1) := by decide +kernel
theorem dX12_readNumber_42 : decode cX12_readNumber 42 = .ok (.getfield 267, 3) := by decide +kernel
theorem dX12_readNumber_45 : decode cX12_readNumber 45 = .ok (.iconst 1, 1) := by decide +kernel
theorem dX12_readNumber_46 : decode cX12_readNumber 46 = .ok (.iadd, 1) := by decide +kernel
theorem dX12_readNumber_47 : decode cX12_readNumber 47 = .ok (.putfield 267, 3) := by decide +kernel
theorem dX12_readNumber_50 : decode cX12_readNumber 50 = .ok (.aload_n 0, 1) := by decide +kernel
theorem dX12_readNumber_51 : decode cX12_readNumber 51 = .ok (.iconst 0, 1) := by decide +kernel
theorem dX12_readNumber_52 : decode cX12_readNumber 52 = .ok (.iload_n 2, 1) := by decide +kernel
theorem dX12_readNumber_53 : decode cX12_readNumber 53 = .ok (.invokevirtual 283, 3) := by decide +kernel
theorem dX12_readNumber_56 : decode cX12_readNumber 56 = .ok (.iconst 1, 1) := by decide +kernel
theorem dX12_readNumber_57 : decode cX12_readNumber 57 = .ok (.ireturn, 1) := by decide +kernel
theorem dX12_readNumber_58 : decode cX12_readNumber 58 = .ok (.aload_n 0, 1) := by decide +kernel
theorem dX12_readNumber_59 : decode cX12_readNumber 59 = .ok (.getfield 16, 3) := by decide +kernel
theorem dX12_readNumber_62 : decode cX12_readNumber 62 = .ok (.iload_n 1, 1) := by decide +kernel
theorem dX12_readNumber_63 : decode cX12_readNumber 63 = .ok (.iload_n 2, 1) := by decide +kernel
theorem dX12_readNumber_64 : decode cX12_readNumber 64 = .ok (.invokestatic 257, 3) := by decide +kernel
theorem dX12_readNumber_67 : decode cX12_readNumber 67 = .ok (.ifCond .ne 10, 3) := by decide +kernel
theorem dX12_readNumber_70 : decode cX12_readNumber 70 = .ok (.aload_n 0, 1) := by decide +kernel
theorem dX12_readNumber_71 : decode cX12_readNumber 71 = .ok (.iconst 3, 1) := by decide +kernel
theorem dX12_readNumber_72 : decode cX12_readNumber 72 = .ok (.iload_n 3, 1) := by decide +kernel
theorem dX12_readNumber_73 : decode cX12_readNumber 73 = .ok (.invokevirtual 293, 3) := by decide +kernel
theorem dX12_readNumber_76 : decode cX12_readNumber 76 = .ok (.ireturn, 1) := by decide +kernel
theorem dX12_readNumber_77 : decode cX12_readNumber 77 = .ok (.aload_n 0, 1) := by decide +kernel
theorem dX12_readNumber_78 : decode cX12_readNumber 78 = .ok (.getfield 267, 3) := by decide +kernel
theorem dX12_readNumber_81 : decode cX12_readNumber 81 = .ok (.bipush 24, 2) := by decide +kernel
theorem dX12_readNumber_83 : decode cX12_readNumber 83 = .ok (.if_icmp .ne 11, 3) := by decide +kernel
theorem dX12_readNumber_86 : decode cX12_readNumber 86 = .ok (.aload_n 0, 1) := by decide +kernel
theorem dX12_readNumber_87 : decode cX12_readNumber 87 = .ok (.bipush 6, 2) := by decide +kernel
theorem dX12_readNumber_89 : decode cX12_readNumber 89 = .ok (.iload_n 3, 1) := by decide +kernel
theorem dX12_readNumber_90 : decode cX12_readNumber 90 = .ok (.invokevirtual 293, 3) := by decide +kernel
theorem dX12_readNumber_93 : decode cX12_readNumber 93 = .ok (.ireturn, 1) := by decide +kernel
theorem dX12_readNumber_94 : decode cX12_readNumber 94 = .ok (.aload_n 0, 1) := by decide +kernel
theorem dX12_readNumber_95 : decode cX12_readNumber 95 = .ok (.iload_n 1, 1) := by decide +kernel
theorem dX12_readNumber_96 : decode cX12_readNumber 96 = .ok (.iload_n 2, 1) := by decide +kernel
theorem dX12_readNumber_97 : decode cX12_readNumber 97 = .ok (.invokevirtual 261, 3) := by decide +kernel
theorem dX12_readNumber_100 : decode cX12_readNumber 100 = .ok (.ifCond .ne 5, 3) := by decide +kernel
theorem dX12_readNumber_103 : decode cX12_readNumber 103 = .ok (.iconst 0, 1) := by decide +kernel
theorem dX12_readNumber_104 : decode cX12_readNumber 104 = .ok (.ireturn, 1) := by decide +kernel
theorem dX12_readNumber_105 : decode cX12_readNumber 105 = .ok (.aload_n 0, 1) := by decide +kernel
theorem dX12_readNumber_106 : decode cX12_readNumber 106 = .ok (.dup, 1) := by decide +kernel
theorem dX12_readNumber_107 : decode cX12_readNumber 107 = .ok (.getfield 267, 3) := by decide +kernel
theorem dX12_readNumber_110 : decode cX12_readNumber 110 = .ok (.iconst 1, 1) := by decide +kernel
theorem dX12_readNumber_111 : decode cX12_readNumber 111 = .ok (.iadd, 1) := by decide +kernel
theorem dX12_readNumber_112 : decode cX12_readNumber 112 = .ok (.putfield 267, 3) := by decide +kernel
theorem dX12_readNumber_115 : decode cX12_readNumber 115 = .ok (.aload_n 0, 1) := by decide +kernel
theorem dX12_readNumber_116 : decode cX12_readNumber 116 = .ok (.dup, 1) := by decide +kernel
theorem dX12_readNumber_117 : decode cX12_readNumber 117 = .ok (.getfield 270, 3) := by decide +kernel
theorem dX12_readNumber_120 : decode cX12_readNumber 120 = .ok (.iconst 1, 1) := by decide +kernel
theorem dX12_readNumber_121 : decode cX12_readNumber 121 = .ok (.aload_n 0, 1) := by decide +kernel
theorem dX12_readNumber_122 : decode cX12_readNumber 122 = .ok (.getfield 254, 3) := by decide +kernel
theorem dX12_readNumber_125 : decode cX12_readNumber 125 = .ok (.ishl, 1) := by decide +kernel
theorem dX12_readNumber_126 : decode cX12_readNumber 126 = .ok (.ior, 1) := by decide +kernel
theorem dX12_readNumber_127 : decode cX12_readNumber 127 = .ok (.putfield 270, 3) := by decide +kernel
theorem dX12_readNumber_130 : decode cX12_readNumber 130 = .ok (.aload_n 0, 1) := by decide +kernel
theorem dX12_readNumber_131 : decode cX12_readNumber 131 = .ok (.iconst 2, 1) := by decide +kernel
theorem dX12_readNumber_132 : decode cX12_readNumber 132 = .ok (.aload_n 0, 1) := by decide +kernel
theorem dX12_readNumber_133 : decode cX12_readNumber 133 = .ok (.getfield 254, 3) := by decide +kernel
theorem dX12_readNumber_136 : decode cX12_readNumber 136 = .ok (.invokevirtual 283, 3) := by decide +kernel
theorem dX12_readNumber_139 : decode cX12_readNumber 139 = .ok (.aload_n 0, 1) := by decide +kernel
theorem dX12_readNumber_140 : decode cX12_readNumber 140 = .ok (.invokevirtual 221, 3) := by decide +kernel
theorem dX12_readNumber_143 : decode cX12_readNumber 143 = .ok (.iconst 1, 1) := by decide +kernel
theorem dX12_readNumber_144 : decode cX12_readNumber 144 = .ok (.ireturn, 1) := by decide +kernel
theorem dX12_readLine_0 : decode cX12_readLine 0 = .ok (.aload_n 0, 1) := by decide +kernel
theorem dX12_readLine_1 : decode cX12_readLine 1 = .ok (.iconst 0, 1) := by decide +kernel
theorem dX12_readLine_2 : decode cX12_readLine 2 = .ok (.invokevirtual 236, 3) := by decide +kernel
theorem dX12_readLine_5 : decode cX12_readLine 5 = .ok (.ifCond .eq 25, 3) := by decide +kernel
theorem dX12_readLine_8 : decode cX12_readLine 8 = .ok (.aload_n 0, 1) := by decide +kernel
theorem dX12_readLine_9 : decode cX12_readLine 9 = .ok (.invokevirtual 296, 3) := by decide +kernel
theorem dX12_readLine_12 : decode cX12_readLine 12 = .ok (.ifCond .eq 16, 3) := by decide +kernel
theorem dX12_readLine_15 : decode cX12_readLine 15 = .ok (.aload_n 0, 1) := by decide +kernel
theorem dX12_readLine_16 : decode cX12_readLine 16 = .ok (.bipush 59, 2) := by decide +kernel
theorem dX12_readLine_18 : decode cX12_readLine 18 = .ok (.invokevirtual 243, 3) := by decide +kernel
theorem dX12_readLine_21 : decode cX12_readLine 21 = .ok (.ifCond .eq 7, 3) := by decide +kernel
theorem dX12_readLine_24 : decode cX12_readLine 24 = .ok (.iconst 1, 1) := by decide +kernel
theorem dX12_readLine_25 : decode cX12_readLine 25 = .ok (.goto 4, 3) := by decide +kernel
theorem dX12_readLine_28 : decode cX12_readLine 28 = .ok (.iconst 0, 1) := by decide +kernel
theorem dX12_readLine_29 : decode cX12_readLine 29 = .ok (.ireturn, 1) := by decide +kernel
theorem dX12_readLine_30 : decode cX12_readLine 30 = .ok (.aload_n 0, 1) := by decide +kernel
theorem dX12_readLine_31 : decode cX12_readLine 31 = .ok (.iconst 1, 1) := by decide +kernel
theorem dX12_readLine_32 : decode cX12_readLine 32 = .ok (.invokevirtual 236, 3) := by decide +kernel
theorem dX12_readLine_35 : decode cX12_readLine 35 = .ok (.ifCond .eq 25, 3) := by decide +kernel
theorem dX12_readLine_38 : decode cX12_readLine 38 = .ok (.aload_n 0, 1) := by decide +kernel
theorem dX12_readLine_39 : decode cX12_readLine 39 = .ok (.invokevirtual 299, 3) := by decide +kernel
theorem dX12_readLine_42 : decode cX12_readLine 42 = .ok (.ifCond .eq 16, 3) := by decide +kernel
theorem dX12_readLine_45 : decode cX12_readLine 45 = .ok (.aload_n 0, 1) := by decide +kernel
theorem dX12_readLine_46 : decode cX12_readLine 46 = .ok (.bipush 59, 2) := by decide +kernel
theorem dX12_readLine_48 : decode cX12_readLine 48 = .ok (.invokevirtual 243, 3) := by decide +kernel
theorem dX12_readLine_51 : decode cX12_readLine 51 = .ok (.ifCond .eq 7, 3) := by decide +kernel
theorem dX12_readLine_54 : decode cX12_readLine 54 = .ok (.iconst 1, 1) := by decide +kernel
theorem dX12_readLine_55 : decode cX12_readLine 55 = .ok (.goto 4, 3) := by decide +kernel
theorem dX12_readLine_58 : decode cX12_readLine 58 = .ok (.iconst 0, 1) := by decide +kernel
theorem dX12_readLine_59 : decode cX12_readLine 59 = .ok (.ireturn, 1) := by decide +kernel
theorem dX12_readLine_60 : decode cX12_readLine 60 = .ok (.aload_n 0, 1) := by decide +kernel
theorem dX12_readLine_61 : decode cX12_readLine 61 = .ok (.iconst 2, 1) := by decide +kernel
theorem dX12_readLine_62 : decode cX12_readLine 62 = .ok (.invokevirtual 236, 3) := by decide +kernel
theorem dX12_readLine_65 : decode cX12_readLine 65 = .ok (.ifCond .eq 27, 3) := by decide +kernel
theorem dX12_readLine_68 : decode cX12_readLine 68 = .ok (.aload_n 0, 1) := by decide +kernel
theorem dX12_readLine_69 : decode cX12_readLine 69 = .ok (.invokevirtual 302, 3) := by decide +kernel
theorem dX12_readLine_72 : decode cX12_readLine 72 = .ok (.ifCond .eq 16, 3) := by decide +kernel
theorem dX12_readLine_75 : decode cX12_readLine 75 = .ok (.aload_n 0, 1) := by decide +kernel
theorem dX12_readLine_76 : decode cX12_readLine 76 = .ok (.bipush 59, 2) := by decide +kernel
theorem dX12_readLine_78 : decode cX12_readLine 78 = .ok (.invokevirtual 243, 3) := by decide +kernel
theorem dX12_readLine_81 : decode cX12_readLine 81 = .ok (.ifCond .eq 7, 3) := by decide +kernel
theorem dX12_readLine_84 : decode cX12_readLine 84 = .ok (.iconst 1, 1) := by decide +kernel
theorem dX12_readLine_85 : decode cX12_readLine 85 = .ok (.goto 12, 3) := by decide +kernel
theorem dX12_readLine_88 : decode cX12_readLine 88 = .ok (.iconst 0, 1) := by decide +kernel
theorem dX12_readLine_89 : decode cX12_readLine 89 = .ok (.goto 8, 3) := by decide +kernel
theorem dX12_readLine_92 : decode cX12_readLine 92 = .ok (.aload_n 0, 1) := by decide +kernel
theorem dX12_readLine_93 : decode cX12_readLine 93 = .ok (.iconst 2, 1) := by decide +kernel
theorem dX12_readLine_94 : decode cX12_readLine 94 = .ok (.invokevirtual 218, 3) := by decide +kernel
theorem dX12_readLine_97 : decode cX12_readLine 97 = .ok (.ireturn, 1) := by decide +kernel
theorem dX12_begins_0 : decode cX12_begins 0 = .ok (.aload_n 0, 1) := by decide +kernel
theorem dX12_begins_1 : decode cX12_begins 1 = .ok (.iload_n 1, 1) := by decide +kernel
theorem dX12_begins_2 : decode cX12_begins 2 = .ok (.putfield 161, 3) := by decide +kernel
theorem dX12_begins_5 : decode cX12_begins 5 = .ok (.aload_n 0, 1) := by decide +kernel
theorem dX12_begins_6 : decode cX12_begins 6 = .ok (.iconst 0, 1) := by decide +kernel
theorem dX12_begins_7 : decode cX12_begins 7 = .ok (.putfield 154, 3) := by decide +kernel
theorem dX12_begins_10 : decode cX12_begins 10 = .ok (.aload_n 0, 1) := by decide +kernel
theorem dX12_begins_11 : decode cX12_begins 11 = .ok (.iconst 0, 1) := by decide +kernel
theorem dX12_begins_12 : decode cX12_begins 12 = .ok (.putfield 164, 3) := by decide +kernel
theorem dX12_begins_15 : decode cX12_begins 15 = .ok (.aload_n 0, 1) := by decide +kernel
theorem dX12_begins_16 : decode cX12_begins 16 = .ok (.iconst 0, 1) := by decide +kernel
theorem dX12_begins_17 : decode cX12_begins 17 = .ok (.putfield 209, 3) := by decide +kernel
theorem dX12_begins_20 : decode cX12_begins 20 = .ok (.aload_n 0, 1) := by decide +kernel
theorem dX12_begins_21 : decode cX12_begins 21 = .ok (.iconst (-1), 1) := by decide +kernel
theorem dX12_begins_22 : decode cX12_begins 22 = .ok (.putfield 212, 3) := by decide +kernel
theorem dX12_begins_25 : decode cX12_begins 25 = .ok (.aload_n 0, 1) := by decide +kernel
theorem dX12_begins_26 : decode cX12_begins 26 = .ok (.invokevirtual 221, 3) := by decide +kernel
theorem dX12_begins_29 : decode cX12_begins 29 = .ok (.return_, 1) := by decide +kernel
theorem dX12_ends_0 : decode cX12_ends 0 = .ok (.aload_n 0, 1) := by decide +kernel
theorem dX12_ends_1 : decode cX12_ends 1 = .ok (.aload_n 0, 1) := by decide +kernel
theorem dX12_ends_2 : decode cX12_ends 2 = .ok (.getfield 209, 3) := by decide +kernel
theorem dX12_ends_5 : decode cX12_ends 5 = .ok (.putfield 26, 3) := by decide +kernel
theorem dX12_ends_8 : decode cX12_ends 8 = .ok (.aload_n 0, 1) := by decide +kernel
theorem dX12_ends_9 : decode cX12_ends 9 = .ok (.aload_n 0, 1) := by decide +kernel
theorem dX12_ends_10 : decode cX12_ends 10 = .ok (.getfield 212, 3) := by decide +kernel
theorem dX12_ends_13 : decode cX12_ends 13 = .ok (.putfield 30, 3) := by decide +kernel
theorem dX12_ends_16 : decode cX12_ends 16 = .ok (.iload_n 1, 1) := by decide +kernel
theorem dX12_ends_17 : decode cX12_ends 17 = .ok (.ifCond .eq 7, 3) := by decide +kernel
theorem dX12_ends_20 : decode cX12_ends 20 = .ok (.iconst 0, 1) := by decide +kernel
theorem dX12_ends_21 : decode cX12_ends 21 = .ok (.goto 5, 3) := by decide +kernel
theorem dX12_ends_24 : decode cX12_ends 24 = .ok (.bipush 9, 2) := by decide +kernel
theorem dX12_ends_26 : decode cX12_ends 26 = .ok (.ireturn, 1) := by decide +kernel
theorem dX12_grammar_0 : decode cX12_grammar 0 = .ok (.iload_n 1, 1) := by decide +kernel
theorem dX12_grammar_1 : decode cX12_grammar 1 = .ok (.iconst 0, 1) := by decide +kernel
theorem dX12_grammar_2 : decode cX12_grammar 2 = .ok (.aload_n 0, 1) := by decide +kernel
theorem dX12_grammar_3 : decode cX12_grammar 3 = .ok (.getfield 154, 3) := by decide +kernel
theorem dX12_grammar_6 : decode cX12_grammar 6 = .ok (.invokestatic 246, 3) := by decide +kernel
theorem dX12_grammar_9 : decode cX12_grammar 9 = .ok (.ifCond .ne 9, 3) := by decide +kernel
theorem dX12_grammar_12 : decode cX12_grammar 12 = .ok (.aload_n 0, 1) := by decide +kernel
theorem dX12_grammar_13 : decode cX12_grammar 13 = .ok (.iconst 1, 1) := by decide +kernel
theorem dX12_grammar_14 : decode cX12_grammar 14 = .ok (.invokevirtual 305, 3) := by decide +kernel
theorem dX12_grammar_17 : decode cX12_grammar 17 = .ok (.ireturn, 1) := by decide +kernel
theorem dX12_grammar_18 : decode cX12_grammar 18 = .ok (.aload_n 0, 1) := by decide +kernel
theorem dX12_grammar_19 : decode cX12_grammar 19 = .ok (.iload_n 1, 1) := by decide +kernel
theorem dX12_grammar_20 : decode cX12_grammar 20 = .ok (.invokevirtual 308, 3) := by decide +kernel
theorem dX12_grammar_23 : decode cX12_grammar 23 = .ok (.aload_n 0, 1) := by decide +kernel
theorem dX12_grammar_24 : decode cX12_grammar 24 = .ok (.getfield 16, 3) := by decide +kernel
theorem dX12_grammar_27 : decode cX12_grammar 27 = .ok (.iconst 0, 1) := by decide +kernel
theorem dX12_grammar_28 : decode cX12_grammar 28 = .ok (.iconst 0, 1) := by decide +kernel
theorem dX12_grammar_29 : decode cX12_grammar 29 = .ok (.iastore, 1) := by decide +kernel
theorem dX12_grammar_30 : decode cX12_grammar 30 = .ok (.aload_n 0, 1) := by decide +kernel
theorem dX12_grammar_31 : decode cX12_grammar 31 = .ok (.getfield 16, 3) := by decide +kernel
theorem dX12_grammar_34 : decode cX12_grammar 34 = .ok (.iconst 1, 1) := by decide +kernel
theorem dX12_grammar_35 : decode cX12_grammar 35 = .ok (.iconst 0, 1) := by decide +kernel
theorem dX12_grammar_36 : decode cX12_grammar 36 = .ok (.iastore, 1) := by decide +kernel
theorem dX12_grammar_37 : decode cX12_grammar 37 = .ok (.aload_n 0, 1) := by decide +kernel
theorem dX12_grammar_38 : decode cX12_grammar 38 = .ok (.getfield 16, 3) := by decide +kernel
theorem dX12_grammar_41 : decode cX12_grammar 41 = .ok (.iconst 2, 1) := by decide +kernel
theorem dX12_grammar_42 : decode cX12_grammar 42 = .ok (.iconst 0, 1) := by decide +kernel
theorem dX12_grammar_43 : decode cX12_grammar 43 = .ok (.iastore, 1) := by decide +kernel
theorem dX12_grammar_44 : decode cX12_grammar 44 = .ok (.aload_n 0, 1) := by decide +kernel
theorem dX12_grammar_45 : decode cX12_grammar 45 = .ok (.getfield 16, 3) := by decide +kernel
theorem dX12_grammar_48 : decode cX12_grammar 48 = .ok (.iconst 3, 1) := by decide +kernel
theorem dX12_grammar_49 : decode cX12_grammar 49 = .ok (.iconst 0, 1) := by decide +kernel
theorem dX12_grammar_50 : decode cX12_grammar 50 = .ok (.iastore, 1) := by decide +kernel
theorem dX12_grammar_51 : decode cX12_grammar 51 = .ok (.aload_n 0, 1) := by decide +kernel
theorem dX12_grammar_52 : decode cX12_grammar 52 = .ok (.invokevirtual 311, 3) := by decide +kernel
theorem dX12_grammar_55 : decode cX12_grammar 55 = .ok (.istore_n 2, 1) := by decide +kernel
theorem dX12_grammar_56 : decode cX12_grammar 56 = .ok (.iload_n 2, 1) := by decide +kernel
theorem dX12_grammar_57 : decode cX12_grammar 57 = .ok (.ifCond .eq 18, 3) := by decide +kernel
theorem dX12_grammar_60 : decode cX12_grammar 60 = .ok (.aload_n 0, 1) := by decide +kernel
theorem dX12_grammar_61 : decode cX12_grammar 61 = .ok (.getfield 174, 3) := by decide +kernel
theorem dX12_grammar_64 : decode cX12_grammar 64 = .ok (.ifCond .eq 11, 3) := by decide +kernel
theorem dX12_grammar_67 : decode cX12_grammar 67 = .ok (.aload_n 0, 1) := by decide +kernel
theorem dX12_grammar_68 : decode cX12_grammar 68 = .ok (.invokevirtual 311, 3) := by decide +kernel
theorem dX12_grammar_71 : decode cX12_grammar 71 = .ok (.istore_n 2, 1) := by decide +kernel
theorem dX12_grammar_72 : decode cX12_grammar 72 = .ok (.goto (-16), 3) := by decide +kernel
theorem dX12_grammar_75 : decode cX12_grammar 75 = .ok (.aload_n 0, 1) := by decide +kernel
theorem dX12_grammar_76 : decode cX12_grammar 76 = .ok (.iload_n 2, 1) := by decide +kernel
theorem dX12_grammar_77 : decode cX12_grammar 77 = .ok (.invokevirtual 314, 3) := by decide +kernel
theorem dX12_grammar_80 : decode cX12_grammar 80 = .ok (.ifCond .le 10, 3) := by decide +kernel
theorem dX12_grammar_83 : decode cX12_grammar 83 = .ok (.aload_n 0, 1) := by decide +kernel
theorem dX12_grammar_84 : decode cX12_grammar 84 = .ok (.bipush 9, 2) := by decide +kernel
theorem dX12_grammar_86 : decode cX12_grammar 86 = .ok (.invokevirtual 305, 3) := by decide +kernel
theorem dX12_grammar_89 : decode cX12_grammar 89 = .ok (.ireturn, 1) := by decide +kernel
theorem dX12_grammar_90 : decode cX12_grammar 90 = .ok (.iconst 0, 1) := by decide +kernel
theorem dX12_grammar_91 : decode cX12_grammar 91 = .ok (.istore_n 3, 1) := by decide +kernel
theorem dX12_grammar_92 : decode cX12_grammar 92 = .ok (.iload_n 3, 1) := by decide +kernel
theorem dX12_grammar_93 : decode cX12_grammar 93 = .ok (.sipush 3816, 3) := by decide +kernel
theorem dX12_grammar_96 : decode cX12_grammar 96 = .ok (.if_icmp .ge 21, 3) := by decide +kernel
theorem dX12_grammar_99 : decode cX12_grammar 99 = .ok (.aload_n 0, 1) := by decide +kernel
theorem dX12_grammar_100 : decode cX12_grammar 100 = .ok (.getfield 13, 3) := by decide +kernel
theorem dX12_grammar_103 : decode cX12_grammar 103 = .ok (.iload_n 3, 1) := by decide +kernel
theorem dX12_grammar_104 : decode cX12_grammar 104 = .ok (.aload_n 0, 1) := by decide +kernel
theorem dX12_grammar_105 : decode cX12_grammar 105 = .ok (.getfield 16, 3) := by decide +kernel
theorem dX12_grammar_108 : decode cX12_grammar 108 = .ok (.iload_n 3, 1) := by decide +kernel
theorem dX12_grammar_109 : decode cX12_grammar 109 = .ok (.iaload, 1) := by decide +kernel
theorem dX12_grammar_110 : decode cX12_grammar 110 = .ok (.iastore, 1) := by decide +kernel
theorem dX12_grammar_111 : decode cX12_grammar 111 = .ok (.iinc 3 1, 3) := by decide +kernel
theorem dX12_grammar_114 : decode cX12_grammar 114 = .ok (.goto (-22), 3) := by decide +kernel
theorem dX12_grammar_117 : decode cX12_grammar 117 = .ok (.iconst 0, 1) := by decide +kernel
theorem dX12_grammar_118 : decode cX12_grammar 118 = .ok (.istore_n 3, 1) := by decide +kernel
theorem dX12_grammar_119 : decode cX12_grammar 119 = .ok (.iload_n 3, 1) := by decide +kernel
theorem dX12_grammar_120 : decode cX12_grammar 120 = .ok (.bipush 84, 2) := by decide +kernel
theorem dX12_grammar_122 : decode cX12_grammar 122 = .ok (.if_icmp .ge 21, 3) := by decide +kernel
theorem dX12_grammar_125 : decode cX12_grammar 125 = .ok (.aload_n 0, 1) := by decide +kernel
theorem dX12_grammar_126 : decode cX12_grammar 126 = .ok (.getfield 19, 3) := by decide +kernel
theorem dX12_grammar_129 : decode cX12_grammar 129 = .ok (.iload_n 3, 1) := by decide +kernel
theorem dX12_grammar_130 : decode cX12_grammar 130 = .ok (.aload_n 0, 1) := by decide +kernel
theorem dX12_grammar_131 : decode cX12_grammar 131 = .ok (.getfield 23, 3) := by decide +kernel
theorem dX12_grammar_134 : decode cX12_grammar 134 = .ok (.iload_n 3, 1) := by decide +kernel
theorem dX12_grammar_135 : decode cX12_grammar 135 = .ok (.laload, 1) := by decide +kernel
theorem dX12_grammar_136 : decode cX12_grammar 136 = .ok (.lastore, 1) := by decide +kernel
theorem dX12_grammar_137 : decode cX12_grammar 137 = .ok (.iinc 3 1, 3) := by decide +kernel
theorem dX12_grammar_140 : decode cX12_grammar 140 = .ok (.goto (-21), 3) := by decide +kernel
theorem dX12_grammar_143 : decode cX12_grammar 143 = .ok (.aload_n 0, 1) := by decide +kernel
theorem dX12_grammar_144 : decode cX12_grammar 144 = .ok (.iconst 1, 1) := by decide +kernel
theorem dX12_grammar_145 : decode cX12_grammar 145 = .ok (.putfield 318, 3) := by decide +kernel
theorem dX12_grammar_148 : decode cX12_grammar 148 = .ok (.aload_n 0, 1) := by decide +kernel
theorem dX12_grammar_149 : decode cX12_grammar 149 = .ok (.iconst 0, 1) := by decide +kernel
theorem dX12_grammar_150 : decode cX12_grammar 150 = .ok (.putfield 322, 3) := by decide +kernel
theorem dX12_grammar_153 : decode cX12_grammar 153 = .ok (.aload_n 0, 1) := by decide +kernel
theorem dX12_grammar_154 : decode cX12_grammar 154 = .ok (.invokevirtual 325, 3) := by decide +kernel
theorem dX12_grammar_157 : decode cX12_grammar 157 = .ok (.aload_n 0, 1) := by decide +kernel
theorem dX12_grammar_158 : decode cX12_grammar 158 = .ok (.aload_n 0, 1) := by decide +kernel
theorem dX12_grammar_159 : decode cX12_grammar 159 = .ok (.getfield 13, 3) := by decide +kernel
theorem dX12_grammar_162 : decode cX12_grammar 162 = .ok (.iconst 1, 1) := by decide +kernel
theorem dX12_grammar_163 : decode cX12_grammar 163 = .ok (.iaload, 1) := by decide +kernel
theorem dX12_grammar_164 : decode cX12_grammar 164 = .ok (.invokevirtual 328, 3) := by decide +kernel
theorem dX12_grammar_167 : decode cX12_grammar 167 = .ok (.ireturn, 1) := by decide +kernel
theorem dX12_fault_0 : decode cX12_fault 0 = .ok (.iload_n 1, 1) := by decide +kernel
theorem dX12_fault_1 : decode cX12_fault 1 = .ok (.ifCond .ne 10, 3) := by decide +kernel
theorem dX12_fault_4 : decode cX12_fault 4 = .ok (.aload_n 0, 1) := by decide +kernel
theorem dX12_fault_5 : decode cX12_fault 5 = .ok (.getfield 26, 3) := by decide +kernel
theorem dX12_fault_8 : decode cX12_fault 8 = .ok (.goto 16, 3) := by decide +kernel
theorem dX12_fault_11 : decode cX12_fault 11 = .ok (.iload_n 1, 1) := by decide +kernel
theorem dX12_fault_12 : decode cX12_fault 12 = .ok (.iconst 1, 1) := by decide +kernel
theorem dX12_fault_13 : decode cX12_fault 13 = .ok (.if_icmp .ne 10, 3) := by decide +kernel
theorem dX12_fault_16 : decode cX12_fault 16 = .ok (.aload_n 0, 1) := by decide +kernel
theorem dX12_fault_17 : decode cX12_fault 17 = .ok (.getfield 30, 3) := by decide +kernel
theorem dX12_fault_20 : decode cX12_fault 20 = .ok (.goto 4, 3) := by decide +kernel
theorem dX12_fault_23 : decode cX12_fault 23 = .ok (.iconst (-1), 1) := by decide +kernel
theorem dX12_fault_24 : decode cX12_fault 24 = .ok (.ireturn, 1) := by decide +kernel
theorem dX12_isSymbol_0 : decode cX12_isSymbol 0 = .ok (.aload_n 0, 1) := by decide +kernel
theorem dX12_isSymbol_1 : decode cX12_isSymbol 1 = .ok (.getfield 318, 3) := by decide +kernel
theorem dX12_isSymbol_4 : decode cX12_isSymbol 4 = .ok (.ifCond .eq 23, 3) := by decide +kernel
theorem dX12_isSymbol_7 : decode cX12_isSymbol 7 = .ok (.iload_n 1, 1) := by decide +kernel
theorem dX12_isSymbol_8 : decode cX12_isSymbol 8 = .ok (.iconst 0, 1) := by decide +kernel
theorem dX12_isSymbol_9 : decode cX12_isSymbol 9 = .ok (.aload_n 0, 1) := by decide +kernel
theorem dX12_isSymbol_10 : decode cX12_isSymbol 10 = .ok (.getfield 13, 3) := by decide +kernel
theorem dX12_isSymbol_13 : decode cX12_isSymbol 13 = .ok (.iconst 0, 1) := by decide +kernel
theorem dX12_isSymbol_14 : decode cX12_isSymbol 14 = .ok (.iaload, 1) := by decide +kernel
theorem dX12_isSymbol_15 : decode cX12_isSymbol 15 = .ok (.iconst 1, 1) := by decide +kernel
theorem dX12_isSymbol_16 : decode cX12_isSymbol 16 = .ok (.isub, 1) := by decide +kernel
theorem dX12_isSymbol_17 : decode cX12_isSymbol 17 = .ok (.invokestatic 246, 3) := by decide +kernel
theorem dX12_isSymbol_20 : decode cX12_isSymbol 20 = .ok (.ifCond .eq 7, 3) := by decide +kernel
theorem dX12_isSymbol_23 : decode cX12_isSymbol 23 = .ok (.iconst 1, 1) := by decide +kernel
theorem dX12_isSymbol_24 : decode cX12_isSymbol 24 = .ok (.goto 4, 3) := by decide +kernel
theorem dX12_isSymbol_27 : decode cX12_isSymbol 27 = .ok (.iconst 0, 1) := by decide +kernel
theorem dX12_isSymbol_28 : decode cX12_isSymbol 28 = .ok (.ireturn, 1) := by decide +kernel
theorem dX12_isProduction_0 : decode cX12_isProduction 0 = .ok (.aload_n 0, 1) := by decide +kernel
theorem dX12_isProduction_1 : decode cX12_isProduction 1 = .ok (.getfield 318, 3) := by decide +kernel
theorem dX12_isProduction_4 : decode cX12_isProduction 4 = .ok (.ifCond .eq 23, 3) := by decide +kernel
theorem dX12_isProduction_7 : decode cX12_isProduction 7 = .ok (.iload_n 1, 1) := by decide +kernel
theorem dX12_isProduction_8 : decode cX12_isProduction 8 = .ok (.iconst 0, 1) := by decide +kernel
theorem dX12_isProduction_9 : decode cX12_isProduction 9 = .ok (.aload_n 0, 1) := by decide +kernel
theorem dX12_isProduction_10 : decode cX12_isProduction 10 = .ok (.getfield 13, 3) := by decide +kernel
theorem dX12_isProduction_13 : decode cX12_isProduction 13 = .ok (.iconst 1, 1) := by decide +kernel
theorem dX12_isProduction_14 : decode cX12_isProduction 14 = .ok (.iaload, 1) := by decide +kernel
theorem dX12_isProduction_15 : decode cX12_isProduction 15 = .ok (.iconst 1, 1) := by decide +kernel
theorem dX12_isProduction_16 : decode cX12_isProduction 16 = .ok (.isub, 1) := by decide +kernel
theorem dX12_isProduction_17 : decode cX12_isProduction 17 = .ok (.invokestatic 246, 3) := by decide +kernel
theorem dX12_isProduction_20 : decode cX12_isProduction 20 = .ok (.ifCond .eq 7, 3) := by decide +kernel
theorem dX12_isProduction_23 : decode cX12_isProduction 23 = .ok (.iconst 1, 1) := by decide +kernel
theorem dX12_isProduction_24 : decode cX12_isProduction 24 = .ok (.goto 4, 3) := by decide +kernel
theorem dX12_isProduction_27 : decode cX12_isProduction 27 = .ok (.iconst 0, 1) := by decide +kernel
theorem dX12_isProduction_28 : decode cX12_isProduction 28 = .ok (.ireturn, 1) := by decide +kernel
theorem dX12_attributes_0 : decode cX12_attributes 0 = .ok (.aload_n 0, 1) := by decide +kernel
theorem dX12_attributes_1 : decode cX12_attributes 1 = .ok (.getfield 13, 3) := by decide +kernel
theorem dX12_attributes_4 : decode cX12_attributes 4 = .ok (.iload_n 1, 1) := by decide +kernel
theorem dX12_attributes_5 : decode cX12_attributes 5 = .ok (.invokestatic 228, 3) := by decide +kernel
theorem dX12_attributes_8 : decode cX12_attributes 8 = .ok (.ireturn, 1) := by decide +kernel
theorem dX12_isAttribute_0 : decode cX12_isAttribute 0 = .ok (.aload_n 0, 1) := by decide +kernel
theorem dX12_isAttribute_1 : decode cX12_isAttribute 1 = .ok (.iload_n 1, 1) := by decide +kernel
theorem dX12_isAttribute_2 : decode cX12_isAttribute 2 = .ok (.invokevirtual 331, 3) := by decide +kernel
theorem dX12_isAttribute_5 : decode cX12_isAttribute 5 = .ok (.ifCond .eq 22, 3) := by decide +kernel
theorem dX12_isAttribute_8 : decode cX12_isAttribute 8 = .ok (.iload_n 2, 1) := by decide +kernel
theorem dX12_isAttribute_9 : decode cX12_isAttribute 9 = .ok (.iconst 0, 1) := by decide +kernel
theorem dX12_isAttribute_10 : decode cX12_isAttribute 10 = .ok (.aload_n 0, 1) := by decide +kernel
theorem dX12_isAttribute_11 : decode cX12_isAttribute 11 = .ok (.iload_n 1, 1) := by decide +kernel
theorem dX12_isAttribute_12 : decode cX12_isAttribute 12 = .ok (.invokevirtual 334, 3) := by decide +kernel
theorem dX12_isAttribute_15 : decode cX12_isAttribute 15 = .ok (.iconst 1, 1) := by decide +kernel
theorem dX12_isAttribute_16 : decode cX12_isAttribute 16 = .ok (.isub, 1) := by decide +kernel
theorem dX12_isAttribute_17 : decode cX12_isAttribute 17 = .ok (.invokestatic 246, 3) := by decide +kernel
theorem dX12_isAttribute_20 : decode cX12_isAttribute 20 = .ok (.ifCond .eq 7, 3) := by decide +kernel
theorem dX12_isAttribute_23 : decode cX12_isAttribute 23 = .ok (.iconst 1, 1) := by decide +kernel
theorem dX12_isAttribute_24 : decode cX12_isAttribute 24 = .ok (.goto 4, 3) := by decide +kernel
theorem dX12_isAttribute_27 : decode cX12_isAttribute 27 = .ok (.iconst 0, 1) := by decide +kernel
theorem dX12_isAttribute_28 : decode cX12_isAttribute 28 = .ok (.ireturn, 1) := by decide +kernel
theorem dX12_isOcc_0 : decode cX12_isOcc 0 = .ok (.aload_n 0, 1) := by decide +kernel
theorem dX12_isOcc_1 : decode cX12_isOcc 1 = .ok (.iload_n 1, 1) := by decide +kernel
theorem dX12_isOcc_2 : decode cX12_isOcc 2 = .ok (.invokevirtual 337, 3) := by decide +kernel
theorem dX12_isOcc_5 : decode cX12_isOcc 5 = .ok (.ifCond .eq 49, 3) := by decide +kernel
theorem dX12_isOcc_8 : decode cX12_isOcc 8 = .ok (.iload_n 2, 1) := by decide +kernel
theorem dX12_isOcc_9 : decode cX12_isOcc 9 = .ok (.ifCond .lt 45, 3) := by decide +kernel
theorem dX12_isOcc_12 : decode cX12_isOcc 12 = .ok (.aload_n 0, 1) := by decide +kernel
theorem dX12_isOcc_13 : decode cX12_isOcc 13 = .ok (.getfield 13, 3) := by decide +kernel
theorem dX12_isOcc_16 : decode cX12_isOcc 16 = .ok (.iload_n 1, 1) := by decide +kernel
theorem dX12_isOcc_17 : decode cX12_isOcc 17 = .ok (.iload_n 2, 1) := by decide +kernel
theorem dX12_isOcc_18 : decode cX12_isOcc 18 = .ok (.bipush 8, 2) := by decide +kernel
theorem dX12_isOcc_20 : decode cX12_isOcc 20 = .ok (.idiv, 1) := by decide +kernel
theorem dX12_isOcc_21 : decode cX12_isOcc 21 = .ok (.invokestatic 257, 3) := by decide +kernel
theorem dX12_isOcc_24 : decode cX12_isOcc 24 = .ok (.ifCond .eq 30, 3) := by decide +kernel
theorem dX12_isOcc_27 : decode cX12_isOcc 27 = .ok (.iload_n 2, 1) := by decide +kernel
theorem dX12_isOcc_28 : decode cX12_isOcc 28 = .ok (.bipush 8, 2) := by decide +kernel
theorem dX12_isOcc_30 : decode cX12_isOcc 30 = .ok (.irem, 1) := by decide +kernel
theorem dX12_isOcc_31 : decode cX12_isOcc 31 = .ok (.aload_n 0, 1) := by decide +kernel
theorem dX12_isOcc_32 : decode cX12_isOcc 32 = .ok (.aload_n 0, 1) := by decide +kernel
theorem dX12_isOcc_33 : decode cX12_isOcc 33 = .ok (.getfield 13, 3) := by decide +kernel
theorem dX12_isOcc_36 : decode cX12_isOcc 36 = .ok (.iload_n 1, 1) := by decide +kernel
theorem dX12_isOcc_37 : decode cX12_isOcc 37 = .ok (.iload_n 2, 1) := by decide +kernel
theorem dX12_isOcc_38 : decode cX12_isOcc 38 = .ok (.bipush 8, 2) := by decide +kernel
theorem dX12_isOcc_40 : decode cX12_isOcc 40 = .ok (.idiv, 1) := by decide +kernel
theorem dX12_isOcc_41 : decode cX12_isOcc 41 = .ok (.invokestatic 250, 3) := by decide +kernel
theorem dX12_isOcc_44 : decode cX12_isOcc 44 = .ok (.invokevirtual 334, 3) := by decide +kernel
theorem dX12_isOcc_47 : decode cX12_isOcc 47 = .ok (.if_icmp .ge 7, 3) := by decide +kernel
theorem dX12_isOcc_50 : decode cX12_isOcc 50 = .ok (.iconst 1, 1) := by decide +kernel
theorem dX12_isOcc_51 : decode cX12_isOcc 51 = .ok (.goto 4, 3) := by decide +kernel
theorem dX12_isOcc_54 : decode cX12_isOcc 54 = .ok (.iconst 0, 1) := by decide +kernel
theorem dX12_isOcc_55 : decode cX12_isOcc 55 = .ok (.ireturn, 1) := by decide +kernel
theorem dX12_asks_0 : decode cX12_asks 0 = .ok (.aload_n 0, 1) := by decide +kernel
theorem dX12_asks_1 : decode cX12_asks 1 = .ok (.getfield 13, 3) := by decide +kernel
theorem dX12_asks_4 : decode cX12_asks 4 = .ok (.sipush 848, 3) := by decide +kernel
theorem dX12_asks_7 : decode cX12_asks 7 = .ok (.bipush 32, 2) := by decide +kernel
theorem dX12_asks_9 : decode cX12_asks 9 = .ok (.iload_n 1, 1) := by decide +kernel
theorem dX12_asks_10 : decode cX12_asks 10 = .ok (.imul, 1) := by decide +kernel
theorem dX12_asks_11 : decode cX12_asks 11 = .ok (.iadd, 1) := by decide +kernel
theorem dX12_asks_12 : decode cX12_asks 12 = .ok (.iload_n 2, 1) := by decide +kernel
theorem dX12_asks_13 : decode cX12_asks 13 = .ok (.iadd, 1) := by decide +kernel
theorem dX12_asks_14 : decode cX12_asks 14 = .ok (.iaload, 1) := by decide +kernel
theorem dX12_asks_15 : decode cX12_asks 15 = .ok (.ireturn, 1) := by decide +kernel
theorem dX12_laysRules_0 : decode cX12_laysRules 0 = .ok (.iconst 0, 1) := by decide +kernel
theorem dX12_laysRules_1 : decode cX12_laysRules 1 = .ok (.istore_n 2, 1) := by decide +kernel
theorem dX12_laysRules_2 : decode cX12_laysRules 2 = .ok (.iload_n 2, 1) := by decide +kernel
theorem dX12_laysRules_3 : decode cX12_laysRules 3 = .ok (.bipush 32, 2) := by decide +kernel
theorem dX12_laysRules_5 : decode cX12_laysRules 5 = .ok (.if_icmp .ge 21, 3) := by decide +kernel
theorem dX12_laysRules_8 : decode cX12_laysRules 8 = .ok (.aload_n 0, 1) := by decide +kernel
theorem dX12_laysRules_9 : decode cX12_laysRules 9 = .ok (.getfield 36, 3) := by decide +kernel
theorem dX12_laysRules_12 : decode cX12_laysRules 12 = .ok (.iload_n 2, 1) := by decide +kernel
theorem dX12_laysRules_13 : decode cX12_laysRules 13 = .ok (.aload_n 0, 1) := by decide +kernel
theorem dX12_laysRules_14 : decode cX12_laysRules 14 = .ok (.iload_n 1, 1) := by decide +kernel
theorem dX12_laysRules_15 : decode cX12_laysRules 15 = .ok (.iload_n 2, 1) := by decide +kernel
theorem dX12_laysRules_16 : decode cX12_laysRules 16 = .ok (.invokevirtual 340, 3) := by decide +kernel
theorem dX12_laysRules_19 : decode cX12_laysRules 19 = .ok (.iastore, 1) := by decide +kernel
theorem dX12_laysRules_20 : decode cX12_laysRules 20 = .ok (.iinc 2 1, 3) := by decide +kernel
theorem dX12_laysRules_23 : decode cX12_laysRules 23 = .ok (.goto (-21), 3) := by decide +kernel
theorem dX12_laysRules_26 : decode cX12_laysRules 26 = .ok (.return_, 1) := by decide +kernel
theorem dX12_addsInduced_0 : decode cX12_addsInduced 0 = .ok (.iconst 0, 1) := by decide +kernel
theorem dX12_addsInduced_1 : decode cX12_addsInduced 1 = .ok (.istore_n 2, 1) := by decide +kernel
theorem dX12_addsInduced_2 : decode cX12_addsInduced 2 = .ok (.iload_n 2, 1) := by decide +kernel
theorem dX12_addsInduced_3 : decode cX12_addsInduced 3 = .ok (.aload_n 0, 1) := by decide +kernel
theorem dX12_addsInduced_4 : decode cX12_addsInduced 4 = .ok (.getfield 13, 3) := by decide +kernel
theorem dX12_addsInduced_7 : decode cX12_addsInduced 7 = .ok (.bipush 32, 2) := by decide +kernel
theorem dX12_addsInduced_9 : decode cX12_addsInduced 9 = .ok (.iload_n 1, 1) := by decide +kernel
theorem dX12_addsInduced_10 : decode cX12_addsInduced 10 = .ok (.iadd, 1) := by decide +kernel
theorem dX12_addsInduced_11 : decode cX12_addsInduced 11 = .ok (.iaload, 1) := by decide +kernel
theorem dX12_addsInduced_12 : decode cX12_addsInduced 12 = .ok (.if_icmp .gt 70, 3) := by decide +kernel
theorem dX12_addsInduced_15 : decode cX12_addsInduced 15 = .ok (.aload_n 0, 1) := by decide +kernel
theorem dX12_addsInduced_16 : decode cX12_addsInduced 16 = .ok (.getfield 13, 3) := by decide +kernel
theorem dX12_addsInduced_19 : decode cX12_addsInduced 19 = .ok (.iload_n 1, 1) := by decide +kernel
theorem dX12_addsInduced_20 : decode cX12_addsInduced 20 = .ok (.iload_n 2, 1) := by decide +kernel
theorem dX12_addsInduced_21 : decode cX12_addsInduced 21 = .ok (.invokestatic 250, 3) := by decide +kernel
theorem dX12_addsInduced_24 : decode cX12_addsInduced 24 = .ok (.istore_n 3, 1) := by decide +kernel
theorem dX12_addsInduced_25 : decode cX12_addsInduced 25 = .ok (.iconst 0, 1) := by decide +kernel
theorem dX12_addsInduced_26 : decode cX12_addsInduced 26 = .ok (.istore 4, 2) := by decide +kernel
theorem dX12_addsInduced_28 : decode cX12_addsInduced 28 = .ok (.iload 4, 2) := by decide +kernel
theorem dX12_addsInduced_30 : decode cX12_addsInduced 30 = .ok (.aload_n 0, 1) := by decide +kernel
theorem dX12_addsInduced_31 : decode cX12_addsInduced 31 = .ok (.iload_n 3, 1) := by decide +kernel
theorem dX12_addsInduced_32 : decode cX12_addsInduced 32 = .ok (.invokevirtual 334, 3) := by decide +kernel
theorem dX12_addsInduced_35 : decode cX12_addsInduced 35 = .ok (.if_icmp .ge 41, 3) := by decide +kernel
theorem dX12_addsInduced_38 : decode cX12_addsInduced 38 = .ok (.aload_n 0, 1) := by decide +kernel
theorem dX12_addsInduced_39 : decode cX12_addsInduced 39 = .ok (.getfield 36, 3) := by decide +kernel
theorem dX12_addsInduced_42 : decode cX12_addsInduced 42 = .ok (.bipush 8, 2) := by decide +kernel
theorem dX12_addsInduced_44 : decode cX12_addsInduced 44 = .ok (.iload_n 2, 1) := by decide +kernel
theorem dX12_addsInduced_45 : decode cX12_addsInduced 45 = .ok (.imul, 1) := by decide +kernel
theorem dX12_addsInduced_46 : decode cX12_addsInduced 46 = .ok (.iload 4, 2) := by decide +kernel
theorem dX12_addsInduced_48 : decode cX12_addsInduced 48 = .ok (.iadd, 1) := by decide +kernel
theorem dX12_addsInduced_49 : decode cX12_addsInduced 49 = .ok (.dup2, 1) := by decide +kernel
theorem dX12_addsInduced_50 : decode cX12_addsInduced 50 = .ok (.iaload, 1) := by decide +kernel
theorem dX12_addsInduced_51 : decode cX12_addsInduced 51 = .ok (.aload_n 0, 1) := by decide +kernel
theorem dX12_addsInduced_52 : decode cX12_addsInduced 52 = .ok (.getfield 33, 3) := by decide +kernel
theorem dX12_addsInduced_55 : decode cX12_addsInduced 55 = .ok (.bipush 8, 2) := by decide +kernel
theorem dX12_addsInduced_57 : decode cX12_addsInduced 57 = .ok (.iload_n 3, 1) := by decide +kernel
theorem dX12_addsInduced_58 : decode cX12_addsInduced 58 = .ok (.imul, 1) := by decide +kernel
theorem dX12_addsInduced_59 : decode cX12_addsInduced 59 = .ok (.iload 4, 2) := by decide +kernel
theorem dX12_addsInduced_61 : decode cX12_addsInduced 61 = .ok (.iadd, 1) := by decide +kernel
theorem dX12_addsInduced_62 : decode cX12_addsInduced 62 = .ok (.iaload, 1) := by decide +kernel
theorem dX12_addsInduced_63 : decode cX12_addsInduced 63 = .ok (.bipush 8, 2) := by decide +kernel
theorem dX12_addsInduced_65 : decode cX12_addsInduced 65 = .ok (.iload_n 2, 1) := by decide +kernel
theorem dX12_addsInduced_66 : decode cX12_addsInduced 66 = .ok (.imul, 1) := by decide +kernel
theorem dX12_addsInduced_67 : decode cX12_addsInduced 67 = .ok (.ishl, 1) := by decide +kernel
theorem dX12_addsInduced_68 : decode cX12_addsInduced 68 = .ok (.ior, 1) := by decide +kernel
theorem dX12_addsInduced_69 : decode cX12_addsInduced 69 = .ok (.iastore, 1) := by decide +kernel
theorem dX12_addsInduced_70 : decode cX12_addsInduced 70 = .ok (.iinc 4 1, 3) := by decide +kernel
theorem dX12_addsInduced_73 : decode cX12_addsInduced 73 = .ok (.goto (-45), 3) := by decide +kernel
theorem dX12_addsInduced_76 : decode cX12_addsInduced 76 = .ok (.iinc 2 1, 3) := by decide +kernel
theorem dX12_addsInduced_79 : decode cX12_addsInduced 79 = .ok (.goto (-77), 3) := by decide +kernel
theorem dX12_addsInduced_82 : decode cX12_addsInduced 82 = .ok (.return_, 1) := by decide +kernel
theorem dX12_closes_0 : decode cX12_closes 0 = .ok (.iconst 0, 1) := by decide +kernel
theorem dX12_closes_1 : decode cX12_closes 1 = .ok (.istore_n 1, 1) := by decide +kernel
theorem dX12_closes_2 : decode cX12_closes 2 = .ok (.iload_n 1, 1) := by decide +kernel
theorem dX12_closes_3 : decode cX12_closes 3 = .ok (.bipush 32, 2) := by decide +kernel
theorem dX12_closes_5 : decode cX12_closes 5 = .ok (.if_icmp .ge 51, 3) := by decide +kernel
theorem dX12_closes_8 : decode cX12_closes 8 = .ok (.iconst 0, 1) := by decide +kernel
theorem dX12_closes_9 : decode cX12_closes 9 = .ok (.istore_n 2, 1) := by decide +kernel
theorem dX12_closes_10 : decode cX12_closes 10 = .ok (.iload_n 2, 1) := by decide +kernel
theorem dX12_closes_11 : decode cX12_closes 11 = .ok (.bipush 32, 2) := by decide +kernel
theorem dX12_closes_13 : decode cX12_closes 13 = .ok (.if_icmp .ge 37, 3) := by decide +kernel
theorem dX12_closes_16 : decode cX12_closes 16 = .ok (.aload_n 0, 1) := by decide +kernel
theorem dX12_closes_17 : decode cX12_closes 17 = .ok (.getfield 36, 3) := by decide +kernel
theorem dX12_closes_20 : decode cX12_closes 20 = .ok (.iload_n 2, 1) := by decide +kernel
theorem dX12_closes_21 : decode cX12_closes 21 = .ok (.iaload, 1) := by decide +kernel
theorem dX12_closes_22 : decode cX12_closes 22 = .ok (.iload_n 1, 1) := by decide +kernel
theorem dX12_closes_23 : decode cX12_closes 23 = .ok (.invokestatic 344, 3) := by decide +kernel
theorem dX12_closes_26 : decode cX12_closes 26 = .ok (.ifCond .eq 18, 3) := by decide +kernel
theorem dX12_closes_29 : decode cX12_closes 29 = .ok (.aload_n 0, 1) := by decide +kernel
theorem dX12_closes_30 : decode cX12_closes 30 = .ok (.getfield 36, 3) := by decide +kernel
theorem dX12_closes_33 : decode cX12_closes 33 = .ok (.iload_n 2, 1) := by decide +kernel
theorem dX12_closes_34 : decode cX12_closes 34 = .ok (.dup2, 1) := by decide +kernel
theorem dX12_closes_35 : decode cX12_closes 35 = .ok (.iaload, 1) := by decide +kernel
theorem dX12_closes_36 : decode cX12_closes 36 = .ok (.aload_n 0, 1) := by decide +kernel
theorem dX12_closes_37 : decode cX12_closes 37 = .ok (.getfield 36, 3) := by decide +kernel
theorem dX12_closes_40 : decode cX12_closes 40 = .ok (.iload_n 1, 1) := by decide +kernel
theorem dX12_closes_41 : decode cX12_closes 41 = .ok (.iaload, 1) := by decide +kernel
theorem dX12_closes_42 : decode cX12_closes 42 = .ok (.ior, 1) := by decide +kernel
theorem dX12_closes_43 : decode cX12_closes 43 = .ok (.iastore, 1) := by decide +kernel
theorem dX12_closes_44 : decode cX12_closes 44 = .ok (.iinc 2 1, 3) := by decide +kernel
theorem dX12_closes_47 : decode cX12_closes 47 = .ok (.goto (-37), 3) := by decide +kernel
theorem dX12_closes_50 : decode cX12_closes 50 = .ok (.iinc 1 1, 3) := by decide +kernel
theorem dX12_closes_53 : decode cX12_closes 53 = .ok (.goto (-51), 3) := by decide +kernel
theorem dX12_closes_56 : decode cX12_closes 56 = .ok (.return_, 1) := by decide +kernel
theorem dX12_laysClosed_0 : decode cX12_laysClosed 0 = .ok (.aload_n 0, 1) := by decide +kernel
theorem dX12_laysClosed_1 : decode cX12_laysClosed 1 = .ok (.iload_n 1, 1) := by decide +kernel
theorem dX12_laysClosed_2 : decode cX12_laysClosed 2 = .ok (.invokevirtual 347, 3) := by decide +kernel
theorem dX12_laysClosed_5 : decode cX12_laysClosed 5 = .ok (.aload_n 0, 1) := by decide +kernel
theorem dX12_laysClosed_6 : decode cX12_laysClosed 6 = .ok (.iload_n 1, 1) := by decide +kernel
theorem dX12_laysClosed_7 : decode cX12_laysClosed 7 = .ok (.invokevirtual 350, 3) := by decide +kernel
theorem dX12_laysClosed_10 : decode cX12_laysClosed 10 = .ok (.aload_n 0, 1) := by decide +kernel
theorem dX12_laysClosed_11 : decode cX12_laysClosed 11 = .ok (.invokevirtual 353, 3) := by decide +kernel
theorem dX12_laysClosed_14 : decode cX12_laysClosed 14 = .ok (.return_, 1) := by decide +kernel
theorem dX12_induces_0 : decode cX12_induces 0 = .ok (.iconst 0, 1) := by decide +kernel
theorem dX12_induces_1 : decode cX12_induces 1 = .ok (.istore_n 1, 1) := by decide +kernel
theorem dX12_induces_2 : decode cX12_induces 2 = .ok (.iload_n 1, 1) := by decide +kernel
theorem dX12_induces_3 : decode cX12_induces 3 = .ok (.bipush 64, 2) := by decide +kernel
theorem dX12_induces_5 : decode cX12_induces 5 = .ok (.if_icmp .ge 16, 3) := by decide +kernel
theorem dX12_induces_8 : decode cX12_induces 8 = .ok (.aload_n 0, 1) := by decide +kernel
theorem dX12_induces_9 : decode cX12_induces 9 = .ok (.getfield 33, 3) := by decide +kernel
theorem dX12_induces_12 : decode cX12_induces 12 = .ok (.iload_n 1, 1) := by decide +kernel
theorem dX12_induces_13 : decode cX12_induces 13 = .ok (.iconst 0, 1) := by decide +kernel
theorem dX12_induces_14 : decode cX12_induces 14 = .ok (.iastore, 1) := by decide +kernel
theorem dX12_induces_15 : decode cX12_induces 15 = .ok (.iinc 1 1, 3) := by decide +kernel
theorem dX12_induces_18 : decode cX12_induces 18 = .ok (.goto (-16), 3) := by decide +kernel
theorem dX12_induces_21 : decode cX12_induces 21 = .ok (.iconst 1, 1) := by decide +kernel
theorem dX12_induces_22 : decode cX12_induces 22 = .ok (.istore_n 1, 1) := by decide +kernel
theorem dX12_induces_23 : decode cX12_induces 23 = .ok (.iload_n 1, 1) := by decide +kernel
theorem dX12_induces_24 : decode cX12_induces 24 = .ok (.ifCond .eq 163, 3) := by decide +kernel
theorem dX12_induces_27 : decode cX12_induces 27 = .ok (.iconst 0, 1) := by decide +kernel
theorem dX12_induces_28 : decode cX12_induces 28 = .ok (.istore_n 1, 1) := by decide +kernel
theorem dX12_induces_29 : decode cX12_induces 29 = .ok (.iconst 0, 1) := by decide +kernel
theorem dX12_induces_30 : decode cX12_induces 30 = .ok (.istore_n 2, 1) := by decide +kernel
theorem dX12_induces_31 : decode cX12_induces 31 = .ok (.iload_n 2, 1) := by decide +kernel
theorem dX12_induces_32 : decode cX12_induces 32 = .ok (.aload_n 0, 1) := by decide +kernel
theorem dX12_induces_33 : decode cX12_induces 33 = .ok (.getfield 13, 3) := by decide +kernel
theorem dX12_induces_36 : decode cX12_induces 36 = .ok (.iconst 1, 1) := by decide +kernel
theorem dX12_induces_37 : decode cX12_induces 37 = .ok (.iaload, 1) := by decide +kernel
theorem dX12_induces_38 : decode cX12_induces 38 = .ok (.if_icmp .ge 146, 3) := by decide +kernel
theorem dX12_induces_41 : decode cX12_induces 41 = .ok (.aload_n 0, 1) := by decide +kernel
theorem dX12_induces_42 : decode cX12_induces 42 = .ok (.iload_n 2, 1) := by decide +kernel
theorem dX12_induces_43 : decode cX12_induces 43 = .ok (.invokevirtual 356, 3) := by decide +kernel
theorem dX12_induces_46 : decode cX12_induces 46 = .ok (.iconst 0, 1) := by decide +kernel
theorem dX12_induces_47 : decode cX12_induces 47 = .ok (.istore_n 3, 1) := by decide +kernel
theorem dX12_induces_48 : decode cX12_induces 48 = .ok (.iload_n 3, 1) := by decide +kernel
theorem dX12_induces_49 : decode cX12_induces 49 = .ok (.aload_n 0, 1) := by decide +kernel
theorem dX12_induces_50 : decode cX12_induces 50 = .ok (.getfield 13, 3) := by decide +kernel
theorem dX12_induces_53 : decode cX12_induces 53 = .ok (.bipush 32, 2) := by decide +kernel
theorem dX12_induces_55 : decode cX12_induces 55 = .ok (.iload_n 2, 1) := by decide +kernel
theorem dX12_induces_56 : decode cX12_induces 56 = .ok (.iadd, 1) := by decide +kernel
theorem dX12_induces_57 : decode cX12_induces 57 = .ok (.iaload, 1) := by decide +kernel
theorem dX12_induces_58 : decode cX12_induces 58 = .ok (.if_icmp .gt 120, 3) := by decide +kernel
theorem dX12_induces_61 : decode cX12_induces 61 = .ok (.aload_n 0, 1) := by decide +kernel
theorem dX12_induces_62 : decode cX12_induces 62 = .ok (.getfield 13, 3) := by decide +kernel
theorem dX12_induces_65 : decode cX12_induces 65 = .ok (.iload_n 2, 1) := by decide +kernel
theorem dX12_induces_66 : decode cX12_induces 66 = .ok (.iload_n 3, 1) := by decide +kernel
theorem dX12_induces_67 : decode cX12_induces 67 = .ok (.invokestatic 250, 3) := by decide +kernel
theorem dX12_induces_70 : decode cX12_induces 70 = .ok (.istore 4, 2) := by decide +kernel
theorem dX12_induces_72 : decode cX12_induces 72 = .ok (.iconst 0, 1) := by decide +kernel
theorem dX12_induces_73 : decode cX12_induces 73 = .ok (.istore 5, 2) := by decide +kernel
theorem dX12_induces_75 : decode cX12_induces 75 = .ok (.iload 5, 2) := by decide +kernel
theorem dX12_induces_77 : decode cX12_induces 77 = .ok (.aload_n 0, 1) := by decide +kernel
theorem dX12_induces_78 : decode cX12_induces 78 = .ok (.iload 4, 2) := by decide +kernel
theorem dX12_induces_80 : decode cX12_induces 80 = .ok (.invokevirtual 334, 3) := by decide +kernel
theorem dX12_induces_83 : decode cX12_induces 83 = .ok (.if_icmp .ge 89, 3) := by decide +kernel
theorem dX12_induces_86 : decode cX12_induces 86 = .ok (.aload_n 0, 1) := by decide +kernel
theorem dX12_induces_87 : decode cX12_induces 87 = .ok (.getfield 33, 3) := by decide +kernel
theorem dX12_induces_90 : decode cX12_induces 90 = .ok (.bipush 8, 2) := by decide +kernel
theorem dX12_induces_92 : decode cX12_induces 92 = .ok (.iload 4, 2) := by decide +kernel
theorem dX12_induces_94 : decode cX12_induces 94 = .ok (.imul, 1) := by decide +kernel
theorem dX12_induces_95 : decode cX12_induces 95 = .ok (.iload 5, 2) := by decide +kernel
theorem dX12_induces_97 : decode cX12_induces 97 = .ok (.iadd, 1) := by decide +kernel
theorem dX12_induces_98 : decode cX12_induces 98 = .ok (.iaload, 1) := by decide +kernel
theorem dX12_induces_99 : decode cX12_induces 99 = .ok (.aload_n 0, 1) := by decide +kernel
theorem dX12_induces_100 : decode cX12_induces 100 = .ok (.getfield 36, 3) := by decide +kernel
theorem dX12_induces_103 : decode cX12_induces 103 = .ok (.bipush 8, 2) := by decide +kernel
theorem dX12_induces_105 : decode cX12_induces 105 = .ok (.iload_n 3, 1) := by decide +kernel
theorem dX12_induces_106 : decode cX12_induces 106 = .ok (.imul, 1) := by decide +kernel
theorem dX12_induces_107 : decode cX12_induces 107 = .ok (.iload 5, 2) := by decide +kernel
theorem dX12_induces_109 : decode cX12_induces 109 = .ok (.iadd, 1) := by decide +kernel
theorem dX12_induces_110 : decode cX12_induces 110 = .ok (.iaload, 1) := by decide +kernel
theorem dX12_induces_111 : decode cX12_induces 111 = .ok (.bipush 8, 2) := by decide +kernel
theorem dX12_induces_113 : decode cX12_induces 113 = .ok (.iload_n 3, 1) := by decide +kernel
theorem dX12_induces_114 : decode cX12_induces 114 = .ok (.imul, 1) := by decide +kernel
theorem dX12_induces_115 : decode cX12_induces 115 = .ok (.iushr, 1) := by decide +kernel
theorem dX12_induces_116 : decode cX12_induces 116 = .ok (.sipush 255, 3) := by decide +kernel
theorem dX12_induces_119 : decode cX12_induces 119 = .ok (.iand, 1) := by decide +kernel
theorem dX12_induces_120 : decode cX12_induces 120 = .ok (.ior, 1) := by decide +kernel
theorem dX12_induces_121 : decode cX12_induces 121 = .ok (.istore 6, 2) := by decide +kernel
theorem dX12_induces_123 : decode cX12_induces 123 = .ok (.iload_n 1, 1) := by decide +kernel
theorem dX12_induces_124 : decode cX12_induces 124 = .ok (.ifCond .ne 21, 3) := by decide +kernel
theorem dX12_induces_127 : decode cX12_induces 127 = .ok (.iload 6, 2) := by decide +kernel
theorem dX12_induces_129 : decode cX12_induces 129 = .ok (.aload_n 0, 1) := by decide +kernel
theorem dX12_induces_130 : decode cX12_induces 130 = .ok (.getfield 33, 3) := by decide +kernel
theorem dX12_induces_133 : decode cX12_induces 133 = .ok (.bipush 8, 2) := by decide +kernel
theorem dX12_induces_135 : decode cX12_induces 135 = .ok (.iload 4, 2) := by decide +kernel
theorem dX12_induces_137 : decode cX12_induces 137 = .ok (.imul, 1) := by decide +kernel
theorem dX12_induces_138 : decode cX12_induces 138 = .ok (.iload 5, 2) := by decide +kernel
theorem dX12_induces_140 : decode cX12_induces 140 = .ok (.iadd, 1) := by decide +kernel
theorem dX12_induces_141 : decode cX12_induces 141 = .ok (.iaload, 1) := by decide +kernel
theorem dX12_induces_142 : decode cX12_induces 142 = .ok (.if_icmp .eq 7, 3) := by decide +kernel
theorem dX12_induces_145 : decode cX12_induces 145 = .ok (.iconst 1, 1) := by decide +kernel
theorem dX12_induces_146 : decode cX12_induces 146 = .ok (.goto 4, 3) := by decide +kernel
theorem dX12_induces_149 : decode cX12_induces 149 = .ok (.iconst 0, 1) := by decide +kernel
theorem dX12_induces_150 : decode cX12_induces 150 = .ok (.istore_n 1, 1) := by decide +kernel
theorem dX12_induces_151 : decode cX12_induces 151 = .ok (.aload_n 0, 1) := by decide +kernel
theorem dX12_induces_152 : decode cX12_induces 152 = .ok (.getfield 33, 3) := by decide +kernel
theorem dX12_induces_155 : decode cX12_induces 155 = .ok (.bipush 8, 2) := by decide +kernel
theorem dX12_induces_157 : decode cX12_induces 157 = .ok (.iload 4, 2) := by decide +kernel
theorem dX12_induces_159 : decode cX12_induces 159 = .ok (.imul, 1) := by decide +kernel
theorem dX12_induces_160 : decode cX12_induces 160 = .ok (.iload 5, 2) := by decide +kernel
theorem dX12_induces_162 : decode cX12_induces 162 = .ok (.iadd, 1) := by decide +kernel
theorem dX12_induces_163 : decode cX12_induces 163 = .ok (.iload 6, 2) := by decide +kernel
theorem dX12_induces_165 : decode cX12_induces 165 = .ok (.iastore, 1) := by decide +kernel
theorem dX12_induces_166 : decode cX12_induces 166 = .ok (.iinc 5 1, 3) := by decide +kernel
theorem dX12_induces_169 : decode cX12_induces 169 = .ok (.goto (-94), 3) := by decide +kernel
