theorem dX10_init_0 : decode cX10_init 0 = .ok (.aload_n 0, 1) := by decide +kernel
theorem dX10_init_1 : decode cX10_init 1 = .ok (.invokespecial 1, 3) := by decide +kernel
theorem dX10_init_4 : decode cX10_init 4 = .ok (.aload_n 0, 1) := by decide +kernel
theorem dX10_init_5 : decode cX10_init 5 = .ok (.sipush 1000, 3) := by decide +kernel
theorem dX10_init_8 : decode cX10_init 8 = .ok (.newarray .int, 2) := by decide +kernel
theorem dX10_init_10 : decode cX10_init 10 = .ok (.putfield 7, 3) := by decide +kernel
theorem dX10_init_13 : decode cX10_init 13 = .ok (.aload_n 0, 1) := by decide +kernel
theorem dX10_init_14 : decode cX10_init 14 = .ok (.bipush 12, 2) := by decide +kernel
theorem dX10_init_16 : decode cX10_init 16 = .ok (.newarray .int, 2) := by decide +kernel
theorem dX10_init_18 : decode cX10_init 18 = .ok (.putfield 13, 3) := by decide +kernel
theorem dX10_init_21 : decode cX10_init 21 = .ok (.aload_n 0, 1) := by decide +kernel
theorem dX10_init_22 : decode cX10_init 22 = .ok (.bipush 14, 2) := by decide +kernel
theorem dX10_init_24 : decode cX10_init 24 = .ok (.newarray .long, 2) := by decide +kernel
theorem dX10_init_26 : decode cX10_init 26 = .ok (.putfield 16, 3) := by decide +kernel
theorem dX10_init_29 : decode cX10_init 29 = .ok (.aload_n 0, 1) := by decide +kernel
theorem dX10_init_30 : decode cX10_init 30 = .ok (.bipush 10, 2) := by decide +kernel
theorem dX10_init_32 : decode cX10_init 32 = .ok (.newarray .long, 2) := by decide +kernel
theorem dX10_init_34 : decode cX10_init 34 = .ok (.putfield 20, 3) := by decide +kernel
theorem dX10_init_37 : decode cX10_init 37 = .ok (.aload_n 0, 1) := by decide +kernel
theorem dX10_init_38 : decode cX10_init 38 = .ok (.bipush 6, 2) := by decide +kernel
theorem dX10_init_40 : decode cX10_init 40 = .ok (.newarray .long, 2) := by decide +kernel
theorem dX10_init_42 : decode cX10_init 42 = .ok (.putfield 23, 3) := by decide +kernel
theorem dX10_init_45 : decode cX10_init 45 = .ok (.aload_n 0, 1) := by decide +kernel
theorem dX10_init_46 : decode cX10_init 46 = .ok (.bipush 12, 2) := by decide +kernel
theorem dX10_init_48 : decode cX10_init 48 = .ok (.newarray .long, 2) := by decide +kernel
theorem dX10_init_50 : decode cX10_init 50 = .ok (.putfield 26, 3) := by decide +kernel
theorem dX10_init_53 : decode cX10_init 53 = .ok (.aload_n 0, 1) := by decide +kernel
theorem dX10_init_54 : decode cX10_init 54 = .ok (.bipush 14, 2) := by decide +kernel
theorem dX10_init_56 : decode cX10_init 56 = .ok (.newarray .int, 2) := by decide +kernel
theorem dX10_init_58 : decode cX10_init 58 = .ok (.putfield 29, 3) := by decide +kernel
theorem dX10_init_61 : decode cX10_init 61 = .ok (.aload_n 0, 1) := by decide +kernel
theorem dX10_init_62 : decode cX10_init 62 = .ok (.bipush 14, 2) := by decide +kernel
theorem dX10_init_64 : decode cX10_init 64 = .ok (.newarray .int, 2) := by decide +kernel
theorem dX10_init_66 : decode cX10_init 66 = .ok (.putfield 32, 3) := by decide +kernel
theorem dX10_init_69 : decode cX10_init 69 = .ok (.aload_n 0, 1) := by decide +kernel
theorem dX10_init_70 : decode cX10_init 70 = .ok (.bipush 10, 2) := by decide +kernel
theorem dX10_init_72 : decode cX10_init 72 = .ok (.newarray .int, 2) := by decide +kernel
theorem dX10_init_74 : decode cX10_init 74 = .ok (.putfield 35, 3) := by decide +kernel
theorem dX10_init_77 : decode cX10_init 77 = .ok (.aload_n 0, 1) := by decide +kernel
theorem dX10_init_78 : decode cX10_init 78 = .ok (.bipush 10, 2) := by decide +kernel
theorem dX10_init_80 : decode cX10_init 80 = .ok (.newarray .int, 2) := by decide +kernel
theorem dX10_init_82 : decode cX10_init 82 = .ok (.putfield 38, 3) := by decide +kernel
theorem dX10_init_85 : decode cX10_init 85 = .ok (.aload_n 0, 1) := by decide +kernel
theorem dX10_init_86 : decode cX10_init 86 = .ok (.bipush 6, 2) := by decide +kernel
theorem dX10_init_88 : decode cX10_init 88 = .ok (.newarray .int, 2) := by decide +kernel
theorem dX10_init_90 : decode cX10_init 90 = .ok (.putfield 41, 3) := by decide +kernel
theorem dX10_init_93 : decode cX10_init 93 = .ok (.aload_n 0, 1) := by decide +kernel
theorem dX10_init_94 : decode cX10_init 94 = .ok (.bipush 6, 2) := by decide +kernel
theorem dX10_init_96 : decode cX10_init 96 = .ok (.newarray .int, 2) := by decide +kernel
theorem dX10_init_98 : decode cX10_init 98 = .ok (.putfield 44, 3) := by decide +kernel
theorem dX10_init_101 : decode cX10_init 101 = .ok (.aload_n 0, 1) := by decide +kernel
theorem dX10_init_102 : decode cX10_init 102 = .ok (.bipush 12, 2) := by decide +kernel
theorem dX10_init_104 : decode cX10_init 104 = .ok (.newarray .int, 2) := by decide +kernel
theorem dX10_init_106 : decode cX10_init 106 = .ok (.putfield 47, 3) := by decide +kernel
theorem dX10_init_109 : decode cX10_init 109 = .ok (.aload_n 0, 1) := by decide +kernel
theorem dX10_init_110 : decode cX10_init 110 = .ok (.bipush 12, 2) := by decide +kernel
theorem dX10_init_112 : decode cX10_init 112 = .ok (.newarray .int, 2) := by decide +kernel
theorem dX10_init_114 : decode cX10_init 114 = .ok (.putfield 50, 3) := by decide +kernel
theorem dX10_init_117 : decode cX10_init 117 = .ok (.aload_n 0, 1) := by decide +kernel
theorem dX10_init_118 : decode cX10_init 118 = .ok (.bipush 24, 2) := by decide +kernel
theorem dX10_init_120 : decode cX10_init 120 = .ok (.newarray .int, 2) := by decide +kernel
theorem dX10_init_122 : decode cX10_init 122 = .ok (.putfield 53, 3) := by decide +kernel
theorem dX10_init_125 : decode cX10_init 125 = .ok (.aload_n 0, 1) := by decide +kernel
theorem dX10_init_126 : decode cX10_init 126 = .ok (.iconst 2, 1) := by decide +kernel
theorem dX10_init_127 : decode cX10_init 127 = .ok (.newarray .int, 2) := by decide +kernel
theorem dX10_init_129 : decode cX10_init 129 = .ok (.putfield 56, 3) := by decide +kernel
theorem dX10_init_132 : decode cX10_init 132 = .ok (.aload_n 0, 1) := by decide +kernel
theorem dX10_init_133 : decode cX10_init 133 = .ok (.iconst 2, 1) := by decide +kernel
theorem dX10_init_134 : decode cX10_init 134 = .ok (.newarray .int, 2) := by decide +kernel
theorem dX10_init_136 : decode cX10_init 136 = .ok (.putfield 59, 3) := by decide +kernel
theorem dX10_init_139 : decode cX10_init 139 = .ok (.aload_n 0, 1) := by decide +kernel
theorem dX10_init_140 : decode cX10_init 140 = .ok (.sipush 2000, 3) := by decide +kernel
theorem dX10_init_143 : decode cX10_init 143 = .ok (.newarray .int, 2) := by decide +kernel
theorem dX10_init_145 : decode cX10_init 145 = .ok (.putfield 62, 3) := by decide +kernel
theorem dX10_init_148 : decode cX10_init 148 = .ok (.aload_n 0, 1) := by decide +kernel
theorem dX10_init_149 : decode cX10_init 149 = .ok (.bipush 7, 2) := by decide +kernel
theorem dX10_init_151 : decode cX10_init 151 = .ok (.newarray .int, 2) := by decide +kernel
theorem dX10_init_153 : decode cX10_init 153 = .ok (.putfield 65, 3) := by decide +kernel
theorem dX10_init_156 : decode cX10_init 156 = .ok (.aload_n 0, 1) := by decide +kernel
theorem dX10_init_157 : decode cX10_init 157 = .ok (.bipush 7, 2) := by decide +kernel
theorem dX10_init_159 : decode cX10_init 159 = .ok (.newarray .boolean, 2) := by decide +kernel
theorem dX10_init_161 : decode cX10_init 161 = .ok (.putfield 68, 3) := by decide +kernel
theorem dX10_init_164 : decode cX10_init 164 = .ok (.aload_n 0, 1) := by decide +kernel
theorem dX10_init_165 : decode cX10_init 165 = .ok (.bipush 7, 2) := by decide +kernel
theorem dX10_init_167 : decode cX10_init 167 = .ok (.newarray .int, 2) := by decide +kernel
theorem dX10_init_169 : decode cX10_init 169 = .ok (.putfield 72, 3) := by decide +kernel
theorem dX10_init_172 : decode cX10_init 172 = .ok (.aload_n 0, 1) := by decide +kernel
theorem dX10_init_173 : decode cX10_init 173 = .ok (.bipush 7, 2) := by decide +kernel
theorem dX10_init_175 : decode cX10_init 175 = .ok (.newarray .int, 2) := by decide +kernel
theorem dX10_init_177 : decode cX10_init 177 = .ok (.putfield 75, 3) := by decide +kernel
theorem dX10_init_180 : decode cX10_init 180 = .ok (.aload_n 0, 1) := by decide +kernel
theorem dX10_init_181 : decode cX10_init 181 = .ok (.bipush 7, 2) := by decide +kernel
theorem dX10_init_183 : decode cX10_init 183 = .ok (.newarray .int, 2) := by decide +kernel
theorem dX10_init_185 : decode cX10_init 185 = .ok (.putfield 78, 3) := by decide +kernel
theorem dX10_init_188 : decode cX10_init 188 = .ok (.aload_n 0, 1) := by decide +kernel
theorem dX10_init_189 : decode cX10_init 189 = .ok (.bipush 7, 2) := by decide +kernel
theorem dX10_init_191 : decode cX10_init 191 = .ok (.newarray .int, 2) := by decide +kernel
theorem dX10_init_193 : decode cX10_init 193 = .ok (.putfield 81, 3) := by decide +kernel
theorem dX10_init_196 : decode cX10_init 196 = .ok (.aload_n 0, 1) := by decide +kernel
theorem dX10_init_197 : decode cX10_init 197 = .ok (.bipush 7, 2) := by decide +kernel
theorem dX10_init_199 : decode cX10_init 199 = .ok (.newarray .int, 2) := by decide +kernel
theorem dX10_init_201 : decode cX10_init 201 = .ok (.putfield 84, 3) := by decide +kernel
theorem dX10_init_204 : decode cX10_init 204 = .ok (.aload_n 0, 1) := by decide +kernel
theorem dX10_init_205 : decode cX10_init 205 = .ok (.bipush 7, 2) := by decide +kernel
theorem dX10_init_207 : decode cX10_init 207 = .ok (.newarray .int, 2) := by decide +kernel
theorem dX10_init_209 : decode cX10_init 209 = .ok (.putfield 87, 3) := by decide +kernel
theorem dX10_init_212 : decode cX10_init 212 = .ok (.aload_n 0, 1) := by decide +kernel
theorem dX10_init_213 : decode cX10_init 213 = .ok (.bipush 7, 2) := by decide +kernel
theorem dX10_init_215 : decode cX10_init 215 = .ok (.newarray .int, 2) := by decide +kernel
theorem dX10_init_217 : decode cX10_init 217 = .ok (.putfield 90, 3) := by decide +kernel
theorem dX10_init_220 : decode cX10_init 220 = .ok (.aload_n 0, 1) := by decide +kernel
theorem dX10_init_221 : decode cX10_init 221 = .ok (.bipush 7, 2) := by decide +kernel
theorem dX10_init_223 : decode cX10_init 223 = .ok (.newarray .int, 2) := by decide +kernel
theorem dX10_init_225 : decode cX10_init 225 = .ok (.putfield 93, 3) := by decide +kernel
theorem dX10_init_228 : decode cX10_init 228 = .ok (.aload_n 0, 1) := by decide +kernel
theorem dX10_init_229 : decode cX10_init 229 = .ok (.bipush 7, 2) := by decide +kernel
theorem dX10_init_231 : decode cX10_init 231 = .ok (.newarray .int, 2) := by decide +kernel
theorem dX10_init_233 : decode cX10_init 233 = .ok (.putfield 96, 3) := by decide +kernel
theorem dX10_init_236 : decode cX10_init 236 = .ok (.aload_n 0, 1) := by decide +kernel
theorem dX10_init_237 : decode cX10_init 237 = .ok (.bipush 20, 2) := by decide +kernel
theorem dX10_init_239 : decode cX10_init 239 = .ok (.newarray .int, 2) := by decide +kernel
theorem dX10_init_241 : decode cX10_init 241 = .ok (.putfield 99, 3) := by decide +kernel
theorem dX10_init_244 : decode cX10_init 244 = .ok (.aload_n 0, 1) := by decide +kernel
theorem dX10_init_245 : decode cX10_init 245 = .ok (.bipush 6, 2) := by decide +kernel
theorem dX10_init_247 : decode cX10_init 247 = .ok (.newarray .int, 2) := by decide +kernel
theorem dX10_init_249 : decode cX10_init 249 = .ok (.putfield 102, 3) := by decide +kernel
theorem dX10_init_252 : decode cX10_init 252 = .ok (.aload_n 0, 1) := by decide +kernel
theorem dX10_init_253 : decode cX10_init 253 = .ok (.sipush 240, 3) := by decide +kernel
theorem dX10_init_256 : decode cX10_init 256 = .ok (.newarray .int, 2) := by decide +kernel
theorem dX10_init_258 : decode cX10_init 258 = .ok (.putfield 105, 3) := by decide +kernel
theorem dX10_init_261 : decode cX10_init 261 = .ok (.aload_n 0, 1) := by decide +kernel
theorem dX10_init_262 : decode cX10_init 262 = .ok (.sipush 240, 3) := by decide +kernel
theorem dX10_init_265 : decode cX10_init 265 = .ok (.newarray .int, 2) := by decide +kernel
theorem dX10_init_267 : decode cX10_init 267 = .ok (.putfield 108, 3) := by decide +kernel
theorem dX10_init_270 : decode cX10_init 270 = .ok (.aload_n 0, 1) := by decide +kernel
theorem dX10_init_271 : decode cX10_init 271 = .ok (.sipush 240, 3) := by decide +kernel
theorem dX10_init_274 : decode cX10_init 274 = .ok (.newarray .int, 2) := by decide +kernel
theorem dX10_init_276 : decode cX10_init 276 = .ok (.putfield 111, 3) := by decide +kernel
theorem dX10_init_279 : decode cX10_init 279 = .ok (.aload_n 0, 1) := by decide +kernel
theorem dX10_init_280 : decode cX10_init 280 = .ok (.iconst 5, 1) := by decide +kernel
theorem dX10_init_281 : decode cX10_init 281 = .ok (.newarray .int, 2) := by decide +kernel
theorem dX10_init_283 : decode cX10_init 283 = .ok (.putfield 114, 3) := by decide +kernel
theorem dX10_init_286 : decode cX10_init 286 = .ok (.aload_n 0, 1) := by decide +kernel
theorem dX10_init_287 : decode cX10_init 287 = .ok (.bipush 40, 2) := by decide +kernel
theorem dX10_init_289 : decode cX10_init 289 = .ok (.newarray .int, 2) := by decide +kernel
theorem dX10_init_291 : decode cX10_init 291 = .ok (.putfield 117, 3) := by decide +kernel
theorem dX10_init_294 : decode cX10_init 294 = .ok (.aload_n 0, 1) := by decide +kernel
theorem dX10_init_295 : decode cX10_init 295 = .ok (.bipush 40, 2) := by decide +kernel
theorem dX10_init_297 : decode cX10_init 297 = .ok (.newarray .int, 2) := by decide +kernel
theorem dX10_init_299 : decode cX10_init 299 = .ok (.putfield 120, 3) := by decide +kernel
theorem dX10_init_302 : decode cX10_init 302 = .ok (.aload_n 0, 1) := by decide +kernel
theorem dX10_init_303 : decode cX10_init 303 = .ok (.bipush 40, 2) := by decide +kernel
theorem dX10_init_305 : decode cX10_init 305 = .ok (.newarray .boolean, 2) := by decide +kernel
theorem dX10_init_307 : decode cX10_init 307 = .ok (.putfield 123, 3) := by decide +kernel
theorem dX10_init_310 : decode cX10_init 310 = .ok (.aload_n 0, 1) := by decide +kernel
theorem dX10_init_311 : decode cX10_init 311 = .ok (.bipush 25, 2) := by decide +kernel
theorem dX10_init_313 : decode cX10_init 313 = .ok (.newarray .int, 2) := by decide +kernel
theorem dX10_init_315 : decode cX10_init 315 = .ok (.putfield 126, 3) := by decide +kernel
theorem dX10_init_318 : decode cX10_init 318 = .ok (.aload_n 0, 1) := by decide +kernel
theorem dX10_init_319 : decode cX10_init 319 = .ok (.bipush 25, 2) := by decide +kernel
theorem dX10_init_321 : decode cX10_init 321 = .ok (.newarray .int, 2) := by decide +kernel
theorem dX10_init_323 : decode cX10_init 323 = .ok (.putfield 129, 3) := by decide +kernel
theorem dX10_init_326 : decode cX10_init 326 = .ok (.aload_n 0, 1) := by decide +kernel
theorem dX10_init_327 : decode cX10_init 327 = .ok (.bipush 25, 2) := by decide +kernel
theorem dX10_init_329 : decode cX10_init 329 = .ok (.newarray .int, 2) := by decide +kernel
theorem dX10_init_331 : decode cX10_init 331 = .ok (.putfield 132, 3) := by decide +kernel
theorem dX10_init_334 : decode cX10_init 334 = .ok (.aload_n 0, 1) := by decide +kernel
theorem dX10_init_335 : decode cX10_init 335 = .ok (.bipush 100, 2) := by decide +kernel
theorem dX10_init_337 : decode cX10_init 337 = .ok (.newarray .int, 2) := by decide +kernel
theorem dX10_init_339 : decode cX10_init 339 = .ok (.putfield 135, 3) := by decide +kernel
theorem dX10_init_342 : decode cX10_init 342 = .ok (.aload_n 0, 1) := by decide +kernel
theorem dX10_init_343 : decode cX10_init 343 = .ok (.sipush 400, 3) := by decide +kernel
theorem dX10_init_346 : decode cX10_init 346 = .ok (.newarray .int, 2) := by decide +kernel
theorem dX10_init_348 : decode cX10_init 348 = .ok (.putfield 138, 3) := by decide +kernel
theorem dX10_init_351 : decode cX10_init 351 = .ok (.aload_n 0, 1) := by decide +kernel
theorem dX10_init_352 : decode cX10_init 352 = .ok (.iconst 4, 1) := by decide +kernel
theorem dX10_init_353 : decode cX10_init 353 = .ok (.newarray .boolean, 2) := by decide +kernel
theorem dX10_init_355 : decode cX10_init 355 = .ok (.putfield 141, 3) := by decide +kernel
theorem dX10_init_358 : decode cX10_init 358 = .ok (.aload_n 0, 1) := by decide +kernel
theorem dX10_init_359 : decode cX10_init 359 = .ok (.bipush 7, 2) := by decide +kernel
theorem dX10_init_361 : decode cX10_init 361 = .ok (.newarray .int, 2) := by decide +kernel
theorem dX10_init_363 : decode cX10_init 363 = .ok (.putfield 144, 3) := by decide +kernel
theorem dX10_init_366 : decode cX10_init 366 = .ok (.aload_n 0, 1) := by decide +kernel
theorem dX10_init_367 : decode cX10_init 367 = .ok (.bipush 18, 2) := by decide +kernel
theorem dX10_init_369 : decode cX10_init 369 = .ok (.newarray .int, 2) := by decide +kernel
theorem dX10_init_371 : decode cX10_init 371 = .ok (.putfield 147, 3) := by decide +kernel
theorem dX10_init_374 : decode cX10_init 374 = .ok (.aload_n 0, 1) := by decide +kernel
theorem dX10_init_375 : decode cX10_init 375 = .ok (.iconst 3, 1) := by decide +kernel
theorem dX10_init_376 : decode cX10_init 376 = .ok (.newarray .int, 2) := by decide +kernel
theorem dX10_init_378 : decode cX10_init 378 = .ok (.putfield 150, 3) := by decide +kernel
theorem dX10_init_381 : decode cX10_init 381 = .ok (.aload_n 0, 1) := by decide +kernel
theorem dX10_init_382 : decode cX10_init 382 = .ok (.iconst 3, 1) := by decide +kernel
theorem dX10_init_383 : decode cX10_init 383 = .ok (.newarray .int, 2) := by decide +kernel
theorem dX10_init_385 : decode cX10_init 385 = .ok (.putfield 153, 3) := by decide +kernel
theorem dX10_init_388 : decode cX10_init 388 = .ok (.aload_n 0, 1) := by decide +kernel
theorem dX10_init_389 : decode cX10_init 389 = .ok (.bipush 70, 2) := by decide +kernel
theorem dX10_init_391 : decode cX10_init 391 = .ok (.newarray .int, 2) := by decide +kernel
theorem dX10_init_393 : decode cX10_init 393 = .ok (.putfield 156, 3) := by decide +kernel
theorem dX10_init_396 : decode cX10_init 396 = .ok (.aload_n 0, 1) := by decide +kernel
theorem dX10_init_397 : decode cX10_init 397 = .ok (.invokevirtual 159, 3) := by decide +kernel
theorem dX10_init_400 : decode cX10_init 400 = .ok (.return_, 1) := by decide +kernel
theorem dX10_thrown_0 : decode cX10_thrown 0 = .ok (.aload_n 0, 1) := by decide +kernel
theorem dX10_thrown_1 : decode cX10_thrown 1 = .ok (.getfield 162, 3) := by decide +kernel
theorem dX10_thrown_4 : decode cX10_thrown 4 = .ok (.ireturn, 1) := by decide +kernel
theorem dX10_within_0 : decode cX10_within 0 = .ok (.iload_n 0, 1) := by decide +kernel
theorem dX10_within_1 : decode cX10_within 1 = .ok (.iload_n 1, 1) := by decide +kernel
theorem dX10_within_2 : decode cX10_within 2 = .ok (.if_icmp .lt 12, 3) := by decide +kernel
theorem dX10_within_5 : decode cX10_within 5 = .ok (.iload_n 0, 1) := by decide +kernel
theorem dX10_within_6 : decode cX10_within 6 = .ok (.iload_n 2, 1) := by decide +kernel
theorem dX10_within_7 : decode cX10_within 7 = .ok (.if_icmp .gt 7, 3) := by decide +kernel
theorem dX10_within_10 : decode cX10_within 10 = .ok (.iconst 1, 1) := by decide +kernel
theorem dX10_within_11 : decode cX10_within 11 = .ok (.goto 4, 3) := by decide +kernel
theorem dX10_within_14 : decode cX10_within 14 = .ok (.iconst 0, 1) := by decide +kernel
theorem dX10_within_15 : decode cX10_within 15 = .ok (.ireturn, 1) := by decide +kernel
theorem dX10_between_0 : decode cX10_between 0 = .ok (.iload_n 0, 1) := by decide +kernel
theorem dX10_between_1 : decode cX10_between 1 = .ok (.iload_n 1, 1) := by decide +kernel
theorem dX10_between_2 : decode cX10_between 2 = .ok (.if_icmp .ge 7, 3) := by decide +kernel
theorem dX10_between_5 : decode cX10_between 5 = .ok (.iload_n 1, 1) := by decide +kernel
theorem dX10_between_6 : decode cX10_between 6 = .ok (.goto 13, 3) := by decide +kernel
theorem dX10_between_9 : decode cX10_between 9 = .ok (.iload_n 0, 1) := by decide +kernel
theorem dX10_between_10 : decode cX10_between 10 = .ok (.iload_n 2, 1) := by decide +kernel
theorem dX10_between_11 : decode cX10_between 11 = .ok (.if_icmp .le 7, 3) := by decide +kernel
theorem dX10_between_14 : decode cX10_between 14 = .ok (.iload_n 2, 1) := by decide +kernel
theorem dX10_between_15 : decode cX10_between 15 = .ok (.goto 4, 3) := by decide +kernel
theorem dX10_between_18 : decode cX10_between 18 = .ok (.iload_n 0, 1) := by decide +kernel
theorem dX10_between_19 : decode cX10_between 19 = .ok (.ireturn, 1) := by decide +kernel
theorem dX10_bits_0 : decode cX10_bits 0 = .ok (.iconst 0, 1) := by decide +kernel
theorem dX10_bits_1 : decode cX10_bits 1 = .ok (.istore_n 1, 1) := by decide +kernel
theorem dX10_bits_2 : decode cX10_bits 2 = .ok (.iconst 0, 1) := by decide +kernel
theorem dX10_bits_3 : decode cX10_bits 3 = .ok (.istore_n 2, 1) := by decide +kernel
theorem dX10_bits_4 : decode cX10_bits 4 = .ok (.iload_n 2, 1) := by decide +kernel
theorem dX10_bits_5 : decode cX10_bits 5 = .ok (.bipush 10, 2) := by decide +kernel
theorem dX10_bits_7 : decode cX10_bits 7 = .ok (.if_icmp .ge 17, 3) := by decide +kernel
theorem dX10_bits_10 : decode cX10_bits 10 = .ok (.iload_n 1, 1) := by decide +kernel
theorem dX10_bits_11 : decode cX10_bits 11 = .ok (.iload_n 0, 1) := by decide +kernel
theorem dX10_bits_12 : decode cX10_bits 12 = .ok (.iload_n 2, 1) := by decide +kernel
theorem dX10_bits_13 : decode cX10_bits 13 = .ok (.ishr, 1) := by decide +kernel
theorem dX10_bits_14 : decode cX10_bits 14 = .ok (.iconst 1, 1) := by decide +kernel
theorem dX10_bits_15 : decode cX10_bits 15 = .ok (.iand, 1) := by decide +kernel
theorem dX10_bits_16 : decode cX10_bits 16 = .ok (.iadd, 1) := by decide +kernel
theorem dX10_bits_17 : decode cX10_bits 17 = .ok (.istore_n 1, 1) := by decide +kernel
theorem dX10_bits_18 : decode cX10_bits 18 = .ok (.iinc 2 1, 3) := by decide +kernel
theorem dX10_bits_21 : decode cX10_bits 21 = .ok (.goto (-17), 3) := by decide +kernel
theorem dX10_bits_24 : decode cX10_bits 24 = .ok (.iload_n 1, 1) := by decide +kernel
theorem dX10_bits_25 : decode cX10_bits 25 = .ok (.ireturn, 1) := by decide +kernel
theorem dX10_lowest_0 : decode cX10_lowest 0 = .ok (.iconst 0, 1) := by decide +kernel
theorem dX10_lowest_1 : decode cX10_lowest 1 = .ok (.istore_n 1, 1) := by decide +kernel
theorem dX10_lowest_2 : decode cX10_lowest 2 = .ok (.iload_n 1, 1) := by decide +kernel
theorem dX10_lowest_3 : decode cX10_lowest 3 = .ok (.bipush 10, 2) := by decide +kernel
theorem dX10_lowest_5 : decode cX10_lowest 5 = .ok (.if_icmp .ge 20, 3) := by decide +kernel
theorem dX10_lowest_8 : decode cX10_lowest 8 = .ok (.iload_n 0, 1) := by decide +kernel
theorem dX10_lowest_9 : decode cX10_lowest 9 = .ok (.iload_n 1, 1) := by decide +kernel
theorem dX10_lowest_10 : decode cX10_lowest 10 = .ok (.ishr, 1) := by decide +kernel
theorem dX10_lowest_11 : decode cX10_lowest 11 = .ok (.iconst 1, 1) := by decide +kernel
theorem dX10_lowest_12 : decode cX10_lowest 12 = .ok (.iand, 1) := by decide +kernel
theorem dX10_lowest_13 : decode cX10_lowest 13 = .ok (.iconst 1, 1) := by decide +kernel
theorem dX10_lowest_14 : decode cX10_lowest 14 = .ok (.if_icmp .ne 5, 3) := by decide +kernel
theorem dX10_lowest_17 : decode cX10_lowest 17 = .ok (.iload_n 1, 1) := by decide +kernel
theorem dX10_lowest_18 : decode cX10_lowest 18 = .ok (.ireturn, 1) := by decide +kernel
theorem dX10_lowest_19 : decode cX10_lowest 19 = .ok (.iinc 1 1, 3) := by decide +kernel
theorem dX10_lowest_22 : decode cX10_lowest 22 = .ok (.goto (-20), 3) := by decide +kernel
theorem dX10_lowest_25 : decode cX10_lowest 25 = .ok (.iconst (-1), 1) := by decide +kernel
theorem dX10_lowest_26 : decode cX10_lowest 26 = .ok (.ireturn, 1) := by decide +kernel
theorem dX10_feed_0 : decode cX10_feed 0 = .ok (.aload_n 0, 1) := by decide +kernel
theorem dX10_feed_1 : decode cX10_feed 1 = .ok (.iconst 0, 1) := by decide +kernel
theorem dX10_feed_2 : decode cX10_feed 2 = .ok (.putfield 162, 3) := by decide +kernel
theorem dX10_feed_5 : decode cX10_feed 5 = .ok (.iconst 0, 1) := by decide +kernel
theorem dX10_feed_6 : decode cX10_feed 6 = .ok (.istore 7, 2) := by decide +kernel
theorem dX10_feed_8 : decode cX10_feed 8 = .ok (.iload 7, 2) := by decide +kernel
theorem dX10_feed_10 : decode cX10_feed 10 = .ok (.bipush 24, 2) := by decide +kernel
theorem dX10_feed_12 : decode cX10_feed 12 = .ok (.if_icmp .ge 108, 3) := by decide +kernel
theorem dX10_feed_15 : decode cX10_feed 15 = .ok (.iload 7, 2) := by decide +kernel
theorem dX10_feed_17 : decode cX10_feed 17 = .ok (.bipush 8, 2) := by decide +kernel
theorem dX10_feed_19 : decode cX10_feed 19 = .ok (.if_icmp .ge 7, 3) := by decide +kernel
theorem dX10_feed_22 : decode cX10_feed 22 = .ok (.lload_n 1, 1) := by decide +kernel
theorem dX10_feed_23 : decode cX10_feed 23 = .ok (.goto 16, 3) := by decide +kernel
theorem dX10_feed_26 : decode cX10_feed 26 = .ok (.iload 7, 2) := by decide +kernel
theorem dX10_feed_28 : decode cX10_feed 28 = .ok (.bipush 16, 2) := by decide +kernel
theorem dX10_feed_30 : decode cX10_feed 30 = .ok (.if_icmp .ge 7, 3) := by decide +kernel
theorem dX10_feed_33 : decode cX10_feed 33 = .ok (.lload_n 3, 1) := by decide +kernel
theorem dX10_feed_34 : decode cX10_feed 34 = .ok (.goto 5, 3) := by decide +kernel
theorem dX10_feed_37 : decode cX10_feed 37 = .ok (.lload 5, 2) := by decide +kernel
theorem dX10_feed_39 : decode cX10_feed 39 = .ok (.lstore 8, 2) := by decide +kernel
theorem dX10_feed_41 : decode cX10_feed 41 = .ok (.lload 8, 2) := by decide +kernel
theorem dX10_feed_43 : decode cX10_feed 43 = .ok (.bipush 56, 2) := by decide +kernel
theorem dX10_feed_45 : decode cX10_feed 45 = .ok (.bipush 8, 2) := by decide +kernel
theorem dX10_feed_47 : decode cX10_feed 47 = .ok (.iload 7, 2) := by decide +kernel
theorem dX10_feed_49 : decode cX10_feed 49 = .ok (.bipush 7, 2) := by decide +kernel
theorem dX10_feed_51 : decode cX10_feed 51 = .ok (.iand, 1) := by decide +kernel
theorem dX10_feed_52 : decode cX10_feed 52 = .ok (.imul, 1) := by decide +kernel
theorem dX10_feed_53 : decode cX10_feed 53 = .ok (.isub, 1) := by decide +kernel
theorem dX10_feed_54 : decode cX10_feed 54 = .ok (.lushr, 1) := by decide +kernel
theorem dX10_feed_55 : decode cX10_feed 55 = .ok (.ldc2_w 166, 3) := by decide +kernel
theorem dX10_feed_58 : decode cX10_feed 58 = .ok (.land, 1) := by decide +kernel
theorem dX10_feed_59 : decode cX10_feed 59 = .ok (.l2i, 1) := by decide +kernel
theorem dX10_feed_60 : decode cX10_feed 60 = .ok (.istore 10, 2) := by decide +kernel
theorem dX10_feed_62 : decode cX10_feed 62 = .ok (.aload_n 0, 1) := by decide +kernel
theorem dX10_feed_63 : decode cX10_feed 63 = .ok (.getfield 168, 3) := by decide +kernel
theorem dX10_feed_66 : decode cX10_feed 66 = .ok (.sipush 1000, 3) := by decide +kernel
theorem dX10_feed_69 : decode cX10_feed 69 = .ok (.if_icmp .ge 45, 3) := by decide +kernel
theorem dX10_feed_72 : decode cX10_feed 72 = .ok (.iload 10, 2) := by decide +kernel
theorem dX10_feed_74 : decode cX10_feed 74 = .ok (.bipush 10, 2) := by decide +kernel
theorem dX10_feed_76 : decode cX10_feed 76 = .ok (.if_icmp .eq 17, 3) := by decide +kernel
theorem dX10_feed_79 : decode cX10_feed 79 = .ok (.iload 10, 2) := by decide +kernel
theorem dX10_feed_81 : decode cX10_feed 81 = .ok (.bipush 32, 2) := by decide +kernel
theorem dX10_feed_83 : decode cX10_feed 83 = .ok (.if_icmp .lt 31, 3) := by decide +kernel
theorem dX10_feed_86 : decode cX10_feed 86 = .ok (.iload 10, 2) := by decide +kernel
theorem dX10_feed_88 : decode cX10_feed 88 = .ok (.bipush 126, 2) := by decide +kernel
theorem dX10_feed_90 : decode cX10_feed 90 = .ok (.if_icmp .gt 24, 3) := by decide +kernel
theorem dX10_feed_93 : decode cX10_feed 93 = .ok (.aload_n 0, 1) := by decide +kernel
theorem dX10_feed_94 : decode cX10_feed 94 = .ok (.getfield 7, 3) := by decide +kernel
theorem dX10_feed_97 : decode cX10_feed 97 = .ok (.aload_n 0, 1) := by decide +kernel
theorem dX10_feed_98 : decode cX10_feed 98 = .ok (.getfield 168, 3) := by decide +kernel
theorem dX10_feed_101 : decode cX10_feed 101 = .ok (.iload 10, 2) := by decide +kernel
theorem dX10_feed_103 : decode cX10_feed 103 = .ok (.iastore, 1) := by decide +kernel
theorem dX10_feed_104 : decode cX10_feed 104 = .ok (.aload_n 0, 1) := by decide +kernel
theorem dX10_feed_105 : decode cX10_feed 105 = .ok (.dup, 1) := by decide +kernel
theorem dX10_feed_106 : decode cX10_feed 106 = .ok (.getfield 168, 3) := by decide +kernel
theorem dX10_feed_109 : decode cX10_feed 109 = .ok (.iconst 1, 1) := by decide +kernel
theorem dX10_feed_110 : decode cX10_feed 110 = .ok (.iadd, 1) := by decide +kernel
theorem dX10_feed_111 : decode cX10_feed 111 = .ok (.putfield 168, 3) := by decide +kernel
theorem dX10_feed_114 : decode cX10_feed 114 = .ok (.iinc 7 1, 3) := by decide +kernel
theorem dX10_feed_117 : decode cX10_feed 117 = .ok (.goto (-109), 3) := by decide +kernel
theorem dX10_feed_120 : decode cX10_feed 120 = .ok (.aload_n 0, 1) := by decide +kernel
theorem dX10_feed_121 : decode cX10_feed 121 = .ok (.getfield 168, 3) := by decide +kernel
theorem dX10_feed_124 : decode cX10_feed 124 = .ok (.ireturn, 1) := by decide +kernel
theorem dX10_signAt_0 : decode cX10_signAt 0 = .ok (.iload_n 1, 1) := by decide +kernel
theorem dX10_signAt_1 : decode cX10_signAt 1 = .ok (.aload_n 0, 1) := by decide +kernel
theorem dX10_signAt_2 : decode cX10_signAt 2 = .ok (.getfield 171, 3) := by decide +kernel
theorem dX10_signAt_5 : decode cX10_signAt 5 = .ok (.if_icmp .ge 12, 3) := by decide +kernel
theorem dX10_signAt_8 : decode cX10_signAt 8 = .ok (.aload_n 0, 1) := by decide +kernel
theorem dX10_signAt_9 : decode cX10_signAt 9 = .ok (.getfield 7, 3) := by decide +kernel
theorem dX10_signAt_12 : decode cX10_signAt 12 = .ok (.iload_n 1, 1) := by decide +kernel
theorem dX10_signAt_13 : decode cX10_signAt 13 = .ok (.iaload, 1) := by decide +kernel
theorem dX10_signAt_14 : decode cX10_signAt 14 = .ok (.goto 4, 3) := by decide +kernel
theorem dX10_signAt_17 : decode cX10_signAt 17 = .ok (.iconst 0, 1) := by decide +kernel
theorem dX10_signAt_18 : decode cX10_signAt 18 = .ok (.ireturn, 1) := by decide +kernel
theorem dX10_nextToken_0 : decode cX10_nextToken 0 = .ok (.aload_n 0, 1) := by decide +kernel
theorem dX10_nextToken_1 : decode cX10_nextToken 1 = .ok (.getfield 174, 3) := by decide +kernel
theorem dX10_nextToken_4 : decode cX10_nextToken 4 = .ok (.aload_n 0, 1) := by decide +kernel
theorem dX10_nextToken_5 : decode cX10_nextToken 5 = .ok (.getfield 171, 3) := by decide +kernel
theorem dX10_nextToken_8 : decode cX10_nextToken 8 = .ok (.if_icmp .ge 44, 3) := by decide +kernel
theorem dX10_nextToken_11 : decode cX10_nextToken 11 = .ok (.aload_n 0, 1) := by decide +kernel
theorem dX10_nextToken_12 : decode cX10_nextToken 12 = .ok (.getfield 7, 3) := by decide +kernel
theorem dX10_nextToken_15 : decode cX10_nextToken 15 = .ok (.aload_n 0, 1) := by decide +kernel
theorem dX10_nextToken_16 : decode cX10_nextToken 16 = .ok (.getfield 174, 3) := by decide +kernel
theorem dX10_nextToken_19 : decode cX10_nextToken 19 = .ok (.iaload, 1) := by decide +kernel
theorem dX10_nextToken_20 : decode cX10_nextToken 20 = .ok (.bipush 32, 2) := by decide +kernel
theorem dX10_nextToken_22 : decode cX10_nextToken 22 = .ok (.if_icmp .eq 17, 3) := by decide +kernel
theorem dX10_nextToken_25 : decode cX10_nextToken 25 = .ok (.aload_n 0, 1) := by decide +kernel
theorem dX10_nextToken_26 : decode cX10_nextToken 26 = .ok (.getfield 7, 3) := by decide +kernel
theorem dX10_nextToken_29 : decode cX10_nextToken 29 = .ok (.aload_n 0, 1) := by decide +kernel
theorem dX10_nextToken_30 : decode cX10_nextToken 30 = .ok (.getfield 174, 3) := by decide +kernel
theorem dX10_nextToken_33 : decode cX10_nextToken 33 = .ok (.iaload, 1) := by decide +kernel
theorem dX10_nextToken_34 : decode cX10_nextToken 34 = .ok (.bipush 10, 2) := by decide +kernel
theorem dX10_nextToken_36 : decode cX10_nextToken 36 = .ok (.if_icmp .ne 16, 3) := by decide +kernel
theorem dX10_nextToken_39 : decode cX10_nextToken 39 = .ok (.aload_n 0, 1) := by decide +kernel
theorem dX10_nextToken_40 : decode cX10_nextToken 40 = .ok (.dup, 1) := by decide +kernel
theorem dX10_nextToken_41 : decode cX10_nextToken 41 = .ok (.getfield 174, 3) := by decide +kernel
theorem dX10_nextToken_44 : decode cX10_nextToken 44 = .ok (.iconst 1, 1) := by decide +kernel
theorem dX10_nextToken_45 : decode cX10_nextToken 45 = .ok (.iadd, 1) := by decide +kernel
theorem dX10_nextToken_46 : decode cX10_nextToken 46 = .ok (.putfield 174, 3) := by decide +kernel
theorem dX10_nextToken_49 : decode cX10_nextToken 49 = .ok (.goto (-49), 3) := by decide +kernel
theorem dX10_nextToken_52 : decode cX10_nextToken 52 = .ok (.aload_n 0, 1) := by decide +kernel
theorem dX10_nextToken_53 : decode cX10_nextToken 53 = .ok (.aload_n 0, 1) := by decide +kernel
theorem dX10_nextToken_54 : decode cX10_nextToken 54 = .ok (.getfield 174, 3) := by decide +kernel
theorem dX10_nextToken_57 : decode cX10_nextToken 57 = .ok (.putfield 177, 3) := by decide +kernel
theorem dX10_nextToken_60 : decode cX10_nextToken 60 = .ok (.aload_n 0, 1) := by decide +kernel
theorem dX10_nextToken_61 : decode cX10_nextToken 61 = .ok (.lconst 0, 1) := by decide +kernel
theorem dX10_nextToken_62 : decode cX10_nextToken 62 = .ok (.putfield 180, 3) := by decide +kernel
theorem dX10_nextToken_65 : decode cX10_nextToken 65 = .ok (.aload_n 0, 1) := by decide +kernel
theorem dX10_nextToken_66 : decode cX10_nextToken 66 = .ok (.iconst 0, 1) := by decide +kernel
theorem dX10_nextToken_67 : decode cX10_nextToken 67 = .ok (.putfield 184, 3) := by decide +kernel
theorem dX10_nextToken_70 : decode cX10_nextToken 70 = .ok (.aload_n 0, 1) := by decide +kernel
theorem dX10_nextToken_71 : decode cX10_nextToken 71 = .ok (.getfield 174, 3) := by decide +kernel
theorem dX10_nextToken_74 : decode cX10_nextToken 74 = .ok (.aload_n 0, 1) := by decide +kernel
theorem dX10_nextToken_75 : decode cX10_nextToken 75 = .ok (.getfield 171, 3) := by decide +kernel
theorem dX10_nextToken_78 : decode cX10_nextToken 78 = .ok (.if_icmp .ne 9, 3) := by decide +kernel
theorem dX10_nextToken_81 : decode cX10_nextToken 81 = .ok (.aload_n 0, 1) := by decide +kernel
theorem dX10_nextToken_82 : decode cX10_nextToken 82 = .ok (.iconst 0, 1) := by decide +kernel
theorem dX10_nextToken_83 : decode cX10_nextToken 83 = .ok (.putfield 187, 3) := by decide +kernel
theorem dX10_nextToken_86 : decode cX10_nextToken 86 = .ok (.return_, 1) := by decide +kernel
theorem dX10_nextToken_87 : decode cX10_nextToken 87 = .ok (.aload_n 0, 1) := by decide +kernel
theorem dX10_nextToken_88 : decode cX10_nextToken 88 = .ok (.getfield 7, 3) := by decide +kernel
theorem dX10_nextToken_91 : decode cX10_nextToken 91 = .ok (.aload_n 0, 1) := by decide +kernel
theorem dX10_nextToken_92 : decode cX10_nextToken 92 = .ok (.getfield 174, 3) := by decide +kernel
theorem dX10_nextToken_95 : decode cX10_nextToken 95 = .ok (.iaload, 1) := by decide +kernel
theorem dX10_nextToken_96 : decode cX10_nextToken 96 = .ok (.istore_n 1, 1) := by decide +kernel
theorem dX10_nextToken_97 : decode cX10_nextToken 97 = .ok (.iload_n 1, 1) := by decide +kernel
theorem dX10_nextToken_98 : decode cX10_nextToken 98 = .ok (.bipush 97, 2) := by decide +kernel
theorem dX10_nextToken_100 : decode cX10_nextToken 100 = .ok (.if_icmp .lt 112, 3) := by decide +kernel
theorem dX10_nextToken_103 : decode cX10_nextToken 103 = .ok (.iload_n 1, 1) := by decide +kernel
theorem dX10_nextToken_104 : decode cX10_nextToken 104 = .ok (.bipush 122, 2) := by decide +kernel
theorem dX10_nextToken_106 : decode cX10_nextToken 106 = .ok (.if_icmp .gt 106, 3) := by decide +kernel
theorem dX10_nextToken_109 : decode cX10_nextToken 109 = .ok (.aload_n 0, 1) := by decide +kernel
theorem dX10_nextToken_110 : decode cX10_nextToken 110 = .ok (.aload_n 0, 1) := by decide +kernel
theorem dX10_nextToken_111 : decode cX10_nextToken 111 = .ok (.getfield 174, 3) := by decide +kernel
theorem dX10_nextToken_114 : decode cX10_nextToken 114 = .ok (.invokevirtual 190, 3) := by decide +kernel
theorem dX10_nextToken_117 : decode cX10_nextToken 117 = .ok (.bipush 97, 2) := by decide +kernel
theorem dX10_nextToken_119 : decode cX10_nextToken 119 = .ok (.if_icmp .lt 69, 3) := by decide +kernel
theorem dX10_nextToken_122 : decode cX10_nextToken 122 = .ok (.aload_n 0, 1) := by decide +kernel
theorem dX10_nextToken_123 : decode cX10_nextToken 123 = .ok (.aload_n 0, 1) := by decide +kernel
theorem dX10_nextToken_124 : decode cX10_nextToken 124 = .ok (.getfield 174, 3) := by decide +kernel
theorem dX10_nextToken_127 : decode cX10_nextToken 127 = .ok (.invokevirtual 190, 3) := by decide +kernel
theorem dX10_nextToken_130 : decode cX10_nextToken 130 = .ok (.bipush 122, 2) := by decide +kernel
theorem dX10_nextToken_132 : decode cX10_nextToken 132 = .ok (.if_icmp .gt 56, 3) := by decide +kernel
theorem dX10_nextToken_135 : decode cX10_nextToken 135 = .ok (.aload_n 0, 1) := by decide +kernel
theorem dX10_nextToken_136 : decode cX10_nextToken 136 = .ok (.getfield 174, 3) := by decide +kernel
theorem dX10_nextToken_139 : decode cX10_nextToken 139 = .ok (.aload_n 0, 1) := by decide +kernel
theorem dX10_nextToken_140 : decode cX10_nextToken 140 = .ok (.getfield 177, 3) := by decide +kernel
theorem dX10_nextToken_143 : decode cX10_nextToken 143 = .ok (.isub, 1) := by decide +kernel
theorem dX10_nextToken_144 : decode cX10_nextToken 144 = .ok (.bipush 8, 2) := by decide +kernel
theorem dX10_nextToken_146 : decode cX10_nextToken 146 = .ok (.if_icmp .ge 29, 3) := by decide +kernel
theorem dX10_nextToken_149 : decode cX10_nextToken 149 = .ok (.aload_n 0, 1) := by decide +kernel
theorem dX10_nextToken_150 : decode cX10_nextToken 150 = .ok (.aload_n 0, 1) := by decide +kernel
theorem dX10_nextToken_151 : decode cX10_nextToken 151 = .ok (.getfield 180, 3) := by decide +kernel
theorem dX10_nextToken_154 : decode cX10_nextToken 154 = .ok (.ldc2_w 194, 3) := by decide +kernel
theorem dX10_nextToken_157 : decode cX10_nextToken 157 = .ok (.lmul, 1) := by decide +kernel
theorem dX10_nextToken_158 : decode cX10_nextToken 158 = .ok (.aload_n 0, 1) := by decide +kernel
theorem dX10_nextToken_159 : decode cX10_nextToken 159 = .ok (.aload_n 0, 1) := by decide +kernel
theorem dX10_nextToken_160 : decode cX10_nextToken 160 = .ok (.getfield 174, 3) := by decide +kernel
theorem dX10_nextToken_163 : decode cX10_nextToken 163 = .ok (.invokevirtual 190, 3) := by decide +kernel
theorem dX10_nextToken_166 : decode cX10_nextToken 166 = .ok (.i2l, 1) := by decide +kernel
theorem dX10_nextToken_167 : decode cX10_nextToken 167 = .ok (.ladd, 1) := by decide +kernel
theorem dX10_nextToken_168 : decode cX10_nextToken 168 = .ok (.ldc2_w 196, 3) := by decide +kernel
theorem dX10_nextToken_171 : decode cX10_nextToken 171 = .ok (.lsub, 1) := by decide +kernel
theorem dX10_nextToken_172 : decode cX10_nextToken 172 = .ok (.putfield 180, 3) := by decide +kernel
theorem dX10_nextToken_175 : decode cX10_nextToken 175 = .ok (.aload_n 0, 1) := by decide +kernel
theorem dX10_nextToken_176 : decode cX10_nextToken 176 = .ok (.dup, 1) := by decide +kernel
theorem dX10_nextToken_177 : decode cX10_nextToken 177 = .ok (.getfield 174, 3) := by decide +kernel
theorem dX10_nextToken_180 : decode cX10_nextToken 180 = .ok (.iconst 1, 1) := by decide +kernel
theorem dX10_nextToken_181 : decode cX10_nextToken 181 = .ok (.iadd, 1) := by decide +kernel
theorem dX10_nextToken_182 : decode cX10_nextToken 182 = .ok (.putfield 174, 3) := by decide +kernel
theorem dX10_nextToken_185 : decode cX10_nextToken 185 = .ok (.goto (-76), 3) := by decide +kernel
theorem dX10_nextToken_188 : decode cX10_nextToken 188 = .ok (.aload_n 0, 1) := by decide +kernel
theorem dX10_nextToken_189 : decode cX10_nextToken 189 = .ok (.aload_n 0, 1) := by decide +kernel
theorem dX10_nextToken_190 : decode cX10_nextToken 190 = .ok (.getfield 174, 3) := by decide +kernel
theorem dX10_nextToken_193 : decode cX10_nextToken 193 = .ok (.aload_n 0, 1) := by decide +kernel
theorem dX10_nextToken_194 : decode cX10_nextToken 194 = .ok (.getfield 177, 3) := by decide +kernel
theorem dX10_nextToken_197 : decode cX10_nextToken 197 = .ok (.isub, 1) := by decide +kernel
theorem dX10_nextToken_198 : decode cX10_nextToken 198 = .ok (.bipush 8, 2) := by decide +kernel
theorem dX10_nextToken_200 : decode cX10_nextToken 200 = .ok (.if_icmp .le 7, 3) := by decide +kernel
theorem dX10_nextToken_203 : decode cX10_nextToken 203 = .ok (.iconst 4, 1) := by decide +kernel
theorem dX10_nextToken_204 : decode cX10_nextToken 204 = .ok (.goto 4, 3) := by decide +kernel
theorem dX10_nextToken_207 : decode cX10_nextToken 207 = .ok (.iconst 1, 1) := by decide +kernel
theorem dX10_nextToken_208 : decode cX10_nextToken 208 = .ok (.putfield 187, 3) := by decide +kernel
theorem dX10_nextToken_211 : decode cX10_nextToken 211 = .ok (.return_, 1) := by decide +kernel
theorem dX10_nextToken_212 : decode cX10_nextToken 212 = .ok (.iload_n 1, 1) := by decide +kernel
theorem dX10_nextToken_213 : decode cX10_nextToken 213 = .ok (.bipush 48, 2) := by decide +kernel
theorem dX10_nextToken_215 : decode cX10_nextToken 215 = .ok (.if_icmp .lt 107, 3) := by decide +kernel
theorem dX10_nextToken_218 : decode cX10_nextToken 218 = .ok (.iload_n 1, 1) := by decide +kernel
theorem dX10_nextToken_219 : decode cX10_nextToken 219 = .ok (.bipush 57, 2) := by decide +kernel
theorem dX10_nextToken_221 : decode cX10_nextToken 221 = .ok (.if_icmp .gt 101, 3) := by decide +kernel
theorem dX10_nextToken_224 : decode cX10_nextToken 224 = .ok (.aload_n 0, 1) := by decide +kernel
theorem dX10_nextToken_225 : decode cX10_nextToken 225 = .ok (.aload_n 0, 1) := by decide +kernel
theorem dX10_nextToken_226 : decode cX10_nextToken 226 = .ok (.getfield 174, 3) := by decide +kernel
theorem dX10_nextToken_229 : decode cX10_nextToken 229 = .ok (.invokevirtual 190, 3) := by decide +kernel
theorem dX10_nextToken_232 : decode cX10_nextToken 232 = .ok (.bipush 48, 2) := by decide +kernel
theorem dX10_nextToken_234 : decode cX10_nextToken 234 = .ok (.if_icmp .lt 65, 3) := by decide +kernel
theorem dX10_nextToken_237 : decode cX10_nextToken 237 = .ok (.aload_n 0, 1) := by decide +kernel
theorem dX10_nextToken_238 : decode cX10_nextToken 238 = .ok (.aload_n 0, 1) := by decide +kernel
theorem dX10_nextToken_239 : decode cX10_nextToken 239 = .ok (.getfield 174, 3) := by decide +kernel
theorem dX10_nextToken_242 : decode cX10_nextToken 242 = .ok (.invokevirtual 190, 3) := by decide +kernel
theorem dX10_nextToken_245 : decode cX10_nextToken 245 = .ok (.bipush 57, 2) := by decide +kernel
theorem dX10_nextToken_247 : decode cX10_nextToken 247 = .ok (.if_icmp .gt 52, 3) := by decide +kernel
theorem dX10_nextToken_250 : decode cX10_nextToken 250 = .ok (.aload_n 0, 1) := by decide +kernel
theorem dX10_nextToken_251 : decode cX10_nextToken 251 = .ok (.getfield 174, 3) := by decide +kernel
theorem dX10_nextToken_254 : decode cX10_nextToken 254 = .ok (.aload_n 0, 1) := by decide +kernel
theorem dX10_nextToken_255 : decode cX10_nextToken 255 = .ok (.getfield 177, 3) := by decide +kernel
theorem dX10_nextToken_258 : decode cX10_nextToken 258 = .ok (.isub, 1) := by decide +kernel
theorem dX10_nextToken_259 : decode cX10_nextToken 259 = .ok (.iconst 4, 1) := by decide +kernel
theorem dX10_nextToken_260 : decode cX10_nextToken 260 = .ok (.if_icmp .ge 26, 3) := by decide +kernel
theorem dX10_nextToken_263 : decode cX10_nextToken 263 = .ok (.aload_n 0, 1) := by decide +kernel
theorem dX10_nextToken_264 : decode cX10_nextToken 264 = .ok (.aload_n 0, 1) := by decide +kernel
theorem dX10_nextToken_265 : decode cX10_nextToken 265 = .ok (.getfield 184, 3) := by decide +kernel
theorem dX10_nextToken_268 : decode cX10_nextToken 268 = .ok (.bipush 10, 2) := by decide +kernel
theorem dX10_nextToken_270 : decode cX10_nextToken 270 = .ok (.imul, 1) := by decide +kernel
theorem dX10_nextToken_271 : decode cX10_nextToken 271 = .ok (.aload_n 0, 1) := by decide +kernel
theorem dX10_nextToken_272 : decode cX10_nextToken 272 = .ok (.aload_n 0, 1) := by decide +kernel
theorem dX10_nextToken_273 : decode cX10_nextToken 273 = .ok (.getfield 174, 3) := by decide +kernel
theorem dX10_nextToken_276 : decode cX10_nextToken 276 = .ok (.invokevirtual 190, 3) := by decide +kernel
theorem dX10_nextToken_279 : decode cX10_nextToken 279 = .ok (.iadd, 1) := by decide +kernel
theorem dX10_nextToken_280 : decode cX10_nextToken 280 = .ok (.bipush 48, 2) := by decide +kernel
theorem dX10_nextToken_282 : decode cX10_nextToken 282 = .ok (.isub, 1) := by decide +kernel
theorem dX10_nextToken_283 : decode cX10_nextToken 283 = .ok (.putfield 184, 3) := by decide +kernel
theorem dX10_nextToken_286 : decode cX10_nextToken 286 = .ok (.aload_n 0, 1) := by decide +kernel
theorem dX10_nextToken_287 : decode cX10_nextToken 287 = .ok (.dup, 1) := by decide +kernel
theorem dX10_nextToken_288 : decode cX10_nextToken 288 = .ok (.getfield 174, 3) := by decide +kernel
theorem dX10_nextToken_291 : decode cX10_nextToken 291 = .ok (.iconst 1, 1) := by decide +kernel
theorem dX10_nextToken_292 : decode cX10_nextToken 292 = .ok (.iadd, 1) := by decide +kernel
theorem dX10_nextToken_293 : decode cX10_nextToken 293 = .ok (.putfield 174, 3) := by decide +kernel
theorem dX10_nextToken_296 : decode cX10_nextToken 296 = .ok (.goto (-72), 3) := by decide +kernel
theorem dX10_nextToken_299 : decode cX10_nextToken 299 = .ok (.aload_n 0, 1) := by decide +kernel
theorem dX10_nextToken_300 : decode cX10_nextToken 300 = .ok (.aload_n 0, 1) := by decide +kernel
theorem dX10_nextToken_301 : decode cX10_nextToken 301 = .ok (.getfield 174, 3) := by decide +kernel
theorem dX10_nextToken_304 : decode cX10_nextToken 304 = .ok (.aload_n 0, 1) := by decide +kernel
theorem dX10_nextToken_305 : decode cX10_nextToken 305 = .ok (.getfield 177, 3) := by decide +kernel
theorem dX10_nextToken_308 : decode cX10_nextToken 308 = .ok (.isub, 1) := by decide +kernel
theorem dX10_nextToken_309 : decode cX10_nextToken 309 = .ok (.iconst 4, 1) := by decide +kernel
theorem dX10_nextToken_310 : decode cX10_nextToken 310 = .ok (.if_icmp .le 7, 3) := by decide +kernel
theorem dX10_nextToken_313 : decode cX10_nextToken 313 = .ok (.iconst 4, 1) := by decide +kernel
theorem dX10_nextToken_314 : decode cX10_nextToken 314 = .ok (.goto 4, 3) := by decide +kernel
theorem dX10_nextToken_317 : decode cX10_nextToken 317 = .ok (.iconst 2, 1) := by decide +kernel
theorem dX10_nextToken_318 : decode cX10_nextToken 318 = .ok (.putfield 187, 3) := by decide +kernel
theorem dX10_nextToken_321 : decode cX10_nextToken 321 = .ok (.return_, 1) := by decide +kernel
theorem dX10_nextToken_322 : decode cX10_nextToken 322 = .ok (.aload_n 0, 1) := by decide +kernel
theorem dX10_nextToken_323 : decode cX10_nextToken 323 = .ok (.dup, 1) := by decide +kernel
theorem dX10_nextToken_324 : decode cX10_nextToken 324 = .ok (.getfield 174, 3) := by decide +kernel
theorem dX10_nextToken_327 : decode cX10_nextToken 327 = .ok (.iconst 1, 1) := by decide +kernel
theorem dX10_nextToken_328 : decode cX10_nextToken 328 = .ok (.iadd, 1) := by decide +kernel
theorem dX10_nextToken_329 : decode cX10_nextToken 329 = .ok (.putfield 174, 3) := by decide +kernel
theorem dX10_nextToken_332 : decode cX10_nextToken 332 = .ok (.aload_n 0, 1) := by decide +kernel
theorem dX10_nextToken_333 : decode cX10_nextToken 333 = .ok (.iload_n 1, 1) := by decide +kernel
theorem dX10_nextToken_334 : decode cX10_nextToken 334 = .ok (.bipush 40, 2) := by decide +kernel
theorem dX10_nextToken_336 : decode cX10_nextToken 336 = .ok (.if_icmp .lt 9, 3) := by decide +kernel
theorem dX10_nextToken_339 : decode cX10_nextToken 339 = .ok (.iload_n 1, 1) := by decide +kernel
theorem dX10_nextToken_340 : decode cX10_nextToken 340 = .ok (.bipush 43, 2) := by decide +kernel
theorem dX10_nextToken_342 : decode cX10_nextToken 342 = .ok (.if_icmp .le 21, 3) := by decide +kernel
theorem dX10_nextToken_345 : decode cX10_nextToken 345 = .ok (.iload_n 1, 1) := by decide +kernel
theorem dX10_nextToken_346 : decode cX10_nextToken 346 = .ok (.bipush 45, 2) := by decide +kernel
theorem dX10_nextToken_348 : decode cX10_nextToken 348 = .ok (.if_icmp .eq 15, 3) := by decide +kernel
theorem dX10_nextToken_351 : decode cX10_nextToken 351 = .ok (.iload_n 1, 1) := by decide +kernel
theorem dX10_nextToken_352 : decode cX10_nextToken 352 = .ok (.bipush 59, 2) := by decide +kernel
theorem dX10_nextToken_354 : decode cX10_nextToken 354 = .ok (.if_icmp .lt 13, 3) := by decide +kernel
theorem dX10_nextToken_357 : decode cX10_nextToken 357 = .ok (.iload_n 1, 1) := by decide +kernel
theorem dX10_nextToken_358 : decode cX10_nextToken 358 = .ok (.bipush 61, 2) := by decide +kernel
theorem dX10_nextToken_360 : decode cX10_nextToken 360 = .ok (.if_icmp .gt 7, 3) := by decide +kernel
theorem dX10_nextToken_363 : decode cX10_nextToken 363 = .ok (.iconst 3, 1) := by decide +kernel
theorem dX10_nextToken_364 : decode cX10_nextToken 364 = .ok (.goto 4, 3) := by decide +kernel
theorem dX10_nextToken_367 : decode cX10_nextToken 367 = .ok (.iconst 4, 1) := by decide +kernel
theorem dX10_nextToken_368 : decode cX10_nextToken 368 = .ok (.putfield 187, 3) := by decide +kernel
theorem dX10_nextToken_371 : decode cX10_nextToken 371 = .ok (.return_, 1) := by decide +kernel
theorem dX10_isWord_0 : decode cX10_isWord 0 = .ok (.aload_n 0, 1) := by decide +kernel
theorem dX10_isWord_1 : decode cX10_isWord 1 = .ok (.getfield 187, 3) := by decide +kernel
theorem dX10_isWord_4 : decode cX10_isWord 4 = .ok (.iconst 1, 1) := by decide +kernel
theorem dX10_isWord_5 : decode cX10_isWord 5 = .ok (.if_icmp .ne 16, 3) := by decide +kernel
theorem dX10_isWord_8 : decode cX10_isWord 8 = .ok (.aload_n 0, 1) := by decide +kernel
theorem dX10_isWord_9 : decode cX10_isWord 9 = .ok (.getfield 180, 3) := by decide +kernel
theorem dX10_isWord_12 : decode cX10_isWord 12 = .ok (.lload_n 1, 1) := by decide +kernel
theorem dX10_isWord_13 : decode cX10_isWord 13 = .ok (.lcmp, 1) := by decide +kernel
theorem dX10_isWord_14 : decode cX10_isWord 14 = .ok (.ifCond .ne 7, 3) := by decide +kernel
theorem dX10_isWord_17 : decode cX10_isWord 17 = .ok (.iconst 1, 1) := by decide +kernel
theorem dX10_isWord_18 : decode cX10_isWord 18 = .ok (.goto 4, 3) := by decide +kernel
theorem dX10_isWord_21 : decode cX10_isWord 21 = .ok (.iconst 0, 1) := by decide +kernel
theorem dX10_isWord_22 : decode cX10_isWord 22 = .ok (.ireturn, 1) := by decide +kernel
theorem dX10_isSign_0 : decode cX10_isSign 0 = .ok (.aload_n 0, 1) := by decide +kernel
theorem dX10_isSign_1 : decode cX10_isSign 1 = .ok (.getfield 187, 3) := by decide +kernel
theorem dX10_isSign_4 : decode cX10_isSign 4 = .ok (.iconst 3, 1) := by decide +kernel
theorem dX10_isSign_5 : decode cX10_isSign 5 = .ok (.if_icmp .ne 20, 3) := by decide +kernel
theorem dX10_isSign_8 : decode cX10_isSign 8 = .ok (.aload_n 0, 1) := by decide +kernel
theorem dX10_isSign_9 : decode cX10_isSign 9 = .ok (.getfield 7, 3) := by decide +kernel
theorem dX10_isSign_12 : decode cX10_isSign 12 = .ok (.aload_n 0, 1) := by decide +kernel
theorem dX10_isSign_13 : decode cX10_isSign 13 = .ok (.getfield 177, 3) := by decide +kernel
theorem dX10_isSign_16 : decode cX10_isSign 16 = .ok (.iaload, 1) := by decide +kernel
theorem dX10_isSign_17 : decode cX10_isSign 17 = .ok (.iload_n 1, 1) := by decide +kernel
theorem dX10_isSign_18 : decode cX10_isSign 18 = .ok (.if_icmp .ne 7, 3) := by decide +kernel
theorem dX10_isSign_21 : decode cX10_isSign 21 = .ok (.iconst 1, 1) := by decide +kernel
theorem dX10_isSign_22 : decode cX10_isSign 22 = .ok (.goto 4, 3) := by decide +kernel
theorem dX10_isSign_25 : decode cX10_isSign 25 = .ok (.iconst 0, 1) := by decide +kernel
theorem dX10_isSign_26 : decode cX10_isSign 26 = .ok (.ireturn, 1) := by decide +kernel
theorem dX10_fails_0 : decode cX10_fails 0 = .ok (.aload_n 0, 1) := by decide +kernel
theorem dX10_fails_1 : decode cX10_fails 1 = .ok (.iload_n 1, 1) := by decide +kernel
theorem dX10_fails_2 : decode cX10_fails 2 = .ok (.bipush 16, 2) := by decide +kernel
theorem dX10_fails_4 : decode cX10_fails 4 = .ok (.aload_n 0, 1) := by decide +kernel
theorem dX10_fails_5 : decode cX10_fails 5 = .ok (.getfield 177, 3) := by decide +kernel
theorem dX10_fails_8 : decode cX10_fails 8 = .ok (.imul, 1) := by decide +kernel
theorem dX10_fails_9 : decode cX10_fails 9 = .ok (.iadd, 1) := by decide +kernel
theorem dX10_fails_10 : decode cX10_fails 10 = .ok (.putfield 198, 3) := by decide +kernel
theorem dX10_fails_13 : decode cX10_fails 13 = .ok (.iconst 0, 1) := by decide +kernel
theorem dX10_fails_14 : decode cX10_fails 14 = .ok (.ireturn, 1) := by decide +kernel
theorem dX10_puts_0 : decode cX10_puts 0 = .ok (.aload_n 0, 1) := by decide +kernel
theorem dX10_puts_1 : decode cX10_puts 1 = .ok (.getfield 62, 3) := by decide +kernel
theorem dX10_puts_4 : decode cX10_puts 4 = .ok (.aload_n 0, 1) := by decide +kernel
theorem dX10_puts_5 : decode cX10_puts 5 = .ok (.getfield 201, 3) := by decide +kernel
theorem dX10_puts_8 : decode cX10_puts 8 = .ok (.iload_n 1, 1) := by decide +kernel
theorem dX10_puts_9 : decode cX10_puts 9 = .ok (.iastore, 1) := by decide +kernel
theorem dX10_puts_10 : decode cX10_puts 10 = .ok (.aload_n 0, 1) := by decide +kernel
theorem dX10_puts_11 : decode cX10_puts 11 = .ok (.dup, 1) := by decide +kernel
theorem dX10_puts_12 : decode cX10_puts 12 = .ok (.getfield 201, 3) := by decide +kernel
theorem dX10_puts_15 : decode cX10_puts 15 = .ok (.iconst 1, 1) := by decide +kernel
theorem dX10_puts_16 : decode cX10_puts 16 = .ok (.iadd, 1) := by decide +kernel
theorem dX10_puts_17 : decode cX10_puts 17 = .ok (.putfield 201, 3) := by decide +kernel
theorem dX10_puts_20 : decode cX10_puts 20 = .ok (.return_, 1) := by decide +kernel
theorem dX10_fact_0 : decode cX10_fact 0 = .ok (.aload_n 0, 1) := by decide +kernel
theorem dX10_fact_1 : decode cX10_fact 1 = .ok (.getfield 187, 3) := by decide +kernel
theorem dX10_fact_4 : decode cX10_fact 4 = .ok (.iconst 1, 1) := by decide +kernel
theorem dX10_fact_5 : decode cX10_fact 5 = .ok (.if_icmp .eq 5, 3) := by decide +kernel
theorem dX10_fact_8 : decode cX10_fact 8 = .ok (.iconst 0, 1) := by decide +kernel
theorem dX10_fact_9 : decode cX10_fact 9 = .ok (.ireturn, 1) := by decide +kernel
theorem dX10_fact_10 : decode cX10_fact 10 = .ok (.aload_n 0, 1) := by decide +kernel
theorem dX10_fact_11 : decode cX10_fact 11 = .ok (.getfield 180, 3) := by decide +kernel
theorem dX10_fact_14 : decode cX10_fact 14 = .ok (.ldc2_w 204, 3) := by decide +kernel
theorem dX10_fact_17 : decode cX10_fact 17 = .ok (.lcmp, 1) := by decide +kernel
theorem dX10_fact_18 : decode cX10_fact 18 = .ok (.ifCond .ne 5, 3) := by decide +kernel
theorem dX10_fact_21 : decode cX10_fact 21 = .ok (.iconst 1, 1) := by decide +kernel
theorem dX10_fact_22 : decode cX10_fact 22 = .ok (.ireturn, 1) := by decide +kernel
theorem dX10_fact_23 : decode cX10_fact 23 = .ok (.aload_n 0, 1) := by decide +kernel
theorem dX10_fact_24 : decode cX10_fact 24 = .ok (.getfield 180, 3) := by decide +kernel
theorem dX10_fact_27 : decode cX10_fact 27 = .ok (.ldc2_w 206, 3) := by decide +kernel
theorem dX10_fact_30 : decode cX10_fact 30 = .ok (.lcmp, 1) := by decide +kernel
theorem dX10_fact_31 : decode cX10_fact 31 = .ok (.ifCond .ne 5, 3) := by decide +kernel
theorem dX10_fact_34 : decode cX10_fact 34 = .ok (.iconst 2, 1) := by decide +kernel
theorem dX10_fact_35 : decode cX10_fact 35 = .ok (.ireturn, 1) := by decide +kernel
theorem dX10_fact_36 : decode cX10_fact 36 = .ok (.aload_n 0, 1) := by decide +kernel
theorem dX10_fact_37 : decode cX10_fact 37 = .ok (.getfield 180, 3) := by decide +kernel
theorem dX10_fact_40 : decode cX10_fact 40 = .ok (.ldc2_w 208, 3) := by decide +kernel
theorem dX10_fact_43 : decode cX10_fact 43 = .ok (.lcmp, 1) := by decide +kernel
theorem dX10_fact_44 : decode cX10_fact 44 = .ok (.ifCond .ne 7, 3) := by decide +kernel
theorem dX10_fact_47 : decode cX10_fact 47 = .ok (.iconst 3, 1) := by decide +kernel
theorem dX10_fact_48 : decode cX10_fact 48 = .ok (.goto 19, 3) := by decide +kernel
theorem dX10_fact_51 : decode cX10_fact 51 = .ok (.aload_n 0, 1) := by decide +kernel
theorem dX10_fact_52 : decode cX10_fact 52 = .ok (.getfield 180, 3) := by decide +kernel
theorem dX10_fact_55 : decode cX10_fact 55 = .ok (.ldc2_w 210, 3) := by decide +kernel
theorem dX10_fact_58 : decode cX10_fact 58 = .ok (.lcmp, 1) := by decide +kernel
theorem dX10_fact_59 : decode cX10_fact 59 = .ok (.ifCond .ne 7, 3) := by decide +kernel
theorem dX10_fact_62 : decode cX10_fact 62 = .ok (.iconst 4, 1) := by decide +kernel
theorem dX10_fact_63 : decode cX10_fact 63 = .ok (.goto 4, 3) := by decide +kernel
theorem dX10_fact_66 : decode cX10_fact 66 = .ok (.iconst 0, 1) := by decide +kernel
theorem dX10_fact_67 : decode cX10_fact 67 = .ok (.ireturn, 1) := by decide +kernel
theorem dX10_reads_0 : decode cX10_reads 0 = .ok (.iconst 0, 1) := by decide +kernel
theorem dX10_reads_1 : decode cX10_reads 1 = .ok (.istore_n 1, 1) := by decide +kernel
theorem dX10_reads_2 : decode cX10_reads 2 = .ok (.iconst 1, 1) := by decide +kernel
theorem dX10_reads_3 : decode cX10_reads 3 = .ok (.istore_n 2, 1) := by decide +kernel
theorem dX10_reads_4 : decode cX10_reads 4 = .ok (.aload_n 0, 1) := by decide +kernel
theorem dX10_reads_5 : decode cX10_reads 5 = .ok (.getfield 68, 3) := by decide +kernel
theorem dX10_reads_8 : decode cX10_reads 8 = .ok (.iconst 0, 1) := by decide +kernel
theorem dX10_reads_9 : decode cX10_reads 9 = .ok (.iconst 0, 1) := by decide +kernel
theorem dX10_reads_10 : decode cX10_reads 10 = .ok (.bastore, 1) := by decide +kernel
theorem dX10_reads_11 : decode cX10_reads 11 = .ok (.iload_n 2, 1) := by decide +kernel
theorem dX10_reads_12 : decode cX10_reads 12 = .ok (.ifCond .eq 167, 3) := by decide +kernel
theorem dX10_reads_15 : decode cX10_reads 15 = .ok (.aload_n 0, 1) := by decide +kernel
theorem dX10_reads_16 : decode cX10_reads 16 = .ok (.invokevirtual 212, 3) := by decide +kernel
theorem dX10_reads_19 : decode cX10_reads 19 = .ok (.istore_n 3, 1) := by decide +kernel
theorem dX10_reads_20 : decode cX10_reads 20 = .ok (.aload_n 0, 1) := by decide +kernel
theorem dX10_reads_21 : decode cX10_reads 21 = .ok (.ldc2_w 216, 3) := by decide +kernel
theorem dX10_reads_24 : decode cX10_reads 24 = .ok (.invokevirtual 218, 3) := by decide +kernel
theorem dX10_reads_27 : decode cX10_reads 27 = .ok (.istore 4, 2) := by decide +kernel
theorem dX10_reads_29 : decode cX10_reads 29 = .ok (.aload_n 0, 1) := by decide +kernel
theorem dX10_reads_30 : decode cX10_reads 30 = .ok (.bipush 40, 2) := by decide +kernel
theorem dX10_reads_32 : decode cX10_reads 32 = .ok (.invokevirtual 222, 3) := by decide +kernel
theorem dX10_reads_35 : decode cX10_reads 35 = .ok (.istore 5, 2) := by decide +kernel
theorem dX10_reads_37 : decode cX10_reads 37 = .ok (.iload_n 3, 1) := by decide +kernel
theorem dX10_reads_38 : decode cX10_reads 38 = .ok (.ifCond .ne 27, 3) := by decide +kernel
theorem dX10_reads_41 : decode cX10_reads 41 = .ok (.iload 4, 2) := by decide +kernel
theorem dX10_reads_43 : decode cX10_reads 43 = .ok (.ifCond .ne 22, 3) := by decide +kernel
theorem dX10_reads_46 : decode cX10_reads 46 = .ok (.iload 5, 2) := by decide +kernel
theorem dX10_reads_48 : decode cX10_reads 48 = .ok (.ifCond .ne 17, 3) := by decide +kernel
theorem dX10_reads_51 : decode cX10_reads 51 = .ok (.aload_n 0, 1) := by decide +kernel
theorem dX10_reads_52 : decode cX10_reads 52 = .ok (.getfield 187, 3) := by decide +kernel
theorem dX10_reads_55 : decode cX10_reads 55 = .ok (.iconst 2, 1) := by decide +kernel
theorem dX10_reads_56 : decode cX10_reads 56 = .ok (.if_icmp .eq 9, 3) := by decide +kernel
theorem dX10_reads_59 : decode cX10_reads 59 = .ok (.aload_n 0, 1) := by decide +kernel
theorem dX10_reads_60 : decode cX10_reads 60 = .ok (.iconst 1, 1) := by decide +kernel
theorem dX10_reads_61 : decode cX10_reads 61 = .ok (.invokevirtual 226, 3) := by decide +kernel
theorem dX10_reads_64 : decode cX10_reads 64 = .ok (.ireturn, 1) := by decide +kernel
theorem dX10_reads_65 : decode cX10_reads 65 = .ok (.iload_n 1, 1) := by decide +kernel
theorem dX10_reads_66 : decode cX10_reads 66 = .ok (.iconst 5, 1) := by decide +kernel
theorem dX10_reads_67 : decode cX10_reads 67 = .ok (.if_icmp .ne 9, 3) := by decide +kernel
theorem dX10_reads_70 : decode cX10_reads 70 = .ok (.aload_n 0, 1) := by decide +kernel
theorem dX10_reads_71 : decode cX10_reads 71 = .ok (.iconst 5, 1) := by decide +kernel
theorem dX10_reads_72 : decode cX10_reads 72 = .ok (.invokevirtual 226, 3) := by decide +kernel
theorem dX10_reads_75 : decode cX10_reads 75 = .ok (.ireturn, 1) := by decide +kernel
theorem dX10_reads_76 : decode cX10_reads 76 = .ok (.iload 4, 2) := by decide +kernel
theorem dX10_reads_78 : decode cX10_reads 78 = .ok (.ifCond .ne 8, 3) := by decide +kernel
theorem dX10_reads_81 : decode cX10_reads 81 = .ok (.iload 5, 2) := by decide +kernel
theorem dX10_reads_83 : decode cX10_reads 83 = .ok (.ifCond .eq 48, 3) := by decide +kernel
theorem dX10_reads_86 : decode cX10_reads 86 = .ok (.aload_n 0, 1) := by decide +kernel
theorem dX10_reads_87 : decode cX10_reads 87 = .ok (.iload 4, 2) := by decide +kernel
theorem dX10_reads_89 : decode cX10_reads 89 = .ok (.ifCond .eq 8, 3) := by decide +kernel
theorem dX10_reads_92 : decode cX10_reads 92 = .ok (.bipush 30, 2) := by decide +kernel
theorem dX10_reads_94 : decode cX10_reads 94 = .ok (.goto 5, 3) := by decide +kernel
theorem dX10_reads_97 : decode cX10_reads 97 = .ok (.bipush 28, 2) := by decide +kernel
theorem dX10_reads_99 : decode cX10_reads 99 = .ok (.invokevirtual 229, 3) := by decide +kernel
theorem dX10_reads_102 : decode cX10_reads 102 = .ok (.iinc 1 1, 3) := by decide +kernel
theorem dX10_reads_105 : decode cX10_reads 105 = .ok (.aload_n 0, 1) := by decide +kernel
theorem dX10_reads_106 : decode cX10_reads 106 = .ok (.getfield 65, 3) := by decide +kernel
theorem dX10_reads_109 : decode cX10_reads 109 = .ok (.iload_n 1, 1) := by decide +kernel
theorem dX10_reads_110 : decode cX10_reads 110 = .ok (.iload 4, 2) := by decide +kernel
theorem dX10_reads_112 : decode cX10_reads 112 = .ok (.ifCond .eq 7, 3) := by decide +kernel
theorem dX10_reads_115 : decode cX10_reads 115 = .ok (.iconst 1, 1) := by decide +kernel
theorem dX10_reads_116 : decode cX10_reads 116 = .ok (.goto 4, 3) := by decide +kernel
theorem dX10_reads_119 : decode cX10_reads 119 = .ok (.iconst 2, 1) := by decide +kernel
theorem dX10_reads_120 : decode cX10_reads 120 = .ok (.iastore, 1) := by decide +kernel
theorem dX10_reads_121 : decode cX10_reads 121 = .ok (.aload_n 0, 1) := by decide +kernel
theorem dX10_reads_122 : decode cX10_reads 122 = .ok (.getfield 68, 3) := by decide +kernel
theorem dX10_reads_125 : decode cX10_reads 125 = .ok (.iload_n 1, 1) := by decide +kernel
theorem dX10_reads_126 : decode cX10_reads 126 = .ok (.iconst 0, 1) := by decide +kernel
theorem dX10_reads_127 : decode cX10_reads 127 = .ok (.bastore, 1) := by decide +kernel
theorem dX10_reads_128 : decode cX10_reads 128 = .ok (.goto 44, 3) := by decide +kernel
theorem dX10_reads_131 : decode cX10_reads 131 = .ok (.aload_n 0, 1) := by decide +kernel
theorem dX10_reads_132 : decode cX10_reads 132 = .ok (.iload_n 3, 1) := by decide +kernel
theorem dX10_reads_133 : decode cX10_reads 133 = .ok (.ifCond .le 7, 3) := by decide +kernel
theorem dX10_reads_136 : decode cX10_reads 136 = .ok (.iload_n 3, 1) := by decide +kernel
theorem dX10_reads_137 : decode cX10_reads 137 = .ok (.goto 10, 3) := by decide +kernel
theorem dX10_reads_140 : decode cX10_reads 140 = .ok (.bipush 100, 2) := by decide +kernel
theorem dX10_reads_142 : decode cX10_reads 142 = .ok (.aload_n 0, 1) := by decide +kernel
theorem dX10_reads_143 : decode cX10_reads 143 = .ok (.getfield 184, 3) := by decide +kernel
theorem dX10_reads_146 : decode cX10_reads 146 = .ok (.iadd, 1) := by decide +kernel
theorem dX10_reads_147 : decode cX10_reads 147 = .ok (.invokevirtual 229, 3) := by decide +kernel
theorem dX10_reads_150 : decode cX10_reads 150 = .ok (.iconst 0, 1) := by decide +kernel
theorem dX10_reads_151 : decode cX10_reads 151 = .ok (.istore_n 2, 1) := by decide +kernel
theorem dX10_reads_152 : decode cX10_reads 152 = .ok (.iload_n 1, 1) := by decide +kernel
theorem dX10_reads_153 : decode cX10_reads 153 = .ok (.ifCond .le 19, 3) := by decide +kernel
theorem dX10_reads_156 : decode cX10_reads 156 = .ok (.aload_n 0, 1) := by decide +kernel
theorem dX10_reads_157 : decode cX10_reads 157 = .ok (.getfield 65, 3) := by decide +kernel
theorem dX10_reads_160 : decode cX10_reads 160 = .ok (.iload_n 1, 1) := by decide +kernel
theorem dX10_reads_161 : decode cX10_reads 161 = .ok (.iaload, 1) := by decide +kernel
theorem dX10_reads_162 : decode cX10_reads 162 = .ok (.iconst 1, 1) := by decide +kernel
theorem dX10_reads_163 : decode cX10_reads 163 = .ok (.if_icmp .ne 9, 3) := by decide +kernel
theorem dX10_reads_166 : decode cX10_reads 166 = .ok (.iinc 1 (-1), 3) := by decide +kernel
theorem dX10_reads_169 : decode cX10_reads 169 = .ok (.goto (-17), 3) := by decide +kernel
theorem dX10_reads_172 : decode cX10_reads 172 = .ok (.aload_n 0, 1) := by decide +kernel
theorem dX10_reads_173 : decode cX10_reads 173 = .ok (.invokevirtual 233, 3) := by decide +kernel
theorem dX10_reads_176 : decode cX10_reads 176 = .ok (.goto (-165), 3) := by decide +kernel
theorem dX10_reads_179 : decode cX10_reads 179 = .ok (.aload_n 0, 1) := by decide +kernel
theorem dX10_reads_180 : decode cX10_reads 180 = .ok (.bipush 43, 2) := by decide +kernel
theorem dX10_reads_182 : decode cX10_reads 182 = .ok (.invokevirtual 222, 3) := by decide +kernel
theorem dX10_reads_185 : decode cX10_reads 185 = .ok (.ifCond .ne 21, 3) := by decide +kernel
theorem dX10_reads_188 : decode cX10_reads 188 = .ok (.aload_n 0, 1) := by decide +kernel
theorem dX10_reads_189 : decode cX10_reads 189 = .ok (.bipush 45, 2) := by decide +kernel
theorem dX10_reads_191 : decode cX10_reads 191 = .ok (.invokevirtual 222, 3) := by decide +kernel
theorem dX10_reads_194 : decode cX10_reads 194 = .ok (.ifCond .ne 12, 3) := by decide +kernel
theorem dX10_reads_197 : decode cX10_reads 197 = .ok (.aload_n 0, 1) := by decide +kernel
theorem dX10_reads_198 : decode cX10_reads 198 = .ok (.bipush 42, 2) := by decide +kernel
theorem dX10_reads_200 : decode cX10_reads 200 = .ok (.invokevirtual 222, 3) := by decide +kernel
theorem dX10_reads_203 : decode cX10_reads 203 = .ok (.ifCond .eq 42, 3) := by decide +kernel
theorem dX10_reads_206 : decode cX10_reads 206 = .ok (.aload_n 0, 1) := by decide +kernel
theorem dX10_reads_207 : decode cX10_reads 207 = .ok (.aload_n 0, 1) := by decide +kernel
theorem dX10_reads_208 : decode cX10_reads 208 = .ok (.bipush 43, 2) := by decide +kernel
theorem dX10_reads_210 : decode cX10_reads 210 = .ok (.invokevirtual 222, 3) := by decide +kernel
theorem dX10_reads_213 : decode cX10_reads 213 = .ok (.ifCond .eq 8, 3) := by decide +kernel
theorem dX10_reads_216 : decode cX10_reads 216 = .ok (.bipush 20, 2) := by decide +kernel
theorem dX10_reads_218 : decode cX10_reads 218 = .ok (.goto 19, 3) := by decide +kernel
theorem dX10_reads_221 : decode cX10_reads 221 = .ok (.aload_n 0, 1) := by decide +kernel
theorem dX10_reads_222 : decode cX10_reads 222 = .ok (.bipush 45, 2) := by decide +kernel
theorem dX10_reads_224 : decode cX10_reads 224 = .ok (.invokevirtual 222, 3) := by decide +kernel
theorem dX10_reads_227 : decode cX10_reads 227 = .ok (.ifCond .eq 8, 3) := by decide +kernel
theorem dX10_reads_230 : decode cX10_reads 230 = .ok (.bipush 21, 2) := by decide +kernel
theorem dX10_reads_232 : decode cX10_reads 232 = .ok (.goto 5, 3) := by decide +kernel
theorem dX10_reads_235 : decode cX10_reads 235 = .ok (.bipush 22, 2) := by decide +kernel
theorem dX10_reads_237 : decode cX10_reads 237 = .ok (.invokevirtual 229, 3) := by decide +kernel
theorem dX10_reads_240 : decode cX10_reads 240 = .ok (.iconst 1, 1) := by decide +kernel
theorem dX10_reads_241 : decode cX10_reads 241 = .ok (.istore_n 2, 1) := by decide +kernel
theorem dX10_reads_242 : decode cX10_reads 242 = .ok (.goto 182, 3) := by decide +kernel
theorem dX10_reads_245 : decode cX10_reads 245 = .ok (.aload_n 0, 1) := by decide +kernel
theorem dX10_reads_246 : decode cX10_reads 246 = .ok (.bipush 60, 2) := by decide +kernel
theorem dX10_reads_248 : decode cX10_reads 248 = .ok (.invokevirtual 222, 3) := by decide +kernel
theorem dX10_reads_251 : decode cX10_reads 251 = .ok (.ifCond .ne 12, 3) := by decide +kernel
theorem dX10_reads_254 : decode cX10_reads 254 = .ok (.aload_n 0, 1) := by decide +kernel
theorem dX10_reads_255 : decode cX10_reads 255 = .ok (.bipush 61, 2) := by decide +kernel
theorem dX10_reads_257 : decode cX10_reads 257 = .ok (.invokevirtual 222, 3) := by decide +kernel
theorem dX10_reads_260 : decode cX10_reads 260 = .ok (.ifCond .eq 44, 3) := by decide +kernel
theorem dX10_reads_263 : decode cX10_reads 263 = .ok (.aload_n 0, 1) := by decide +kernel
theorem dX10_reads_264 : decode cX10_reads 264 = .ok (.getfield 68, 3) := by decide +kernel
theorem dX10_reads_267 : decode cX10_reads 267 = .ok (.iload_n 1, 1) := by decide +kernel
theorem dX10_reads_268 : decode cX10_reads 268 = .ok (.baload, 1) := by decide +kernel
theorem dX10_reads_269 : decode cX10_reads 269 = .ok (.ifCond .ne 35, 3) := by decide +kernel
theorem dX10_reads_272 : decode cX10_reads 272 = .ok (.aload_n 0, 1) := by decide +kernel
theorem dX10_reads_273 : decode cX10_reads 273 = .ok (.aload_n 0, 1) := by decide +kernel
theorem dX10_reads_274 : decode cX10_reads 274 = .ok (.bipush 60, 2) := by decide +kernel
theorem dX10_reads_276 : decode cX10_reads 276 = .ok (.invokevirtual 222, 3) := by decide +kernel
theorem dX10_reads_279 : decode cX10_reads 279 = .ok (.ifCond .eq 8, 3) := by decide +kernel
theorem dX10_reads_282 : decode cX10_reads 282 = .ok (.bipush 24, 2) := by decide +kernel
theorem dX10_reads_284 : decode cX10_reads 284 = .ok (.goto 5, 3) := by decide +kernel
theorem dX10_reads_287 : decode cX10_reads 287 = .ok (.bipush 25, 2) := by decide +kernel
theorem dX10_reads_289 : decode cX10_reads 289 = .ok (.invokevirtual 229, 3) := by decide +kernel
theorem dX10_reads_292 : decode cX10_reads 292 = .ok (.aload_n 0, 1) := by decide +kernel
theorem dX10_reads_293 : decode cX10_reads 293 = .ok (.getfield 68, 3) := by decide +kernel
theorem dX10_reads_296 : decode cX10_reads 296 = .ok (.iload_n 1, 1) := by decide +kernel
theorem dX10_reads_297 : decode cX10_reads 297 = .ok (.iconst 1, 1) := by decide +kernel
theorem dX10_reads_298 : decode cX10_reads 298 = .ok (.bastore, 1) := by decide +kernel
theorem dX10_reads_299 : decode cX10_reads 299 = .ok (.iconst 1, 1) := by decide +kernel
theorem dX10_reads_300 : decode cX10_reads 300 = .ok (.istore_n 2, 1) := by decide +kernel
theorem dX10_reads_301 : decode cX10_reads 301 = .ok (.goto 123, 3) := by decide +kernel
theorem dX10_reads_304 : decode cX10_reads 304 = .ok (.aload_n 0, 1) := by decide +kernel
theorem dX10_reads_305 : decode cX10_reads 305 = .ok (.ldc2_w 236, 3) := by decide +kernel
theorem dX10_reads_308 : decode cX10_reads 308 = .ok (.invokevirtual 218, 3) := by decide +kernel
theorem dX10_reads_311 : decode cX10_reads 311 = .ok (.ifCond .ne 13, 3) := by decide +kernel
theorem dX10_reads_314 : decode cX10_reads 314 = .ok (.aload_n 0, 1) := by decide +kernel
theorem dX10_reads_315 : decode cX10_reads 315 = .ok (.ldc2_w 238, 3) := by decide +kernel
theorem dX10_reads_318 : decode cX10_reads 318 = .ok (.invokevirtual 218, 3) := by decide +kernel
theorem dX10_reads_321 : decode cX10_reads 321 = .ok (.ifCond .eq 36, 3) := by decide +kernel
theorem dX10_reads_324 : decode cX10_reads 324 = .ok (.aload_n 0, 1) := by decide +kernel
theorem dX10_reads_325 : decode cX10_reads 325 = .ok (.aload_n 0, 1) := by decide +kernel
theorem dX10_reads_326 : decode cX10_reads 326 = .ok (.ldc2_w 236, 3) := by decide +kernel
theorem dX10_reads_329 : decode cX10_reads 329 = .ok (.invokevirtual 218, 3) := by decide +kernel
theorem dX10_reads_332 : decode cX10_reads 332 = .ok (.ifCond .eq 8, 3) := by decide +kernel
theorem dX10_reads_335 : decode cX10_reads 335 = .ok (.bipush 26, 2) := by decide +kernel
theorem dX10_reads_337 : decode cX10_reads 337 = .ok (.goto 5, 3) := by decide +kernel
theorem dX10_reads_340 : decode cX10_reads 340 = .ok (.bipush 27, 2) := by decide +kernel
theorem dX10_reads_342 : decode cX10_reads 342 = .ok (.invokevirtual 229, 3) := by decide +kernel
theorem dX10_reads_345 : decode cX10_reads 345 = .ok (.aload_n 0, 1) := by decide +kernel
theorem dX10_reads_346 : decode cX10_reads 346 = .ok (.getfield 68, 3) := by decide +kernel
theorem dX10_reads_349 : decode cX10_reads 349 = .ok (.iload_n 1, 1) := by decide +kernel
theorem dX10_reads_350 : decode cX10_reads 350 = .ok (.iconst 0, 1) := by decide +kernel
theorem dX10_reads_351 : decode cX10_reads 351 = .ok (.bastore, 1) := by decide +kernel
theorem dX10_reads_352 : decode cX10_reads 352 = .ok (.iconst 1, 1) := by decide +kernel
theorem dX10_reads_353 : decode cX10_reads 353 = .ok (.istore_n 2, 1) := by decide +kernel
theorem dX10_reads_354 : decode cX10_reads 354 = .ok (.goto 70, 3) := by decide +kernel
theorem dX10_reads_357 : decode cX10_reads 357 = .ok (.aload_n 0, 1) := by decide +kernel
theorem dX10_reads_358 : decode cX10_reads 358 = .ok (.bipush 41, 2) := by decide +kernel
theorem dX10_reads_360 : decode cX10_reads 360 = .ok (.invokevirtual 222, 3) := by decide +kernel
theorem dX10_reads_363 : decode cX10_reads 363 = .ok (.ifCond .eq 36, 3) := by decide +kernel
theorem dX10_reads_366 : decode cX10_reads 366 = .ok (.iload_n 1, 1) := by decide +kernel
theorem dX10_reads_367 : decode cX10_reads 367 = .ok (.ifCond .le 32, 3) := by decide +kernel
theorem dX10_reads_370 : decode cX10_reads 370 = .ok (.aload_n 0, 1) := by decide +kernel
theorem dX10_reads_371 : decode cX10_reads 371 = .ok (.bipush 29, 2) := by decide +kernel
theorem dX10_reads_373 : decode cX10_reads 373 = .ok (.invokevirtual 229, 3) := by decide +kernel
theorem dX10_reads_376 : decode cX10_reads 376 = .ok (.iinc 1 (-1), 3) := by decide +kernel
theorem dX10_reads_379 : decode cX10_reads 379 = .ok (.iload_n 1, 1) := by decide +kernel
theorem dX10_reads_380 : decode cX10_reads 380 = .ok (.ifCond .le 44, 3) := by decide +kernel
theorem dX10_reads_383 : decode cX10_reads 383 = .ok (.aload_n 0, 1) := by decide +kernel
theorem dX10_reads_384 : decode cX10_reads 384 = .ok (.getfield 65, 3) := by decide +kernel
theorem dX10_reads_387 : decode cX10_reads 387 = .ok (.iload_n 1, 1) := by decide +kernel
theorem dX10_reads_388 : decode cX10_reads 388 = .ok (.iaload, 1) := by decide +kernel
theorem dX10_reads_389 : decode cX10_reads 389 = .ok (.iconst 1, 1) := by decide +kernel
theorem dX10_reads_390 : decode cX10_reads 390 = .ok (.if_icmp .ne 34, 3) := by decide +kernel
theorem dX10_reads_393 : decode cX10_reads 393 = .ok (.iinc 1 (-1), 3) := by decide +kernel
theorem dX10_reads_396 : decode cX10_reads 396 = .ok (.goto (-17), 3) := by decide +kernel
theorem dX10_reads_399 : decode cX10_reads 399 = .ok (.iload_n 1, 1) := by decide +kernel
theorem dX10_reads_400 : decode cX10_reads 400 = .ok (.ifCond .ne 18, 3) := by decide +kernel
theorem dX10_reads_403 : decode cX10_reads 403 = .ok (.aload_n 0, 1) := by decide +kernel
theorem dX10_reads_404 : decode cX10_reads 404 = .ok (.bipush 59, 2) := by decide +kernel
theorem dX10_reads_406 : decode cX10_reads 406 = .ok (.invokevirtual 222, 3) := by decide +kernel
theorem dX10_reads_409 : decode cX10_reads 409 = .ok (.ifCond .eq 9, 3) := by decide +kernel
theorem dX10_reads_412 : decode cX10_reads 412 = .ok (.aload_n 0, 1) := by decide +kernel
theorem dX10_reads_413 : decode cX10_reads 413 = .ok (.invokevirtual 233, 3) := by decide +kernel
theorem dX10_reads_416 : decode cX10_reads 416 = .ok (.iconst 1, 1) := by decide +kernel
theorem dX10_reads_417 : decode cX10_reads 417 = .ok (.ireturn, 1) := by decide +kernel
theorem dX10_reads_418 : decode cX10_reads 418 = .ok (.aload_n 0, 1) := by decide +kernel
theorem dX10_reads_419 : decode cX10_reads 419 = .ok (.iconst 1, 1) := by decide +kernel
theorem dX10_reads_420 : decode cX10_reads 420 = .ok (.invokevirtual 226, 3) := by decide +kernel
theorem dX10_reads_423 : decode cX10_reads 423 = .ok (.ireturn, 1) := by decide +kernel
theorem dX10_reads_424 : decode cX10_reads 424 = .ok (.aload_n 0, 1) := by decide +kernel
theorem dX10_reads_425 : decode cX10_reads 425 = .ok (.invokevirtual 233, 3) := by decide +kernel
theorem dX10_reads_428 : decode cX10_reads 428 = .ok (.goto (-417), 3) := by decide +kernel
theorem dX10_opens_0 : decode cX10_opens 0 = .ok (.aload_n 0, 1) := by decide +kernel
theorem dX10_opens_1 : decode cX10_opens 1 = .ok (.getfield 75, 3) := by decide +kernel
theorem dX10_opens_4 : decode cX10_opens 4 = .ok (.iload_n 1, 1) := by decide +kernel
theorem dX10_opens_5 : decode cX10_opens 5 = .ok (.iconst 0, 1) := by decide +kernel
theorem dX10_opens_6 : decode cX10_opens 6 = .ok (.iastore, 1) := by decide +kernel
theorem dX10_opens_7 : decode cX10_opens 7 = .ok (.aload_n 0, 1) := by decide +kernel
theorem dX10_opens_8 : decode cX10_opens 8 = .ok (.getfield 81, 3) := by decide +kernel
theorem dX10_opens_11 : decode cX10_opens 11 = .ok (.iload_n 1, 1) := by decide +kernel
theorem dX10_opens_12 : decode cX10_opens 12 = .ok (.iconst 0, 1) := by decide +kernel
theorem dX10_opens_13 : decode cX10_opens 13 = .ok (.iastore, 1) := by decide +kernel
theorem dX10_opens_14 : decode cX10_opens 14 = .ok (.aload_n 0, 1) := by decide +kernel
theorem dX10_opens_15 : decode cX10_opens 15 = .ok (.getfield 84, 3) := by decide +kernel
theorem dX10_opens_18 : decode cX10_opens 18 = .ok (.iload_n 1, 1) := by decide +kernel
theorem dX10_opens_19 : decode cX10_opens 19 = .ok (.iconst 0, 1) := by decide +kernel
theorem dX10_opens_20 : decode cX10_opens 20 = .ok (.iastore, 1) := by decide +kernel
theorem dX10_opens_21 : decode cX10_opens 21 = .ok (.aload_n 0, 1) := by decide +kernel
theorem dX10_opens_22 : decode cX10_opens 22 = .ok (.getfield 87, 3) := by decide +kernel
theorem dX10_opens_25 : decode cX10_opens 25 = .ok (.iload_n 1, 1) := by decide +kernel
theorem dX10_opens_26 : decode cX10_opens 26 = .ok (.bipush 20, 2) := by decide +kernel
theorem dX10_opens_28 : decode cX10_opens 28 = .ok (.iastore, 1) := by decide +kernel
theorem dX10_opens_29 : decode cX10_opens 29 = .ok (.aload_n 0, 1) := by decide +kernel
theorem dX10_opens_30 : decode cX10_opens 30 = .ok (.getfield 93, 3) := by decide +kernel
theorem dX10_opens_33 : decode cX10_opens 33 = .ok (.iload_n 1, 1) := by decide +kernel
theorem dX10_opens_34 : decode cX10_opens 34 = .ok (.iconst 0, 1) := by decide +kernel
theorem dX10_opens_35 : decode cX10_opens 35 = .ok (.iastore, 1) := by decide +kernel
theorem dX10_opens_36 : decode cX10_opens 36 = .ok (.return_, 1) := by decide +kernel
theorem dX10_sums_0 : decode cX10_sums 0 = .ok (.aload_n 0, 1) := by decide +kernel
theorem dX10_sums_1 : decode cX10_sums 1 = .ok (.getfield 84, 3) := by decide +kernel
theorem dX10_sums_4 : decode cX10_sums 4 = .ok (.iload_n 1, 1) := by decide +kernel
theorem dX10_sums_5 : decode cX10_sums 5 = .ok (.aload_n 0, 1) := by decide +kernel
theorem dX10_sums_6 : decode cX10_sums 6 = .ok (.getfield 87, 3) := by decide +kernel
theorem dX10_sums_9 : decode cX10_sums 9 = .ok (.iload_n 1, 1) := by decide +kernel
theorem dX10_sums_10 : decode cX10_sums 10 = .ok (.iaload, 1) := by decide +kernel
theorem dX10_sums_11 : decode cX10_sums 11 = .ok (.bipush 21, 2) := by decide +kernel
theorem dX10_sums_13 : decode cX10_sums 13 = .ok (.if_icmp .ne 19, 3) := by decide +kernel
theorem dX10_sums_16 : decode cX10_sums 16 = .ok (.aload_n 0, 1) := by decide +kernel
theorem dX10_sums_17 : decode cX10_sums 17 = .ok (.getfield 84, 3) := by decide +kernel
theorem dX10_sums_20 : decode cX10_sums 20 = .ok (.iload_n 1, 1) := by decide +kernel
theorem dX10_sums_21 : decode cX10_sums 21 = .ok (.iaload, 1) := by decide +kernel
theorem dX10_sums_22 : decode cX10_sums 22 = .ok (.aload_n 0, 1) := by decide +kernel
theorem dX10_sums_23 : decode cX10_sums 23 = .ok (.getfield 90, 3) := by decide +kernel
theorem dX10_sums_26 : decode cX10_sums 26 = .ok (.iload_n 1, 1) := by decide +kernel
theorem dX10_sums_27 : decode cX10_sums 27 = .ok (.iaload, 1) := by decide +kernel
theorem dX10_sums_28 : decode cX10_sums 28 = .ok (.isub, 1) := by decide +kernel
theorem dX10_sums_29 : decode cX10_sums 29 = .ok (.goto 16, 3) := by decide +kernel
theorem dX10_sums_32 : decode cX10_sums 32 = .ok (.aload_n 0, 1) := by decide +kernel
theorem dX10_sums_33 : decode cX10_sums 33 = .ok (.getfield 84, 3) := by decide +kernel
theorem dX10_sums_36 : decode cX10_sums 36 = .ok (.iload_n 1, 1) := by decide +kernel
theorem dX10_sums_37 : decode cX10_sums 37 = .ok (.iaload, 1) := by decide +kernel
theorem dX10_sums_38 : decode cX10_sums 38 = .ok (.aload_n 0, 1) := by decide +kernel
theorem dX10_sums_39 : decode cX10_sums 39 = .ok (.getfield 90, 3) := by decide +kernel
theorem dX10_sums_42 : decode cX10_sums 42 = .ok (.iload_n 1, 1) := by decide +kernel
theorem dX10_sums_43 : decode cX10_sums 43 = .ok (.iaload, 1) := by decide +kernel
theorem dX10_sums_44 : decode cX10_sums 44 = .ok (.iadd, 1) := by decide +kernel
theorem dX10_sums_45 : decode cX10_sums 45 = .ok (.iastore, 1) := by decide +kernel
theorem dX10_sums_46 : decode cX10_sums 46 = .ok (.aload_n 0, 1) := by decide +kernel
theorem dX10_sums_47 : decode cX10_sums 47 = .ok (.getfield 93, 3) := by decide +kernel
theorem dX10_sums_50 : decode cX10_sums 50 = .ok (.iload_n 1, 1) := by decide +kernel
theorem dX10_sums_51 : decode cX10_sums 51 = .ok (.iconst 0, 1) := by decide +kernel
theorem dX10_sums_52 : decode cX10_sums 52 = .ok (.iastore, 1) := by decide +kernel
theorem dX10_sums_53 : decode cX10_sums 53 = .ok (.return_, 1) := by decide +kernel
theorem dX10_tests_0 : decode cX10_tests 0 = .ok (.aload_n 0, 1) := by decide +kernel
theorem dX10_tests_1 : decode cX10_tests 1 = .ok (.iload_n 1, 1) := by decide +kernel
theorem dX10_tests_2 : decode cX10_tests 2 = .ok (.invokevirtual 240, 3) := by decide +kernel
theorem dX10_tests_5 : decode cX10_tests 5 = .ok (.aload_n 0, 1) := by decide +kernel
theorem dX10_tests_6 : decode cX10_tests 6 = .ok (.getfield 84, 3) := by decide +kernel
theorem dX10_tests_9 : decode cX10_tests 9 = .ok (.iload_n 1, 1) := by decide +kernel
theorem dX10_tests_10 : decode cX10_tests 10 = .ok (.iaload, 1) := by decide +kernel
theorem dX10_tests_11 : decode cX10_tests 11 = .ok (.istore_n 2, 1) := by decide +kernel
theorem dX10_tests_12 : decode cX10_tests 12 = .ok (.aload_n 0, 1) := by decide +kernel
theorem dX10_tests_13 : decode cX10_tests 13 = .ok (.getfield 81, 3) := by decide +kernel
theorem dX10_tests_16 : decode cX10_tests 16 = .ok (.iload_n 1, 1) := by decide +kernel
theorem dX10_tests_17 : decode cX10_tests 17 = .ok (.iaload, 1) := by decide +kernel
theorem dX10_tests_18 : decode cX10_tests 18 = .ok (.bipush 24, 2) := by decide +kernel
theorem dX10_tests_20 : decode cX10_tests 20 = .ok (.if_icmp .ne 24, 3) := by decide +kernel
theorem dX10_tests_23 : decode cX10_tests 23 = .ok (.aload_n 0, 1) := by decide +kernel
theorem dX10_tests_24 : decode cX10_tests 24 = .ok (.getfield 78, 3) := by decide +kernel
theorem dX10_tests_27 : decode cX10_tests 27 = .ok (.iload_n 1, 1) := by decide +kernel
theorem dX10_tests_28 : decode cX10_tests 28 = .ok (.iaload, 1) := by decide +kernel
theorem dX10_tests_29 : decode cX10_tests 29 = .ok (.aload_n 0, 1) := by decide +kernel
theorem dX10_tests_30 : decode cX10_tests 30 = .ok (.getfield 84, 3) := by decide +kernel
theorem dX10_tests_33 : decode cX10_tests 33 = .ok (.iload_n 1, 1) := by decide +kernel
theorem dX10_tests_34 : decode cX10_tests 34 = .ok (.iaload, 1) := by decide +kernel
theorem dX10_tests_35 : decode cX10_tests 35 = .ok (.if_icmp .ge 7, 3) := by decide +kernel
theorem dX10_tests_38 : decode cX10_tests 38 = .ok (.iconst 1, 1) := by decide +kernel
theorem dX10_tests_39 : decode cX10_tests 39 = .ok (.goto 4, 3) := by decide +kernel
theorem dX10_tests_42 : decode cX10_tests 42 = .ok (.iconst 0, 1) := by decide +kernel
theorem dX10_tests_43 : decode cX10_tests 43 = .ok (.istore_n 2, 1) := by decide +kernel
theorem dX10_tests_44 : decode cX10_tests 44 = .ok (.aload_n 0, 1) := by decide +kernel
theorem dX10_tests_45 : decode cX10_tests 45 = .ok (.getfield 81, 3) := by decide +kernel
theorem dX10_tests_48 : decode cX10_tests 48 = .ok (.iload_n 1, 1) := by decide +kernel
theorem dX10_tests_49 : decode cX10_tests 49 = .ok (.iaload, 1) := by decide +kernel
theorem dX10_tests_50 : decode cX10_tests 50 = .ok (.bipush 25, 2) := by decide +kernel
theorem dX10_tests_52 : decode cX10_tests 52 = .ok (.if_icmp .ne 24, 3) := by decide +kernel
theorem dX10_tests_55 : decode cX10_tests 55 = .ok (.aload_n 0, 1) := by decide +kernel
theorem dX10_tests_56 : decode cX10_tests 56 = .ok (.getfield 78, 3) := by decide +kernel
theorem dX10_tests_59 : decode cX10_tests 59 = .ok (.iload_n 1, 1) := by decide +kernel
theorem dX10_tests_60 : decode cX10_tests 60 = .ok (.iaload, 1) := by decide +kernel
theorem dX10_tests_61 : decode cX10_tests 61 = .ok (.aload_n 0, 1) := by decide +kernel
theorem dX10_tests_62 : decode cX10_tests 62 = .ok (.getfield 84, 3) := by decide +kernel
theorem dX10_tests_65 : decode cX10_tests 65 = .ok (.iload_n 1, 1) := by decide +kernel
theorem dX10_tests_66 : decode cX10_tests 66 = .ok (.iaload, 1) := by decide +kernel
theorem dX10_tests_67 : decode cX10_tests 67 = .ok (.if_icmp .ne 7, 3) := by decide +kernel
theorem dX10_tests_70 : decode cX10_tests 70 = .ok (.iconst 1, 1) := by decide +kernel
theorem dX10_tests_71 : decode cX10_tests 71 = .ok (.goto 4, 3) := by decide +kernel
theorem dX10_tests_74 : decode cX10_tests 74 = .ok (.iconst 0, 1) := by decide +kernel
theorem dX10_tests_75 : decode cX10_tests 75 = .ok (.istore_n 2, 1) := by decide +kernel
theorem dX10_tests_76 : decode cX10_tests 76 = .ok (.aload_n 0, 1) := by decide +kernel
theorem dX10_tests_77 : decode cX10_tests 77 = .ok (.getfield 75, 3) := by decide +kernel
theorem dX10_tests_80 : decode cX10_tests 80 = .ok (.iload_n 1, 1) := by decide +kernel
theorem dX10_tests_81 : decode cX10_tests 81 = .ok (.iaload, 1) := by decide +kernel
theorem dX10_tests_82 : decode cX10_tests 82 = .ok (.bipush 26, 2) := by decide +kernel
theorem dX10_tests_84 : decode cX10_tests 84 = .ok (.if_icmp .ne 22, 3) := by decide +kernel
theorem dX10_tests_87 : decode cX10_tests 87 = .ok (.aload_n 0, 1) := by decide +kernel
theorem dX10_tests_88 : decode cX10_tests 88 = .ok (.getfield 72, 3) := by decide +kernel
theorem dX10_tests_91 : decode cX10_tests 91 = .ok (.iload_n 1, 1) := by decide +kernel
theorem dX10_tests_92 : decode cX10_tests 92 = .ok (.iaload, 1) := by decide +kernel
theorem dX10_tests_93 : decode cX10_tests 93 = .ok (.ifCond .eq 11, 3) := by decide +kernel
theorem dX10_tests_96 : decode cX10_tests 96 = .ok (.iload_n 2, 1) := by decide +kernel
theorem dX10_tests_97 : decode cX10_tests 97 = .ok (.ifCond .eq 7, 3) := by decide +kernel
theorem dX10_tests_100 : decode cX10_tests 100 = .ok (.iconst 1, 1) := by decide +kernel
theorem dX10_tests_101 : decode cX10_tests 101 = .ok (.goto 4, 3) := by decide +kernel
theorem dX10_tests_104 : decode cX10_tests 104 = .ok (.iconst 0, 1) := by decide +kernel
theorem dX10_tests_105 : decode cX10_tests 105 = .ok (.istore_n 2, 1) := by decide +kernel
theorem dX10_tests_106 : decode cX10_tests 106 = .ok (.aload_n 0, 1) := by decide +kernel
theorem dX10_tests_107 : decode cX10_tests 107 = .ok (.getfield 75, 3) := by decide +kernel
theorem dX10_tests_110 : decode cX10_tests 110 = .ok (.iload_n 1, 1) := by decide +kernel
theorem dX10_tests_111 : decode cX10_tests 111 = .ok (.iaload, 1) := by decide +kernel
theorem dX10_tests_112 : decode cX10_tests 112 = .ok (.bipush 27, 2) := by decide +kernel
theorem dX10_tests_114 : decode cX10_tests 114 = .ok (.if_icmp .ne 22, 3) := by decide +kernel
theorem dX10_tests_117 : decode cX10_tests 117 = .ok (.aload_n 0, 1) := by decide +kernel
theorem dX10_tests_118 : decode cX10_tests 118 = .ok (.getfield 72, 3) := by decide +kernel
theorem dX10_tests_121 : decode cX10_tests 121 = .ok (.iload_n 1, 1) := by decide +kernel
theorem dX10_tests_122 : decode cX10_tests 122 = .ok (.iaload, 1) := by decide +kernel
theorem dX10_tests_123 : decode cX10_tests 123 = .ok (.ifCond .ne 7, 3) := by decide +kernel
theorem dX10_tests_126 : decode cX10_tests 126 = .ok (.iload_n 2, 1) := by decide +kernel
theorem dX10_tests_127 : decode cX10_tests 127 = .ok (.ifCond .eq 7, 3) := by decide +kernel
theorem dX10_tests_130 : decode cX10_tests 130 = .ok (.iconst 1, 1) := by decide +kernel
theorem dX10_tests_131 : decode cX10_tests 131 = .ok (.goto 4, 3) := by decide +kernel
theorem dX10_tests_134 : decode cX10_tests 134 = .ok (.iconst 0, 1) := by decide +kernel
theorem dX10_tests_135 : decode cX10_tests 135 = .ok (.istore_n 2, 1) := by decide +kernel
theorem dX10_tests_136 : decode cX10_tests 136 = .ok (.aload_n 0, 1) := by decide +kernel
theorem dX10_tests_137 : decode cX10_tests 137 = .ok (.getfield 72, 3) := by decide +kernel
theorem dX10_tests_140 : decode cX10_tests 140 = .ok (.iload_n 1, 1) := by decide +kernel
theorem dX10_tests_141 : decode cX10_tests 141 = .ok (.iload_n 2, 1) := by decide +kernel
theorem dX10_tests_142 : decode cX10_tests 142 = .ok (.iastore, 1) := by decide +kernel
theorem dX10_tests_143 : decode cX10_tests 143 = .ok (.aload_n 0, 1) := by decide +kernel
theorem dX10_tests_144 : decode cX10_tests 144 = .ok (.getfield 81, 3) := by decide +kernel
theorem dX10_tests_147 : decode cX10_tests 147 = .ok (.iload_n 1, 1) := by decide +kernel
theorem dX10_tests_148 : decode cX10_tests 148 = .ok (.iconst 0, 1) := by decide +kernel
theorem dX10_tests_149 : decode cX10_tests 149 = .ok (.iastore, 1) := by decide +kernel
theorem dX10_tests_150 : decode cX10_tests 150 = .ok (.aload_n 0, 1) := by decide +kernel
theorem dX10_tests_151 : decode cX10_tests 151 = .ok (.getfield 84, 3) := by decide +kernel
theorem dX10_tests_154 : decode cX10_tests 154 = .ok (.iload_n 1, 1) := by decide +kernel
theorem dX10_tests_155 : decode cX10_tests 155 = .ok (.iconst 0, 1) := by decide +kernel
theorem dX10_tests_156 : decode cX10_tests 156 = .ok (.iastore, 1) := by decide +kernel
theorem dX10_tests_157 : decode cX10_tests 157 = .ok (.aload_n 0, 1) := by decide +kernel
theorem dX10_tests_158 : decode cX10_tests 158 = .ok (.getfield 87, 3) := by decide +kernel
theorem dX10_tests_161 : decode cX10_tests 161 = .ok (.iload_n 1, 1) := by decide +kernel
theorem dX10_tests_162 : decode cX10_tests 162 = .ok (.bipush 20, 2) := by decide +kernel
theorem dX10_tests_164 : decode cX10_tests 164 = .ok (.iastore, 1) := by decide +kernel
theorem dX10_tests_165 : decode cX10_tests 165 = .ok (.return_, 1) := by decide +kernel
theorem dX10_worked_0 : decode cX10_worked 0 = .ok (.iconst 0, 1) := by decide +kernel
theorem dX10_worked_1 : decode cX10_worked 1 = .ok (.istore_n 2, 1) := by decide +kernel
theorem dX10_worked_2 : decode cX10_worked 2 = .ok (.aload_n 0, 1) := by decide +kernel
theorem dX10_worked_3 : decode cX10_worked 3 = .ok (.iconst 0, 1) := by decide +kernel
theorem dX10_worked_4 : decode cX10_worked 4 = .ok (.invokevirtual 243, 3) := by decide +kernel
theorem dX10_worked_7 : decode cX10_worked 7 = .ok (.aload_n 0, 1) := by decide +kernel
theorem dX10_worked_8 : decode cX10_worked 8 = .ok (.getfield 56, 3) := by decide +kernel
theorem dX10_worked_11 : decode cX10_worked 11 = .ok (.iload_n 1, 1) := by decide +kernel
theorem dX10_worked_12 : decode cX10_worked 12 = .ok (.iaload, 1) := by decide +kernel
theorem dX10_worked_13 : decode cX10_worked 13 = .ok (.istore_n 3, 1) := by decide +kernel
theorem dX10_worked_14 : decode cX10_worked 14 = .ok (.iload_n 3, 1) := by decide +kernel
theorem dX10_worked_15 : decode cX10_worked 15 = .ok (.aload_n 0, 1) := by decide +kernel
theorem dX10_worked_16 : decode cX10_worked 16 = .ok (.getfield 59, 3) := by decide +kernel
theorem dX10_worked_19 : decode cX10_worked 19 = .ok (.iload_n 1, 1) := by decide +kernel
theorem dX10_worked_20 : decode cX10_worked 20 = .ok (.iaload, 1) := by decide +kernel
theorem dX10_worked_21 : decode cX10_worked 21 = .ok (.if_icmp .ge 314, 3) := by decide +kernel
theorem dX10_worked_24 : decode cX10_worked 24 = .ok (.aload_n 0, 1) := by decide +kernel
theorem dX10_worked_25 : decode cX10_worked 25 = .ok (.getfield 62, 3) := by decide +kernel
theorem dX10_worked_28 : decode cX10_worked 28 = .ok (.iload_n 3, 1) := by decide +kernel
theorem dX10_worked_29 : decode cX10_worked 29 = .ok (.iaload, 1) := by decide +kernel
theorem dX10_worked_30 : decode cX10_worked 30 = .ok (.istore 4, 2) := by decide +kernel
theorem dX10_worked_32 : decode cX10_worked 32 = .ok (.iload 4, 2) := by decide +kernel
theorem dX10_worked_34 : decode cX10_worked 34 = .ok (.bipush 28, 2) := by decide +kernel
theorem dX10_worked_36 : decode cX10_worked 36 = .ok (.if_icmp .eq 10, 3) := by decide +kernel
theorem dX10_worked_39 : decode cX10_worked 39 = .ok (.iload 4, 2) := by decide +kernel
theorem dX10_worked_41 : decode cX10_worked 41 = .ok (.bipush 30, 2) := by decide +kernel
theorem dX10_worked_43 : decode cX10_worked 43 = .ok (.if_icmp .ne 32, 3) := by decide +kernel
theorem dX10_worked_46 : decode cX10_worked 46 = .ok (.iinc 2 1, 3) := by decide +kernel
theorem dX10_worked_49 : decode cX10_worked 49 = .ok (.aload_n 0, 1) := by decide +kernel
theorem dX10_worked_50 : decode cX10_worked 50 = .ok (.getfield 96, 3) := by decide +kernel
theorem dX10_worked_53 : decode cX10_worked 53 = .ok (.iload_n 2, 1) := by decide +kernel
theorem dX10_worked_54 : decode cX10_worked 54 = .ok (.iload 4, 2) := by decide +kernel
theorem dX10_worked_56 : decode cX10_worked 56 = .ok (.bipush 30, 2) := by decide +kernel
theorem dX10_worked_58 : decode cX10_worked 58 = .ok (.if_icmp .ne 7, 3) := by decide +kernel
theorem dX10_worked_61 : decode cX10_worked 61 = .ok (.iconst 1, 1) := by decide +kernel
theorem dX10_worked_62 : decode cX10_worked 62 = .ok (.goto 4, 3) := by decide +kernel
theorem dX10_worked_65 : decode cX10_worked 65 = .ok (.iconst 0, 1) := by decide +kernel
theorem dX10_worked_66 : decode cX10_worked 66 = .ok (.iastore, 1) := by decide +kernel
theorem dX10_worked_67 : decode cX10_worked 67 = .ok (.aload_n 0, 1) := by decide +kernel
theorem dX10_worked_68 : decode cX10_worked 68 = .ok (.iload_n 2, 1) := by decide +kernel
theorem dX10_worked_69 : decode cX10_worked 69 = .ok (.invokevirtual 243, 3) := by decide +kernel
theorem dX10_worked_72 : decode cX10_worked 72 = .ok (.goto 257, 3) := by decide +kernel
theorem dX10_worked_75 : decode cX10_worked 75 = .ok (.iload 4, 2) := by decide +kernel
theorem dX10_worked_77 : decode cX10_worked 77 = .ok (.bipush 20, 2) := by decide +kernel
theorem dX10_worked_79 : decode cX10_worked 79 = .ok (.if_icmp .eq 10, 3) := by decide +kernel
theorem dX10_worked_82 : decode cX10_worked 82 = .ok (.iload 4, 2) := by decide +kernel
theorem dX10_worked_84 : decode cX10_worked 84 = .ok (.bipush 21, 2) := by decide +kernel
theorem dX10_worked_86 : decode cX10_worked 86 = .ok (.if_icmp .ne 19, 3) := by decide +kernel
theorem dX10_worked_89 : decode cX10_worked 89 = .ok (.aload_n 0, 1) := by decide +kernel
theorem dX10_worked_90 : decode cX10_worked 90 = .ok (.iload_n 2, 1) := by decide +kernel
theorem dX10_worked_91 : decode cX10_worked 91 = .ok (.invokevirtual 240, 3) := by decide +kernel
theorem dX10_worked_94 : decode cX10_worked 94 = .ok (.aload_n 0, 1) := by decide +kernel
theorem dX10_worked_95 : decode cX10_worked 95 = .ok (.getfield 87, 3) := by decide +kernel
theorem dX10_worked_98 : decode cX10_worked 98 = .ok (.iload_n 2, 1) := by decide +kernel
theorem dX10_worked_99 : decode cX10_worked 99 = .ok (.iload 4, 2) := by decide +kernel
theorem dX10_worked_101 : decode cX10_worked 101 = .ok (.iastore, 1) := by decide +kernel
theorem dX10_worked_102 : decode cX10_worked 102 = .ok (.goto 227, 3) := by decide +kernel
theorem dX10_worked_105 : decode cX10_worked 105 = .ok (.iload 4, 2) := by decide +kernel
theorem dX10_worked_107 : decode cX10_worked 107 = .ok (.bipush 22, 2) := by decide +kernel
theorem dX10_worked_109 : decode cX10_worked 109 = .ok (.if_icmp .ne 14, 3) := by decide +kernel
theorem dX10_worked_112 : decode cX10_worked 112 = .ok (.aload_n 0, 1) := by decide +kernel
theorem dX10_worked_113 : decode cX10_worked 113 = .ok (.getfield 93, 3) := by decide +kernel
theorem dX10_worked_116 : decode cX10_worked 116 = .ok (.iload_n 2, 1) := by decide +kernel
theorem dX10_worked_117 : decode cX10_worked 117 = .ok (.iload 4, 2) := by decide +kernel
theorem dX10_worked_119 : decode cX10_worked 119 = .ok (.iastore, 1) := by decide +kernel
theorem dX10_worked_120 : decode cX10_worked 120 = .ok (.goto 209, 3) := by decide +kernel
theorem dX10_worked_123 : decode cX10_worked 123 = .ok (.iload 4, 2) := by decide +kernel
theorem dX10_worked_125 : decode cX10_worked 125 = .ok (.bipush 24, 2) := by decide +kernel
theorem dX10_worked_127 : decode cX10_worked 127 = .ok (.if_icmp .eq 10, 3) := by decide +kernel
theorem dX10_worked_130 : decode cX10_worked 130 = .ok (.iload 4, 2) := by decide +kernel
theorem dX10_worked_132 : decode cX10_worked 132 = .ok (.bipush 25, 2) := by decide +kernel
theorem dX10_worked_134 : decode cX10_worked 134 = .ok (.if_icmp .ne 46, 3) := by decide +kernel
theorem dX10_worked_137 : decode cX10_worked 137 = .ok (.aload_n 0, 1) := by decide +kernel
theorem dX10_worked_138 : decode cX10_worked 138 = .ok (.iload_n 2, 1) := by decide +kernel
theorem dX10_worked_139 : decode cX10_worked 139 = .ok (.invokevirtual 240, 3) := by decide +kernel
theorem dX10_worked_142 : decode cX10_worked 142 = .ok (.aload_n 0, 1) := by decide +kernel
theorem dX10_worked_143 : decode cX10_worked 143 = .ok (.getfield 78, 3) := by decide +kernel
theorem dX10_worked_146 : decode cX10_worked 146 = .ok (.iload_n 2, 1) := by decide +kernel
theorem dX10_worked_147 : decode cX10_worked 147 = .ok (.aload_n 0, 1) := by decide +kernel
theorem dX10_worked_148 : decode cX10_worked 148 = .ok (.getfield 84, 3) := by decide +kernel
theorem dX10_worked_151 : decode cX10_worked 151 = .ok (.iload_n 2, 1) := by decide +kernel
theorem dX10_worked_152 : decode cX10_worked 152 = .ok (.iaload, 1) := by decide +kernel
theorem dX10_worked_153 : decode cX10_worked 153 = .ok (.iastore, 1) := by decide +kernel
theorem dX10_worked_154 : decode cX10_worked 154 = .ok (.aload_n 0, 1) := by decide +kernel
theorem dX10_worked_155 : decode cX10_worked 155 = .ok (.getfield 81, 3) := by decide +kernel
theorem dX10_worked_158 : decode cX10_worked 158 = .ok (.iload_n 2, 1) := by decide +kernel
theorem dX10_worked_159 : decode cX10_worked 159 = .ok (.iload 4, 2) := by decide +kernel
theorem dX10_worked_161 : decode cX10_worked 161 = .ok (.iastore, 1) := by decide +kernel
theorem dX10_worked_162 : decode cX10_worked 162 = .ok (.aload_n 0, 1) := by decide +kernel
theorem dX10_worked_163 : decode cX10_worked 163 = .ok (.getfield 84, 3) := by decide +kernel
theorem dX10_worked_166 : decode cX10_worked 166 = .ok (.iload_n 2, 1) := by decide +kernel
theorem dX10_worked_167 : decode cX10_worked 167 = .ok (.iconst 0, 1) := by decide +kernel
theorem dX10_worked_168 : decode cX10_worked 168 = .ok (.iastore, 1) := by decide +kernel
theorem dX10_worked_169 : decode cX10_worked 169 = .ok (.aload_n 0, 1) := by decide +kernel
theorem dX10_worked_170 : decode cX10_worked 170 = .ok (.getfield 87, 3) := by decide +kernel
theorem dX10_worked_173 : decode cX10_worked 173 = .ok (.iload_n 2, 1) := by decide +kernel
theorem dX10_worked_174 : decode cX10_worked 174 = .ok (.bipush 20, 2) := by decide +kernel
theorem dX10_worked_176 : decode cX10_worked 176 = .ok (.iastore, 1) := by decide +kernel
theorem dX10_worked_177 : decode cX10_worked 177 = .ok (.goto 152, 3) := by decide +kernel
theorem dX10_worked_180 : decode cX10_worked 180 = .ok (.iload 4, 2) := by decide +kernel
theorem dX10_worked_182 : decode cX10_worked 182 = .ok (.bipush 26, 2) := by decide +kernel
theorem dX10_worked_184 : decode cX10_worked 184 = .ok (.if_icmp .eq 10, 3) := by decide +kernel
theorem dX10_worked_187 : decode cX10_worked 187 = .ok (.iload 4, 2) := by decide +kernel
theorem dX10_worked_189 : decode cX10_worked 189 = .ok (.bipush 27, 2) := by decide +kernel
theorem dX10_worked_191 : decode cX10_worked 191 = .ok (.if_icmp .ne 19, 3) := by decide +kernel
theorem dX10_worked_194 : decode cX10_worked 194 = .ok (.aload_n 0, 1) := by decide +kernel
theorem dX10_worked_195 : decode cX10_worked 195 = .ok (.iload_n 2, 1) := by decide +kernel
theorem dX10_worked_196 : decode cX10_worked 196 = .ok (.invokevirtual 246, 3) := by decide +kernel
theorem dX10_worked_199 : decode cX10_worked 199 = .ok (.aload_n 0, 1) := by decide +kernel
theorem dX10_worked_200 : decode cX10_worked 200 = .ok (.getfield 75, 3) := by decide +kernel
theorem dX10_worked_203 : decode cX10_worked 203 = .ok (.iload_n 2, 1) := by decide +kernel
theorem dX10_worked_204 : decode cX10_worked 204 = .ok (.iload 4, 2) := by decide +kernel
theorem dX10_worked_206 : decode cX10_worked 206 = .ok (.iastore, 1) := by decide +kernel
theorem dX10_worked_207 : decode cX10_worked 207 = .ok (.goto 122, 3) := by decide +kernel
theorem dX10_worked_210 : decode cX10_worked 210 = .ok (.iload 4, 2) := by decide +kernel
theorem dX10_worked_212 : decode cX10_worked 212 = .ok (.bipush 100, 2) := by decide +kernel
theorem dX10_worked_214 : decode cX10_worked 214 = .ok (.if_icmp .lt 11, 3) := by decide +kernel
theorem dX10_worked_217 : decode cX10_worked 217 = .ok (.iload 4, 2) := by decide +kernel
theorem dX10_worked_219 : decode cX10_worked 219 = .ok (.bipush 100, 2) := by decide +kernel
theorem dX10_worked_221 : decode cX10_worked 221 = .ok (.isub, 1) := by decide +kernel
theorem dX10_worked_222 : decode cX10_worked 222 = .ok (.goto 21, 3) := by decide +kernel
theorem dX10_worked_225 : decode cX10_worked 225 = .ok (.iload 4, 2) := by decide +kernel
theorem dX10_worked_227 : decode cX10_worked 227 = .ok (.bipush 20, 2) := by decide +kernel
theorem dX10_worked_229 : decode cX10_worked 229 = .ok (.if_icmp .ge 13, 3) := by decide +kernel
theorem dX10_worked_232 : decode cX10_worked 232 = .ok (.aload_n 0, 1) := by decide +kernel
theorem dX10_worked_233 : decode cX10_worked 233 = .ok (.getfield 99, 3) := by decide +kernel
theorem dX10_worked_236 : decode cX10_worked 236 = .ok (.iload 4, 2) := by decide +kernel
theorem dX10_worked_238 : decode cX10_worked 238 = .ok (.iaload, 1) := by decide +kernel
theorem dX10_worked_239 : decode cX10_worked 239 = .ok (.goto 4, 3) := by decide +kernel
theorem dX10_worked_242 : decode cX10_worked 242 = .ok (.iconst 0, 1) := by decide +kernel
theorem dX10_worked_243 : decode cX10_worked 243 = .ok (.istore 5, 2) := by decide +kernel
theorem dX10_worked_245 : decode cX10_worked 245 = .ok (.iload 4, 2) := by decide +kernel
theorem dX10_worked_247 : decode cX10_worked 247 = .ok (.bipush 29, 2) := by decide +kernel
theorem dX10_worked_249 : decode cX10_worked 249 = .ok (.if_icmp .ne 19, 3) := by decide +kernel
theorem dX10_worked_252 : decode cX10_worked 252 = .ok (.aload_n 0, 1) := by decide +kernel
theorem dX10_worked_253 : decode cX10_worked 253 = .ok (.iload_n 2, 1) := by decide +kernel
theorem dX10_worked_254 : decode cX10_worked 254 = .ok (.invokevirtual 246, 3) := by decide +kernel
theorem dX10_worked_257 : decode cX10_worked 257 = .ok (.aload_n 0, 1) := by decide +kernel
theorem dX10_worked_258 : decode cX10_worked 258 = .ok (.getfield 72, 3) := by decide +kernel
theorem dX10_worked_261 : decode cX10_worked 261 = .ok (.iload_n 2, 1) := by decide +kernel
theorem dX10_worked_262 : decode cX10_worked 262 = .ok (.iaload, 1) := by decide +kernel
theorem dX10_worked_263 : decode cX10_worked 263 = .ok (.istore 5, 2) := by decide +kernel
theorem dX10_worked_265 : decode cX10_worked 265 = .ok (.iinc 2 (-1), 3) := by decide +kernel
theorem dX10_worked_268 : decode cX10_worked 268 = .ok (.iload_n 2, 1) := by decide +kernel
theorem dX10_worked_269 : decode cX10_worked 269 = .ok (.ifCond .le 31, 3) := by decide +kernel
theorem dX10_worked_272 : decode cX10_worked 272 = .ok (.aload_n 0, 1) := by decide +kernel
theorem dX10_worked_273 : decode cX10_worked 273 = .ok (.getfield 96, 3) := by decide +kernel
theorem dX10_worked_276 : decode cX10_worked 276 = .ok (.iload_n 2, 1) := by decide +kernel
theorem dX10_worked_277 : decode cX10_worked 277 = .ok (.iaload, 1) := by decide +kernel
theorem dX10_worked_278 : decode cX10_worked 278 = .ok (.iconst 1, 1) := by decide +kernel
theorem dX10_worked_279 : decode cX10_worked 279 = .ok (.if_icmp .ne 21, 3) := by decide +kernel
theorem dX10_worked_282 : decode cX10_worked 282 = .ok (.iload 5, 2) := by decide +kernel
theorem dX10_worked_284 : decode cX10_worked 284 = .ok (.ifCond .ne 7, 3) := by decide +kernel
theorem dX10_worked_287 : decode cX10_worked 287 = .ok (.iconst 1, 1) := by decide +kernel
theorem dX10_worked_288 : decode cX10_worked 288 = .ok (.goto 4, 3) := by decide +kernel
theorem dX10_worked_291 : decode cX10_worked 291 = .ok (.iconst 0, 1) := by decide +kernel
theorem dX10_worked_292 : decode cX10_worked 292 = .ok (.istore 5, 2) := by decide +kernel
theorem dX10_worked_294 : decode cX10_worked 294 = .ok (.iinc 2 (-1), 3) := by decide +kernel
theorem dX10_worked_297 : decode cX10_worked 297 = .ok (.goto (-29), 3) := by decide +kernel
theorem dX10_worked_300 : decode cX10_worked 300 = .ok (.aload_n 0, 1) := by decide +kernel
theorem dX10_worked_301 : decode cX10_worked 301 = .ok (.getfield 90, 3) := by decide +kernel
theorem dX10_worked_304 : decode cX10_worked 304 = .ok (.iload_n 2, 1) := by decide +kernel
theorem dX10_worked_305 : decode cX10_worked 305 = .ok (.aload_n 0, 1) := by decide +kernel
theorem dX10_worked_306 : decode cX10_worked 306 = .ok (.getfield 93, 3) := by decide +kernel
theorem dX10_worked_309 : decode cX10_worked 309 = .ok (.iload_n 2, 1) := by decide +kernel
theorem dX10_worked_310 : decode cX10_worked 310 = .ok (.iaload, 1) := by decide +kernel
theorem dX10_worked_311 : decode cX10_worked 311 = .ok (.ifCond .ne 8, 3) := by decide +kernel
theorem dX10_worked_314 : decode cX10_worked 314 = .ok (.iload 5, 2) := by decide +kernel
theorem dX10_worked_316 : decode cX10_worked 316 = .ok (.goto 12, 3) := by decide +kernel
theorem dX10_worked_319 : decode cX10_worked 319 = .ok (.aload_n 0, 1) := by decide +kernel
theorem dX10_worked_320 : decode cX10_worked 320 = .ok (.getfield 90, 3) := by decide +kernel
theorem dX10_worked_323 : decode cX10_worked 323 = .ok (.iload_n 2, 1) := by decide +kernel
theorem dX10_worked_324 : decode cX10_worked 324 = .ok (.iaload, 1) := by decide +kernel
theorem dX10_worked_325 : decode cX10_worked 325 = .ok (.iload 5, 2) := by decide +kernel
theorem dX10_worked_327 : decode cX10_worked 327 = .ok (.imul, 1) := by decide +kernel
theorem dX10_worked_328 : decode cX10_worked 328 = .ok (.iastore, 1) := by decide +kernel
theorem dX10_worked_329 : decode cX10_worked 329 = .ok (.iinc 3 1, 3) := by decide +kernel
theorem dX10_worked_332 : decode cX10_worked 332 = .ok (.goto (-318), 3) := by decide +kernel
theorem dX10_worked_335 : decode cX10_worked 335 = .ok (.aload_n 0, 1) := by decide +kernel
theorem dX10_worked_336 : decode cX10_worked 336 = .ok (.iconst 0, 1) := by decide +kernel
theorem dX10_worked_337 : decode cX10_worked 337 = .ok (.invokevirtual 246, 3) := by decide +kernel
theorem dX10_worked_340 : decode cX10_worked 340 = .ok (.aload_n 0, 1) := by decide +kernel
theorem dX10_worked_341 : decode cX10_worked 341 = .ok (.getfield 72, 3) := by decide +kernel
theorem dX10_worked_344 : decode cX10_worked 344 = .ok (.iconst 0, 1) := by decide +kernel
theorem dX10_worked_345 : decode cX10_worked 345 = .ok (.iaload, 1) := by decide +kernel
theorem dX10_worked_346 : decode cX10_worked 346 = .ok (.ireturn, 1) := by decide +kernel
theorem dX10_isKept_0 : decode cX10_isKept 0 = .ok (.aload_n 0, 1) := by decide +kernel
theorem dX10_isKept_1 : decode cX10_isKept 1 = .ok (.getfield 187, 3) := by decide +kernel
theorem dX10_isKept_4 : decode cX10_isKept 4 = .ok (.iconst 1, 1) := by decide +kernel
theorem dX10_isKept_5 : decode cX10_isKept 5 = .ok (.if_icmp .eq 5, 3) := by decide +kernel
theorem dX10_isKept_8 : decode cX10_isKept 8 = .ok (.iconst 1, 1) := by decide +kernel
theorem dX10_isKept_9 : decode cX10_isKept 9 = .ok (.ireturn, 1) := by decide +kernel
theorem dX10_isKept_10 : decode cX10_isKept 10 = .ok (.aload_n 0, 1) := by decide +kernel
theorem dX10_isKept_11 : decode cX10_isKept 11 = .ok (.getfield 180, 3) := by decide +kernel
theorem dX10_isKept_14 : decode cX10_isKept 14 = .ok (.ldc2_w 249, 3) := by decide +kernel
theorem dX10_isKept_17 : decode cX10_isKept 17 = .ok (.lcmp, 1) := by decide +kernel
theorem dX10_isKept_18 : decode cX10_isKept 18 = .ok (.ifCond .eq 245, 3) := by decide +kernel
theorem dX10_isKept_21 : decode cX10_isKept 21 = .ok (.aload_n 0, 1) := by decide +kernel
theorem dX10_isKept_22 : decode cX10_isKept 22 = .ok (.getfield 180, 3) := by decide +kernel
theorem dX10_isKept_25 : decode cX10_isKept 25 = .ok (.ldc2_w 251, 3) := by decide +kernel
theorem dX10_isKept_28 : decode cX10_isKept 28 = .ok (.lcmp, 1) := by decide +kernel
theorem dX10_isKept_29 : decode cX10_isKept 29 = .ok (.ifCond .eq 234, 3) := by decide +kernel
theorem dX10_isKept_32 : decode cX10_isKept 32 = .ok (.aload_n 0, 1) := by decide +kernel
theorem dX10_isKept_33 : decode cX10_isKept 33 = .ok (.getfield 180, 3) := by decide +kernel
theorem dX10_isKept_36 : decode cX10_isKept 36 = .ok (.ldc2_w 253, 3) := by decide +kernel
theorem dX10_isKept_39 : decode cX10_isKept 39 = .ok (.lcmp, 1) := by decide +kernel
theorem dX10_isKept_40 : decode cX10_isKept 40 = .ok (.ifCond .eq 223, 3) := by decide +kernel
theorem dX10_isKept_43 : decode cX10_isKept 43 = .ok (.aload_n 0, 1) := by decide +kernel
theorem dX10_isKept_44 : decode cX10_isKept 44 = .ok (.getfield 180, 3) := by decide +kernel
theorem dX10_isKept_47 : decode cX10_isKept 47 = .ok (.ldc2_w 255, 3) := by decide +kernel
theorem dX10_isKept_50 : decode cX10_isKept 50 = .ok (.lcmp, 1) := by decide +kernel
theorem dX10_isKept_51 : decode cX10_isKept 51 = .ok (.ifCond .eq 212, 3) := by decide +kernel
theorem dX10_isKept_54 : decode cX10_isKept 54 = .ok (.aload_n 0, 1) := by decide +kernel
theorem dX10_isKept_55 : decode cX10_isKept 55 = .ok (.getfield 180, 3) := by decide +kernel
theorem dX10_isKept_58 : decode cX10_isKept 58 = .ok (.ldc2_w 257, 3) := by decide +kernel
theorem dX10_isKept_61 : decode cX10_isKept 61 = .ok (.lcmp, 1) := by decide +kernel
theorem dX10_isKept_62 : decode cX10_isKept 62 = .ok (.ifCond .eq 201, 3) := by decide +kernel
theorem dX10_isKept_65 : decode cX10_isKept 65 = .ok (.aload_n 0, 1) := by decide +kernel
theorem dX10_isKept_66 : decode cX10_isKept 66 = .ok (.getfield 180, 3) := by decide +kernel
theorem dX10_isKept_69 : decode cX10_isKept 69 = .ok (.ldc2_w 259, 3) := by decide +kernel
theorem dX10_isKept_72 : decode cX10_isKept 72 = .ok (.lcmp, 1) := by decide +kernel
theorem dX10_isKept_73 : decode cX10_isKept 73 = .ok (.ifCond .eq 190, 3) := by decide +kernel
theorem dX10_isKept_76 : decode cX10_isKept 76 = .ok (.aload_n 0, 1) := by decide +kernel
theorem dX10_isKept_77 : decode cX10_isKept 77 = .ok (.getfield 180, 3) := by decide +kernel
theorem dX10_isKept_80 : decode cX10_isKept 80 = .ok (.ldc2_w 261, 3) := by decide +kernel
theorem dX10_isKept_83 : decode cX10_isKept 83 = .ok (.lcmp, 1) := by decide +kernel
theorem dX10_isKept_84 : decode cX10_isKept 84 = .ok (.ifCond .eq 179, 3) := by decide +kernel
theorem dX10_isKept_87 : decode cX10_isKept 87 = .ok (.aload_n 0, 1) := by decide +kernel
theorem dX10_isKept_88 : decode cX10_isKept 88 = .ok (.getfield 180, 3) := by decide +kernel
theorem dX10_isKept_91 : decode cX10_isKept 91 = .ok (.ldc2_w 263, 3) := by decide +kernel
theorem dX10_isKept_94 : decode cX10_isKept 94 = .ok (.lcmp, 1) := by decide +kernel
theorem dX10_isKept_95 : decode cX10_isKept 95 = .ok (.ifCond .eq 168, 3) := by decide +kernel
theorem dX10_isKept_98 : decode cX10_isKept 98 = .ok (.aload_n 0, 1) := by decide +kernel
theorem dX10_isKept_99 : decode cX10_isKept 99 = .ok (.getfield 180, 3) := by decide +kernel
theorem dX10_isKept_102 : decode cX10_isKept 102 = .ok (.ldc2_w 265, 3) := by decide +kernel
theorem dX10_isKept_105 : decode cX10_isKept 105 = .ok (.lcmp, 1) := by decide +kernel
theorem dX10_isKept_106 : decode cX10_isKept 106 = .ok (.ifCond .eq 157, 3) := by decide +kernel
theorem dX10_isKept_109 : decode cX10_isKept 109 = .ok (.aload_n 0, 1) := by decide +kernel
theorem dX10_isKept_110 : decode cX10_isKept 110 = .ok (.getfield 180, 3) := by decide +kernel
theorem dX10_isKept_113 : decode cX10_isKept 113 = .ok (.ldc2_w 267, 3) := by decide +kernel
theorem dX10_isKept_116 : decode cX10_isKept 116 = .ok (.lcmp, 1) := by decide +kernel
theorem dX10_isKept_117 : decode cX10_isKept 117 = .ok (.ifCond .eq 146, 3) := by decide +kernel
theorem dX10_isKept_120 : decode cX10_isKept 120 = .ok (.aload_n 0, 1) := by decide +kernel
theorem dX10_isKept_121 : decode cX10_isKept 121 = .ok (.getfield 180, 3) := by decide +kernel
theorem dX10_isKept_124 : decode cX10_isKept 124 = .ok (.ldc2_w 269, 3) := by decide +kernel
theorem dX10_isKept_127 : decode cX10_isKept 127 = .ok (.lcmp, 1) := by decide +kernel
theorem dX10_isKept_128 : decode cX10_isKept 128 = .ok (.ifCond .eq 135, 3) := by decide +kernel
theorem dX10_isKept_131 : decode cX10_isKept 131 = .ok (.aload_n 0, 1) := by decide +kernel
theorem dX10_isKept_132 : decode cX10_isKept 132 = .ok (.getfield 180, 3) := by decide +kernel
theorem dX10_isKept_135 : decode cX10_isKept 135 = .ok (.ldc2_w 271, 3) := by decide +kernel
theorem dX10_isKept_138 : decode cX10_isKept 138 = .ok (.lcmp, 1) := by decide +kernel
theorem dX10_isKept_139 : decode cX10_isKept 139 = .ok (.ifCond .eq 124, 3) := by decide +kernel
theorem dX10_isKept_142 : decode cX10_isKept 142 = .ok (.aload_n 0, 1) := by decide +kernel
theorem dX10_isKept_143 : decode cX10_isKept 143 = .ok (.getfield 180, 3) := by decide +kernel
theorem dX10_isKept_146 : decode cX10_isKept 146 = .ok (.ldc2_w 273, 3) := by decide +kernel
theorem dX10_isKept_149 : decode cX10_isKept 149 = .ok (.lcmp, 1) := by decide +kernel
theorem dX10_isKept_150 : decode cX10_isKept 150 = .ok (.ifCond .eq 113, 3) := by decide +kernel
theorem dX10_isKept_153 : decode cX10_isKept 153 = .ok (.aload_n 0, 1) := by decide +kernel
theorem dX10_isKept_154 : decode cX10_isKept 154 = .ok (.getfield 180, 3) := by decide +kernel
theorem dX10_isKept_157 : decode cX10_isKept 157 = .ok (.ldc2_w 275, 3) := by decide +kernel
theorem dX10_isKept_160 : decode cX10_isKept 160 = .ok (.lcmp, 1) := by decide +kernel
theorem dX10_isKept_161 : decode cX10_isKept 161 = .ok (.ifCond .eq 102, 3) := by decide +kernel
theorem dX10_isKept_164 : decode cX10_isKept 164 = .ok (.aload_n 0, 1) := by decide +kernel
theorem dX10_isKept_165 : decode cX10_isKept 165 = .ok (.getfield 180, 3) := by decide +kernel
theorem dX10_isKept_168 : decode cX10_isKept 168 = .ok (.ldc2_w 277, 3) := by decide +kernel
theorem dX10_isKept_171 : decode cX10_isKept 171 = .ok (.lcmp, 1) := by decide +kernel
theorem dX10_isKept_172 : decode cX10_isKept 172 = .ok (.ifCond .eq 91, 3) := by decide +kernel
theorem dX10_isKept_175 : decode cX10_isKept 175 = .ok (.aload_n 0, 1) := by decide +kernel
theorem dX10_isKept_176 : decode cX10_isKept 176 = .ok (.getfield 180, 3) := by decide +kernel
theorem dX10_isKept_179 : decode cX10_isKept 179 = .ok (.ldc2_w 279, 3) := by decide +kernel
theorem dX10_isKept_182 : decode cX10_isKept 182 = .ok (.lcmp, 1) := by decide +kernel
theorem dX10_isKept_183 : decode cX10_isKept 183 = .ok (.ifCond .eq 80, 3) := by decide +kernel
theorem dX10_isKept_186 : decode cX10_isKept 186 = .ok (.aload_n 0, 1) := by decide +kernel
theorem dX10_isKept_187 : decode cX10_isKept 187 = .ok (.getfield 180, 3) := by decide +kernel
theorem dX10_isKept_190 : decode cX10_isKept 190 = .ok (.ldc2_w 281, 3) := by decide +kernel
theorem dX10_isKept_193 : decode cX10_isKept 193 = .ok (.lcmp, 1) := by decide +kernel
theorem dX10_isKept_194 : decode cX10_isKept 194 = .ok (.ifCond .eq 69, 3) := by decide +kernel
theorem dX10_isKept_197 : decode cX10_isKept 197 = .ok (.aload_n 0, 1) := by decide +kernel
theorem dX10_isKept_198 : decode cX10_isKept 198 = .ok (.getfield 180, 3) := by decide +kernel
theorem dX10_isKept_201 : decode cX10_isKept 201 = .ok (.ldc2_w 283, 3) := by decide +kernel
theorem dX10_isKept_204 : decode cX10_isKept 204 = .ok (.lcmp, 1) := by decide +kernel
theorem dX10_isKept_205 : decode cX10_isKept 205 = .ok (.ifCond .eq 58, 3) := by decide +kernel
theorem dX10_isKept_208 : decode cX10_isKept 208 = .ok (.aload_n 0, 1) := by decide +kernel
theorem dX10_isKept_209 : decode cX10_isKept 209 = .ok (.getfield 180, 3) := by decide +kernel
theorem dX10_isKept_212 : decode cX10_isKept 212 = .ok (.ldc2_w 285, 3) := by decide +kernel
theorem dX10_isKept_215 : decode cX10_isKept 215 = .ok (.lcmp, 1) := by decide +kernel
theorem dX10_isKept_216 : decode cX10_isKept 216 = .ok (.ifCond .eq 47, 3) := by decide +kernel
theorem dX10_isKept_219 : decode cX10_isKept 219 = .ok (.aload_n 0, 1) := by decide +kernel
theorem dX10_isKept_220 : decode cX10_isKept 220 = .ok (.getfield 180, 3) := by decide +kernel
theorem dX10_isKept_223 : decode cX10_isKept 223 = .ok (.ldc2_w 287, 3) := by decide +kernel
theorem dX10_isKept_226 : decode cX10_isKept 226 = .ok (.lcmp, 1) := by decide +kernel
theorem dX10_isKept_227 : decode cX10_isKept 227 = .ok (.ifCond .eq 36, 3) := by decide +kernel
theorem dX10_isKept_230 : decode cX10_isKept 230 = .ok (.aload_n 0, 1) := by decide +kernel
theorem dX10_isKept_231 : decode cX10_isKept 231 = .ok (.getfield 180, 3) := by decide +kernel
theorem dX10_isKept_234 : decode cX10_isKept 234 = .ok (.ldc2_w 216, 3) := by decide +kernel
theorem dX10_isKept_237 : decode cX10_isKept 237 = .ok (.lcmp, 1) := by decide +kernel
theorem dX10_isKept_238 : decode cX10_isKept 238 = .ok (.ifCond .eq 25, 3) := by decide +kernel
theorem dX10_isKept_241 : decode cX10_isKept 241 = .ok (.aload_n 0, 1) := by decide +kernel
theorem dX10_isKept_242 : decode cX10_isKept 242 = .ok (.getfield 180, 3) := by decide +kernel
theorem dX10_isKept_245 : decode cX10_isKept 245 = .ok (.ldc2_w 236, 3) := by decide +kernel
theorem dX10_isKept_248 : decode cX10_isKept 248 = .ok (.lcmp, 1) := by decide +kernel
theorem dX10_isKept_249 : decode cX10_isKept 249 = .ok (.ifCond .eq 14, 3) := by decide +kernel
theorem dX10_isKept_252 : decode cX10_isKept 252 = .ok (.aload_n 0, 1) := by decide +kernel
theorem dX10_isKept_253 : decode cX10_isKept 253 = .ok (.getfield 180, 3) := by decide +kernel
theorem dX10_isKept_256 : decode cX10_isKept 256 = .ok (.ldc2_w 238, 3) := by decide +kernel
theorem dX10_isKept_259 : decode cX10_isKept 259 = .ok (.lcmp, 1) := by decide +kernel
theorem dX10_isKept_260 : decode cX10_isKept 260 = .ok (.ifCond .ne 7, 3) := by decide +kernel
theorem dX10_isKept_263 : decode cX10_isKept 263 = .ok (.iconst 1, 1) := by decide +kernel
theorem dX10_isKept_264 : decode cX10_isKept 264 = .ok (.goto 4, 3) := by decide +kernel
theorem dX10_isKept_267 : decode cX10_isKept 267 = .ok (.iconst 0, 1) := by decide +kernel
theorem dX10_isKept_268 : decode cX10_isKept 268 = .ok (.ireturn, 1) := by decide +kernel
theorem dX10_namedIn_0 : decode cX10_namedIn 0 = .ok (.iload_n 2, 1) := by decide +kernel
theorem dX10_namedIn_1 : decode cX10_namedIn 1 = .ok (.istore 4, 2) := by decide +kernel
theorem dX10_namedIn_3 : decode cX10_namedIn 3 = .ok (.iload 4, 2) := by decide +kernel
theorem dX10_namedIn_5 : decode cX10_namedIn 5 = .ok (.iload_n 2, 1) := by decide +kernel
theorem dX10_namedIn_6 : decode cX10_namedIn 6 = .ok (.iload_n 3, 1) := by decide +kernel
theorem dX10_namedIn_7 : decode cX10_namedIn 7 = .ok (.iadd, 1) := by decide +kernel
theorem dX10_namedIn_8 : decode cX10_namedIn 8 = .ok (.if_icmp .ge 26, 3) := by decide +kernel
theorem dX10_namedIn_11 : decode cX10_namedIn 11 = .ok (.aload_n 1, 1) := by decide +kernel
theorem dX10_namedIn_12 : decode cX10_namedIn 12 = .ok (.iload 4, 2) := by decide +kernel
theorem dX10_namedIn_14 : decode cX10_namedIn 14 = .ok (.laload, 1) := by decide +kernel
theorem dX10_namedIn_15 : decode cX10_namedIn 15 = .ok (.aload_n 0, 1) := by decide +kernel
theorem dX10_namedIn_16 : decode cX10_namedIn 16 = .ok (.getfield 180, 3) := by decide +kernel
theorem dX10_namedIn_19 : decode cX10_namedIn 19 = .ok (.lcmp, 1) := by decide +kernel
theorem dX10_namedIn_20 : decode cX10_namedIn 20 = .ok (.ifCond .ne 8, 3) := by decide +kernel
theorem dX10_namedIn_23 : decode cX10_namedIn 23 = .ok (.iload 4, 2) := by decide +kernel
theorem dX10_namedIn_25 : decode cX10_namedIn 25 = .ok (.iload_n 2, 1) := by decide +kernel
theorem dX10_namedIn_26 : decode cX10_namedIn 26 = .ok (.isub, 1) := by decide +kernel
theorem dX10_namedIn_27 : decode cX10_namedIn 27 = .ok (.ireturn, 1) := by decide +kernel
theorem dX10_namedIn_28 : decode cX10_namedIn 28 = .ok (.iinc 4 1, 3) := by decide +kernel
theorem dX10_namedIn_31 : decode cX10_namedIn 31 = .ok (.goto (-28), 3) := by decide +kernel
theorem dX10_namedIn_34 : decode cX10_namedIn 34 = .ok (.iconst (-1), 1) := by decide +kernel
theorem dX10_namedIn_35 : decode cX10_namedIn 35 = .ok (.ireturn, 1) := by decide +kernel
theorem dX10_placeNamed_0 : decode cX10_placeNamed 0 = .ok (.aload_n 0, 1) := by decide +kernel
theorem dX10_placeNamed_1 : decode cX10_placeNamed 1 = .ok (.aload_n 0, 1) := by decide +kernel
theorem dX10_placeNamed_2 : decode cX10_placeNamed 2 = .ok (.getfield 16, 3) := by decide +kernel
theorem dX10_placeNamed_5 : decode cX10_placeNamed 5 = .ok (.bipush 7, 2) := by decide +kernel
theorem dX10_placeNamed_7 : decode cX10_placeNamed 7 = .ok (.iload_n 1, 1) := by decide +kernel
theorem dX10_placeNamed_8 : decode cX10_placeNamed 8 = .ok (.imul, 1) := by decide +kernel
theorem dX10_placeNamed_9 : decode cX10_placeNamed 9 = .ok (.aload_n 0, 1) := by decide +kernel
theorem dX10_placeNamed_10 : decode cX10_placeNamed 10 = .ok (.getfield 13, 3) := by decide +kernel
theorem dX10_placeNamed_13 : decode cX10_placeNamed 13 = .ok (.bipush 6, 2) := by decide +kernel
theorem dX10_placeNamed_15 : decode cX10_placeNamed 15 = .ok (.iload_n 1, 1) := by decide +kernel
theorem dX10_placeNamed_16 : decode cX10_placeNamed 16 = .ok (.imul, 1) := by decide +kernel
theorem dX10_placeNamed_17 : decode cX10_placeNamed 17 = .ok (.iconst 0, 1) := by decide +kernel
theorem dX10_placeNamed_18 : decode cX10_placeNamed 18 = .ok (.iadd, 1) := by decide +kernel
theorem dX10_placeNamed_19 : decode cX10_placeNamed 19 = .ok (.iaload, 1) := by decide +kernel
theorem dX10_placeNamed_20 : decode cX10_placeNamed 20 = .ok (.invokevirtual 289, 3) := by decide +kernel
theorem dX10_placeNamed_23 : decode cX10_placeNamed 23 = .ok (.ireturn, 1) := by decide +kernel
theorem dX10_personNamed_0 : decode cX10_personNamed 0 = .ok (.aload_n 0, 1) := by decide +kernel
theorem dX10_personNamed_1 : decode cX10_personNamed 1 = .ok (.aload_n 0, 1) := by decide +kernel
theorem dX10_personNamed_2 : decode cX10_personNamed 2 = .ok (.getfield 20, 3) := by decide +kernel
theorem dX10_personNamed_5 : decode cX10_personNamed 5 = .ok (.iconst 5, 1) := by decide +kernel
theorem dX10_personNamed_6 : decode cX10_personNamed 6 = .ok (.iload_n 1, 1) := by decide +kernel
theorem dX10_personNamed_7 : decode cX10_personNamed 7 = .ok (.imul, 1) := by decide +kernel
theorem dX10_personNamed_8 : decode cX10_personNamed 8 = .ok (.aload_n 0, 1) := by decide +kernel
theorem dX10_personNamed_9 : decode cX10_personNamed 9 = .ok (.getfield 13, 3) := by decide +kernel
theorem dX10_personNamed_12 : decode cX10_personNamed 12 = .ok (.bipush 6, 2) := by decide +kernel
theorem dX10_personNamed_14 : decode cX10_personNamed 14 = .ok (.iload_n 1, 1) := by decide +kernel
theorem dX10_personNamed_15 : decode cX10_personNamed 15 = .ok (.imul, 1) := by decide +kernel
theorem dX10_personNamed_16 : decode cX10_personNamed 16 = .ok (.iconst 2, 1) := by decide +kernel
theorem dX10_personNamed_17 : decode cX10_personNamed 17 = .ok (.iadd, 1) := by decide +kernel
theorem dX10_personNamed_18 : decode cX10_personNamed 18 = .ok (.iaload, 1) := by decide +kernel
theorem dX10_personNamed_19 : decode cX10_personNamed 19 = .ok (.invokevirtual 289, 3) := by decide +kernel
theorem dX10_personNamed_22 : decode cX10_personNamed 22 = .ok (.ireturn, 1) := by decide +kernel
theorem dX10_otterNamed_0 : decode cX10_otterNamed 0 = .ok (.aload_n 0, 1) := by decide +kernel
theorem dX10_otterNamed_1 : decode cX10_otterNamed 1 = .ok (.aload_n 0, 1) := by decide +kernel
theorem dX10_otterNamed_2 : decode cX10_otterNamed 2 = .ok (.getfield 23, 3) := by decide +kernel
theorem dX10_otterNamed_5 : decode cX10_otterNamed 5 = .ok (.iconst 3, 1) := by decide +kernel
theorem dX10_otterNamed_6 : decode cX10_otterNamed 6 = .ok (.iload_n 1, 1) := by decide +kernel
theorem dX10_otterNamed_7 : decode cX10_otterNamed 7 = .ok (.imul, 1) := by decide +kernel
theorem dX10_otterNamed_8 : decode cX10_otterNamed 8 = .ok (.aload_n 0, 1) := by decide +kernel
theorem dX10_otterNamed_9 : decode cX10_otterNamed 9 = .ok (.getfield 13, 3) := by decide +kernel
theorem dX10_otterNamed_12 : decode cX10_otterNamed 12 = .ok (.bipush 6, 2) := by decide +kernel
theorem dX10_otterNamed_14 : decode cX10_otterNamed 14 = .ok (.iload_n 1, 1) := by decide +kernel
theorem dX10_otterNamed_15 : decode cX10_otterNamed 15 = .ok (.imul, 1) := by decide +kernel
theorem dX10_otterNamed_16 : decode cX10_otterNamed 16 = .ok (.iconst 3, 1) := by decide +kernel
theorem dX10_otterNamed_17 : decode cX10_otterNamed 17 = .ok (.iadd, 1) := by decide +kernel
theorem dX10_otterNamed_18 : decode cX10_otterNamed 18 = .ok (.iaload, 1) := by decide +kernel
theorem dX10_otterNamed_19 : decode cX10_otterNamed 19 = .ok (.invokevirtual 289, 3) := by decide +kernel
theorem dX10_otterNamed_22 : decode cX10_otterNamed 22 = .ok (.ireturn, 1) := by decide +kernel
theorem dX10_writNamed_0 : decode cX10_writNamed 0 = .ok (.aload_n 0, 1) := by decide +kernel
theorem dX10_writNamed_1 : decode cX10_writNamed 1 = .ok (.aload_n 0, 1) := by decide +kernel
theorem dX10_writNamed_2 : decode cX10_writNamed 2 = .ok (.getfield 26, 3) := by decide +kernel
theorem dX10_writNamed_5 : decode cX10_writNamed 5 = .ok (.bipush 6, 2) := by decide +kernel
theorem dX10_writNamed_7 : decode cX10_writNamed 7 = .ok (.iload_n 1, 1) := by decide +kernel
theorem dX10_writNamed_8 : decode cX10_writNamed 8 = .ok (.imul, 1) := by decide +kernel
theorem dX10_writNamed_9 : decode cX10_writNamed 9 = .ok (.aload_n 0, 1) := by decide +kernel
theorem dX10_writNamed_10 : decode cX10_writNamed 10 = .ok (.getfield 13, 3) := by decide +kernel
theorem dX10_writNamed_13 : decode cX10_writNamed 13 = .ok (.bipush 6, 2) := by decide +kernel
theorem dX10_writNamed_15 : decode cX10_writNamed 15 = .ok (.iload_n 1, 1) := by decide +kernel
theorem dX10_writNamed_16 : decode cX10_writNamed 16 = .ok (.imul, 1) := by decide +kernel
theorem dX10_writNamed_17 : decode cX10_writNamed 17 = .ok (.iconst 4, 1) := by decide +kernel
theorem dX10_writNamed_18 : decode cX10_writNamed 18 = .ok (.iadd, 1) := by decide +kernel
theorem dX10_writNamed_19 : decode cX10_writNamed 19 = .ok (.iaload, 1) := by decide +kernel
theorem dX10_writNamed_20 : decode cX10_writNamed 20 = .ok (.invokevirtual 289, 3) := by decide +kernel
theorem dX10_writNamed_23 : decode cX10_writNamed 23 = .ok (.ireturn, 1) := by decide +kernel
theorem dX10_needsNumber_0 : decode cX10_needsNumber 0 = .ok (.aload_n 0, 1) := by decide +kernel
theorem dX10_needsNumber_1 : decode cX10_needsNumber 1 = .ok (.getfield 187, 3) := by decide +kernel
theorem dX10_needsNumber_4 : decode cX10_needsNumber 4 = .ok (.iconst 2, 1) := by decide +kernel
theorem dX10_needsNumber_5 : decode cX10_needsNumber 5 = .ok (.if_icmp .eq 9, 3) := by decide +kernel
theorem dX10_needsNumber_8 : decode cX10_needsNumber 8 = .ok (.aload_n 0, 1) := by decide +kernel
theorem dX10_needsNumber_9 : decode cX10_needsNumber 9 = .ok (.iconst 1, 1) := by decide +kernel
theorem dX10_needsNumber_10 : decode cX10_needsNumber 10 = .ok (.invokevirtual 226, 3) := by decide +kernel
theorem dX10_needsNumber_13 : decode cX10_needsNumber 13 = .ok (.ireturn, 1) := by decide +kernel
theorem dX10_needsNumber_14 : decode cX10_needsNumber 14 = .ok (.aload_n 0, 1) := by decide +kernel
theorem dX10_needsNumber_15 : decode cX10_needsNumber 15 = .ok (.getfield 184, 3) := by decide +kernel
theorem dX10_needsNumber_18 : decode cX10_needsNumber 18 = .ok (.iload_n 1, 1) := by decide +kernel
theorem dX10_needsNumber_19 : decode cX10_needsNumber 19 = .ok (.iload_n 2, 1) := by decide +kernel
theorem dX10_needsNumber_20 : decode cX10_needsNumber 20 = .ok (.invokestatic 293, 3) := by decide +kernel
theorem dX10_needsNumber_23 : decode cX10_needsNumber 23 = .ok (.ifCond .ne 9, 3) := by decide +kernel
theorem dX10_needsNumber_26 : decode cX10_needsNumber 26 = .ok (.aload_n 0, 1) := by decide +kernel
theorem dX10_needsNumber_27 : decode cX10_needsNumber 27 = .ok (.iconst 4, 1) := by decide +kernel
theorem dX10_needsNumber_28 : decode cX10_needsNumber 28 = .ok (.invokevirtual 226, 3) := by decide +kernel
theorem dX10_needsNumber_31 : decode cX10_needsNumber 31 = .ok (.ireturn, 1) := by decide +kernel
theorem dX10_needsNumber_32 : decode cX10_needsNumber 32 = .ok (.aload_n 0, 1) := by decide +kernel
theorem dX10_needsNumber_33 : decode cX10_needsNumber 33 = .ok (.aload_n 0, 1) := by decide +kernel
theorem dX10_needsNumber_34 : decode cX10_needsNumber 34 = .ok (.getfield 184, 3) := by decide +kernel
theorem dX10_needsNumber_37 : decode cX10_needsNumber 37 = .ok (.putfield 297, 3) := by decide +kernel
theorem dX10_needsNumber_40 : decode cX10_needsNumber 40 = .ok (.aload_n 0, 1) := by decide +kernel
theorem dX10_needsNumber_41 : decode cX10_needsNumber 41 = .ok (.invokevirtual 233, 3) := by decide +kernel
theorem dX10_needsNumber_44 : decode cX10_needsNumber 44 = .ok (.iconst 1, 1) := by decide +kernel
theorem dX10_needsNumber_45 : decode cX10_needsNumber 45 = .ok (.ireturn, 1) := by decide +kernel
theorem dX10_needsWord_0 : decode cX10_needsWord 0 = .ok (.aload_n 0, 1) := by decide +kernel
theorem dX10_needsWord_1 : decode cX10_needsWord 1 = .ok (.lload_n 1, 1) := by decide +kernel
theorem dX10_needsWord_2 : decode cX10_needsWord 2 = .ok (.invokevirtual 218, 3) := by decide +kernel
theorem dX10_needsWord_5 : decode cX10_needsWord 5 = .ok (.ifCond .ne 9, 3) := by decide +kernel
theorem dX10_needsWord_8 : decode cX10_needsWord 8 = .ok (.aload_n 0, 1) := by decide +kernel
theorem dX10_needsWord_9 : decode cX10_needsWord 9 = .ok (.iconst 1, 1) := by decide +kernel
theorem dX10_needsWord_10 : decode cX10_needsWord 10 = .ok (.invokevirtual 226, 3) := by decide +kernel
theorem dX10_needsWord_13 : decode cX10_needsWord 13 = .ok (.ireturn, 1) := by decide +kernel
theorem dX10_needsWord_14 : decode cX10_needsWord 14 = .ok (.aload_n 0, 1) := by decide +kernel
theorem dX10_needsWord_15 : decode cX10_needsWord 15 = .ok (.invokevirtual 233, 3) := by decide +kernel
theorem dX10_needsWord_18 : decode cX10_needsWord 18 = .ok (.iconst 1, 1) := by decide +kernel
theorem dX10_needsWord_19 : decode cX10_needsWord 19 = .ok (.ireturn, 1) := by decide +kernel
theorem dX10_needsBoth_0 : decode cX10_needsBoth 0 = .ok (.aload_n 0, 1) := by decide +kernel
theorem dX10_needsBoth_1 : decode cX10_needsBoth 1 = .ok (.lload_n 1, 1) := by decide +kernel
theorem dX10_needsBoth_2 : decode cX10_needsBoth 2 = .ok (.invokevirtual 300, 3) := by decide +kernel
theorem dX10_needsBoth_5 : decode cX10_needsBoth 5 = .ok (.ifCond .eq 17, 3) := by decide +kernel
theorem dX10_needsBoth_8 : decode cX10_needsBoth 8 = .ok (.aload_n 0, 1) := by decide +kernel
theorem dX10_needsBoth_9 : decode cX10_needsBoth 9 = .ok (.iload_n 3, 1) := by decide +kernel
theorem dX10_needsBoth_10 : decode cX10_needsBoth 10 = .ok (.iload 4, 2) := by decide +kernel
theorem dX10_needsBoth_12 : decode cX10_needsBoth 12 = .ok (.invokevirtual 303, 3) := by decide +kernel
theorem dX10_needsBoth_15 : decode cX10_needsBoth 15 = .ok (.ifCond .eq 7, 3) := by decide +kernel
theorem dX10_needsBoth_18 : decode cX10_needsBoth 18 = .ok (.iconst 1, 1) := by decide +kernel
theorem dX10_needsBoth_19 : decode cX10_needsBoth 19 = .ok (.goto 4, 3) := by decide +kernel
theorem dX10_needsBoth_22 : decode cX10_needsBoth 22 = .ok (.iconst 0, 1) := by decide +kernel
theorem dX10_needsBoth_23 : decode cX10_needsBoth 23 = .ok (.ireturn, 1) := by decide +kernel
theorem dX10_closes_0 : decode cX10_closes 0 = .ok (.aload_n 0, 1) := by decide +kernel
theorem dX10_closes_1 : decode cX10_closes 1 = .ok (.bipush 59, 2) := by decide +kernel
theorem dX10_closes_3 : decode cX10_closes 3 = .ok (.invokevirtual 222, 3) := by decide +kernel
theorem dX10_closes_6 : decode cX10_closes 6 = .ok (.ifCond .ne 9, 3) := by decide +kernel
theorem dX10_closes_9 : decode cX10_closes 9 = .ok (.aload_n 0, 1) := by decide +kernel
theorem dX10_closes_10 : decode cX10_closes 10 = .ok (.iconst 1, 1) := by decide +kernel
theorem dX10_closes_11 : decode cX10_closes 11 = .ok (.invokevirtual 226, 3) := by decide +kernel
theorem dX10_closes_14 : decode cX10_closes 14 = .ok (.ireturn, 1) := by decide +kernel
theorem dX10_closes_15 : decode cX10_closes 15 = .ok (.aload_n 0, 1) := by decide +kernel
theorem dX10_closes_16 : decode cX10_closes 16 = .ok (.invokevirtual 233, 3) := by decide +kernel
theorem dX10_closes_19 : decode cX10_closes 19 = .ok (.iconst 1, 1) := by decide +kernel
theorem dX10_closes_20 : decode cX10_closes 20 = .ok (.ireturn, 1) := by decide +kernel
theorem dX10_needsNew_0 : decode cX10_needsNew 0 = .ok (.aload_n 0, 1) := by decide +kernel
theorem dX10_needsNew_1 : decode cX10_needsNew 1 = .ok (.invokevirtual 307, 3) := by decide +kernel
theorem dX10_needsNew_4 : decode cX10_needsNew 4 = .ok (.ifCond .eq 9, 3) := by decide +kernel
theorem dX10_needsNew_7 : decode cX10_needsNew 7 = .ok (.aload_n 0, 1) := by decide +kernel
theorem dX10_needsNew_8 : decode cX10_needsNew 8 = .ok (.iconst 1, 1) := by decide +kernel
theorem dX10_needsNew_9 : decode cX10_needsNew 9 = .ok (.invokevirtual 226, 3) := by decide +kernel
theorem dX10_needsNew_12 : decode cX10_needsNew 12 = .ok (.ireturn, 1) := by decide +kernel
theorem dX10_needsNew_13 : decode cX10_needsNew 13 = .ok (.aload_n 0, 1) := by decide +kernel
theorem dX10_needsNew_14 : decode cX10_needsNew 14 = .ok (.iconst 1, 1) := by decide +kernel
theorem dX10_needsNew_15 : decode cX10_needsNew 15 = .ok (.invokevirtual 311, 3) := by decide +kernel
theorem dX10_needsNew_18 : decode cX10_needsNew 18 = .ok (.ifCond .ge 27, 3) := by decide +kernel
theorem dX10_needsNew_21 : decode cX10_needsNew 21 = .ok (.aload_n 0, 1) := by decide +kernel
theorem dX10_needsNew_22 : decode cX10_needsNew 22 = .ok (.iconst 1, 1) := by decide +kernel
theorem dX10_needsNew_23 : decode cX10_needsNew 23 = .ok (.invokevirtual 314, 3) := by decide +kernel
theorem dX10_needsNew_26 : decode cX10_needsNew 26 = .ok (.ifCond .ge 19, 3) := by decide +kernel
theorem dX10_needsNew_29 : decode cX10_needsNew 29 = .ok (.aload_n 0, 1) := by decide +kernel
theorem dX10_needsNew_30 : decode cX10_needsNew 30 = .ok (.iconst 1, 1) := by decide +kernel
theorem dX10_needsNew_31 : decode cX10_needsNew 31 = .ok (.invokevirtual 317, 3) := by decide +kernel
theorem dX10_needsNew_34 : decode cX10_needsNew 34 = .ok (.ifCond .ge 11, 3) := by decide +kernel
theorem dX10_needsNew_37 : decode cX10_needsNew 37 = .ok (.aload_n 0, 1) := by decide +kernel
theorem dX10_needsNew_38 : decode cX10_needsNew 38 = .ok (.iconst 1, 1) := by decide +kernel
theorem dX10_needsNew_39 : decode cX10_needsNew 39 = .ok (.invokevirtual 320, 3) := by decide +kernel
theorem dX10_needsNew_42 : decode cX10_needsNew 42 = .ok (.ifCond .lt 9, 3) := by decide +kernel
theorem dX10_needsNew_45 : decode cX10_needsNew 45 = .ok (.aload_n 0, 1) := by decide +kernel
theorem dX10_needsNew_46 : decode cX10_needsNew 46 = .ok (.iconst 3, 1) := by decide +kernel
theorem dX10_needsNew_47 : decode cX10_needsNew 47 = .ok (.invokevirtual 226, 3) := by decide +kernel
theorem dX10_needsNew_50 : decode cX10_needsNew 50 = .ok (.ireturn, 1) := by decide +kernel
theorem dX10_needsNew_51 : decode cX10_needsNew 51 = .ok (.aload_n 0, 1) := by decide +kernel
theorem dX10_needsNew_52 : decode cX10_needsNew 52 = .ok (.aload_n 0, 1) := by decide +kernel
theorem dX10_needsNew_53 : decode cX10_needsNew 53 = .ok (.getfield 180, 3) := by decide +kernel
theorem dX10_needsNew_56 : decode cX10_needsNew 56 = .ok (.putfield 323, 3) := by decide +kernel
theorem dX10_needsNew_59 : decode cX10_needsNew 59 = .ok (.aload_n 0, 1) := by decide +kernel
theorem dX10_needsNew_60 : decode cX10_needsNew 60 = .ok (.invokevirtual 233, 3) := by decide +kernel
theorem dX10_needsNew_63 : decode cX10_needsNew 63 = .ok (.iconst 1, 1) := by decide +kernel
theorem dX10_needsNew_64 : decode cX10_needsNew 64 = .ok (.ireturn, 1) := by decide +kernel
theorem dX10_isFound_0 : decode cX10_isFound 0 = .ok (.aload_n 0, 1) := by decide +kernel
theorem dX10_isFound_1 : decode cX10_isFound 1 = .ok (.invokevirtual 307, 3) := by decide +kernel
theorem dX10_isFound_4 : decode cX10_isFound 4 = .ok (.ifCond .eq 9, 3) := by decide +kernel
theorem dX10_isFound_7 : decode cX10_isFound 7 = .ok (.aload_n 0, 1) := by decide +kernel
theorem dX10_isFound_8 : decode cX10_isFound 8 = .ok (.iconst 1, 1) := by decide +kernel
theorem dX10_isFound_9 : decode cX10_isFound 9 = .ok (.invokevirtual 226, 3) := by decide +kernel
theorem dX10_isFound_12 : decode cX10_isFound 12 = .ok (.ireturn, 1) := by decide +kernel
theorem dX10_isFound_13 : decode cX10_isFound 13 = .ok (.aload_n 0, 1) := by decide +kernel
theorem dX10_isFound_14 : decode cX10_isFound 14 = .ok (.iload_n 1, 1) := by decide +kernel
theorem dX10_isFound_15 : decode cX10_isFound 15 = .ok (.putfield 297, 3) := by decide +kernel
theorem dX10_isFound_18 : decode cX10_isFound 18 = .ok (.aload_n 0, 1) := by decide +kernel
theorem dX10_isFound_19 : decode cX10_isFound 19 = .ok (.getfield 297, 3) := by decide +kernel
theorem dX10_isFound_22 : decode cX10_isFound 22 = .ok (.ifCond .ge 11, 3) := by decide +kernel
theorem dX10_isFound_25 : decode cX10_isFound 25 = .ok (.aload_n 0, 1) := by decide +kernel
theorem dX10_isFound_26 : decode cX10_isFound 26 = .ok (.iconst 2, 1) := by decide +kernel
theorem dX10_isFound_27 : decode cX10_isFound 27 = .ok (.invokevirtual 226, 3) := by decide +kernel
theorem dX10_isFound_30 : decode cX10_isFound 30 = .ok (.ifCond .eq 7, 3) := by decide +kernel
theorem dX10_isFound_33 : decode cX10_isFound 33 = .ok (.iconst 1, 1) := by decide +kernel
theorem dX10_isFound_34 : decode cX10_isFound 34 = .ok (.goto 4, 3) := by decide +kernel
theorem dX10_isFound_37 : decode cX10_isFound 37 = .ok (.iconst 0, 1) := by decide +kernel
theorem dX10_isFound_38 : decode cX10_isFound 38 = .ok (.ireturn, 1) := by decide +kernel
theorem dX10_passesFound_0 : decode cX10_passesFound 0 = .ok (.aload_n 0, 1) := by decide +kernel
theorem dX10_passesFound_1 : decode cX10_passesFound 1 = .ok (.iload_n 1, 1) := by decide +kernel
theorem dX10_passesFound_2 : decode cX10_passesFound 2 = .ok (.invokevirtual 326, 3) := by decide +kernel
theorem dX10_passesFound_5 : decode cX10_passesFound 5 = .ok (.ifCond .ne 5, 3) := by decide +kernel
theorem dX10_passesFound_8 : decode cX10_passesFound 8 = .ok (.iconst 0, 1) := by decide +kernel
theorem dX10_passesFound_9 : decode cX10_passesFound 9 = .ok (.ireturn, 1) := by decide +kernel
theorem dX10_passesFound_10 : decode cX10_passesFound 10 = .ok (.aload_n 0, 1) := by decide +kernel
theorem dX10_passesFound_11 : decode cX10_passesFound 11 = .ok (.invokevirtual 233, 3) := by decide +kernel
theorem dX10_passesFound_14 : decode cX10_passesFound 14 = .ok (.iconst 1, 1) := by decide +kernel
theorem dX10_passesFound_15 : decode cX10_passesFound 15 = .ok (.ireturn, 1) := by decide +kernel
theorem dX10_readsPlace_0 : decode cX10_readsPlace 0 = .ok (.bipush 7, 2) := by decide +kernel
theorem dX10_readsPlace_2 : decode cX10_readsPlace 2 = .ok (.aload_n 0, 1) := by decide +kernel
theorem dX10_readsPlace_3 : decode cX10_readsPlace 3 = .ok (.getfield 13, 3) := by decide +kernel
theorem dX10_readsPlace_6 : decode cX10_readsPlace 6 = .ok (.bipush 6, 2) := by decide +kernel
theorem dX10_readsPlace_8 : decode cX10_readsPlace 8 = .ok (.iaload, 1) := by decide +kernel
theorem dX10_readsPlace_9 : decode cX10_readsPlace 9 = .ok (.iadd, 1) := by decide +kernel
theorem dX10_readsPlace_10 : decode cX10_readsPlace 10 = .ok (.istore_n 1, 1) := by decide +kernel
theorem dX10_readsPlace_11 : decode cX10_readsPlace 11 = .ok (.iload_n 1, 1) := by decide +kernel
theorem dX10_readsPlace_12 : decode cX10_readsPlace 12 = .ok (.bipush 14, 2) := by decide +kernel
theorem dX10_readsPlace_14 : decode cX10_readsPlace 14 = .ok (.if_icmp .ne 9, 3) := by decide +kernel
theorem dX10_readsPlace_17 : decode cX10_readsPlace 17 = .ok (.aload_n 0, 1) := by decide +kernel
theorem dX10_readsPlace_18 : decode cX10_readsPlace 18 = .ok (.iconst 5, 1) := by decide +kernel
theorem dX10_readsPlace_19 : decode cX10_readsPlace 19 = .ok (.invokevirtual 226, 3) := by decide +kernel
theorem dX10_readsPlace_22 : decode cX10_readsPlace 22 = .ok (.ireturn, 1) := by decide +kernel
theorem dX10_readsPlace_23 : decode cX10_readsPlace 23 = .ok (.aload_n 0, 1) := by decide +kernel
theorem dX10_readsPlace_24 : decode cX10_readsPlace 24 = .ok (.invokevirtual 233, 3) := by decide +kernel
theorem dX10_readsPlace_27 : decode cX10_readsPlace 27 = .ok (.aload_n 0, 1) := by decide +kernel
theorem dX10_readsPlace_28 : decode cX10_readsPlace 28 = .ok (.invokevirtual 329, 3) := by decide +kernel
theorem dX10_readsPlace_31 : decode cX10_readsPlace 31 = .ok (.ifCond .eq 16, 3) := by decide +kernel
theorem dX10_readsPlace_34 : decode cX10_readsPlace 34 = .ok (.aload_n 0, 1) := by decide +kernel
theorem dX10_readsPlace_35 : decode cX10_readsPlace 35 = .ok (.ldc2_w 251, 3) := by decide +kernel
theorem dX10_readsPlace_38 : decode cX10_readsPlace 38 = .ok (.iconst 0, 1) := by decide +kernel
theorem dX10_readsPlace_39 : decode cX10_readsPlace 39 = .ok (.bipush 9, 2) := by decide +kernel
theorem dX10_readsPlace_41 : decode cX10_readsPlace 41 = .ok (.invokevirtual 332, 3) := by decide +kernel
theorem dX10_readsPlace_44 : decode cX10_readsPlace 44 = .ok (.ifCond .ne 5, 3) := by decide +kernel
theorem dX10_readsPlace_47 : decode cX10_readsPlace 47 = .ok (.iconst 0, 1) := by decide +kernel
theorem dX10_readsPlace_48 : decode cX10_readsPlace 48 = .ok (.ireturn, 1) := by decide +kernel
theorem dX10_readsPlace_49 : decode cX10_readsPlace 49 = .ok (.aload_n 0, 1) := by decide +kernel
theorem dX10_readsPlace_50 : decode cX10_readsPlace 50 = .ok (.getfield 29, 3) := by decide +kernel
theorem dX10_readsPlace_53 : decode cX10_readsPlace 53 = .ok (.iload_n 1, 1) := by decide +kernel
theorem dX10_readsPlace_54 : decode cX10_readsPlace 54 = .ok (.aload_n 0, 1) := by decide +kernel
theorem dX10_readsPlace_55 : decode cX10_readsPlace 55 = .ok (.getfield 297, 3) := by decide +kernel
theorem dX10_readsPlace_58 : decode cX10_readsPlace 58 = .ok (.iastore, 1) := by decide +kernel
theorem dX10_readsPlace_59 : decode cX10_readsPlace 59 = .ok (.aload_n 0, 1) := by decide +kernel
theorem dX10_readsPlace_60 : decode cX10_readsPlace 60 = .ok (.getfield 32, 3) := by decide +kernel
theorem dX10_readsPlace_63 : decode cX10_readsPlace 63 = .ok (.iload_n 1, 1) := by decide +kernel
theorem dX10_readsPlace_64 : decode cX10_readsPlace 64 = .ok (.iconst 0, 1) := by decide +kernel
theorem dX10_readsPlace_65 : decode cX10_readsPlace 65 = .ok (.iastore, 1) := by decide +kernel
theorem dX10_readsPlace_66 : decode cX10_readsPlace 66 = .ok (.aload_n 0, 1) := by decide +kernel
theorem dX10_readsPlace_67 : decode cX10_readsPlace 67 = .ok (.getfield 16, 3) := by decide +kernel
theorem dX10_readsPlace_70 : decode cX10_readsPlace 70 = .ok (.iload_n 1, 1) := by decide +kernel
theorem dX10_readsPlace_71 : decode cX10_readsPlace 71 = .ok (.aload_n 0, 1) := by decide +kernel
theorem dX10_readsPlace_72 : decode cX10_readsPlace 72 = .ok (.getfield 323, 3) := by decide +kernel
theorem dX10_readsPlace_75 : decode cX10_readsPlace 75 = .ok (.lastore, 1) := by decide +kernel
theorem dX10_readsPlace_76 : decode cX10_readsPlace 76 = .ok (.aload_n 0, 1) := by decide +kernel
theorem dX10_readsPlace_77 : decode cX10_readsPlace 77 = .ok (.getfield 13, 3) := by decide +kernel
theorem dX10_readsPlace_80 : decode cX10_readsPlace 80 = .ok (.bipush 6, 2) := by decide +kernel
theorem dX10_readsPlace_82 : decode cX10_readsPlace 82 = .ok (.dup2, 1) := by decide +kernel
theorem dX10_readsPlace_83 : decode cX10_readsPlace 83 = .ok (.iaload, 1) := by decide +kernel
theorem dX10_readsPlace_84 : decode cX10_readsPlace 84 = .ok (.iconst 1, 1) := by decide +kernel
theorem dX10_readsPlace_85 : decode cX10_readsPlace 85 = .ok (.iadd, 1) := by decide +kernel
theorem dX10_readsPlace_86 : decode cX10_readsPlace 86 = .ok (.iastore, 1) := by decide +kernel
theorem dX10_readsPlace_87 : decode cX10_readsPlace 87 = .ok (.aload_n 0, 1) := by decide +kernel
theorem dX10_readsPlace_88 : decode cX10_readsPlace 88 = .ok (.invokevirtual 336, 3) := by decide +kernel
theorem dX10_readsPlace_91 : decode cX10_readsPlace 91 = .ok (.ireturn, 1) := by decide +kernel
theorem dX10_readsStream_0 : decode cX10_readsStream 0 = .ok (.aload_n 0, 1) := by decide +kernel
theorem dX10_readsStream_1 : decode cX10_readsStream 1 = .ok (.getfield 13, 3) := by decide +kernel
theorem dX10_readsStream_4 : decode cX10_readsStream 4 = .ok (.bipush 7, 2) := by decide +kernel
theorem dX10_readsStream_6 : decode cX10_readsStream 6 = .ok (.iaload, 1) := by decide +kernel
theorem dX10_readsStream_7 : decode cX10_readsStream 7 = .ok (.bipush 10, 2) := by decide +kernel
theorem dX10_readsStream_9 : decode cX10_readsStream 9 = .ok (.if_icmp .ne 9, 3) := by decide +kernel
theorem dX10_readsStream_12 : decode cX10_readsStream 12 = .ok (.aload_n 0, 1) := by decide +kernel
theorem dX10_readsStream_13 : decode cX10_readsStream 13 = .ok (.iconst 5, 1) := by decide +kernel
theorem dX10_readsStream_14 : decode cX10_readsStream 14 = .ok (.invokevirtual 226, 3) := by decide +kernel
theorem dX10_readsStream_17 : decode cX10_readsStream 17 = .ok (.ireturn, 1) := by decide +kernel
theorem dX10_readsStream_18 : decode cX10_readsStream 18 = .ok (.aload_n 0, 1) := by decide +kernel
theorem dX10_readsStream_19 : decode cX10_readsStream 19 = .ok (.invokevirtual 233, 3) := by decide +kernel
theorem dX10_readsStream_22 : decode cX10_readsStream 22 = .ok (.aload_n 0, 1) := by decide +kernel
theorem dX10_readsStream_23 : decode cX10_readsStream 23 = .ok (.aload_n 0, 1) := by decide +kernel
theorem dX10_readsStream_24 : decode cX10_readsStream 24 = .ok (.iconst 1, 1) := by decide +kernel
theorem dX10_readsStream_25 : decode cX10_readsStream 25 = .ok (.invokevirtual 311, 3) := by decide +kernel
theorem dX10_readsStream_28 : decode cX10_readsStream 28 = .ok (.invokevirtual 339, 3) := by decide +kernel
theorem dX10_readsStream_31 : decode cX10_readsStream 31 = .ok (.ifCond .ne 5, 3) := by decide +kernel
theorem dX10_readsStream_34 : decode cX10_readsStream 34 = .ok (.iconst 0, 1) := by decide +kernel
theorem dX10_readsStream_35 : decode cX10_readsStream 35 = .ok (.ireturn, 1) := by decide +kernel
theorem dX10_readsStream_36 : decode cX10_readsStream 36 = .ok (.aload_n 0, 1) := by decide +kernel
theorem dX10_readsStream_37 : decode cX10_readsStream 37 = .ok (.getfield 297, 3) := by decide +kernel
theorem dX10_readsStream_40 : decode cX10_readsStream 40 = .ok (.istore_n 1, 1) := by decide +kernel
theorem dX10_readsStream_41 : decode cX10_readsStream 41 = .ok (.aload_n 0, 1) := by decide +kernel
theorem dX10_readsStream_42 : decode cX10_readsStream 42 = .ok (.aload_n 0, 1) := by decide +kernel
theorem dX10_readsStream_43 : decode cX10_readsStream 43 = .ok (.iconst 1, 1) := by decide +kernel
theorem dX10_readsStream_44 : decode cX10_readsStream 44 = .ok (.invokevirtual 311, 3) := by decide +kernel
theorem dX10_readsStream_47 : decode cX10_readsStream 47 = .ok (.invokevirtual 326, 3) := by decide +kernel
theorem dX10_readsStream_50 : decode cX10_readsStream 50 = .ok (.ifCond .ne 5, 3) := by decide +kernel
theorem dX10_readsStream_53 : decode cX10_readsStream 53 = .ok (.iconst 0, 1) := by decide +kernel
theorem dX10_readsStream_54 : decode cX10_readsStream 54 = .ok (.ireturn, 1) := by decide +kernel
theorem dX10_readsStream_55 : decode cX10_readsStream 55 = .ok (.iload_n 1, 1) := by decide +kernel
theorem dX10_readsStream_56 : decode cX10_readsStream 56 = .ok (.aload_n 0, 1) := by decide +kernel
theorem dX10_readsStream_57 : decode cX10_readsStream 57 = .ok (.getfield 297, 3) := by decide +kernel
theorem dX10_readsStream_60 : decode cX10_readsStream 60 = .ok (.if_icmp .eq 23, 3) := by decide +kernel
theorem dX10_readsStream_63 : decode cX10_readsStream 63 = .ok (.aload_n 0, 1) := by decide +kernel
theorem dX10_readsStream_64 : decode cX10_readsStream 64 = .ok (.getfield 32, 3) := by decide +kernel
theorem dX10_readsStream_67 : decode cX10_readsStream 67 = .ok (.bipush 7, 2) := by decide +kernel
theorem dX10_readsStream_69 : decode cX10_readsStream 69 = .ok (.iload_n 1, 1) := by decide +kernel
theorem dX10_readsStream_70 : decode cX10_readsStream 70 = .ok (.iadd, 1) := by decide +kernel
theorem dX10_readsStream_71 : decode cX10_readsStream 71 = .ok (.iaload, 1) := by decide +kernel
theorem dX10_readsStream_72 : decode cX10_readsStream 72 = .ok (.aload_n 0, 1) := by decide +kernel
theorem dX10_readsStream_73 : decode cX10_readsStream 73 = .ok (.getfield 297, 3) := by decide +kernel
theorem dX10_readsStream_76 : decode cX10_readsStream 76 = .ok (.ishr, 1) := by decide +kernel
theorem dX10_readsStream_77 : decode cX10_readsStream 77 = .ok (.iconst 1, 1) := by decide +kernel
theorem dX10_readsStream_78 : decode cX10_readsStream 78 = .ok (.iand, 1) := by decide +kernel
theorem dX10_readsStream_79 : decode cX10_readsStream 79 = .ok (.iconst 1, 1) := by decide +kernel
theorem dX10_readsStream_80 : decode cX10_readsStream 80 = .ok (.if_icmp .ne 9, 3) := by decide +kernel
theorem dX10_readsStream_83 : decode cX10_readsStream 83 = .ok (.aload_n 0, 1) := by decide +kernel
theorem dX10_readsStream_84 : decode cX10_readsStream 84 = .ok (.iconst 3, 1) := by decide +kernel
theorem dX10_readsStream_85 : decode cX10_readsStream 85 = .ok (.invokevirtual 226, 3) := by decide +kernel
theorem dX10_readsStream_88 : decode cX10_readsStream 88 = .ok (.ireturn, 1) := by decide +kernel
theorem dX10_readsStream_89 : decode cX10_readsStream 89 = .ok (.aload_n 0, 1) := by decide +kernel
theorem dX10_readsStream_90 : decode cX10_readsStream 90 = .ok (.getfield 32, 3) := by decide +kernel
theorem dX10_readsStream_93 : decode cX10_readsStream 93 = .ok (.bipush 7, 2) := by decide +kernel
theorem dX10_readsStream_95 : decode cX10_readsStream 95 = .ok (.iload_n 1, 1) := by decide +kernel
theorem dX10_readsStream_96 : decode cX10_readsStream 96 = .ok (.iadd, 1) := by decide +kernel
theorem dX10_readsStream_97 : decode cX10_readsStream 97 = .ok (.dup2, 1) := by decide +kernel
theorem dX10_readsStream_98 : decode cX10_readsStream 98 = .ok (.iaload, 1) := by decide +kernel
theorem dX10_readsStream_99 : decode cX10_readsStream 99 = .ok (.iconst 1, 1) := by decide +kernel
theorem dX10_readsStream_100 : decode cX10_readsStream 100 = .ok (.aload_n 0, 1) := by decide +kernel
theorem dX10_readsStream_101 : decode cX10_readsStream 101 = .ok (.getfield 297, 3) := by decide +kernel
theorem dX10_readsStream_104 : decode cX10_readsStream 104 = .ok (.ishl, 1) := by decide +kernel
theorem dX10_readsStream_105 : decode cX10_readsStream 105 = .ok (.ior, 1) := by decide +kernel
theorem dX10_readsStream_106 : decode cX10_readsStream 106 = .ok (.iastore, 1) := by decide +kernel
theorem dX10_readsStream_107 : decode cX10_readsStream 107 = .ok (.aload_n 0, 1) := by decide +kernel
theorem dX10_readsStream_108 : decode cX10_readsStream 108 = .ok (.getfield 32, 3) := by decide +kernel
theorem dX10_readsStream_111 : decode cX10_readsStream 111 = .ok (.bipush 7, 2) := by decide +kernel
theorem dX10_readsStream_113 : decode cX10_readsStream 113 = .ok (.aload_n 0, 1) := by decide +kernel
theorem dX10_readsStream_114 : decode cX10_readsStream 114 = .ok (.getfield 297, 3) := by decide +kernel
theorem dX10_readsStream_117 : decode cX10_readsStream 117 = .ok (.iadd, 1) := by decide +kernel
theorem dX10_readsStream_118 : decode cX10_readsStream 118 = .ok (.dup2, 1) := by decide +kernel
theorem dX10_readsStream_119 : decode cX10_readsStream 119 = .ok (.iaload, 1) := by decide +kernel
theorem dX10_readsStream_120 : decode cX10_readsStream 120 = .ok (.iconst 1, 1) := by decide +kernel
theorem dX10_readsStream_121 : decode cX10_readsStream 121 = .ok (.iload_n 1, 1) := by decide +kernel
theorem dX10_readsStream_122 : decode cX10_readsStream 122 = .ok (.ishl, 1) := by decide +kernel
theorem dX10_readsStream_123 : decode cX10_readsStream 123 = .ok (.ior, 1) := by decide +kernel
theorem dX10_readsStream_124 : decode cX10_readsStream 124 = .ok (.iastore, 1) := by decide +kernel
theorem dX10_readsStream_125 : decode cX10_readsStream 125 = .ok (.aload_n 0, 1) := by decide +kernel
theorem dX10_readsStream_126 : decode cX10_readsStream 126 = .ok (.getfield 13, 3) := by decide +kernel
theorem dX10_readsStream_129 : decode cX10_readsStream 129 = .ok (.bipush 7, 2) := by decide +kernel
theorem dX10_readsStream_131 : decode cX10_readsStream 131 = .ok (.dup2, 1) := by decide +kernel
theorem dX10_readsStream_132 : decode cX10_readsStream 132 = .ok (.iaload, 1) := by decide +kernel
theorem dX10_readsStream_133 : decode cX10_readsStream 133 = .ok (.iconst 1, 1) := by decide +kernel
theorem dX10_readsStream_134 : decode cX10_readsStream 134 = .ok (.iadd, 1) := by decide +kernel
theorem dX10_readsStream_135 : decode cX10_readsStream 135 = .ok (.iastore, 1) := by decide +kernel
theorem dX10_readsStream_136 : decode cX10_readsStream 136 = .ok (.aload_n 0, 1) := by decide +kernel
theorem dX10_readsStream_137 : decode cX10_readsStream 137 = .ok (.invokevirtual 233, 3) := by decide +kernel
theorem dX10_readsStream_140 : decode cX10_readsStream 140 = .ok (.aload_n 0, 1) := by decide +kernel
theorem dX10_readsStream_141 : decode cX10_readsStream 141 = .ok (.invokevirtual 336, 3) := by decide +kernel
theorem dX10_readsStream_144 : decode cX10_readsStream 144 = .ok (.ireturn, 1) := by decide +kernel
theorem dX10_readsPerson_0 : decode cX10_readsPerson 0 = .ok (.iconst 5, 1) := by decide +kernel
theorem dX10_readsPerson_1 : decode cX10_readsPerson 1 = .ok (.aload_n 0, 1) := by decide +kernel
theorem dX10_readsPerson_2 : decode cX10_readsPerson 2 = .ok (.getfield 13, 3) := by decide +kernel
theorem dX10_readsPerson_5 : decode cX10_readsPerson 5 = .ok (.bipush 8, 2) := by decide +kernel
theorem dX10_readsPerson_7 : decode cX10_readsPerson 7 = .ok (.iaload, 1) := by decide +kernel
theorem dX10_readsPerson_8 : decode cX10_readsPerson 8 = .ok (.iadd, 1) := by decide +kernel
theorem dX10_readsPerson_9 : decode cX10_readsPerson 9 = .ok (.istore_n 1, 1) := by decide +kernel
theorem dX10_readsPerson_10 : decode cX10_readsPerson 10 = .ok (.iload_n 1, 1) := by decide +kernel
theorem dX10_readsPerson_11 : decode cX10_readsPerson 11 = .ok (.bipush 10, 2) := by decide +kernel
theorem dX10_readsPerson_13 : decode cX10_readsPerson 13 = .ok (.if_icmp .ne 9, 3) := by decide +kernel
theorem dX10_readsPerson_16 : decode cX10_readsPerson 16 = .ok (.aload_n 0, 1) := by decide +kernel
theorem dX10_readsPerson_17 : decode cX10_readsPerson 17 = .ok (.iconst 5, 1) := by decide +kernel
theorem dX10_readsPerson_18 : decode cX10_readsPerson 18 = .ok (.invokevirtual 226, 3) := by decide +kernel
theorem dX10_readsPerson_21 : decode cX10_readsPerson 21 = .ok (.ireturn, 1) := by decide +kernel
theorem dX10_readsPerson_22 : decode cX10_readsPerson 22 = .ok (.aload_n 0, 1) := by decide +kernel
theorem dX10_readsPerson_23 : decode cX10_readsPerson 23 = .ok (.invokevirtual 233, 3) := by decide +kernel
theorem dX10_readsPerson_26 : decode cX10_readsPerson 26 = .ok (.aload_n 0, 1) := by decide +kernel
theorem dX10_readsPerson_27 : decode cX10_readsPerson 27 = .ok (.invokevirtual 329, 3) := by decide +kernel
theorem dX10_readsPerson_30 : decode cX10_readsPerson 30 = .ok (.ifCond .ne 5, 3) := by decide +kernel
theorem dX10_readsPerson_33 : decode cX10_readsPerson 33 = .ok (.iconst 0, 1) := by decide +kernel
theorem dX10_readsPerson_34 : decode cX10_readsPerson 34 = .ok (.ireturn, 1) := by decide +kernel
theorem dX10_readsPerson_35 : decode cX10_readsPerson 35 = .ok (.aload_n 0, 1) := by decide +kernel
theorem dX10_readsPerson_36 : decode cX10_readsPerson 36 = .ok (.getfield 35, 3) := by decide +kernel
theorem dX10_readsPerson_39 : decode cX10_readsPerson 39 = .ok (.iload_n 1, 1) := by decide +kernel
theorem dX10_readsPerson_40 : decode cX10_readsPerson 40 = .ok (.aload_n 0, 1) := by decide +kernel
theorem dX10_readsPerson_41 : decode cX10_readsPerson 41 = .ok (.ldc2_w 281, 3) := by decide +kernel
theorem dX10_readsPerson_44 : decode cX10_readsPerson 44 = .ok (.invokevirtual 218, 3) := by decide +kernel
theorem dX10_readsPerson_47 : decode cX10_readsPerson 47 = .ok (.ifCond .eq 7, 3) := by decide +kernel
theorem dX10_readsPerson_50 : decode cX10_readsPerson 50 = .ok (.iconst 0, 1) := by decide +kernel
theorem dX10_readsPerson_51 : decode cX10_readsPerson 51 = .ok (.goto 46, 3) := by decide +kernel
theorem dX10_readsPerson_54 : decode cX10_readsPerson 54 = .ok (.aload_n 0, 1) := by decide +kernel
theorem dX10_readsPerson_55 : decode cX10_readsPerson 55 = .ok (.ldc2_w 283, 3) := by decide +kernel
theorem dX10_readsPerson_58 : decode cX10_readsPerson 58 = .ok (.invokevirtual 218, 3) := by decide +kernel
theorem dX10_readsPerson_61 : decode cX10_readsPerson 61 = .ok (.ifCond .eq 7, 3) := by decide +kernel
theorem dX10_readsPerson_64 : decode cX10_readsPerson 64 = .ok (.iconst 1, 1) := by decide +kernel
theorem dX10_readsPerson_65 : decode cX10_readsPerson 65 = .ok (.goto 32, 3) := by decide +kernel
theorem dX10_readsPerson_68 : decode cX10_readsPerson 68 = .ok (.aload_n 0, 1) := by decide +kernel
theorem dX10_readsPerson_69 : decode cX10_readsPerson 69 = .ok (.ldc2_w 285, 3) := by decide +kernel
theorem dX10_readsPerson_72 : decode cX10_readsPerson 72 = .ok (.invokevirtual 218, 3) := by decide +kernel
theorem dX10_readsPerson_75 : decode cX10_readsPerson 75 = .ok (.ifCond .eq 7, 3) := by decide +kernel
theorem dX10_readsPerson_78 : decode cX10_readsPerson 78 = .ok (.iconst 2, 1) := by decide +kernel
theorem dX10_readsPerson_79 : decode cX10_readsPerson 79 = .ok (.goto 18, 3) := by decide +kernel
theorem dX10_readsPerson_82 : decode cX10_readsPerson 82 = .ok (.aload_n 0, 1) := by decide +kernel
theorem dX10_readsPerson_83 : decode cX10_readsPerson 83 = .ok (.ldc2_w 287, 3) := by decide +kernel
theorem dX10_readsPerson_86 : decode cX10_readsPerson 86 = .ok (.invokevirtual 218, 3) := by decide +kernel
theorem dX10_readsPerson_89 : decode cX10_readsPerson 89 = .ok (.ifCond .eq 7, 3) := by decide +kernel
theorem dX10_readsPerson_92 : decode cX10_readsPerson 92 = .ok (.iconst 3, 1) := by decide +kernel
theorem dX10_readsPerson_93 : decode cX10_readsPerson 93 = .ok (.goto 4, 3) := by decide +kernel
theorem dX10_readsPerson_96 : decode cX10_readsPerson 96 = .ok (.iconst (-1), 1) := by decide +kernel
theorem dX10_readsPerson_97 : decode cX10_readsPerson 97 = .ok (.iastore, 1) := by decide +kernel
theorem dX10_readsPerson_98 : decode cX10_readsPerson 98 = .ok (.aload_n 0, 1) := by decide +kernel
theorem dX10_readsPerson_99 : decode cX10_readsPerson 99 = .ok (.getfield 35, 3) := by decide +kernel
theorem dX10_readsPerson_102 : decode cX10_readsPerson 102 = .ok (.iload_n 1, 1) := by decide +kernel
theorem dX10_readsPerson_103 : decode cX10_readsPerson 103 = .ok (.iaload, 1) := by decide +kernel
theorem dX10_readsPerson_104 : decode cX10_readsPerson 104 = .ok (.ifCond .ge 9, 3) := by decide +kernel
theorem dX10_readsPerson_107 : decode cX10_readsPerson 107 = .ok (.aload_n 0, 1) := by decide +kernel
theorem dX10_readsPerson_108 : decode cX10_readsPerson 108 = .ok (.iconst 1, 1) := by decide +kernel
theorem dX10_readsPerson_109 : decode cX10_readsPerson 109 = .ok (.invokevirtual 226, 3) := by decide +kernel
theorem dX10_readsPerson_112 : decode cX10_readsPerson 112 = .ok (.ireturn, 1) := by decide +kernel
theorem dX10_readsPerson_113 : decode cX10_readsPerson 113 = .ok (.aload_n 0, 1) := by decide +kernel
theorem dX10_readsPerson_114 : decode cX10_readsPerson 114 = .ok (.invokevirtual 233, 3) := by decide +kernel
theorem dX10_readsPerson_117 : decode cX10_readsPerson 117 = .ok (.aload_n 0, 1) := by decide +kernel
theorem dX10_readsPerson_118 : decode cX10_readsPerson 118 = .ok (.ldc2_w 257, 3) := by decide +kernel
theorem dX10_readsPerson_121 : decode cX10_readsPerson 121 = .ok (.invokevirtual 300, 3) := by decide +kernel
theorem dX10_readsPerson_124 : decode cX10_readsPerson 124 = .ok (.ifCond .eq 15, 3) := by decide +kernel
theorem dX10_readsPerson_127 : decode cX10_readsPerson 127 = .ok (.aload_n 0, 1) := by decide +kernel
theorem dX10_readsPerson_128 : decode cX10_readsPerson 128 = .ok (.aload_n 0, 1) := by decide +kernel
theorem dX10_readsPerson_129 : decode cX10_readsPerson 129 = .ok (.iconst 1, 1) := by decide +kernel
theorem dX10_readsPerson_130 : decode cX10_readsPerson 130 = .ok (.invokevirtual 311, 3) := by decide +kernel
theorem dX10_readsPerson_133 : decode cX10_readsPerson 133 = .ok (.invokevirtual 339, 3) := by decide +kernel
theorem dX10_readsPerson_136 : decode cX10_readsPerson 136 = .ok (.ifCond .ne 5, 3) := by decide +kernel
theorem dX10_readsPerson_139 : decode cX10_readsPerson 139 = .ok (.iconst 0, 1) := by decide +kernel
theorem dX10_readsPerson_140 : decode cX10_readsPerson 140 = .ok (.ireturn, 1) := by decide +kernel
theorem dX10_readsPerson_141 : decode cX10_readsPerson 141 = .ok (.aload_n 0, 1) := by decide +kernel
theorem dX10_readsPerson_142 : decode cX10_readsPerson 142 = .ok (.getfield 38, 3) := by decide +kernel
theorem dX10_readsPerson_145 : decode cX10_readsPerson 145 = .ok (.iload_n 1, 1) := by decide +kernel
theorem dX10_readsPerson_146 : decode cX10_readsPerson 146 = .ok (.aload_n 0, 1) := by decide +kernel
theorem dX10_readsPerson_147 : decode cX10_readsPerson 147 = .ok (.getfield 297, 3) := by decide +kernel
theorem dX10_readsPerson_150 : decode cX10_readsPerson 150 = .ok (.iastore, 1) := by decide +kernel
theorem dX10_readsPerson_151 : decode cX10_readsPerson 151 = .ok (.aload_n 0, 1) := by decide +kernel
theorem dX10_readsPerson_152 : decode cX10_readsPerson 152 = .ok (.getfield 20, 3) := by decide +kernel
theorem dX10_readsPerson_155 : decode cX10_readsPerson 155 = .ok (.iload_n 1, 1) := by decide +kernel
theorem dX10_readsPerson_156 : decode cX10_readsPerson 156 = .ok (.aload_n 0, 1) := by decide +kernel
theorem dX10_readsPerson_157 : decode cX10_readsPerson 157 = .ok (.getfield 323, 3) := by decide +kernel
theorem dX10_readsPerson_160 : decode cX10_readsPerson 160 = .ok (.lastore, 1) := by decide +kernel
theorem dX10_readsPerson_161 : decode cX10_readsPerson 161 = .ok (.aload_n 0, 1) := by decide +kernel
theorem dX10_readsPerson_162 : decode cX10_readsPerson 162 = .ok (.getfield 13, 3) := by decide +kernel
theorem dX10_readsPerson_165 : decode cX10_readsPerson 165 = .ok (.bipush 8, 2) := by decide +kernel
theorem dX10_readsPerson_167 : decode cX10_readsPerson 167 = .ok (.dup2, 1) := by decide +kernel
theorem dX10_readsPerson_168 : decode cX10_readsPerson 168 = .ok (.iaload, 1) := by decide +kernel
theorem dX10_readsPerson_169 : decode cX10_readsPerson 169 = .ok (.iconst 1, 1) := by decide +kernel
theorem dX10_readsPerson_170 : decode cX10_readsPerson 170 = .ok (.iadd, 1) := by decide +kernel
theorem dX10_readsPerson_171 : decode cX10_readsPerson 171 = .ok (.iastore, 1) := by decide +kernel
theorem dX10_readsPerson_172 : decode cX10_readsPerson 172 = .ok (.aload_n 0, 1) := by decide +kernel
theorem dX10_readsPerson_173 : decode cX10_readsPerson 173 = .ok (.invokevirtual 336, 3) := by decide +kernel
theorem dX10_readsPerson_176 : decode cX10_readsPerson 176 = .ok (.ireturn, 1) := by decide +kernel
theorem dX10_readsOtter_0 : decode cX10_readsOtter 0 = .ok (.iconst 3, 1) := by decide +kernel
theorem dX10_readsOtter_1 : decode cX10_readsOtter 1 = .ok (.aload_n 0, 1) := by decide +kernel
theorem dX10_readsOtter_2 : decode cX10_readsOtter 2 = .ok (.getfield 13, 3) := by decide +kernel
theorem dX10_readsOtter_5 : decode cX10_readsOtter 5 = .ok (.bipush 9, 2) := by decide +kernel
theorem dX10_readsOtter_7 : decode cX10_readsOtter 7 = .ok (.iaload, 1) := by decide +kernel
theorem dX10_readsOtter_8 : decode cX10_readsOtter 8 = .ok (.iadd, 1) := by decide +kernel
theorem dX10_readsOtter_9 : decode cX10_readsOtter 9 = .ok (.istore_n 1, 1) := by decide +kernel
theorem dX10_readsOtter_10 : decode cX10_readsOtter 10 = .ok (.iload_n 1, 1) := by decide +kernel
theorem dX10_readsOtter_11 : decode cX10_readsOtter 11 = .ok (.bipush 6, 2) := by decide +kernel
theorem dX10_readsOtter_13 : decode cX10_readsOtter 13 = .ok (.if_icmp .ne 9, 3) := by decide +kernel
theorem dX10_readsOtter_16 : decode cX10_readsOtter 16 = .ok (.aload_n 0, 1) := by decide +kernel
theorem dX10_readsOtter_17 : decode cX10_readsOtter 17 = .ok (.iconst 5, 1) := by decide +kernel
theorem dX10_readsOtter_18 : decode cX10_readsOtter 18 = .ok (.invokevirtual 226, 3) := by decide +kernel
theorem dX10_readsOtter_21 : decode cX10_readsOtter 21 = .ok (.ireturn, 1) := by decide +kernel
theorem dX10_readsOtter_22 : decode cX10_readsOtter 22 = .ok (.aload_n 0, 1) := by decide +kernel
theorem dX10_readsOtter_23 : decode cX10_readsOtter 23 = .ok (.invokevirtual 233, 3) := by decide +kernel
theorem dX10_readsOtter_26 : decode cX10_readsOtter 26 = .ok (.aload_n 0, 1) := by decide +kernel
theorem dX10_readsOtter_27 : decode cX10_readsOtter 27 = .ok (.invokevirtual 329, 3) := by decide +kernel
theorem dX10_readsOtter_30 : decode cX10_readsOtter 30 = .ok (.ifCond .eq 25, 3) := by decide +kernel
theorem dX10_readsOtter_33 : decode cX10_readsOtter 33 = .ok (.aload_n 0, 1) := by decide +kernel
theorem dX10_readsOtter_34 : decode cX10_readsOtter 34 = .ok (.ldc2_w 257, 3) := by decide +kernel
theorem dX10_readsOtter_37 : decode cX10_readsOtter 37 = .ok (.invokevirtual 300, 3) := by decide +kernel
theorem dX10_readsOtter_40 : decode cX10_readsOtter 40 = .ok (.ifCond .eq 15, 3) := by decide +kernel
theorem dX10_readsOtter_43 : decode cX10_readsOtter 43 = .ok (.aload_n 0, 1) := by decide +kernel
theorem dX10_readsOtter_44 : decode cX10_readsOtter 44 = .ok (.aload_n 0, 1) := by decide +kernel
theorem dX10_readsOtter_45 : decode cX10_readsOtter 45 = .ok (.iconst 1, 1) := by decide +kernel
theorem dX10_readsOtter_46 : decode cX10_readsOtter 46 = .ok (.invokevirtual 311, 3) := by decide +kernel
theorem dX10_readsOtter_49 : decode cX10_readsOtter 49 = .ok (.invokevirtual 339, 3) := by decide +kernel
theorem dX10_readsOtter_52 : decode cX10_readsOtter 52 = .ok (.ifCond .ne 5, 3) := by decide +kernel
theorem dX10_readsOtter_55 : decode cX10_readsOtter 55 = .ok (.iconst 0, 1) := by decide +kernel
theorem dX10_readsOtter_56 : decode cX10_readsOtter 56 = .ok (.ireturn, 1) := by decide +kernel
theorem dX10_readsOtter_57 : decode cX10_readsOtter 57 = .ok (.aload_n 0, 1) := by decide +kernel
theorem dX10_readsOtter_58 : decode cX10_readsOtter 58 = .ok (.getfield 41, 3) := by decide +kernel
theorem dX10_readsOtter_61 : decode cX10_readsOtter 61 = .ok (.iload_n 1, 1) := by decide +kernel
theorem dX10_readsOtter_62 : decode cX10_readsOtter 62 = .ok (.aload_n 0, 1) := by decide +kernel
theorem dX10_readsOtter_63 : decode cX10_readsOtter 63 = .ok (.getfield 297, 3) := by decide +kernel
theorem dX10_readsOtter_66 : decode cX10_readsOtter 66 = .ok (.iastore, 1) := by decide +kernel
theorem dX10_readsOtter_67 : decode cX10_readsOtter 67 = .ok (.aload_n 0, 1) := by decide +kernel
theorem dX10_readsOtter_68 : decode cX10_readsOtter 68 = .ok (.ldc2_w 261, 3) := by decide +kernel
theorem dX10_readsOtter_71 : decode cX10_readsOtter 71 = .ok (.iconst 1, 1) := by decide +kernel
theorem dX10_readsOtter_72 : decode cX10_readsOtter 72 = .ok (.iconst 3, 1) := by decide +kernel
theorem dX10_readsOtter_73 : decode cX10_readsOtter 73 = .ok (.invokevirtual 332, 3) := by decide +kernel
theorem dX10_readsOtter_76 : decode cX10_readsOtter 76 = .ok (.ifCond .ne 5, 3) := by decide +kernel
theorem dX10_readsOtter_79 : decode cX10_readsOtter 79 = .ok (.iconst 0, 1) := by decide +kernel
theorem dX10_readsOtter_80 : decode cX10_readsOtter 80 = .ok (.ireturn, 1) := by decide +kernel
theorem dX10_readsOtter_81 : decode cX10_readsOtter 81 = .ok (.aload_n 0, 1) := by decide +kernel
theorem dX10_readsOtter_82 : decode cX10_readsOtter 82 = .ok (.getfield 44, 3) := by decide +kernel
theorem dX10_readsOtter_85 : decode cX10_readsOtter 85 = .ok (.iload_n 1, 1) := by decide +kernel
theorem dX10_readsOtter_86 : decode cX10_readsOtter 86 = .ok (.aload_n 0, 1) := by decide +kernel
theorem dX10_readsOtter_87 : decode cX10_readsOtter 87 = .ok (.getfield 297, 3) := by decide +kernel
theorem dX10_readsOtter_90 : decode cX10_readsOtter 90 = .ok (.iastore, 1) := by decide +kernel
theorem dX10_readsOtter_91 : decode cX10_readsOtter 91 = .ok (.aload_n 0, 1) := by decide +kernel
theorem dX10_readsOtter_92 : decode cX10_readsOtter 92 = .ok (.getfield 23, 3) := by decide +kernel
theorem dX10_readsOtter_95 : decode cX10_readsOtter 95 = .ok (.iload_n 1, 1) := by decide +kernel
theorem dX10_readsOtter_96 : decode cX10_readsOtter 96 = .ok (.aload_n 0, 1) := by decide +kernel
theorem dX10_readsOtter_97 : decode cX10_readsOtter 97 = .ok (.getfield 323, 3) := by decide +kernel
theorem dX10_readsOtter_100 : decode cX10_readsOtter 100 = .ok (.lastore, 1) := by decide +kernel
theorem dX10_readsOtter_101 : decode cX10_readsOtter 101 = .ok (.aload_n 0, 1) := by decide +kernel
theorem dX10_readsOtter_102 : decode cX10_readsOtter 102 = .ok (.getfield 13, 3) := by decide +kernel
theorem dX10_readsOtter_105 : decode cX10_readsOtter 105 = .ok (.bipush 9, 2) := by decide +kernel
theorem dX10_readsOtter_107 : decode cX10_readsOtter 107 = .ok (.dup2, 1) := by decide +kernel
theorem dX10_readsOtter_108 : decode cX10_readsOtter 108 = .ok (.iaload, 1) := by decide +kernel
theorem dX10_readsOtter_109 : decode cX10_readsOtter 109 = .ok (.iconst 1, 1) := by decide +kernel
theorem dX10_readsOtter_110 : decode cX10_readsOtter 110 = .ok (.iadd, 1) := by decide +kernel
theorem dX10_readsOtter_111 : decode cX10_readsOtter 111 = .ok (.iastore, 1) := by decide +kernel
theorem dX10_readsOtter_112 : decode cX10_readsOtter 112 = .ok (.aload_n 0, 1) := by decide +kernel
theorem dX10_readsOtter_113 : decode cX10_readsOtter 113 = .ok (.invokevirtual 336, 3) := by decide +kernel
theorem dX10_readsOtter_116 : decode cX10_readsOtter 116 = .ok (.ireturn, 1) := by decide +kernel
theorem dX10_readsWrit_0 : decode cX10_readsWrit 0 = .ok (.bipush 6, 2) := by decide +kernel
theorem dX10_readsWrit_2 : decode cX10_readsWrit 2 = .ok (.aload_n 0, 1) := by decide +kernel
theorem dX10_readsWrit_3 : decode cX10_readsWrit 3 = .ok (.getfield 13, 3) := by decide +kernel
theorem dX10_readsWrit_6 : decode cX10_readsWrit 6 = .ok (.bipush 10, 2) := by decide +kernel
theorem dX10_readsWrit_8 : decode cX10_readsWrit 8 = .ok (.iaload, 1) := by decide +kernel
theorem dX10_readsWrit_9 : decode cX10_readsWrit 9 = .ok (.iadd, 1) := by decide +kernel
theorem dX10_readsWrit_10 : decode cX10_readsWrit 10 = .ok (.istore_n 1, 1) := by decide +kernel
theorem dX10_readsWrit_11 : decode cX10_readsWrit 11 = .ok (.iload_n 1, 1) := by decide +kernel
theorem dX10_readsWrit_12 : decode cX10_readsWrit 12 = .ok (.bipush 12, 2) := by decide +kernel
theorem dX10_readsWrit_14 : decode cX10_readsWrit 14 = .ok (.if_icmp .ne 9, 3) := by decide +kernel
theorem dX10_readsWrit_17 : decode cX10_readsWrit 17 = .ok (.aload_n 0, 1) := by decide +kernel
theorem dX10_readsWrit_18 : decode cX10_readsWrit 18 = .ok (.iconst 5, 1) := by decide +kernel
theorem dX10_readsWrit_19 : decode cX10_readsWrit 19 = .ok (.invokevirtual 226, 3) := by decide +kernel
theorem dX10_readsWrit_22 : decode cX10_readsWrit 22 = .ok (.ireturn, 1) := by decide +kernel
theorem dX10_readsWrit_23 : decode cX10_readsWrit 23 = .ok (.aload_n 0, 1) := by decide +kernel
theorem dX10_readsWrit_24 : decode cX10_readsWrit 24 = .ok (.invokevirtual 233, 3) := by decide +kernel
theorem dX10_readsWrit_27 : decode cX10_readsWrit 27 = .ok (.aload_n 0, 1) := by decide +kernel
theorem dX10_readsWrit_28 : decode cX10_readsWrit 28 = .ok (.invokevirtual 329, 3) := by decide +kernel
theorem dX10_readsWrit_31 : decode cX10_readsWrit 31 = .ok (.ifCond .eq 25, 3) := by decide +kernel
theorem dX10_readsWrit_34 : decode cX10_readsWrit 34 = .ok (.aload_n 0, 1) := by decide +kernel
theorem dX10_readsWrit_35 : decode cX10_readsWrit 35 = .ok (.ldc2_w 265, 3) := by decide +kernel
theorem dX10_readsWrit_38 : decode cX10_readsWrit 38 = .ok (.invokevirtual 300, 3) := by decide +kernel
theorem dX10_readsWrit_41 : decode cX10_readsWrit 41 = .ok (.ifCond .eq 15, 3) := by decide +kernel
theorem dX10_readsWrit_44 : decode cX10_readsWrit 44 = .ok (.aload_n 0, 1) := by decide +kernel
theorem dX10_readsWrit_45 : decode cX10_readsWrit 45 = .ok (.aload_n 0, 1) := by decide +kernel
theorem dX10_readsWrit_46 : decode cX10_readsWrit 46 = .ok (.iconst 1, 1) := by decide +kernel
theorem dX10_readsWrit_47 : decode cX10_readsWrit 47 = .ok (.invokevirtual 314, 3) := by decide +kernel
theorem dX10_readsWrit_50 : decode cX10_readsWrit 50 = .ok (.invokevirtual 339, 3) := by decide +kernel
theorem dX10_readsWrit_53 : decode cX10_readsWrit 53 = .ok (.ifCond .ne 5, 3) := by decide +kernel
theorem dX10_readsWrit_56 : decode cX10_readsWrit 56 = .ok (.iconst 0, 1) := by decide +kernel
theorem dX10_readsWrit_57 : decode cX10_readsWrit 57 = .ok (.ireturn, 1) := by decide +kernel
theorem dX10_readsWrit_58 : decode cX10_readsWrit 58 = .ok (.aload_n 0, 1) := by decide +kernel
theorem dX10_readsWrit_59 : decode cX10_readsWrit 59 = .ok (.getfield 47, 3) := by decide +kernel
theorem dX10_readsWrit_62 : decode cX10_readsWrit 62 = .ok (.iload_n 1, 1) := by decide +kernel
theorem dX10_readsWrit_63 : decode cX10_readsWrit 63 = .ok (.aload_n 0, 1) := by decide +kernel
theorem dX10_readsWrit_64 : decode cX10_readsWrit 64 = .ok (.getfield 297, 3) := by decide +kernel
theorem dX10_readsWrit_67 : decode cX10_readsWrit 67 = .ok (.iastore, 1) := by decide +kernel
theorem dX10_readsWrit_68 : decode cX10_readsWrit 68 = .ok (.aload_n 0, 1) := by decide +kernel
theorem dX10_readsWrit_69 : decode cX10_readsWrit 69 = .ok (.ldc2_w 267, 3) := by decide +kernel
theorem dX10_readsWrit_72 : decode cX10_readsWrit 72 = .ok (.iconst 0, 1) := by decide +kernel
theorem dX10_readsWrit_73 : decode cX10_readsWrit 73 = .ok (.bipush 60, 2) := by decide +kernel
theorem dX10_readsWrit_75 : decode cX10_readsWrit 75 = .ok (.invokevirtual 332, 3) := by decide +kernel
theorem dX10_readsWrit_78 : decode cX10_readsWrit 78 = .ok (.ifCond .ne 5, 3) := by decide +kernel
theorem dX10_readsWrit_81 : decode cX10_readsWrit 81 = .ok (.iconst 0, 1) := by decide +kernel
theorem dX10_readsWrit_82 : decode cX10_readsWrit 82 = .ok (.ireturn, 1) := by decide +kernel
theorem dX10_readsWrit_83 : decode cX10_readsWrit 83 = .ok (.aload_n 0, 1) := by decide +kernel
theorem dX10_readsWrit_84 : decode cX10_readsWrit 84 = .ok (.getfield 50, 3) := by decide +kernel
theorem dX10_readsWrit_87 : decode cX10_readsWrit 87 = .ok (.iload_n 1, 1) := by decide +kernel
theorem dX10_readsWrit_88 : decode cX10_readsWrit 88 = .ok (.aload_n 0, 1) := by decide +kernel
theorem dX10_readsWrit_89 : decode cX10_readsWrit 89 = .ok (.getfield 297, 3) := by decide +kernel
theorem dX10_readsWrit_92 : decode cX10_readsWrit 92 = .ok (.iastore, 1) := by decide +kernel
theorem dX10_readsWrit_93 : decode cX10_readsWrit 93 = .ok (.aload_n 0, 1) := by decide +kernel
theorem dX10_readsWrit_94 : decode cX10_readsWrit 94 = .ok (.getfield 26, 3) := by decide +kernel
theorem dX10_readsWrit_97 : decode cX10_readsWrit 97 = .ok (.iload_n 1, 1) := by decide +kernel
theorem dX10_readsWrit_98 : decode cX10_readsWrit 98 = .ok (.aload_n 0, 1) := by decide +kernel
theorem dX10_readsWrit_99 : decode cX10_readsWrit 99 = .ok (.getfield 323, 3) := by decide +kernel
theorem dX10_readsWrit_102 : decode cX10_readsWrit 102 = .ok (.lastore, 1) := by decide +kernel
theorem dX10_readsWrit_103 : decode cX10_readsWrit 103 = .ok (.aload_n 0, 1) := by decide +kernel
theorem dX10_readsWrit_104 : decode cX10_readsWrit 104 = .ok (.getfield 13, 3) := by decide +kernel
theorem dX10_readsWrit_107 : decode cX10_readsWrit 107 = .ok (.bipush 10, 2) := by decide +kernel
theorem dX10_readsWrit_109 : decode cX10_readsWrit 109 = .ok (.dup2, 1) := by decide +kernel
theorem dX10_readsWrit_110 : decode cX10_readsWrit 110 = .ok (.iaload, 1) := by decide +kernel
theorem dX10_readsWrit_111 : decode cX10_readsWrit 111 = .ok (.iconst 1, 1) := by decide +kernel
theorem dX10_readsWrit_112 : decode cX10_readsWrit 112 = .ok (.iadd, 1) := by decide +kernel
theorem dX10_readsWrit_113 : decode cX10_readsWrit 113 = .ok (.iastore, 1) := by decide +kernel
theorem dX10_readsWrit_114 : decode cX10_readsWrit 114 = .ok (.aload_n 0, 1) := by decide +kernel
theorem dX10_readsWrit_115 : decode cX10_readsWrit 115 = .ok (.invokevirtual 336, 3) := by decide +kernel
theorem dX10_readsWrit_118 : decode cX10_readsWrit 118 = .ok (.ireturn, 1) := by decide +kernel
theorem dX10_readsRain_0 : decode cX10_readsRain 0 = .ok (.aload_n 0, 1) := by decide +kernel
theorem dX10_readsRain_1 : decode cX10_readsRain 1 = .ok (.getfield 13, 3) := by decide +kernel
theorem dX10_readsRain_4 : decode cX10_readsRain 4 = .ok (.bipush 11, 2) := by decide +kernel
theorem dX10_readsRain_6 : decode cX10_readsRain 6 = .ok (.iaload, 1) := by decide +kernel
theorem dX10_readsRain_7 : decode cX10_readsRain 7 = .ok (.ifCond .le 9, 3) := by decide +kernel
theorem dX10_readsRain_10 : decode cX10_readsRain 10 = .ok (.aload_n 0, 1) := by decide +kernel
theorem dX10_readsRain_11 : decode cX10_readsRain 11 = .ok (.iconst 3, 1) := by decide +kernel
theorem dX10_readsRain_12 : decode cX10_readsRain 12 = .ok (.invokevirtual 226, 3) := by decide +kernel
theorem dX10_readsRain_15 : decode cX10_readsRain 15 = .ok (.ireturn, 1) := by decide +kernel
theorem dX10_readsRain_16 : decode cX10_readsRain 16 = .ok (.aload_n 0, 1) := by decide +kernel
theorem dX10_readsRain_17 : decode cX10_readsRain 17 = .ok (.invokevirtual 233, 3) := by decide +kernel
theorem dX10_readsRain_20 : decode cX10_readsRain 20 = .ok (.aload_n 0, 1) := by decide +kernel
theorem dX10_readsRain_21 : decode cX10_readsRain 21 = .ok (.getfield 13, 3) := by decide +kernel
theorem dX10_readsRain_24 : decode cX10_readsRain 24 = .ok (.bipush 11, 2) := by decide +kernel
theorem dX10_readsRain_26 : decode cX10_readsRain 26 = .ok (.iaload, 1) := by decide +kernel
theorem dX10_readsRain_27 : decode cX10_readsRain 27 = .ok (.ifCond .eq 11, 3) := by decide +kernel
theorem dX10_readsRain_30 : decode cX10_readsRain 30 = .ok (.aload_n 0, 1) := by decide +kernel
theorem dX10_readsRain_31 : decode cX10_readsRain 31 = .ok (.getfield 187, 3) := by decide +kernel
theorem dX10_readsRain_34 : decode cX10_readsRain 34 = .ok (.iconst 2, 1) := by decide +kernel
theorem dX10_readsRain_35 : decode cX10_readsRain 35 = .ok (.if_icmp .ne 87, 3) := by decide +kernel
theorem dX10_readsRain_38 : decode cX10_readsRain 38 = .ok (.aload_n 0, 1) := by decide +kernel
theorem dX10_readsRain_39 : decode cX10_readsRain 39 = .ok (.getfield 187, 3) := by decide +kernel
theorem dX10_readsRain_42 : decode cX10_readsRain 42 = .ok (.iconst 2, 1) := by decide +kernel
theorem dX10_readsRain_43 : decode cX10_readsRain 43 = .ok (.if_icmp .eq 9, 3) := by decide +kernel
theorem dX10_readsRain_46 : decode cX10_readsRain 46 = .ok (.aload_n 0, 1) := by decide +kernel
theorem dX10_readsRain_47 : decode cX10_readsRain 47 = .ok (.iconst 1, 1) := by decide +kernel
theorem dX10_readsRain_48 : decode cX10_readsRain 48 = .ok (.invokevirtual 226, 3) := by decide +kernel
theorem dX10_readsRain_51 : decode cX10_readsRain 51 = .ok (.ireturn, 1) := by decide +kernel
theorem dX10_readsRain_52 : decode cX10_readsRain 52 = .ok (.aload_n 0, 1) := by decide +kernel
theorem dX10_readsRain_53 : decode cX10_readsRain 53 = .ok (.getfield 184, 3) := by decide +kernel
theorem dX10_readsRain_56 : decode cX10_readsRain 56 = .ok (.bipush 9, 2) := by decide +kernel
theorem dX10_readsRain_58 : decode cX10_readsRain 58 = .ok (.if_icmp .le 9, 3) := by decide +kernel
theorem dX10_readsRain_61 : decode cX10_readsRain 61 = .ok (.aload_n 0, 1) := by decide +kernel
theorem dX10_readsRain_62 : decode cX10_readsRain 62 = .ok (.iconst 4, 1) := by decide +kernel
theorem dX10_readsRain_63 : decode cX10_readsRain 63 = .ok (.invokevirtual 226, 3) := by decide +kernel
theorem dX10_readsRain_66 : decode cX10_readsRain 66 = .ok (.ireturn, 1) := by decide +kernel
theorem dX10_readsRain_67 : decode cX10_readsRain 67 = .ok (.aload_n 0, 1) := by decide +kernel
theorem dX10_readsRain_68 : decode cX10_readsRain 68 = .ok (.getfield 13, 3) := by decide +kernel
theorem dX10_readsRain_71 : decode cX10_readsRain 71 = .ok (.bipush 11, 2) := by decide +kernel
theorem dX10_readsRain_73 : decode cX10_readsRain 73 = .ok (.iaload, 1) := by decide +kernel
theorem dX10_readsRain_74 : decode cX10_readsRain 74 = .ok (.bipush 12, 2) := by decide +kernel
theorem dX10_readsRain_76 : decode cX10_readsRain 76 = .ok (.if_icmp .ne 9, 3) := by decide +kernel
theorem dX10_readsRain_79 : decode cX10_readsRain 79 = .ok (.aload_n 0, 1) := by decide +kernel
theorem dX10_readsRain_80 : decode cX10_readsRain 80 = .ok (.iconst 5, 1) := by decide +kernel
theorem dX10_readsRain_81 : decode cX10_readsRain 81 = .ok (.invokevirtual 226, 3) := by decide +kernel
theorem dX10_readsRain_84 : decode cX10_readsRain 84 = .ok (.ireturn, 1) := by decide +kernel
theorem dX10_readsRain_85 : decode cX10_readsRain 85 = .ok (.aload_n 0, 1) := by decide +kernel
theorem dX10_readsRain_86 : decode cX10_readsRain 86 = .ok (.getfield 53, 3) := by decide +kernel
theorem dX10_readsRain_89 : decode cX10_readsRain 89 = .ok (.bipush 12, 2) := by decide +kernel
theorem dX10_readsRain_91 : decode cX10_readsRain 91 = .ok (.aload_n 0, 1) := by decide +kernel
theorem dX10_readsRain_92 : decode cX10_readsRain 92 = .ok (.getfield 13, 3) := by decide +kernel
theorem dX10_readsRain_95 : decode cX10_readsRain 95 = .ok (.bipush 11, 2) := by decide +kernel
theorem dX10_readsRain_97 : decode cX10_readsRain 97 = .ok (.iaload, 1) := by decide +kernel
theorem dX10_readsRain_98 : decode cX10_readsRain 98 = .ok (.iadd, 1) := by decide +kernel
theorem dX10_readsRain_99 : decode cX10_readsRain 99 = .ok (.aload_n 0, 1) := by decide +kernel
theorem dX10_readsRain_100 : decode cX10_readsRain 100 = .ok (.getfield 184, 3) := by decide +kernel
theorem dX10_readsRain_103 : decode cX10_readsRain 103 = .ok (.iastore, 1) := by decide +kernel
theorem dX10_readsRain_104 : decode cX10_readsRain 104 = .ok (.aload_n 0, 1) := by decide +kernel
theorem dX10_readsRain_105 : decode cX10_readsRain 105 = .ok (.getfield 13, 3) := by decide +kernel
theorem dX10_readsRain_108 : decode cX10_readsRain 108 = .ok (.bipush 11, 2) := by decide +kernel
theorem dX10_readsRain_110 : decode cX10_readsRain 110 = .ok (.dup2, 1) := by decide +kernel
theorem dX10_readsRain_111 : decode cX10_readsRain 111 = .ok (.iaload, 1) := by decide +kernel
theorem dX10_readsRain_112 : decode cX10_readsRain 112 = .ok (.iconst 1, 1) := by decide +kernel
theorem dX10_readsRain_113 : decode cX10_readsRain 113 = .ok (.iadd, 1) := by decide +kernel
theorem dX10_readsRain_114 : decode cX10_readsRain 114 = .ok (.iastore, 1) := by decide +kernel
theorem dX10_readsRain_115 : decode cX10_readsRain 115 = .ok (.aload_n 0, 1) := by decide +kernel
theorem dX10_readsRain_116 : decode cX10_readsRain 116 = .ok (.invokevirtual 233, 3) := by decide +kernel
theorem dX10_readsRain_119 : decode cX10_readsRain 119 = .ok (.goto (-99), 3) := by decide +kernel
theorem dX10_readsRain_122 : decode cX10_readsRain 122 = .ok (.aload_n 0, 1) := by decide +kernel
theorem dX10_readsRain_123 : decode cX10_readsRain 123 = .ok (.invokevirtual 336, 3) := by decide +kernel
theorem dX10_readsRain_126 : decode cX10_readsRain 126 = .ok (.ireturn, 1) := by decide +kernel
theorem dX10_readsWets_0 : decode cX10_readsWets 0 = .ok (.aload_n 0, 1) := by decide +kernel
theorem dX10_readsWets_1 : decode cX10_readsWets 1 = .ok (.getfield 59, 3) := by decide +kernel
theorem dX10_readsWets_4 : decode cX10_readsWets 4 = .ok (.iconst 1, 1) := by decide +kernel
theorem dX10_readsWets_5 : decode cX10_readsWets 5 = .ok (.iaload, 1) := by decide +kernel
theorem dX10_readsWets_6 : decode cX10_readsWets 6 = .ok (.aload_n 0, 1) := by decide +kernel
theorem dX10_readsWets_7 : decode cX10_readsWets 7 = .ok (.getfield 56, 3) := by decide +kernel
theorem dX10_readsWets_10 : decode cX10_readsWets 10 = .ok (.iconst 1, 1) := by decide +kernel
theorem dX10_readsWets_11 : decode cX10_readsWets 11 = .ok (.iaload, 1) := by decide +kernel
theorem dX10_readsWets_12 : decode cX10_readsWets 12 = .ok (.if_icmp .le 9, 3) := by decide +kernel
theorem dX10_readsWets_15 : decode cX10_readsWets 15 = .ok (.aload_n 0, 1) := by decide +kernel
theorem dX10_readsWets_16 : decode cX10_readsWets 16 = .ok (.iconst 3, 1) := by decide +kernel
theorem dX10_readsWets_17 : decode cX10_readsWets 17 = .ok (.invokevirtual 226, 3) := by decide +kernel
theorem dX10_readsWets_20 : decode cX10_readsWets 20 = .ok (.ireturn, 1) := by decide +kernel
theorem dX10_readsWets_21 : decode cX10_readsWets 21 = .ok (.aload_n 0, 1) := by decide +kernel
theorem dX10_readsWets_22 : decode cX10_readsWets 22 = .ok (.invokevirtual 233, 3) := by decide +kernel
theorem dX10_readsWets_25 : decode cX10_readsWets 25 = .ok (.aload_n 0, 1) := by decide +kernel
theorem dX10_readsWets_26 : decode cX10_readsWets 26 = .ok (.getfield 56, 3) := by decide +kernel
theorem dX10_readsWets_29 : decode cX10_readsWets 29 = .ok (.iconst 1, 1) := by decide +kernel
theorem dX10_readsWets_30 : decode cX10_readsWets 30 = .ok (.aload_n 0, 1) := by decide +kernel
theorem dX10_readsWets_31 : decode cX10_readsWets 31 = .ok (.getfield 201, 3) := by decide +kernel
theorem dX10_readsWets_34 : decode cX10_readsWets 34 = .ok (.iastore, 1) := by decide +kernel
theorem dX10_readsWets_35 : decode cX10_readsWets 35 = .ok (.aload_n 0, 1) := by decide +kernel
theorem dX10_readsWets_36 : decode cX10_readsWets 36 = .ok (.invokevirtual 342, 3) := by decide +kernel
theorem dX10_readsWets_39 : decode cX10_readsWets 39 = .ok (.ifCond .ne 5, 3) := by decide +kernel
theorem dX10_readsWets_42 : decode cX10_readsWets 42 = .ok (.iconst 0, 1) := by decide +kernel
theorem dX10_readsWets_43 : decode cX10_readsWets 43 = .ok (.ireturn, 1) := by decide +kernel
theorem dX10_readsWets_44 : decode cX10_readsWets 44 = .ok (.aload_n 0, 1) := by decide +kernel
theorem dX10_readsWets_45 : decode cX10_readsWets 45 = .ok (.getfield 59, 3) := by decide +kernel
theorem dX10_readsWets_48 : decode cX10_readsWets 48 = .ok (.iconst 1, 1) := by decide +kernel
theorem dX10_readsWets_49 : decode cX10_readsWets 49 = .ok (.aload_n 0, 1) := by decide +kernel
theorem dX10_readsWets_50 : decode cX10_readsWets 50 = .ok (.getfield 201, 3) := by decide +kernel
theorem dX10_readsWets_53 : decode cX10_readsWets 53 = .ok (.iastore, 1) := by decide +kernel
theorem dX10_readsWets_54 : decode cX10_readsWets 54 = .ok (.iconst 1, 1) := by decide +kernel
theorem dX10_readsWets_55 : decode cX10_readsWets 55 = .ok (.ireturn, 1) := by decide +kernel
theorem dX10_begins_0 : decode cX10_begins 0 = .ok (.aload_n 0, 1) := by decide +kernel
theorem dX10_begins_1 : decode cX10_begins 1 = .ok (.aload_n 0, 1) := by decide +kernel
theorem dX10_begins_2 : decode cX10_begins 2 = .ok (.getfield 168, 3) := by decide +kernel
theorem dX10_begins_5 : decode cX10_begins 5 = .ok (.putfield 171, 3) := by decide +kernel
theorem dX10_begins_8 : decode cX10_begins 8 = .ok (.aload_n 0, 1) := by decide +kernel
theorem dX10_begins_9 : decode cX10_begins 9 = .ok (.iconst 0, 1) := by decide +kernel
theorem dX10_begins_10 : decode cX10_begins 10 = .ok (.putfield 168, 3) := by decide +kernel
theorem dX10_begins_13 : decode cX10_begins 13 = .ok (.aload_n 0, 1) := by decide +kernel
theorem dX10_begins_14 : decode cX10_begins 14 = .ok (.iconst 0, 1) := by decide +kernel
theorem dX10_begins_15 : decode cX10_begins 15 = .ok (.putfield 174, 3) := by decide +kernel
theorem dX10_begins_18 : decode cX10_begins 18 = .ok (.aload_n 0, 1) := by decide +kernel
theorem dX10_begins_19 : decode cX10_begins 19 = .ok (.invokevirtual 233, 3) := by decide +kernel
theorem dX10_begins_22 : decode cX10_begins 22 = .ok (.return_, 1) := by decide +kernel
theorem dX10_readsAll_0 : decode cX10_readsAll 0 = .ok (.iconst 0, 1) := by decide +kernel
theorem dX10_readsAll_1 : decode cX10_readsAll 1 = .ok (.istore_n 1, 1) := by decide +kernel
theorem dX10_readsAll_2 : decode cX10_readsAll 2 = .ok (.iload_n 1, 1) := by decide +kernel
theorem dX10_readsAll_3 : decode cX10_readsAll 3 = .ok (.bipush 6, 2) := by decide +kernel
theorem dX10_readsAll_5 : decode cX10_readsAll 5 = .ok (.if_icmp .ge 19, 3) := by decide +kernel
theorem dX10_readsAll_8 : decode cX10_readsAll 8 = .ok (.aload_n 0, 1) := by decide +kernel
theorem dX10_readsAll_9 : decode cX10_readsAll 9 = .ok (.getfield 13, 3) := by decide +kernel
theorem dX10_readsAll_12 : decode cX10_readsAll 12 = .ok (.bipush 6, 2) := by decide +kernel
theorem dX10_readsAll_14 : decode cX10_readsAll 14 = .ok (.iload_n 1, 1) := by decide +kernel
theorem dX10_readsAll_15 : decode cX10_readsAll 15 = .ok (.iadd, 1) := by decide +kernel
theorem dX10_readsAll_16 : decode cX10_readsAll 16 = .ok (.iconst 0, 1) := by decide +kernel
theorem dX10_readsAll_17 : decode cX10_readsAll 17 = .ok (.iastore, 1) := by decide +kernel
theorem dX10_readsAll_18 : decode cX10_readsAll 18 = .ok (.iinc 1 1, 3) := by decide +kernel
theorem dX10_readsAll_21 : decode cX10_readsAll 21 = .ok (.goto (-19), 3) := by decide +kernel
theorem dX10_readsAll_24 : decode cX10_readsAll 24 = .ok (.aload_n 0, 1) := by decide +kernel
theorem dX10_readsAll_25 : decode cX10_readsAll 25 = .ok (.getfield 56, 3) := by decide +kernel
theorem dX10_readsAll_28 : decode cX10_readsAll 28 = .ok (.iconst 1, 1) := by decide +kernel
theorem dX10_readsAll_29 : decode cX10_readsAll 29 = .ok (.sipush 1000, 3) := by decide +kernel
theorem dX10_readsAll_32 : decode cX10_readsAll 32 = .ok (.iastore, 1) := by decide +kernel
theorem dX10_readsAll_33 : decode cX10_readsAll 33 = .ok (.aload_n 0, 1) := by decide +kernel
theorem dX10_readsAll_34 : decode cX10_readsAll 34 = .ok (.getfield 59, 3) := by decide +kernel
theorem dX10_readsAll_37 : decode cX10_readsAll 37 = .ok (.iconst 1, 1) := by decide +kernel
theorem dX10_readsAll_38 : decode cX10_readsAll 38 = .ok (.sipush 1000, 3) := by decide +kernel
theorem dX10_readsAll_41 : decode cX10_readsAll 41 = .ok (.iastore, 1) := by decide +kernel
theorem dX10_readsAll_42 : decode cX10_readsAll 42 = .ok (.aload_n 0, 1) := by decide +kernel
theorem dX10_readsAll_43 : decode cX10_readsAll 43 = .ok (.sipush 1000, 3) := by decide +kernel
theorem dX10_readsAll_46 : decode cX10_readsAll 46 = .ok (.putfield 201, 3) := by decide +kernel
theorem dX10_readsAll_49 : decode cX10_readsAll 49 = .ok (.aload_n 0, 1) := by decide +kernel
theorem dX10_readsAll_50 : decode cX10_readsAll 50 = .ok (.invokevirtual 345, 3) := by decide +kernel
theorem dX10_readsAll_53 : decode cX10_readsAll 53 = .ok (.aload_n 0, 1) := by decide +kernel
theorem dX10_readsAll_54 : decode cX10_readsAll 54 = .ok (.getfield 187, 3) := by decide +kernel
theorem dX10_readsAll_57 : decode cX10_readsAll 57 = .ok (.ifCond .eq 137, 3) := by decide +kernel
theorem dX10_readsAll_60 : decode cX10_readsAll 60 = .ok (.aload_n 0, 1) := by decide +kernel
theorem dX10_readsAll_61 : decode cX10_readsAll 61 = .ok (.ldc2_w 249, 3) := by decide +kernel
theorem dX10_readsAll_64 : decode cX10_readsAll 64 = .ok (.invokevirtual 218, 3) := by decide +kernel
theorem dX10_readsAll_67 : decode cX10_readsAll 67 = .ok (.ifCond .eq 10, 3) := by decide +kernel
theorem dX10_readsAll_70 : decode cX10_readsAll 70 = .ok (.aload_n 0, 1) := by decide +kernel
theorem dX10_readsAll_71 : decode cX10_readsAll 71 = .ok (.invokevirtual 348, 3) := by decide +kernel
theorem dX10_readsAll_74 : decode cX10_readsAll 74 = .ok (.goto 110, 3) := by decide +kernel
theorem dX10_readsAll_77 : decode cX10_readsAll 77 = .ok (.aload_n 0, 1) := by decide +kernel
theorem dX10_readsAll_78 : decode cX10_readsAll 78 = .ok (.ldc2_w 253, 3) := by decide +kernel
theorem dX10_readsAll_81 : decode cX10_readsAll 81 = .ok (.invokevirtual 218, 3) := by decide +kernel
theorem dX10_readsAll_84 : decode cX10_readsAll 84 = .ok (.ifCond .eq 10, 3) := by decide +kernel
theorem dX10_readsAll_87 : decode cX10_readsAll 87 = .ok (.aload_n 0, 1) := by decide +kernel
theorem dX10_readsAll_88 : decode cX10_readsAll 88 = .ok (.invokevirtual 351, 3) := by decide +kernel
theorem dX10_readsAll_91 : decode cX10_readsAll 91 = .ok (.goto 93, 3) := by decide +kernel
theorem dX10_readsAll_94 : decode cX10_readsAll 94 = .ok (.aload_n 0, 1) := by decide +kernel
theorem dX10_readsAll_95 : decode cX10_readsAll 95 = .ok (.ldc2_w 255, 3) := by decide +kernel
theorem dX10_readsAll_98 : decode cX10_readsAll 98 = .ok (.invokevirtual 218, 3) := by decide +kernel
theorem dX10_readsAll_101 : decode cX10_readsAll 101 = .ok (.ifCond .eq 10, 3) := by decide +kernel
theorem dX10_readsAll_104 : decode cX10_readsAll 104 = .ok (.aload_n 0, 1) := by decide +kernel
theorem dX10_readsAll_105 : decode cX10_readsAll 105 = .ok (.invokevirtual 354, 3) := by decide +kernel
theorem dX10_readsAll_108 : decode cX10_readsAll 108 = .ok (.goto 76, 3) := by decide +kernel
theorem dX10_readsAll_111 : decode cX10_readsAll 111 = .ok (.aload_n 0, 1) := by decide +kernel
theorem dX10_readsAll_112 : decode cX10_readsAll 112 = .ok (.ldc2_w 259, 3) := by decide +kernel
theorem dX10_readsAll_115 : decode cX10_readsAll 115 = .ok (.invokevirtual 218, 3) := by decide +kernel
theorem dX10_readsAll_118 : decode cX10_readsAll 118 = .ok (.ifCond .eq 10, 3) := by decide +kernel
theorem dX10_readsAll_121 : decode cX10_readsAll 121 = .ok (.aload_n 0, 1) := by decide +kernel
theorem dX10_readsAll_122 : decode cX10_readsAll 122 = .ok (.invokevirtual 357, 3) := by decide +kernel
theorem dX10_readsAll_125 : decode cX10_readsAll 125 = .ok (.goto 59, 3) := by decide +kernel
theorem dX10_readsAll_128 : decode cX10_readsAll 128 = .ok (.aload_n 0, 1) := by decide +kernel
theorem dX10_readsAll_129 : decode cX10_readsAll 129 = .ok (.ldc2_w 263, 3) := by decide +kernel
theorem dX10_readsAll_132 : decode cX10_readsAll 132 = .ok (.invokevirtual 218, 3) := by decide +kernel
theorem dX10_readsAll_135 : decode cX10_readsAll 135 = .ok (.ifCond .eq 10, 3) := by decide +kernel
theorem dX10_readsAll_138 : decode cX10_readsAll 138 = .ok (.aload_n 0, 1) := by decide +kernel
theorem dX10_readsAll_139 : decode cX10_readsAll 139 = .ok (.invokevirtual 360, 3) := by decide +kernel
theorem dX10_readsAll_142 : decode cX10_readsAll 142 = .ok (.goto 42, 3) := by decide +kernel
theorem dX10_readsAll_145 : decode cX10_readsAll 145 = .ok (.aload_n 0, 1) := by decide +kernel
theorem dX10_readsAll_146 : decode cX10_readsAll 146 = .ok (.ldc2_w 269, 3) := by decide +kernel
theorem dX10_readsAll_149 : decode cX10_readsAll 149 = .ok (.invokevirtual 218, 3) := by decide +kernel
theorem dX10_readsAll_152 : decode cX10_readsAll 152 = .ok (.ifCond .eq 10, 3) := by decide +kernel
theorem dX10_readsAll_155 : decode cX10_readsAll 155 = .ok (.aload_n 0, 1) := by decide +kernel
theorem dX10_readsAll_156 : decode cX10_readsAll 156 = .ok (.invokevirtual 363, 3) := by decide +kernel
theorem dX10_readsAll_159 : decode cX10_readsAll 159 = .ok (.goto 25, 3) := by decide +kernel
theorem dX10_readsAll_162 : decode cX10_readsAll 162 = .ok (.aload_n 0, 1) := by decide +kernel
theorem dX10_readsAll_163 : decode cX10_readsAll 163 = .ok (.ldc2_w 271, 3) := by decide +kernel
theorem dX10_readsAll_166 : decode cX10_readsAll 166 = .ok (.invokevirtual 218, 3) := by decide +kernel
theorem dX10_readsAll_169 : decode cX10_readsAll 169 = .ok (.ifCond .eq 10, 3) := by decide +kernel
theorem dX10_readsAll_172 : decode cX10_readsAll 172 = .ok (.aload_n 0, 1) := by decide +kernel
theorem dX10_readsAll_173 : decode cX10_readsAll 173 = .ok (.invokevirtual 366, 3) := by decide +kernel
theorem dX10_readsAll_176 : decode cX10_readsAll 176 = .ok (.goto 8, 3) := by decide +kernel
theorem dX10_readsAll_179 : decode cX10_readsAll 179 = .ok (.aload_n 0, 1) := by decide +kernel
theorem dX10_readsAll_180 : decode cX10_readsAll 180 = .ok (.iconst 1, 1) := by decide +kernel
theorem dX10_readsAll_181 : decode cX10_readsAll 181 = .ok (.invokevirtual 226, 3) := by decide +kernel
theorem dX10_readsAll_184 : decode cX10_readsAll 184 = .ok (.istore_n 1, 1) := by decide +kernel
theorem dX10_readsAll_185 : decode cX10_readsAll 185 = .ok (.iload_n 1, 1) := by decide +kernel
theorem dX10_readsAll_186 : decode cX10_readsAll 186 = .ok (.ifCond .ne 5, 3) := by decide +kernel
theorem dX10_readsAll_189 : decode cX10_readsAll 189 = .ok (.iconst 0, 1) := by decide +kernel
theorem dX10_readsAll_190 : decode cX10_readsAll 190 = .ok (.ireturn, 1) := by decide +kernel
theorem dX10_readsAll_191 : decode cX10_readsAll 191 = .ok (.goto (-138), 3) := by decide +kernel
theorem dX10_readsAll_194 : decode cX10_readsAll 194 = .ok (.iconst 1, 1) := by decide +kernel
theorem dX10_readsAll_195 : decode cX10_readsAll 195 = .ok (.ireturn, 1) := by decide +kernel
theorem dX10_shifts_0 : decode cX10_shifts 0 = .ok (.iconst 0, 1) := by decide +kernel
theorem dX10_shifts_1 : decode cX10_shifts 1 = .ok (.istore_n 2, 1) := by decide +kernel
theorem dX10_shifts_2 : decode cX10_shifts 2 = .ok (.iload_n 2, 1) := by decide +kernel
theorem dX10_shifts_3 : decode cX10_shifts 3 = .ok (.iload_n 1, 1) := by decide +kernel
theorem dX10_shifts_4 : decode cX10_shifts 4 = .ok (.if_icmp .ge 17, 3) := by decide +kernel
theorem dX10_shifts_7 : decode cX10_shifts 7 = .ok (.aload_n 0, 1) := by decide +kernel
theorem dX10_shifts_8 : decode cX10_shifts 8 = .ok (.iload_n 2, 1) := by decide +kernel
theorem dX10_shifts_9 : decode cX10_shifts 9 = .ok (.aload_n 0, 1) := by decide +kernel
theorem dX10_shifts_10 : decode cX10_shifts 10 = .ok (.iload_n 1, 1) := by decide +kernel
theorem dX10_shifts_11 : decode cX10_shifts 11 = .ok (.iload_n 2, 1) := by decide +kernel
theorem dX10_shifts_12 : decode cX10_shifts 12 = .ok (.iadd, 1) := by decide +kernel
theorem dX10_shifts_13 : decode cX10_shifts 13 = .ok (.iaload, 1) := by decide +kernel
theorem dX10_shifts_14 : decode cX10_shifts 14 = .ok (.iastore, 1) := by decide +kernel
theorem dX10_shifts_15 : decode cX10_shifts 15 = .ok (.iinc 2 1, 3) := by decide +kernel
theorem dX10_shifts_18 : decode cX10_shifts 18 = .ok (.goto (-16), 3) := by decide +kernel
theorem dX10_shifts_21 : decode cX10_shifts 21 = .ok (.return_, 1) := by decide +kernel
theorem dX10_shiftsNames_0 : decode cX10_shiftsNames 0 = .ok (.iconst 0, 1) := by decide +kernel
theorem dX10_shiftsNames_1 : decode cX10_shiftsNames 1 = .ok (.istore_n 2, 1) := by decide +kernel
theorem dX10_shiftsNames_2 : decode cX10_shiftsNames 2 = .ok (.iload_n 2, 1) := by decide +kernel
theorem dX10_shiftsNames_3 : decode cX10_shiftsNames 3 = .ok (.iload_n 1, 1) := by decide +kernel
theorem dX10_shiftsNames_4 : decode cX10_shiftsNames 4 = .ok (.if_icmp .ge 17, 3) := by decide +kernel
theorem dX10_shiftsNames_7 : decode cX10_shiftsNames 7 = .ok (.aload_n 0, 1) := by decide +kernel
theorem dX10_shiftsNames_8 : decode cX10_shiftsNames 8 = .ok (.iload_n 2, 1) := by decide +kernel
theorem dX10_shiftsNames_9 : decode cX10_shiftsNames 9 = .ok (.aload_n 0, 1) := by decide +kernel
theorem dX10_shiftsNames_10 : decode cX10_shiftsNames 10 = .ok (.iload_n 1, 1) := by decide +kernel
theorem dX10_shiftsNames_11 : decode cX10_shiftsNames 11 = .ok (.iload_n 2, 1) := by decide +kernel
theorem dX10_shiftsNames_12 : decode cX10_shiftsNames 12 = .ok (.iadd, 1) := by decide +kernel
theorem dX10_shiftsNames_13 : decode cX10_shiftsNames 13 = .ok (.laload, 1) := by decide +kernel
theorem dX10_shiftsNames_14 : decode cX10_shiftsNames 14 = .ok (.lastore, 1) := by decide +kernel
theorem dX10_shiftsNames_15 : decode cX10_shiftsNames 15 = .ok (.iinc 2 1, 3) := by decide +kernel
theorem dX10_shiftsNames_18 : decode cX10_shiftsNames 18 = .ok (.goto (-16), 3) := by decide +kernel
theorem dX10_shiftsNames_21 : decode cX10_shiftsNames 21 = .ok (.return_, 1) := by decide +kernel
theorem dX10_lays_0 : decode cX10_lays 0 = .ok (.aload_n 0, 1) := by decide +kernel
theorem dX10_lays_1 : decode cX10_lays 1 = .ok (.getfield 13, 3) := by decide +kernel
theorem dX10_lays_4 : decode cX10_lays 4 = .ok (.bipush 6, 2) := by decide +kernel
theorem dX10_lays_6 : decode cX10_lays 6 = .ok (.invokestatic 369, 3) := by decide +kernel
theorem dX10_lays_9 : decode cX10_lays 9 = .ok (.aload_n 0, 1) := by decide +kernel
theorem dX10_lays_10 : decode cX10_lays 10 = .ok (.getfield 16, 3) := by decide +kernel
theorem dX10_lays_13 : decode cX10_lays 13 = .ok (.bipush 7, 2) := by decide +kernel
theorem dX10_lays_15 : decode cX10_lays 15 = .ok (.invokestatic 373, 3) := by decide +kernel
theorem dX10_lays_18 : decode cX10_lays 18 = .ok (.aload_n 0, 1) := by decide +kernel
theorem dX10_lays_19 : decode cX10_lays 19 = .ok (.getfield 20, 3) := by decide +kernel
theorem dX10_lays_22 : decode cX10_lays 22 = .ok (.iconst 5, 1) := by decide +kernel
theorem dX10_lays_23 : decode cX10_lays 23 = .ok (.invokestatic 373, 3) := by decide +kernel
theorem dX10_lays_26 : decode cX10_lays 26 = .ok (.aload_n 0, 1) := by decide +kernel
theorem dX10_lays_27 : decode cX10_lays 27 = .ok (.getfield 23, 3) := by decide +kernel
theorem dX10_lays_30 : decode cX10_lays 30 = .ok (.iconst 3, 1) := by decide +kernel
theorem dX10_lays_31 : decode cX10_lays 31 = .ok (.invokestatic 373, 3) := by decide +kernel
theorem dX10_lays_34 : decode cX10_lays 34 = .ok (.aload_n 0, 1) := by decide +kernel
theorem dX10_lays_35 : decode cX10_lays 35 = .ok (.getfield 26, 3) := by decide +kernel
theorem dX10_lays_38 : decode cX10_lays 38 = .ok (.bipush 6, 2) := by decide +kernel
theorem dX10_lays_40 : decode cX10_lays 40 = .ok (.invokestatic 373, 3) := by decide +kernel
theorem dX10_lays_43 : decode cX10_lays 43 = .ok (.aload_n 0, 1) := by decide +kernel
theorem dX10_lays_44 : decode cX10_lays 44 = .ok (.getfield 29, 3) := by decide +kernel
theorem dX10_lays_47 : decode cX10_lays 47 = .ok (.bipush 7, 2) := by decide +kernel
theorem dX10_lays_49 : decode cX10_lays 49 = .ok (.invokestatic 369, 3) := by decide +kernel
theorem dX10_lays_52 : decode cX10_lays 52 = .ok (.aload_n 0, 1) := by decide +kernel
theorem dX10_lays_53 : decode cX10_lays 53 = .ok (.getfield 32, 3) := by decide +kernel
theorem dX10_lays_56 : decode cX10_lays 56 = .ok (.bipush 7, 2) := by decide +kernel
theorem dX10_lays_58 : decode cX10_lays 58 = .ok (.invokestatic 369, 3) := by decide +kernel
theorem dX10_lays_61 : decode cX10_lays 61 = .ok (.aload_n 0, 1) := by decide +kernel
theorem dX10_lays_62 : decode cX10_lays 62 = .ok (.getfield 35, 3) := by decide +kernel
theorem dX10_lays_65 : decode cX10_lays 65 = .ok (.iconst 5, 1) := by decide +kernel
theorem dX10_lays_66 : decode cX10_lays 66 = .ok (.invokestatic 369, 3) := by decide +kernel
theorem dX10_lays_69 : decode cX10_lays 69 = .ok (.aload_n 0, 1) := by decide +kernel
theorem dX10_lays_70 : decode cX10_lays 70 = .ok (.getfield 38, 3) := by decide +kernel
theorem dX10_lays_73 : decode cX10_lays 73 = .ok (.iconst 5, 1) := by decide +kernel
theorem dX10_lays_74 : decode cX10_lays 74 = .ok (.invokestatic 369, 3) := by decide +kernel
theorem dX10_lays_77 : decode cX10_lays 77 = .ok (.aload_n 0, 1) := by decide +kernel
theorem dX10_lays_78 : decode cX10_lays 78 = .ok (.getfield 41, 3) := by decide +kernel
theorem dX10_lays_81 : decode cX10_lays 81 = .ok (.iconst 3, 1) := by decide +kernel
theorem dX10_lays_82 : decode cX10_lays 82 = .ok (.invokestatic 369, 3) := by decide +kernel
theorem dX10_lays_85 : decode cX10_lays 85 = .ok (.aload_n 0, 1) := by decide +kernel
theorem dX10_lays_86 : decode cX10_lays 86 = .ok (.getfield 44, 3) := by decide +kernel
theorem dX10_lays_89 : decode cX10_lays 89 = .ok (.iconst 3, 1) := by decide +kernel
theorem dX10_lays_90 : decode cX10_lays 90 = .ok (.invokestatic 369, 3) := by decide +kernel
theorem dX10_lays_93 : decode cX10_lays 93 = .ok (.aload_n 0, 1) := by decide +kernel
theorem dX10_lays_94 : decode cX10_lays 94 = .ok (.getfield 47, 3) := by decide +kernel
theorem dX10_lays_97 : decode cX10_lays 97 = .ok (.bipush 6, 2) := by decide +kernel
theorem dX10_lays_99 : decode cX10_lays 99 = .ok (.invokestatic 369, 3) := by decide +kernel
theorem dX10_lays_102 : decode cX10_lays 102 = .ok (.aload_n 0, 1) := by decide +kernel
theorem dX10_lays_103 : decode cX10_lays 103 = .ok (.getfield 50, 3) := by decide +kernel
theorem dX10_lays_106 : decode cX10_lays 106 = .ok (.bipush 6, 2) := by decide +kernel
theorem dX10_lays_108 : decode cX10_lays 108 = .ok (.invokestatic 369, 3) := by decide +kernel
theorem dX10_lays_111 : decode cX10_lays 111 = .ok (.aload_n 0, 1) := by decide +kernel
theorem dX10_lays_112 : decode cX10_lays 112 = .ok (.getfield 53, 3) := by decide +kernel
theorem dX10_lays_115 : decode cX10_lays 115 = .ok (.bipush 12, 2) := by decide +kernel
theorem dX10_lays_117 : decode cX10_lays 117 = .ok (.invokestatic 369, 3) := by decide +kernel
theorem dX10_lays_120 : decode cX10_lays 120 = .ok (.aload_n 0, 1) := by decide +kernel
theorem dX10_lays_121 : decode cX10_lays 121 = .ok (.getfield 62, 3) := by decide +kernel
theorem dX10_lays_124 : decode cX10_lays 124 = .ok (.sipush 1000, 3) := by decide +kernel
theorem dX10_lays_127 : decode cX10_lays 127 = .ok (.invokestatic 369, 3) := by decide +kernel
theorem dX10_lays_130 : decode cX10_lays 130 = .ok (.aload_n 0, 1) := by decide +kernel
theorem dX10_lays_131 : decode cX10_lays 131 = .ok (.getfield 56, 3) := by decide +kernel
theorem dX10_lays_134 : decode cX10_lays 134 = .ok (.iconst 0, 1) := by decide +kernel
theorem dX10_lays_135 : decode cX10_lays 135 = .ok (.aload_n 0, 1) := by decide +kernel
theorem dX10_lays_136 : decode cX10_lays 136 = .ok (.getfield 56, 3) := by decide +kernel
theorem dX10_lays_139 : decode cX10_lays 139 = .ok (.iconst 1, 1) := by decide +kernel
theorem dX10_lays_140 : decode cX10_lays 140 = .ok (.iaload, 1) := by decide +kernel
theorem dX10_lays_141 : decode cX10_lays 141 = .ok (.sipush 1000, 3) := by decide +kernel
theorem dX10_lays_144 : decode cX10_lays 144 = .ok (.isub, 1) := by decide +kernel
theorem dX10_lays_145 : decode cX10_lays 145 = .ok (.iastore, 1) := by decide +kernel
theorem dX10_lays_146 : decode cX10_lays 146 = .ok (.aload_n 0, 1) := by decide +kernel
theorem dX10_lays_147 : decode cX10_lays 147 = .ok (.getfield 59, 3) := by decide +kernel
theorem dX10_lays_150 : decode cX10_lays 150 = .ok (.iconst 0, 1) := by decide +kernel
theorem dX10_lays_151 : decode cX10_lays 151 = .ok (.aload_n 0, 1) := by decide +kernel
theorem dX10_lays_152 : decode cX10_lays 152 = .ok (.getfield 59, 3) := by decide +kernel
theorem dX10_lays_155 : decode cX10_lays 155 = .ok (.iconst 1, 1) := by decide +kernel
theorem dX10_lays_156 : decode cX10_lays 156 = .ok (.iaload, 1) := by decide +kernel
theorem dX10_lays_157 : decode cX10_lays 157 = .ok (.sipush 1000, 3) := by decide +kernel
theorem dX10_lays_160 : decode cX10_lays 160 = .ok (.isub, 1) := by decide +kernel
theorem dX10_lays_161 : decode cX10_lays 161 = .ok (.iastore, 1) := by decide +kernel
theorem dX10_lays_162 : decode cX10_lays 162 = .ok (.return_, 1) := by decide +kernel
theorem dX10_copies_0 : decode cX10_copies 0 = .ok (.iconst 0, 1) := by decide +kernel
theorem dX10_copies_1 : decode cX10_copies 1 = .ok (.istore 4, 2) := by decide +kernel
theorem dX10_copies_3 : decode cX10_copies 3 = .ok (.iload 4, 2) := by decide +kernel
theorem dX10_copies_5 : decode cX10_copies 5 = .ok (.bipush 25, 2) := by decide +kernel
theorem dX10_copies_7 : decode cX10_copies 7 = .ok (.if_icmp .ge 21, 3) := by decide +kernel
theorem dX10_copies_10 : decode cX10_copies 10 = .ok (.aload_n 2, 1) := by decide +kernel
theorem dX10_copies_11 : decode cX10_copies 11 = .ok (.iload_n 3, 1) := by decide +kernel
theorem dX10_copies_12 : decode cX10_copies 12 = .ok (.iload 4, 2) := by decide +kernel
theorem dX10_copies_14 : decode cX10_copies 14 = .ok (.iadd, 1) := by decide +kernel
theorem dX10_copies_15 : decode cX10_copies 15 = .ok (.aload_n 0, 1) := by decide +kernel
theorem dX10_copies_16 : decode cX10_copies 16 = .ok (.iload_n 1, 1) := by decide +kernel
theorem dX10_copies_17 : decode cX10_copies 17 = .ok (.iload 4, 2) := by decide +kernel
theorem dX10_copies_19 : decode cX10_copies 19 = .ok (.iadd, 1) := by decide +kernel
theorem dX10_copies_20 : decode cX10_copies 20 = .ok (.iaload, 1) := by decide +kernel
theorem dX10_copies_21 : decode cX10_copies 21 = .ok (.iastore, 1) := by decide +kernel
theorem dX10_copies_22 : decode cX10_copies 22 = .ok (.iinc 4 1, 3) := by decide +kernel
theorem dX10_copies_25 : decode cX10_copies 25 = .ok (.goto (-22), 3) := by decide +kernel
theorem dX10_copies_28 : decode cX10_copies 28 = .ok (.return_, 1) := by decide +kernel
theorem dX10_readsLine_0 : decode cX10_readsLine 0 = .ok (.aload_n 0, 1) := by decide +kernel
theorem dX10_readsLine_1 : decode cX10_readsLine 1 = .ok (.ldc2_w 273, 3) := by decide +kernel
theorem dX10_readsLine_4 : decode cX10_readsLine 4 = .ok (.invokevirtual 218, 3) := by decide +kernel
theorem dX10_readsLine_7 : decode cX10_readsLine 7 = .ok (.ifCond .eq 7, 3) := by decide +kernel
theorem dX10_readsLine_10 : decode cX10_readsLine 10 = .ok (.iconst 0, 1) := by decide +kernel
theorem dX10_readsLine_11 : decode cX10_readsLine 11 = .ok (.goto 46, 3) := by decide +kernel
theorem dX10_readsLine_14 : decode cX10_readsLine 14 = .ok (.aload_n 0, 1) := by decide +kernel
theorem dX10_readsLine_15 : decode cX10_readsLine 15 = .ok (.ldc2_w 275, 3) := by decide +kernel
theorem dX10_readsLine_18 : decode cX10_readsLine 18 = .ok (.invokevirtual 218, 3) := by decide +kernel
theorem dX10_readsLine_21 : decode cX10_readsLine 21 = .ok (.ifCond .eq 7, 3) := by decide +kernel
theorem dX10_readsLine_24 : decode cX10_readsLine 24 = .ok (.iconst 1, 1) := by decide +kernel
theorem dX10_readsLine_25 : decode cX10_readsLine 25 = .ok (.goto 32, 3) := by decide +kernel
theorem dX10_readsLine_28 : decode cX10_readsLine 28 = .ok (.aload_n 0, 1) := by decide +kernel
theorem dX10_readsLine_29 : decode cX10_readsLine 29 = .ok (.ldc2_w 277, 3) := by decide +kernel
theorem dX10_readsLine_32 : decode cX10_readsLine 32 = .ok (.invokevirtual 218, 3) := by decide +kernel
theorem dX10_readsLine_35 : decode cX10_readsLine 35 = .ok (.ifCond .eq 7, 3) := by decide +kernel
theorem dX10_readsLine_38 : decode cX10_readsLine 38 = .ok (.iconst 2, 1) := by decide +kernel
theorem dX10_readsLine_39 : decode cX10_readsLine 39 = .ok (.goto 18, 3) := by decide +kernel
theorem dX10_readsLine_42 : decode cX10_readsLine 42 = .ok (.aload_n 0, 1) := by decide +kernel
theorem dX10_readsLine_43 : decode cX10_readsLine 43 = .ok (.ldc2_w 279, 3) := by decide +kernel
theorem dX10_readsLine_46 : decode cX10_readsLine 46 = .ok (.invokevirtual 218, 3) := by decide +kernel
theorem dX10_readsLine_49 : decode cX10_readsLine 49 = .ok (.ifCond .eq 7, 3) := by decide +kernel
theorem dX10_readsLine_52 : decode cX10_readsLine 52 = .ok (.iconst 3, 1) := by decide +kernel
theorem dX10_readsLine_53 : decode cX10_readsLine 53 = .ok (.goto 4, 3) := by decide +kernel
theorem dX10_readsLine_56 : decode cX10_readsLine 56 = .ok (.iconst (-1), 1) := by decide +kernel
theorem dX10_readsLine_57 : decode cX10_readsLine 57 = .ok (.istore_n 1, 1) := by decide +kernel
theorem dX10_readsLine_58 : decode cX10_readsLine 58 = .ok (.iload_n 1, 1) := by decide +kernel
theorem dX10_readsLine_59 : decode cX10_readsLine 59 = .ok (.ifCond .ge 9, 3) := by decide +kernel
theorem dX10_readsLine_62 : decode cX10_readsLine 62 = .ok (.aload_n 0, 1) := by decide +kernel
theorem dX10_readsLine_63 : decode cX10_readsLine 63 = .ok (.iconst 1, 1) := by decide +kernel
theorem dX10_readsLine_64 : decode cX10_readsLine 64 = .ok (.invokevirtual 226, 3) := by decide +kernel
theorem dX10_readsLine_67 : decode cX10_readsLine 67 = .ok (.ireturn, 1) := by decide +kernel
theorem dX10_readsLine_68 : decode cX10_readsLine 68 = .ok (.aload_n 0, 1) := by decide +kernel
theorem dX10_readsLine_69 : decode cX10_readsLine 69 = .ok (.getfield 102, 3) := by decide +kernel
theorem dX10_readsLine_72 : decode cX10_readsLine 72 = .ok (.iconst 5, 1) := by decide +kernel
theorem dX10_readsLine_73 : decode cX10_readsLine 73 = .ok (.iaload, 1) := by decide +kernel
theorem dX10_readsLine_74 : decode cX10_readsLine 74 = .ok (.bipush 40, 2) := by decide +kernel
theorem dX10_readsLine_76 : decode cX10_readsLine 76 = .ok (.if_icmp .ne 9, 3) := by decide +kernel
theorem dX10_readsLine_79 : decode cX10_readsLine 79 = .ok (.aload_n 0, 1) := by decide +kernel
theorem dX10_readsLine_80 : decode cX10_readsLine 80 = .ok (.iconst 5, 1) := by decide +kernel
theorem dX10_readsLine_81 : decode cX10_readsLine 81 = .ok (.invokevirtual 226, 3) := by decide +kernel
theorem dX10_readsLine_84 : decode cX10_readsLine 84 = .ok (.ireturn, 1) := by decide +kernel
theorem dX10_readsLine_85 : decode cX10_readsLine 85 = .ok (.aload_n 0, 1) := by decide +kernel
theorem dX10_readsLine_86 : decode cX10_readsLine 86 = .ok (.invokevirtual 233, 3) := by decide +kernel
theorem dX10_readsLine_89 : decode cX10_readsLine 89 = .ok (.sipush 200, 3) := by decide +kernel
theorem dX10_readsLine_92 : decode cX10_readsLine 92 = .ok (.aload_n 0, 1) := by decide +kernel
theorem dX10_readsLine_93 : decode cX10_readsLine 93 = .ok (.getfield 102, 3) := by decide +kernel
theorem dX10_readsLine_96 : decode cX10_readsLine 96 = .ok (.iconst 5, 1) := by decide +kernel
theorem dX10_readsLine_97 : decode cX10_readsLine 97 = .ok (.iaload, 1) := by decide +kernel
theorem dX10_readsLine_98 : decode cX10_readsLine 98 = .ok (.iadd, 1) := by decide +kernel
theorem dX10_readsLine_99 : decode cX10_readsLine 99 = .ok (.istore_n 2, 1) := by decide +kernel
theorem dX10_readsLine_100 : decode cX10_readsLine 100 = .ok (.aload_n 0, 1) := by decide +kernel
theorem dX10_readsLine_101 : decode cX10_readsLine 101 = .ok (.getfield 105, 3) := by decide +kernel
theorem dX10_readsLine_104 : decode cX10_readsLine 104 = .ok (.iload_n 2, 1) := by decide +kernel
theorem dX10_readsLine_105 : decode cX10_readsLine 105 = .ok (.iload_n 1, 1) := by decide +kernel
theorem dX10_readsLine_106 : decode cX10_readsLine 106 = .ok (.iastore, 1) := by decide +kernel
theorem dX10_readsLine_107 : decode cX10_readsLine 107 = .ok (.iload_n 1, 1) := by decide +kernel
theorem dX10_readsLine_108 : decode cX10_readsLine 108 = .ok (.iconst 1, 1) := by decide +kernel
theorem dX10_readsLine_109 : decode cX10_readsLine 109 = .ok (.if_icmp .eq 8, 3) := by decide +kernel
theorem dX10_readsLine_112 : decode cX10_readsLine 112 = .ok (.iload_n 1, 1) := by decide +kernel
theorem dX10_readsLine_113 : decode cX10_readsLine 113 = .ok (.iconst 2, 1) := by decide +kernel
theorem dX10_readsLine_114 : decode cX10_readsLine 114 = .ok (.if_icmp .ne 27, 3) := by decide +kernel
theorem dX10_readsLine_117 : decode cX10_readsLine 117 = .ok (.aload_n 0, 1) := by decide +kernel
theorem dX10_readsLine_118 : decode cX10_readsLine 118 = .ok (.aload_n 0, 1) := by decide +kernel
theorem dX10_readsLine_119 : decode cX10_readsLine 119 = .ok (.iconst 0, 1) := by decide +kernel
theorem dX10_readsLine_120 : decode cX10_readsLine 120 = .ok (.invokevirtual 317, 3) := by decide +kernel
theorem dX10_readsLine_123 : decode cX10_readsLine 123 = .ok (.invokevirtual 339, 3) := by decide +kernel
theorem dX10_readsLine_126 : decode cX10_readsLine 126 = .ok (.ifCond .ne 5, 3) := by decide +kernel
theorem dX10_readsLine_129 : decode cX10_readsLine 129 = .ok (.iconst 0, 1) := by decide +kernel
theorem dX10_readsLine_130 : decode cX10_readsLine 130 = .ok (.ireturn, 1) := by decide +kernel
theorem dX10_readsLine_131 : decode cX10_readsLine 131 = .ok (.aload_n 0, 1) := by decide +kernel
theorem dX10_readsLine_132 : decode cX10_readsLine 132 = .ok (.getfield 108, 3) := by decide +kernel
theorem dX10_readsLine_135 : decode cX10_readsLine 135 = .ok (.iload_n 2, 1) := by decide +kernel
theorem dX10_readsLine_136 : decode cX10_readsLine 136 = .ok (.aload_n 0, 1) := by decide +kernel
theorem dX10_readsLine_137 : decode cX10_readsLine 137 = .ok (.getfield 297, 3) := by decide +kernel
theorem dX10_readsLine_140 : decode cX10_readsLine 140 = .ok (.iastore, 1) := by decide +kernel
theorem dX10_readsLine_141 : decode cX10_readsLine 141 = .ok (.iload_n 1, 1) := by decide +kernel
theorem dX10_readsLine_142 : decode cX10_readsLine 142 = .ok (.ifCond .eq 40, 3) := by decide +kernel
theorem dX10_readsLine_145 : decode cX10_readsLine 145 = .ok (.aload_n 0, 1) := by decide +kernel
theorem dX10_readsLine_146 : decode cX10_readsLine 146 = .ok (.iload_n 1, 1) := by decide +kernel
theorem dX10_readsLine_147 : decode cX10_readsLine 147 = .ok (.iconst 2, 1) := by decide +kernel
theorem dX10_readsLine_148 : decode cX10_readsLine 148 = .ok (.if_icmp .ne 11, 3) := by decide +kernel
theorem dX10_readsLine_151 : decode cX10_readsLine 151 = .ok (.aload_n 0, 1) := by decide +kernel
theorem dX10_readsLine_152 : decode cX10_readsLine 152 = .ok (.iconst 0, 1) := by decide +kernel
theorem dX10_readsLine_153 : decode cX10_readsLine 153 = .ok (.invokevirtual 311, 3) := by decide +kernel
theorem dX10_readsLine_156 : decode cX10_readsLine 156 = .ok (.goto 8, 3) := by decide +kernel
theorem dX10_readsLine_159 : decode cX10_readsLine 159 = .ok (.aload_n 0, 1) := by decide +kernel
theorem dX10_readsLine_160 : decode cX10_readsLine 160 = .ok (.iconst 0, 1) := by decide +kernel
theorem dX10_readsLine_161 : decode cX10_readsLine 161 = .ok (.invokevirtual 320, 3) := by decide +kernel
theorem dX10_readsLine_164 : decode cX10_readsLine 164 = .ok (.invokevirtual 339, 3) := by decide +kernel
theorem dX10_readsLine_167 : decode cX10_readsLine 167 = .ok (.ifCond .ne 5, 3) := by decide +kernel
theorem dX10_readsLine_170 : decode cX10_readsLine 170 = .ok (.iconst 0, 1) := by decide +kernel
theorem dX10_readsLine_171 : decode cX10_readsLine 171 = .ok (.ireturn, 1) := by decide +kernel
theorem dX10_readsLine_172 : decode cX10_readsLine 172 = .ok (.aload_n 0, 1) := by decide +kernel
theorem dX10_readsLine_173 : decode cX10_readsLine 173 = .ok (.getfield 111, 3) := by decide +kernel
theorem dX10_readsLine_176 : decode cX10_readsLine 176 = .ok (.iload_n 2, 1) := by decide +kernel
theorem dX10_readsLine_177 : decode cX10_readsLine 177 = .ok (.aload_n 0, 1) := by decide +kernel
theorem dX10_readsLine_178 : decode cX10_readsLine 178 = .ok (.getfield 297, 3) := by decide +kernel
theorem dX10_readsLine_181 : decode cX10_readsLine 181 = .ok (.iastore, 1) := by decide +kernel
theorem dX10_readsLine_182 : decode cX10_readsLine 182 = .ok (.aload_n 0, 1) := by decide +kernel
theorem dX10_readsLine_183 : decode cX10_readsLine 183 = .ok (.getfield 102, 3) := by decide +kernel
theorem dX10_readsLine_186 : decode cX10_readsLine 186 = .ok (.iconst 5, 1) := by decide +kernel
theorem dX10_readsLine_187 : decode cX10_readsLine 187 = .ok (.dup2, 1) := by decide +kernel
theorem dX10_readsLine_188 : decode cX10_readsLine 188 = .ok (.iaload, 1) := by decide +kernel
theorem dX10_readsLine_189 : decode cX10_readsLine 189 = .ok (.iconst 1, 1) := by decide +kernel
theorem dX10_readsLine_190 : decode cX10_readsLine 190 = .ok (.iadd, 1) := by decide +kernel
theorem dX10_readsLine_191 : decode cX10_readsLine 191 = .ok (.iastore, 1) := by decide +kernel
theorem dX10_readsLine_192 : decode cX10_readsLine 192 = .ok (.aload_n 0, 1) := by decide +kernel
theorem dX10_readsLine_193 : decode cX10_readsLine 193 = .ok (.invokevirtual 336, 3) := by decide +kernel
theorem dX10_readsLine_196 : decode cX10_readsLine 196 = .ok (.ireturn, 1) := by decide +kernel
theorem dX10_laysLines_0 : decode cX10_laysLines 0 = .ok (.aload_n 0, 1) := by decide +kernel
theorem dX10_laysLines_1 : decode cX10_laysLines 1 = .ok (.getfield 102, 3) := by decide +kernel
theorem dX10_laysLines_4 : decode cX10_laysLines 4 = .ok (.iload_n 2, 1) := by decide +kernel
theorem dX10_laysLines_5 : decode cX10_laysLines 5 = .ok (.aload_n 0, 1) := by decide +kernel
theorem dX10_laysLines_6 : decode cX10_laysLines 6 = .ok (.getfield 102, 3) := by decide +kernel
theorem dX10_laysLines_9 : decode cX10_laysLines 9 = .ok (.iload_n 1, 1) := by decide +kernel
theorem dX10_laysLines_10 : decode cX10_laysLines 10 = .ok (.iaload, 1) := by decide +kernel
theorem dX10_laysLines_11 : decode cX10_laysLines 11 = .ok (.iastore, 1) := by decide +kernel
theorem dX10_laysLines_12 : decode cX10_laysLines 12 = .ok (.iconst 0, 1) := by decide +kernel
theorem dX10_laysLines_13 : decode cX10_laysLines 13 = .ok (.istore_n 3, 1) := by decide +kernel
theorem dX10_laysLines_14 : decode cX10_laysLines 14 = .ok (.iload_n 3, 1) := by decide +kernel
theorem dX10_laysLines_15 : decode cX10_laysLines 15 = .ok (.bipush 40, 2) := by decide +kernel
theorem dX10_laysLines_17 : decode cX10_laysLines 17 = .ok (.if_icmp .ge 75, 3) := by decide +kernel
theorem dX10_laysLines_20 : decode cX10_laysLines 20 = .ok (.aload_n 0, 1) := by decide +kernel
theorem dX10_laysLines_21 : decode cX10_laysLines 21 = .ok (.getfield 105, 3) := by decide +kernel
theorem dX10_laysLines_24 : decode cX10_laysLines 24 = .ok (.bipush 40, 2) := by decide +kernel
theorem dX10_laysLines_26 : decode cX10_laysLines 26 = .ok (.iload_n 2, 1) := by decide +kernel
theorem dX10_laysLines_27 : decode cX10_laysLines 27 = .ok (.imul, 1) := by decide +kernel
theorem dX10_laysLines_28 : decode cX10_laysLines 28 = .ok (.iload_n 3, 1) := by decide +kernel
theorem dX10_laysLines_29 : decode cX10_laysLines 29 = .ok (.iadd, 1) := by decide +kernel
theorem dX10_laysLines_30 : decode cX10_laysLines 30 = .ok (.aload_n 0, 1) := by decide +kernel
theorem dX10_laysLines_31 : decode cX10_laysLines 31 = .ok (.getfield 105, 3) := by decide +kernel
theorem dX10_laysLines_34 : decode cX10_laysLines 34 = .ok (.bipush 40, 2) := by decide +kernel
theorem dX10_laysLines_36 : decode cX10_laysLines 36 = .ok (.iload_n 1, 1) := by decide +kernel
theorem dX10_laysLines_37 : decode cX10_laysLines 37 = .ok (.imul, 1) := by decide +kernel
theorem dX10_laysLines_38 : decode cX10_laysLines 38 = .ok (.iload_n 3, 1) := by decide +kernel
theorem dX10_laysLines_39 : decode cX10_laysLines 39 = .ok (.iadd, 1) := by decide +kernel
theorem dX10_laysLines_40 : decode cX10_laysLines 40 = .ok (.iaload, 1) := by decide +kernel
theorem dX10_laysLines_41 : decode cX10_laysLines 41 = .ok (.iastore, 1) := by decide +kernel
theorem dX10_laysLines_42 : decode cX10_laysLines 42 = .ok (.aload_n 0, 1) := by decide +kernel
theorem dX10_laysLines_43 : decode cX10_laysLines 43 = .ok (.getfield 108, 3) := by decide +kernel
theorem dX10_laysLines_46 : decode cX10_laysLines 46 = .ok (.bipush 40, 2) := by decide +kernel
theorem dX10_laysLines_48 : decode cX10_laysLines 48 = .ok (.iload_n 2, 1) := by decide +kernel
theorem dX10_laysLines_49 : decode cX10_laysLines 49 = .ok (.imul, 1) := by decide +kernel
theorem dX10_laysLines_50 : decode cX10_laysLines 50 = .ok (.iload_n 3, 1) := by decide +kernel
theorem dX10_laysLines_51 : decode cX10_laysLines 51 = .ok (.iadd, 1) := by decide +kernel
theorem dX10_laysLines_52 : decode cX10_laysLines 52 = .ok (.aload_n 0, 1) := by decide +kernel
theorem dX10_laysLines_53 : decode cX10_laysLines 53 = .ok (.getfield 108, 3) := by decide +kernel
theorem dX10_laysLines_56 : decode cX10_laysLines 56 = .ok (.bipush 40, 2) := by decide +kernel
theorem dX10_laysLines_58 : decode cX10_laysLines 58 = .ok (.iload_n 1, 1) := by decide +kernel
theorem dX10_laysLines_59 : decode cX10_laysLines 59 = .ok (.imul, 1) := by decide +kernel
theorem dX10_laysLines_60 : decode cX10_laysLines 60 = .ok (.iload_n 3, 1) := by decide +kernel
theorem dX10_laysLines_61 : decode cX10_laysLines 61 = .ok (.iadd, 1) := by decide +kernel
theorem dX10_laysLines_62 : decode cX10_laysLines 62 = .ok (.iaload, 1) := by decide +kernel
theorem dX10_laysLines_63 : decode cX10_laysLines 63 = .ok (.iastore, 1) := by decide +kernel
theorem dX10_laysLines_64 : decode cX10_laysLines 64 = .ok (.aload_n 0, 1) := by decide +kernel
theorem dX10_laysLines_65 : decode cX10_laysLines 65 = .ok (.getfield 111, 3) := by decide +kernel
theorem dX10_laysLines_68 : decode cX10_laysLines 68 = .ok (.bipush 40, 2) := by decide +kernel
theorem dX10_laysLines_70 : decode cX10_laysLines 70 = .ok (.iload_n 2, 1) := by decide +kernel
theorem dX10_laysLines_71 : decode cX10_laysLines 71 = .ok (.imul, 1) := by decide +kernel
theorem dX10_laysLines_72 : decode cX10_laysLines 72 = .ok (.iload_n 3, 1) := by decide +kernel
theorem dX10_laysLines_73 : decode cX10_laysLines 73 = .ok (.iadd, 1) := by decide +kernel
theorem dX10_laysLines_74 : decode cX10_laysLines 74 = .ok (.aload_n 0, 1) := by decide +kernel
theorem dX10_laysLines_75 : decode cX10_laysLines 75 = .ok (.getfield 111, 3) := by decide +kernel
theorem dX10_laysLines_78 : decode cX10_laysLines 78 = .ok (.bipush 40, 2) := by decide +kernel
theorem dX10_laysLines_80 : decode cX10_laysLines 80 = .ok (.iload_n 1, 1) := by decide +kernel
theorem dX10_laysLines_81 : decode cX10_laysLines 81 = .ok (.imul, 1) := by decide +kernel
theorem dX10_laysLines_82 : decode cX10_laysLines 82 = .ok (.iload_n 3, 1) := by decide +kernel
theorem dX10_laysLines_83 : decode cX10_laysLines 83 = .ok (.iadd, 1) := by decide +kernel
theorem dX10_laysLines_84 : decode cX10_laysLines 84 = .ok (.iaload, 1) := by decide +kernel
theorem dX10_laysLines_85 : decode cX10_laysLines 85 = .ok (.iastore, 1) := by decide +kernel
theorem dX10_laysLines_86 : decode cX10_laysLines 86 = .ok (.iinc 3 1, 3) := by decide +kernel
theorem dX10_laysLines_89 : decode cX10_laysLines 89 = .ok (.goto (-75), 3) := by decide +kernel
theorem dX10_laysLines_92 : decode cX10_laysLines 92 = .ok (.return_, 1) := by decide +kernel
theorem dX10_laysSeen_0 : decode cX10_laysSeen 0 = .ok (.aload_n 0, 1) := by decide +kernel
theorem dX10_laysSeen_1 : decode cX10_laysSeen 1 = .ok (.getfield 114, 3) := by decide +kernel
theorem dX10_laysSeen_4 : decode cX10_laysSeen 4 = .ok (.iload_n 2, 1) := by decide +kernel
theorem dX10_laysSeen_5 : decode cX10_laysSeen 5 = .ok (.aload_n 0, 1) := by decide +kernel
theorem dX10_laysSeen_6 : decode cX10_laysSeen 6 = .ok (.getfield 114, 3) := by decide +kernel
theorem dX10_laysSeen_9 : decode cX10_laysSeen 9 = .ok (.iload_n 1, 1) := by decide +kernel
theorem dX10_laysSeen_10 : decode cX10_laysSeen 10 = .ok (.iaload, 1) := by decide +kernel
theorem dX10_laysSeen_11 : decode cX10_laysSeen 11 = .ok (.iastore, 1) := by decide +kernel
theorem dX10_laysSeen_12 : decode cX10_laysSeen 12 = .ok (.iconst 0, 1) := by decide +kernel
theorem dX10_laysSeen_13 : decode cX10_laysSeen 13 = .ok (.istore_n 3, 1) := by decide +kernel
theorem dX10_laysSeen_14 : decode cX10_laysSeen 14 = .ok (.iload_n 3, 1) := by decide +kernel
theorem dX10_laysSeen_15 : decode cX10_laysSeen 15 = .ok (.bipush 8, 2) := by decide +kernel
theorem dX10_laysSeen_17 : decode cX10_laysSeen 17 = .ok (.if_icmp .ge 75, 3) := by decide +kernel
theorem dX10_laysSeen_20 : decode cX10_laysSeen 20 = .ok (.aload_n 0, 1) := by decide +kernel
theorem dX10_laysSeen_21 : decode cX10_laysSeen 21 = .ok (.getfield 117, 3) := by decide +kernel
theorem dX10_laysSeen_24 : decode cX10_laysSeen 24 = .ok (.bipush 8, 2) := by decide +kernel
theorem dX10_laysSeen_26 : decode cX10_laysSeen 26 = .ok (.iload_n 2, 1) := by decide +kernel
theorem dX10_laysSeen_27 : decode cX10_laysSeen 27 = .ok (.imul, 1) := by decide +kernel
theorem dX10_laysSeen_28 : decode cX10_laysSeen 28 = .ok (.iload_n 3, 1) := by decide +kernel
theorem dX10_laysSeen_29 : decode cX10_laysSeen 29 = .ok (.iadd, 1) := by decide +kernel
theorem dX10_laysSeen_30 : decode cX10_laysSeen 30 = .ok (.aload_n 0, 1) := by decide +kernel
theorem dX10_laysSeen_31 : decode cX10_laysSeen 31 = .ok (.getfield 117, 3) := by decide +kernel
theorem dX10_laysSeen_34 : decode cX10_laysSeen 34 = .ok (.bipush 8, 2) := by decide +kernel
theorem dX10_laysSeen_36 : decode cX10_laysSeen 36 = .ok (.iload_n 1, 1) := by decide +kernel
theorem dX10_laysSeen_37 : decode cX10_laysSeen 37 = .ok (.imul, 1) := by decide +kernel
theorem dX10_laysSeen_38 : decode cX10_laysSeen 38 = .ok (.iload_n 3, 1) := by decide +kernel
theorem dX10_laysSeen_39 : decode cX10_laysSeen 39 = .ok (.iadd, 1) := by decide +kernel
theorem dX10_laysSeen_40 : decode cX10_laysSeen 40 = .ok (.iaload, 1) := by decide +kernel
theorem dX10_laysSeen_41 : decode cX10_laysSeen 41 = .ok (.iastore, 1) := by decide +kernel
theorem dX10_laysSeen_42 : decode cX10_laysSeen 42 = .ok (.aload_n 0, 1) := by decide +kernel
theorem dX10_laysSeen_43 : decode cX10_laysSeen 43 = .ok (.getfield 120, 3) := by decide +kernel
theorem dX10_laysSeen_46 : decode cX10_laysSeen 46 = .ok (.bipush 8, 2) := by decide +kernel
theorem dX10_laysSeen_48 : decode cX10_laysSeen 48 = .ok (.iload_n 2, 1) := by decide +kernel
theorem dX10_laysSeen_49 : decode cX10_laysSeen 49 = .ok (.imul, 1) := by decide +kernel
theorem dX10_laysSeen_50 : decode cX10_laysSeen 50 = .ok (.iload_n 3, 1) := by decide +kernel
theorem dX10_laysSeen_51 : decode cX10_laysSeen 51 = .ok (.iadd, 1) := by decide +kernel
theorem dX10_laysSeen_52 : decode cX10_laysSeen 52 = .ok (.aload_n 0, 1) := by decide +kernel
theorem dX10_laysSeen_53 : decode cX10_laysSeen 53 = .ok (.getfield 120, 3) := by decide +kernel
theorem dX10_laysSeen_56 : decode cX10_laysSeen 56 = .ok (.bipush 8, 2) := by decide +kernel
theorem dX10_laysSeen_58 : decode cX10_laysSeen 58 = .ok (.iload_n 1, 1) := by decide +kernel
theorem dX10_laysSeen_59 : decode cX10_laysSeen 59 = .ok (.imul, 1) := by decide +kernel
theorem dX10_laysSeen_60 : decode cX10_laysSeen 60 = .ok (.iload_n 3, 1) := by decide +kernel
theorem dX10_laysSeen_61 : decode cX10_laysSeen 61 = .ok (.iadd, 1) := by decide +kernel
theorem dX10_laysSeen_62 : decode cX10_laysSeen 62 = .ok (.iaload, 1) := by decide +kernel
theorem dX10_laysSeen_63 : decode cX10_laysSeen 63 = .ok (.iastore, 1) := by decide +kernel
theorem dX10_laysSeen_64 : decode cX10_laysSeen 64 = .ok (.aload_n 0, 1) := by decide +kernel
theorem dX10_laysSeen_65 : decode cX10_laysSeen 65 = .ok (.getfield 123, 3) := by decide +kernel
theorem dX10_laysSeen_68 : decode cX10_laysSeen 68 = .ok (.bipush 8, 2) := by decide +kernel
theorem dX10_laysSeen_70 : decode cX10_laysSeen 70 = .ok (.iload_n 2, 1) := by decide +kernel
theorem dX10_laysSeen_71 : decode cX10_laysSeen 71 = .ok (.imul, 1) := by decide +kernel
theorem dX10_laysSeen_72 : decode cX10_laysSeen 72 = .ok (.iload_n 3, 1) := by decide +kernel
theorem dX10_laysSeen_73 : decode cX10_laysSeen 73 = .ok (.iadd, 1) := by decide +kernel
theorem dX10_laysSeen_74 : decode cX10_laysSeen 74 = .ok (.aload_n 0, 1) := by decide +kernel
theorem dX10_laysSeen_75 : decode cX10_laysSeen 75 = .ok (.getfield 123, 3) := by decide +kernel
theorem dX10_laysSeen_78 : decode cX10_laysSeen 78 = .ok (.bipush 8, 2) := by decide +kernel
theorem dX10_laysSeen_80 : decode cX10_laysSeen 80 = .ok (.iload_n 1, 1) := by decide +kernel
theorem dX10_laysSeen_81 : decode cX10_laysSeen 81 = .ok (.imul, 1) := by decide +kernel
theorem dX10_laysSeen_82 : decode cX10_laysSeen 82 = .ok (.iload_n 3, 1) := by decide +kernel
theorem dX10_laysSeen_83 : decode cX10_laysSeen 83 = .ok (.iadd, 1) := by decide +kernel
theorem dX10_laysSeen_84 : decode cX10_laysSeen 84 = .ok (.baload, 1) := by decide +kernel
theorem dX10_laysSeen_85 : decode cX10_laysSeen 85 = .ok (.bastore, 1) := by decide +kernel
theorem dX10_laysSeen_86 : decode cX10_laysSeen 86 = .ok (.iinc 3 1, 3) := by decide +kernel
theorem dX10_laysSeen_89 : decode cX10_laysSeen 89 = .ok (.goto (-75), 3) := by decide +kernel
theorem dX10_laysSeen_92 : decode cX10_laysSeen 92 = .ok (.return_, 1) := by decide +kernel
theorem dX10_fresh0_0 : decode cX10_fresh0 0 = .ok (.iconst 0, 1) := by decide +kernel
theorem dX10_fresh0_1 : decode cX10_fresh0 1 = .ok (.istore_n 1, 1) := by decide +kernel
theorem dX10_fresh0_2 : decode cX10_fresh0 2 = .ok (.iload_n 1, 1) := by decide +kernel
theorem dX10_fresh0_3 : decode cX10_fresh0 3 = .ok (.bipush 25, 2) := by decide +kernel
theorem dX10_fresh0_5 : decode cX10_fresh0 5 = .ok (.if_icmp .ge 38, 3) := by decide +kernel
theorem dX10_fresh0_8 : decode cX10_fresh0 8 = .ok (.aload_n 0, 1) := by decide +kernel
theorem dX10_fresh0_9 : decode cX10_fresh0 9 = .ok (.getfield 126, 3) := by decide +kernel
theorem dX10_fresh0_12 : decode cX10_fresh0 12 = .ok (.iload_n 1, 1) := by decide +kernel
theorem dX10_fresh0_13 : decode cX10_fresh0 13 = .ok (.iload_n 1, 1) := by decide +kernel
theorem dX10_fresh0_14 : decode cX10_fresh0 14 = .ok (.bipush 8, 2) := by decide +kernel
theorem dX10_fresh0_16 : decode cX10_fresh0 16 = .ok (.if_icmp .lt 9, 3) := by decide +kernel
theorem dX10_fresh0_19 : decode cX10_fresh0 19 = .ok (.iload_n 1, 1) := by decide +kernel
theorem dX10_fresh0_20 : decode cX10_fresh0 20 = .ok (.bipush 16, 2) := by decide +kernel
theorem dX10_fresh0_22 : decode cX10_fresh0 22 = .ok (.if_icmp .lt 9, 3) := by decide +kernel
theorem dX10_fresh0_25 : decode cX10_fresh0 25 = .ok (.iload_n 1, 1) := by decide +kernel
theorem dX10_fresh0_26 : decode cX10_fresh0 26 = .ok (.bipush 19, 2) := by decide +kernel
theorem dX10_fresh0_28 : decode cX10_fresh0 28 = .ok (.if_icmp .lt 7, 3) := by decide +kernel
theorem dX10_fresh0_31 : decode cX10_fresh0 31 = .ok (.iconst (-1), 1) := by decide +kernel
theorem dX10_fresh0_32 : decode cX10_fresh0 32 = .ok (.goto 4, 3) := by decide +kernel
theorem dX10_fresh0_35 : decode cX10_fresh0 35 = .ok (.iconst 0, 1) := by decide +kernel
theorem dX10_fresh0_36 : decode cX10_fresh0 36 = .ok (.iastore, 1) := by decide +kernel
theorem dX10_fresh0_37 : decode cX10_fresh0 37 = .ok (.iinc 1 1, 3) := by decide +kernel
theorem dX10_fresh0_40 : decode cX10_fresh0 40 = .ok (.goto (-38), 3) := by decide +kernel
theorem dX10_fresh0_43 : decode cX10_fresh0 43 = .ok (.iconst 0, 1) := by decide +kernel
theorem dX10_fresh0_44 : decode cX10_fresh0 44 = .ok (.istore_n 1, 1) := by decide +kernel
theorem dX10_fresh0_45 : decode cX10_fresh0 45 = .ok (.iload_n 1, 1) := by decide +kernel
theorem dX10_fresh0_46 : decode cX10_fresh0 46 = .ok (.aload_n 0, 1) := by decide +kernel
theorem dX10_fresh0_47 : decode cX10_fresh0 47 = .ok (.getfield 13, 3) := by decide +kernel
theorem dX10_fresh0_50 : decode cX10_fresh0 50 = .ok (.iconst 0, 1) := by decide +kernel
theorem dX10_fresh0_51 : decode cX10_fresh0 51 = .ok (.iaload, 1) := by decide +kernel
theorem dX10_fresh0_52 : decode cX10_fresh0 52 = .ok (.if_icmp .ge 23, 3) := by decide +kernel
theorem dX10_fresh0_55 : decode cX10_fresh0 55 = .ok (.aload_n 0, 1) := by decide +kernel
theorem dX10_fresh0_56 : decode cX10_fresh0 56 = .ok (.getfield 126, 3) := by decide +kernel
theorem dX10_fresh0_59 : decode cX10_fresh0 59 = .ok (.iconst 1, 1) := by decide +kernel
theorem dX10_fresh0_60 : decode cX10_fresh0 60 = .ok (.iload_n 1, 1) := by decide +kernel
theorem dX10_fresh0_61 : decode cX10_fresh0 61 = .ok (.iadd, 1) := by decide +kernel
theorem dX10_fresh0_62 : decode cX10_fresh0 62 = .ok (.aload_n 0, 1) := by decide +kernel
theorem dX10_fresh0_63 : decode cX10_fresh0 63 = .ok (.getfield 29, 3) := by decide +kernel
theorem dX10_fresh0_66 : decode cX10_fresh0 66 = .ok (.iload_n 1, 1) := by decide +kernel
theorem dX10_fresh0_67 : decode cX10_fresh0 67 = .ok (.iaload, 1) := by decide +kernel
theorem dX10_fresh0_68 : decode cX10_fresh0 68 = .ok (.iastore, 1) := by decide +kernel
theorem dX10_fresh0_69 : decode cX10_fresh0 69 = .ok (.iinc 1 1, 3) := by decide +kernel
theorem dX10_fresh0_72 : decode cX10_fresh0 72 = .ok (.goto (-27), 3) := by decide +kernel
theorem dX10_fresh0_75 : decode cX10_fresh0 75 = .ok (.iconst 0, 1) := by decide +kernel
theorem dX10_fresh0_76 : decode cX10_fresh0 76 = .ok (.istore_n 1, 1) := by decide +kernel
theorem dX10_fresh0_77 : decode cX10_fresh0 77 = .ok (.iload_n 1, 1) := by decide +kernel
theorem dX10_fresh0_78 : decode cX10_fresh0 78 = .ok (.aload_n 0, 1) := by decide +kernel
theorem dX10_fresh0_79 : decode cX10_fresh0 79 = .ok (.getfield 13, 3) := by decide +kernel
theorem dX10_fresh0_82 : decode cX10_fresh0 82 = .ok (.iconst 2, 1) := by decide +kernel
theorem dX10_fresh0_83 : decode cX10_fresh0 83 = .ok (.iaload, 1) := by decide +kernel
theorem dX10_fresh0_84 : decode cX10_fresh0 84 = .ok (.if_icmp .ge 24, 3) := by decide +kernel
theorem dX10_fresh0_87 : decode cX10_fresh0 87 = .ok (.aload_n 0, 1) := by decide +kernel
theorem dX10_fresh0_88 : decode cX10_fresh0 88 = .ok (.getfield 126, 3) := by decide +kernel
theorem dX10_fresh0_91 : decode cX10_fresh0 91 = .ok (.bipush 8, 2) := by decide +kernel
theorem dX10_fresh0_93 : decode cX10_fresh0 93 = .ok (.iload_n 1, 1) := by decide +kernel
theorem dX10_fresh0_94 : decode cX10_fresh0 94 = .ok (.iadd, 1) := by decide +kernel
theorem dX10_fresh0_95 : decode cX10_fresh0 95 = .ok (.aload_n 0, 1) := by decide +kernel
theorem dX10_fresh0_96 : decode cX10_fresh0 96 = .ok (.getfield 38, 3) := by decide +kernel
theorem dX10_fresh0_99 : decode cX10_fresh0 99 = .ok (.iload_n 1, 1) := by decide +kernel
theorem dX10_fresh0_100 : decode cX10_fresh0 100 = .ok (.iaload, 1) := by decide +kernel
theorem dX10_fresh0_101 : decode cX10_fresh0 101 = .ok (.iastore, 1) := by decide +kernel
theorem dX10_fresh0_102 : decode cX10_fresh0 102 = .ok (.iinc 1 1, 3) := by decide +kernel
theorem dX10_fresh0_105 : decode cX10_fresh0 105 = .ok (.goto (-28), 3) := by decide +kernel
theorem dX10_fresh0_108 : decode cX10_fresh0 108 = .ok (.iconst 0, 1) := by decide +kernel
theorem dX10_fresh0_109 : decode cX10_fresh0 109 = .ok (.istore_n 1, 1) := by decide +kernel
theorem dX10_fresh0_110 : decode cX10_fresh0 110 = .ok (.iload_n 1, 1) := by decide +kernel
theorem dX10_fresh0_111 : decode cX10_fresh0 111 = .ok (.aload_n 0, 1) := by decide +kernel
theorem dX10_fresh0_112 : decode cX10_fresh0 112 = .ok (.getfield 13, 3) := by decide +kernel
theorem dX10_fresh0_115 : decode cX10_fresh0 115 = .ok (.iconst 3, 1) := by decide +kernel
theorem dX10_fresh0_116 : decode cX10_fresh0 116 = .ok (.iaload, 1) := by decide +kernel
theorem dX10_fresh0_117 : decode cX10_fresh0 117 = .ok (.if_icmp .ge 24, 3) := by decide +kernel
theorem dX10_fresh0_120 : decode cX10_fresh0 120 = .ok (.aload_n 0, 1) := by decide +kernel
theorem dX10_fresh0_121 : decode cX10_fresh0 121 = .ok (.getfield 126, 3) := by decide +kernel
theorem dX10_fresh0_124 : decode cX10_fresh0 124 = .ok (.bipush 13, 2) := by decide +kernel
theorem dX10_fresh0_126 : decode cX10_fresh0 126 = .ok (.iload_n 1, 1) := by decide +kernel
theorem dX10_fresh0_127 : decode cX10_fresh0 127 = .ok (.iadd, 1) := by decide +kernel
theorem dX10_fresh0_128 : decode cX10_fresh0 128 = .ok (.aload_n 0, 1) := by decide +kernel
theorem dX10_fresh0_129 : decode cX10_fresh0 129 = .ok (.getfield 41, 3) := by decide +kernel
theorem dX10_fresh0_132 : decode cX10_fresh0 132 = .ok (.iload_n 1, 1) := by decide +kernel
theorem dX10_fresh0_133 : decode cX10_fresh0 133 = .ok (.iaload, 1) := by decide +kernel
theorem dX10_fresh0_134 : decode cX10_fresh0 134 = .ok (.iastore, 1) := by decide +kernel
theorem dX10_fresh0_135 : decode cX10_fresh0 135 = .ok (.iinc 1 1, 3) := by decide +kernel
theorem dX10_fresh0_138 : decode cX10_fresh0 138 = .ok (.goto (-28), 3) := by decide +kernel
theorem dX10_fresh0_141 : decode cX10_fresh0 141 = .ok (.return_, 1) := by decide +kernel
theorem dX10_county_0 : decode cX10_county 0 = .ok (.aload_n 0, 1) := by decide +kernel
theorem dX10_county_1 : decode cX10_county 1 = .ok (.iconst 0, 1) := by decide +kernel
theorem dX10_county_2 : decode cX10_county 2 = .ok (.putfield 162, 3) := by decide +kernel
theorem dX10_county_5 : decode cX10_county 5 = .ok (.aload_n 0, 1) := by decide +kernel
theorem dX10_county_6 : decode cX10_county 6 = .ok (.invokevirtual 377, 3) := by decide +kernel
theorem dX10_county_9 : decode cX10_county 9 = .ok (.ifCond .ne 8, 3) := by decide +kernel
theorem dX10_county_12 : decode cX10_county 12 = .ok (.aload_n 0, 1) := by decide +kernel
theorem dX10_county_13 : decode cX10_county 13 = .ok (.getfield 198, 3) := by decide +kernel
theorem dX10_county_16 : decode cX10_county 16 = .ok (.ireturn, 1) := by decide +kernel
theorem dX10_county_17 : decode cX10_county 17 = .ok (.aload_n 0, 1) := by decide +kernel
theorem dX10_county_18 : decode cX10_county 18 = .ok (.invokevirtual 380, 3) := by decide +kernel
theorem dX10_county_21 : decode cX10_county 21 = .ok (.aload_n 0, 1) := by decide +kernel
theorem dX10_county_22 : decode cX10_county 22 = .ok (.invokevirtual 159, 3) := by decide +kernel
theorem dX10_county_25 : decode cX10_county 25 = .ok (.aload_n 0, 1) := by decide +kernel
theorem dX10_county_26 : decode cX10_county 26 = .ok (.getfield 102, 3) := by decide +kernel
theorem dX10_county_29 : decode cX10_county 29 = .ok (.iconst 0, 1) := by decide +kernel
theorem dX10_county_30 : decode cX10_county 30 = .ok (.iconst 0, 1) := by decide +kernel
theorem dX10_county_31 : decode cX10_county 31 = .ok (.iastore, 1) := by decide +kernel
theorem dX10_county_32 : decode cX10_county 32 = .ok (.aload_n 0, 1) := by decide +kernel
theorem dX10_county_33 : decode cX10_county 33 = .ok (.getfield 114, 3) := by decide +kernel
theorem dX10_county_36 : decode cX10_county 36 = .ok (.iconst 0, 1) := by decide +kernel
theorem dX10_county_37 : decode cX10_county 37 = .ok (.iconst 0, 1) := by decide +kernel
theorem dX10_county_38 : decode cX10_county 38 = .ok (.iastore, 1) := by decide +kernel
theorem dX10_county_39 : decode cX10_county 39 = .ok (.aload_n 0, 1) := by decide +kernel
theorem dX10_county_40 : decode cX10_county 40 = .ok (.iconst 0, 1) := by decide +kernel
theorem dX10_county_41 : decode cX10_county 41 = .ok (.putfield 383, 3) := by decide +kernel
theorem dX10_county_44 : decode cX10_county 44 = .ok (.iconst 0, 1) := by decide +kernel
theorem dX10_county_45 : decode cX10_county 45 = .ok (.istore_n 1, 1) := by decide +kernel
theorem dX10_county_46 : decode cX10_county 46 = .ok (.iload_n 1, 1) := by decide +kernel
theorem dX10_county_47 : decode cX10_county 47 = .ok (.iconst 4, 1) := by decide +kernel
theorem dX10_county_48 : decode cX10_county 48 = .ok (.if_icmp .ge 16, 3) := by decide +kernel
theorem dX10_county_51 : decode cX10_county 51 = .ok (.aload_n 0, 1) := by decide +kernel
theorem dX10_county_52 : decode cX10_county 52 = .ok (.getfield 141, 3) := by decide +kernel
theorem dX10_county_55 : decode cX10_county 55 = .ok (.iload_n 1, 1) := by decide +kernel
theorem dX10_county_56 : decode cX10_county 56 = .ok (.iconst 0, 1) := by decide +kernel
theorem dX10_county_57 : decode cX10_county 57 = .ok (.bastore, 1) := by decide +kernel
theorem dX10_county_58 : decode cX10_county 58 = .ok (.iinc 1 1, 3) := by decide +kernel
theorem dX10_county_61 : decode cX10_county 61 = .ok (.goto (-15), 3) := by decide +kernel
theorem dX10_county_64 : decode cX10_county 64 = .ok (.iconst 0, 1) := by decide +kernel
theorem dX10_county_65 : decode cX10_county 65 = .ok (.ireturn, 1) := by decide +kernel
theorem dX10_session_0 : decode cX10_session 0 = .ok (.aload_n 0, 1) := by decide +kernel
theorem dX10_session_1 : decode cX10_session 1 = .ok (.iconst 0, 1) := by decide +kernel
theorem dX10_session_2 : decode cX10_session 2 = .ok (.putfield 162, 3) := by decide +kernel
theorem dX10_session_5 : decode cX10_session 5 = .ok (.aload_n 0, 1) := by decide +kernel
theorem dX10_session_6 : decode cX10_session 6 = .ok (.getfield 102, 3) := by decide +kernel
theorem dX10_session_9 : decode cX10_session 9 = .ok (.iconst 5, 1) := by decide +kernel
theorem dX10_session_10 : decode cX10_session 10 = .ok (.iconst 0, 1) := by decide +kernel
theorem dX10_session_11 : decode cX10_session 11 = .ok (.iastore, 1) := by decide +kernel
theorem dX10_session_12 : decode cX10_session 12 = .ok (.aload_n 0, 1) := by decide +kernel
theorem dX10_session_13 : decode cX10_session 13 = .ok (.invokevirtual 345, 3) := by decide +kernel
theorem dX10_session_16 : decode cX10_session 16 = .ok (.aload_n 0, 1) := by decide +kernel
theorem dX10_session_17 : decode cX10_session 17 = .ok (.getfield 187, 3) := by decide +kernel
theorem dX10_session_20 : decode cX10_session 20 = .ok (.ifCond .eq 15, 3) := by decide +kernel
theorem dX10_session_23 : decode cX10_session 23 = .ok (.aload_n 0, 1) := by decide +kernel
theorem dX10_session_24 : decode cX10_session 24 = .ok (.invokevirtual 386, 3) := by decide +kernel
theorem dX10_session_27 : decode cX10_session 27 = .ok (.ifCond .ne (-11), 3) := by decide +kernel
theorem dX10_session_30 : decode cX10_session 30 = .ok (.aload_n 0, 1) := by decide +kernel
theorem dX10_session_31 : decode cX10_session 31 = .ok (.getfield 198, 3) := by decide +kernel
theorem dX10_session_34 : decode cX10_session 34 = .ok (.ireturn, 1) := by decide +kernel
theorem dX10_session_35 : decode cX10_session 35 = .ok (.aload_n 0, 1) := by decide +kernel
theorem dX10_session_36 : decode cX10_session 36 = .ok (.iconst 5, 1) := by decide +kernel
theorem dX10_session_37 : decode cX10_session 37 = .ok (.iconst 0, 1) := by decide +kernel
theorem dX10_session_38 : decode cX10_session 38 = .ok (.invokevirtual 389, 3) := by decide +kernel
theorem dX10_session_41 : decode cX10_session 41 = .ok (.iconst 0, 1) := by decide +kernel
theorem dX10_session_42 : decode cX10_session 42 = .ok (.ireturn, 1) := by decide +kernel
theorem dX10_isPlace_0 : decode cX10_isPlace 0 = .ok (.iload_n 1, 1) := by decide +kernel
theorem dX10_isPlace_1 : decode cX10_isPlace 1 = .ok (.ifCond .lt 17, 3) := by decide +kernel
theorem dX10_isPlace_4 : decode cX10_isPlace 4 = .ok (.iload_n 1, 1) := by decide +kernel
theorem dX10_isPlace_5 : decode cX10_isPlace 5 = .ok (.aload_n 0, 1) := by decide +kernel
theorem dX10_isPlace_6 : decode cX10_isPlace 6 = .ok (.getfield 13, 3) := by decide +kernel
theorem dX10_isPlace_9 : decode cX10_isPlace 9 = .ok (.iconst 0, 1) := by decide +kernel
theorem dX10_isPlace_10 : decode cX10_isPlace 10 = .ok (.iaload, 1) := by decide +kernel
theorem dX10_isPlace_11 : decode cX10_isPlace 11 = .ok (.if_icmp .ge 7, 3) := by decide +kernel
theorem dX10_isPlace_14 : decode cX10_isPlace 14 = .ok (.iconst 1, 1) := by decide +kernel
theorem dX10_isPlace_15 : decode cX10_isPlace 15 = .ok (.goto 4, 3) := by decide +kernel
theorem dX10_isPlace_18 : decode cX10_isPlace 18 = .ok (.iconst 0, 1) := by decide +kernel
theorem dX10_isPlace_19 : decode cX10_isPlace 19 = .ok (.ireturn, 1) := by decide +kernel
theorem dX10_isPerson_0 : decode cX10_isPerson 0 = .ok (.iload_n 1, 1) := by decide +kernel
theorem dX10_isPerson_1 : decode cX10_isPerson 1 = .ok (.ifCond .lt 17, 3) := by decide +kernel
theorem dX10_isPerson_4 : decode cX10_isPerson 4 = .ok (.iload_n 1, 1) := by decide +kernel
theorem dX10_isPerson_5 : decode cX10_isPerson 5 = .ok (.aload_n 0, 1) := by decide +kernel
theorem dX10_isPerson_6 : decode cX10_isPerson 6 = .ok (.getfield 13, 3) := by decide +kernel
theorem dX10_isPerson_9 : decode cX10_isPerson 9 = .ok (.iconst 2, 1) := by decide +kernel
theorem dX10_isPerson_10 : decode cX10_isPerson 10 = .ok (.iaload, 1) := by decide +kernel
theorem dX10_isPerson_11 : decode cX10_isPerson 11 = .ok (.if_icmp .ge 7, 3) := by decide +kernel
theorem dX10_isPerson_14 : decode cX10_isPerson 14 = .ok (.iconst 1, 1) := by decide +kernel
theorem dX10_isPerson_15 : decode cX10_isPerson 15 = .ok (.goto 4, 3) := by decide +kernel
theorem dX10_isPerson_18 : decode cX10_isPerson 18 = .ok (.iconst 0, 1) := by decide +kernel
theorem dX10_isPerson_19 : decode cX10_isPerson 19 = .ok (.ireturn, 1) := by decide +kernel
theorem dX10_isOtter_0 : decode cX10_isOtter 0 = .ok (.iload_n 1, 1) := by decide +kernel
theorem dX10_isOtter_1 : decode cX10_isOtter 1 = .ok (.ifCond .lt 17, 3) := by decide +kernel
theorem dX10_isOtter_4 : decode cX10_isOtter 4 = .ok (.iload_n 1, 1) := by decide +kernel
theorem dX10_isOtter_5 : decode cX10_isOtter 5 = .ok (.aload_n 0, 1) := by decide +kernel
theorem dX10_isOtter_6 : decode cX10_isOtter 6 = .ok (.getfield 13, 3) := by decide +kernel
theorem dX10_isOtter_9 : decode cX10_isOtter 9 = .ok (.iconst 3, 1) := by decide +kernel
theorem dX10_isOtter_10 : decode cX10_isOtter 10 = .ok (.iaload, 1) := by decide +kernel
theorem dX10_isOtter_11 : decode cX10_isOtter 11 = .ok (.if_icmp .ge 7, 3) := by decide +kernel
theorem dX10_isOtter_14 : decode cX10_isOtter 14 = .ok (.iconst 1, 1) := by decide +kernel
theorem dX10_isOtter_15 : decode cX10_isOtter 15 = .ok (.goto 4, 3) := by decide +kernel
theorem dX10_isOtter_18 : decode cX10_isOtter 18 = .ok (.iconst 0, 1) := by decide +kernel
theorem dX10_isOtter_19 : decode cX10_isOtter 19 = .ok (.ireturn, 1) := by decide +kernel
theorem dX10_isWrit_0 : decode cX10_isWrit 0 = .ok (.iload_n 1, 1) := by decide +kernel
theorem dX10_isWrit_1 : decode cX10_isWrit 1 = .ok (.ifCond .lt 17, 3) := by decide +kernel
theorem dX10_isWrit_4 : decode cX10_isWrit 4 = .ok (.iload_n 1, 1) := by decide +kernel
theorem dX10_isWrit_5 : decode cX10_isWrit 5 = .ok (.aload_n 0, 1) := by decide +kernel
theorem dX10_isWrit_6 : decode cX10_isWrit 6 = .ok (.getfield 13, 3) := by decide +kernel
theorem dX10_isWrit_9 : decode cX10_isWrit 9 = .ok (.iconst 4, 1) := by decide +kernel
theorem dX10_isWrit_10 : decode cX10_isWrit 10 = .ok (.iaload, 1) := by decide +kernel
theorem dX10_isWrit_11 : decode cX10_isWrit 11 = .ok (.if_icmp .ge 7, 3) := by decide +kernel
theorem dX10_isWrit_14 : decode cX10_isWrit 14 = .ok (.iconst 1, 1) := by decide +kernel
theorem dX10_isWrit_15 : decode cX10_isWrit 15 = .ok (.goto 4, 3) := by decide +kernel
theorem dX10_isWrit_18 : decode cX10_isWrit 18 = .ok (.iconst 0, 1) := by decide +kernel
theorem dX10_isWrit_19 : decode cX10_isWrit 19 = .ok (.ireturn, 1) := by decide +kernel
theorem dX10_rainOf_0 : decode cX10_rainOf 0 = .ok (.aload_n 0, 1) := by decide +kernel
theorem dX10_rainOf_1 : decode cX10_rainOf 1 = .ok (.getfield 13, 3) := by decide +kernel
theorem dX10_rainOf_4 : decode cX10_rainOf 4 = .ok (.iconst 5, 1) := by decide +kernel
theorem dX10_rainOf_5 : decode cX10_rainOf 5 = .ok (.iaload, 1) := by decide +kernel
theorem dX10_rainOf_6 : decode cX10_rainOf 6 = .ok (.ifCond .ne 7, 3) := by decide +kernel
theorem dX10_rainOf_9 : decode cX10_rainOf 9 = .ok (.iconst 1, 1) := by decide +kernel
theorem dX10_rainOf_10 : decode cX10_rainOf 10 = .ok (.goto 16, 3) := by decide +kernel
theorem dX10_rainOf_13 : decode cX10_rainOf 13 = .ok (.aload_n 0, 1) := by decide +kernel
theorem dX10_rainOf_14 : decode cX10_rainOf 14 = .ok (.getfield 53, 3) := by decide +kernel
theorem dX10_rainOf_17 : decode cX10_rainOf 17 = .ok (.iload_n 1, 1) := by decide +kernel
theorem dX10_rainOf_18 : decode cX10_rainOf 18 = .ok (.aload_n 0, 1) := by decide +kernel
theorem dX10_rainOf_19 : decode cX10_rainOf 19 = .ok (.getfield 13, 3) := by decide +kernel
theorem dX10_rainOf_22 : decode cX10_rainOf 22 = .ok (.iconst 5, 1) := by decide +kernel
theorem dX10_rainOf_23 : decode cX10_rainOf 23 = .ok (.iaload, 1) := by decide +kernel
theorem dX10_rainOf_24 : decode cX10_rainOf 24 = .ok (.irem, 1) := by decide +kernel
theorem dX10_rainOf_25 : decode cX10_rainOf 25 = .ok (.iaload, 1) := by decide +kernel
theorem dX10_rainOf_26 : decode cX10_rainOf 26 = .ok (.ireturn, 1) := by decide +kernel
theorem dX10_wets_0 : decode cX10_wets 0 = .ok (.iconst 0, 1) := by decide +kernel
theorem dX10_wets_1 : decode cX10_wets 1 = .ok (.istore_n 1, 1) := by decide +kernel
theorem dX10_wets_2 : decode cX10_wets 2 = .ok (.iconst 0, 1) := by decide +kernel
theorem dX10_wets_3 : decode cX10_wets 3 = .ok (.istore_n 2, 1) := by decide +kernel
theorem dX10_wets_4 : decode cX10_wets 4 = .ok (.iload_n 2, 1) := by decide +kernel
theorem dX10_wets_5 : decode cX10_wets 5 = .ok (.aload_n 0, 1) := by decide +kernel
theorem dX10_wets_6 : decode cX10_wets 6 = .ok (.getfield 13, 3) := by decide +kernel
theorem dX10_wets_9 : decode cX10_wets 9 = .ok (.iconst 0, 1) := by decide +kernel
theorem dX10_wets_10 : decode cX10_wets 10 = .ok (.iaload, 1) := by decide +kernel
theorem dX10_wets_11 : decode cX10_wets 11 = .ok (.if_icmp .ge 30, 3) := by decide +kernel
theorem dX10_wets_14 : decode cX10_wets 14 = .ok (.iload_n 1, 1) := by decide +kernel
theorem dX10_wets_15 : decode cX10_wets 15 = .ok (.aload_n 0, 1) := by decide +kernel
theorem dX10_wets_16 : decode cX10_wets 16 = .ok (.getfield 126, 3) := by decide +kernel
theorem dX10_wets_19 : decode cX10_wets 19 = .ok (.iconst 1, 1) := by decide +kernel
theorem dX10_wets_20 : decode cX10_wets 20 = .ok (.iload_n 2, 1) := by decide +kernel
theorem dX10_wets_21 : decode cX10_wets 21 = .ok (.iadd, 1) := by decide +kernel
theorem dX10_wets_22 : decode cX10_wets 22 = .ok (.iaload, 1) := by decide +kernel
theorem dX10_wets_23 : decode cX10_wets 23 = .ok (.ifCond .le 9, 3) := by decide +kernel
theorem dX10_wets_26 : decode cX10_wets 26 = .ok (.iconst 1, 1) := by decide +kernel
theorem dX10_wets_27 : decode cX10_wets 27 = .ok (.iload_n 2, 1) := by decide +kernel
theorem dX10_wets_28 : decode cX10_wets 28 = .ok (.ishl, 1) := by decide +kernel
theorem dX10_wets_29 : decode cX10_wets 29 = .ok (.goto 4, 3) := by decide +kernel
theorem dX10_wets_32 : decode cX10_wets 32 = .ok (.iconst 0, 1) := by decide +kernel
theorem dX10_wets_33 : decode cX10_wets 33 = .ok (.ior, 1) := by decide +kernel
theorem dX10_wets_34 : decode cX10_wets 34 = .ok (.istore_n 1, 1) := by decide +kernel
theorem dX10_wets_35 : decode cX10_wets 35 = .ok (.iinc 2 1, 3) := by decide +kernel
theorem dX10_wets_38 : decode cX10_wets 38 = .ok (.goto (-34), 3) := by decide +kernel
theorem dX10_wets_41 : decode cX10_wets 41 = .ok (.iload_n 1, 1) := by decide +kernel
theorem dX10_wets_42 : decode cX10_wets 42 = .ok (.ireturn, 1) := by decide +kernel
theorem dX10_wetBy_0 : decode cX10_wetBy 0 = .ok (.aload_n 0, 1) := by decide +kernel
theorem dX10_wetBy_1 : decode cX10_wetBy 1 = .ok (.getfield 126, 3) := by decide +kernel
theorem dX10_wetBy_4 : decode cX10_wetBy 4 = .ok (.iconst 1, 1) := by decide +kernel
theorem dX10_wetBy_5 : decode cX10_wetBy 5 = .ok (.iload_n 1, 1) := by decide +kernel
theorem dX10_wetBy_6 : decode cX10_wetBy 6 = .ok (.iadd, 1) := by decide +kernel
theorem dX10_wetBy_7 : decode cX10_wetBy 7 = .ok (.iaload, 1) := by decide +kernel
theorem dX10_wetBy_8 : decode cX10_wetBy 8 = .ok (.iload_n 2, 1) := by decide +kernel
theorem dX10_wetBy_9 : decode cX10_wetBy 9 = .ok (.iadd, 1) := by decide +kernel
theorem dX10_wetBy_10 : decode cX10_wetBy 10 = .ok (.iconst 1, 1) := by decide +kernel
theorem dX10_wetBy_11 : decode cX10_wetBy 11 = .ok (.isub, 1) := by decide +kernel
theorem dX10_wetBy_12 : decode cX10_wetBy 12 = .ok (.istore_n 3, 1) := by decide +kernel
theorem dX10_wetBy_13 : decode cX10_wetBy 13 = .ok (.aload_n 0, 1) := by decide +kernel
theorem dX10_wetBy_14 : decode cX10_wetBy 14 = .ok (.getfield 59, 3) := by decide +kernel
theorem dX10_wetBy_17 : decode cX10_wetBy 17 = .ok (.iconst 0, 1) := by decide +kernel
theorem dX10_wetBy_18 : decode cX10_wetBy 18 = .ok (.iaload, 1) := by decide +kernel
theorem dX10_wetBy_19 : decode cX10_wetBy 19 = .ok (.aload_n 0, 1) := by decide +kernel
theorem dX10_wetBy_20 : decode cX10_wetBy 20 = .ok (.getfield 56, 3) := by decide +kernel
theorem dX10_wetBy_23 : decode cX10_wetBy 23 = .ok (.iconst 0, 1) := by decide +kernel
theorem dX10_wetBy_24 : decode cX10_wetBy 24 = .ok (.iaload, 1) := by decide +kernel
theorem dX10_wetBy_25 : decode cX10_wetBy 25 = .ok (.if_icmp .le 57, 3) := by decide +kernel
theorem dX10_wetBy_28 : decode cX10_wetBy 28 = .ok (.aload_n 0, 1) := by decide +kernel
theorem dX10_wetBy_29 : decode cX10_wetBy 29 = .ok (.getfield 99, 3) := by decide +kernel
theorem dX10_wetBy_32 : decode cX10_wetBy 32 = .ok (.iconst 1, 1) := by decide +kernel
theorem dX10_wetBy_33 : decode cX10_wetBy 33 = .ok (.aload_n 0, 1) := by decide +kernel
theorem dX10_wetBy_34 : decode cX10_wetBy 34 = .ok (.getfield 126, 3) := by decide +kernel
theorem dX10_wetBy_37 : decode cX10_wetBy 37 = .ok (.iconst 1, 1) := by decide +kernel
theorem dX10_wetBy_38 : decode cX10_wetBy 38 = .ok (.iload_n 1, 1) := by decide +kernel
theorem dX10_wetBy_39 : decode cX10_wetBy 39 = .ok (.iadd, 1) := by decide +kernel
theorem dX10_wetBy_40 : decode cX10_wetBy 40 = .ok (.iaload, 1) := by decide +kernel
theorem dX10_wetBy_41 : decode cX10_wetBy 41 = .ok (.iastore, 1) := by decide +kernel
theorem dX10_wetBy_42 : decode cX10_wetBy 42 = .ok (.aload_n 0, 1) := by decide +kernel
theorem dX10_wetBy_43 : decode cX10_wetBy 43 = .ok (.getfield 99, 3) := by decide +kernel
theorem dX10_wetBy_46 : decode cX10_wetBy 46 = .ok (.iconst 2, 1) := by decide +kernel
theorem dX10_wetBy_47 : decode cX10_wetBy 47 = .ok (.iload_n 2, 1) := by decide +kernel
theorem dX10_wetBy_48 : decode cX10_wetBy 48 = .ok (.iastore, 1) := by decide +kernel
theorem dX10_wetBy_49 : decode cX10_wetBy 49 = .ok (.aload_n 0, 1) := by decide +kernel
theorem dX10_wetBy_50 : decode cX10_wetBy 50 = .ok (.getfield 99, 3) := by decide +kernel
theorem dX10_wetBy_53 : decode cX10_wetBy 53 = .ok (.iconst 3, 1) := by decide +kernel
theorem dX10_wetBy_54 : decode cX10_wetBy 54 = .ok (.aload_n 0, 1) := by decide +kernel
theorem dX10_wetBy_55 : decode cX10_wetBy 55 = .ok (.getfield 32, 3) := by decide +kernel
theorem dX10_wetBy_58 : decode cX10_wetBy 58 = .ok (.iload_n 1, 1) := by decide +kernel
theorem dX10_wetBy_59 : decode cX10_wetBy 59 = .ok (.iaload, 1) := by decide +kernel
theorem dX10_wetBy_60 : decode cX10_wetBy 60 = .ok (.invokestatic 393, 3) := by decide +kernel
theorem dX10_wetBy_63 : decode cX10_wetBy 63 = .ok (.iastore, 1) := by decide +kernel
theorem dX10_wetBy_64 : decode cX10_wetBy 64 = .ok (.aload_n 0, 1) := by decide +kernel
theorem dX10_wetBy_65 : decode cX10_wetBy 65 = .ok (.getfield 99, 3) := by decide +kernel
theorem dX10_wetBy_68 : decode cX10_wetBy 68 = .ok (.iconst 4, 1) := by decide +kernel
theorem dX10_wetBy_69 : decode cX10_wetBy 69 = .ok (.aload_n 0, 1) := by decide +kernel
theorem dX10_wetBy_70 : decode cX10_wetBy 70 = .ok (.getfield 126, 3) := by decide +kernel
theorem dX10_wetBy_73 : decode cX10_wetBy 73 = .ok (.iconst 0, 1) := by decide +kernel
theorem dX10_wetBy_74 : decode cX10_wetBy 74 = .ok (.iaload, 1) := by decide +kernel
theorem dX10_wetBy_75 : decode cX10_wetBy 75 = .ok (.iastore, 1) := by decide +kernel
theorem dX10_wetBy_76 : decode cX10_wetBy 76 = .ok (.aload_n 0, 1) := by decide +kernel
theorem dX10_wetBy_77 : decode cX10_wetBy 77 = .ok (.iconst 0, 1) := by decide +kernel
theorem dX10_wetBy_78 : decode cX10_wetBy 78 = .ok (.invokevirtual 396, 3) := by decide +kernel
theorem dX10_wetBy_81 : decode cX10_wetBy 81 = .ok (.istore_n 3, 1) := by decide +kernel
theorem dX10_wetBy_82 : decode cX10_wetBy 82 = .ok (.iload_n 3, 1) := by decide +kernel
theorem dX10_wetBy_83 : decode cX10_wetBy 83 = .ok (.iconst 0, 1) := by decide +kernel
theorem dX10_wetBy_84 : decode cX10_wetBy 84 = .ok (.bipush 9, 2) := by decide +kernel
theorem dX10_wetBy_86 : decode cX10_wetBy 86 = .ok (.invokestatic 399, 3) := by decide +kernel
theorem dX10_wetBy_89 : decode cX10_wetBy 89 = .ok (.ireturn, 1) := by decide +kernel
theorem dX10_goesTo_0 : decode cX10_goesTo 0 = .ok (.aload_n 0, 1) := by decide +kernel
theorem dX10_goesTo_1 : decode cX10_goesTo 1 = .ok (.getfield 126, 3) := by decide +kernel
theorem dX10_goesTo_4 : decode cX10_goesTo 4 = .ok (.bipush 8, 2) := by decide +kernel
theorem dX10_goesTo_6 : decode cX10_goesTo 6 = .ok (.iload_n 1, 1) := by decide +kernel
theorem dX10_goesTo_7 : decode cX10_goesTo 7 = .ok (.iadd, 1) := by decide +kernel
theorem dX10_goesTo_8 : decode cX10_goesTo 8 = .ok (.iaload, 1) := by decide +kernel
theorem dX10_goesTo_9 : decode cX10_goesTo 9 = .ok (.istore_n 2, 1) := by decide +kernel
theorem dX10_goesTo_10 : decode cX10_goesTo 10 = .ok (.aload_n 0, 1) := by decide +kernel
theorem dX10_goesTo_11 : decode cX10_goesTo 11 = .ok (.getfield 35, 3) := by decide +kernel
theorem dX10_goesTo_14 : decode cX10_goesTo 14 = .ok (.iload_n 1, 1) := by decide +kernel
theorem dX10_goesTo_15 : decode cX10_goesTo 15 = .ok (.iaload, 1) := by decide +kernel
theorem dX10_goesTo_16 : decode cX10_goesTo 16 = .ok (.iconst 1, 1) := by decide +kernel
theorem dX10_goesTo_17 : decode cX10_goesTo 17 = .ok (.if_icmp .ne 7, 3) := by decide +kernel
theorem dX10_goesTo_20 : decode cX10_goesTo 20 = .ok (.iconst (-1), 1) := by decide +kernel
theorem dX10_goesTo_21 : decode cX10_goesTo 21 = .ok (.goto 18, 3) := by decide +kernel
theorem dX10_goesTo_24 : decode cX10_goesTo 24 = .ok (.aload_n 0, 1) := by decide +kernel
theorem dX10_goesTo_25 : decode cX10_goesTo 25 = .ok (.getfield 35, 3) := by decide +kernel
theorem dX10_goesTo_28 : decode cX10_goesTo 28 = .ok (.iload_n 1, 1) := by decide +kernel
theorem dX10_goesTo_29 : decode cX10_goesTo 29 = .ok (.iaload, 1) := by decide +kernel
theorem dX10_goesTo_30 : decode cX10_goesTo 30 = .ok (.iconst 2, 1) := by decide +kernel
theorem dX10_goesTo_31 : decode cX10_goesTo 31 = .ok (.if_icmp .ne 7, 3) := by decide +kernel
theorem dX10_goesTo_34 : decode cX10_goesTo 34 = .ok (.iconst 1, 1) := by decide +kernel
theorem dX10_goesTo_35 : decode cX10_goesTo 35 = .ok (.goto 4, 3) := by decide +kernel
theorem dX10_goesTo_38 : decode cX10_goesTo 38 = .ok (.iconst 0, 1) := by decide +kernel
theorem dX10_goesTo_39 : decode cX10_goesTo 39 = .ok (.istore_n 3, 1) := by decide +kernel
theorem dX10_goesTo_40 : decode cX10_goesTo 40 = .ok (.iload_n 2, 1) := by decide +kernel
theorem dX10_goesTo_41 : decode cX10_goesTo 41 = .ok (.istore 4, 2) := by decide +kernel
theorem dX10_goesTo_43 : decode cX10_goesTo 43 = .ok (.iconst 0, 1) := by decide +kernel
theorem dX10_goesTo_44 : decode cX10_goesTo 44 = .ok (.istore 5, 2) := by decide +kernel
theorem dX10_goesTo_46 : decode cX10_goesTo 46 = .ok (.iload 5, 2) := by decide +kernel
theorem dX10_goesTo_48 : decode cX10_goesTo 48 = .ok (.aload_n 0, 1) := by decide +kernel
theorem dX10_goesTo_49 : decode cX10_goesTo 49 = .ok (.getfield 13, 3) := by decide +kernel
theorem dX10_goesTo_52 : decode cX10_goesTo 52 = .ok (.iconst 0, 1) := by decide +kernel
theorem dX10_goesTo_53 : decode cX10_goesTo 53 = .ok (.iaload, 1) := by decide +kernel
theorem dX10_goesTo_54 : decode cX10_goesTo 54 = .ok (.if_icmp .ge 57, 3) := by decide +kernel
theorem dX10_goesTo_57 : decode cX10_goesTo 57 = .ok (.iload_n 3, 1) := by decide +kernel
theorem dX10_goesTo_58 : decode cX10_goesTo 58 = .ok (.ifCond .eq 53, 3) := by decide +kernel
theorem dX10_goesTo_61 : decode cX10_goesTo 61 = .ok (.aload_n 0, 1) := by decide +kernel
theorem dX10_goesTo_62 : decode cX10_goesTo 62 = .ok (.getfield 32, 3) := by decide +kernel
theorem dX10_goesTo_65 : decode cX10_goesTo 65 = .ok (.iload_n 2, 1) := by decide +kernel
theorem dX10_goesTo_66 : decode cX10_goesTo 66 = .ok (.iaload, 1) := by decide +kernel
theorem dX10_goesTo_67 : decode cX10_goesTo 67 = .ok (.iload 5, 2) := by decide +kernel
theorem dX10_goesTo_69 : decode cX10_goesTo 69 = .ok (.ishr, 1) := by decide +kernel
theorem dX10_goesTo_70 : decode cX10_goesTo 70 = .ok (.iconst 1, 1) := by decide +kernel
theorem dX10_goesTo_71 : decode cX10_goesTo 71 = .ok (.iand, 1) := by decide +kernel
theorem dX10_goesTo_72 : decode cX10_goesTo 72 = .ok (.iconst 1, 1) := by decide +kernel
theorem dX10_goesTo_73 : decode cX10_goesTo 73 = .ok (.if_icmp .ne 32, 3) := by decide +kernel
theorem dX10_goesTo_76 : decode cX10_goesTo 76 = .ok (.iload_n 3, 1) := by decide +kernel
theorem dX10_goesTo_77 : decode cX10_goesTo 77 = .ok (.aload_n 0, 1) := by decide +kernel
theorem dX10_goesTo_78 : decode cX10_goesTo 78 = .ok (.getfield 126, 3) := by decide +kernel
theorem dX10_goesTo_81 : decode cX10_goesTo 81 = .ok (.iconst 1, 1) := by decide +kernel
theorem dX10_goesTo_82 : decode cX10_goesTo 82 = .ok (.iload 5, 2) := by decide +kernel
theorem dX10_goesTo_84 : decode cX10_goesTo 84 = .ok (.iadd, 1) := by decide +kernel
theorem dX10_goesTo_85 : decode cX10_goesTo 85 = .ok (.iaload, 1) := by decide +kernel
theorem dX10_goesTo_86 : decode cX10_goesTo 86 = .ok (.imul, 1) := by decide +kernel
theorem dX10_goesTo_87 : decode cX10_goesTo 87 = .ok (.iload_n 3, 1) := by decide +kernel
theorem dX10_goesTo_88 : decode cX10_goesTo 88 = .ok (.aload_n 0, 1) := by decide +kernel
theorem dX10_goesTo_89 : decode cX10_goesTo 89 = .ok (.getfield 126, 3) := by decide +kernel
theorem dX10_goesTo_92 : decode cX10_goesTo 92 = .ok (.iconst 1, 1) := by decide +kernel
theorem dX10_goesTo_93 : decode cX10_goesTo 93 = .ok (.iload 4, 2) := by decide +kernel
theorem dX10_goesTo_95 : decode cX10_goesTo 95 = .ok (.iadd, 1) := by decide +kernel
theorem dX10_goesTo_96 : decode cX10_goesTo 96 = .ok (.iaload, 1) := by decide +kernel
theorem dX10_goesTo_97 : decode cX10_goesTo 97 = .ok (.imul, 1) := by decide +kernel
theorem dX10_goesTo_98 : decode cX10_goesTo 98 = .ok (.if_icmp .le 7, 3) := by decide +kernel
theorem dX10_goesTo_101 : decode cX10_goesTo 101 = .ok (.iload 5, 2) := by decide +kernel
theorem dX10_goesTo_103 : decode cX10_goesTo 103 = .ok (.istore 4, 2) := by decide +kernel
theorem dX10_goesTo_105 : decode cX10_goesTo 105 = .ok (.iinc 5 1, 3) := by decide +kernel
theorem dX10_goesTo_108 : decode cX10_goesTo 108 = .ok (.goto (-62), 3) := by decide +kernel
theorem dX10_goesTo_111 : decode cX10_goesTo 111 = .ok (.iload 4, 2) := by decide +kernel
theorem dX10_goesTo_113 : decode cX10_goesTo 113 = .ok (.ireturn, 1) := by decide +kernel
theorem dX10_passes_0 : decode cX10_passes 0 = .ok (.iconst 0, 1) := by decide +kernel
theorem dX10_passes_1 : decode cX10_passes 1 = .ok (.istore_n 2, 1) := by decide +kernel
theorem dX10_passes_2 : decode cX10_passes 2 = .ok (.iload_n 2, 1) := by decide +kernel
theorem dX10_passes_3 : decode cX10_passes 3 = .ok (.aload_n 0, 1) := by decide +kernel
theorem dX10_passes_4 : decode cX10_passes 4 = .ok (.getfield 13, 3) := by decide +kernel
theorem dX10_passes_7 : decode cX10_passes 7 = .ok (.iconst 0, 1) := by decide +kernel
theorem dX10_passes_8 : decode cX10_passes 8 = .ok (.iaload, 1) := by decide +kernel
theorem dX10_passes_9 : decode cX10_passes 9 = .ok (.if_icmp .ge 21, 3) := by decide +kernel
theorem dX10_passes_12 : decode cX10_passes 12 = .ok (.aload_n 0, 1) := by decide +kernel
theorem dX10_passes_13 : decode cX10_passes 13 = .ok (.getfield 144, 3) := by decide +kernel
theorem dX10_passes_16 : decode cX10_passes 16 = .ok (.iload_n 2, 1) := by decide +kernel
theorem dX10_passes_17 : decode cX10_passes 17 = .ok (.aload_n 0, 1) := by decide +kernel
theorem dX10_passes_18 : decode cX10_passes 18 = .ok (.iload_n 2, 1) := by decide +kernel
theorem dX10_passes_19 : decode cX10_passes 19 = .ok (.iload_n 1, 1) := by decide +kernel
theorem dX10_passes_20 : decode cX10_passes 20 = .ok (.invokevirtual 403, 3) := by decide +kernel
theorem dX10_passes_23 : decode cX10_passes 23 = .ok (.iastore, 1) := by decide +kernel
theorem dX10_passes_24 : decode cX10_passes 24 = .ok (.iinc 2 1, 3) := by decide +kernel
theorem dX10_passes_27 : decode cX10_passes 27 = .ok (.goto (-25), 3) := by decide +kernel
theorem dX10_passes_30 : decode cX10_passes 30 = .ok (.iconst 0, 1) := by decide +kernel
theorem dX10_passes_31 : decode cX10_passes 31 = .ok (.istore_n 2, 1) := by decide +kernel
theorem dX10_passes_32 : decode cX10_passes 32 = .ok (.iload_n 2, 1) := by decide +kernel
theorem dX10_passes_33 : decode cX10_passes 33 = .ok (.aload_n 0, 1) := by decide +kernel
theorem dX10_passes_34 : decode cX10_passes 34 = .ok (.getfield 13, 3) := by decide +kernel
theorem dX10_passes_37 : decode cX10_passes 37 = .ok (.iconst 0, 1) := by decide +kernel
theorem dX10_passes_38 : decode cX10_passes 38 = .ok (.iaload, 1) := by decide +kernel
theorem dX10_passes_39 : decode cX10_passes 39 = .ok (.if_icmp .ge 23, 3) := by decide +kernel
theorem dX10_passes_42 : decode cX10_passes 42 = .ok (.aload_n 0, 1) := by decide +kernel
theorem dX10_passes_43 : decode cX10_passes 43 = .ok (.getfield 126, 3) := by decide +kernel
theorem dX10_passes_46 : decode cX10_passes 46 = .ok (.iconst 1, 1) := by decide +kernel
theorem dX10_passes_47 : decode cX10_passes 47 = .ok (.iload_n 2, 1) := by decide +kernel
theorem dX10_passes_48 : decode cX10_passes 48 = .ok (.iadd, 1) := by decide +kernel
theorem dX10_passes_49 : decode cX10_passes 49 = .ok (.aload_n 0, 1) := by decide +kernel
theorem dX10_passes_50 : decode cX10_passes 50 = .ok (.getfield 144, 3) := by decide +kernel
theorem dX10_passes_53 : decode cX10_passes 53 = .ok (.iload_n 2, 1) := by decide +kernel
theorem dX10_passes_54 : decode cX10_passes 54 = .ok (.iaload, 1) := by decide +kernel
theorem dX10_passes_55 : decode cX10_passes 55 = .ok (.iastore, 1) := by decide +kernel
theorem dX10_passes_56 : decode cX10_passes 56 = .ok (.iinc 2 1, 3) := by decide +kernel
theorem dX10_passes_59 : decode cX10_passes 59 = .ok (.goto (-27), 3) := by decide +kernel
theorem dX10_passes_62 : decode cX10_passes 62 = .ok (.iconst 0, 1) := by decide +kernel
theorem dX10_passes_63 : decode cX10_passes 63 = .ok (.istore_n 2, 1) := by decide +kernel
theorem dX10_passes_64 : decode cX10_passes 64 = .ok (.iload_n 2, 1) := by decide +kernel
theorem dX10_passes_65 : decode cX10_passes 65 = .ok (.aload_n 0, 1) := by decide +kernel
theorem dX10_passes_66 : decode cX10_passes 66 = .ok (.getfield 13, 3) := by decide +kernel
theorem dX10_passes_69 : decode cX10_passes 69 = .ok (.iconst 2, 1) := by decide +kernel
theorem dX10_passes_70 : decode cX10_passes 70 = .ok (.iaload, 1) := by decide +kernel
theorem dX10_passes_71 : decode cX10_passes 71 = .ok (.if_icmp .ge 23, 3) := by decide +kernel
theorem dX10_passes_74 : decode cX10_passes 74 = .ok (.aload_n 0, 1) := by decide +kernel
theorem dX10_passes_75 : decode cX10_passes 75 = .ok (.getfield 126, 3) := by decide +kernel
theorem dX10_passes_78 : decode cX10_passes 78 = .ok (.bipush 8, 2) := by decide +kernel
theorem dX10_passes_80 : decode cX10_passes 80 = .ok (.iload_n 2, 1) := by decide +kernel
theorem dX10_passes_81 : decode cX10_passes 81 = .ok (.iadd, 1) := by decide +kernel
theorem dX10_passes_82 : decode cX10_passes 82 = .ok (.aload_n 0, 1) := by decide +kernel
theorem dX10_passes_83 : decode cX10_passes 83 = .ok (.iload_n 2, 1) := by decide +kernel
theorem dX10_passes_84 : decode cX10_passes 84 = .ok (.invokevirtual 407, 3) := by decide +kernel
theorem dX10_passes_87 : decode cX10_passes 87 = .ok (.iastore, 1) := by decide +kernel
theorem dX10_passes_88 : decode cX10_passes 88 = .ok (.iinc 2 1, 3) := by decide +kernel
theorem dX10_passes_91 : decode cX10_passes 91 = .ok (.goto (-27), 3) := by decide +kernel
theorem dX10_passes_94 : decode cX10_passes 94 = .ok (.iconst 0, 1) := by decide +kernel
theorem dX10_passes_95 : decode cX10_passes 95 = .ok (.istore_n 2, 1) := by decide +kernel
theorem dX10_passes_96 : decode cX10_passes 96 = .ok (.iload_n 2, 1) := by decide +kernel
theorem dX10_passes_97 : decode cX10_passes 97 = .ok (.iconst 3, 1) := by decide +kernel
theorem dX10_passes_98 : decode cX10_passes 98 = .ok (.if_icmp .ge 19, 3) := by decide +kernel
theorem dX10_passes_101 : decode cX10_passes 101 = .ok (.aload_n 0, 1) := by decide +kernel
theorem dX10_passes_102 : decode cX10_passes 102 = .ok (.getfield 126, 3) := by decide +kernel
theorem dX10_passes_105 : decode cX10_passes 105 = .ok (.bipush 16, 2) := by decide +kernel
theorem dX10_passes_107 : decode cX10_passes 107 = .ok (.iload_n 2, 1) := by decide +kernel
theorem dX10_passes_108 : decode cX10_passes 108 = .ok (.iadd, 1) := by decide +kernel
theorem dX10_passes_109 : decode cX10_passes 109 = .ok (.iconst 0, 1) := by decide +kernel
theorem dX10_passes_110 : decode cX10_passes 110 = .ok (.iastore, 1) := by decide +kernel
theorem dX10_passes_111 : decode cX10_passes 111 = .ok (.iinc 2 1, 3) := by decide +kernel
theorem dX10_passes_114 : decode cX10_passes 114 = .ok (.goto (-18), 3) := by decide +kernel
theorem dX10_passes_117 : decode cX10_passes 117 = .ok (.aload_n 0, 1) := by decide +kernel
theorem dX10_passes_118 : decode cX10_passes 118 = .ok (.getfield 126, 3) := by decide +kernel
theorem dX10_passes_121 : decode cX10_passes 121 = .ok (.iconst 0, 1) := by decide +kernel
theorem dX10_passes_122 : decode cX10_passes 122 = .ok (.dup2, 1) := by decide +kernel
theorem dX10_passes_123 : decode cX10_passes 123 = .ok (.iaload, 1) := by decide +kernel
theorem dX10_passes_124 : decode cX10_passes 124 = .ok (.iconst 1, 1) := by decide +kernel
theorem dX10_passes_125 : decode cX10_passes 125 = .ok (.iadd, 1) := by decide +kernel
theorem dX10_passes_126 : decode cX10_passes 126 = .ok (.iastore, 1) := by decide +kernel
theorem dX10_passes_127 : decode cX10_passes 127 = .ok (.return_, 1) := by decide +kernel
theorem dX10_passesAsTold_0 : decode cX10_passesAsTold 0 = .ok (.aload_n 0, 1) := by decide +kernel
theorem dX10_passesAsTold_1 : decode cX10_passesAsTold 1 = .ok (.aload_n 0, 1) := by decide +kernel
theorem dX10_passesAsTold_2 : decode cX10_passesAsTold 2 = .ok (.aload_n 0, 1) := by decide +kernel
theorem dX10_passesAsTold_3 : decode cX10_passesAsTold 3 = .ok (.getfield 126, 3) := by decide +kernel
theorem dX10_passesAsTold_6 : decode cX10_passesAsTold 6 = .ok (.iconst 0, 1) := by decide +kernel
theorem dX10_passesAsTold_7 : decode cX10_passesAsTold 7 = .ok (.iaload, 1) := by decide +kernel
theorem dX10_passesAsTold_8 : decode cX10_passesAsTold 8 = .ok (.invokevirtual 410, 3) := by decide +kernel
theorem dX10_passesAsTold_11 : decode cX10_passesAsTold 11 = .ok (.invokevirtual 413, 3) := by decide +kernel
theorem dX10_passesAsTold_14 : decode cX10_passesAsTold 14 = .ok (.return_, 1) := by decide +kernel
theorem dX10_whoAt_0 : decode cX10_whoAt 0 = .ok (.iconst 0, 1) := by decide +kernel
theorem dX10_whoAt_1 : decode cX10_whoAt 1 = .ok (.istore_n 2, 1) := by decide +kernel
theorem dX10_whoAt_2 : decode cX10_whoAt 2 = .ok (.iconst 0, 1) := by decide +kernel
theorem dX10_whoAt_3 : decode cX10_whoAt 3 = .ok (.istore_n 3, 1) := by decide +kernel
theorem dX10_whoAt_4 : decode cX10_whoAt 4 = .ok (.iload_n 3, 1) := by decide +kernel
theorem dX10_whoAt_5 : decode cX10_whoAt 5 = .ok (.aload_n 0, 1) := by decide +kernel
theorem dX10_whoAt_6 : decode cX10_whoAt 6 = .ok (.getfield 13, 3) := by decide +kernel
theorem dX10_whoAt_9 : decode cX10_whoAt 9 = .ok (.iconst 2, 1) := by decide +kernel
theorem dX10_whoAt_10 : decode cX10_whoAt 10 = .ok (.iaload, 1) := by decide +kernel
theorem dX10_whoAt_11 : decode cX10_whoAt 11 = .ok (.if_icmp .ge 32, 3) := by decide +kernel
theorem dX10_whoAt_14 : decode cX10_whoAt 14 = .ok (.iload_n 2, 1) := by decide +kernel
theorem dX10_whoAt_15 : decode cX10_whoAt 15 = .ok (.aload_n 0, 1) := by decide +kernel
theorem dX10_whoAt_16 : decode cX10_whoAt 16 = .ok (.getfield 126, 3) := by decide +kernel
theorem dX10_whoAt_19 : decode cX10_whoAt 19 = .ok (.bipush 8, 2) := by decide +kernel
theorem dX10_whoAt_21 : decode cX10_whoAt 21 = .ok (.iload_n 3, 1) := by decide +kernel
theorem dX10_whoAt_22 : decode cX10_whoAt 22 = .ok (.iadd, 1) := by decide +kernel
theorem dX10_whoAt_23 : decode cX10_whoAt 23 = .ok (.iaload, 1) := by decide +kernel
theorem dX10_whoAt_24 : decode cX10_whoAt 24 = .ok (.iload_n 1, 1) := by decide +kernel
theorem dX10_whoAt_25 : decode cX10_whoAt 25 = .ok (.if_icmp .ne 9, 3) := by decide +kernel
theorem dX10_whoAt_28 : decode cX10_whoAt 28 = .ok (.iconst 1, 1) := by decide +kernel
theorem dX10_whoAt_29 : decode cX10_whoAt 29 = .ok (.iload_n 3, 1) := by decide +kernel
theorem dX10_whoAt_30 : decode cX10_whoAt 30 = .ok (.ishl, 1) := by decide +kernel
theorem dX10_whoAt_31 : decode cX10_whoAt 31 = .ok (.goto 4, 3) := by decide +kernel
theorem dX10_whoAt_34 : decode cX10_whoAt 34 = .ok (.iconst 0, 1) := by decide +kernel
theorem dX10_whoAt_35 : decode cX10_whoAt 35 = .ok (.ior, 1) := by decide +kernel
theorem dX10_whoAt_36 : decode cX10_whoAt 36 = .ok (.istore_n 2, 1) := by decide +kernel
theorem dX10_whoAt_37 : decode cX10_whoAt 37 = .ok (.iinc 3 1, 3) := by decide +kernel
theorem dX10_whoAt_40 : decode cX10_whoAt 40 = .ok (.goto (-36), 3) := by decide +kernel
theorem dX10_whoAt_43 : decode cX10_whoAt 43 = .ok (.iload_n 2, 1) := by decide +kernel
theorem dX10_whoAt_44 : decode cX10_whoAt 44 = .ok (.ireturn, 1) := by decide +kernel
theorem dX10_place_0 : decode cX10_place 0 = .ok (.aload_n 0, 1) := by decide +kernel
theorem dX10_place_1 : decode cX10_place 1 = .ok (.iconst 0, 1) := by decide +kernel
theorem dX10_place_2 : decode cX10_place 2 = .ok (.putfield 162, 3) := by decide +kernel
theorem dX10_place_5 : decode cX10_place 5 = .ok (.aload_n 0, 1) := by decide +kernel
theorem dX10_place_6 : decode cX10_place 6 = .ok (.iload_n 1, 1) := by decide +kernel
theorem dX10_place_7 : decode cX10_place 7 = .ok (.invokevirtual 416, 3) := by decide +kernel
theorem dX10_place_10 : decode cX10_place 10 = .ok (.ifCond .eq 12, 3) := by decide +kernel
theorem dX10_place_13 : decode cX10_place 13 = .ok (.iload_n 2, 1) := by decide +kernel
theorem dX10_place_14 : decode cX10_place 14 = .ok (.iconst 0, 1) := by decide +kernel
theorem dX10_place_15 : decode cX10_place 15 = .ok (.iconst 3, 1) := by decide +kernel
theorem dX10_place_16 : decode cX10_place 16 = .ok (.invokestatic 293, 3) := by decide +kernel
theorem dX10_place_19 : decode cX10_place 19 = .ok (.ifCond .ne 5, 3) := by decide +kernel
theorem dX10_place_22 : decode cX10_place 22 = .ok (.iconst (-1), 1) := by decide +kernel
theorem dX10_place_23 : decode cX10_place 23 = .ok (.ireturn, 1) := by decide +kernel
theorem dX10_place_24 : decode cX10_place 24 = .ok (.iload_n 2, 1) := by decide +kernel
theorem dX10_place_25 : decode cX10_place 25 = .ok (.iconst 3, 1) := by decide +kernel
theorem dX10_place_26 : decode cX10_place 26 = .ok (.if_icmp .ge 38, 3) := by decide +kernel
theorem dX10_place_29 : decode cX10_place 29 = .ok (.iload_n 2, 1) := by decide +kernel
theorem dX10_place_30 : decode cX10_place 30 = .ok (.ifCond .ne 14, 3) := by decide +kernel
theorem dX10_place_33 : decode cX10_place 33 = .ok (.aload_n 0, 1) := by decide +kernel
theorem dX10_place_34 : decode cX10_place 34 = .ok (.getfield 126, 3) := by decide +kernel
theorem dX10_place_37 : decode cX10_place 37 = .ok (.iconst 1, 1) := by decide +kernel
theorem dX10_place_38 : decode cX10_place 38 = .ok (.iload_n 1, 1) := by decide +kernel
theorem dX10_place_39 : decode cX10_place 39 = .ok (.iadd, 1) := by decide +kernel
theorem dX10_place_40 : decode cX10_place 40 = .ok (.iaload, 1) := by decide +kernel
theorem dX10_place_41 : decode cX10_place 41 = .ok (.goto 22, 3) := by decide +kernel
theorem dX10_place_44 : decode cX10_place 44 = .ok (.iload_n 2, 1) := by decide +kernel
theorem dX10_place_45 : decode cX10_place 45 = .ok (.iconst 1, 1) := by decide +kernel
theorem dX10_place_46 : decode cX10_place 46 = .ok (.if_icmp .ne 12, 3) := by decide +kernel
theorem dX10_place_49 : decode cX10_place 49 = .ok (.aload_n 0, 1) := by decide +kernel
theorem dX10_place_50 : decode cX10_place 50 = .ok (.getfield 32, 3) := by decide +kernel
theorem dX10_place_53 : decode cX10_place 53 = .ok (.iload_n 1, 1) := by decide +kernel
theorem dX10_place_54 : decode cX10_place 54 = .ok (.iaload, 1) := by decide +kernel
theorem dX10_place_55 : decode cX10_place 55 = .ok (.goto 8, 3) := by decide +kernel
theorem dX10_place_58 : decode cX10_place 58 = .ok (.aload_n 0, 1) := by decide +kernel
theorem dX10_place_59 : decode cX10_place 59 = .ok (.iload_n 1, 1) := by decide +kernel
theorem dX10_place_60 : decode cX10_place 60 = .ok (.invokevirtual 419, 3) := by decide +kernel
theorem dX10_place_63 : decode cX10_place 63 = .ok (.ireturn, 1) := by decide +kernel
theorem dX10_place_64 : decode cX10_place 64 = .ok (.iconst 0, 1) := by decide +kernel
theorem dX10_place_65 : decode cX10_place 65 = .ok (.istore_n 3, 1) := by decide +kernel
theorem dX10_place_66 : decode cX10_place 66 = .ok (.iconst 0, 1) := by decide +kernel
theorem dX10_place_67 : decode cX10_place 67 = .ok (.istore 4, 2) := by decide +kernel
theorem dX10_place_69 : decode cX10_place 69 = .ok (.iload 4, 2) := by decide +kernel
theorem dX10_place_71 : decode cX10_place 71 = .ok (.aload_n 0, 1) := by decide +kernel
theorem dX10_place_72 : decode cX10_place 72 = .ok (.getfield 13, 3) := by decide +kernel
theorem dX10_place_75 : decode cX10_place 75 = .ok (.iconst 3, 1) := by decide +kernel
theorem dX10_place_76 : decode cX10_place 76 = .ok (.iaload, 1) := by decide +kernel
theorem dX10_place_77 : decode cX10_place 77 = .ok (.if_icmp .ge 34, 3) := by decide +kernel
theorem dX10_place_80 : decode cX10_place 80 = .ok (.iload_n 3, 1) := by decide +kernel
theorem dX10_place_81 : decode cX10_place 81 = .ok (.aload_n 0, 1) := by decide +kernel
theorem dX10_place_82 : decode cX10_place 82 = .ok (.getfield 126, 3) := by decide +kernel
theorem dX10_place_85 : decode cX10_place 85 = .ok (.bipush 13, 2) := by decide +kernel
theorem dX10_place_87 : decode cX10_place 87 = .ok (.iload 4, 2) := by decide +kernel
theorem dX10_place_89 : decode cX10_place 89 = .ok (.iadd, 1) := by decide +kernel
theorem dX10_place_90 : decode cX10_place 90 = .ok (.iaload, 1) := by decide +kernel
theorem dX10_place_91 : decode cX10_place 91 = .ok (.iload_n 1, 1) := by decide +kernel
theorem dX10_place_92 : decode cX10_place 92 = .ok (.if_icmp .ne 10, 3) := by decide +kernel
theorem dX10_place_95 : decode cX10_place 95 = .ok (.iconst 1, 1) := by decide +kernel
theorem dX10_place_96 : decode cX10_place 96 = .ok (.iload 4, 2) := by decide +kernel
theorem dX10_place_98 : decode cX10_place 98 = .ok (.ishl, 1) := by decide +kernel
theorem dX10_place_99 : decode cX10_place 99 = .ok (.goto 4, 3) := by decide +kernel
theorem dX10_place_102 : decode cX10_place 102 = .ok (.iconst 0, 1) := by decide +kernel
theorem dX10_place_103 : decode cX10_place 103 = .ok (.ior, 1) := by decide +kernel
theorem dX10_place_104 : decode cX10_place 104 = .ok (.istore_n 3, 1) := by decide +kernel
theorem dX10_place_105 : decode cX10_place 105 = .ok (.iinc 4 1, 3) := by decide +kernel
theorem dX10_place_108 : decode cX10_place 108 = .ok (.goto (-39), 3) := by decide +kernel
theorem dX10_place_111 : decode cX10_place 111 = .ok (.iload_n 3, 1) := by decide +kernel
theorem dX10_place_112 : decode cX10_place 112 = .ok (.ireturn, 1) := by decide +kernel
theorem dX10_person_0 : decode cX10_person 0 = .ok (.aload_n 0, 1) := by decide +kernel
theorem dX10_person_1 : decode cX10_person 1 = .ok (.iconst 0, 1) := by decide +kernel
theorem dX10_person_2 : decode cX10_person 2 = .ok (.putfield 162, 3) := by decide +kernel
theorem dX10_person_5 : decode cX10_person 5 = .ok (.aload_n 0, 1) := by decide +kernel
theorem dX10_person_6 : decode cX10_person 6 = .ok (.iload_n 1, 1) := by decide +kernel
theorem dX10_person_7 : decode cX10_person 7 = .ok (.invokevirtual 422, 3) := by decide +kernel
theorem dX10_person_10 : decode cX10_person 10 = .ok (.ifCond .eq 12, 3) := by decide +kernel
theorem dX10_person_13 : decode cX10_person 13 = .ok (.iload_n 2, 1) := by decide +kernel
theorem dX10_person_14 : decode cX10_person 14 = .ok (.iconst 0, 1) := by decide +kernel
theorem dX10_person_15 : decode cX10_person 15 = .ok (.iconst 1, 1) := by decide +kernel
theorem dX10_person_16 : decode cX10_person 16 = .ok (.invokestatic 293, 3) := by decide +kernel
theorem dX10_person_19 : decode cX10_person 19 = .ok (.ifCond .ne 5, 3) := by decide +kernel
theorem dX10_person_22 : decode cX10_person 22 = .ok (.iconst (-1), 1) := by decide +kernel
theorem dX10_person_23 : decode cX10_person 23 = .ok (.ireturn, 1) := by decide +kernel
theorem dX10_person_24 : decode cX10_person 24 = .ok (.iload_n 2, 1) := by decide +kernel
theorem dX10_person_25 : decode cX10_person 25 = .ok (.ifCond .ne 12, 3) := by decide +kernel
theorem dX10_person_28 : decode cX10_person 28 = .ok (.aload_n 0, 1) := by decide +kernel
theorem dX10_person_29 : decode cX10_person 29 = .ok (.getfield 35, 3) := by decide +kernel
theorem dX10_person_32 : decode cX10_person 32 = .ok (.iload_n 1, 1) := by decide +kernel
theorem dX10_person_33 : decode cX10_person 33 = .ok (.iaload, 1) := by decide +kernel
theorem dX10_person_34 : decode cX10_person 34 = .ok (.goto 12, 3) := by decide +kernel
theorem dX10_person_37 : decode cX10_person 37 = .ok (.aload_n 0, 1) := by decide +kernel
theorem dX10_person_38 : decode cX10_person 38 = .ok (.getfield 126, 3) := by decide +kernel
theorem dX10_person_41 : decode cX10_person 41 = .ok (.bipush 8, 2) := by decide +kernel
theorem dX10_person_43 : decode cX10_person 43 = .ok (.iload_n 1, 1) := by decide +kernel
theorem dX10_person_44 : decode cX10_person 44 = .ok (.iadd, 1) := by decide +kernel
theorem dX10_person_45 : decode cX10_person 45 = .ok (.iaload, 1) := by decide +kernel
theorem dX10_person_46 : decode cX10_person 46 = .ok (.ireturn, 1) := by decide +kernel
theorem dX10_writsOf_0 : decode cX10_writsOf 0 = .ok (.iconst 0, 1) := by decide +kernel
theorem dX10_writsOf_1 : decode cX10_writsOf 1 = .ok (.istore_n 2, 1) := by decide +kernel
theorem dX10_writsOf_2 : decode cX10_writsOf 2 = .ok (.iconst 0, 1) := by decide +kernel
theorem dX10_writsOf_3 : decode cX10_writsOf 3 = .ok (.istore_n 3, 1) := by decide +kernel
theorem dX10_writsOf_4 : decode cX10_writsOf 4 = .ok (.iload_n 3, 1) := by decide +kernel
theorem dX10_writsOf_5 : decode cX10_writsOf 5 = .ok (.aload_n 0, 1) := by decide +kernel
theorem dX10_writsOf_6 : decode cX10_writsOf 6 = .ok (.getfield 13, 3) := by decide +kernel
theorem dX10_writsOf_9 : decode cX10_writsOf 9 = .ok (.iconst 4, 1) := by decide +kernel
theorem dX10_writsOf_10 : decode cX10_writsOf 10 = .ok (.iaload, 1) := by decide +kernel
theorem dX10_writsOf_11 : decode cX10_writsOf 11 = .ok (.if_icmp .ge 32, 3) := by decide +kernel
theorem dX10_writsOf_14 : decode cX10_writsOf 14 = .ok (.iload_n 2, 1) := by decide +kernel
theorem dX10_writsOf_15 : decode cX10_writsOf 15 = .ok (.aload_n 0, 1) := by decide +kernel
theorem dX10_writsOf_16 : decode cX10_writsOf 16 = .ok (.getfield 126, 3) := by decide +kernel
theorem dX10_writsOf_19 : decode cX10_writsOf 19 = .ok (.bipush 19, 2) := by decide +kernel
theorem dX10_writsOf_21 : decode cX10_writsOf 21 = .ok (.iload_n 3, 1) := by decide +kernel
theorem dX10_writsOf_22 : decode cX10_writsOf 22 = .ok (.iadd, 1) := by decide +kernel
theorem dX10_writsOf_23 : decode cX10_writsOf 23 = .ok (.iaload, 1) := by decide +kernel
theorem dX10_writsOf_24 : decode cX10_writsOf 24 = .ok (.iload_n 1, 1) := by decide +kernel
theorem dX10_writsOf_25 : decode cX10_writsOf 25 = .ok (.if_icmp .ne 9, 3) := by decide +kernel
theorem dX10_writsOf_28 : decode cX10_writsOf 28 = .ok (.iconst 1, 1) := by decide +kernel
theorem dX10_writsOf_29 : decode cX10_writsOf 29 = .ok (.iload_n 3, 1) := by decide +kernel
theorem dX10_writsOf_30 : decode cX10_writsOf 30 = .ok (.ishl, 1) := by decide +kernel
theorem dX10_writsOf_31 : decode cX10_writsOf 31 = .ok (.goto 4, 3) := by decide +kernel
theorem dX10_writsOf_34 : decode cX10_writsOf 34 = .ok (.iconst 0, 1) := by decide +kernel
theorem dX10_writsOf_35 : decode cX10_writsOf 35 = .ok (.ior, 1) := by decide +kernel
theorem dX10_writsOf_36 : decode cX10_writsOf 36 = .ok (.istore_n 2, 1) := by decide +kernel
theorem dX10_writsOf_37 : decode cX10_writsOf 37 = .ok (.iinc 3 1, 3) := by decide +kernel
theorem dX10_writsOf_40 : decode cX10_writsOf 40 = .ok (.goto (-36), 3) := by decide +kernel
theorem dX10_writsOf_43 : decode cX10_writsOf 43 = .ok (.iload_n 2, 1) := by decide +kernel
theorem dX10_writsOf_44 : decode cX10_writsOf 44 = .ok (.ireturn, 1) := by decide +kernel
theorem dX10_otter_0 : decode cX10_otter 0 = .ok (.aload_n 0, 1) := by decide +kernel
theorem dX10_otter_1 : decode cX10_otter 1 = .ok (.iconst 0, 1) := by decide +kernel
theorem dX10_otter_2 : decode cX10_otter 2 = .ok (.putfield 162, 3) := by decide +kernel
theorem dX10_otter_5 : decode cX10_otter 5 = .ok (.aload_n 0, 1) := by decide +kernel
theorem dX10_otter_6 : decode cX10_otter 6 = .ok (.iload_n 1, 1) := by decide +kernel
theorem dX10_otter_7 : decode cX10_otter 7 = .ok (.invokevirtual 425, 3) := by decide +kernel
theorem dX10_otter_10 : decode cX10_otter 10 = .ok (.ifCond .eq 12, 3) := by decide +kernel
theorem dX10_otter_13 : decode cX10_otter 13 = .ok (.iload_n 2, 1) := by decide +kernel
theorem dX10_otter_14 : decode cX10_otter 14 = .ok (.iconst 0, 1) := by decide +kernel
theorem dX10_otter_15 : decode cX10_otter 15 = .ok (.iconst 3, 1) := by decide +kernel
theorem dX10_otter_16 : decode cX10_otter 16 = .ok (.invokestatic 293, 3) := by decide +kernel
theorem dX10_otter_19 : decode cX10_otter 19 = .ok (.ifCond .ne 5, 3) := by decide +kernel
theorem dX10_otter_22 : decode cX10_otter 22 = .ok (.iconst (-1), 1) := by decide +kernel
theorem dX10_otter_23 : decode cX10_otter 23 = .ok (.ireturn, 1) := by decide +kernel
theorem dX10_otter_24 : decode cX10_otter 24 = .ok (.iload_n 2, 1) := by decide +kernel
theorem dX10_otter_25 : decode cX10_otter 25 = .ok (.iconst 2, 1) := by decide +kernel
theorem dX10_otter_26 : decode cX10_otter 26 = .ok (.if_icmp .ge 26, 3) := by decide +kernel
theorem dX10_otter_29 : decode cX10_otter 29 = .ok (.iload_n 2, 1) := by decide +kernel
theorem dX10_otter_30 : decode cX10_otter 30 = .ok (.ifCond .ne 12, 3) := by decide +kernel
theorem dX10_otter_33 : decode cX10_otter 33 = .ok (.aload_n 0, 1) := by decide +kernel
theorem dX10_otter_34 : decode cX10_otter 34 = .ok (.getfield 44, 3) := by decide +kernel
theorem dX10_otter_37 : decode cX10_otter 37 = .ok (.iload_n 1, 1) := by decide +kernel
theorem dX10_otter_38 : decode cX10_otter 38 = .ok (.iaload, 1) := by decide +kernel
theorem dX10_otter_39 : decode cX10_otter 39 = .ok (.goto 12, 3) := by decide +kernel
theorem dX10_otter_42 : decode cX10_otter 42 = .ok (.aload_n 0, 1) := by decide +kernel
theorem dX10_otter_43 : decode cX10_otter 43 = .ok (.getfield 126, 3) := by decide +kernel
theorem dX10_otter_46 : decode cX10_otter 46 = .ok (.bipush 13, 2) := by decide +kernel
theorem dX10_otter_48 : decode cX10_otter 48 = .ok (.iload_n 1, 1) := by decide +kernel
theorem dX10_otter_49 : decode cX10_otter 49 = .ok (.iadd, 1) := by decide +kernel
theorem dX10_otter_50 : decode cX10_otter 50 = .ok (.iaload, 1) := by decide +kernel
theorem dX10_otter_51 : decode cX10_otter 51 = .ok (.ireturn, 1) := by decide +kernel
theorem dX10_otter_52 : decode cX10_otter 52 = .ok (.iload_n 2, 1) := by decide +kernel
theorem dX10_otter_53 : decode cX10_otter 53 = .ok (.iconst 2, 1) := by decide +kernel
theorem dX10_otter_54 : decode cX10_otter 54 = .ok (.if_icmp .ne 15, 3) := by decide +kernel
theorem dX10_otter_57 : decode cX10_otter 57 = .ok (.aload_n 0, 1) := by decide +kernel
theorem dX10_otter_58 : decode cX10_otter 58 = .ok (.getfield 126, 3) := by decide +kernel
theorem dX10_otter_61 : decode cX10_otter 61 = .ok (.bipush 16, 2) := by decide +kernel
theorem dX10_otter_63 : decode cX10_otter 63 = .ok (.iload_n 1, 1) := by decide +kernel
theorem dX10_otter_64 : decode cX10_otter 64 = .ok (.iadd, 1) := by decide +kernel
theorem dX10_otter_65 : decode cX10_otter 65 = .ok (.iaload, 1) := by decide +kernel
theorem dX10_otter_66 : decode cX10_otter 66 = .ok (.goto 8, 3) := by decide +kernel
theorem dX10_otter_69 : decode cX10_otter 69 = .ok (.aload_n 0, 1) := by decide +kernel
theorem dX10_otter_70 : decode cX10_otter 70 = .ok (.iload_n 1, 1) := by decide +kernel
theorem dX10_otter_71 : decode cX10_otter 71 = .ok (.invokevirtual 428, 3) := by decide +kernel
theorem dX10_otter_74 : decode cX10_otter 74 = .ok (.ireturn, 1) := by decide +kernel
theorem dX10_writ_0 : decode cX10_writ 0 = .ok (.aload_n 0, 1) := by decide +kernel
theorem dX10_writ_1 : decode cX10_writ 1 = .ok (.iconst 0, 1) := by decide +kernel
theorem dX10_writ_2 : decode cX10_writ 2 = .ok (.putfield 162, 3) := by decide +kernel
theorem dX10_writ_5 : decode cX10_writ 5 = .ok (.aload_n 0, 1) := by decide +kernel
theorem dX10_writ_6 : decode cX10_writ 6 = .ok (.iload_n 1, 1) := by decide +kernel
theorem dX10_writ_7 : decode cX10_writ 7 = .ok (.invokevirtual 431, 3) := by decide +kernel
theorem dX10_writ_10 : decode cX10_writ 10 = .ok (.ifCond .eq 12, 3) := by decide +kernel
theorem dX10_writ_13 : decode cX10_writ 13 = .ok (.iload_n 2, 1) := by decide +kernel
theorem dX10_writ_14 : decode cX10_writ 14 = .ok (.iconst 0, 1) := by decide +kernel
theorem dX10_writ_15 : decode cX10_writ 15 = .ok (.iconst 2, 1) := by decide +kernel
theorem dX10_writ_16 : decode cX10_writ 16 = .ok (.invokestatic 293, 3) := by decide +kernel
theorem dX10_writ_19 : decode cX10_writ 19 = .ok (.ifCond .ne 6, 3) := by decide +kernel
theorem dX10_writ_22 : decode cX10_writ 22 = .ok (.bipush (-2), 2) := by decide +kernel
theorem dX10_writ_24 : decode cX10_writ 24 = .ok (.ireturn, 1) := by decide +kernel
theorem dX10_writ_25 : decode cX10_writ 25 = .ok (.iload_n 2, 1) := by decide +kernel
theorem dX10_writ_26 : decode cX10_writ 26 = .ok (.ifCond .ne 12, 3) := by decide +kernel
theorem dX10_writ_29 : decode cX10_writ 29 = .ok (.aload_n 0, 1) := by decide +kernel
theorem dX10_writ_30 : decode cX10_writ 30 = .ok (.getfield 47, 3) := by decide +kernel
theorem dX10_writ_33 : decode cX10_writ 33 = .ok (.iload_n 1, 1) := by decide +kernel
theorem dX10_writ_34 : decode cX10_writ 34 = .ok (.iaload, 1) := by decide +kernel
theorem dX10_writ_35 : decode cX10_writ 35 = .ok (.goto 26, 3) := by decide +kernel
theorem dX10_writ_38 : decode cX10_writ 38 = .ok (.iload_n 2, 1) := by decide +kernel
theorem dX10_writ_39 : decode cX10_writ 39 = .ok (.iconst 1, 1) := by decide +kernel
theorem dX10_writ_40 : decode cX10_writ 40 = .ok (.if_icmp .ne 12, 3) := by decide +kernel
theorem dX10_writ_43 : decode cX10_writ 43 = .ok (.aload_n 0, 1) := by decide +kernel
theorem dX10_writ_44 : decode cX10_writ 44 = .ok (.getfield 50, 3) := by decide +kernel
theorem dX10_writ_47 : decode cX10_writ 47 = .ok (.iload_n 1, 1) := by decide +kernel
theorem dX10_writ_48 : decode cX10_writ 48 = .ok (.iaload, 1) := by decide +kernel
theorem dX10_writ_49 : decode cX10_writ 49 = .ok (.goto 12, 3) := by decide +kernel
theorem dX10_writ_52 : decode cX10_writ 52 = .ok (.aload_n 0, 1) := by decide +kernel
theorem dX10_writ_53 : decode cX10_writ 53 = .ok (.getfield 126, 3) := by decide +kernel
theorem dX10_writ_56 : decode cX10_writ 56 = .ok (.bipush 19, 2) := by decide +kernel
theorem dX10_writ_58 : decode cX10_writ 58 = .ok (.iload_n 1, 1) := by decide +kernel
theorem dX10_writ_59 : decode cX10_writ 59 = .ok (.iadd, 1) := by decide +kernel
theorem dX10_writ_60 : decode cX10_writ 60 = .ok (.iaload, 1) := by decide +kernel
theorem dX10_writ_61 : decode cX10_writ 61 = .ok (.ireturn, 1) := by decide +kernel
theorem dX10_keeps_0 : decode cX10_keeps 0 = .ok (.aload_n 0, 1) := by decide +kernel
theorem dX10_keeps_1 : decode cX10_keeps 1 = .ok (.getfield 383, 3) := by decide +kernel
theorem dX10_keeps_4 : decode cX10_keeps 4 = .ok (.bipush 16, 2) := by decide +kernel
theorem dX10_keeps_6 : decode cX10_keeps 6 = .ok (.if_icmp .ne 43, 3) := by decide +kernel
theorem dX10_keeps_9 : decode cX10_keeps 9 = .ok (.iconst 0, 1) := by decide +kernel
theorem dX10_keeps_10 : decode cX10_keeps 10 = .ok (.istore_n 1, 1) := by decide +kernel
theorem dX10_keeps_11 : decode cX10_keeps 11 = .ok (.iload_n 1, 1) := by decide +kernel
theorem dX10_keeps_12 : decode cX10_keeps 12 = .ok (.sipush 375, 3) := by decide +kernel
theorem dX10_keeps_15 : decode cX10_keeps 15 = .ok (.if_icmp .ge 24, 3) := by decide +kernel
theorem dX10_keeps_18 : decode cX10_keeps 18 = .ok (.aload_n 0, 1) := by decide +kernel
theorem dX10_keeps_19 : decode cX10_keeps 19 = .ok (.getfield 138, 3) := by decide +kernel
theorem dX10_keeps_22 : decode cX10_keeps 22 = .ok (.iload_n 1, 1) := by decide +kernel
theorem dX10_keeps_23 : decode cX10_keeps 23 = .ok (.aload_n 0, 1) := by decide +kernel
theorem dX10_keeps_24 : decode cX10_keeps 24 = .ok (.getfield 138, 3) := by decide +kernel
theorem dX10_keeps_27 : decode cX10_keeps 27 = .ok (.iload_n 1, 1) := by decide +kernel
theorem dX10_keeps_28 : decode cX10_keeps 28 = .ok (.bipush 25, 2) := by decide +kernel
theorem dX10_keeps_30 : decode cX10_keeps 30 = .ok (.iadd, 1) := by decide +kernel
theorem dX10_keeps_31 : decode cX10_keeps 31 = .ok (.iaload, 1) := by decide +kernel
theorem dX10_keeps_32 : decode cX10_keeps 32 = .ok (.iastore, 1) := by decide +kernel
theorem dX10_keeps_33 : decode cX10_keeps 33 = .ok (.iinc 1 1, 3) := by decide +kernel
theorem dX10_keeps_36 : decode cX10_keeps 36 = .ok (.goto (-25), 3) := by decide +kernel
theorem dX10_keeps_39 : decode cX10_keeps 39 = .ok (.aload_n 0, 1) := by decide +kernel
theorem dX10_keeps_40 : decode cX10_keeps 40 = .ok (.dup, 1) := by decide +kernel
theorem dX10_keeps_41 : decode cX10_keeps 41 = .ok (.getfield 383, 3) := by decide +kernel
theorem dX10_keeps_44 : decode cX10_keeps 44 = .ok (.iconst 1, 1) := by decide +kernel
theorem dX10_keeps_45 : decode cX10_keeps 45 = .ok (.isub, 1) := by decide +kernel
theorem dX10_keeps_46 : decode cX10_keeps 46 = .ok (.putfield 383, 3) := by decide +kernel
theorem dX10_keeps_49 : decode cX10_keeps 49 = .ok (.aload_n 0, 1) := by decide +kernel
theorem dX10_keeps_50 : decode cX10_keeps 50 = .ok (.getfield 126, 3) := by decide +kernel
theorem dX10_keeps_53 : decode cX10_keeps 53 = .ok (.iconst 0, 1) := by decide +kernel
theorem dX10_keeps_54 : decode cX10_keeps 54 = .ok (.aload_n 0, 1) := by decide +kernel
theorem dX10_keeps_55 : decode cX10_keeps 55 = .ok (.getfield 138, 3) := by decide +kernel
theorem dX10_keeps_58 : decode cX10_keeps 58 = .ok (.bipush 25, 2) := by decide +kernel
theorem dX10_keeps_60 : decode cX10_keeps 60 = .ok (.aload_n 0, 1) := by decide +kernel
theorem dX10_keeps_61 : decode cX10_keeps 61 = .ok (.getfield 383, 3) := by decide +kernel
theorem dX10_keeps_64 : decode cX10_keeps 64 = .ok (.imul, 1) := by decide +kernel
theorem dX10_keeps_65 : decode cX10_keeps 65 = .ok (.invokestatic 434, 3) := by decide +kernel
theorem dX10_keeps_68 : decode cX10_keeps 68 = .ok (.aload_n 0, 1) := by decide +kernel
theorem dX10_keeps_69 : decode cX10_keeps 69 = .ok (.dup, 1) := by decide +kernel
theorem dX10_keeps_70 : decode cX10_keeps 70 = .ok (.getfield 383, 3) := by decide +kernel
theorem dX10_keeps_73 : decode cX10_keeps 73 = .ok (.iconst 1, 1) := by decide +kernel
theorem dX10_keeps_74 : decode cX10_keeps 74 = .ok (.iadd, 1) := by decide +kernel
theorem dX10_keeps_75 : decode cX10_keeps 75 = .ok (.putfield 383, 3) := by decide +kernel
theorem dX10_keeps_78 : decode cX10_keeps 78 = .ok (.return_, 1) := by decide +kernel
theorem dX10_canTake_0 : decode cX10_canTake 0 = .ok (.aload_n 0, 1) := by decide +kernel
theorem dX10_canTake_1 : decode cX10_canTake 1 = .ok (.getfield 126, 3) := by decide +kernel
theorem dX10_canTake_4 : decode cX10_canTake 4 = .ok (.bipush 19, 2) := by decide +kernel
theorem dX10_canTake_6 : decode cX10_canTake 6 = .ok (.iload_n 2, 1) := by decide +kernel
theorem dX10_canTake_7 : decode cX10_canTake 7 = .ok (.iadd, 1) := by decide +kernel
theorem dX10_canTake_8 : decode cX10_canTake 8 = .ok (.iaload, 1) := by decide +kernel
theorem dX10_canTake_9 : decode cX10_canTake 9 = .ok (.iconst (-1), 1) := by decide +kernel
theorem dX10_canTake_10 : decode cX10_canTake 10 = .ok (.if_icmp .ne 31, 3) := by decide +kernel
theorem dX10_canTake_13 : decode cX10_canTake 13 = .ok (.aload_n 0, 1) := by decide +kernel
theorem dX10_canTake_14 : decode cX10_canTake 14 = .ok (.getfield 126, 3) := by decide +kernel
theorem dX10_canTake_17 : decode cX10_canTake 17 = .ok (.bipush 13, 2) := by decide +kernel
theorem dX10_canTake_19 : decode cX10_canTake 19 = .ok (.iload_n 1, 1) := by decide +kernel
theorem dX10_canTake_20 : decode cX10_canTake 20 = .ok (.iadd, 1) := by decide +kernel
theorem dX10_canTake_21 : decode cX10_canTake 21 = .ok (.iaload, 1) := by decide +kernel
theorem dX10_canTake_22 : decode cX10_canTake 22 = .ok (.ifCond .ne 19, 3) := by decide +kernel
theorem dX10_canTake_25 : decode cX10_canTake 25 = .ok (.aload_n 0, 1) := by decide +kernel
theorem dX10_canTake_26 : decode cX10_canTake 26 = .ok (.iload_n 1, 1) := by decide +kernel
theorem dX10_canTake_27 : decode cX10_canTake 27 = .ok (.invokevirtual 428, 3) := by decide +kernel
theorem dX10_canTake_30 : decode cX10_canTake 30 = .ok (.invokestatic 393, 3) := by decide +kernel
theorem dX10_canTake_33 : decode cX10_canTake 33 = .ok (.iconst 2, 1) := by decide +kernel
theorem dX10_canTake_34 : decode cX10_canTake 34 = .ok (.if_icmp .ge 7, 3) := by decide +kernel
theorem dX10_canTake_37 : decode cX10_canTake 37 = .ok (.iconst 1, 1) := by decide +kernel
theorem dX10_canTake_38 : decode cX10_canTake 38 = .ok (.goto 4, 3) := by decide +kernel
theorem dX10_canTake_41 : decode cX10_canTake 41 = .ok (.iconst 0, 1) := by decide +kernel
theorem dX10_canTake_42 : decode cX10_canTake 42 = .ok (.ireturn, 1) := by decide +kernel
theorem dX10_canSwim_0 : decode cX10_canSwim 0 = .ok (.aload_n 0, 1) := by decide +kernel
theorem dX10_canSwim_1 : decode cX10_canSwim 1 = .ok (.getfield 126, 3) := by decide +kernel
theorem dX10_canSwim_4 : decode cX10_canSwim 4 = .ok (.bipush 13, 2) := by decide +kernel
theorem dX10_canSwim_6 : decode cX10_canSwim 6 = .ok (.iload_n 1, 1) := by decide +kernel
theorem dX10_canSwim_7 : decode cX10_canSwim 7 = .ok (.iadd, 1) := by decide +kernel
theorem dX10_canSwim_8 : decode cX10_canSwim 8 = .ok (.iaload, 1) := by decide +kernel
theorem dX10_canSwim_9 : decode cX10_canSwim 9 = .ok (.istore_n 2, 1) := by decide +kernel
theorem dX10_canSwim_10 : decode cX10_canSwim 10 = .ok (.aload_n 0, 1) := by decide +kernel
theorem dX10_canSwim_11 : decode cX10_canSwim 11 = .ok (.getfield 126, 3) := by decide +kernel
theorem dX10_canSwim_14 : decode cX10_canSwim 14 = .ok (.bipush 16, 2) := by decide +kernel
theorem dX10_canSwim_16 : decode cX10_canSwim 16 = .ok (.iload_n 1, 1) := by decide +kernel
theorem dX10_canSwim_17 : decode cX10_canSwim 17 = .ok (.iadd, 1) := by decide +kernel
theorem dX10_canSwim_18 : decode cX10_canSwim 18 = .ok (.iaload, 1) := by decide +kernel
theorem dX10_canSwim_19 : decode cX10_canSwim 19 = .ok (.aload_n 0, 1) := by decide +kernel
theorem dX10_canSwim_20 : decode cX10_canSwim 20 = .ok (.getfield 44, 3) := by decide +kernel
theorem dX10_canSwim_23 : decode cX10_canSwim 23 = .ok (.iload_n 1, 1) := by decide +kernel
theorem dX10_canSwim_24 : decode cX10_canSwim 24 = .ok (.iaload, 1) := by decide +kernel
theorem dX10_canSwim_25 : decode cX10_canSwim 25 = .ok (.if_icmp .ge 15, 3) := by decide +kernel
theorem dX10_canSwim_28 : decode cX10_canSwim 28 = .ok (.aload_n 0, 1) := by decide +kernel
theorem dX10_canSwim_29 : decode cX10_canSwim 29 = .ok (.getfield 126, 3) := by decide +kernel
theorem dX10_canSwim_32 : decode cX10_canSwim 32 = .ok (.iconst 1, 1) := by decide +kernel
theorem dX10_canSwim_33 : decode cX10_canSwim 33 = .ok (.iload_n 2, 1) := by decide +kernel
theorem dX10_canSwim_34 : decode cX10_canSwim 34 = .ok (.iadd, 1) := by decide +kernel
theorem dX10_canSwim_35 : decode cX10_canSwim 35 = .ok (.iaload, 1) := by decide +kernel
theorem dX10_canSwim_36 : decode cX10_canSwim 36 = .ok (.iconst 1, 1) := by decide +kernel
theorem dX10_canSwim_37 : decode cX10_canSwim 37 = .ok (.if_icmp .ge 7, 3) := by decide +kernel
theorem dX10_canSwim_40 : decode cX10_canSwim 40 = .ok (.iconst 0, 1) := by decide +kernel
theorem dX10_canSwim_41 : decode cX10_canSwim 41 = .ok (.goto 14, 3) := by decide +kernel
theorem dX10_canSwim_44 : decode cX10_canSwim 44 = .ok (.aload_n 0, 1) := by decide +kernel
theorem dX10_canSwim_45 : decode cX10_canSwim 45 = .ok (.getfield 32, 3) := by decide +kernel
theorem dX10_canSwim_48 : decode cX10_canSwim 48 = .ok (.iload_n 2, 1) := by decide +kernel
theorem dX10_canSwim_49 : decode cX10_canSwim 49 = .ok (.iaload, 1) := by decide +kernel
theorem dX10_canSwim_50 : decode cX10_canSwim 50 = .ok (.aload_n 0, 1) := by decide +kernel
theorem dX10_canSwim_51 : decode cX10_canSwim 51 = .ok (.invokevirtual 438, 3) := by decide +kernel
theorem dX10_canSwim_54 : decode cX10_canSwim 54 = .ok (.iand, 1) := by decide +kernel
theorem dX10_canSwim_55 : decode cX10_canSwim 55 = .ok (.ireturn, 1) := by decide +kernel
theorem dX10_isServed_0 : decode cX10_isServed 0 = .ok (.aload_n 0, 1) := by decide +kernel
theorem dX10_isServed_1 : decode cX10_isServed 1 = .ok (.getfield 35, 3) := by decide +kernel
theorem dX10_isServed_4 : decode cX10_isServed 4 = .ok (.iload_n 1, 1) := by decide +kernel
theorem dX10_isServed_5 : decode cX10_isServed 5 = .ok (.iaload, 1) := by decide +kernel
theorem dX10_isServed_6 : decode cX10_isServed 6 = .ok (.iconst 3, 1) := by decide +kernel
theorem dX10_isServed_7 : decode cX10_isServed 7 = .ok (.if_icmp .eq 22, 3) := by decide +kernel
theorem dX10_isServed_10 : decode cX10_isServed 10 = .ok (.iload_n 2, 1) := by decide +kernel
theorem dX10_isServed_11 : decode cX10_isServed 11 = .ok (.aload_n 0, 1) := by decide +kernel
theorem dX10_isServed_12 : decode cX10_isServed 12 = .ok (.getfield 35, 3) := by decide +kernel
theorem dX10_isServed_15 : decode cX10_isServed 15 = .ok (.iload_n 1, 1) := by decide +kernel
theorem dX10_isServed_16 : decode cX10_isServed 16 = .ok (.iaload, 1) := by decide +kernel
theorem dX10_isServed_17 : decode cX10_isServed 17 = .ok (.iconst 1, 1) := by decide +kernel
theorem dX10_isServed_18 : decode cX10_isServed 18 = .ok (.if_icmp .ne 7, 3) := by decide +kernel
theorem dX10_isServed_21 : decode cX10_isServed 21 = .ok (.iconst 3, 1) := by decide +kernel
theorem dX10_isServed_22 : decode cX10_isServed 22 = .ok (.goto 4, 3) := by decide +kernel
theorem dX10_isServed_25 : decode cX10_isServed 25 = .ok (.iconst 1, 1) := by decide +kernel
theorem dX10_isServed_26 : decode cX10_isServed 26 = .ok (.if_icmp .lt 7, 3) := by decide +kernel
theorem dX10_isServed_29 : decode cX10_isServed 29 = .ok (.iconst 1, 1) := by decide +kernel
theorem dX10_isServed_30 : decode cX10_isServed 30 = .ok (.goto 4, 3) := by decide +kernel
theorem dX10_isServed_33 : decode cX10_isServed 33 = .ok (.iconst 0, 1) := by decide +kernel
theorem dX10_isServed_34 : decode cX10_isServed 34 = .ok (.ireturn, 1) := by decide +kernel
theorem dX10_canServe_0 : decode cX10_canServe 0 = .ok (.aload_n 0, 1) := by decide +kernel
theorem dX10_canServe_1 : decode cX10_canServe 1 = .ok (.getfield 126, 3) := by decide +kernel
theorem dX10_canServe_4 : decode cX10_canServe 4 = .ok (.bipush 19, 2) := by decide +kernel
theorem dX10_canServe_6 : decode cX10_canServe 6 = .ok (.iload_n 1, 1) := by decide +kernel
theorem dX10_canServe_7 : decode cX10_canServe 7 = .ok (.iadd, 1) := by decide +kernel
theorem dX10_canServe_8 : decode cX10_canServe 8 = .ok (.iaload, 1) := by decide +kernel
theorem dX10_canServe_9 : decode cX10_canServe 9 = .ok (.istore_n 2, 1) := by decide +kernel
theorem dX10_canServe_10 : decode cX10_canServe 10 = .ok (.aload_n 0, 1) := by decide +kernel
theorem dX10_canServe_11 : decode cX10_canServe 11 = .ok (.getfield 47, 3) := by decide +kernel
theorem dX10_canServe_14 : decode cX10_canServe 14 = .ok (.iload_n 1, 1) := by decide +kernel
theorem dX10_canServe_15 : decode cX10_canServe 15 = .ok (.iaload, 1) := by decide +kernel
theorem dX10_canServe_16 : decode cX10_canServe 16 = .ok (.istore_n 3, 1) := by decide +kernel
theorem dX10_canServe_17 : decode cX10_canServe 17 = .ok (.aload_n 0, 1) := by decide +kernel
theorem dX10_canServe_18 : decode cX10_canServe 18 = .ok (.iload_n 2, 1) := by decide +kernel
theorem dX10_canServe_19 : decode cX10_canServe 19 = .ok (.invokevirtual 425, 3) := by decide +kernel
theorem dX10_canServe_22 : decode cX10_canServe 22 = .ok (.ifCond .eq 52, 3) := by decide +kernel
theorem dX10_canServe_25 : decode cX10_canServe 25 = .ok (.aload_n 0, 1) := by decide +kernel
theorem dX10_canServe_26 : decode cX10_canServe 26 = .ok (.getfield 126, 3) := by decide +kernel
theorem dX10_canServe_29 : decode cX10_canServe 29 = .ok (.bipush 13, 2) := by decide +kernel
theorem dX10_canServe_31 : decode cX10_canServe 31 = .ok (.iload_n 2, 1) := by decide +kernel
theorem dX10_canServe_32 : decode cX10_canServe 32 = .ok (.iadd, 1) := by decide +kernel
theorem dX10_canServe_33 : decode cX10_canServe 33 = .ok (.iaload, 1) := by decide +kernel
theorem dX10_canServe_34 : decode cX10_canServe 34 = .ok (.aload_n 0, 1) := by decide +kernel
theorem dX10_canServe_35 : decode cX10_canServe 35 = .ok (.getfield 126, 3) := by decide +kernel
theorem dX10_canServe_38 : decode cX10_canServe 38 = .ok (.bipush 8, 2) := by decide +kernel
theorem dX10_canServe_40 : decode cX10_canServe 40 = .ok (.iload_n 3, 1) := by decide +kernel
theorem dX10_canServe_41 : decode cX10_canServe 41 = .ok (.iadd, 1) := by decide +kernel
theorem dX10_canServe_42 : decode cX10_canServe 42 = .ok (.iaload, 1) := by decide +kernel
theorem dX10_canServe_43 : decode cX10_canServe 43 = .ok (.if_icmp .ne 31, 3) := by decide +kernel
theorem dX10_canServe_46 : decode cX10_canServe 46 = .ok (.aload_n 0, 1) := by decide +kernel
theorem dX10_canServe_47 : decode cX10_canServe 47 = .ok (.iload_n 3, 1) := by decide +kernel
theorem dX10_canServe_48 : decode cX10_canServe 48 = .ok (.aload_n 0, 1) := by decide +kernel
theorem dX10_canServe_49 : decode cX10_canServe 49 = .ok (.getfield 126, 3) := by decide +kernel
theorem dX10_canServe_52 : decode cX10_canServe 52 = .ok (.iconst 1, 1) := by decide +kernel
theorem dX10_canServe_53 : decode cX10_canServe 53 = .ok (.aload_n 0, 1) := by decide +kernel
theorem dX10_canServe_54 : decode cX10_canServe 54 = .ok (.getfield 126, 3) := by decide +kernel
theorem dX10_canServe_57 : decode cX10_canServe 57 = .ok (.bipush 8, 2) := by decide +kernel
theorem dX10_canServe_59 : decode cX10_canServe 59 = .ok (.iload_n 3, 1) := by decide +kernel
theorem dX10_canServe_60 : decode cX10_canServe 60 = .ok (.iadd, 1) := by decide +kernel
theorem dX10_canServe_61 : decode cX10_canServe 61 = .ok (.iaload, 1) := by decide +kernel
theorem dX10_canServe_62 : decode cX10_canServe 62 = .ok (.iadd, 1) := by decide +kernel
theorem dX10_canServe_63 : decode cX10_canServe 63 = .ok (.iaload, 1) := by decide +kernel
theorem dX10_canServe_64 : decode cX10_canServe 64 = .ok (.invokevirtual 441, 3) := by decide +kernel
theorem dX10_canServe_67 : decode cX10_canServe 67 = .ok (.ifCond .eq 7, 3) := by decide +kernel
theorem dX10_canServe_70 : decode cX10_canServe 70 = .ok (.iconst 1, 1) := by decide +kernel
theorem dX10_canServe_71 : decode cX10_canServe 71 = .ok (.goto 4, 3) := by decide +kernel
theorem dX10_canServe_74 : decode cX10_canServe 74 = .ok (.iconst 0, 1) := by decide +kernel
theorem dX10_canServe_75 : decode cX10_canServe 75 = .ok (.ireturn, 1) := by decide +kernel
theorem dX10_take_0 : decode cX10_take 0 = .ok (.aload_n 0, 1) := by decide +kernel
theorem dX10_take_1 : decode cX10_take 1 = .ok (.iconst 0, 1) := by decide +kernel
theorem dX10_take_2 : decode cX10_take 2 = .ok (.putfield 162, 3) := by decide +kernel
theorem dX10_take_5 : decode cX10_take 5 = .ok (.aload_n 0, 1) := by decide +kernel
theorem dX10_take_6 : decode cX10_take 6 = .ok (.iload_n 1, 1) := by decide +kernel
theorem dX10_take_7 : decode cX10_take 7 = .ok (.invokevirtual 425, 3) := by decide +kernel
theorem dX10_take_10 : decode cX10_take 10 = .ok (.ifCond .eq 20, 3) := by decide +kernel
theorem dX10_take_13 : decode cX10_take 13 = .ok (.aload_n 0, 1) := by decide +kernel
theorem dX10_take_14 : decode cX10_take 14 = .ok (.iload_n 2, 1) := by decide +kernel
theorem dX10_take_15 : decode cX10_take 15 = .ok (.invokevirtual 431, 3) := by decide +kernel
theorem dX10_take_18 : decode cX10_take 18 = .ok (.ifCond .eq 12, 3) := by decide +kernel
theorem dX10_take_21 : decode cX10_take 21 = .ok (.aload_n 0, 1) := by decide +kernel
theorem dX10_take_22 : decode cX10_take 22 = .ok (.iload_n 1, 1) := by decide +kernel
theorem dX10_take_23 : decode cX10_take 23 = .ok (.iload_n 2, 1) := by decide +kernel
theorem dX10_take_24 : decode cX10_take 24 = .ok (.invokevirtual 444, 3) := by decide +kernel
theorem dX10_take_27 : decode cX10_take 27 = .ok (.ifCond .ne 5, 3) := by decide +kernel
theorem dX10_take_30 : decode cX10_take 30 = .ok (.iconst 0, 1) := by decide +kernel
theorem dX10_take_31 : decode cX10_take 31 = .ok (.ireturn, 1) := by decide +kernel
theorem dX10_take_32 : decode cX10_take 32 = .ok (.aload_n 0, 1) := by decide +kernel
theorem dX10_take_33 : decode cX10_take 33 = .ok (.invokevirtual 447, 3) := by decide +kernel
theorem dX10_take_36 : decode cX10_take 36 = .ok (.aload_n 0, 1) := by decide +kernel
theorem dX10_take_37 : decode cX10_take 37 = .ok (.getfield 126, 3) := by decide +kernel
theorem dX10_take_40 : decode cX10_take 40 = .ok (.bipush 19, 2) := by decide +kernel
theorem dX10_take_42 : decode cX10_take 42 = .ok (.iload_n 2, 1) := by decide +kernel
theorem dX10_take_43 : decode cX10_take 43 = .ok (.iadd, 1) := by decide +kernel
theorem dX10_take_44 : decode cX10_take 44 = .ok (.iload_n 1, 1) := by decide +kernel
theorem dX10_take_45 : decode cX10_take 45 = .ok (.iastore, 1) := by decide +kernel
theorem dX10_take_46 : decode cX10_take 46 = .ok (.iconst 1, 1) := by decide +kernel
theorem dX10_take_47 : decode cX10_take 47 = .ok (.ireturn, 1) := by decide +kernel
theorem dX10_swims_0 : decode cX10_swims 0 = .ok (.aload_n 0, 1) := by decide +kernel
theorem dX10_swims_1 : decode cX10_swims 1 = .ok (.getfield 126, 3) := by decide +kernel
theorem dX10_swims_4 : decode cX10_swims 4 = .ok (.bipush 13, 2) := by decide +kernel
theorem dX10_swims_6 : decode cX10_swims 6 = .ok (.iload_n 1, 1) := by decide +kernel
theorem dX10_swims_7 : decode cX10_swims 7 = .ok (.iadd, 1) := by decide +kernel
theorem dX10_swims_8 : decode cX10_swims 8 = .ok (.iload_n 2, 1) := by decide +kernel
theorem dX10_swims_9 : decode cX10_swims 9 = .ok (.iastore, 1) := by decide +kernel
theorem dX10_swims_10 : decode cX10_swims 10 = .ok (.aload_n 0, 1) := by decide +kernel
theorem dX10_swims_11 : decode cX10_swims 11 = .ok (.getfield 126, 3) := by decide +kernel
theorem dX10_swims_14 : decode cX10_swims 14 = .ok (.bipush 16, 2) := by decide +kernel
theorem dX10_swims_16 : decode cX10_swims 16 = .ok (.iload_n 1, 1) := by decide +kernel
theorem dX10_swims_17 : decode cX10_swims 17 = .ok (.iadd, 1) := by decide +kernel
theorem dX10_swims_18 : decode cX10_swims 18 = .ok (.dup2, 1) := by decide +kernel
theorem dX10_swims_19 : decode cX10_swims 19 = .ok (.iaload, 1) := by decide +kernel
theorem dX10_swims_20 : decode cX10_swims 20 = .ok (.iconst 1, 1) := by decide +kernel
theorem dX10_swims_21 : decode cX10_swims 21 = .ok (.iadd, 1) := by decide +kernel
theorem dX10_swims_22 : decode cX10_swims 22 = .ok (.iastore, 1) := by decide +kernel
theorem dX10_swims_23 : decode cX10_swims 23 = .ok (.return_, 1) := by decide +kernel
theorem dX10_swim_0 : decode cX10_swim 0 = .ok (.aload_n 0, 1) := by decide +kernel
theorem dX10_swim_1 : decode cX10_swim 1 = .ok (.iconst 0, 1) := by decide +kernel
theorem dX10_swim_2 : decode cX10_swim 2 = .ok (.putfield 162, 3) := by decide +kernel
theorem dX10_swim_5 : decode cX10_swim 5 = .ok (.aload_n 0, 1) := by decide +kernel
theorem dX10_swim_6 : decode cX10_swim 6 = .ok (.iload_n 1, 1) := by decide +kernel
theorem dX10_swim_7 : decode cX10_swim 7 = .ok (.invokevirtual 425, 3) := by decide +kernel
theorem dX10_swim_10 : decode cX10_swim 10 = .ok (.ifCond .eq 23, 3) := by decide +kernel
theorem dX10_swim_13 : decode cX10_swim 13 = .ok (.aload_n 0, 1) := by decide +kernel
theorem dX10_swim_14 : decode cX10_swim 14 = .ok (.iload_n 2, 1) := by decide +kernel
theorem dX10_swim_15 : decode cX10_swim 15 = .ok (.invokevirtual 416, 3) := by decide +kernel
theorem dX10_swim_18 : decode cX10_swim 18 = .ok (.ifCond .eq 15, 3) := by decide +kernel
theorem dX10_swim_21 : decode cX10_swim 21 = .ok (.aload_n 0, 1) := by decide +kernel
theorem dX10_swim_22 : decode cX10_swim 22 = .ok (.iload_n 1, 1) := by decide +kernel
theorem dX10_swim_23 : decode cX10_swim 23 = .ok (.invokevirtual 450, 3) := by decide +kernel
theorem dX10_swim_26 : decode cX10_swim 26 = .ok (.iload_n 2, 1) := by decide +kernel
theorem dX10_swim_27 : decode cX10_swim 27 = .ok (.ishr, 1) := by decide +kernel
theorem dX10_swim_28 : decode cX10_swim 28 = .ok (.iconst 1, 1) := by decide +kernel
theorem dX10_swim_29 : decode cX10_swim 29 = .ok (.iand, 1) := by decide +kernel
theorem dX10_swim_30 : decode cX10_swim 30 = .ok (.ifCond .ne 5, 3) := by decide +kernel
theorem dX10_swim_33 : decode cX10_swim 33 = .ok (.iconst (-1), 1) := by decide +kernel
theorem dX10_swim_34 : decode cX10_swim 34 = .ok (.ireturn, 1) := by decide +kernel
theorem dX10_swim_35 : decode cX10_swim 35 = .ok (.aload_n 0, 1) := by decide +kernel
theorem dX10_swim_36 : decode cX10_swim 36 = .ok (.invokevirtual 447, 3) := by decide +kernel
theorem dX10_swim_39 : decode cX10_swim 39 = .ok (.aload_n 0, 1) := by decide +kernel
theorem dX10_swim_40 : decode cX10_swim 40 = .ok (.iload_n 1, 1) := by decide +kernel
theorem dX10_swim_41 : decode cX10_swim 41 = .ok (.iload_n 2, 1) := by decide +kernel
theorem dX10_swim_42 : decode cX10_swim 42 = .ok (.invokevirtual 453, 3) := by decide +kernel
theorem dX10_swim_45 : decode cX10_swim 45 = .ok (.aload_n 0, 1) := by decide +kernel
theorem dX10_swim_46 : decode cX10_swim 46 = .ok (.getfield 126, 3) := by decide +kernel
theorem dX10_swim_49 : decode cX10_swim 49 = .ok (.bipush 16, 2) := by decide +kernel
theorem dX10_swim_51 : decode cX10_swim 51 = .ok (.iload_n 1, 1) := by decide +kernel
theorem dX10_swim_52 : decode cX10_swim 52 = .ok (.iadd, 1) := by decide +kernel
theorem dX10_swim_53 : decode cX10_swim 53 = .ok (.iaload, 1) := by decide +kernel
theorem dX10_swim_54 : decode cX10_swim 54 = .ok (.ireturn, 1) := by decide +kernel
theorem dX10_serve_0 : decode cX10_serve 0 = .ok (.aload_n 0, 1) := by decide +kernel
theorem dX10_serve_1 : decode cX10_serve 1 = .ok (.iconst 0, 1) := by decide +kernel
theorem dX10_serve_2 : decode cX10_serve 2 = .ok (.putfield 162, 3) := by decide +kernel
theorem dX10_serve_5 : decode cX10_serve 5 = .ok (.aload_n 0, 1) := by decide +kernel
theorem dX10_serve_6 : decode cX10_serve 6 = .ok (.iload_n 1, 1) := by decide +kernel
theorem dX10_serve_7 : decode cX10_serve 7 = .ok (.invokevirtual 431, 3) := by decide +kernel
theorem dX10_serve_10 : decode cX10_serve 10 = .ok (.ifCond .eq 11, 3) := by decide +kernel
theorem dX10_serve_13 : decode cX10_serve 13 = .ok (.aload_n 0, 1) := by decide +kernel
theorem dX10_serve_14 : decode cX10_serve 14 = .ok (.iload_n 1, 1) := by decide +kernel
theorem dX10_serve_15 : decode cX10_serve 15 = .ok (.invokevirtual 456, 3) := by decide +kernel
theorem dX10_serve_18 : decode cX10_serve 18 = .ok (.ifCond .ne 5, 3) := by decide +kernel
theorem dX10_serve_21 : decode cX10_serve 21 = .ok (.iconst (-1), 1) := by decide +kernel
theorem dX10_serve_22 : decode cX10_serve 22 = .ok (.ireturn, 1) := by decide +kernel
theorem dX10_serve_23 : decode cX10_serve 23 = .ok (.aload_n 0, 1) := by decide +kernel
theorem dX10_serve_24 : decode cX10_serve 24 = .ok (.invokevirtual 447, 3) := by decide +kernel
theorem dX10_serve_27 : decode cX10_serve 27 = .ok (.aload_n 0, 1) := by decide +kernel
theorem dX10_serve_28 : decode cX10_serve 28 = .ok (.getfield 126, 3) := by decide +kernel
theorem dX10_serve_31 : decode cX10_serve 31 = .ok (.bipush 19, 2) := by decide +kernel
theorem dX10_serve_33 : decode cX10_serve 33 = .ok (.iload_n 1, 1) := by decide +kernel
theorem dX10_serve_34 : decode cX10_serve 34 = .ok (.iadd, 1) := by decide +kernel
theorem dX10_serve_35 : decode cX10_serve 35 = .ok (.iaload, 1) := by decide +kernel
theorem dX10_serve_36 : decode cX10_serve 36 = .ok (.istore_n 2, 1) := by decide +kernel
theorem dX10_serve_37 : decode cX10_serve 37 = .ok (.aload_n 0, 1) := by decide +kernel
theorem dX10_serve_38 : decode cX10_serve 38 = .ok (.getfield 126, 3) := by decide +kernel
theorem dX10_serve_41 : decode cX10_serve 41 = .ok (.bipush 19, 2) := by decide +kernel
theorem dX10_serve_43 : decode cX10_serve 43 = .ok (.iload_n 1, 1) := by decide +kernel
theorem dX10_serve_44 : decode cX10_serve 44 = .ok (.iadd, 1) := by decide +kernel
theorem dX10_serve_45 : decode cX10_serve 45 = .ok (.iconst 3, 1) := by decide +kernel
theorem dX10_serve_46 : decode cX10_serve 46 = .ok (.iastore, 1) := by decide +kernel
theorem dX10_serve_47 : decode cX10_serve 47 = .ok (.iload_n 2, 1) := by decide +kernel
theorem dX10_serve_48 : decode cX10_serve 48 = .ok (.ireturn, 1) := by decide +kernel
theorem dX10_day_0 : decode cX10_day 0 = .ok (.aload_n 0, 1) := by decide +kernel
theorem dX10_day_1 : decode cX10_day 1 = .ok (.iconst 0, 1) := by decide +kernel
theorem dX10_day_2 : decode cX10_day 2 = .ok (.putfield 162, 3) := by decide +kernel
theorem dX10_day_5 : decode cX10_day 5 = .ok (.aload_n 0, 1) := by decide +kernel
theorem dX10_day_6 : decode cX10_day 6 = .ok (.invokevirtual 447, 3) := by decide +kernel
theorem dX10_day_9 : decode cX10_day 9 = .ok (.aload_n 0, 1) := by decide +kernel
theorem dX10_day_10 : decode cX10_day 10 = .ok (.invokevirtual 459, 3) := by decide +kernel
theorem dX10_day_13 : decode cX10_day 13 = .ok (.aload_n 0, 1) := by decide +kernel
theorem dX10_day_14 : decode cX10_day 14 = .ok (.invokevirtual 438, 3) := by decide +kernel
theorem dX10_day_17 : decode cX10_day 17 = .ok (.ireturn, 1) := by decide +kernel
theorem dX10_undo_0 : decode cX10_undo 0 = .ok (.aload_n 0, 1) := by decide +kernel
theorem dX10_undo_1 : decode cX10_undo 1 = .ok (.iconst 0, 1) := by decide +kernel
theorem dX10_undo_2 : decode cX10_undo 2 = .ok (.putfield 162, 3) := by decide +kernel
theorem dX10_undo_5 : decode cX10_undo 5 = .ok (.aload_n 0, 1) := by decide +kernel
theorem dX10_undo_6 : decode cX10_undo 6 = .ok (.getfield 383, 3) := by decide +kernel
theorem dX10_undo_9 : decode cX10_undo 9 = .ok (.ifCond .ne 5, 3) := by decide +kernel
theorem dX10_undo_12 : decode cX10_undo 12 = .ok (.iconst 0, 1) := by decide +kernel
theorem dX10_undo_13 : decode cX10_undo 13 = .ok (.ireturn, 1) := by decide +kernel
theorem dX10_undo_14 : decode cX10_undo 14 = .ok (.aload_n 0, 1) := by decide +kernel
theorem dX10_undo_15 : decode cX10_undo 15 = .ok (.dup, 1) := by decide +kernel
theorem dX10_undo_16 : decode cX10_undo 16 = .ok (.getfield 383, 3) := by decide +kernel
theorem dX10_undo_19 : decode cX10_undo 19 = .ok (.iconst 1, 1) := by decide +kernel
theorem dX10_undo_20 : decode cX10_undo 20 = .ok (.isub, 1) := by decide +kernel
theorem dX10_undo_21 : decode cX10_undo 21 = .ok (.putfield 383, 3) := by decide +kernel
theorem dX10_undo_24 : decode cX10_undo 24 = .ok (.aload_n 0, 1) := by decide +kernel
theorem dX10_undo_25 : decode cX10_undo 25 = .ok (.getfield 138, 3) := by decide +kernel
theorem dX10_undo_28 : decode cX10_undo 28 = .ok (.bipush 25, 2) := by decide +kernel
theorem dX10_undo_30 : decode cX10_undo 30 = .ok (.aload_n 0, 1) := by decide +kernel
theorem dX10_undo_31 : decode cX10_undo 31 = .ok (.getfield 383, 3) := by decide +kernel
theorem dX10_undo_34 : decode cX10_undo 34 = .ok (.imul, 1) := by decide +kernel
theorem dX10_undo_35 : decode cX10_undo 35 = .ok (.aload_n 0, 1) := by decide +kernel
theorem dX10_undo_36 : decode cX10_undo 36 = .ok (.getfield 126, 3) := by decide +kernel
theorem dX10_undo_39 : decode cX10_undo 39 = .ok (.iconst 0, 1) := by decide +kernel
theorem dX10_undo_40 : decode cX10_undo 40 = .ok (.invokestatic 434, 3) := by decide +kernel
theorem dX10_undo_43 : decode cX10_undo 43 = .ok (.iconst 1, 1) := by decide +kernel
theorem dX10_undo_44 : decode cX10_undo 44 = .ok (.ireturn, 1) := by decide +kernel
theorem dX10_judged_0 : decode cX10_judged 0 = .ok (.aload_n 0, 1) := by decide +kernel
theorem dX10_judged_1 : decode cX10_judged 1 = .ok (.iconst 0, 1) := by decide +kernel
theorem dX10_judged_2 : decode cX10_judged 2 = .ok (.putfield 162, 3) := by decide +kernel
theorem dX10_judged_5 : decode cX10_judged 5 = .ok (.iload_n 1, 1) := by decide +kernel
theorem dX10_judged_6 : decode cX10_judged 6 = .ok (.iconst 0, 1) := by decide +kernel
theorem dX10_judged_7 : decode cX10_judged 7 = .ok (.iconst 2, 1) := by decide +kernel
theorem dX10_judged_8 : decode cX10_judged 8 = .ok (.invokestatic 293, 3) := by decide +kernel
theorem dX10_judged_11 : decode cX10_judged 11 = .ok (.ifCond .ne 6, 3) := by decide +kernel
theorem dX10_judged_14 : decode cX10_judged 14 = .ok (.bipush (-2), 2) := by decide +kernel
theorem dX10_judged_16 : decode cX10_judged 16 = .ok (.ireturn, 1) := by decide +kernel
theorem dX10_judged_17 : decode cX10_judged 17 = .ok (.aload_n 0, 1) := by decide +kernel
theorem dX10_judged_18 : decode cX10_judged 18 = .ok (.getfield 126, 3) := by decide +kernel
theorem dX10_judged_21 : decode cX10_judged 21 = .ok (.iconst 0, 1) := by decide +kernel
theorem dX10_judged_22 : decode cX10_judged 22 = .ok (.aload_n 0, 1) := by decide +kernel
theorem dX10_judged_23 : decode cX10_judged 23 = .ok (.getfield 129, 3) := by decide +kernel
theorem dX10_judged_26 : decode cX10_judged 26 = .ok (.iconst 0, 1) := by decide +kernel
theorem dX10_judged_27 : decode cX10_judged 27 = .ok (.invokestatic 434, 3) := by decide +kernel
theorem dX10_judged_30 : decode cX10_judged 30 = .ok (.aload_n 0, 1) := by decide +kernel
theorem dX10_judged_31 : decode cX10_judged 31 = .ok (.invokevirtual 159, 3) := by decide +kernel
theorem dX10_judged_34 : decode cX10_judged 34 = .ok (.iconst (-1), 1) := by decide +kernel
theorem dX10_judged_35 : decode cX10_judged 35 = .ok (.istore_n 2, 1) := by decide +kernel
theorem dX10_judged_36 : decode cX10_judged 36 = .ok (.iconst (-1), 1) := by decide +kernel
theorem dX10_judged_37 : decode cX10_judged 37 = .ok (.istore_n 3, 1) := by decide +kernel
theorem dX10_judged_38 : decode cX10_judged 38 = .ok (.iconst 0, 1) := by decide +kernel
theorem dX10_judged_39 : decode cX10_judged 39 = .ok (.istore 4, 2) := by decide +kernel
theorem dX10_judged_41 : decode cX10_judged 41 = .ok (.iload 4, 2) := by decide +kernel
theorem dX10_judged_43 : decode cX10_judged 43 = .ok (.aload_n 0, 1) := by decide +kernel
theorem dX10_judged_44 : decode cX10_judged 44 = .ok (.getfield 102, 3) := by decide +kernel
theorem dX10_judged_47 : decode cX10_judged 47 = .ok (.iconst 0, 1) := by decide +kernel
theorem dX10_judged_48 : decode cX10_judged 48 = .ok (.iaload, 1) := by decide +kernel
theorem dX10_judged_49 : decode cX10_judged 49 = .ok (.if_icmp .ge 185, 3) := by decide +kernel
theorem dX10_judged_52 : decode cX10_judged 52 = .ok (.aload_n 0, 1) := by decide +kernel
theorem dX10_judged_53 : decode cX10_judged 53 = .ok (.getfield 108, 3) := by decide +kernel
theorem dX10_judged_56 : decode cX10_judged 56 = .ok (.iload 4, 2) := by decide +kernel
theorem dX10_judged_58 : decode cX10_judged 58 = .ok (.iaload, 1) := by decide +kernel
theorem dX10_judged_59 : decode cX10_judged 59 = .ok (.istore 5, 2) := by decide +kernel
theorem dX10_judged_61 : decode cX10_judged 61 = .ok (.aload_n 0, 1) := by decide +kernel
theorem dX10_judged_62 : decode cX10_judged 62 = .ok (.getfield 111, 3) := by decide +kernel
theorem dX10_judged_65 : decode cX10_judged 65 = .ok (.iload 4, 2) := by decide +kernel
theorem dX10_judged_67 : decode cX10_judged 67 = .ok (.iaload, 1) := by decide +kernel
theorem dX10_judged_68 : decode cX10_judged 68 = .ok (.istore 6, 2) := by decide +kernel
theorem dX10_judged_70 : decode cX10_judged 70 = .ok (.iconst 1, 1) := by decide +kernel
theorem dX10_judged_71 : decode cX10_judged 71 = .ok (.istore 7, 2) := by decide +kernel
theorem dX10_judged_73 : decode cX10_judged 73 = .ok (.aload_n 0, 1) := by decide +kernel
theorem dX10_judged_74 : decode cX10_judged 74 = .ok (.getfield 105, 3) := by decide +kernel
theorem dX10_judged_77 : decode cX10_judged 77 = .ok (.iload 4, 2) := by decide +kernel
theorem dX10_judged_79 : decode cX10_judged 79 = .ok (.iaload, 1) := by decide +kernel
theorem dX10_judged_80 : decode cX10_judged 80 = .ok (.ifCond .ne 10, 3) := by decide +kernel
theorem dX10_judged_83 : decode cX10_judged 83 = .ok (.aload_n 0, 1) := by decide +kernel
theorem dX10_judged_84 : decode cX10_judged 84 = .ok (.invokevirtual 459, 3) := by decide +kernel
theorem dX10_judged_87 : decode cX10_judged 87 = .ok (.goto 129, 3) := by decide +kernel
theorem dX10_judged_90 : decode cX10_judged 90 = .ok (.aload_n 0, 1) := by decide +kernel
theorem dX10_judged_91 : decode cX10_judged 91 = .ok (.getfield 105, 3) := by decide +kernel
theorem dX10_judged_94 : decode cX10_judged 94 = .ok (.iload 4, 2) := by decide +kernel
theorem dX10_judged_96 : decode cX10_judged 96 = .ok (.iaload, 1) := by decide +kernel
theorem dX10_judged_97 : decode cX10_judged 97 = .ok (.iconst 1, 1) := by decide +kernel
theorem dX10_judged_98 : decode cX10_judged 98 = .ok (.if_icmp .ne 33, 3) := by decide +kernel
theorem dX10_judged_101 : decode cX10_judged 101 = .ok (.aload_n 0, 1) := by decide +kernel
theorem dX10_judged_102 : decode cX10_judged 102 = .ok (.iload 5, 2) := by decide +kernel
theorem dX10_judged_104 : decode cX10_judged 104 = .ok (.iload 6, 2) := by decide +kernel
theorem dX10_judged_106 : decode cX10_judged 106 = .ok (.invokevirtual 444, 3) := by decide +kernel
theorem dX10_judged_109 : decode cX10_judged 109 = .ok (.istore 7, 2) := by decide +kernel
theorem dX10_judged_111 : decode cX10_judged 111 = .ok (.iload 7, 2) := by decide +kernel
theorem dX10_judged_113 : decode cX10_judged 113 = .ok (.ifCond .eq 103, 3) := by decide +kernel
theorem dX10_judged_116 : decode cX10_judged 116 = .ok (.aload_n 0, 1) := by decide +kernel
theorem dX10_judged_117 : decode cX10_judged 117 = .ok (.getfield 126, 3) := by decide +kernel
theorem dX10_judged_120 : decode cX10_judged 120 = .ok (.bipush 19, 2) := by decide +kernel
theorem dX10_judged_122 : decode cX10_judged 122 = .ok (.iload 6, 2) := by decide +kernel
theorem dX10_judged_124 : decode cX10_judged 124 = .ok (.iadd, 1) := by decide +kernel
theorem dX10_judged_125 : decode cX10_judged 125 = .ok (.iload 5, 2) := by decide +kernel
theorem dX10_judged_127 : decode cX10_judged 127 = .ok (.iastore, 1) := by decide +kernel
theorem dX10_judged_128 : decode cX10_judged 128 = .ok (.goto 88, 3) := by decide +kernel
theorem dX10_judged_131 : decode cX10_judged 131 = .ok (.aload_n 0, 1) := by decide +kernel
theorem dX10_judged_132 : decode cX10_judged 132 = .ok (.getfield 105, 3) := by decide +kernel
theorem dX10_judged_135 : decode cX10_judged 135 = .ok (.iload 4, 2) := by decide +kernel
theorem dX10_judged_137 : decode cX10_judged 137 = .ok (.iaload, 1) := by decide +kernel
theorem dX10_judged_138 : decode cX10_judged 138 = .ok (.iconst 2, 1) := by decide +kernel
theorem dX10_judged_139 : decode cX10_judged 139 = .ok (.if_icmp .ne 41, 3) := by decide +kernel
theorem dX10_judged_142 : decode cX10_judged 142 = .ok (.aload_n 0, 1) := by decide +kernel
theorem dX10_judged_143 : decode cX10_judged 143 = .ok (.iload 5, 2) := by decide +kernel
theorem dX10_judged_145 : decode cX10_judged 145 = .ok (.invokevirtual 450, 3) := by decide +kernel
theorem dX10_judged_148 : decode cX10_judged 148 = .ok (.iload 6, 2) := by decide +kernel
theorem dX10_judged_150 : decode cX10_judged 150 = .ok (.ishr, 1) := by decide +kernel
theorem dX10_judged_151 : decode cX10_judged 151 = .ok (.iconst 1, 1) := by decide +kernel
theorem dX10_judged_152 : decode cX10_judged 152 = .ok (.iand, 1) := by decide +kernel
theorem dX10_judged_153 : decode cX10_judged 153 = .ok (.iconst 1, 1) := by decide +kernel
theorem dX10_judged_154 : decode cX10_judged 154 = .ok (.if_icmp .ne 7, 3) := by decide +kernel
theorem dX10_judged_157 : decode cX10_judged 157 = .ok (.iconst 1, 1) := by decide +kernel
theorem dX10_judged_158 : decode cX10_judged 158 = .ok (.goto 4, 3) := by decide +kernel
theorem dX10_judged_161 : decode cX10_judged 161 = .ok (.iconst 0, 1) := by decide +kernel
theorem dX10_judged_162 : decode cX10_judged 162 = .ok (.istore 7, 2) := by decide +kernel
theorem dX10_judged_164 : decode cX10_judged 164 = .ok (.iload 7, 2) := by decide +kernel
theorem dX10_judged_166 : decode cX10_judged 166 = .ok (.ifCond .eq 50, 3) := by decide +kernel
theorem dX10_judged_169 : decode cX10_judged 169 = .ok (.aload_n 0, 1) := by decide +kernel
theorem dX10_judged_170 : decode cX10_judged 170 = .ok (.iload 5, 2) := by decide +kernel
theorem dX10_judged_172 : decode cX10_judged 172 = .ok (.iload 6, 2) := by decide +kernel
theorem dX10_judged_174 : decode cX10_judged 174 = .ok (.invokevirtual 453, 3) := by decide +kernel
theorem dX10_judged_177 : decode cX10_judged 177 = .ok (.goto 39, 3) := by decide +kernel
theorem dX10_judged_180 : decode cX10_judged 180 = .ok (.aload_n 0, 1) := by decide +kernel
theorem dX10_judged_181 : decode cX10_judged 181 = .ok (.iload 6, 2) := by decide +kernel
theorem dX10_judged_183 : decode cX10_judged 183 = .ok (.invokevirtual 456, 3) := by decide +kernel
theorem dX10_judged_186 : decode cX10_judged 186 = .ok (.istore 7, 2) := by decide +kernel
theorem dX10_judged_188 : decode cX10_judged 188 = .ok (.iload 7, 2) := by decide +kernel
theorem dX10_judged_190 : decode cX10_judged 190 = .ok (.ifCond .eq 14, 3) := by decide +kernel
theorem dX10_judged_193 : decode cX10_judged 193 = .ok (.aload_n 0, 1) := by decide +kernel
theorem dX10_judged_194 : decode cX10_judged 194 = .ok (.getfield 126, 3) := by decide +kernel
theorem dX10_judged_197 : decode cX10_judged 197 = .ok (.bipush 19, 2) := by decide +kernel
theorem dX10_judged_199 : decode cX10_judged 199 = .ok (.iload 6, 2) := by decide +kernel
theorem dX10_judged_201 : decode cX10_judged 201 = .ok (.iadd, 1) := by decide +kernel
theorem dX10_judged_202 : decode cX10_judged 202 = .ok (.iconst 3, 1) := by decide +kernel
theorem dX10_judged_203 : decode cX10_judged 203 = .ok (.iastore, 1) := by decide +kernel
theorem dX10_judged_204 : decode cX10_judged 204 = .ok (.iload 7, 2) := by decide +kernel
theorem dX10_judged_206 : decode cX10_judged 206 = .ok (.ifCond .eq 10, 3) := by decide +kernel
theorem dX10_judged_209 : decode cX10_judged 209 = .ok (.iload_n 3, 1) := by decide +kernel
theorem dX10_judged_210 : decode cX10_judged 210 = .ok (.ifCond .ge 6, 3) := by decide +kernel
theorem dX10_judged_213 : decode cX10_judged 213 = .ok (.iload 4, 2) := by decide +kernel
theorem dX10_judged_215 : decode cX10_judged 215 = .ok (.istore_n 3, 1) := by decide +kernel
theorem dX10_judged_216 : decode cX10_judged 216 = .ok (.iload 7, 2) := by decide +kernel
theorem dX10_judged_218 : decode cX10_judged 218 = .ok (.ifCond .ne 10, 3) := by decide +kernel
theorem dX10_judged_221 : decode cX10_judged 221 = .ok (.iload_n 2, 1) := by decide +kernel
theorem dX10_judged_222 : decode cX10_judged 222 = .ok (.ifCond .ge 6, 3) := by decide +kernel
theorem dX10_judged_225 : decode cX10_judged 225 = .ok (.iload 4, 2) := by decide +kernel
theorem dX10_judged_227 : decode cX10_judged 227 = .ok (.istore_n 2, 1) := by decide +kernel
theorem dX10_judged_228 : decode cX10_judged 228 = .ok (.iinc 4 1, 3) := by decide +kernel
theorem dX10_judged_231 : decode cX10_judged 231 = .ok (.goto (-190), 3) := by decide +kernel
theorem dX10_judged_234 : decode cX10_judged 234 = .ok (.aload_n 0, 1) := by decide +kernel
theorem dX10_judged_235 : decode cX10_judged 235 = .ok (.iconst 3, 1) := by decide +kernel
theorem dX10_judged_236 : decode cX10_judged 236 = .ok (.invokevirtual 428, 3) := by decide +kernel
theorem dX10_judged_239 : decode cX10_judged 239 = .ok (.invokestatic 393, 3) := by decide +kernel
theorem dX10_judged_242 : decode cX10_judged 242 = .ok (.istore 4, 2) := by decide +kernel
theorem dX10_judged_244 : decode cX10_judged 244 = .ok (.aload_n 0, 1) := by decide +kernel
theorem dX10_judged_245 : decode cX10_judged 245 = .ok (.getfield 129, 3) := by decide +kernel
theorem dX10_judged_248 : decode cX10_judged 248 = .ok (.iconst 0, 1) := by decide +kernel
theorem dX10_judged_249 : decode cX10_judged 249 = .ok (.aload_n 0, 1) := by decide +kernel
theorem dX10_judged_250 : decode cX10_judged 250 = .ok (.getfield 126, 3) := by decide +kernel
theorem dX10_judged_253 : decode cX10_judged 253 = .ok (.iconst 0, 1) := by decide +kernel
theorem dX10_judged_254 : decode cX10_judged 254 = .ok (.invokestatic 434, 3) := by decide +kernel
theorem dX10_judged_257 : decode cX10_judged 257 = .ok (.iload_n 1, 1) := by decide +kernel
theorem dX10_judged_258 : decode cX10_judged 258 = .ok (.ifCond .ne 7, 3) := by decide +kernel
theorem dX10_judged_261 : decode cX10_judged 261 = .ok (.iload_n 2, 1) := by decide +kernel
theorem dX10_judged_262 : decode cX10_judged 262 = .ok (.goto 14, 3) := by decide +kernel
theorem dX10_judged_265 : decode cX10_judged 265 = .ok (.iload_n 1, 1) := by decide +kernel
theorem dX10_judged_266 : decode cX10_judged 266 = .ok (.iconst 1, 1) := by decide +kernel
theorem dX10_judged_267 : decode cX10_judged 267 = .ok (.if_icmp .ne 7, 3) := by decide +kernel
theorem dX10_judged_270 : decode cX10_judged 270 = .ok (.iload_n 3, 1) := by decide +kernel
theorem dX10_judged_271 : decode cX10_judged 271 = .ok (.goto 5, 3) := by decide +kernel
theorem dX10_judged_274 : decode cX10_judged 274 = .ok (.iload 4, 2) := by decide +kernel
theorem dX10_judged_276 : decode cX10_judged 276 = .ok (.ireturn, 1) := by decide +kernel
theorem dX10_later_0 : decode cX10_later 0 = .ok (.aload_n 0, 1) := by decide +kernel
theorem dX10_later_1 : decode cX10_later 1 = .ok (.iconst 0, 1) := by decide +kernel
theorem dX10_later_2 : decode cX10_later 2 = .ok (.putfield 162, 3) := by decide +kernel
theorem dX10_later_5 : decode cX10_later 5 = .ok (.aload_n 0, 1) := by decide +kernel
theorem dX10_later_6 : decode cX10_later 6 = .ok (.iload_n 1, 1) := by decide +kernel
theorem dX10_later_7 : decode cX10_later 7 = .ok (.invokevirtual 416, 3) := by decide +kernel
theorem dX10_later_10 : decode cX10_later 10 = .ok (.ifCond .eq 13, 3) := by decide +kernel
theorem dX10_later_13 : decode cX10_later 13 = .ok (.iload_n 2, 1) := by decide +kernel
theorem dX10_later_14 : decode cX10_later 14 = .ok (.iconst 0, 1) := by decide +kernel
theorem dX10_later_15 : decode cX10_later 15 = .ok (.bipush 60, 2) := by decide +kernel
theorem dX10_later_17 : decode cX10_later 17 = .ok (.invokestatic 293, 3) := by decide +kernel
theorem dX10_later_20 : decode cX10_later 20 = .ok (.ifCond .ne 5, 3) := by decide +kernel
theorem dX10_later_23 : decode cX10_later 23 = .ok (.iconst (-1), 1) := by decide +kernel
theorem dX10_later_24 : decode cX10_later 24 = .ok (.ireturn, 1) := by decide +kernel
theorem dX10_later_25 : decode cX10_later 25 = .ok (.aload_n 0, 1) := by decide +kernel
theorem dX10_later_26 : decode cX10_later 26 = .ok (.getfield 126, 3) := by decide +kernel
theorem dX10_later_29 : decode cX10_later 29 = .ok (.iconst 0, 1) := by decide +kernel
theorem dX10_later_30 : decode cX10_later 30 = .ok (.aload_n 0, 1) := by decide +kernel
theorem dX10_later_31 : decode cX10_later 31 = .ok (.getfield 132, 3) := by decide +kernel
theorem dX10_later_34 : decode cX10_later 34 = .ok (.iconst 0, 1) := by decide +kernel
theorem dX10_later_35 : decode cX10_later 35 = .ok (.invokestatic 434, 3) := by decide +kernel
theorem dX10_later_38 : decode cX10_later 38 = .ok (.iconst 0, 1) := by decide +kernel
theorem dX10_later_39 : decode cX10_later 39 = .ok (.istore_n 3, 1) := by decide +kernel
theorem dX10_later_40 : decode cX10_later 40 = .ok (.iload_n 3, 1) := by decide +kernel
theorem dX10_later_41 : decode cX10_later 41 = .ok (.iload_n 2, 1) := by decide +kernel
theorem dX10_later_42 : decode cX10_later 42 = .ok (.if_icmp .ge 13, 3) := by decide +kernel
theorem dX10_later_45 : decode cX10_later 45 = .ok (.aload_n 0, 1) := by decide +kernel
theorem dX10_later_46 : decode cX10_later 46 = .ok (.invokevirtual 459, 3) := by decide +kernel
theorem dX10_later_49 : decode cX10_later 49 = .ok (.iinc 3 1, 3) := by decide +kernel
theorem dX10_later_52 : decode cX10_later 52 = .ok (.goto (-12), 3) := by decide +kernel
theorem dX10_later_55 : decode cX10_later 55 = .ok (.aload_n 0, 1) := by decide +kernel
theorem dX10_later_56 : decode cX10_later 56 = .ok (.getfield 126, 3) := by decide +kernel
theorem dX10_later_59 : decode cX10_later 59 = .ok (.iconst 1, 1) := by decide +kernel
theorem dX10_later_60 : decode cX10_later 60 = .ok (.iload_n 1, 1) := by decide +kernel
theorem dX10_later_61 : decode cX10_later 61 = .ok (.iadd, 1) := by decide +kernel
theorem dX10_later_62 : decode cX10_later 62 = .ok (.iaload, 1) := by decide +kernel
theorem dX10_later_63 : decode cX10_later 63 = .ok (.istore_n 3, 1) := by decide +kernel
theorem dX10_later_64 : decode cX10_later 64 = .ok (.aload_n 0, 1) := by decide +kernel
theorem dX10_later_65 : decode cX10_later 65 = .ok (.getfield 132, 3) := by decide +kernel
theorem dX10_later_68 : decode cX10_later 68 = .ok (.iconst 0, 1) := by decide +kernel
theorem dX10_later_69 : decode cX10_later 69 = .ok (.aload_n 0, 1) := by decide +kernel
theorem dX10_later_70 : decode cX10_later 70 = .ok (.getfield 126, 3) := by decide +kernel
theorem dX10_later_73 : decode cX10_later 73 = .ok (.iconst 0, 1) := by decide +kernel
theorem dX10_later_74 : decode cX10_later 74 = .ok (.invokestatic 434, 3) := by decide +kernel
theorem dX10_later_77 : decode cX10_later 77 = .ok (.iload_n 3, 1) := by decide +kernel
theorem dX10_later_78 : decode cX10_later 78 = .ok (.ireturn, 1) := by decide +kernel
theorem dX10_where_0 : decode cX10_where 0 = .ok (.aload_n 0, 1) := by decide +kernel
theorem dX10_where_1 : decode cX10_where 1 = .ok (.iconst 0, 1) := by decide +kernel
theorem dX10_where_2 : decode cX10_where 2 = .ok (.putfield 162, 3) := by decide +kernel
theorem dX10_where_5 : decode cX10_where 5 = .ok (.aload_n 0, 1) := by decide +kernel
theorem dX10_where_6 : decode cX10_where 6 = .ok (.iload_n 1, 1) := by decide +kernel
theorem dX10_where_7 : decode cX10_where 7 = .ok (.invokevirtual 422, 3) := by decide +kernel
theorem dX10_where_10 : decode cX10_where 10 = .ok (.ifCond .eq 13, 3) := by decide +kernel
theorem dX10_where_13 : decode cX10_where 13 = .ok (.iload_n 2, 1) := by decide +kernel
theorem dX10_where_14 : decode cX10_where 14 = .ok (.iconst 0, 1) := by decide +kernel
theorem dX10_where_15 : decode cX10_where 15 = .ok (.bipush 60, 2) := by decide +kernel
theorem dX10_where_17 : decode cX10_where 17 = .ok (.invokestatic 293, 3) := by decide +kernel
theorem dX10_where_20 : decode cX10_where 20 = .ok (.ifCond .ne 5, 3) := by decide +kernel
theorem dX10_where_23 : decode cX10_where 23 = .ok (.iconst (-1), 1) := by decide +kernel
theorem dX10_where_24 : decode cX10_where 24 = .ok (.ireturn, 1) := by decide +kernel
theorem dX10_where_25 : decode cX10_where 25 = .ok (.aload_n 0, 1) := by decide +kernel
theorem dX10_where_26 : decode cX10_where 26 = .ok (.getfield 126, 3) := by decide +kernel
theorem dX10_where_29 : decode cX10_where 29 = .ok (.iconst 0, 1) := by decide +kernel
theorem dX10_where_30 : decode cX10_where 30 = .ok (.aload_n 0, 1) := by decide +kernel
theorem dX10_where_31 : decode cX10_where 31 = .ok (.getfield 132, 3) := by decide +kernel
theorem dX10_where_34 : decode cX10_where 34 = .ok (.iconst 0, 1) := by decide +kernel
theorem dX10_where_35 : decode cX10_where 35 = .ok (.invokestatic 434, 3) := by decide +kernel
theorem dX10_where_38 : decode cX10_where 38 = .ok (.iconst 0, 1) := by decide +kernel
theorem dX10_where_39 : decode cX10_where 39 = .ok (.istore_n 3, 1) := by decide +kernel
theorem dX10_where_40 : decode cX10_where 40 = .ok (.iload_n 3, 1) := by decide +kernel
theorem dX10_where_41 : decode cX10_where 41 = .ok (.iload_n 2, 1) := by decide +kernel
theorem dX10_where_42 : decode cX10_where 42 = .ok (.if_icmp .ge 13, 3) := by decide +kernel
theorem dX10_where_45 : decode cX10_where 45 = .ok (.aload_n 0, 1) := by decide +kernel
theorem dX10_where_46 : decode cX10_where 46 = .ok (.invokevirtual 459, 3) := by decide +kernel
theorem dX10_where_49 : decode cX10_where 49 = .ok (.iinc 3 1, 3) := by decide +kernel
theorem dX10_where_52 : decode cX10_where 52 = .ok (.goto (-12), 3) := by decide +kernel
theorem dX10_where_55 : decode cX10_where 55 = .ok (.aload_n 0, 1) := by decide +kernel
theorem dX10_where_56 : decode cX10_where 56 = .ok (.getfield 126, 3) := by decide +kernel
theorem dX10_where_59 : decode cX10_where 59 = .ok (.bipush 8, 2) := by decide +kernel
theorem dX10_where_61 : decode cX10_where 61 = .ok (.iload_n 1, 1) := by decide +kernel
theorem dX10_where_62 : decode cX10_where 62 = .ok (.iadd, 1) := by decide +kernel
theorem dX10_where_63 : decode cX10_where 63 = .ok (.iaload, 1) := by decide +kernel
theorem dX10_where_64 : decode cX10_where 64 = .ok (.istore_n 3, 1) := by decide +kernel
theorem dX10_where_65 : decode cX10_where 65 = .ok (.aload_n 0, 1) := by decide +kernel
theorem dX10_where_66 : decode cX10_where 66 = .ok (.getfield 132, 3) := by decide +kernel
theorem dX10_where_69 : decode cX10_where 69 = .ok (.iconst 0, 1) := by decide +kernel
theorem dX10_where_70 : decode cX10_where 70 = .ok (.aload_n 0, 1) := by decide +kernel
theorem dX10_where_71 : decode cX10_where 71 = .ok (.getfield 126, 3) := by decide +kernel
theorem dX10_where_74 : decode cX10_where 74 = .ok (.iconst 0, 1) := by decide +kernel
theorem dX10_where_75 : decode cX10_where 75 = .ok (.invokestatic 434, 3) := by decide +kernel
theorem dX10_where_78 : decode cX10_where 78 = .ok (.iload_n 3, 1) := by decide +kernel
theorem dX10_where_79 : decode cX10_where 79 = .ok (.ireturn, 1) := by decide +kernel
theorem dX10_comes_0 : decode cX10_comes 0 = .ok (.aload_n 0, 1) := by decide +kernel
theorem dX10_comes_1 : decode cX10_comes 1 = .ok (.getfield 126, 3) := by decide +kernel
theorem dX10_comes_4 : decode cX10_comes 4 = .ok (.iconst 0, 1) := by decide +kernel
theorem dX10_comes_5 : decode cX10_comes 5 = .ok (.aload_n 0, 1) := by decide +kernel
theorem dX10_comes_6 : decode cX10_comes 6 = .ok (.getfield 132, 3) := by decide +kernel
theorem dX10_comes_9 : decode cX10_comes 9 = .ok (.iconst 0, 1) := by decide +kernel
theorem dX10_comes_10 : decode cX10_comes 10 = .ok (.invokestatic 434, 3) := by decide +kernel
theorem dX10_comes_13 : decode cX10_comes 13 = .ok (.iconst 0, 1) := by decide +kernel
theorem dX10_comes_14 : decode cX10_comes 14 = .ok (.istore_n 3, 1) := by decide +kernel
theorem dX10_comes_15 : decode cX10_comes 15 = .ok (.iload_n 3, 1) := by decide +kernel
theorem dX10_comes_16 : decode cX10_comes 16 = .ok (.bipush 60, 2) := by decide +kernel
theorem dX10_comes_18 : decode cX10_comes 18 = .ok (.if_icmp .gt 31, 3) := by decide +kernel
theorem dX10_comes_21 : decode cX10_comes 21 = .ok (.aload_n 0, 1) := by decide +kernel
theorem dX10_comes_22 : decode cX10_comes 22 = .ok (.invokevirtual 438, 3) := by decide +kernel
theorem dX10_comes_25 : decode cX10_comes 25 = .ok (.iload_n 1, 1) := by decide +kernel
theorem dX10_comes_26 : decode cX10_comes 26 = .ok (.iand, 1) := by decide +kernel
theorem dX10_comes_27 : decode cX10_comes 27 = .ok (.iload_n 2, 1) := by decide +kernel
theorem dX10_comes_28 : decode cX10_comes 28 = .ok (.ifCond .eq 7, 3) := by decide +kernel
theorem dX10_comes_31 : decode cX10_comes 31 = .ok (.iload_n 1, 1) := by decide +kernel
theorem dX10_comes_32 : decode cX10_comes 32 = .ok (.goto 4, 3) := by decide +kernel
theorem dX10_comes_35 : decode cX10_comes 35 = .ok (.iconst 0, 1) := by decide +kernel
theorem dX10_comes_36 : decode cX10_comes 36 = .ok (.if_icmp .eq 13, 3) := by decide +kernel
theorem dX10_comes_39 : decode cX10_comes 39 = .ok (.aload_n 0, 1) := by decide +kernel
theorem dX10_comes_40 : decode cX10_comes 40 = .ok (.invokevirtual 459, 3) := by decide +kernel
theorem dX10_comes_43 : decode cX10_comes 43 = .ok (.iinc 3 1, 3) := by decide +kernel
theorem dX10_comes_46 : decode cX10_comes 46 = .ok (.goto (-31), 3) := by decide +kernel
theorem dX10_comes_49 : decode cX10_comes 49 = .ok (.aload_n 0, 1) := by decide +kernel
theorem dX10_comes_50 : decode cX10_comes 50 = .ok (.getfield 132, 3) := by decide +kernel
theorem dX10_comes_53 : decode cX10_comes 53 = .ok (.iconst 0, 1) := by decide +kernel
theorem dX10_comes_54 : decode cX10_comes 54 = .ok (.aload_n 0, 1) := by decide +kernel
theorem dX10_comes_55 : decode cX10_comes 55 = .ok (.getfield 126, 3) := by decide +kernel
theorem dX10_comes_58 : decode cX10_comes 58 = .ok (.iconst 0, 1) := by decide +kernel
theorem dX10_comes_59 : decode cX10_comes 59 = .ok (.invokestatic 434, 3) := by decide +kernel
theorem dX10_comes_62 : decode cX10_comes 62 = .ok (.iload_n 3, 1) := by decide +kernel
theorem dX10_comes_63 : decode cX10_comes 63 = .ok (.bipush 60, 2) := by decide +kernel
theorem dX10_comes_65 : decode cX10_comes 65 = .ok (.if_icmp .le 7, 3) := by decide +kernel
theorem dX10_comes_68 : decode cX10_comes 68 = .ok (.iconst (-1), 1) := by decide +kernel
theorem dX10_comes_69 : decode cX10_comes 69 = .ok (.goto 4, 3) := by decide +kernel
theorem dX10_comes_72 : decode cX10_comes 72 = .ok (.iload_n 3, 1) := by decide +kernel
theorem dX10_comes_73 : decode cX10_comes 73 = .ok (.ireturn, 1) := by decide +kernel
theorem dX10_dry_0 : decode cX10_dry 0 = .ok (.aload_n 0, 1) := by decide +kernel
theorem dX10_dry_1 : decode cX10_dry 1 = .ok (.iconst 0, 1) := by decide +kernel
theorem dX10_dry_2 : decode cX10_dry 2 = .ok (.putfield 162, 3) := by decide +kernel
theorem dX10_dry_5 : decode cX10_dry 5 = .ok (.aload_n 0, 1) := by decide +kernel
theorem dX10_dry_6 : decode cX10_dry 6 = .ok (.iload_n 1, 1) := by decide +kernel
theorem dX10_dry_7 : decode cX10_dry 7 = .ok (.invokevirtual 416, 3) := by decide +kernel
theorem dX10_dry_10 : decode cX10_dry 10 = .ok (.ifCond .eq 14, 3) := by decide +kernel
theorem dX10_dry_13 : decode cX10_dry 13 = .ok (.aload_n 0, 1) := by decide +kernel
theorem dX10_dry_14 : decode cX10_dry 14 = .ok (.iconst 1, 1) := by decide +kernel
theorem dX10_dry_15 : decode cX10_dry 15 = .ok (.iload_n 1, 1) := by decide +kernel
theorem dX10_dry_16 : decode cX10_dry 16 = .ok (.ishl, 1) := by decide +kernel
theorem dX10_dry_17 : decode cX10_dry 17 = .ok (.iconst 0, 1) := by decide +kernel
theorem dX10_dry_18 : decode cX10_dry 18 = .ok (.invokevirtual 462, 3) := by decide +kernel
theorem dX10_dry_21 : decode cX10_dry 21 = .ok (.goto 4, 3) := by decide +kernel
theorem dX10_dry_24 : decode cX10_dry 24 = .ok (.iconst (-1), 1) := by decide +kernel
theorem dX10_dry_25 : decode cX10_dry 25 = .ok (.ireturn, 1) := by decide +kernel
theorem dX10_wet_0 : decode cX10_wet 0 = .ok (.aload_n 0, 1) := by decide +kernel
theorem dX10_wet_1 : decode cX10_wet 1 = .ok (.iconst 0, 1) := by decide +kernel
theorem dX10_wet_2 : decode cX10_wet 2 = .ok (.putfield 162, 3) := by decide +kernel
theorem dX10_wet_5 : decode cX10_wet 5 = .ok (.aload_n 0, 1) := by decide +kernel
theorem dX10_wet_6 : decode cX10_wet 6 = .ok (.iload_n 1, 1) := by decide +kernel
theorem dX10_wet_7 : decode cX10_wet 7 = .ok (.invokevirtual 416, 3) := by decide +kernel
theorem dX10_wet_10 : decode cX10_wet 10 = .ok (.ifCond .eq 14, 3) := by decide +kernel
theorem dX10_wet_13 : decode cX10_wet 13 = .ok (.aload_n 0, 1) := by decide +kernel
theorem dX10_wet_14 : decode cX10_wet 14 = .ok (.iconst 1, 1) := by decide +kernel
theorem dX10_wet_15 : decode cX10_wet 15 = .ok (.iload_n 1, 1) := by decide +kernel
theorem dX10_wet_16 : decode cX10_wet 16 = .ok (.ishl, 1) := by decide +kernel
theorem dX10_wet_17 : decode cX10_wet 17 = .ok (.iconst 1, 1) := by decide +kernel
theorem dX10_wet_18 : decode cX10_wet 18 = .ok (.invokevirtual 462, 3) := by decide +kernel
theorem dX10_wet_21 : decode cX10_wet 21 = .ok (.goto 4, 3) := by decide +kernel
theorem dX10_wet_24 : decode cX10_wet 24 = .ok (.iconst (-1), 1) := by decide +kernel
theorem dX10_wet_25 : decode cX10_wet 25 = .ok (.ireturn, 1) := by decide +kernel
theorem dX10_flood_0 : decode cX10_flood 0 = .ok (.aload_n 0, 1) := by decide +kernel
theorem dX10_flood_1 : decode cX10_flood 1 = .ok (.iconst 0, 1) := by decide +kernel
theorem dX10_flood_2 : decode cX10_flood 2 = .ok (.putfield 162, 3) := by decide +kernel
theorem dX10_flood_5 : decode cX10_flood 5 = .ok (.aload_n 0, 1) := by decide +kernel
theorem dX10_flood_6 : decode cX10_flood 6 = .ok (.iconst 1, 1) := by decide +kernel
theorem dX10_flood_7 : decode cX10_flood 7 = .ok (.aload_n 0, 1) := by decide +kernel
theorem dX10_flood_8 : decode cX10_flood 8 = .ok (.getfield 13, 3) := by decide +kernel
theorem dX10_flood_11 : decode cX10_flood 11 = .ok (.iconst 0, 1) := by decide +kernel
theorem dX10_flood_12 : decode cX10_flood 12 = .ok (.iaload, 1) := by decide +kernel
theorem dX10_flood_13 : decode cX10_flood 13 = .ok (.ishl, 1) := by decide +kernel
theorem dX10_flood_14 : decode cX10_flood 14 = .ok (.iconst 1, 1) := by decide +kernel
theorem dX10_flood_15 : decode cX10_flood 15 = .ok (.isub, 1) := by decide +kernel
theorem dX10_flood_16 : decode cX10_flood 16 = .ok (.iconst 1, 1) := by decide +kernel
theorem dX10_flood_17 : decode cX10_flood 17 = .ok (.invokevirtual 462, 3) := by decide +kernel
theorem dX10_flood_20 : decode cX10_flood 20 = .ok (.ireturn, 1) := by decide +kernel
theorem dX10_crest_0 : decode cX10_crest 0 = .ok (.aload_n 0, 1) := by decide +kernel
theorem dX10_crest_1 : decode cX10_crest 1 = .ok (.iconst 0, 1) := by decide +kernel
theorem dX10_crest_2 : decode cX10_crest 2 = .ok (.putfield 162, 3) := by decide +kernel
theorem dX10_crest_5 : decode cX10_crest 5 = .ok (.aload_n 0, 1) := by decide +kernel
theorem dX10_crest_6 : decode cX10_crest 6 = .ok (.iload_n 1, 1) := by decide +kernel
theorem dX10_crest_7 : decode cX10_crest 7 = .ok (.invokevirtual 416, 3) := by decide +kernel
theorem dX10_crest_10 : decode cX10_crest 10 = .ok (.ifCond .ne 5, 3) := by decide +kernel
theorem dX10_crest_13 : decode cX10_crest 13 = .ok (.iconst (-1), 1) := by decide +kernel
theorem dX10_crest_14 : decode cX10_crest 14 = .ok (.ireturn, 1) := by decide +kernel
theorem dX10_crest_15 : decode cX10_crest 15 = .ok (.aload_n 0, 1) := by decide +kernel
theorem dX10_crest_16 : decode cX10_crest 16 = .ok (.getfield 126, 3) := by decide +kernel
theorem dX10_crest_19 : decode cX10_crest 19 = .ok (.iconst 0, 1) := by decide +kernel
theorem dX10_crest_20 : decode cX10_crest 20 = .ok (.aload_n 0, 1) := by decide +kernel
theorem dX10_crest_21 : decode cX10_crest 21 = .ok (.getfield 132, 3) := by decide +kernel
theorem dX10_crest_24 : decode cX10_crest 24 = .ok (.iconst 0, 1) := by decide +kernel
theorem dX10_crest_25 : decode cX10_crest 25 = .ok (.invokestatic 434, 3) := by decide +kernel
theorem dX10_crest_28 : decode cX10_crest 28 = .ok (.iconst 0, 1) := by decide +kernel
theorem dX10_crest_29 : decode cX10_crest 29 = .ok (.istore_n 2, 1) := by decide +kernel
theorem dX10_crest_30 : decode cX10_crest 30 = .ok (.iconst (-1), 1) := by decide +kernel
theorem dX10_crest_31 : decode cX10_crest 31 = .ok (.istore_n 3, 1) := by decide +kernel
theorem dX10_crest_32 : decode cX10_crest 32 = .ok (.iconst 0, 1) := by decide +kernel
theorem dX10_crest_33 : decode cX10_crest 33 = .ok (.istore 4, 2) := by decide +kernel
theorem dX10_crest_35 : decode cX10_crest 35 = .ok (.iload 4, 2) := by decide +kernel
theorem dX10_crest_37 : decode cX10_crest 37 = .ok (.bipush 60, 2) := by decide +kernel
theorem dX10_crest_39 : decode cX10_crest 39 = .ok (.if_icmp .gt 37, 3) := by decide +kernel
theorem dX10_crest_42 : decode cX10_crest 42 = .ok (.aload_n 0, 1) := by decide +kernel
theorem dX10_crest_43 : decode cX10_crest 43 = .ok (.getfield 126, 3) := by decide +kernel
theorem dX10_crest_46 : decode cX10_crest 46 = .ok (.iconst 1, 1) := by decide +kernel
theorem dX10_crest_47 : decode cX10_crest 47 = .ok (.iload_n 1, 1) := by decide +kernel
theorem dX10_crest_48 : decode cX10_crest 48 = .ok (.iadd, 1) := by decide +kernel
theorem dX10_crest_49 : decode cX10_crest 49 = .ok (.iaload, 1) := by decide +kernel
theorem dX10_crest_50 : decode cX10_crest 50 = .ok (.iload_n 3, 1) := by decide +kernel
theorem dX10_crest_51 : decode cX10_crest 51 = .ok (.if_icmp .le 15, 3) := by decide +kernel
theorem dX10_crest_54 : decode cX10_crest 54 = .ok (.aload_n 0, 1) := by decide +kernel
theorem dX10_crest_55 : decode cX10_crest 55 = .ok (.getfield 126, 3) := by decide +kernel
theorem dX10_crest_58 : decode cX10_crest 58 = .ok (.iconst 1, 1) := by decide +kernel
theorem dX10_crest_59 : decode cX10_crest 59 = .ok (.iload_n 1, 1) := by decide +kernel
theorem dX10_crest_60 : decode cX10_crest 60 = .ok (.iadd, 1) := by decide +kernel
theorem dX10_crest_61 : decode cX10_crest 61 = .ok (.iaload, 1) := by decide +kernel
theorem dX10_crest_62 : decode cX10_crest 62 = .ok (.istore_n 3, 1) := by decide +kernel
theorem dX10_crest_63 : decode cX10_crest 63 = .ok (.iload 4, 2) := by decide +kernel
theorem dX10_crest_65 : decode cX10_crest 65 = .ok (.istore_n 2, 1) := by decide +kernel
theorem dX10_crest_66 : decode cX10_crest 66 = .ok (.aload_n 0, 1) := by decide +kernel
theorem dX10_crest_67 : decode cX10_crest 67 = .ok (.invokevirtual 459, 3) := by decide +kernel
theorem dX10_crest_70 : decode cX10_crest 70 = .ok (.iinc 4 1, 3) := by decide +kernel
theorem dX10_crest_73 : decode cX10_crest 73 = .ok (.goto (-38), 3) := by decide +kernel
theorem dX10_crest_76 : decode cX10_crest 76 = .ok (.aload_n 0, 1) := by decide +kernel
theorem dX10_crest_77 : decode cX10_crest 77 = .ok (.getfield 132, 3) := by decide +kernel
theorem dX10_crest_80 : decode cX10_crest 80 = .ok (.iconst 0, 1) := by decide +kernel
theorem dX10_crest_81 : decode cX10_crest 81 = .ok (.aload_n 0, 1) := by decide +kernel
theorem dX10_crest_82 : decode cX10_crest 82 = .ok (.getfield 126, 3) := by decide +kernel
theorem dX10_crest_85 : decode cX10_crest 85 = .ok (.iconst 0, 1) := by decide +kernel
theorem dX10_crest_86 : decode cX10_crest 86 = .ok (.invokestatic 434, 3) := by decide +kernel
theorem dX10_crest_89 : decode cX10_crest 89 = .ok (.iload_n 2, 1) := by decide +kernel
theorem dX10_crest_90 : decode cX10_crest 90 = .ok (.ireturn, 1) := by decide +kernel
theorem dX10_safe_0 : decode cX10_safe 0 = .ok (.aload_n 0, 1) := by decide +kernel
theorem dX10_safe_1 : decode cX10_safe 1 = .ok (.iconst 0, 1) := by decide +kernel
theorem dX10_safe_2 : decode cX10_safe 2 = .ok (.putfield 162, 3) := by decide +kernel
theorem dX10_safe_5 : decode cX10_safe 5 = .ok (.aload_n 0, 1) := by decide +kernel
theorem dX10_safe_6 : decode cX10_safe 6 = .ok (.iload_n 1, 1) := by decide +kernel
theorem dX10_safe_7 : decode cX10_safe 7 = .ok (.invokevirtual 422, 3) := by decide +kernel
theorem dX10_safe_10 : decode cX10_safe 10 = .ok (.ifCond .eq 13, 3) := by decide +kernel
theorem dX10_safe_13 : decode cX10_safe 13 = .ok (.iload_n 2, 1) := by decide +kernel
theorem dX10_safe_14 : decode cX10_safe 14 = .ok (.iconst 1, 1) := by decide +kernel
theorem dX10_safe_15 : decode cX10_safe 15 = .ok (.bipush 60, 2) := by decide +kernel
theorem dX10_safe_17 : decode cX10_safe 17 = .ok (.invokestatic 293, 3) := by decide +kernel
theorem dX10_safe_20 : decode cX10_safe 20 = .ok (.ifCond .ne 5, 3) := by decide +kernel
theorem dX10_safe_23 : decode cX10_safe 23 = .ok (.iconst (-1), 1) := by decide +kernel
theorem dX10_safe_24 : decode cX10_safe 24 = .ok (.ireturn, 1) := by decide +kernel
theorem dX10_safe_25 : decode cX10_safe 25 = .ok (.aload_n 0, 1) := by decide +kernel
theorem dX10_safe_26 : decode cX10_safe 26 = .ok (.getfield 126, 3) := by decide +kernel
theorem dX10_safe_29 : decode cX10_safe 29 = .ok (.iconst 0, 1) := by decide +kernel
theorem dX10_safe_30 : decode cX10_safe 30 = .ok (.aload_n 0, 1) := by decide +kernel
theorem dX10_safe_31 : decode cX10_safe 31 = .ok (.getfield 132, 3) := by decide +kernel
theorem dX10_safe_34 : decode cX10_safe 34 = .ok (.iconst 0, 1) := by decide +kernel
theorem dX10_safe_35 : decode cX10_safe 35 = .ok (.invokestatic 434, 3) := by decide +kernel
theorem dX10_safe_38 : decode cX10_safe 38 = .ok (.iconst 1, 1) := by decide +kernel
theorem dX10_safe_39 : decode cX10_safe 39 = .ok (.aload_n 0, 1) := by decide +kernel
theorem dX10_safe_40 : decode cX10_safe 40 = .ok (.getfield 13, 3) := by decide +kernel
theorem dX10_safe_43 : decode cX10_safe 43 = .ok (.iconst 0, 1) := by decide +kernel
theorem dX10_safe_44 : decode cX10_safe 44 = .ok (.iaload, 1) := by decide +kernel
theorem dX10_safe_45 : decode cX10_safe 45 = .ok (.ishl, 1) := by decide +kernel
theorem dX10_safe_46 : decode cX10_safe 46 = .ok (.iconst 1, 1) := by decide +kernel
theorem dX10_safe_47 : decode cX10_safe 47 = .ok (.isub, 1) := by decide +kernel
theorem dX10_safe_48 : decode cX10_safe 48 = .ok (.istore_n 3, 1) := by decide +kernel
theorem dX10_safe_49 : decode cX10_safe 49 = .ok (.iconst 0, 1) := by decide +kernel
theorem dX10_safe_50 : decode cX10_safe 50 = .ok (.istore 4, 2) := by decide +kernel
theorem dX10_safe_52 : decode cX10_safe 52 = .ok (.iload 4, 2) := by decide +kernel
theorem dX10_safe_54 : decode cX10_safe 54 = .ok (.iload_n 2, 1) := by decide +kernel
theorem dX10_safe_55 : decode cX10_safe 55 = .ok (.if_icmp .gt 59, 3) := by decide +kernel
theorem dX10_safe_58 : decode cX10_safe 58 = .ok (.iconst 0, 1) := by decide +kernel
theorem dX10_safe_59 : decode cX10_safe 59 = .ok (.istore 5, 2) := by decide +kernel
theorem dX10_safe_61 : decode cX10_safe 61 = .ok (.iload 5, 2) := by decide +kernel
theorem dX10_safe_63 : decode cX10_safe 63 = .ok (.aload_n 0, 1) := by decide +kernel
theorem dX10_safe_64 : decode cX10_safe 64 = .ok (.getfield 13, 3) := by decide +kernel
theorem dX10_safe_67 : decode cX10_safe 67 = .ok (.iconst 0, 1) := by decide +kernel
theorem dX10_safe_68 : decode cX10_safe 68 = .ok (.iaload, 1) := by decide +kernel
theorem dX10_safe_69 : decode cX10_safe 69 = .ok (.if_icmp .ge 35, 3) := by decide +kernel
theorem dX10_safe_72 : decode cX10_safe 72 = .ok (.aload_n 0, 1) := by decide +kernel
theorem dX10_safe_73 : decode cX10_safe 73 = .ok (.iload_n 1, 1) := by decide +kernel
theorem dX10_safe_74 : decode cX10_safe 74 = .ok (.aload_n 0, 1) := by decide +kernel
theorem dX10_safe_75 : decode cX10_safe 75 = .ok (.getfield 126, 3) := by decide +kernel
theorem dX10_safe_78 : decode cX10_safe 78 = .ok (.iconst 1, 1) := by decide +kernel
theorem dX10_safe_79 : decode cX10_safe 79 = .ok (.iload 5, 2) := by decide +kernel
theorem dX10_safe_81 : decode cX10_safe 81 = .ok (.iadd, 1) := by decide +kernel
theorem dX10_safe_82 : decode cX10_safe 82 = .ok (.iaload, 1) := by decide +kernel
theorem dX10_safe_83 : decode cX10_safe 83 = .ok (.invokevirtual 441, 3) := by decide +kernel
theorem dX10_safe_86 : decode cX10_safe 86 = .ok (.ifCond .eq 12, 3) := by decide +kernel
theorem dX10_safe_89 : decode cX10_safe 89 = .ok (.iload_n 3, 1) := by decide +kernel
theorem dX10_safe_90 : decode cX10_safe 90 = .ok (.iconst 1, 1) := by decide +kernel
theorem dX10_safe_91 : decode cX10_safe 91 = .ok (.iload 5, 2) := by decide +kernel
theorem dX10_safe_93 : decode cX10_safe 93 = .ok (.ishl, 1) := by decide +kernel
theorem dX10_safe_94 : decode cX10_safe 94 = .ok (.iconst (-1), 1) := by decide +kernel
theorem dX10_safe_95 : decode cX10_safe 95 = .ok (.ixor, 1) := by decide +kernel
theorem dX10_safe_96 : decode cX10_safe 96 = .ok (.iand, 1) := by decide +kernel
theorem dX10_safe_97 : decode cX10_safe 97 = .ok (.istore_n 3, 1) := by decide +kernel
theorem dX10_safe_98 : decode cX10_safe 98 = .ok (.iinc 5 1, 3) := by decide +kernel
theorem dX10_safe_101 : decode cX10_safe 101 = .ok (.goto (-40), 3) := by decide +kernel
theorem dX10_safe_104 : decode cX10_safe 104 = .ok (.aload_n 0, 1) := by decide +kernel
theorem dX10_safe_105 : decode cX10_safe 105 = .ok (.invokevirtual 459, 3) := by decide +kernel
theorem dX10_safe_108 : decode cX10_safe 108 = .ok (.iinc 4 1, 3) := by decide +kernel
theorem dX10_safe_111 : decode cX10_safe 111 = .ok (.goto (-59), 3) := by decide +kernel
theorem dX10_safe_114 : decode cX10_safe 114 = .ok (.aload_n 0, 1) := by decide +kernel
theorem dX10_safe_115 : decode cX10_safe 115 = .ok (.getfield 132, 3) := by decide +kernel
theorem dX10_safe_118 : decode cX10_safe 118 = .ok (.iconst 0, 1) := by decide +kernel
theorem dX10_safe_119 : decode cX10_safe 119 = .ok (.aload_n 0, 1) := by decide +kernel
theorem dX10_safe_120 : decode cX10_safe 120 = .ok (.getfield 126, 3) := by decide +kernel
theorem dX10_safe_123 : decode cX10_safe 123 = .ok (.iconst 0, 1) := by decide +kernel
theorem dX10_safe_124 : decode cX10_safe 124 = .ok (.invokestatic 434, 3) := by decide +kernel
theorem dX10_safe_127 : decode cX10_safe 127 = .ok (.iload_n 3, 1) := by decide +kernel
theorem dX10_safe_128 : decode cX10_safe 128 = .ok (.ireturn, 1) := by decide +kernel
theorem dX10_nextTo_0 : decode cX10_nextTo 0 = .ok (.iconst 0, 1) := by decide +kernel
theorem dX10_nextTo_1 : decode cX10_nextTo 1 = .ok (.istore_n 2, 1) := by decide +kernel
theorem dX10_nextTo_2 : decode cX10_nextTo 2 = .ok (.iconst 0, 1) := by decide +kernel
theorem dX10_nextTo_3 : decode cX10_nextTo 3 = .ok (.istore_n 3, 1) := by decide +kernel
theorem dX10_nextTo_4 : decode cX10_nextTo 4 = .ok (.iload_n 3, 1) := by decide +kernel
theorem dX10_nextTo_5 : decode cX10_nextTo 5 = .ok (.aload_n 0, 1) := by decide +kernel
theorem dX10_nextTo_6 : decode cX10_nextTo 6 = .ok (.getfield 13, 3) := by decide +kernel
theorem dX10_nextTo_9 : decode cX10_nextTo 9 = .ok (.iconst 0, 1) := by decide +kernel
theorem dX10_nextTo_10 : decode cX10_nextTo 10 = .ok (.iaload, 1) := by decide +kernel
theorem dX10_nextTo_11 : decode cX10_nextTo 11 = .ok (.if_icmp .ge 31, 3) := by decide +kernel
theorem dX10_nextTo_14 : decode cX10_nextTo 14 = .ok (.iload_n 2, 1) := by decide +kernel
theorem dX10_nextTo_15 : decode cX10_nextTo 15 = .ok (.iload_n 1, 1) := by decide +kernel
theorem dX10_nextTo_16 : decode cX10_nextTo 16 = .ok (.iload_n 3, 1) := by decide +kernel
theorem dX10_nextTo_17 : decode cX10_nextTo 17 = .ok (.ishr, 1) := by decide +kernel
theorem dX10_nextTo_18 : decode cX10_nextTo 18 = .ok (.iconst 1, 1) := by decide +kernel
theorem dX10_nextTo_19 : decode cX10_nextTo 19 = .ok (.iand, 1) := by decide +kernel
theorem dX10_nextTo_20 : decode cX10_nextTo 20 = .ok (.iconst 1, 1) := by decide +kernel
theorem dX10_nextTo_21 : decode cX10_nextTo 21 = .ok (.if_icmp .ne 12, 3) := by decide +kernel
theorem dX10_nextTo_24 : decode cX10_nextTo 24 = .ok (.aload_n 0, 1) := by decide +kernel
theorem dX10_nextTo_25 : decode cX10_nextTo 25 = .ok (.getfield 32, 3) := by decide +kernel
theorem dX10_nextTo_28 : decode cX10_nextTo 28 = .ok (.iload_n 3, 1) := by decide +kernel
theorem dX10_nextTo_29 : decode cX10_nextTo 29 = .ok (.iaload, 1) := by decide +kernel
theorem dX10_nextTo_30 : decode cX10_nextTo 30 = .ok (.goto 4, 3) := by decide +kernel
theorem dX10_nextTo_33 : decode cX10_nextTo 33 = .ok (.iconst 0, 1) := by decide +kernel
theorem dX10_nextTo_34 : decode cX10_nextTo 34 = .ok (.ior, 1) := by decide +kernel
theorem dX10_nextTo_35 : decode cX10_nextTo 35 = .ok (.istore_n 2, 1) := by decide +kernel
theorem dX10_nextTo_36 : decode cX10_nextTo 36 = .ok (.iinc 3 1, 3) := by decide +kernel
theorem dX10_nextTo_39 : decode cX10_nextTo 39 = .ok (.goto (-35), 3) := by decide +kernel
theorem dX10_nextTo_42 : decode cX10_nextTo 42 = .ok (.iload_n 2, 1) := by decide +kernel
theorem dX10_nextTo_43 : decode cX10_nextTo 43 = .ok (.ireturn, 1) := by decide +kernel
theorem dX10_swimsAll_0 : decode cX10_swimsAll 0 = .ok (.aload_n 0, 1) := by decide +kernel
theorem dX10_swimsAll_1 : decode cX10_swimsAll 1 = .ok (.invokevirtual 438, 3) := by decide +kernel
theorem dX10_swimsAll_4 : decode cX10_swimsAll 4 = .ok (.istore_n 3, 1) := by decide +kernel
theorem dX10_swimsAll_5 : decode cX10_swimsAll 5 = .ok (.iconst 0, 1) := by decide +kernel
theorem dX10_swimsAll_6 : decode cX10_swimsAll 6 = .ok (.istore 4, 2) := by decide +kernel
theorem dX10_swimsAll_8 : decode cX10_swimsAll 8 = .ok (.iload 4, 2) := by decide +kernel
theorem dX10_swimsAll_10 : decode cX10_swimsAll 10 = .ok (.iload_n 1, 1) := by decide +kernel
theorem dX10_swimsAll_11 : decode cX10_swimsAll 11 = .ok (.if_icmp .gt 84, 3) := by decide +kernel
theorem dX10_swimsAll_14 : decode cX10_swimsAll 14 = .ok (.iload_n 2, 1) := by decide +kernel
theorem dX10_swimsAll_15 : decode cX10_swimsAll 15 = .ok (.ifCond .eq 23, 3) := by decide +kernel
theorem dX10_swimsAll_18 : decode cX10_swimsAll 18 = .ok (.aload_n 0, 1) := by decide +kernel
theorem dX10_swimsAll_19 : decode cX10_swimsAll 19 = .ok (.getfield 466, 3) := by decide +kernel
theorem dX10_swimsAll_22 : decode cX10_swimsAll 22 = .ok (.iconst 1, 1) := by decide +kernel
theorem dX10_swimsAll_23 : decode cX10_swimsAll 23 = .ok (.iand, 1) := by decide +kernel
theorem dX10_swimsAll_24 : decode cX10_swimsAll 24 = .ok (.iconst 1, 1) := by decide +kernel
theorem dX10_swimsAll_25 : decode cX10_swimsAll 25 = .ok (.if_icmp .ne 13, 3) := by decide +kernel
theorem dX10_swimsAll_28 : decode cX10_swimsAll 28 = .ok (.aload_n 0, 1) := by decide +kernel
theorem dX10_swimsAll_29 : decode cX10_swimsAll 29 = .ok (.dup, 1) := by decide +kernel
theorem dX10_swimsAll_30 : decode cX10_swimsAll 30 = .ok (.getfield 469, 3) := by decide +kernel
theorem dX10_swimsAll_33 : decode cX10_swimsAll 33 = .ok (.iconst 1, 1) := by decide +kernel
theorem dX10_swimsAll_34 : decode cX10_swimsAll 34 = .ok (.ior, 1) := by decide +kernel
theorem dX10_swimsAll_35 : decode cX10_swimsAll 35 = .ok (.putfield 469, 3) := by decide +kernel
theorem dX10_swimsAll_38 : decode cX10_swimsAll 38 = .ok (.iload 4, 2) := by decide +kernel
theorem dX10_swimsAll_40 : decode cX10_swimsAll 40 = .ok (.iload_n 1, 1) := by decide +kernel
theorem dX10_swimsAll_41 : decode cX10_swimsAll 41 = .ok (.if_icmp .ne 6, 3) := by decide +kernel
theorem dX10_swimsAll_44 : decode cX10_swimsAll 44 = .ok (.goto 45, 3) := by decide +kernel
theorem dX10_swimsAll_47 : decode cX10_swimsAll 47 = .ok (.aload_n 0, 1) := by decide +kernel
theorem dX10_swimsAll_48 : decode cX10_swimsAll 48 = .ok (.dup, 1) := by decide +kernel
theorem dX10_swimsAll_49 : decode cX10_swimsAll 49 = .ok (.getfield 466, 3) := by decide +kernel
theorem dX10_swimsAll_52 : decode cX10_swimsAll 52 = .ok (.aload_n 0, 1) := by decide +kernel
theorem dX10_swimsAll_53 : decode cX10_swimsAll 53 = .ok (.aload_n 0, 1) := by decide +kernel
theorem dX10_swimsAll_54 : decode cX10_swimsAll 54 = .ok (.getfield 466, 3) := by decide +kernel
theorem dX10_swimsAll_57 : decode cX10_swimsAll 57 = .ok (.iload_n 3, 1) := by decide +kernel
theorem dX10_swimsAll_58 : decode cX10_swimsAll 58 = .ok (.iand, 1) := by decide +kernel
theorem dX10_swimsAll_59 : decode cX10_swimsAll 59 = .ok (.invokevirtual 472, 3) := by decide +kernel
theorem dX10_swimsAll_62 : decode cX10_swimsAll 62 = .ok (.iload_n 3, 1) := by decide +kernel
theorem dX10_swimsAll_63 : decode cX10_swimsAll 63 = .ok (.iand, 1) := by decide +kernel
theorem dX10_swimsAll_64 : decode cX10_swimsAll 64 = .ok (.ior, 1) := by decide +kernel
theorem dX10_swimsAll_65 : decode cX10_swimsAll 65 = .ok (.putfield 466, 3) := by decide +kernel
theorem dX10_swimsAll_68 : decode cX10_swimsAll 68 = .ok (.aload_n 0, 1) := by decide +kernel
theorem dX10_swimsAll_69 : decode cX10_swimsAll 69 = .ok (.dup, 1) := by decide +kernel
theorem dX10_swimsAll_70 : decode cX10_swimsAll 70 = .ok (.getfield 469, 3) := by decide +kernel
theorem dX10_swimsAll_73 : decode cX10_swimsAll 73 = .ok (.aload_n 0, 1) := by decide +kernel
theorem dX10_swimsAll_74 : decode cX10_swimsAll 74 = .ok (.aload_n 0, 1) := by decide +kernel
theorem dX10_swimsAll_75 : decode cX10_swimsAll 75 = .ok (.getfield 469, 3) := by decide +kernel
theorem dX10_swimsAll_78 : decode cX10_swimsAll 78 = .ok (.iload_n 3, 1) := by decide +kernel
theorem dX10_swimsAll_79 : decode cX10_swimsAll 79 = .ok (.iand, 1) := by decide +kernel
theorem dX10_swimsAll_80 : decode cX10_swimsAll 80 = .ok (.invokevirtual 472, 3) := by decide +kernel
theorem dX10_swimsAll_83 : decode cX10_swimsAll 83 = .ok (.iload_n 3, 1) := by decide +kernel
theorem dX10_swimsAll_84 : decode cX10_swimsAll 84 = .ok (.iand, 1) := by decide +kernel
theorem dX10_swimsAll_85 : decode cX10_swimsAll 85 = .ok (.ior, 1) := by decide +kernel
theorem dX10_swimsAll_86 : decode cX10_swimsAll 86 = .ok (.putfield 469, 3) := by decide +kernel
theorem dX10_swimsAll_89 : decode cX10_swimsAll 89 = .ok (.iinc 4 1, 3) := by decide +kernel
theorem dX10_swimsAll_92 : decode cX10_swimsAll 92 = .ok (.goto (-84), 3) := by decide +kernel
theorem dX10_swimsAll_95 : decode cX10_swimsAll 95 = .ok (.return_, 1) := by decide +kernel
theorem dX10_soon_0 : decode cX10_soon 0 = .ok (.aload_n 0, 1) := by decide +kernel
theorem dX10_soon_1 : decode cX10_soon 1 = .ok (.iconst 0, 1) := by decide +kernel
theorem dX10_soon_2 : decode cX10_soon 2 = .ok (.putfield 162, 3) := by decide +kernel
theorem dX10_soon_5 : decode cX10_soon 5 = .ok (.aload_n 0, 1) := by decide +kernel
theorem dX10_soon_6 : decode cX10_soon 6 = .ok (.iload_n 1, 1) := by decide +kernel
theorem dX10_soon_7 : decode cX10_soon 7 = .ok (.invokevirtual 425, 3) := by decide +kernel
theorem dX10_soon_10 : decode cX10_soon 10 = .ok (.ifCond .eq 11, 3) := by decide +kernel
theorem dX10_soon_13 : decode cX10_soon 13 = .ok (.aload_n 0, 1) := by decide +kernel
theorem dX10_soon_14 : decode cX10_soon 14 = .ok (.iload_n 2, 1) := by decide +kernel
theorem dX10_soon_15 : decode cX10_soon 15 = .ok (.invokevirtual 416, 3) := by decide +kernel
theorem dX10_soon_18 : decode cX10_soon 18 = .ok (.ifCond .ne 5, 3) := by decide +kernel
theorem dX10_soon_21 : decode cX10_soon 21 = .ok (.iconst (-1), 1) := by decide +kernel
theorem dX10_soon_22 : decode cX10_soon 22 = .ok (.ireturn, 1) := by decide +kernel
theorem dX10_soon_23 : decode cX10_soon 23 = .ok (.aload_n 0, 1) := by decide +kernel
theorem dX10_soon_24 : decode cX10_soon 24 = .ok (.getfield 126, 3) := by decide +kernel
theorem dX10_soon_27 : decode cX10_soon 27 = .ok (.iconst 0, 1) := by decide +kernel
theorem dX10_soon_28 : decode cX10_soon 28 = .ok (.aload_n 0, 1) := by decide +kernel
theorem dX10_soon_29 : decode cX10_soon 29 = .ok (.getfield 132, 3) := by decide +kernel
theorem dX10_soon_32 : decode cX10_soon 32 = .ok (.iconst 0, 1) := by decide +kernel
theorem dX10_soon_33 : decode cX10_soon 33 = .ok (.invokestatic 434, 3) := by decide +kernel
theorem dX10_soon_36 : decode cX10_soon 36 = .ok (.aload_n 0, 1) := by decide +kernel
theorem dX10_soon_37 : decode cX10_soon 37 = .ok (.iconst 1, 1) := by decide +kernel
theorem dX10_soon_38 : decode cX10_soon 38 = .ok (.aload_n 0, 1) := by decide +kernel
theorem dX10_soon_39 : decode cX10_soon 39 = .ok (.getfield 126, 3) := by decide +kernel
theorem dX10_soon_42 : decode cX10_soon 42 = .ok (.bipush 13, 2) := by decide +kernel
theorem dX10_soon_44 : decode cX10_soon 44 = .ok (.iload_n 1, 1) := by decide +kernel
theorem dX10_soon_45 : decode cX10_soon 45 = .ok (.iadd, 1) := by decide +kernel
theorem dX10_soon_46 : decode cX10_soon 46 = .ok (.iaload, 1) := by decide +kernel
theorem dX10_soon_47 : decode cX10_soon 47 = .ok (.ishl, 1) := by decide +kernel
theorem dX10_soon_48 : decode cX10_soon 48 = .ok (.putfield 466, 3) := by decide +kernel
theorem dX10_soon_51 : decode cX10_soon 51 = .ok (.aload_n 0, 1) := by decide +kernel
theorem dX10_soon_52 : decode cX10_soon 52 = .ok (.iconst 0, 1) := by decide +kernel
theorem dX10_soon_53 : decode cX10_soon 53 = .ok (.putfield 469, 3) := by decide +kernel
theorem dX10_soon_56 : decode cX10_soon 56 = .ok (.iconst (-1), 1) := by decide +kernel
theorem dX10_soon_57 : decode cX10_soon 57 = .ok (.istore_n 3, 1) := by decide +kernel
theorem dX10_soon_58 : decode cX10_soon 58 = .ok (.iconst 0, 1) := by decide +kernel
theorem dX10_soon_59 : decode cX10_soon 59 = .ok (.istore 4, 2) := by decide +kernel
theorem dX10_soon_61 : decode cX10_soon 61 = .ok (.iload 4, 2) := by decide +kernel
theorem dX10_soon_63 : decode cX10_soon 63 = .ok (.bipush 60, 2) := by decide +kernel
theorem dX10_soon_65 : decode cX10_soon 65 = .ok (.if_icmp .gt 57, 3) := by decide +kernel
theorem dX10_soon_68 : decode cX10_soon 68 = .ok (.iload_n 3, 1) := by decide +kernel
theorem dX10_soon_69 : decode cX10_soon 69 = .ok (.ifCond .ge 53, 3) := by decide +kernel
theorem dX10_soon_72 : decode cX10_soon 72 = .ok (.aload_n 0, 1) := by decide +kernel
theorem dX10_soon_73 : decode cX10_soon 73 = .ok (.iconst 0, 1) := by decide +kernel
theorem dX10_soon_74 : decode cX10_soon 74 = .ok (.aload_n 0, 1) := by decide +kernel
theorem dX10_soon_75 : decode cX10_soon 75 = .ok (.getfield 44, 3) := by decide +kernel
theorem dX10_soon_78 : decode cX10_soon 78 = .ok (.iload_n 1, 1) := by decide +kernel
theorem dX10_soon_79 : decode cX10_soon 79 = .ok (.iaload, 1) := by decide +kernel
theorem dX10_soon_80 : decode cX10_soon 80 = .ok (.aload_n 0, 1) := by decide +kernel
theorem dX10_soon_81 : decode cX10_soon 81 = .ok (.getfield 126, 3) := by decide +kernel
theorem dX10_soon_84 : decode cX10_soon 84 = .ok (.bipush 16, 2) := by decide +kernel
theorem dX10_soon_86 : decode cX10_soon 86 = .ok (.iload_n 1, 1) := by decide +kernel
theorem dX10_soon_87 : decode cX10_soon 87 = .ok (.iadd, 1) := by decide +kernel
theorem dX10_soon_88 : decode cX10_soon 88 = .ok (.iaload, 1) := by decide +kernel
theorem dX10_soon_89 : decode cX10_soon 89 = .ok (.isub, 1) := by decide +kernel
theorem dX10_soon_90 : decode cX10_soon 90 = .ok (.invokestatic 475, 3) := by decide +kernel
theorem dX10_soon_93 : decode cX10_soon 93 = .ok (.iconst 0, 1) := by decide +kernel
theorem dX10_soon_94 : decode cX10_soon 94 = .ok (.invokevirtual 480, 3) := by decide +kernel
theorem dX10_soon_97 : decode cX10_soon 97 = .ok (.aload_n 0, 1) := by decide +kernel
theorem dX10_soon_98 : decode cX10_soon 98 = .ok (.getfield 466, 3) := by decide +kernel
theorem dX10_soon_101 : decode cX10_soon 101 = .ok (.iload_n 2, 1) := by decide +kernel
theorem dX10_soon_102 : decode cX10_soon 102 = .ok (.ishr, 1) := by decide +kernel
theorem dX10_soon_103 : decode cX10_soon 103 = .ok (.iconst 1, 1) := by decide +kernel
theorem dX10_soon_104 : decode cX10_soon 104 = .ok (.iand, 1) := by decide +kernel
theorem dX10_soon_105 : decode cX10_soon 105 = .ok (.iconst 1, 1) := by decide +kernel
theorem dX10_soon_106 : decode cX10_soon 106 = .ok (.if_icmp .ne 6, 3) := by decide +kernel
theorem dX10_soon_109 : decode cX10_soon 109 = .ok (.iload 4, 2) := by decide +kernel
theorem dX10_soon_111 : decode cX10_soon 111 = .ok (.istore_n 3, 1) := by decide +kernel
theorem dX10_soon_112 : decode cX10_soon 112 = .ok (.aload_n 0, 1) := by decide +kernel
theorem dX10_soon_113 : decode cX10_soon 113 = .ok (.invokevirtual 459, 3) := by decide +kernel
theorem dX10_soon_116 : decode cX10_soon 116 = .ok (.iinc 4 1, 3) := by decide +kernel
theorem dX10_soon_119 : decode cX10_soon 119 = .ok (.goto (-58), 3) := by decide +kernel
theorem dX10_soon_122 : decode cX10_soon 122 = .ok (.aload_n 0, 1) := by decide +kernel
theorem dX10_soon_123 : decode cX10_soon 123 = .ok (.getfield 132, 3) := by decide +kernel
theorem dX10_soon_126 : decode cX10_soon 126 = .ok (.iconst 0, 1) := by decide +kernel
theorem dX10_soon_127 : decode cX10_soon 127 = .ok (.aload_n 0, 1) := by decide +kernel
theorem dX10_soon_128 : decode cX10_soon 128 = .ok (.getfield 126, 3) := by decide +kernel
theorem dX10_soon_131 : decode cX10_soon 131 = .ok (.iconst 0, 1) := by decide +kernel
theorem dX10_soon_132 : decode cX10_soon 132 = .ok (.invokestatic 434, 3) := by decide +kernel
theorem dX10_soon_135 : decode cX10_soon 135 = .ok (.iload_n 3, 1) := by decide +kernel
theorem dX10_soon_136 : decode cX10_soon 136 = .ok (.ireturn, 1) := by decide +kernel
theorem dX10_servesIn_0 : decode cX10_servesIn 0 = .ok (.aload_n 0, 1) := by decide +kernel
theorem dX10_servesIn_1 : decode cX10_servesIn 1 = .ok (.getfield 126, 3) := by decide +kernel
theorem dX10_servesIn_4 : decode cX10_servesIn 4 = .ok (.bipush 19, 2) := by decide +kernel
theorem dX10_servesIn_6 : decode cX10_servesIn 6 = .ok (.iload_n 1, 1) := by decide +kernel
theorem dX10_servesIn_7 : decode cX10_servesIn 7 = .ok (.iadd, 1) := by decide +kernel
theorem dX10_servesIn_8 : decode cX10_servesIn 8 = .ok (.iaload, 1) := by decide +kernel
theorem dX10_servesIn_9 : decode cX10_servesIn 9 = .ok (.iconst (-1), 1) := by decide +kernel
theorem dX10_servesIn_10 : decode cX10_servesIn 10 = .ok (.if_icmp .ne 7, 3) := by decide +kernel
theorem dX10_servesIn_13 : decode cX10_servesIn 13 = .ok (.iconst 1, 1) := by decide +kernel
theorem dX10_servesIn_14 : decode cX10_servesIn 14 = .ok (.goto 4, 3) := by decide +kernel
theorem dX10_servesIn_17 : decode cX10_servesIn 17 = .ok (.iconst 0, 1) := by decide +kernel
theorem dX10_servesIn_18 : decode cX10_servesIn 18 = .ok (.istore_n 3, 1) := by decide +kernel
theorem dX10_servesIn_19 : decode cX10_servesIn 19 = .ok (.iload_n 3, 1) := by decide +kernel
theorem dX10_servesIn_20 : decode cX10_servesIn 20 = .ok (.ifCond .ne 18, 3) := by decide +kernel
theorem dX10_servesIn_23 : decode cX10_servesIn 23 = .ok (.aload_n 0, 1) := by decide +kernel
theorem dX10_servesIn_24 : decode cX10_servesIn 24 = .ok (.getfield 126, 3) := by decide +kernel
theorem dX10_servesIn_27 : decode cX10_servesIn 27 = .ok (.bipush 19, 2) := by decide +kernel
theorem dX10_servesIn_29 : decode cX10_servesIn 29 = .ok (.iload_n 1, 1) := by decide +kernel
theorem dX10_servesIn_30 : decode cX10_servesIn 30 = .ok (.iadd, 1) := by decide +kernel
theorem dX10_servesIn_31 : decode cX10_servesIn 31 = .ok (.iaload, 1) := by decide +kernel
theorem dX10_servesIn_32 : decode cX10_servesIn 32 = .ok (.iload_n 2, 1) := by decide +kernel
theorem dX10_servesIn_33 : decode cX10_servesIn 33 = .ok (.if_icmp .eq 5, 3) := by decide +kernel
theorem dX10_servesIn_36 : decode cX10_servesIn 36 = .ok (.iconst (-1), 1) := by decide +kernel
theorem dX10_servesIn_37 : decode cX10_servesIn 37 = .ok (.ireturn, 1) := by decide +kernel
theorem dX10_servesIn_38 : decode cX10_servesIn 38 = .ok (.aload_n 0, 1) := by decide +kernel
theorem dX10_servesIn_39 : decode cX10_servesIn 39 = .ok (.getfield 126, 3) := by decide +kernel
theorem dX10_servesIn_42 : decode cX10_servesIn 42 = .ok (.iconst 0, 1) := by decide +kernel
theorem dX10_servesIn_43 : decode cX10_servesIn 43 = .ok (.aload_n 0, 1) := by decide +kernel
theorem dX10_servesIn_44 : decode cX10_servesIn 44 = .ok (.getfield 132, 3) := by decide +kernel
theorem dX10_servesIn_47 : decode cX10_servesIn 47 = .ok (.iconst 0, 1) := by decide +kernel
theorem dX10_servesIn_48 : decode cX10_servesIn 48 = .ok (.invokestatic 434, 3) := by decide +kernel
theorem dX10_servesIn_51 : decode cX10_servesIn 51 = .ok (.aload_n 0, 1) := by decide +kernel
theorem dX10_servesIn_52 : decode cX10_servesIn 52 = .ok (.iload_n 3, 1) := by decide +kernel
theorem dX10_servesIn_53 : decode cX10_servesIn 53 = .ok (.ifCond .eq 17, 3) := by decide +kernel
theorem dX10_servesIn_56 : decode cX10_servesIn 56 = .ok (.iconst 1, 1) := by decide +kernel
theorem dX10_servesIn_57 : decode cX10_servesIn 57 = .ok (.aload_n 0, 1) := by decide +kernel
theorem dX10_servesIn_58 : decode cX10_servesIn 58 = .ok (.getfield 126, 3) := by decide +kernel
theorem dX10_servesIn_61 : decode cX10_servesIn 61 = .ok (.bipush 13, 2) := by decide +kernel
theorem dX10_servesIn_63 : decode cX10_servesIn 63 = .ok (.iload_n 2, 1) := by decide +kernel
theorem dX10_servesIn_64 : decode cX10_servesIn 64 = .ok (.iadd, 1) := by decide +kernel
theorem dX10_servesIn_65 : decode cX10_servesIn 65 = .ok (.iaload, 1) := by decide +kernel
theorem dX10_servesIn_66 : decode cX10_servesIn 66 = .ok (.ishl, 1) := by decide +kernel
theorem dX10_servesIn_67 : decode cX10_servesIn 67 = .ok (.goto 4, 3) := by decide +kernel
theorem dX10_servesIn_70 : decode cX10_servesIn 70 = .ok (.iconst 0, 1) := by decide +kernel
theorem dX10_servesIn_71 : decode cX10_servesIn 71 = .ok (.putfield 466, 3) := by decide +kernel
theorem dX10_servesIn_74 : decode cX10_servesIn 74 = .ok (.aload_n 0, 1) := by decide +kernel
theorem dX10_servesIn_75 : decode cX10_servesIn 75 = .ok (.iload_n 3, 1) := by decide +kernel
theorem dX10_servesIn_76 : decode cX10_servesIn 76 = .ok (.ifCond .eq 7, 3) := by decide +kernel
theorem dX10_servesIn_79 : decode cX10_servesIn 79 = .ok (.iconst 0, 1) := by decide +kernel
theorem dX10_servesIn_80 : decode cX10_servesIn 80 = .ok (.goto 14, 3) := by decide +kernel
theorem dX10_servesIn_83 : decode cX10_servesIn 83 = .ok (.iconst 1, 1) := by decide +kernel
theorem dX10_servesIn_84 : decode cX10_servesIn 84 = .ok (.aload_n 0, 1) := by decide +kernel
theorem dX10_servesIn_85 : decode cX10_servesIn 85 = .ok (.getfield 126, 3) := by decide +kernel
theorem dX10_servesIn_88 : decode cX10_servesIn 88 = .ok (.bipush 13, 2) := by decide +kernel
theorem dX10_servesIn_90 : decode cX10_servesIn 90 = .ok (.iload_n 2, 1) := by decide +kernel
theorem dX10_servesIn_91 : decode cX10_servesIn 91 = .ok (.iadd, 1) := by decide +kernel
theorem dX10_servesIn_92 : decode cX10_servesIn 92 = .ok (.iaload, 1) := by decide +kernel
theorem dX10_servesIn_93 : decode cX10_servesIn 93 = .ok (.ishl, 1) := by decide +kernel
theorem dX10_servesIn_94 : decode cX10_servesIn 94 = .ok (.putfield 469, 3) := by decide +kernel
theorem dX10_servesIn_97 : decode cX10_servesIn 97 = .ok (.aload_n 0, 1) := by decide +kernel
theorem dX10_servesIn_98 : decode cX10_servesIn 98 = .ok (.getfield 47, 3) := by decide +kernel
theorem dX10_servesIn_101 : decode cX10_servesIn 101 = .ok (.iload_n 1, 1) := by decide +kernel
theorem dX10_servesIn_102 : decode cX10_servesIn 102 = .ok (.iaload, 1) := by decide +kernel
theorem dX10_servesIn_103 : decode cX10_servesIn 103 = .ok (.istore 4, 2) := by decide +kernel
theorem dX10_servesIn_105 : decode cX10_servesIn 105 = .ok (.iconst (-1), 1) := by decide +kernel
theorem dX10_servesIn_106 : decode cX10_servesIn 106 = .ok (.istore 5, 2) := by decide +kernel
theorem dX10_servesIn_108 : decode cX10_servesIn 108 = .ok (.iconst 0, 1) := by decide +kernel
theorem dX10_servesIn_109 : decode cX10_servesIn 109 = .ok (.istore 6, 2) := by decide +kernel
theorem dX10_servesIn_111 : decode cX10_servesIn 111 = .ok (.iload 6, 2) := by decide +kernel
theorem dX10_servesIn_113 : decode cX10_servesIn 113 = .ok (.bipush 60, 2) := by decide +kernel
theorem dX10_servesIn_115 : decode cX10_servesIn 115 = .ok (.if_icmp .gt 94, 3) := by decide +kernel
theorem dX10_servesIn_118 : decode cX10_servesIn 118 = .ok (.iload 5, 2) := by decide +kernel
theorem dX10_servesIn_120 : decode cX10_servesIn 120 = .ok (.ifCond .ge 89, 3) := by decide +kernel
theorem dX10_servesIn_123 : decode cX10_servesIn 123 = .ok (.aload_n 0, 1) := by decide +kernel
theorem dX10_servesIn_124 : decode cX10_servesIn 124 = .ok (.iconst 0, 1) := by decide +kernel
theorem dX10_servesIn_125 : decode cX10_servesIn 125 = .ok (.aload_n 0, 1) := by decide +kernel
theorem dX10_servesIn_126 : decode cX10_servesIn 126 = .ok (.getfield 44, 3) := by decide +kernel
theorem dX10_servesIn_129 : decode cX10_servesIn 129 = .ok (.iload_n 2, 1) := by decide +kernel
theorem dX10_servesIn_130 : decode cX10_servesIn 130 = .ok (.iaload, 1) := by decide +kernel
theorem dX10_servesIn_131 : decode cX10_servesIn 131 = .ok (.aload_n 0, 1) := by decide +kernel
theorem dX10_servesIn_132 : decode cX10_servesIn 132 = .ok (.getfield 126, 3) := by decide +kernel
theorem dX10_servesIn_135 : decode cX10_servesIn 135 = .ok (.bipush 16, 2) := by decide +kernel
theorem dX10_servesIn_137 : decode cX10_servesIn 137 = .ok (.iload_n 2, 1) := by decide +kernel
theorem dX10_servesIn_138 : decode cX10_servesIn 138 = .ok (.iadd, 1) := by decide +kernel
theorem dX10_servesIn_139 : decode cX10_servesIn 139 = .ok (.iaload, 1) := by decide +kernel
theorem dX10_servesIn_140 : decode cX10_servesIn 140 = .ok (.isub, 1) := by decide +kernel
theorem dX10_servesIn_141 : decode cX10_servesIn 141 = .ok (.invokestatic 475, 3) := by decide +kernel
theorem dX10_servesIn_144 : decode cX10_servesIn 144 = .ok (.iload_n 3, 1) := by decide +kernel
theorem dX10_servesIn_145 : decode cX10_servesIn 145 = .ok (.invokevirtual 480, 3) := by decide +kernel
theorem dX10_servesIn_148 : decode cX10_servesIn 148 = .ok (.aload_n 0, 1) := by decide +kernel
theorem dX10_servesIn_149 : decode cX10_servesIn 149 = .ok (.getfield 469, 3) := by decide +kernel
theorem dX10_servesIn_152 : decode cX10_servesIn 152 = .ok (.aload_n 0, 1) := by decide +kernel
theorem dX10_servesIn_153 : decode cX10_servesIn 153 = .ok (.getfield 126, 3) := by decide +kernel
theorem dX10_servesIn_156 : decode cX10_servesIn 156 = .ok (.bipush 8, 2) := by decide +kernel
theorem dX10_servesIn_158 : decode cX10_servesIn 158 = .ok (.iload 4, 2) := by decide +kernel
theorem dX10_servesIn_160 : decode cX10_servesIn 160 = .ok (.iadd, 1) := by decide +kernel
theorem dX10_servesIn_161 : decode cX10_servesIn 161 = .ok (.iaload, 1) := by decide +kernel
theorem dX10_servesIn_162 : decode cX10_servesIn 162 = .ok (.ishr, 1) := by decide +kernel
theorem dX10_servesIn_163 : decode cX10_servesIn 163 = .ok (.iconst 1, 1) := by decide +kernel
theorem dX10_servesIn_164 : decode cX10_servesIn 164 = .ok (.iand, 1) := by decide +kernel
theorem dX10_servesIn_165 : decode cX10_servesIn 165 = .ok (.iconst 1, 1) := by decide +kernel
theorem dX10_servesIn_166 : decode cX10_servesIn 166 = .ok (.if_icmp .ne 33, 3) := by decide +kernel
theorem dX10_servesIn_169 : decode cX10_servesIn 169 = .ok (.aload_n 0, 1) := by decide +kernel
theorem dX10_servesIn_170 : decode cX10_servesIn 170 = .ok (.iload 4, 2) := by decide +kernel
theorem dX10_servesIn_172 : decode cX10_servesIn 172 = .ok (.aload_n 0, 1) := by decide +kernel
theorem dX10_servesIn_173 : decode cX10_servesIn 173 = .ok (.getfield 126, 3) := by decide +kernel
theorem dX10_servesIn_176 : decode cX10_servesIn 176 = .ok (.iconst 1, 1) := by decide +kernel
theorem dX10_servesIn_177 : decode cX10_servesIn 177 = .ok (.aload_n 0, 1) := by decide +kernel
theorem dX10_servesIn_178 : decode cX10_servesIn 178 = .ok (.getfield 126, 3) := by decide +kernel
theorem dX10_servesIn_181 : decode cX10_servesIn 181 = .ok (.bipush 8, 2) := by decide +kernel
theorem dX10_servesIn_183 : decode cX10_servesIn 183 = .ok (.iload 4, 2) := by decide +kernel
theorem dX10_servesIn_185 : decode cX10_servesIn 185 = .ok (.iadd, 1) := by decide +kernel
theorem dX10_servesIn_186 : decode cX10_servesIn 186 = .ok (.iaload, 1) := by decide +kernel
theorem dX10_servesIn_187 : decode cX10_servesIn 187 = .ok (.iadd, 1) := by decide +kernel
theorem dX10_servesIn_188 : decode cX10_servesIn 188 = .ok (.iaload, 1) := by decide +kernel
theorem dX10_servesIn_189 : decode cX10_servesIn 189 = .ok (.invokevirtual 441, 3) := by decide +kernel
theorem dX10_servesIn_192 : decode cX10_servesIn 192 = .ok (.ifCond .eq 7, 3) := by decide +kernel
theorem dX10_servesIn_195 : decode cX10_servesIn 195 = .ok (.iload 6, 2) := by decide +kernel
theorem dX10_servesIn_197 : decode cX10_servesIn 197 = .ok (.istore 5, 2) := by decide +kernel
theorem dX10_servesIn_199 : decode cX10_servesIn 199 = .ok (.aload_n 0, 1) := by decide +kernel
theorem dX10_servesIn_200 : decode cX10_servesIn 200 = .ok (.invokevirtual 459, 3) := by decide +kernel
theorem dX10_servesIn_203 : decode cX10_servesIn 203 = .ok (.iinc 6 1, 3) := by decide +kernel
theorem dX10_servesIn_206 : decode cX10_servesIn 206 = .ok (.goto (-95), 3) := by decide +kernel
theorem dX10_servesIn_209 : decode cX10_servesIn 209 = .ok (.aload_n 0, 1) := by decide +kernel
theorem dX10_servesIn_210 : decode cX10_servesIn 210 = .ok (.getfield 132, 3) := by decide +kernel
theorem dX10_servesIn_213 : decode cX10_servesIn 213 = .ok (.iconst 0, 1) := by decide +kernel
theorem dX10_servesIn_214 : decode cX10_servesIn 214 = .ok (.aload_n 0, 1) := by decide +kernel
theorem dX10_servesIn_215 : decode cX10_servesIn 215 = .ok (.getfield 126, 3) := by decide +kernel
theorem dX10_servesIn_218 : decode cX10_servesIn 218 = .ok (.iconst 0, 1) := by decide +kernel
theorem dX10_servesIn_219 : decode cX10_servesIn 219 = .ok (.invokestatic 434, 3) := by decide +kernel
theorem dX10_servesIn_222 : decode cX10_servesIn 222 = .ok (.iload 5, 2) := by decide +kernel
theorem dX10_servesIn_224 : decode cX10_servesIn 224 = .ok (.ireturn, 1) := by decide +kernel
theorem dX10_serves_0 : decode cX10_serves 0 = .ok (.aload_n 0, 1) := by decide +kernel
theorem dX10_serves_1 : decode cX10_serves 1 = .ok (.iconst 0, 1) := by decide +kernel
theorem dX10_serves_2 : decode cX10_serves 2 = .ok (.putfield 162, 3) := by decide +kernel
theorem dX10_serves_5 : decode cX10_serves 5 = .ok (.aload_n 0, 1) := by decide +kernel
theorem dX10_serves_6 : decode cX10_serves 6 = .ok (.iload_n 1, 1) := by decide +kernel
theorem dX10_serves_7 : decode cX10_serves 7 = .ok (.invokevirtual 431, 3) := by decide +kernel
theorem dX10_serves_10 : decode cX10_serves 10 = .ok (.ifCond .eq 20, 3) := by decide +kernel
theorem dX10_serves_13 : decode cX10_serves 13 = .ok (.aload_n 0, 1) := by decide +kernel
theorem dX10_serves_14 : decode cX10_serves 14 = .ok (.iload_n 2, 1) := by decide +kernel
theorem dX10_serves_15 : decode cX10_serves 15 = .ok (.invokevirtual 425, 3) := by decide +kernel
theorem dX10_serves_18 : decode cX10_serves 18 = .ok (.ifCond .eq 12, 3) := by decide +kernel
theorem dX10_serves_21 : decode cX10_serves 21 = .ok (.aload_n 0, 1) := by decide +kernel
theorem dX10_serves_22 : decode cX10_serves 22 = .ok (.iload_n 1, 1) := by decide +kernel
theorem dX10_serves_23 : decode cX10_serves 23 = .ok (.iload_n 2, 1) := by decide +kernel
theorem dX10_serves_24 : decode cX10_serves 24 = .ok (.invokevirtual 484, 3) := by decide +kernel
theorem dX10_serves_27 : decode cX10_serves 27 = .ok (.goto 4, 3) := by decide +kernel
theorem dX10_serves_30 : decode cX10_serves 30 = .ok (.iconst (-1), 1) := by decide +kernel
theorem dX10_serves_31 : decode cX10_serves 31 = .ok (.ireturn, 1) := by decide +kernel
theorem dX10_intime_0 : decode cX10_intime 0 = .ok (.aload_n 0, 1) := by decide +kernel
theorem dX10_intime_1 : decode cX10_intime 1 = .ok (.iconst 0, 1) := by decide +kernel
theorem dX10_intime_2 : decode cX10_intime 2 = .ok (.putfield 162, 3) := by decide +kernel
theorem dX10_intime_5 : decode cX10_intime 5 = .ok (.aload_n 0, 1) := by decide +kernel
theorem dX10_intime_6 : decode cX10_intime 6 = .ok (.iload_n 1, 1) := by decide +kernel
theorem dX10_intime_7 : decode cX10_intime 7 = .ok (.invokevirtual 431, 3) := by decide +kernel
theorem dX10_intime_10 : decode cX10_intime 10 = .ok (.ifCond .ne 5, 3) := by decide +kernel
theorem dX10_intime_13 : decode cX10_intime 13 = .ok (.iconst (-1), 1) := by decide +kernel
theorem dX10_intime_14 : decode cX10_intime 14 = .ok (.ireturn, 1) := by decide +kernel
theorem dX10_intime_15 : decode cX10_intime 15 = .ok (.iconst 0, 1) := by decide +kernel
theorem dX10_intime_16 : decode cX10_intime 16 = .ok (.istore_n 2, 1) := by decide +kernel
theorem dX10_intime_17 : decode cX10_intime 17 = .ok (.iconst 0, 1) := by decide +kernel
theorem dX10_intime_18 : decode cX10_intime 18 = .ok (.istore_n 3, 1) := by decide +kernel
theorem dX10_intime_19 : decode cX10_intime 19 = .ok (.iload_n 3, 1) := by decide +kernel
theorem dX10_intime_20 : decode cX10_intime 20 = .ok (.aload_n 0, 1) := by decide +kernel
theorem dX10_intime_21 : decode cX10_intime 21 = .ok (.getfield 13, 3) := by decide +kernel
theorem dX10_intime_24 : decode cX10_intime 24 = .ok (.iconst 3, 1) := by decide +kernel
theorem dX10_intime_25 : decode cX10_intime 25 = .ok (.iaload, 1) := by decide +kernel
theorem dX10_intime_26 : decode cX10_intime 26 = .ok (.if_icmp .ge 50, 3) := by decide +kernel
theorem dX10_intime_29 : decode cX10_intime 29 = .ok (.aload_n 0, 1) := by decide +kernel
theorem dX10_intime_30 : decode cX10_intime 30 = .ok (.iload_n 1, 1) := by decide +kernel
theorem dX10_intime_31 : decode cX10_intime 31 = .ok (.iload_n 3, 1) := by decide +kernel
theorem dX10_intime_32 : decode cX10_intime 32 = .ok (.invokevirtual 484, 3) := by decide +kernel
theorem dX10_intime_35 : decode cX10_intime 35 = .ok (.istore 4, 2) := by decide +kernel
theorem dX10_intime_37 : decode cX10_intime 37 = .ok (.iload_n 2, 1) := by decide +kernel
theorem dX10_intime_38 : decode cX10_intime 38 = .ok (.iload 4, 2) := by decide +kernel
theorem dX10_intime_40 : decode cX10_intime 40 = .ok (.ifCond .lt 27, 3) := by decide +kernel
theorem dX10_intime_43 : decode cX10_intime 43 = .ok (.aload_n 0, 1) := by decide +kernel
theorem dX10_intime_44 : decode cX10_intime 44 = .ok (.getfield 126, 3) := by decide +kernel
theorem dX10_intime_47 : decode cX10_intime 47 = .ok (.iconst 0, 1) := by decide +kernel
theorem dX10_intime_48 : decode cX10_intime 48 = .ok (.iaload, 1) := by decide +kernel
theorem dX10_intime_49 : decode cX10_intime 49 = .ok (.iload 4, 2) := by decide +kernel
theorem dX10_intime_51 : decode cX10_intime 51 = .ok (.iadd, 1) := by decide +kernel
theorem dX10_intime_52 : decode cX10_intime 52 = .ok (.aload_n 0, 1) := by decide +kernel
theorem dX10_intime_53 : decode cX10_intime 53 = .ok (.getfield 50, 3) := by decide +kernel
theorem dX10_intime_56 : decode cX10_intime 56 = .ok (.iload_n 1, 1) := by decide +kernel
theorem dX10_intime_57 : decode cX10_intime 57 = .ok (.iaload, 1) := by decide +kernel
theorem dX10_intime_58 : decode cX10_intime 58 = .ok (.if_icmp .gt 9, 3) := by decide +kernel
theorem dX10_intime_61 : decode cX10_intime 61 = .ok (.iconst 1, 1) := by decide +kernel
theorem dX10_intime_62 : decode cX10_intime 62 = .ok (.iload_n 3, 1) := by decide +kernel
theorem dX10_intime_63 : decode cX10_intime 63 = .ok (.ishl, 1) := by decide +kernel
theorem dX10_intime_64 : decode cX10_intime 64 = .ok (.goto 4, 3) := by decide +kernel
theorem dX10_intime_67 : decode cX10_intime 67 = .ok (.iconst 0, 1) := by decide +kernel
theorem dX10_intime_68 : decode cX10_intime 68 = .ok (.ior, 1) := by decide +kernel
theorem dX10_intime_69 : decode cX10_intime 69 = .ok (.istore_n 2, 1) := by decide +kernel
theorem dX10_intime_70 : decode cX10_intime 70 = .ok (.iinc 3 1, 3) := by decide +kernel
theorem dX10_intime_73 : decode cX10_intime 73 = .ok (.goto (-54), 3) := by decide +kernel
theorem dX10_intime_76 : decode cX10_intime 76 = .ok (.iload_n 2, 1) := by decide +kernel
theorem dX10_intime_77 : decode cX10_intime 77 = .ok (.ireturn, 1) := by decide +kernel
theorem dX10_shares_0 : decode cX10_shares 0 = .ok (.iload_n 1, 1) := by decide +kernel
theorem dX10_shares_1 : decode cX10_shares 1 = .ok (.aload_n 0, 1) := by decide +kernel
theorem dX10_shares_2 : decode cX10_shares 2 = .ok (.getfield 13, 3) := by decide +kernel
theorem dX10_shares_5 : decode cX10_shares 5 = .ok (.iconst 3, 1) := by decide +kernel
theorem dX10_shares_6 : decode cX10_shares 6 = .ok (.iaload, 1) := by decide +kernel
theorem dX10_shares_7 : decode cX10_shares 7 = .ok (.if_icmp .ne 70, 3) := by decide +kernel
theorem dX10_shares_10 : decode cX10_shares 10 = .ok (.iload_n 3, 1) := by decide +kernel
theorem dX10_shares_11 : decode cX10_shares 11 = .ok (.aload_n 0, 1) := by decide +kernel
theorem dX10_shares_12 : decode cX10_shares 12 = .ok (.getfield 487, 3) := by decide +kernel
theorem dX10_shares_15 : decode cX10_shares 15 = .ok (.if_icmp .lt 20, 3) := by decide +kernel
theorem dX10_shares_18 : decode cX10_shares 18 = .ok (.iload_n 3, 1) := by decide +kernel
theorem dX10_shares_19 : decode cX10_shares 19 = .ok (.aload_n 0, 1) := by decide +kernel
theorem dX10_shares_20 : decode cX10_shares 20 = .ok (.getfield 487, 3) := by decide +kernel
theorem dX10_shares_23 : decode cX10_shares 23 = .ok (.if_icmp .ne 13, 3) := by decide +kernel
theorem dX10_shares_26 : decode cX10_shares 26 = .ok (.iload 4, 2) := by decide +kernel
theorem dX10_shares_28 : decode cX10_shares 28 = .ok (.aload_n 0, 1) := by decide +kernel
theorem dX10_shares_29 : decode cX10_shares 29 = .ok (.getfield 490, 3) := by decide +kernel
theorem dX10_shares_32 : decode cX10_shares 32 = .ok (.if_icmp .lt 4, 3) := by decide +kernel
theorem dX10_shares_35 : decode cX10_shares 35 = .ok (.return_, 1) := by decide +kernel
theorem dX10_shares_36 : decode cX10_shares 36 = .ok (.aload_n 0, 1) := by decide +kernel
theorem dX10_shares_37 : decode cX10_shares 37 = .ok (.iload_n 3, 1) := by decide +kernel
theorem dX10_shares_38 : decode cX10_shares 38 = .ok (.putfield 487, 3) := by decide +kernel
theorem dX10_shares_41 : decode cX10_shares 41 = .ok (.aload_n 0, 1) := by decide +kernel
theorem dX10_shares_42 : decode cX10_shares 42 = .ok (.iload 4, 2) := by decide +kernel
theorem dX10_shares_44 : decode cX10_shares 44 = .ok (.putfield 490, 3) := by decide +kernel
theorem dX10_shares_47 : decode cX10_shares 47 = .ok (.iconst 0, 1) := by decide +kernel
theorem dX10_shares_48 : decode cX10_shares 48 = .ok (.istore 5, 2) := by decide +kernel
theorem dX10_shares_50 : decode cX10_shares 50 = .ok (.iload 5, 2) := by decide +kernel
theorem dX10_shares_52 : decode cX10_shares 52 = .ok (.iconst 3, 1) := by decide +kernel
theorem dX10_shares_53 : decode cX10_shares 53 = .ok (.if_icmp .ge 23, 3) := by decide +kernel
theorem dX10_shares_56 : decode cX10_shares 56 = .ok (.aload_n 0, 1) := by decide +kernel
theorem dX10_shares_57 : decode cX10_shares 57 = .ok (.getfield 153, 3) := by decide +kernel
theorem dX10_shares_60 : decode cX10_shares 60 = .ok (.iload 5, 2) := by decide +kernel
theorem dX10_shares_62 : decode cX10_shares 62 = .ok (.aload_n 0, 1) := by decide +kernel
theorem dX10_shares_63 : decode cX10_shares 63 = .ok (.getfield 150, 3) := by decide +kernel
theorem dX10_shares_66 : decode cX10_shares 66 = .ok (.iload 5, 2) := by decide +kernel
theorem dX10_shares_68 : decode cX10_shares 68 = .ok (.iaload, 1) := by decide +kernel
theorem dX10_shares_69 : decode cX10_shares 69 = .ok (.iastore, 1) := by decide +kernel
theorem dX10_shares_70 : decode cX10_shares 70 = .ok (.iinc 5 1, 3) := by decide +kernel
theorem dX10_shares_73 : decode cX10_shares 73 = .ok (.goto (-23), 3) := by decide +kernel
theorem dX10_shares_76 : decode cX10_shares 76 = .ok (.return_, 1) := by decide +kernel
theorem dX10_shares_77 : decode cX10_shares 77 = .ok (.iconst 0, 1) := by decide +kernel
theorem dX10_shares_78 : decode cX10_shares 78 = .ok (.istore 5, 2) := by decide +kernel
theorem dX10_shares_80 : decode cX10_shares 80 = .ok (.iload 5, 2) := by decide +kernel
theorem dX10_shares_82 : decode cX10_shares 82 = .ok (.aload_n 0, 1) := by decide +kernel
theorem dX10_shares_83 : decode cX10_shares 83 = .ok (.getfield 13, 3) := by decide +kernel
theorem dX10_shares_86 : decode cX10_shares 86 = .ok (.iconst 4, 1) := by decide +kernel
theorem dX10_shares_87 : decode cX10_shares 87 = .ok (.iaload, 1) := by decide +kernel
theorem dX10_shares_88 : decode cX10_shares 88 = .ok (.if_icmp .ge 76, 3) := by decide +kernel
theorem dX10_shares_91 : decode cX10_shares 91 = .ok (.iload_n 2, 1) := by decide +kernel
theorem dX10_shares_92 : decode cX10_shares 92 = .ok (.iload 5, 2) := by decide +kernel
theorem dX10_shares_94 : decode cX10_shares 94 = .ok (.ishr, 1) := by decide +kernel
theorem dX10_shares_95 : decode cX10_shares 95 = .ok (.iconst 1, 1) := by decide +kernel
theorem dX10_shares_96 : decode cX10_shares 96 = .ok (.iand, 1) := by decide +kernel
theorem dX10_shares_97 : decode cX10_shares 97 = .ok (.iconst 1, 1) := by decide +kernel
theorem dX10_shares_98 : decode cX10_shares 98 = .ok (.if_icmp .eq 60, 3) := by decide +kernel
theorem dX10_shares_101 : decode cX10_shares 101 = .ok (.aload_n 0, 1) := by decide +kernel
theorem dX10_shares_102 : decode cX10_shares 102 = .ok (.getfield 147, 3) := by decide +kernel
theorem dX10_shares_105 : decode cX10_shares 105 = .ok (.bipush 6, 2) := by decide +kernel
theorem dX10_shares_107 : decode cX10_shares 107 = .ok (.iload_n 1, 1) := by decide +kernel
theorem dX10_shares_108 : decode cX10_shares 108 = .ok (.imul, 1) := by decide +kernel
theorem dX10_shares_109 : decode cX10_shares 109 = .ok (.iload 5, 2) := by decide +kernel
theorem dX10_shares_111 : decode cX10_shares 111 = .ok (.iadd, 1) := by decide +kernel
theorem dX10_shares_112 : decode cX10_shares 112 = .ok (.iaload, 1) := by decide +kernel
theorem dX10_shares_113 : decode cX10_shares 113 = .ok (.ifCond .ge 6, 3) := by decide +kernel
theorem dX10_shares_116 : decode cX10_shares 116 = .ok (.goto 42, 3) := by decide +kernel
theorem dX10_shares_119 : decode cX10_shares 119 = .ok (.aload_n 0, 1) := by decide +kernel
theorem dX10_shares_120 : decode cX10_shares 120 = .ok (.getfield 150, 3) := by decide +kernel
theorem dX10_shares_123 : decode cX10_shares 123 = .ok (.iload_n 1, 1) := by decide +kernel
theorem dX10_shares_124 : decode cX10_shares 124 = .ok (.iload 5, 2) := by decide +kernel
theorem dX10_shares_126 : decode cX10_shares 126 = .ok (.iastore, 1) := by decide +kernel
theorem dX10_shares_127 : decode cX10_shares 127 = .ok (.aload_n 0, 1) := by decide +kernel
theorem dX10_shares_128 : decode cX10_shares 128 = .ok (.iload_n 1, 1) := by decide +kernel
theorem dX10_shares_129 : decode cX10_shares 129 = .ok (.iconst 1, 1) := by decide +kernel
theorem dX10_shares_130 : decode cX10_shares 130 = .ok (.iadd, 1) := by decide +kernel
theorem dX10_shares_131 : decode cX10_shares 131 = .ok (.iload_n 2, 1) := by decide +kernel
theorem dX10_shares_132 : decode cX10_shares 132 = .ok (.iconst 1, 1) := by decide +kernel
theorem dX10_shares_133 : decode cX10_shares 133 = .ok (.iload 5, 2) := by decide +kernel
theorem dX10_shares_135 : decode cX10_shares 135 = .ok (.ishl, 1) := by decide +kernel
theorem dX10_shares_136 : decode cX10_shares 136 = .ok (.ior, 1) := by decide +kernel
theorem dX10_shares_137 : decode cX10_shares 137 = .ok (.iload_n 3, 1) := by decide +kernel
theorem dX10_shares_138 : decode cX10_shares 138 = .ok (.iconst 1, 1) := by decide +kernel
theorem dX10_shares_139 : decode cX10_shares 139 = .ok (.iadd, 1) := by decide +kernel
theorem dX10_shares_140 : decode cX10_shares 140 = .ok (.iload 4, 2) := by decide +kernel
theorem dX10_shares_142 : decode cX10_shares 142 = .ok (.aload_n 0, 1) := by decide +kernel
theorem dX10_shares_143 : decode cX10_shares 143 = .ok (.getfield 147, 3) := by decide +kernel
theorem dX10_shares_146 : decode cX10_shares 146 = .ok (.bipush 6, 2) := by decide +kernel
theorem dX10_shares_148 : decode cX10_shares 148 = .ok (.iload_n 1, 1) := by decide +kernel
theorem dX10_shares_149 : decode cX10_shares 149 = .ok (.imul, 1) := by decide +kernel
theorem dX10_shares_150 : decode cX10_shares 150 = .ok (.iload 5, 2) := by decide +kernel
theorem dX10_shares_152 : decode cX10_shares 152 = .ok (.iadd, 1) := by decide +kernel
theorem dX10_shares_153 : decode cX10_shares 153 = .ok (.iaload, 1) := by decide +kernel
theorem dX10_shares_154 : decode cX10_shares 154 = .ok (.iadd, 1) := by decide +kernel
theorem dX10_shares_155 : decode cX10_shares 155 = .ok (.invokevirtual 493, 3) := by decide +kernel
theorem dX10_shares_158 : decode cX10_shares 158 = .ok (.iinc 5 1, 3) := by decide +kernel
theorem dX10_shares_161 : decode cX10_shares 161 = .ok (.goto (-81), 3) := by decide +kernel
theorem dX10_shares_164 : decode cX10_shares 164 = .ok (.aload_n 0, 1) := by decide +kernel
theorem dX10_shares_165 : decode cX10_shares 165 = .ok (.getfield 150, 3) := by decide +kernel
theorem dX10_shares_168 : decode cX10_shares 168 = .ok (.iload_n 1, 1) := by decide +kernel
theorem dX10_shares_169 : decode cX10_shares 169 = .ok (.iconst (-1), 1) := by decide +kernel
theorem dX10_shares_170 : decode cX10_shares 170 = .ok (.iastore, 1) := by decide +kernel
theorem dX10_shares_171 : decode cX10_shares 171 = .ok (.aload_n 0, 1) := by decide +kernel
theorem dX10_shares_172 : decode cX10_shares 172 = .ok (.iload_n 1, 1) := by decide +kernel
theorem dX10_shares_173 : decode cX10_shares 173 = .ok (.iconst 1, 1) := by decide +kernel
theorem dX10_shares_174 : decode cX10_shares 174 = .ok (.iadd, 1) := by decide +kernel
theorem dX10_shares_175 : decode cX10_shares 175 = .ok (.iload_n 2, 1) := by decide +kernel
theorem dX10_shares_176 : decode cX10_shares 176 = .ok (.iload_n 3, 1) := by decide +kernel
theorem dX10_shares_177 : decode cX10_shares 177 = .ok (.iload 4, 2) := by decide +kernel
theorem dX10_shares_179 : decode cX10_shares 179 = .ok (.invokevirtual 493, 3) := by decide +kernel
theorem dX10_shares_182 : decode cX10_shares 182 = .ok (.return_, 1) := by decide +kernel
theorem dX10_share_0 : decode cX10_share 0 = .ok (.aload_n 0, 1) := by decide +kernel
theorem dX10_share_1 : decode cX10_share 1 = .ok (.iconst 0, 1) := by decide +kernel
theorem dX10_share_2 : decode cX10_share 2 = .ok (.putfield 162, 3) := by decide +kernel
theorem dX10_share_5 : decode cX10_share 5 = .ok (.iload_n 1, 1) := by decide +kernel
theorem dX10_share_6 : decode cX10_share 6 = .ok (.bipush (-2), 2) := by decide +kernel
theorem dX10_share_8 : decode cX10_share 8 = .ok (.if_icmp .lt 13, 3) := by decide +kernel
theorem dX10_share_11 : decode cX10_share 11 = .ok (.iload_n 1, 1) := by decide +kernel
theorem dX10_share_12 : decode cX10_share 12 = .ok (.aload_n 0, 1) := by decide +kernel
theorem dX10_share_13 : decode cX10_share 13 = .ok (.getfield 13, 3) := by decide +kernel
theorem dX10_share_16 : decode cX10_share 16 = .ok (.iconst 3, 1) := by decide +kernel
theorem dX10_share_17 : decode cX10_share 17 = .ok (.iaload, 1) := by decide +kernel
theorem dX10_share_18 : decode cX10_share 18 = .ok (.if_icmp .lt 6, 3) := by decide +kernel
theorem dX10_share_21 : decode cX10_share 21 = .ok (.bipush (-3), 2) := by decide +kernel
theorem dX10_share_23 : decode cX10_share 23 = .ok (.ireturn, 1) := by decide +kernel
theorem dX10_share_24 : decode cX10_share 24 = .ok (.iconst 0, 1) := by decide +kernel
theorem dX10_share_25 : decode cX10_share 25 = .ok (.istore_n 2, 1) := by decide +kernel
theorem dX10_share_26 : decode cX10_share 26 = .ok (.iload_n 2, 1) := by decide +kernel
theorem dX10_share_27 : decode cX10_share 27 = .ok (.aload_n 0, 1) := by decide +kernel
theorem dX10_share_28 : decode cX10_share 28 = .ok (.getfield 13, 3) := by decide +kernel
theorem dX10_share_31 : decode cX10_share 31 = .ok (.iconst 3, 1) := by decide +kernel
theorem dX10_share_32 : decode cX10_share 32 = .ok (.iaload, 1) := by decide +kernel
theorem dX10_share_33 : decode cX10_share 33 = .ok (.if_icmp .ge 44, 3) := by decide +kernel
theorem dX10_share_36 : decode cX10_share 36 = .ok (.iconst 0, 1) := by decide +kernel
theorem dX10_share_37 : decode cX10_share 37 = .ok (.istore_n 3, 1) := by decide +kernel
theorem dX10_share_38 : decode cX10_share 38 = .ok (.iload_n 3, 1) := by decide +kernel
theorem dX10_share_39 : decode cX10_share 39 = .ok (.aload_n 0, 1) := by decide +kernel
theorem dX10_share_40 : decode cX10_share 40 = .ok (.getfield 13, 3) := by decide +kernel
theorem dX10_share_43 : decode cX10_share 43 = .ok (.iconst 4, 1) := by decide +kernel
theorem dX10_share_44 : decode cX10_share 44 = .ok (.iaload, 1) := by decide +kernel
theorem dX10_share_45 : decode cX10_share 45 = .ok (.if_icmp .ge 26, 3) := by decide +kernel
theorem dX10_share_48 : decode cX10_share 48 = .ok (.aload_n 0, 1) := by decide +kernel
theorem dX10_share_49 : decode cX10_share 49 = .ok (.getfield 147, 3) := by decide +kernel
theorem dX10_share_52 : decode cX10_share 52 = .ok (.bipush 6, 2) := by decide +kernel
theorem dX10_share_54 : decode cX10_share 54 = .ok (.iload_n 2, 1) := by decide +kernel
theorem dX10_share_55 : decode cX10_share 55 = .ok (.imul, 1) := by decide +kernel
theorem dX10_share_56 : decode cX10_share 56 = .ok (.iload_n 3, 1) := by decide +kernel
theorem dX10_share_57 : decode cX10_share 57 = .ok (.iadd, 1) := by decide +kernel
theorem dX10_share_58 : decode cX10_share 58 = .ok (.aload_n 0, 1) := by decide +kernel
theorem dX10_share_59 : decode cX10_share 59 = .ok (.iload_n 3, 1) := by decide +kernel
theorem dX10_share_60 : decode cX10_share 60 = .ok (.iload_n 2, 1) := by decide +kernel
theorem dX10_share_61 : decode cX10_share 61 = .ok (.invokevirtual 484, 3) := by decide +kernel
theorem dX10_share_64 : decode cX10_share 64 = .ok (.iastore, 1) := by decide +kernel
theorem dX10_share_65 : decode cX10_share 65 = .ok (.iinc 3 1, 3) := by decide +kernel
theorem dX10_share_68 : decode cX10_share 68 = .ok (.goto (-30), 3) := by decide +kernel
theorem dX10_share_71 : decode cX10_share 71 = .ok (.iinc 2 1, 3) := by decide +kernel
theorem dX10_share_74 : decode cX10_share 74 = .ok (.goto (-48), 3) := by decide +kernel
theorem dX10_share_77 : decode cX10_share 77 = .ok (.aload_n 0, 1) := by decide +kernel
theorem dX10_share_78 : decode cX10_share 78 = .ok (.iconst (-1), 1) := by decide +kernel
theorem dX10_share_79 : decode cX10_share 79 = .ok (.putfield 487, 3) := by decide +kernel
theorem dX10_share_82 : decode cX10_share 82 = .ok (.aload_n 0, 1) := by decide +kernel
theorem dX10_share_83 : decode cX10_share 83 = .ok (.iconst 0, 1) := by decide +kernel
theorem dX10_share_84 : decode cX10_share 84 = .ok (.iconst 0, 1) := by decide +kernel
theorem dX10_share_85 : decode cX10_share 85 = .ok (.iconst 0, 1) := by decide +kernel
theorem dX10_share_86 : decode cX10_share 86 = .ok (.iconst 0, 1) := by decide +kernel
theorem dX10_share_87 : decode cX10_share 87 = .ok (.invokevirtual 493, 3) := by decide +kernel
theorem dX10_share_90 : decode cX10_share 90 = .ok (.iload_n 1, 1) := by decide +kernel
theorem dX10_share_91 : decode cX10_share 91 = .ok (.iconst (-1), 1) := by decide +kernel
theorem dX10_share_92 : decode cX10_share 92 = .ok (.if_icmp .ne 10, 3) := by decide +kernel
theorem dX10_share_95 : decode cX10_share 95 = .ok (.aload_n 0, 1) := by decide +kernel
theorem dX10_share_96 : decode cX10_share 96 = .ok (.getfield 487, 3) := by decide +kernel
theorem dX10_share_99 : decode cX10_share 99 = .ok (.goto 22, 3) := by decide +kernel
theorem dX10_share_102 : decode cX10_share 102 = .ok (.iload_n 1, 1) := by decide +kernel
theorem dX10_share_103 : decode cX10_share 103 = .ok (.bipush (-2), 2) := by decide +kernel
theorem dX10_share_105 : decode cX10_share 105 = .ok (.if_icmp .ne 10, 3) := by decide +kernel
theorem dX10_share_108 : decode cX10_share 108 = .ok (.aload_n 0, 1) := by decide +kernel
theorem dX10_share_109 : decode cX10_share 109 = .ok (.getfield 490, 3) := by decide +kernel
theorem dX10_share_112 : decode cX10_share 112 = .ok (.goto 9, 3) := by decide +kernel
theorem dX10_share_115 : decode cX10_share 115 = .ok (.aload_n 0, 1) := by decide +kernel
theorem dX10_share_116 : decode cX10_share 116 = .ok (.getfield 153, 3) := by decide +kernel
theorem dX10_share_119 : decode cX10_share 119 = .ok (.iload_n 1, 1) := by decide +kernel
theorem dX10_share_120 : decode cX10_share 120 = .ok (.iaload, 1) := by decide +kernel
theorem dX10_share_121 : decode cX10_share 121 = .ok (.ireturn, 1) := by decide +kernel
theorem dX10_late_0 : decode cX10_late 0 = .ok (.aload_n 0, 1) := by decide +kernel
theorem dX10_late_1 : decode cX10_late 1 = .ok (.iconst 0, 1) := by decide +kernel
theorem dX10_late_2 : decode cX10_late 2 = .ok (.putfield 162, 3) := by decide +kernel
theorem dX10_late_5 : decode cX10_late 5 = .ok (.iconst 0, 1) := by decide +kernel
theorem dX10_late_6 : decode cX10_late 6 = .ok (.istore_n 1, 1) := by decide +kernel
theorem dX10_late_7 : decode cX10_late 7 = .ok (.iconst 0, 1) := by decide +kernel
theorem dX10_late_8 : decode cX10_late 8 = .ok (.istore_n 2, 1) := by decide +kernel
theorem dX10_late_9 : decode cX10_late 9 = .ok (.iload_n 2, 1) := by decide +kernel
theorem dX10_late_10 : decode cX10_late 10 = .ok (.aload_n 0, 1) := by decide +kernel
theorem dX10_late_11 : decode cX10_late 11 = .ok (.getfield 13, 3) := by decide +kernel
theorem dX10_late_14 : decode cX10_late 14 = .ok (.iconst 4, 1) := by decide +kernel
theorem dX10_late_15 : decode cX10_late 15 = .ok (.iaload, 1) := by decide +kernel
theorem dX10_late_16 : decode cX10_late 16 = .ok (.if_icmp .ge 47, 3) := by decide +kernel
theorem dX10_late_19 : decode cX10_late 19 = .ok (.iload_n 1, 1) := by decide +kernel
theorem dX10_late_20 : decode cX10_late 20 = .ok (.aload_n 0, 1) := by decide +kernel
theorem dX10_late_21 : decode cX10_late 21 = .ok (.getfield 126, 3) := by decide +kernel
theorem dX10_late_24 : decode cX10_late 24 = .ok (.bipush 19, 2) := by decide +kernel
theorem dX10_late_26 : decode cX10_late 26 = .ok (.iload_n 2, 1) := by decide +kernel
theorem dX10_late_27 : decode cX10_late 27 = .ok (.iadd, 1) := by decide +kernel
theorem dX10_late_28 : decode cX10_late 28 = .ok (.iaload, 1) := by decide +kernel
theorem dX10_late_29 : decode cX10_late 29 = .ok (.iconst 3, 1) := by decide +kernel
theorem dX10_late_30 : decode cX10_late 30 = .ok (.if_icmp .eq 24, 3) := by decide +kernel
theorem dX10_late_33 : decode cX10_late 33 = .ok (.aload_n 0, 1) := by decide +kernel
theorem dX10_late_34 : decode cX10_late 34 = .ok (.getfield 126, 3) := by decide +kernel
theorem dX10_late_37 : decode cX10_late 37 = .ok (.iconst 0, 1) := by decide +kernel
theorem dX10_late_38 : decode cX10_late 38 = .ok (.iaload, 1) := by decide +kernel
theorem dX10_late_39 : decode cX10_late 39 = .ok (.aload_n 0, 1) := by decide +kernel
theorem dX10_late_40 : decode cX10_late 40 = .ok (.getfield 50, 3) := by decide +kernel
theorem dX10_late_43 : decode cX10_late 43 = .ok (.iload_n 2, 1) := by decide +kernel
theorem dX10_late_44 : decode cX10_late 44 = .ok (.iaload, 1) := by decide +kernel
theorem dX10_late_45 : decode cX10_late 45 = .ok (.if_icmp .le 9, 3) := by decide +kernel
theorem dX10_late_48 : decode cX10_late 48 = .ok (.iconst 1, 1) := by decide +kernel
theorem dX10_late_49 : decode cX10_late 49 = .ok (.iload_n 2, 1) := by decide +kernel
theorem dX10_late_50 : decode cX10_late 50 = .ok (.ishl, 1) := by decide +kernel
theorem dX10_late_51 : decode cX10_late 51 = .ok (.goto 4, 3) := by decide +kernel
theorem dX10_late_54 : decode cX10_late 54 = .ok (.iconst 0, 1) := by decide +kernel
theorem dX10_late_55 : decode cX10_late 55 = .ok (.ior, 1) := by decide +kernel
theorem dX10_late_56 : decode cX10_late 56 = .ok (.istore_n 1, 1) := by decide +kernel
theorem dX10_late_57 : decode cX10_late 57 = .ok (.iinc 2 1, 3) := by decide +kernel
theorem dX10_late_60 : decode cX10_late 60 = .ok (.goto (-51), 3) := by decide +kernel
theorem dX10_late_63 : decode cX10_late 63 = .ok (.iload_n 1, 1) := by decide +kernel
theorem dX10_late_64 : decode cX10_late 64 = .ok (.ireturn, 1) := by decide +kernel
theorem dX10_may_0 : decode cX10_may 0 = .ok (.aload_n 0, 1) := by decide +kernel
theorem dX10_may_1 : decode cX10_may 1 = .ok (.iconst 0, 1) := by decide +kernel
theorem dX10_may_2 : decode cX10_may 2 = .ok (.putfield 162, 3) := by decide +kernel
theorem dX10_may_5 : decode cX10_may 5 = .ok (.aload_n 0, 1) := by decide +kernel
theorem dX10_may_6 : decode cX10_may 6 = .ok (.iload_n 1, 1) := by decide +kernel
theorem dX10_may_7 : decode cX10_may 7 = .ok (.invokevirtual 431, 3) := by decide +kernel
theorem dX10_may_10 : decode cX10_may 10 = .ok (.ifCond .eq 15, 3) := by decide +kernel
theorem dX10_may_13 : decode cX10_may 13 = .ok (.aload_n 0, 1) := by decide +kernel
theorem dX10_may_14 : decode cX10_may 14 = .ok (.iload_n 1, 1) := by decide +kernel
theorem dX10_may_15 : decode cX10_may 15 = .ok (.invokevirtual 456, 3) := by decide +kernel
theorem dX10_may_18 : decode cX10_may 18 = .ok (.ifCond .eq 7, 3) := by decide +kernel
theorem dX10_may_21 : decode cX10_may 21 = .ok (.iconst 1, 1) := by decide +kernel
theorem dX10_may_22 : decode cX10_may 22 = .ok (.goto 4, 3) := by decide +kernel
theorem dX10_may_25 : decode cX10_may 25 = .ok (.iconst 0, 1) := by decide +kernel
theorem dX10_may_26 : decode cX10_may 26 = .ok (.ireturn, 1) := by decide +kernel
theorem dX10_can_0 : decode cX10_can 0 = .ok (.aload_n 0, 1) := by decide +kernel
theorem dX10_can_1 : decode cX10_can 1 = .ok (.iconst 0, 1) := by decide +kernel
theorem dX10_can_2 : decode cX10_can 2 = .ok (.putfield 162, 3) := by decide +kernel
theorem dX10_can_5 : decode cX10_can 5 = .ok (.aload_n 0, 1) := by decide +kernel
theorem dX10_can_6 : decode cX10_can 6 = .ok (.iload_n 1, 1) := by decide +kernel
theorem dX10_can_7 : decode cX10_can 7 = .ok (.invokevirtual 425, 3) := by decide +kernel
theorem dX10_can_10 : decode cX10_can 10 = .ok (.ifCond .eq 11, 3) := by decide +kernel
theorem dX10_can_13 : decode cX10_can 13 = .ok (.aload_n 0, 1) := by decide +kernel
theorem dX10_can_14 : decode cX10_can 14 = .ok (.iload_n 1, 1) := by decide +kernel
theorem dX10_can_15 : decode cX10_can 15 = .ok (.invokevirtual 450, 3) := by decide +kernel
theorem dX10_can_18 : decode cX10_can 18 = .ok (.goto 4, 3) := by decide +kernel
theorem dX10_can_21 : decode cX10_can 21 = .ok (.iconst (-1), 1) := by decide +kernel
theorem dX10_can_22 : decode cX10_can 22 = .ok (.ireturn, 1) := by decide +kernel
theorem dX10_spreads_0 : decode cX10_spreads 0 = .ok (.iload_n 1, 1) := by decide +kernel
theorem dX10_spreads_1 : decode cX10_spreads 1 = .ok (.iload_n 2, 1) := by decide +kernel
theorem dX10_spreads_2 : decode cX10_spreads 2 = .ok (.iand, 1) := by decide +kernel
theorem dX10_spreads_3 : decode cX10_spreads 3 = .ok (.istore_n 3, 1) := by decide +kernel
theorem dX10_spreads_4 : decode cX10_spreads 4 = .ok (.iconst 0, 1) := by decide +kernel
theorem dX10_spreads_5 : decode cX10_spreads 5 = .ok (.istore 4, 2) := by decide +kernel
theorem dX10_spreads_7 : decode cX10_spreads 7 = .ok (.iload 4, 2) := by decide +kernel
theorem dX10_spreads_9 : decode cX10_spreads 9 = .ok (.bipush 7, 2) := by decide +kernel
theorem dX10_spreads_11 : decode cX10_spreads 11 = .ok (.if_icmp .ge 19, 3) := by decide +kernel
theorem dX10_spreads_14 : decode cX10_spreads 14 = .ok (.iload_n 3, 1) := by decide +kernel
theorem dX10_spreads_15 : decode cX10_spreads 15 = .ok (.aload_n 0, 1) := by decide +kernel
theorem dX10_spreads_16 : decode cX10_spreads 16 = .ok (.iload_n 3, 1) := by decide +kernel
theorem dX10_spreads_17 : decode cX10_spreads 17 = .ok (.invokevirtual 472, 3) := by decide +kernel
theorem dX10_spreads_20 : decode cX10_spreads 20 = .ok (.iload_n 2, 1) := by decide +kernel
theorem dX10_spreads_21 : decode cX10_spreads 21 = .ok (.iand, 1) := by decide +kernel
theorem dX10_spreads_22 : decode cX10_spreads 22 = .ok (.ior, 1) := by decide +kernel
theorem dX10_spreads_23 : decode cX10_spreads 23 = .ok (.istore_n 3, 1) := by decide +kernel
theorem dX10_spreads_24 : decode cX10_spreads 24 = .ok (.iinc 4 1, 3) := by decide +kernel
theorem dX10_spreads_27 : decode cX10_spreads 27 = .ok (.goto (-20), 3) := by decide +kernel
theorem dX10_spreads_30 : decode cX10_spreads 30 = .ok (.iload_n 3, 1) := by decide +kernel
theorem dX10_spreads_31 : decode cX10_spreads 31 = .ok (.ireturn, 1) := by decide +kernel
theorem dX10_every_0 : decode cX10_every 0 = .ok (.iconst 1, 1) := by decide +kernel
theorem dX10_every_1 : decode cX10_every 1 = .ok (.aload_n 0, 1) := by decide +kernel
theorem dX10_every_2 : decode cX10_every 2 = .ok (.getfield 13, 3) := by decide +kernel
theorem dX10_every_5 : decode cX10_every 5 = .ok (.iconst 0, 1) := by decide +kernel
theorem dX10_every_6 : decode cX10_every 6 = .ok (.iaload, 1) := by decide +kernel
theorem dX10_every_7 : decode cX10_every 7 = .ok (.ishl, 1) := by decide +kernel
theorem dX10_every_8 : decode cX10_every 8 = .ok (.iconst 1, 1) := by decide +kernel
theorem dX10_every_9 : decode cX10_every 9 = .ok (.isub, 1) := by decide +kernel
theorem dX10_every_10 : decode cX10_every 10 = .ok (.ireturn, 1) := by decide +kernel
theorem dX10_reach_0 : decode cX10_reach 0 = .ok (.aload_n 0, 1) := by decide +kernel
theorem dX10_reach_1 : decode cX10_reach 1 = .ok (.iconst 0, 1) := by decide +kernel
theorem dX10_reach_2 : decode cX10_reach 2 = .ok (.putfield 162, 3) := by decide +kernel
theorem dX10_reach_5 : decode cX10_reach 5 = .ok (.aload_n 0, 1) := by decide +kernel
theorem dX10_reach_6 : decode cX10_reach 6 = .ok (.iload_n 1, 1) := by decide +kernel
theorem dX10_reach_7 : decode cX10_reach 7 = .ok (.invokevirtual 416, 3) := by decide +kernel
theorem dX10_reach_10 : decode cX10_reach 10 = .ok (.ifCond .eq 17, 3) := by decide +kernel
theorem dX10_reach_13 : decode cX10_reach 13 = .ok (.aload_n 0, 1) := by decide +kernel
theorem dX10_reach_14 : decode cX10_reach 14 = .ok (.iconst 1, 1) := by decide +kernel
theorem dX10_reach_15 : decode cX10_reach 15 = .ok (.iload_n 1, 1) := by decide +kernel
theorem dX10_reach_16 : decode cX10_reach 16 = .ok (.ishl, 1) := by decide +kernel
theorem dX10_reach_17 : decode cX10_reach 17 = .ok (.aload_n 0, 1) := by decide +kernel
theorem dX10_reach_18 : decode cX10_reach 18 = .ok (.invokevirtual 497, 3) := by decide +kernel
theorem dX10_reach_21 : decode cX10_reach 21 = .ok (.invokevirtual 500, 3) := by decide +kernel
theorem dX10_reach_24 : decode cX10_reach 24 = .ok (.goto 4, 3) := by decide +kernel
theorem dX10_reach_27 : decode cX10_reach 27 = .ok (.iconst (-1), 1) := by decide +kernel
theorem dX10_reach_28 : decode cX10_reach 28 = .ok (.ireturn, 1) := by decide +kernel
theorem dX10_pool_0 : decode cX10_pool 0 = .ok (.aload_n 0, 1) := by decide +kernel
theorem dX10_pool_1 : decode cX10_pool 1 = .ok (.iconst 0, 1) := by decide +kernel
theorem dX10_pool_2 : decode cX10_pool 2 = .ok (.putfield 162, 3) := by decide +kernel
theorem dX10_pool_5 : decode cX10_pool 5 = .ok (.aload_n 0, 1) := by decide +kernel
theorem dX10_pool_6 : decode cX10_pool 6 = .ok (.iload_n 1, 1) := by decide +kernel
theorem dX10_pool_7 : decode cX10_pool 7 = .ok (.invokevirtual 416, 3) := by decide +kernel
theorem dX10_pool_10 : decode cX10_pool 10 = .ok (.ifCond .eq 17, 3) := by decide +kernel
theorem dX10_pool_13 : decode cX10_pool 13 = .ok (.aload_n 0, 1) := by decide +kernel
theorem dX10_pool_14 : decode cX10_pool 14 = .ok (.iconst 1, 1) := by decide +kernel
theorem dX10_pool_15 : decode cX10_pool 15 = .ok (.iload_n 1, 1) := by decide +kernel
theorem dX10_pool_16 : decode cX10_pool 16 = .ok (.ishl, 1) := by decide +kernel
theorem dX10_pool_17 : decode cX10_pool 17 = .ok (.aload_n 0, 1) := by decide +kernel
theorem dX10_pool_18 : decode cX10_pool 18 = .ok (.invokevirtual 438, 3) := by decide +kernel
theorem dX10_pool_21 : decode cX10_pool 21 = .ok (.invokevirtual 500, 3) := by decide +kernel
theorem dX10_pool_24 : decode cX10_pool 24 = .ok (.goto 4, 3) := by decide +kernel
theorem dX10_pool_27 : decode cX10_pool 27 = .ok (.iconst (-1), 1) := by decide +kernel
theorem dX10_pool_28 : decode cX10_pool 28 = .ok (.ireturn, 1) := by decide +kernel
theorem dX10_far_0 : decode cX10_far 0 = .ok (.aload_n 0, 1) := by decide +kernel
theorem dX10_far_1 : decode cX10_far 1 = .ok (.iconst 0, 1) := by decide +kernel
theorem dX10_far_2 : decode cX10_far 2 = .ok (.putfield 162, 3) := by decide +kernel
theorem dX10_far_5 : decode cX10_far 5 = .ok (.aload_n 0, 1) := by decide +kernel
theorem dX10_far_6 : decode cX10_far 6 = .ok (.iload_n 1, 1) := by decide +kernel
theorem dX10_far_7 : decode cX10_far 7 = .ok (.invokevirtual 416, 3) := by decide +kernel
theorem dX10_far_10 : decode cX10_far 10 = .ok (.ifCond .eq 11, 3) := by decide +kernel
theorem dX10_far_13 : decode cX10_far 13 = .ok (.aload_n 0, 1) := by decide +kernel
theorem dX10_far_14 : decode cX10_far 14 = .ok (.iload_n 2, 1) := by decide +kernel
theorem dX10_far_15 : decode cX10_far 15 = .ok (.invokevirtual 416, 3) := by decide +kernel
theorem dX10_far_18 : decode cX10_far 18 = .ok (.ifCond .ne 5, 3) := by decide +kernel
theorem dX10_far_21 : decode cX10_far 21 = .ok (.iconst (-1), 1) := by decide +kernel
theorem dX10_far_22 : decode cX10_far 22 = .ok (.ireturn, 1) := by decide +kernel
theorem dX10_far_23 : decode cX10_far 23 = .ok (.iconst 1, 1) := by decide +kernel
theorem dX10_far_24 : decode cX10_far 24 = .ok (.iload_n 1, 1) := by decide +kernel
theorem dX10_far_25 : decode cX10_far 25 = .ok (.ishl, 1) := by decide +kernel
theorem dX10_far_26 : decode cX10_far 26 = .ok (.istore_n 3, 1) := by decide +kernel
theorem dX10_far_27 : decode cX10_far 27 = .ok (.iconst 0, 1) := by decide +kernel
theorem dX10_far_28 : decode cX10_far 28 = .ok (.istore 4, 2) := by decide +kernel
theorem dX10_far_30 : decode cX10_far 30 = .ok (.iload 4, 2) := by decide +kernel
theorem dX10_far_32 : decode cX10_far 32 = .ok (.bipush 7, 2) := by decide +kernel
theorem dX10_far_34 : decode cX10_far 34 = .ok (.if_icmp .ge 29, 3) := by decide +kernel
theorem dX10_far_37 : decode cX10_far 37 = .ok (.iload_n 3, 1) := by decide +kernel
theorem dX10_far_38 : decode cX10_far 38 = .ok (.iload_n 2, 1) := by decide +kernel
theorem dX10_far_39 : decode cX10_far 39 = .ok (.ishr, 1) := by decide +kernel
theorem dX10_far_40 : decode cX10_far 40 = .ok (.iconst 1, 1) := by decide +kernel
theorem dX10_far_41 : decode cX10_far 41 = .ok (.iand, 1) := by decide +kernel
theorem dX10_far_42 : decode cX10_far 42 = .ok (.iconst 1, 1) := by decide +kernel
theorem dX10_far_43 : decode cX10_far 43 = .ok (.if_icmp .ne 6, 3) := by decide +kernel
theorem dX10_far_46 : decode cX10_far 46 = .ok (.iload 4, 2) := by decide +kernel
theorem dX10_far_48 : decode cX10_far 48 = .ok (.ireturn, 1) := by decide +kernel
theorem dX10_far_49 : decode cX10_far 49 = .ok (.iload_n 3, 1) := by decide +kernel
theorem dX10_far_50 : decode cX10_far 50 = .ok (.aload_n 0, 1) := by decide +kernel
theorem dX10_far_51 : decode cX10_far 51 = .ok (.iload_n 3, 1) := by decide +kernel
theorem dX10_far_52 : decode cX10_far 52 = .ok (.invokevirtual 472, 3) := by decide +kernel
theorem dX10_far_55 : decode cX10_far 55 = .ok (.ior, 1) := by decide +kernel
theorem dX10_far_56 : decode cX10_far 56 = .ok (.istore_n 3, 1) := by decide +kernel
theorem dX10_far_57 : decode cX10_far 57 = .ok (.iinc 4 1, 3) := by decide +kernel
theorem dX10_far_60 : decode cX10_far 60 = .ok (.goto (-30), 3) := by decide +kernel
theorem dX10_far_63 : decode cX10_far 63 = .ok (.iconst (-1), 1) := by decide +kernel
theorem dX10_far_64 : decode cX10_far 64 = .ok (.ireturn, 1) := by decide +kernel
theorem dX10_pools_0 : decode cX10_pools 0 = .ok (.aload_n 0, 1) := by decide +kernel
theorem dX10_pools_1 : decode cX10_pools 1 = .ok (.iconst 0, 1) := by decide +kernel
theorem dX10_pools_2 : decode cX10_pools 2 = .ok (.putfield 162, 3) := by decide +kernel
theorem dX10_pools_5 : decode cX10_pools 5 = .ok (.aload_n 0, 1) := by decide +kernel
theorem dX10_pools_6 : decode cX10_pools 6 = .ok (.invokevirtual 438, 3) := by decide +kernel
theorem dX10_pools_9 : decode cX10_pools 9 = .ok (.istore_n 1, 1) := by decide +kernel
theorem dX10_pools_10 : decode cX10_pools 10 = .ok (.iconst 0, 1) := by decide +kernel
theorem dX10_pools_11 : decode cX10_pools 11 = .ok (.istore_n 2, 1) := by decide +kernel
theorem dX10_pools_12 : decode cX10_pools 12 = .ok (.iload_n 1, 1) := by decide +kernel
theorem dX10_pools_13 : decode cX10_pools 13 = .ok (.ifCond .eq 28, 3) := by decide +kernel
theorem dX10_pools_16 : decode cX10_pools 16 = .ok (.iload_n 1, 1) := by decide +kernel
theorem dX10_pools_17 : decode cX10_pools 17 = .ok (.aload_n 0, 1) := by decide +kernel
theorem dX10_pools_18 : decode cX10_pools 18 = .ok (.iconst 1, 1) := by decide +kernel
theorem dX10_pools_19 : decode cX10_pools 19 = .ok (.iload_n 1, 1) := by decide +kernel
theorem dX10_pools_20 : decode cX10_pools 20 = .ok (.invokestatic 503, 3) := by decide +kernel
theorem dX10_pools_23 : decode cX10_pools 23 = .ok (.ishl, 1) := by decide +kernel
theorem dX10_pools_24 : decode cX10_pools 24 = .ok (.aload_n 0, 1) := by decide +kernel
theorem dX10_pools_25 : decode cX10_pools 25 = .ok (.invokevirtual 438, 3) := by decide +kernel
theorem dX10_pools_28 : decode cX10_pools 28 = .ok (.invokevirtual 500, 3) := by decide +kernel
theorem dX10_pools_31 : decode cX10_pools 31 = .ok (.iconst (-1), 1) := by decide +kernel
theorem dX10_pools_32 : decode cX10_pools 32 = .ok (.ixor, 1) := by decide +kernel
theorem dX10_pools_33 : decode cX10_pools 33 = .ok (.iand, 1) := by decide +kernel
theorem dX10_pools_34 : decode cX10_pools 34 = .ok (.istore_n 1, 1) := by decide +kernel
theorem dX10_pools_35 : decode cX10_pools 35 = .ok (.iinc 2 1, 3) := by decide +kernel
theorem dX10_pools_38 : decode cX10_pools 38 = .ok (.goto (-26), 3) := by decide +kernel
theorem dX10_pools_41 : decode cX10_pools 41 = .ok (.iload_n 2, 1) := by decide +kernel
theorem dX10_pools_42 : decode cX10_pools 42 = .ok (.ireturn, 1) := by decide +kernel
theorem dX10_bridges_0 : decode cX10_bridges 0 = .ok (.aload_n 0, 1) := by decide +kernel
theorem dX10_bridges_1 : decode cX10_bridges 1 = .ok (.iconst 0, 1) := by decide +kernel
theorem dX10_bridges_2 : decode cX10_bridges 2 = .ok (.putfield 162, 3) := by decide +kernel
theorem dX10_bridges_5 : decode cX10_bridges 5 = .ok (.iconst 0, 1) := by decide +kernel
theorem dX10_bridges_6 : decode cX10_bridges 6 = .ok (.istore_n 1, 1) := by decide +kernel
theorem dX10_bridges_7 : decode cX10_bridges 7 = .ok (.iconst 0, 1) := by decide +kernel
theorem dX10_bridges_8 : decode cX10_bridges 8 = .ok (.istore_n 2, 1) := by decide +kernel
theorem dX10_bridges_9 : decode cX10_bridges 9 = .ok (.iload_n 2, 1) := by decide +kernel
theorem dX10_bridges_10 : decode cX10_bridges 10 = .ok (.aload_n 0, 1) := by decide +kernel
theorem dX10_bridges_11 : decode cX10_bridges 11 = .ok (.getfield 13, 3) := by decide +kernel
theorem dX10_bridges_14 : decode cX10_bridges 14 = .ok (.iconst 0, 1) := by decide +kernel
theorem dX10_bridges_15 : decode cX10_bridges 15 = .ok (.iaload, 1) := by decide +kernel
theorem dX10_bridges_16 : decode cX10_bridges 16 = .ok (.if_icmp .ge 112, 3) := by decide +kernel
theorem dX10_bridges_19 : decode cX10_bridges 19 = .ok (.iconst 0, 1) := by decide +kernel
theorem dX10_bridges_20 : decode cX10_bridges 20 = .ok (.istore_n 3, 1) := by decide +kernel
theorem dX10_bridges_21 : decode cX10_bridges 21 = .ok (.iload_n 3, 1) := by decide +kernel
theorem dX10_bridges_22 : decode cX10_bridges 22 = .ok (.iload_n 2, 1) := by decide +kernel
theorem dX10_bridges_23 : decode cX10_bridges 23 = .ok (.if_icmp .ge 99, 3) := by decide +kernel
theorem dX10_bridges_26 : decode cX10_bridges 26 = .ok (.aload_n 0, 1) := by decide +kernel
theorem dX10_bridges_27 : decode cX10_bridges 27 = .ok (.getfield 32, 3) := by decide +kernel
theorem dX10_bridges_30 : decode cX10_bridges 30 = .ok (.iload_n 2, 1) := by decide +kernel
theorem dX10_bridges_31 : decode cX10_bridges 31 = .ok (.iaload, 1) := by decide +kernel
theorem dX10_bridges_32 : decode cX10_bridges 32 = .ok (.iload_n 3, 1) := by decide +kernel
theorem dX10_bridges_33 : decode cX10_bridges 33 = .ok (.ishr, 1) := by decide +kernel
theorem dX10_bridges_34 : decode cX10_bridges 34 = .ok (.iconst 1, 1) := by decide +kernel
theorem dX10_bridges_35 : decode cX10_bridges 35 = .ok (.iand, 1) := by decide +kernel
theorem dX10_bridges_36 : decode cX10_bridges 36 = .ok (.ifCond .ne 6, 3) := by decide +kernel
theorem dX10_bridges_39 : decode cX10_bridges 39 = .ok (.goto 77, 3) := by decide +kernel
theorem dX10_bridges_42 : decode cX10_bridges 42 = .ok (.aload_n 0, 1) := by decide +kernel
theorem dX10_bridges_43 : decode cX10_bridges 43 = .ok (.getfield 32, 3) := by decide +kernel
theorem dX10_bridges_46 : decode cX10_bridges 46 = .ok (.iload_n 2, 1) := by decide +kernel
theorem dX10_bridges_47 : decode cX10_bridges 47 = .ok (.dup2, 1) := by decide +kernel
theorem dX10_bridges_48 : decode cX10_bridges 48 = .ok (.iaload, 1) := by decide +kernel
theorem dX10_bridges_49 : decode cX10_bridges 49 = .ok (.iconst 1, 1) := by decide +kernel
theorem dX10_bridges_50 : decode cX10_bridges 50 = .ok (.iload_n 3, 1) := by decide +kernel
theorem dX10_bridges_51 : decode cX10_bridges 51 = .ok (.ishl, 1) := by decide +kernel
theorem dX10_bridges_52 : decode cX10_bridges 52 = .ok (.ixor, 1) := by decide +kernel
theorem dX10_bridges_53 : decode cX10_bridges 53 = .ok (.iastore, 1) := by decide +kernel
theorem dX10_bridges_54 : decode cX10_bridges 54 = .ok (.aload_n 0, 1) := by decide +kernel
theorem dX10_bridges_55 : decode cX10_bridges 55 = .ok (.getfield 32, 3) := by decide +kernel
theorem dX10_bridges_58 : decode cX10_bridges 58 = .ok (.iload_n 3, 1) := by decide +kernel
theorem dX10_bridges_59 : decode cX10_bridges 59 = .ok (.dup2, 1) := by decide +kernel
theorem dX10_bridges_60 : decode cX10_bridges 60 = .ok (.iaload, 1) := by decide +kernel
theorem dX10_bridges_61 : decode cX10_bridges 61 = .ok (.iconst 1, 1) := by decide +kernel
theorem dX10_bridges_62 : decode cX10_bridges 62 = .ok (.iload_n 2, 1) := by decide +kernel
theorem dX10_bridges_63 : decode cX10_bridges 63 = .ok (.ishl, 1) := by decide +kernel
theorem dX10_bridges_64 : decode cX10_bridges 64 = .ok (.ixor, 1) := by decide +kernel
theorem dX10_bridges_65 : decode cX10_bridges 65 = .ok (.iastore, 1) := by decide +kernel
theorem dX10_bridges_66 : decode cX10_bridges 66 = .ok (.iload_n 1, 1) := by decide +kernel
theorem dX10_bridges_67 : decode cX10_bridges 67 = .ok (.aload_n 0, 1) := by decide +kernel
theorem dX10_bridges_68 : decode cX10_bridges 68 = .ok (.iconst 1, 1) := by decide +kernel
theorem dX10_bridges_69 : decode cX10_bridges 69 = .ok (.iload_n 2, 1) := by decide +kernel
theorem dX10_bridges_70 : decode cX10_bridges 70 = .ok (.ishl, 1) := by decide +kernel
theorem dX10_bridges_71 : decode cX10_bridges 71 = .ok (.aload_n 0, 1) := by decide +kernel
theorem dX10_bridges_72 : decode cX10_bridges 72 = .ok (.invokevirtual 497, 3) := by decide +kernel
theorem dX10_bridges_75 : decode cX10_bridges 75 = .ok (.invokevirtual 500, 3) := by decide +kernel
theorem dX10_bridges_78 : decode cX10_bridges 78 = .ok (.iload_n 3, 1) := by decide +kernel
theorem dX10_bridges_79 : decode cX10_bridges 79 = .ok (.ishr, 1) := by decide +kernel
theorem dX10_bridges_80 : decode cX10_bridges 80 = .ok (.iconst 1, 1) := by decide +kernel
theorem dX10_bridges_81 : decode cX10_bridges 81 = .ok (.iand, 1) := by decide +kernel
theorem dX10_bridges_82 : decode cX10_bridges 82 = .ok (.ifCond .ne 7, 3) := by decide +kernel
theorem dX10_bridges_85 : decode cX10_bridges 85 = .ok (.iconst 1, 1) := by decide +kernel
theorem dX10_bridges_86 : decode cX10_bridges 86 = .ok (.goto 4, 3) := by decide +kernel
theorem dX10_bridges_89 : decode cX10_bridges 89 = .ok (.iconst 0, 1) := by decide +kernel
theorem dX10_bridges_90 : decode cX10_bridges 90 = .ok (.iadd, 1) := by decide +kernel
theorem dX10_bridges_91 : decode cX10_bridges 91 = .ok (.istore_n 1, 1) := by decide +kernel
theorem dX10_bridges_92 : decode cX10_bridges 92 = .ok (.aload_n 0, 1) := by decide +kernel
theorem dX10_bridges_93 : decode cX10_bridges 93 = .ok (.getfield 32, 3) := by decide +kernel
theorem dX10_bridges_96 : decode cX10_bridges 96 = .ok (.iload_n 2, 1) := by decide +kernel
theorem dX10_bridges_97 : decode cX10_bridges 97 = .ok (.dup2, 1) := by decide +kernel
theorem dX10_bridges_98 : decode cX10_bridges 98 = .ok (.iaload, 1) := by decide +kernel
theorem dX10_bridges_99 : decode cX10_bridges 99 = .ok (.iconst 1, 1) := by decide +kernel
theorem dX10_bridges_100 : decode cX10_bridges 100 = .ok (.iload_n 3, 1) := by decide +kernel
theorem dX10_bridges_101 : decode cX10_bridges 101 = .ok (.ishl, 1) := by decide +kernel
theorem dX10_bridges_102 : decode cX10_bridges 102 = .ok (.ixor, 1) := by decide +kernel
theorem dX10_bridges_103 : decode cX10_bridges 103 = .ok (.iastore, 1) := by decide +kernel
theorem dX10_bridges_104 : decode cX10_bridges 104 = .ok (.aload_n 0, 1) := by decide +kernel
theorem dX10_bridges_105 : decode cX10_bridges 105 = .ok (.getfield 32, 3) := by decide +kernel
theorem dX10_bridges_108 : decode cX10_bridges 108 = .ok (.iload_n 3, 1) := by decide +kernel
theorem dX10_bridges_109 : decode cX10_bridges 109 = .ok (.dup2, 1) := by decide +kernel
theorem dX10_bridges_110 : decode cX10_bridges 110 = .ok (.iaload, 1) := by decide +kernel
theorem dX10_bridges_111 : decode cX10_bridges 111 = .ok (.iconst 1, 1) := by decide +kernel
theorem dX10_bridges_112 : decode cX10_bridges 112 = .ok (.iload_n 2, 1) := by decide +kernel
theorem dX10_bridges_113 : decode cX10_bridges 113 = .ok (.ishl, 1) := by decide +kernel
theorem dX10_bridges_114 : decode cX10_bridges 114 = .ok (.ixor, 1) := by decide +kernel
theorem dX10_bridges_115 : decode cX10_bridges 115 = .ok (.iastore, 1) := by decide +kernel
theorem dX10_bridges_116 : decode cX10_bridges 116 = .ok (.iinc 3 1, 3) := by decide +kernel
theorem dX10_bridges_119 : decode cX10_bridges 119 = .ok (.goto (-98), 3) := by decide +kernel
theorem dX10_bridges_122 : decode cX10_bridges 122 = .ok (.iinc 2 1, 3) := by decide +kernel
theorem dX10_bridges_125 : decode cX10_bridges 125 = .ok (.goto (-116), 3) := by decide +kernel
theorem dX10_bridges_128 : decode cX10_bridges 128 = .ok (.iload_n 1, 1) := by decide +kernel
theorem dX10_bridges_129 : decode cX10_bridges 129 = .ok (.ireturn, 1) := by decide +kernel
theorem dX10_warm_0 : decode cX10_warm 0 = .ok (.aload_n 0, 1) := by decide +kernel
theorem dX10_warm_1 : decode cX10_warm 1 = .ok (.iconst 0, 1) := by decide +kernel
theorem dX10_warm_2 : decode cX10_warm 2 = .ok (.putfield 162, 3) := by decide +kernel
theorem dX10_warm_5 : decode cX10_warm 5 = .ok (.iconst (-1), 1) := by decide +kernel
theorem dX10_warm_6 : decode cX10_warm 6 = .ok (.istore_n 1, 1) := by decide +kernel
theorem dX10_warm_7 : decode cX10_warm 7 = .ok (.iconst 0, 1) := by decide +kernel
theorem dX10_warm_8 : decode cX10_warm 8 = .ok (.istore_n 2, 1) := by decide +kernel
theorem dX10_warm_9 : decode cX10_warm 9 = .ok (.iconst 0, 1) := by decide +kernel
theorem dX10_warm_10 : decode cX10_warm 10 = .ok (.istore_n 3, 1) := by decide +kernel
theorem dX10_warm_11 : decode cX10_warm 11 = .ok (.iload_n 3, 1) := by decide +kernel
theorem dX10_warm_12 : decode cX10_warm 12 = .ok (.aload_n 0, 1) := by decide +kernel
theorem dX10_warm_13 : decode cX10_warm 13 = .ok (.getfield 13, 3) := by decide +kernel
theorem dX10_warm_16 : decode cX10_warm 16 = .ok (.iconst 0, 1) := by decide +kernel
theorem dX10_warm_17 : decode cX10_warm 17 = .ok (.iaload, 1) := by decide +kernel
theorem dX10_warm_18 : decode cX10_warm 18 = .ok (.if_icmp .ge 33, 3) := by decide +kernel
theorem dX10_warm_21 : decode cX10_warm 21 = .ok (.aload_n 0, 1) := by decide +kernel
theorem dX10_warm_22 : decode cX10_warm 22 = .ok (.iload_n 3, 1) := by decide +kernel
theorem dX10_warm_23 : decode cX10_warm 23 = .ok (.invokevirtual 419, 3) := by decide +kernel
theorem dX10_warm_26 : decode cX10_warm 26 = .ok (.invokestatic 393, 3) := by decide +kernel
theorem dX10_warm_29 : decode cX10_warm 29 = .ok (.istore 4, 2) := by decide +kernel
theorem dX10_warm_31 : decode cX10_warm 31 = .ok (.iload 4, 2) := by decide +kernel
theorem dX10_warm_33 : decode cX10_warm 33 = .ok (.iload_n 2, 1) := by decide +kernel
theorem dX10_warm_34 : decode cX10_warm 34 = .ok (.if_icmp .gt 6, 3) := by decide +kernel
theorem dX10_warm_37 : decode cX10_warm 37 = .ok (.goto 8, 3) := by decide +kernel
theorem dX10_warm_40 : decode cX10_warm 40 = .ok (.iload 4, 2) := by decide +kernel
theorem dX10_warm_42 : decode cX10_warm 42 = .ok (.istore_n 2, 1) := by decide +kernel
theorem dX10_warm_43 : decode cX10_warm 43 = .ok (.iload_n 3, 1) := by decide +kernel
theorem dX10_warm_44 : decode cX10_warm 44 = .ok (.istore_n 1, 1) := by decide +kernel
theorem dX10_warm_45 : decode cX10_warm 45 = .ok (.iinc 3 1, 3) := by decide +kernel
theorem dX10_warm_48 : decode cX10_warm 48 = .ok (.goto (-37), 3) := by decide +kernel
theorem dX10_warm_51 : decode cX10_warm 51 = .ok (.iload_n 1, 1) := by decide +kernel
theorem dX10_warm_52 : decode cX10_warm 52 = .ok (.ireturn, 1) := by decide +kernel
theorem dX10_hunted_0 : decode cX10_hunted 0 = .ok (.aload_n 0, 1) := by decide +kernel
theorem dX10_hunted_1 : decode cX10_hunted 1 = .ok (.iconst 0, 1) := by decide +kernel
theorem dX10_hunted_2 : decode cX10_hunted 2 = .ok (.putfield 162, 3) := by decide +kernel
theorem dX10_hunted_5 : decode cX10_hunted 5 = .ok (.iconst (-1), 1) := by decide +kernel
theorem dX10_hunted_6 : decode cX10_hunted 6 = .ok (.istore_n 1, 1) := by decide +kernel
theorem dX10_hunted_7 : decode cX10_hunted 7 = .ok (.iconst 0, 1) := by decide +kernel
theorem dX10_hunted_8 : decode cX10_hunted 8 = .ok (.istore_n 2, 1) := by decide +kernel
theorem dX10_hunted_9 : decode cX10_hunted 9 = .ok (.iconst 0, 1) := by decide +kernel
theorem dX10_hunted_10 : decode cX10_hunted 10 = .ok (.istore_n 3, 1) := by decide +kernel
theorem dX10_hunted_11 : decode cX10_hunted 11 = .ok (.iload_n 3, 1) := by decide +kernel
theorem dX10_hunted_12 : decode cX10_hunted 12 = .ok (.aload_n 0, 1) := by decide +kernel
theorem dX10_hunted_13 : decode cX10_hunted 13 = .ok (.getfield 13, 3) := by decide +kernel
theorem dX10_hunted_16 : decode cX10_hunted 16 = .ok (.iconst 2, 1) := by decide +kernel
theorem dX10_hunted_17 : decode cX10_hunted 17 = .ok (.iaload, 1) := by decide +kernel
theorem dX10_hunted_18 : decode cX10_hunted 18 = .ok (.if_icmp .ge 81, 3) := by decide +kernel
theorem dX10_hunted_21 : decode cX10_hunted 21 = .ok (.iconst 0, 1) := by decide +kernel
theorem dX10_hunted_22 : decode cX10_hunted 22 = .ok (.istore 4, 2) := by decide +kernel
theorem dX10_hunted_24 : decode cX10_hunted 24 = .ok (.iconst 0, 1) := by decide +kernel
theorem dX10_hunted_25 : decode cX10_hunted 25 = .ok (.istore 5, 2) := by decide +kernel
theorem dX10_hunted_27 : decode cX10_hunted 27 = .ok (.iload 5, 2) := by decide +kernel
theorem dX10_hunted_29 : decode cX10_hunted 29 = .ok (.aload_n 0, 1) := by decide +kernel
theorem dX10_hunted_30 : decode cX10_hunted 30 = .ok (.getfield 13, 3) := by decide +kernel
theorem dX10_hunted_33 : decode cX10_hunted 33 = .ok (.iconst 4, 1) := by decide +kernel
theorem dX10_hunted_34 : decode cX10_hunted 34 = .ok (.iaload, 1) := by decide +kernel
theorem dX10_hunted_35 : decode cX10_hunted 35 = .ok (.if_icmp .ge 44, 3) := by decide +kernel
theorem dX10_hunted_38 : decode cX10_hunted 38 = .ok (.iload 4, 2) := by decide +kernel
theorem dX10_hunted_40 : decode cX10_hunted 40 = .ok (.aload_n 0, 1) := by decide +kernel
theorem dX10_hunted_41 : decode cX10_hunted 41 = .ok (.getfield 47, 3) := by decide +kernel
theorem dX10_hunted_44 : decode cX10_hunted 44 = .ok (.iload 5, 2) := by decide +kernel
theorem dX10_hunted_46 : decode cX10_hunted 46 = .ok (.iaload, 1) := by decide +kernel
theorem dX10_hunted_47 : decode cX10_hunted 47 = .ok (.iload_n 3, 1) := by decide +kernel
theorem dX10_hunted_48 : decode cX10_hunted 48 = .ok (.if_icmp .ne 21, 3) := by decide +kernel
theorem dX10_hunted_51 : decode cX10_hunted 51 = .ok (.aload_n 0, 1) := by decide +kernel
theorem dX10_hunted_52 : decode cX10_hunted 52 = .ok (.getfield 126, 3) := by decide +kernel
theorem dX10_hunted_55 : decode cX10_hunted 55 = .ok (.bipush 19, 2) := by decide +kernel
theorem dX10_hunted_57 : decode cX10_hunted 57 = .ok (.iload 5, 2) := by decide +kernel
theorem dX10_hunted_59 : decode cX10_hunted 59 = .ok (.iadd, 1) := by decide +kernel
theorem dX10_hunted_60 : decode cX10_hunted 60 = .ok (.iaload, 1) := by decide +kernel
theorem dX10_hunted_61 : decode cX10_hunted 61 = .ok (.iconst 3, 1) := by decide +kernel
theorem dX10_hunted_62 : decode cX10_hunted 62 = .ok (.if_icmp .eq 7, 3) := by decide +kernel
theorem dX10_hunted_65 : decode cX10_hunted 65 = .ok (.iconst 1, 1) := by decide +kernel
theorem dX10_hunted_66 : decode cX10_hunted 66 = .ok (.goto 4, 3) := by decide +kernel
theorem dX10_hunted_69 : decode cX10_hunted 69 = .ok (.iconst 0, 1) := by decide +kernel
theorem dX10_hunted_70 : decode cX10_hunted 70 = .ok (.iadd, 1) := by decide +kernel
theorem dX10_hunted_71 : decode cX10_hunted 71 = .ok (.istore 4, 2) := by decide +kernel
theorem dX10_hunted_73 : decode cX10_hunted 73 = .ok (.iinc 5 1, 3) := by decide +kernel
theorem dX10_hunted_76 : decode cX10_hunted 76 = .ok (.goto (-49), 3) := by decide +kernel
theorem dX10_hunted_79 : decode cX10_hunted 79 = .ok (.iload 4, 2) := by decide +kernel
theorem dX10_hunted_81 : decode cX10_hunted 81 = .ok (.iload_n 2, 1) := by decide +kernel
theorem dX10_hunted_82 : decode cX10_hunted 82 = .ok (.if_icmp .gt 6, 3) := by decide +kernel
theorem dX10_hunted_85 : decode cX10_hunted 85 = .ok (.goto 8, 3) := by decide +kernel
theorem dX10_hunted_88 : decode cX10_hunted 88 = .ok (.iload 4, 2) := by decide +kernel
theorem dX10_hunted_90 : decode cX10_hunted 90 = .ok (.istore_n 2, 1) := by decide +kernel
theorem dX10_hunted_91 : decode cX10_hunted 91 = .ok (.iload_n 3, 1) := by decide +kernel
theorem dX10_hunted_92 : decode cX10_hunted 92 = .ok (.istore_n 1, 1) := by decide +kernel
theorem dX10_hunted_93 : decode cX10_hunted 93 = .ok (.iinc 3 1, 3) := by decide +kernel
theorem dX10_hunted_96 : decode cX10_hunted 96 = .ok (.goto (-85), 3) := by decide +kernel
theorem dX10_hunted_99 : decode cX10_hunted 99 = .ok (.iload_n 1, 1) := by decide +kernel
theorem dX10_hunted_100 : decode cX10_hunted 100 = .ok (.ireturn, 1) := by decide +kernel
theorem dX10_laysRains_0 : decode cX10_laysRains 0 = .ok (.iconst 0, 1) := by decide +kernel
theorem dX10_laysRains_1 : decode cX10_laysRains 1 = .ok (.istore_n 1, 1) := by decide +kernel
theorem dX10_laysRains_2 : decode cX10_laysRains 2 = .ok (.iload_n 1, 1) := by decide +kernel
theorem dX10_laysRains_3 : decode cX10_laysRains 3 = .ok (.bipush 10, 2) := by decide +kernel
theorem dX10_laysRains_5 : decode cX10_laysRains 5 = .ok (.if_icmp .ge 44, 3) := by decide +kernel
theorem dX10_laysRains_8 : decode cX10_laysRains 8 = .ok (.iconst 0, 1) := by decide +kernel
theorem dX10_laysRains_9 : decode cX10_laysRains 9 = .ok (.istore_n 2, 1) := by decide +kernel
theorem dX10_laysRains_10 : decode cX10_laysRains 10 = .ok (.iload_n 2, 1) := by decide +kernel
theorem dX10_laysRains_11 : decode cX10_laysRains 11 = .ok (.aload_n 0, 1) := by decide +kernel
theorem dX10_laysRains_12 : decode cX10_laysRains 12 = .ok (.getfield 13, 3) := by decide +kernel
theorem dX10_laysRains_15 : decode cX10_laysRains 15 = .ok (.iconst 0, 1) := by decide +kernel
theorem dX10_laysRains_16 : decode cX10_laysRains 16 = .ok (.iaload, 1) := by decide +kernel
theorem dX10_laysRains_17 : decode cX10_laysRains 17 = .ok (.if_icmp .ge 26, 3) := by decide +kernel
theorem dX10_laysRains_20 : decode cX10_laysRains 20 = .ok (.aload_n 0, 1) := by decide +kernel
theorem dX10_laysRains_21 : decode cX10_laysRains 21 = .ok (.getfield 156, 3) := by decide +kernel
theorem dX10_laysRains_24 : decode cX10_laysRains 24 = .ok (.bipush 7, 2) := by decide +kernel
theorem dX10_laysRains_26 : decode cX10_laysRains 26 = .ok (.iload_n 1, 1) := by decide +kernel
theorem dX10_laysRains_27 : decode cX10_laysRains 27 = .ok (.imul, 1) := by decide +kernel
theorem dX10_laysRains_28 : decode cX10_laysRains 28 = .ok (.iload_n 2, 1) := by decide +kernel
theorem dX10_laysRains_29 : decode cX10_laysRains 29 = .ok (.iadd, 1) := by decide +kernel
theorem dX10_laysRains_30 : decode cX10_laysRains 30 = .ok (.aload_n 0, 1) := by decide +kernel
theorem dX10_laysRains_31 : decode cX10_laysRains 31 = .ok (.iload_n 2, 1) := by decide +kernel
theorem dX10_laysRains_32 : decode cX10_laysRains 32 = .ok (.iload_n 1, 1) := by decide +kernel
theorem dX10_laysRains_33 : decode cX10_laysRains 33 = .ok (.invokevirtual 403, 3) := by decide +kernel
theorem dX10_laysRains_36 : decode cX10_laysRains 36 = .ok (.iastore, 1) := by decide +kernel
theorem dX10_laysRains_37 : decode cX10_laysRains 37 = .ok (.iinc 2 1, 3) := by decide +kernel
theorem dX10_laysRains_40 : decode cX10_laysRains 40 = .ok (.goto (-30), 3) := by decide +kernel
theorem dX10_laysRains_43 : decode cX10_laysRains 43 = .ok (.iinc 1 1, 3) := by decide +kernel
theorem dX10_laysRains_46 : decode cX10_laysRains 46 = .ok (.goto (-44), 3) := by decide +kernel
theorem dX10_laysRains_49 : decode cX10_laysRains 49 = .ok (.return_, 1) := by decide +kernel
theorem dX10_see_0 : decode cX10_see 0 = .ok (.aload_n 0, 1) := by decide +kernel
theorem dX10_see_1 : decode cX10_see 1 = .ok (.iconst 0, 1) := by decide +kernel
theorem dX10_see_2 : decode cX10_see 2 = .ok (.putfield 162, 3) := by decide +kernel
theorem dX10_see_5 : decode cX10_see 5 = .ok (.aload_n 0, 1) := by decide +kernel
theorem dX10_see_6 : decode cX10_see 6 = .ok (.iload_n 1, 1) := by decide +kernel
theorem dX10_see_7 : decode cX10_see 7 = .ok (.invokevirtual 416, 3) := by decide +kernel
theorem dX10_see_10 : decode cX10_see 10 = .ok (.ifCond .eq 24, 3) := by decide +kernel
theorem dX10_see_13 : decode cX10_see 13 = .ok (.iload_n 2, 1) := by decide +kernel
theorem dX10_see_14 : decode cX10_see 14 = .ok (.iconst 0, 1) := by decide +kernel
theorem dX10_see_15 : decode cX10_see 15 = .ok (.bipush 9, 2) := by decide +kernel
theorem dX10_see_17 : decode cX10_see 17 = .ok (.invokestatic 293, 3) := by decide +kernel
theorem dX10_see_20 : decode cX10_see 20 = .ok (.ifCond .eq 14, 3) := by decide +kernel
theorem dX10_see_23 : decode cX10_see 23 = .ok (.aload_n 0, 1) := by decide +kernel
theorem dX10_see_24 : decode cX10_see 24 = .ok (.getfield 114, 3) := by decide +kernel
theorem dX10_see_27 : decode cX10_see 27 = .ok (.iconst 0, 1) := by decide +kernel
theorem dX10_see_28 : decode cX10_see 28 = .ok (.iaload, 1) := by decide +kernel
theorem dX10_see_29 : decode cX10_see 29 = .ok (.bipush 8, 2) := by decide +kernel
theorem dX10_see_31 : decode cX10_see 31 = .ok (.if_icmp .ne 5, 3) := by decide +kernel
theorem dX10_see_34 : decode cX10_see 34 = .ok (.iconst 0, 1) := by decide +kernel
theorem dX10_see_35 : decode cX10_see 35 = .ok (.ireturn, 1) := by decide +kernel
theorem dX10_see_36 : decode cX10_see 36 = .ok (.aload_n 0, 1) := by decide +kernel
theorem dX10_see_37 : decode cX10_see 37 = .ok (.getfield 117, 3) := by decide +kernel
theorem dX10_see_40 : decode cX10_see 40 = .ok (.aload_n 0, 1) := by decide +kernel
theorem dX10_see_41 : decode cX10_see 41 = .ok (.getfield 114, 3) := by decide +kernel
theorem dX10_see_44 : decode cX10_see 44 = .ok (.iconst 0, 1) := by decide +kernel
theorem dX10_see_45 : decode cX10_see 45 = .ok (.iaload, 1) := by decide +kernel
theorem dX10_see_46 : decode cX10_see 46 = .ok (.iload_n 1, 1) := by decide +kernel
theorem dX10_see_47 : decode cX10_see 47 = .ok (.iastore, 1) := by decide +kernel
theorem dX10_see_48 : decode cX10_see 48 = .ok (.aload_n 0, 1) := by decide +kernel
theorem dX10_see_49 : decode cX10_see 49 = .ok (.getfield 120, 3) := by decide +kernel
theorem dX10_see_52 : decode cX10_see 52 = .ok (.aload_n 0, 1) := by decide +kernel
theorem dX10_see_53 : decode cX10_see 53 = .ok (.getfield 114, 3) := by decide +kernel
theorem dX10_see_56 : decode cX10_see 56 = .ok (.iconst 0, 1) := by decide +kernel
theorem dX10_see_57 : decode cX10_see 57 = .ok (.iaload, 1) := by decide +kernel
theorem dX10_see_58 : decode cX10_see 58 = .ok (.iload_n 2, 1) := by decide +kernel
theorem dX10_see_59 : decode cX10_see 59 = .ok (.iastore, 1) := by decide +kernel
theorem dX10_see_60 : decode cX10_see 60 = .ok (.aload_n 0, 1) := by decide +kernel
theorem dX10_see_61 : decode cX10_see 61 = .ok (.getfield 123, 3) := by decide +kernel
theorem dX10_see_64 : decode cX10_see 64 = .ok (.aload_n 0, 1) := by decide +kernel
theorem dX10_see_65 : decode cX10_see 65 = .ok (.getfield 114, 3) := by decide +kernel
theorem dX10_see_68 : decode cX10_see 68 = .ok (.iconst 0, 1) := by decide +kernel
theorem dX10_see_69 : decode cX10_see 69 = .ok (.iaload, 1) := by decide +kernel
theorem dX10_see_70 : decode cX10_see 70 = .ok (.iload_n 3, 1) := by decide +kernel
theorem dX10_see_71 : decode cX10_see 71 = .ok (.bastore, 1) := by decide +kernel
theorem dX10_see_72 : decode cX10_see 72 = .ok (.aload_n 0, 1) := by decide +kernel
theorem dX10_see_73 : decode cX10_see 73 = .ok (.getfield 114, 3) := by decide +kernel
theorem dX10_see_76 : decode cX10_see 76 = .ok (.iconst 0, 1) := by decide +kernel
theorem dX10_see_77 : decode cX10_see 77 = .ok (.dup2, 1) := by decide +kernel
theorem dX10_see_78 : decode cX10_see 78 = .ok (.iaload, 1) := by decide +kernel
theorem dX10_see_79 : decode cX10_see 79 = .ok (.iconst 1, 1) := by decide +kernel
theorem dX10_see_80 : decode cX10_see 80 = .ok (.iadd, 1) := by decide +kernel
theorem dX10_see_81 : decode cX10_see 81 = .ok (.iastore, 1) := by decide +kernel
theorem dX10_see_82 : decode cX10_see 82 = .ok (.iconst 1, 1) := by decide +kernel
theorem dX10_see_83 : decode cX10_see 83 = .ok (.ireturn, 1) := by decide +kernel
theorem dX10_isAsSeen_0 : decode cX10_isAsSeen 0 = .ok (.iconst 0, 1) := by decide +kernel
theorem dX10_isAsSeen_1 : decode cX10_isAsSeen 1 = .ok (.istore_n 2, 1) := by decide +kernel
theorem dX10_isAsSeen_2 : decode cX10_isAsSeen 2 = .ok (.iload_n 2, 1) := by decide +kernel
theorem dX10_isAsSeen_3 : decode cX10_isAsSeen 3 = .ok (.aload_n 0, 1) := by decide +kernel
theorem dX10_isAsSeen_4 : decode cX10_isAsSeen 4 = .ok (.getfield 114, 3) := by decide +kernel
theorem dX10_isAsSeen_7 : decode cX10_isAsSeen 7 = .ok (.iconst 0, 1) := by decide +kernel
theorem dX10_isAsSeen_8 : decode cX10_isAsSeen 8 = .ok (.iaload, 1) := by decide +kernel
theorem dX10_isAsSeen_9 : decode cX10_isAsSeen 9 = .ok (.if_icmp .ge 50, 3) := by decide +kernel
theorem dX10_isAsSeen_12 : decode cX10_isAsSeen 12 = .ok (.aload_n 0, 1) := by decide +kernel
theorem dX10_isAsSeen_13 : decode cX10_isAsSeen 13 = .ok (.getfield 156, 3) := by decide +kernel
theorem dX10_isAsSeen_16 : decode cX10_isAsSeen 16 = .ok (.bipush 7, 2) := by decide +kernel
theorem dX10_isAsSeen_18 : decode cX10_isAsSeen 18 = .ok (.iload_n 1, 1) := by decide +kernel
theorem dX10_isAsSeen_19 : decode cX10_isAsSeen 19 = .ok (.imul, 1) := by decide +kernel
theorem dX10_isAsSeen_20 : decode cX10_isAsSeen 20 = .ok (.aload_n 0, 1) := by decide +kernel
theorem dX10_isAsSeen_21 : decode cX10_isAsSeen 21 = .ok (.getfield 117, 3) := by decide +kernel
theorem dX10_isAsSeen_24 : decode cX10_isAsSeen 24 = .ok (.iload_n 2, 1) := by decide +kernel
theorem dX10_isAsSeen_25 : decode cX10_isAsSeen 25 = .ok (.iaload, 1) := by decide +kernel
theorem dX10_isAsSeen_26 : decode cX10_isAsSeen 26 = .ok (.iadd, 1) := by decide +kernel
theorem dX10_isAsSeen_27 : decode cX10_isAsSeen 27 = .ok (.iaload, 1) := by decide +kernel
theorem dX10_isAsSeen_28 : decode cX10_isAsSeen 28 = .ok (.aload_n 0, 1) := by decide +kernel
theorem dX10_isAsSeen_29 : decode cX10_isAsSeen 29 = .ok (.getfield 120, 3) := by decide +kernel
theorem dX10_isAsSeen_32 : decode cX10_isAsSeen 32 = .ok (.iload_n 2, 1) := by decide +kernel
theorem dX10_isAsSeen_33 : decode cX10_isAsSeen 33 = .ok (.iaload, 1) := by decide +kernel
theorem dX10_isAsSeen_34 : decode cX10_isAsSeen 34 = .ok (.if_icmp .lt 7, 3) := by decide +kernel
theorem dX10_isAsSeen_37 : decode cX10_isAsSeen 37 = .ok (.iconst 1, 1) := by decide +kernel
theorem dX10_isAsSeen_38 : decode cX10_isAsSeen 38 = .ok (.goto 4, 3) := by decide +kernel
theorem dX10_isAsSeen_41 : decode cX10_isAsSeen 41 = .ok (.iconst 0, 1) := by decide +kernel
theorem dX10_isAsSeen_42 : decode cX10_isAsSeen 42 = .ok (.aload_n 0, 1) := by decide +kernel
theorem dX10_isAsSeen_43 : decode cX10_isAsSeen 43 = .ok (.getfield 123, 3) := by decide +kernel
theorem dX10_isAsSeen_46 : decode cX10_isAsSeen 46 = .ok (.iload_n 2, 1) := by decide +kernel
theorem dX10_isAsSeen_47 : decode cX10_isAsSeen 47 = .ok (.baload, 1) := by decide +kernel
theorem dX10_isAsSeen_48 : decode cX10_isAsSeen 48 = .ok (.if_icmp .eq 5, 3) := by decide +kernel
theorem dX10_isAsSeen_51 : decode cX10_isAsSeen 51 = .ok (.iconst 0, 1) := by decide +kernel
theorem dX10_isAsSeen_52 : decode cX10_isAsSeen 52 = .ok (.ireturn, 1) := by decide +kernel
theorem dX10_isAsSeen_53 : decode cX10_isAsSeen 53 = .ok (.iinc 2 1, 3) := by decide +kernel
theorem dX10_isAsSeen_56 : decode cX10_isAsSeen 56 = .ok (.goto (-54), 3) := by decide +kernel
theorem dX10_isAsSeen_59 : decode cX10_isAsSeen 59 = .ok (.iconst 1, 1) := by decide +kernel
theorem dX10_isAsSeen_60 : decode cX10_isAsSeen 60 = .ok (.ireturn, 1) := by decide +kernel
theorem dX10_rains_0 : decode cX10_rains 0 = .ok (.aload_n 0, 1) := by decide +kernel
theorem dX10_rains_1 : decode cX10_rains 1 = .ok (.iconst 0, 1) := by decide +kernel
theorem dX10_rains_2 : decode cX10_rains 2 = .ok (.putfield 162, 3) := by decide +kernel
theorem dX10_rains_5 : decode cX10_rains 5 = .ok (.aload_n 0, 1) := by decide +kernel
theorem dX10_rains_6 : decode cX10_rains 6 = .ok (.invokevirtual 506, 3) := by decide +kernel
theorem dX10_rains_9 : decode cX10_rains 9 = .ok (.iconst 0, 1) := by decide +kernel
theorem dX10_rains_10 : decode cX10_rains 10 = .ok (.istore_n 1, 1) := by decide +kernel
theorem dX10_rains_11 : decode cX10_rains 11 = .ok (.iconst 0, 1) := by decide +kernel
theorem dX10_rains_12 : decode cX10_rains 12 = .ok (.istore_n 2, 1) := by decide +kernel
theorem dX10_rains_13 : decode cX10_rains 13 = .ok (.iload_n 2, 1) := by decide +kernel
theorem dX10_rains_14 : decode cX10_rains 14 = .ok (.bipush 10, 2) := by decide +kernel
theorem dX10_rains_16 : decode cX10_rains 16 = .ok (.if_icmp .ge 27, 3) := by decide +kernel
theorem dX10_rains_19 : decode cX10_rains 19 = .ok (.iload_n 1, 1) := by decide +kernel
theorem dX10_rains_20 : decode cX10_rains 20 = .ok (.aload_n 0, 1) := by decide +kernel
theorem dX10_rains_21 : decode cX10_rains 21 = .ok (.iload_n 2, 1) := by decide +kernel
theorem dX10_rains_22 : decode cX10_rains 22 = .ok (.invokevirtual 509, 3) := by decide +kernel
theorem dX10_rains_25 : decode cX10_rains 25 = .ok (.ifCond .eq 9, 3) := by decide +kernel
theorem dX10_rains_28 : decode cX10_rains 28 = .ok (.iconst 1, 1) := by decide +kernel
theorem dX10_rains_29 : decode cX10_rains 29 = .ok (.iload_n 2, 1) := by decide +kernel
theorem dX10_rains_30 : decode cX10_rains 30 = .ok (.ishl, 1) := by decide +kernel
theorem dX10_rains_31 : decode cX10_rains 31 = .ok (.goto 4, 3) := by decide +kernel
theorem dX10_rains_34 : decode cX10_rains 34 = .ok (.iconst 0, 1) := by decide +kernel
theorem dX10_rains_35 : decode cX10_rains 35 = .ok (.ior, 1) := by decide +kernel
theorem dX10_rains_36 : decode cX10_rains 36 = .ok (.istore_n 1, 1) := by decide +kernel
theorem dX10_rains_37 : decode cX10_rains 37 = .ok (.iinc 2 1, 3) := by decide +kernel
theorem dX10_rains_40 : decode cX10_rains 40 = .ok (.goto (-27), 3) := by decide +kernel
theorem dX10_rains_43 : decode cX10_rains 43 = .ok (.iload_n 1, 1) := by decide +kernel
theorem dX10_rains_44 : decode cX10_rains 44 = .ok (.ireturn, 1) := by decide +kernel
theorem dX10_look_0 : decode cX10_look 0 = .ok (.aload_n 0, 1) := by decide +kernel
theorem dX10_look_1 : decode cX10_look 1 = .ok (.iconst 0, 1) := by decide +kernel
theorem dX10_look_2 : decode cX10_look 2 = .ok (.putfield 162, 3) := by decide +kernel
theorem dX10_look_5 : decode cX10_look 5 = .ok (.aload_n 0, 1) := by decide +kernel
theorem dX10_look_6 : decode cX10_look 6 = .ok (.invokevirtual 512, 3) := by decide +kernel
theorem dX10_look_9 : decode cX10_look 9 = .ok (.istore_n 1, 1) := by decide +kernel
theorem dX10_look_10 : decode cX10_look 10 = .ok (.iload_n 1, 1) := by decide +kernel
theorem dX10_look_11 : decode cX10_look 11 = .ok (.invokestatic 393, 3) := by decide +kernel
theorem dX10_look_14 : decode cX10_look 14 = .ok (.istore_n 2, 1) := by decide +kernel
theorem dX10_look_15 : decode cX10_look 15 = .ok (.iload_n 2, 1) := by decide +kernel
theorem dX10_look_16 : decode cX10_look 16 = .ok (.istore_n 3, 1) := by decide +kernel
theorem dX10_look_17 : decode cX10_look 17 = .ok (.iconst (-1), 1) := by decide +kernel
theorem dX10_look_18 : decode cX10_look 18 = .ok (.istore 4, 2) := by decide +kernel
theorem dX10_look_20 : decode cX10_look 20 = .ok (.iconst 0, 1) := by decide +kernel
theorem dX10_look_21 : decode cX10_look 21 = .ok (.istore 5, 2) := by decide +kernel
theorem dX10_look_23 : decode cX10_look 23 = .ok (.iload 5, 2) := by decide +kernel
theorem dX10_look_25 : decode cX10_look 25 = .ok (.aload_n 0, 1) := by decide +kernel
theorem dX10_look_26 : decode cX10_look 26 = .ok (.getfield 13, 3) := by decide +kernel
theorem dX10_look_29 : decode cX10_look 29 = .ok (.iconst 0, 1) := by decide +kernel
theorem dX10_look_30 : decode cX10_look 30 = .ok (.iaload, 1) := by decide +kernel
theorem dX10_look_31 : decode cX10_look 31 = .ok (.if_icmp .ge 115, 3) := by decide +kernel
theorem dX10_look_34 : decode cX10_look 34 = .ok (.iconst 1, 1) := by decide +kernel
theorem dX10_look_35 : decode cX10_look 35 = .ok (.istore 6, 2) := by decide +kernel
theorem dX10_look_37 : decode cX10_look 37 = .ok (.iload 6, 2) := by decide +kernel
theorem dX10_look_39 : decode cX10_look 39 = .ok (.bipush 10, 2) := by decide +kernel
theorem dX10_look_41 : decode cX10_look 41 = .ok (.if_icmp .ge 99, 3) := by decide +kernel
theorem dX10_look_44 : decode cX10_look 44 = .ok (.iconst 0, 1) := by decide +kernel
theorem dX10_look_45 : decode cX10_look 45 = .ok (.istore 7, 2) := by decide +kernel
theorem dX10_look_47 : decode cX10_look 47 = .ok (.iconst 0, 1) := by decide +kernel
theorem dX10_look_48 : decode cX10_look 48 = .ok (.istore 8, 2) := by decide +kernel
theorem dX10_look_50 : decode cX10_look 50 = .ok (.iload 8, 2) := by decide +kernel
theorem dX10_look_52 : decode cX10_look 52 = .ok (.bipush 10, 2) := by decide +kernel
theorem dX10_look_54 : decode cX10_look 54 = .ok (.if_icmp .ge 47, 3) := by decide +kernel
theorem dX10_look_57 : decode cX10_look 57 = .ok (.iload 7, 2) := by decide +kernel
theorem dX10_look_59 : decode cX10_look 59 = .ok (.iload_n 1, 1) := by decide +kernel
theorem dX10_look_60 : decode cX10_look 60 = .ok (.iload 8, 2) := by decide +kernel
theorem dX10_look_62 : decode cX10_look 62 = .ok (.ishr, 1) := by decide +kernel
theorem dX10_look_63 : decode cX10_look 63 = .ok (.iconst 1, 1) := by decide +kernel
theorem dX10_look_64 : decode cX10_look 64 = .ok (.iand, 1) := by decide +kernel
theorem dX10_look_65 : decode cX10_look 65 = .ok (.iconst 1, 1) := by decide +kernel
theorem dX10_look_66 : decode cX10_look 66 = .ok (.if_icmp .ne 25, 3) := by decide +kernel
theorem dX10_look_69 : decode cX10_look 69 = .ok (.aload_n 0, 1) := by decide +kernel
theorem dX10_look_70 : decode cX10_look 70 = .ok (.getfield 156, 3) := by decide +kernel
theorem dX10_look_73 : decode cX10_look 73 = .ok (.bipush 7, 2) := by decide +kernel
theorem dX10_look_75 : decode cX10_look 75 = .ok (.iload 8, 2) := by decide +kernel
theorem dX10_look_77 : decode cX10_look 77 = .ok (.imul, 1) := by decide +kernel
theorem dX10_look_78 : decode cX10_look 78 = .ok (.iload 5, 2) := by decide +kernel
theorem dX10_look_80 : decode cX10_look 80 = .ok (.iadd, 1) := by decide +kernel
theorem dX10_look_81 : decode cX10_look 81 = .ok (.iaload, 1) := by decide +kernel
theorem dX10_look_82 : decode cX10_look 82 = .ok (.iload 6, 2) := by decide +kernel
theorem dX10_look_84 : decode cX10_look 84 = .ok (.if_icmp .lt 7, 3) := by decide +kernel
theorem dX10_look_87 : decode cX10_look 87 = .ok (.iconst 1, 1) := by decide +kernel
theorem dX10_look_88 : decode cX10_look 88 = .ok (.goto 4, 3) := by decide +kernel
theorem dX10_look_91 : decode cX10_look 91 = .ok (.iconst 0, 1) := by decide +kernel
theorem dX10_look_92 : decode cX10_look 92 = .ok (.iadd, 1) := by decide +kernel
theorem dX10_look_93 : decode cX10_look 93 = .ok (.istore 7, 2) := by decide +kernel
theorem dX10_look_95 : decode cX10_look 95 = .ok (.iinc 8 1, 3) := by decide +kernel
theorem dX10_look_98 : decode cX10_look 98 = .ok (.goto (-48), 3) := by decide +kernel
theorem dX10_look_101 : decode cX10_look 101 = .ok (.iload 7, 2) := by decide +kernel
theorem dX10_look_103 : decode cX10_look 103 = .ok (.iload_n 2, 1) := by decide +kernel
theorem dX10_look_104 : decode cX10_look 104 = .ok (.iload 7, 2) := by decide +kernel
theorem dX10_look_106 : decode cX10_look 106 = .ok (.isub, 1) := by decide +kernel
theorem dX10_look_107 : decode cX10_look 107 = .ok (.invokestatic 475, 3) := by decide +kernel
theorem dX10_look_110 : decode cX10_look 110 = .ok (.istore 7, 2) := by decide +kernel
theorem dX10_look_112 : decode cX10_look 112 = .ok (.iload 7, 2) := by decide +kernel
theorem dX10_look_114 : decode cX10_look 114 = .ok (.iload_n 3, 1) := by decide +kernel
theorem dX10_look_115 : decode cX10_look 115 = .ok (.if_icmp .lt 6, 3) := by decide +kernel
theorem dX10_look_118 : decode cX10_look 118 = .ok (.goto 16, 3) := by decide +kernel
theorem dX10_look_121 : decode cX10_look 121 = .ok (.iload 7, 2) := by decide +kernel
theorem dX10_look_123 : decode cX10_look 123 = .ok (.istore_n 3, 1) := by decide +kernel
theorem dX10_look_124 : decode cX10_look 124 = .ok (.bipush 10, 2) := by decide +kernel
theorem dX10_look_126 : decode cX10_look 126 = .ok (.iload 5, 2) := by decide +kernel
theorem dX10_look_128 : decode cX10_look 128 = .ok (.imul, 1) := by decide +kernel
theorem dX10_look_129 : decode cX10_look 129 = .ok (.iload 6, 2) := by decide +kernel
theorem dX10_look_131 : decode cX10_look 131 = .ok (.iadd, 1) := by decide +kernel
theorem dX10_look_132 : decode cX10_look 132 = .ok (.istore 4, 2) := by decide +kernel
theorem dX10_look_134 : decode cX10_look 134 = .ok (.iinc 6 1, 3) := by decide +kernel
theorem dX10_look_137 : decode cX10_look 137 = .ok (.goto (-100), 3) := by decide +kernel
theorem dX10_look_140 : decode cX10_look 140 = .ok (.iinc 5 1, 3) := by decide +kernel
theorem dX10_look_143 : decode cX10_look 143 = .ok (.goto (-120), 3) := by decide +kernel
theorem dX10_look_146 : decode cX10_look 146 = .ok (.iload 4, 2) := by decide +kernel
theorem dX10_look_148 : decode cX10_look 148 = .ok (.ireturn, 1) := by decide +kernel
theorem dX10_chance_0 : decode cX10_chance 0 = .ok (.aload_n 0, 1) := by decide +kernel
theorem dX10_chance_1 : decode cX10_chance 1 = .ok (.iconst 0, 1) := by decide +kernel
theorem dX10_chance_2 : decode cX10_chance 2 = .ok (.putfield 162, 3) := by decide +kernel
theorem dX10_chance_5 : decode cX10_chance 5 = .ok (.aload_n 0, 1) := by decide +kernel
theorem dX10_chance_6 : decode cX10_chance 6 = .ok (.iload_n 1, 1) := by decide +kernel
theorem dX10_chance_7 : decode cX10_chance 7 = .ok (.invokevirtual 416, 3) := by decide +kernel
theorem dX10_chance_10 : decode cX10_chance 10 = .ok (.ifCond .eq 23, 3) := by decide +kernel
theorem dX10_chance_13 : decode cX10_chance 13 = .ok (.iload_n 2, 1) := by decide +kernel
theorem dX10_chance_14 : decode cX10_chance 14 = .ok (.iconst 1, 1) := by decide +kernel
theorem dX10_chance_15 : decode cX10_chance 15 = .ok (.bipush 6, 2) := by decide +kernel
theorem dX10_chance_17 : decode cX10_chance 17 = .ok (.invokestatic 293, 3) := by decide +kernel
theorem dX10_chance_20 : decode cX10_chance 20 = .ok (.ifCond .eq 13, 3) := by decide +kernel
theorem dX10_chance_23 : decode cX10_chance 23 = .ok (.iload_n 3, 1) := by decide +kernel
theorem dX10_chance_24 : decode cX10_chance 24 = .ok (.iconst 0, 1) := by decide +kernel
theorem dX10_chance_25 : decode cX10_chance 25 = .ok (.bipush 10, 2) := by decide +kernel
theorem dX10_chance_27 : decode cX10_chance 27 = .ok (.invokestatic 293, 3) := by decide +kernel
theorem dX10_chance_30 : decode cX10_chance 30 = .ok (.ifCond .ne 5, 3) := by decide +kernel
theorem dX10_chance_33 : decode cX10_chance 33 = .ok (.iconst (-1), 1) := by decide +kernel
theorem dX10_chance_34 : decode cX10_chance 34 = .ok (.ireturn, 1) := by decide +kernel
theorem dX10_chance_35 : decode cX10_chance 35 = .ok (.lconst 0, 1) := by decide +kernel
theorem dX10_chance_36 : decode cX10_chance 36 = .ok (.lstore 4, 2) := by decide +kernel
theorem dX10_chance_38 : decode cX10_chance 38 = .ok (.lconst 1, 1) := by decide +kernel
theorem dX10_chance_39 : decode cX10_chance 39 = .ok (.lstore 6, 2) := by decide +kernel
theorem dX10_chance_41 : decode cX10_chance 41 = .ok (.iconst 0, 1) := by decide +kernel
theorem dX10_chance_42 : decode cX10_chance 42 = .ok (.istore 8, 2) := by decide +kernel
theorem dX10_chance_44 : decode cX10_chance 44 = .ok (.iload 8, 2) := by decide +kernel
theorem dX10_chance_46 : decode cX10_chance 46 = .ok (.iload_n 2, 1) := by decide +kernel
theorem dX10_chance_47 : decode cX10_chance 47 = .ok (.if_icmp .ge 17, 3) := by decide +kernel
theorem dX10_chance_50 : decode cX10_chance 50 = .ok (.lload 6, 2) := by decide +kernel
theorem dX10_chance_52 : decode cX10_chance 52 = .ok (.ldc2_w 515, 3) := by decide +kernel
theorem dX10_chance_55 : decode cX10_chance 55 = .ok (.lmul, 1) := by decide +kernel
theorem dX10_chance_56 : decode cX10_chance 56 = .ok (.lstore 6, 2) := by decide +kernel
theorem dX10_chance_58 : decode cX10_chance 58 = .ok (.iinc 8 1, 3) := by decide +kernel
theorem dX10_chance_61 : decode cX10_chance 61 = .ok (.goto (-17), 3) := by decide +kernel
theorem dX10_chance_64 : decode cX10_chance 64 = .ok (.aload_n 0, 1) := by decide +kernel
theorem dX10_chance_65 : decode cX10_chance 65 = .ok (.getfield 126, 3) := by decide +kernel
theorem dX10_chance_68 : decode cX10_chance 68 = .ok (.iconst 0, 1) := by decide +kernel
theorem dX10_chance_69 : decode cX10_chance 69 = .ok (.aload_n 0, 1) := by decide +kernel
theorem dX10_chance_70 : decode cX10_chance 70 = .ok (.getfield 132, 3) := by decide +kernel
theorem dX10_chance_73 : decode cX10_chance 73 = .ok (.iconst 0, 1) := by decide +kernel
theorem dX10_chance_74 : decode cX10_chance 74 = .ok (.invokestatic 434, 3) := by decide +kernel
theorem dX10_chance_77 : decode cX10_chance 77 = .ok (.iconst 0, 1) := by decide +kernel
theorem dX10_chance_78 : decode cX10_chance 78 = .ok (.istore 8, 2) := by decide +kernel
theorem dX10_chance_80 : decode cX10_chance 80 = .ok (.iload 8, 2) := by decide +kernel
theorem dX10_chance_82 : decode cX10_chance 82 = .ok (.iconst 1, 1) := by decide +kernel
theorem dX10_chance_83 : decode cX10_chance 83 = .ok (.iload_n 2, 1) := by decide +kernel
theorem dX10_chance_84 : decode cX10_chance 84 = .ok (.ishl, 1) := by decide +kernel
theorem dX10_chance_85 : decode cX10_chance 85 = .ok (.if_icmp .ge 111, 3) := by decide +kernel
theorem dX10_chance_88 : decode cX10_chance 88 = .ok (.lconst 1, 1) := by decide +kernel
theorem dX10_chance_89 : decode cX10_chance 89 = .ok (.lstore 9, 2) := by decide +kernel
theorem dX10_chance_91 : decode cX10_chance 91 = .ok (.iconst 0, 1) := by decide +kernel
theorem dX10_chance_92 : decode cX10_chance 92 = .ok (.istore 11, 2) := by decide +kernel
theorem dX10_chance_94 : decode cX10_chance 94 = .ok (.iload 11, 2) := by decide +kernel
theorem dX10_chance_96 : decode cX10_chance 96 = .ok (.iload_n 2, 1) := by decide +kernel
theorem dX10_chance_97 : decode cX10_chance 97 = .ok (.if_icmp .ge 62, 3) := by decide +kernel
theorem dX10_chance_100 : decode cX10_chance 100 = .ok (.iload 8, 2) := by decide +kernel
theorem dX10_chance_102 : decode cX10_chance 102 = .ok (.iload 11, 2) := by decide +kernel
theorem dX10_chance_104 : decode cX10_chance 104 = .ok (.ishr, 1) := by decide +kernel
theorem dX10_chance_105 : decode cX10_chance 105 = .ok (.iconst 1, 1) := by decide +kernel
theorem dX10_chance_106 : decode cX10_chance 106 = .ok (.iand, 1) := by decide +kernel
theorem dX10_chance_107 : decode cX10_chance 107 = .ok (.iconst 1, 1) := by decide +kernel
theorem dX10_chance_108 : decode cX10_chance 108 = .ok (.if_icmp .ne 7, 3) := by decide +kernel
theorem dX10_chance_111 : decode cX10_chance 111 = .ok (.iconst 1, 1) := by decide +kernel
theorem dX10_chance_112 : decode cX10_chance 112 = .ok (.goto 4, 3) := by decide +kernel
theorem dX10_chance_115 : decode cX10_chance 115 = .ok (.iconst 0, 1) := by decide +kernel
theorem dX10_chance_116 : decode cX10_chance 116 = .ok (.istore 12, 2) := by decide +kernel
theorem dX10_chance_118 : decode cX10_chance 118 = .ok (.lload 9, 2) := by decide +kernel
theorem dX10_chance_120 : decode cX10_chance 120 = .ok (.iload 12, 2) := by decide +kernel
theorem dX10_chance_122 : decode cX10_chance 122 = .ok (.ifCond .eq 8, 3) := by decide +kernel
theorem dX10_chance_125 : decode cX10_chance 125 = .ok (.iload_n 3, 1) := by decide +kernel
theorem dX10_chance_126 : decode cX10_chance 126 = .ok (.i2l, 1) := by decide +kernel
theorem dX10_chance_127 : decode cX10_chance 127 = .ok (.goto 8, 3) := by decide +kernel
theorem dX10_chance_130 : decode cX10_chance 130 = .ok (.bipush 10, 2) := by decide +kernel
theorem dX10_chance_132 : decode cX10_chance 132 = .ok (.iload_n 3, 1) := by decide +kernel
theorem dX10_chance_133 : decode cX10_chance 133 = .ok (.isub, 1) := by decide +kernel
theorem dX10_chance_134 : decode cX10_chance 134 = .ok (.i2l, 1) := by decide +kernel
theorem dX10_chance_135 : decode cX10_chance 135 = .ok (.lmul, 1) := by decide +kernel
theorem dX10_chance_136 : decode cX10_chance 136 = .ok (.lstore 9, 2) := by decide +kernel
theorem dX10_chance_138 : decode cX10_chance 138 = .ok (.aload_n 0, 1) := by decide +kernel
theorem dX10_chance_139 : decode cX10_chance 139 = .ok (.iload 12, 2) := by decide +kernel
theorem dX10_chance_141 : decode cX10_chance 141 = .ok (.ifCond .eq 8, 3) := by decide +kernel
theorem dX10_chance_144 : decode cX10_chance 144 = .ok (.bipush 9, 2) := by decide +kernel
theorem dX10_chance_146 : decode cX10_chance 146 = .ok (.goto 4, 3) := by decide +kernel
theorem dX10_chance_149 : decode cX10_chance 149 = .ok (.iconst 0, 1) := by decide +kernel
theorem dX10_chance_150 : decode cX10_chance 150 = .ok (.invokevirtual 413, 3) := by decide +kernel
theorem dX10_chance_153 : decode cX10_chance 153 = .ok (.iinc 11 1, 3) := by decide +kernel
theorem dX10_chance_156 : decode cX10_chance 156 = .ok (.goto (-62), 3) := by decide +kernel
theorem dX10_chance_159 : decode cX10_chance 159 = .ok (.aload_n 0, 1) := by decide +kernel
theorem dX10_chance_160 : decode cX10_chance 160 = .ok (.getfield 126, 3) := by decide +kernel
theorem dX10_chance_163 : decode cX10_chance 163 = .ok (.iconst 1, 1) := by decide +kernel
theorem dX10_chance_164 : decode cX10_chance 164 = .ok (.iload_n 1, 1) := by decide +kernel
theorem dX10_chance_165 : decode cX10_chance 165 = .ok (.iadd, 1) := by decide +kernel
theorem dX10_chance_166 : decode cX10_chance 166 = .ok (.iaload, 1) := by decide +kernel
theorem dX10_chance_167 : decode cX10_chance 167 = .ok (.ifCond .le 10, 3) := by decide +kernel
theorem dX10_chance_170 : decode cX10_chance 170 = .ok (.lload 4, 2) := by decide +kernel
theorem dX10_chance_172 : decode cX10_chance 172 = .ok (.lload 9, 2) := by decide +kernel
theorem dX10_chance_174 : decode cX10_chance 174 = .ok (.ladd, 1) := by decide +kernel
theorem dX10_chance_175 : decode cX10_chance 175 = .ok (.lstore 4, 2) := by decide +kernel
theorem dX10_chance_177 : decode cX10_chance 177 = .ok (.aload_n 0, 1) := by decide +kernel
theorem dX10_chance_178 : decode cX10_chance 178 = .ok (.getfield 132, 3) := by decide +kernel
theorem dX10_chance_181 : decode cX10_chance 181 = .ok (.iconst 0, 1) := by decide +kernel
theorem dX10_chance_182 : decode cX10_chance 182 = .ok (.aload_n 0, 1) := by decide +kernel
theorem dX10_chance_183 : decode cX10_chance 183 = .ok (.getfield 126, 3) := by decide +kernel
theorem dX10_chance_186 : decode cX10_chance 186 = .ok (.iconst 0, 1) := by decide +kernel
theorem dX10_chance_187 : decode cX10_chance 187 = .ok (.invokestatic 434, 3) := by decide +kernel
theorem dX10_chance_190 : decode cX10_chance 190 = .ok (.iinc 8 1, 3) := by decide +kernel
theorem dX10_chance_193 : decode cX10_chance 193 = .ok (.goto (-113), 3) := by decide +kernel
theorem dX10_chance_196 : decode cX10_chance 196 = .ok (.lload 4, 2) := by decide +kernel
theorem dX10_chance_198 : decode cX10_chance 198 = .ok (.ldc2_w 517, 3) := by decide +kernel
theorem dX10_chance_201 : decode cX10_chance 201 = .ok (.lmul, 1) := by decide +kernel
theorem dX10_chance_202 : decode cX10_chance 202 = .ok (.lload 6, 2) := by decide +kernel
theorem dX10_chance_204 : decode cX10_chance 204 = .ok (.ldiv, 1) := by decide +kernel
theorem dX10_chance_205 : decode cX10_chance 205 = .ok (.l2i, 1) := by decide +kernel
theorem dX10_chance_206 : decode cX10_chance 206 = .ok (.ireturn, 1) := by decide +kernel
theorem dX10_getsBy_0 : decode cX10_getsBy 0 = .ok (.iload_n 3, 1) := by decide +kernel
theorem dX10_getsBy_1 : decode cX10_getsBy 1 = .ok (.iconst 1, 1) := by decide +kernel
theorem dX10_getsBy_2 : decode cX10_getsBy 2 = .ok (.if_icmp .ne 18, 3) := by decide +kernel
theorem dX10_getsBy_5 : decode cX10_getsBy 5 = .ok (.iload 4, 2) := by decide +kernel
theorem dX10_getsBy_7 : decode cX10_getsBy 7 = .ok (.iconst 1, 1) := by decide +kernel
theorem dX10_getsBy_8 : decode cX10_getsBy 8 = .ok (.if_icmp .ne 7, 3) := by decide +kernel
theorem dX10_getsBy_11 : decode cX10_getsBy 11 = .ok (.iload_n 0, 1) := by decide +kernel
theorem dX10_getsBy_12 : decode cX10_getsBy 12 = .ok (.goto 19, 3) := by decide +kernel
theorem dX10_getsBy_15 : decode cX10_getsBy 15 = .ok (.iload_n 1, 1) := by decide +kernel
theorem dX10_getsBy_16 : decode cX10_getsBy 16 = .ok (.ineg, 1) := by decide +kernel
theorem dX10_getsBy_17 : decode cX10_getsBy 17 = .ok (.goto 14, 3) := by decide +kernel
theorem dX10_getsBy_20 : decode cX10_getsBy 20 = .ok (.iload 4, 2) := by decide +kernel
theorem dX10_getsBy_22 : decode cX10_getsBy 22 = .ok (.iconst 1, 1) := by decide +kernel
theorem dX10_getsBy_23 : decode cX10_getsBy 23 = .ok (.if_icmp .ne 7, 3) := by decide +kernel
theorem dX10_getsBy_26 : decode cX10_getsBy 26 = .ok (.iload_n 2, 1) := by decide +kernel
theorem dX10_getsBy_27 : decode cX10_getsBy 27 = .ok (.goto 4, 3) := by decide +kernel
theorem dX10_getsBy_30 : decode cX10_getsBy 30 = .ok (.iconst 0, 1) := by decide +kernel
theorem dX10_getsBy_31 : decode cX10_getsBy 31 = .ok (.ireturn, 1) := by decide +kernel
theorem dX10_rests_0 : decode cX10_rests 0 = .ok (.aload_n 0, 1) := by decide +kernel
theorem dX10_rests_1 : decode cX10_rests 1 = .ok (.iload_n 1, 1) := by decide +kernel
theorem dX10_rests_2 : decode cX10_rests 2 = .ok (.iconst 0, 1) := by decide +kernel
theorem dX10_rests_3 : decode cX10_rests 3 = .ok (.bipush 9, 2) := by decide +kernel
theorem dX10_rests_5 : decode cX10_rests 5 = .ok (.invokestatic 293, 3) := by decide +kernel
theorem dX10_rests_8 : decode cX10_rests 8 = .ok (.ifCond .eq 33, 3) := by decide +kernel
theorem dX10_rests_11 : decode cX10_rests 11 = .ok (.iload_n 2, 1) := by decide +kernel
theorem dX10_rests_12 : decode cX10_rests 12 = .ok (.iconst 0, 1) := by decide +kernel
theorem dX10_rests_13 : decode cX10_rests 13 = .ok (.bipush 9, 2) := by decide +kernel
theorem dX10_rests_15 : decode cX10_rests 15 = .ok (.invokestatic 293, 3) := by decide +kernel
theorem dX10_rests_18 : decode cX10_rests 18 = .ok (.ifCond .eq 23, 3) := by decide +kernel
theorem dX10_rests_21 : decode cX10_rests 21 = .ok (.iload_n 3, 1) := by decide +kernel
theorem dX10_rests_22 : decode cX10_rests 22 = .ok (.iconst 0, 1) := by decide +kernel
theorem dX10_rests_23 : decode cX10_rests 23 = .ok (.bipush 9, 2) := by decide +kernel
theorem dX10_rests_25 : decode cX10_rests 25 = .ok (.invokestatic 293, 3) := by decide +kernel
theorem dX10_rests_28 : decode cX10_rests 28 = .ok (.ifCond .eq 13, 3) := by decide +kernel
theorem dX10_rests_31 : decode cX10_rests 31 = .ok (.iload 4, 2) := by decide +kernel
theorem dX10_rests_33 : decode cX10_rests 33 = .ok (.iconst (-1), 1) := by decide +kernel
theorem dX10_rests_34 : decode cX10_rests 34 = .ok (.if_icmp .lt 7, 3) := by decide +kernel
theorem dX10_rests_37 : decode cX10_rests 37 = .ok (.iconst 0, 1) := by decide +kernel
theorem dX10_rests_38 : decode cX10_rests 38 = .ok (.goto 4, 3) := by decide +kernel
theorem dX10_rests_41 : decode cX10_rests 41 = .ok (.iconst 1, 1) := by decide +kernel
theorem dX10_rests_42 : decode cX10_rests 42 = .ok (.putfield 162, 3) := by decide +kernel
theorem dX10_rests_45 : decode cX10_rests 45 = .ok (.aload_n 0, 1) := by decide +kernel
theorem dX10_rests_46 : decode cX10_rests 46 = .ok (.getfield 162, 3) := by decide +kernel
theorem dX10_rests_49 : decode cX10_rests 49 = .ok (.iconst 1, 1) := by decide +kernel
theorem dX10_rests_50 : decode cX10_rests 50 = .ok (.if_icmp .ne 5, 3) := by decide +kernel
theorem dX10_rests_53 : decode cX10_rests 53 = .ok (.iconst 0, 1) := by decide +kernel
theorem dX10_rests_54 : decode cX10_rests 54 = .ok (.ireturn, 1) := by decide +kernel
theorem dX10_rests_55 : decode cX10_rests 55 = .ok (.iconst 0, 1) := by decide +kernel
theorem dX10_rests_56 : decode cX10_rests 56 = .ok (.istore 5, 2) := by decide +kernel
theorem dX10_rests_58 : decode cX10_rests 58 = .ok (.iconst 0, 1) := by decide +kernel
theorem dX10_rests_59 : decode cX10_rests 59 = .ok (.istore 6, 2) := by decide +kernel
theorem dX10_rests_61 : decode cX10_rests 61 = .ok (.iload 6, 2) := by decide +kernel
theorem dX10_rests_63 : decode cX10_rests 63 = .ok (.iconst 4, 1) := by decide +kernel
theorem dX10_rests_64 : decode cX10_rests 64 = .ok (.if_icmp .ge 87, 3) := by decide +kernel
theorem dX10_rests_67 : decode cX10_rests 67 = .ok (.iload 6, 2) := by decide +kernel
theorem dX10_rests_69 : decode cX10_rests 69 = .ok (.iconst 2, 1) := by decide +kernel
theorem dX10_rests_70 : decode cX10_rests 70 = .ok (.idiv, 1) := by decide +kernel
theorem dX10_rests_71 : decode cX10_rests 71 = .ok (.istore 7, 2) := by decide +kernel
theorem dX10_rests_73 : decode cX10_rests 73 = .ok (.iload 6, 2) := by decide +kernel
theorem dX10_rests_75 : decode cX10_rests 75 = .ok (.iconst 2, 1) := by decide +kernel
theorem dX10_rests_76 : decode cX10_rests 76 = .ok (.irem, 1) := by decide +kernel
theorem dX10_rests_77 : decode cX10_rests 77 = .ok (.istore 8, 2) := by decide +kernel
theorem dX10_rests_79 : decode cX10_rests 79 = .ok (.iload_n 1, 1) := by decide +kernel
theorem dX10_rests_80 : decode cX10_rests 80 = .ok (.iload_n 2, 1) := by decide +kernel
theorem dX10_rests_81 : decode cX10_rests 81 = .ok (.iload_n 3, 1) := by decide +kernel
theorem dX10_rests_82 : decode cX10_rests 82 = .ok (.iconst 1, 1) := by decide +kernel
theorem dX10_rests_83 : decode cX10_rests 83 = .ok (.iload 7, 2) := by decide +kernel
theorem dX10_rests_85 : decode cX10_rests 85 = .ok (.isub, 1) := by decide +kernel
theorem dX10_rests_86 : decode cX10_rests 86 = .ok (.iload 8, 2) := by decide +kernel
theorem dX10_rests_88 : decode cX10_rests 88 = .ok (.invokestatic 519, 3) := by decide +kernel
theorem dX10_rests_91 : decode cX10_rests 91 = .ok (.iload_n 1, 1) := by decide +kernel
theorem dX10_rests_92 : decode cX10_rests 92 = .ok (.iload_n 2, 1) := by decide +kernel
theorem dX10_rests_93 : decode cX10_rests 93 = .ok (.iload_n 3, 1) := by decide +kernel
theorem dX10_rests_94 : decode cX10_rests 94 = .ok (.iload 7, 2) := by decide +kernel
theorem dX10_rests_96 : decode cX10_rests 96 = .ok (.iload 8, 2) := by decide +kernel
theorem dX10_rests_98 : decode cX10_rests 98 = .ok (.invokestatic 519, 3) := by decide +kernel
theorem dX10_rests_101 : decode cX10_rests 101 = .ok (.if_icmp .gt 44, 3) := by decide +kernel
theorem dX10_rests_104 : decode cX10_rests 104 = .ok (.iload_n 1, 1) := by decide +kernel
theorem dX10_rests_105 : decode cX10_rests 105 = .ok (.iload_n 2, 1) := by decide +kernel
theorem dX10_rests_106 : decode cX10_rests 106 = .ok (.iload_n 3, 1) := by decide +kernel
theorem dX10_rests_107 : decode cX10_rests 107 = .ok (.iconst 1, 1) := by decide +kernel
theorem dX10_rests_108 : decode cX10_rests 108 = .ok (.iload 8, 2) := by decide +kernel
theorem dX10_rests_110 : decode cX10_rests 110 = .ok (.isub, 1) := by decide +kernel
theorem dX10_rests_111 : decode cX10_rests 111 = .ok (.iload 7, 2) := by decide +kernel
theorem dX10_rests_113 : decode cX10_rests 113 = .ok (.invokestatic 519, 3) := by decide +kernel
theorem dX10_rests_116 : decode cX10_rests 116 = .ok (.iload_n 1, 1) := by decide +kernel
theorem dX10_rests_117 : decode cX10_rests 117 = .ok (.iload_n 2, 1) := by decide +kernel
theorem dX10_rests_118 : decode cX10_rests 118 = .ok (.iload_n 3, 1) := by decide +kernel
theorem dX10_rests_119 : decode cX10_rests 119 = .ok (.iload 8, 2) := by decide +kernel
theorem dX10_rests_121 : decode cX10_rests 121 = .ok (.iload 7, 2) := by decide +kernel
theorem dX10_rests_123 : decode cX10_rests 123 = .ok (.invokestatic 519, 3) := by decide +kernel
theorem dX10_rests_126 : decode cX10_rests 126 = .ok (.if_icmp .le 6, 3) := by decide +kernel
theorem dX10_rests_129 : decode cX10_rests 129 = .ok (.goto 16, 3) := by decide +kernel
theorem dX10_rests_132 : decode cX10_rests 132 = .ok (.iload 5, 2) := by decide +kernel
theorem dX10_rests_134 : decode cX10_rests 134 = .ok (.iload 4, 2) := by decide +kernel
theorem dX10_rests_136 : decode cX10_rests 136 = .ok (.if_icmp .ne 6, 3) := by decide +kernel
theorem dX10_rests_139 : decode cX10_rests 139 = .ok (.iload 6, 2) := by decide +kernel
theorem dX10_rests_141 : decode cX10_rests 141 = .ok (.ireturn, 1) := by decide +kernel
theorem dX10_rests_142 : decode cX10_rests 142 = .ok (.iinc 5 1, 3) := by decide +kernel
theorem dX10_rests_145 : decode cX10_rests 145 = .ok (.iinc 6 1, 3) := by decide +kernel
theorem dX10_rests_148 : decode cX10_rests 148 = .ok (.goto (-87), 3) := by decide +kernel
theorem dX10_rests_151 : decode cX10_rests 151 = .ok (.aload_n 0, 1) := by decide +kernel
theorem dX10_rests_152 : decode cX10_rests 152 = .ok (.iload 4, 2) := by decide +kernel
theorem dX10_rests_154 : decode cX10_rests 154 = .ok (.iconst (-1), 1) := by decide +kernel
theorem dX10_rests_155 : decode cX10_rests 155 = .ok (.if_icmp .ne 7, 3) := by decide +kernel
theorem dX10_rests_158 : decode cX10_rests 158 = .ok (.iconst 0, 1) := by decide +kernel
theorem dX10_rests_159 : decode cX10_rests 159 = .ok (.goto 4, 3) := by decide +kernel
theorem dX10_rests_162 : decode cX10_rests 162 = .ok (.iconst 1, 1) := by decide +kernel
theorem dX10_rests_163 : decode cX10_rests 163 = .ok (.putfield 162, 3) := by decide +kernel
theorem dX10_rests_166 : decode cX10_rests 166 = .ok (.iload 4, 2) := by decide +kernel
theorem dX10_rests_168 : decode cX10_rests 168 = .ok (.iconst (-1), 1) := by decide +kernel
theorem dX10_rests_169 : decode cX10_rests 169 = .ok (.if_icmp .ne 8, 3) := by decide +kernel
theorem dX10_rests_172 : decode cX10_rests 172 = .ok (.iload 5, 2) := by decide +kernel
theorem dX10_rests_174 : decode cX10_rests 174 = .ok (.goto 4, 3) := by decide +kernel
theorem dX10_rests_177 : decode cX10_rests 177 = .ok (.iconst 0, 1) := by decide +kernel
theorem dX10_rests_178 : decode cX10_rests 178 = .ok (.ireturn, 1) := by decide +kernel
theorem dX10_draws_0 : decode cX10_draws 0 = .ok (.aload_n 0, 1) := by decide +kernel
theorem dX10_draws_1 : decode cX10_draws 1 = .ok (.aload_n 0, 1) := by decide +kernel
theorem dX10_draws_2 : decode cX10_draws 2 = .ok (.getfield 523, 3) := by decide +kernel
theorem dX10_draws_5 : decode cX10_draws 5 = .ok (.ldc2_w 526, 3) := by decide +kernel
theorem dX10_draws_8 : decode cX10_draws 8 = .ok (.lmul, 1) := by decide +kernel
theorem dX10_draws_9 : decode cX10_draws 9 = .ok (.ldc2_w 528, 3) := by decide +kernel
theorem dX10_draws_12 : decode cX10_draws 12 = .ok (.ladd, 1) := by decide +kernel
theorem dX10_draws_13 : decode cX10_draws 13 = .ok (.ldc2_w 530, 3) := by decide +kernel
theorem dX10_draws_16 : decode cX10_draws 16 = .ok (.lrem, 1) := by decide +kernel
theorem dX10_draws_17 : decode cX10_draws 17 = .ok (.putfield 523, 3) := by decide +kernel
theorem dX10_draws_20 : decode cX10_draws 20 = .ok (.aload_n 0, 1) := by decide +kernel
theorem dX10_draws_21 : decode cX10_draws 21 = .ok (.getfield 523, 3) := by decide +kernel
theorem dX10_draws_24 : decode cX10_draws 24 = .ok (.ldc2_w 532, 3) := by decide +kernel
theorem dX10_draws_27 : decode cX10_draws 27 = .ok (.ldiv, 1) := by decide +kernel
theorem dX10_draws_28 : decode cX10_draws 28 = .ok (.iload_n 1, 1) := by decide +kernel
theorem dX10_draws_29 : decode cX10_draws 29 = .ok (.i2l, 1) := by decide +kernel
theorem dX10_draws_30 : decode cX10_draws 30 = .ok (.lrem, 1) := by decide +kernel
theorem dX10_draws_31 : decode cX10_draws 31 = .ok (.l2i, 1) := by decide +kernel
theorem dX10_draws_32 : decode cX10_draws 32 = .ok (.ireturn, 1) := by decide +kernel
theorem dX10_livesDay_0 : decode cX10_livesDay 0 = .ok (.aload_n 0, 1) := by decide +kernel
theorem dX10_livesDay_1 : decode cX10_livesDay 1 = .ok (.getfield 13, 3) := by decide +kernel
theorem dX10_livesDay_4 : decode cX10_livesDay 4 = .ok (.iconst 3, 1) := by decide +kernel
theorem dX10_livesDay_5 : decode cX10_livesDay 5 = .ok (.iaload, 1) := by decide +kernel
theorem dX10_livesDay_6 : decode cX10_livesDay 6 = .ok (.ifCond .le 132, 3) := by decide +kernel
theorem dX10_livesDay_9 : decode cX10_livesDay 9 = .ok (.aload_n 0, 1) := by decide +kernel
theorem dX10_livesDay_10 : decode cX10_livesDay 10 = .ok (.aload_n 0, 1) := by decide +kernel
theorem dX10_livesDay_11 : decode cX10_livesDay 11 = .ok (.getfield 13, 3) := by decide +kernel
theorem dX10_livesDay_14 : decode cX10_livesDay 14 = .ok (.iconst 3, 1) := by decide +kernel
theorem dX10_livesDay_15 : decode cX10_livesDay 15 = .ok (.iaload, 1) := by decide +kernel
theorem dX10_livesDay_16 : decode cX10_livesDay 16 = .ok (.invokevirtual 534, 3) := by decide +kernel
theorem dX10_livesDay_19 : decode cX10_livesDay 19 = .ok (.istore_n 1, 1) := by decide +kernel
theorem dX10_livesDay_20 : decode cX10_livesDay 20 = .ok (.aload_n 0, 1) := by decide +kernel
theorem dX10_livesDay_21 : decode cX10_livesDay 21 = .ok (.aload_n 0, 1) := by decide +kernel
theorem dX10_livesDay_22 : decode cX10_livesDay 22 = .ok (.getfield 13, 3) := by decide +kernel
theorem dX10_livesDay_25 : decode cX10_livesDay 25 = .ok (.iconst 0, 1) := by decide +kernel
theorem dX10_livesDay_26 : decode cX10_livesDay 26 = .ok (.iaload, 1) := by decide +kernel
theorem dX10_livesDay_27 : decode cX10_livesDay 27 = .ok (.invokevirtual 534, 3) := by decide +kernel
theorem dX10_livesDay_30 : decode cX10_livesDay 30 = .ok (.istore_n 2, 1) := by decide +kernel
theorem dX10_livesDay_31 : decode cX10_livesDay 31 = .ok (.aload_n 0, 1) := by decide +kernel
theorem dX10_livesDay_32 : decode cX10_livesDay 32 = .ok (.iconst 5, 1) := by decide +kernel
theorem dX10_livesDay_33 : decode cX10_livesDay 33 = .ok (.invokevirtual 534, 3) := by decide +kernel
theorem dX10_livesDay_36 : decode cX10_livesDay 36 = .ok (.istore_n 3, 1) := by decide +kernel
theorem dX10_livesDay_37 : decode cX10_livesDay 37 = .ok (.iload_n 3, 1) := by decide +kernel
theorem dX10_livesDay_38 : decode cX10_livesDay 38 = .ok (.iconst 3, 1) := by decide +kernel
theorem dX10_livesDay_39 : decode cX10_livesDay 39 = .ok (.if_icmp .ge 22, 3) := by decide +kernel
theorem dX10_livesDay_42 : decode cX10_livesDay 42 = .ok (.aload_n 0, 1) := by decide +kernel
theorem dX10_livesDay_43 : decode cX10_livesDay 43 = .ok (.iload_n 1, 1) := by decide +kernel
theorem dX10_livesDay_44 : decode cX10_livesDay 44 = .ok (.invokevirtual 450, 3) := by decide +kernel
theorem dX10_livesDay_47 : decode cX10_livesDay 47 = .ok (.iload_n 2, 1) := by decide +kernel
theorem dX10_livesDay_48 : decode cX10_livesDay 48 = .ok (.ishr, 1) := by decide +kernel
theorem dX10_livesDay_49 : decode cX10_livesDay 49 = .ok (.iconst 1, 1) := by decide +kernel
theorem dX10_livesDay_50 : decode cX10_livesDay 50 = .ok (.iand, 1) := by decide +kernel
theorem dX10_livesDay_51 : decode cX10_livesDay 51 = .ok (.iconst 1, 1) := by decide +kernel
theorem dX10_livesDay_52 : decode cX10_livesDay 52 = .ok (.if_icmp .ne 9, 3) := by decide +kernel
theorem dX10_livesDay_55 : decode cX10_livesDay 55 = .ok (.aload_n 0, 1) := by decide +kernel
theorem dX10_livesDay_56 : decode cX10_livesDay 56 = .ok (.iload_n 1, 1) := by decide +kernel
theorem dX10_livesDay_57 : decode cX10_livesDay 57 = .ok (.iload_n 2, 1) := by decide +kernel
theorem dX10_livesDay_58 : decode cX10_livesDay 58 = .ok (.invokevirtual 453, 3) := by decide +kernel
theorem dX10_livesDay_61 : decode cX10_livesDay 61 = .ok (.iload_n 3, 1) := by decide +kernel
theorem dX10_livesDay_62 : decode cX10_livesDay 62 = .ok (.iconst 2, 1) := by decide +kernel
theorem dX10_livesDay_63 : decode cX10_livesDay 63 = .ok (.if_icmp .le 75, 3) := by decide +kernel
theorem dX10_livesDay_66 : decode cX10_livesDay 66 = .ok (.aload_n 0, 1) := by decide +kernel
theorem dX10_livesDay_67 : decode cX10_livesDay 67 = .ok (.getfield 13, 3) := by decide +kernel
theorem dX10_livesDay_70 : decode cX10_livesDay 70 = .ok (.iconst 4, 1) := by decide +kernel
theorem dX10_livesDay_71 : decode cX10_livesDay 71 = .ok (.iaload, 1) := by decide +kernel
theorem dX10_livesDay_72 : decode cX10_livesDay 72 = .ok (.ifCond .le 66, 3) := by decide +kernel
theorem dX10_livesDay_75 : decode cX10_livesDay 75 = .ok (.aload_n 0, 1) := by decide +kernel
theorem dX10_livesDay_76 : decode cX10_livesDay 76 = .ok (.aload_n 0, 1) := by decide +kernel
theorem dX10_livesDay_77 : decode cX10_livesDay 77 = .ok (.getfield 13, 3) := by decide +kernel
theorem dX10_livesDay_80 : decode cX10_livesDay 80 = .ok (.iconst 4, 1) := by decide +kernel
theorem dX10_livesDay_81 : decode cX10_livesDay 81 = .ok (.iaload, 1) := by decide +kernel
theorem dX10_livesDay_82 : decode cX10_livesDay 82 = .ok (.invokevirtual 534, 3) := by decide +kernel
theorem dX10_livesDay_85 : decode cX10_livesDay 85 = .ok (.istore 4, 2) := by decide +kernel
theorem dX10_livesDay_87 : decode cX10_livesDay 87 = .ok (.iload_n 3, 1) := by decide +kernel
theorem dX10_livesDay_88 : decode cX10_livesDay 88 = .ok (.iconst 3, 1) := by decide +kernel
theorem dX10_livesDay_89 : decode cX10_livesDay 89 = .ok (.if_icmp .ne 24, 3) := by decide +kernel
theorem dX10_livesDay_92 : decode cX10_livesDay 92 = .ok (.aload_n 0, 1) := by decide +kernel
theorem dX10_livesDay_93 : decode cX10_livesDay 93 = .ok (.iload_n 1, 1) := by decide +kernel
theorem dX10_livesDay_94 : decode cX10_livesDay 94 = .ok (.iload 4, 2) := by decide +kernel
theorem dX10_livesDay_96 : decode cX10_livesDay 96 = .ok (.invokevirtual 444, 3) := by decide +kernel
theorem dX10_livesDay_99 : decode cX10_livesDay 99 = .ok (.ifCond .eq 14, 3) := by decide +kernel
theorem dX10_livesDay_102 : decode cX10_livesDay 102 = .ok (.aload_n 0, 1) := by decide +kernel
theorem dX10_livesDay_103 : decode cX10_livesDay 103 = .ok (.getfield 126, 3) := by decide +kernel
theorem dX10_livesDay_106 : decode cX10_livesDay 106 = .ok (.bipush 19, 2) := by decide +kernel
theorem dX10_livesDay_108 : decode cX10_livesDay 108 = .ok (.iload 4, 2) := by decide +kernel
theorem dX10_livesDay_110 : decode cX10_livesDay 110 = .ok (.iadd, 1) := by decide +kernel
theorem dX10_livesDay_111 : decode cX10_livesDay 111 = .ok (.iload_n 1, 1) := by decide +kernel
theorem dX10_livesDay_112 : decode cX10_livesDay 112 = .ok (.iastore, 1) := by decide +kernel
theorem dX10_livesDay_113 : decode cX10_livesDay 113 = .ok (.iload_n 3, 1) := by decide +kernel
theorem dX10_livesDay_114 : decode cX10_livesDay 114 = .ok (.iconst 4, 1) := by decide +kernel
theorem dX10_livesDay_115 : decode cX10_livesDay 115 = .ok (.if_icmp .ne 23, 3) := by decide +kernel
theorem dX10_livesDay_118 : decode cX10_livesDay 118 = .ok (.aload_n 0, 1) := by decide +kernel
theorem dX10_livesDay_119 : decode cX10_livesDay 119 = .ok (.iload 4, 2) := by decide +kernel
theorem dX10_livesDay_121 : decode cX10_livesDay 121 = .ok (.invokevirtual 456, 3) := by decide +kernel
theorem dX10_livesDay_124 : decode cX10_livesDay 124 = .ok (.ifCond .eq 14, 3) := by decide +kernel
theorem dX10_livesDay_127 : decode cX10_livesDay 127 = .ok (.aload_n 0, 1) := by decide +kernel
theorem dX10_livesDay_128 : decode cX10_livesDay 128 = .ok (.getfield 126, 3) := by decide +kernel
theorem dX10_livesDay_131 : decode cX10_livesDay 131 = .ok (.bipush 19, 2) := by decide +kernel
theorem dX10_livesDay_133 : decode cX10_livesDay 133 = .ok (.iload 4, 2) := by decide +kernel
theorem dX10_livesDay_135 : decode cX10_livesDay 135 = .ok (.iadd, 1) := by decide +kernel
theorem dX10_livesDay_136 : decode cX10_livesDay 136 = .ok (.iconst 3, 1) := by decide +kernel
theorem dX10_livesDay_137 : decode cX10_livesDay 137 = .ok (.iastore, 1) := by decide +kernel
theorem dX10_livesDay_138 : decode cX10_livesDay 138 = .ok (.aload_n 0, 1) := by decide +kernel
theorem dX10_livesDay_139 : decode cX10_livesDay 139 = .ok (.invokevirtual 459, 3) := by decide +kernel
theorem dX10_livesDay_142 : decode cX10_livesDay 142 = .ok (.return_, 1) := by decide +kernel
theorem dX10_sessions_0 : decode cX10_sessions 0 = .ok (.aload_n 0, 1) := by decide +kernel
theorem dX10_sessions_1 : decode cX10_sessions 1 = .ok (.iconst 0, 1) := by decide +kernel
theorem dX10_sessions_2 : decode cX10_sessions 2 = .ok (.putfield 162, 3) := by decide +kernel
theorem dX10_sessions_5 : decode cX10_sessions 5 = .ok (.iload_n 1, 1) := by decide +kernel
theorem dX10_sessions_6 : decode cX10_sessions 6 = .ok (.iconst 0, 1) := by decide +kernel
theorem dX10_sessions_7 : decode cX10_sessions 7 = .ok (.sipush 9999, 3) := by decide +kernel
theorem dX10_sessions_10 : decode cX10_sessions 10 = .ok (.invokestatic 293, 3) := by decide +kernel
theorem dX10_sessions_13 : decode cX10_sessions 13 = .ok (.ifCond .eq 22, 3) := by decide +kernel
theorem dX10_sessions_16 : decode cX10_sessions 16 = .ok (.iload_n 2, 1) := by decide +kernel
theorem dX10_sessions_17 : decode cX10_sessions 17 = .ok (.iconst 1, 1) := by decide +kernel
theorem dX10_sessions_18 : decode cX10_sessions 18 = .ok (.bipush 99, 2) := by decide +kernel
theorem dX10_sessions_20 : decode cX10_sessions 20 = .ok (.invokestatic 293, 3) := by decide +kernel
theorem dX10_sessions_23 : decode cX10_sessions 23 = .ok (.ifCond .eq 12, 3) := by decide +kernel
theorem dX10_sessions_26 : decode cX10_sessions 26 = .ok (.iload_n 3, 1) := by decide +kernel
theorem dX10_sessions_27 : decode cX10_sessions 27 = .ok (.iconst 0, 1) := by decide +kernel
theorem dX10_sessions_28 : decode cX10_sessions 28 = .ok (.iconst 2, 1) := by decide +kernel
theorem dX10_sessions_29 : decode cX10_sessions 29 = .ok (.invokestatic 293, 3) := by decide +kernel
theorem dX10_sessions_32 : decode cX10_sessions 32 = .ok (.ifCond .ne 5, 3) := by decide +kernel
theorem dX10_sessions_35 : decode cX10_sessions 35 = .ok (.iconst (-1), 1) := by decide +kernel
theorem dX10_sessions_36 : decode cX10_sessions 36 = .ok (.ireturn, 1) := by decide +kernel
theorem dX10_sessions_37 : decode cX10_sessions 37 = .ok (.aload_n 0, 1) := by decide +kernel
theorem dX10_sessions_38 : decode cX10_sessions 38 = .ok (.iload_n 1, 1) := by decide +kernel
theorem dX10_sessions_39 : decode cX10_sessions 39 = .ok (.i2l, 1) := by decide +kernel
theorem dX10_sessions_40 : decode cX10_sessions 40 = .ok (.putfield 523, 3) := by decide +kernel
theorem dX10_sessions_43 : decode cX10_sessions 43 = .ok (.aload_n 0, 1) := by decide +kernel
theorem dX10_sessions_44 : decode cX10_sessions 44 = .ok (.getfield 126, 3) := by decide +kernel
theorem dX10_sessions_47 : decode cX10_sessions 47 = .ok (.iconst 0, 1) := by decide +kernel
theorem dX10_sessions_48 : decode cX10_sessions 48 = .ok (.aload_n 0, 1) := by decide +kernel
theorem dX10_sessions_49 : decode cX10_sessions 49 = .ok (.getfield 129, 3) := by decide +kernel
theorem dX10_sessions_52 : decode cX10_sessions 52 = .ok (.iconst 0, 1) := by decide +kernel
theorem dX10_sessions_53 : decode cX10_sessions 53 = .ok (.invokestatic 434, 3) := by decide +kernel
theorem dX10_sessions_56 : decode cX10_sessions 56 = .ok (.aload_n 0, 1) := by decide +kernel
theorem dX10_sessions_57 : decode cX10_sessions 57 = .ok (.iconst 3, 1) := by decide +kernel
theorem dX10_sessions_58 : decode cX10_sessions 58 = .ok (.invokevirtual 428, 3) := by decide +kernel
theorem dX10_sessions_61 : decode cX10_sessions 61 = .ok (.invokestatic 393, 3) := by decide +kernel
theorem dX10_sessions_64 : decode cX10_sessions 64 = .ok (.istore 4, 2) := by decide +kernel
theorem dX10_sessions_66 : decode cX10_sessions 66 = .ok (.iconst 0, 1) := by decide +kernel
theorem dX10_sessions_67 : decode cX10_sessions 67 = .ok (.istore 5, 2) := by decide +kernel
theorem dX10_sessions_69 : decode cX10_sessions 69 = .ok (.iload 5, 2) := by decide +kernel
theorem dX10_sessions_71 : decode cX10_sessions 71 = .ok (.iload_n 2, 1) := by decide +kernel
theorem dX10_sessions_72 : decode cX10_sessions 72 = .ok (.if_icmp .ge 13, 3) := by decide +kernel
theorem dX10_sessions_75 : decode cX10_sessions 75 = .ok (.aload_n 0, 1) := by decide +kernel
theorem dX10_sessions_76 : decode cX10_sessions 76 = .ok (.invokevirtual 537, 3) := by decide +kernel
theorem dX10_sessions_79 : decode cX10_sessions 79 = .ok (.iinc 5 1, 3) := by decide +kernel
theorem dX10_sessions_82 : decode cX10_sessions 82 = .ok (.goto (-13), 3) := by decide +kernel
theorem dX10_sessions_85 : decode cX10_sessions 85 = .ok (.aload_n 0, 1) := by decide +kernel
theorem dX10_sessions_86 : decode cX10_sessions 86 = .ok (.iconst 3, 1) := by decide +kernel
theorem dX10_sessions_87 : decode cX10_sessions 87 = .ok (.invokevirtual 428, 3) := by decide +kernel
theorem dX10_sessions_90 : decode cX10_sessions 90 = .ok (.invokestatic 393, 3) := by decide +kernel
theorem dX10_sessions_93 : decode cX10_sessions 93 = .ok (.iload 4, 2) := by decide +kernel
theorem dX10_sessions_95 : decode cX10_sessions 95 = .ok (.isub, 1) := by decide +kernel
theorem dX10_sessions_96 : decode cX10_sessions 96 = .ok (.istore 5, 2) := by decide +kernel
theorem dX10_sessions_98 : decode cX10_sessions 98 = .ok (.iconst 0, 1) := by decide +kernel
theorem dX10_sessions_99 : decode cX10_sessions 99 = .ok (.istore 6, 2) := by decide +kernel
theorem dX10_sessions_101 : decode cX10_sessions 101 = .ok (.iconst 0, 1) := by decide +kernel
theorem dX10_sessions_102 : decode cX10_sessions 102 = .ok (.istore 7, 2) := by decide +kernel
theorem dX10_sessions_104 : decode cX10_sessions 104 = .ok (.iload 7, 2) := by decide +kernel
theorem dX10_sessions_106 : decode cX10_sessions 106 = .ok (.aload_n 0, 1) := by decide +kernel
theorem dX10_sessions_107 : decode cX10_sessions 107 = .ok (.getfield 13, 3) := by decide +kernel
theorem dX10_sessions_110 : decode cX10_sessions 110 = .ok (.iconst 0, 1) := by decide +kernel
theorem dX10_sessions_111 : decode cX10_sessions 111 = .ok (.iaload, 1) := by decide +kernel
theorem dX10_sessions_112 : decode cX10_sessions 112 = .ok (.if_icmp .ge 23, 3) := by decide +kernel
theorem dX10_sessions_115 : decode cX10_sessions 115 = .ok (.iload 6, 2) := by decide +kernel
theorem dX10_sessions_117 : decode cX10_sessions 117 = .ok (.aload_n 0, 1) := by decide +kernel
theorem dX10_sessions_118 : decode cX10_sessions 118 = .ok (.getfield 126, 3) := by decide +kernel
theorem dX10_sessions_121 : decode cX10_sessions 121 = .ok (.iconst 1, 1) := by decide +kernel
theorem dX10_sessions_122 : decode cX10_sessions 122 = .ok (.iload 7, 2) := by decide +kernel
theorem dX10_sessions_124 : decode cX10_sessions 124 = .ok (.iadd, 1) := by decide +kernel
theorem dX10_sessions_125 : decode cX10_sessions 125 = .ok (.iaload, 1) := by decide +kernel
theorem dX10_sessions_126 : decode cX10_sessions 126 = .ok (.iadd, 1) := by decide +kernel
theorem dX10_sessions_127 : decode cX10_sessions 127 = .ok (.istore 6, 2) := by decide +kernel
theorem dX10_sessions_129 : decode cX10_sessions 129 = .ok (.iinc 7 1, 3) := by decide +kernel
theorem dX10_sessions_132 : decode cX10_sessions 132 = .ok (.goto (-28), 3) := by decide +kernel
theorem dX10_sessions_135 : decode cX10_sessions 135 = .ok (.aload_n 0, 1) := by decide +kernel
theorem dX10_sessions_136 : decode cX10_sessions 136 = .ok (.iconst 0, 1) := by decide +kernel
theorem dX10_sessions_137 : decode cX10_sessions 137 = .ok (.invokevirtual 419, 3) := by decide +kernel
theorem dX10_sessions_140 : decode cX10_sessions 140 = .ok (.istore 7, 2) := by decide +kernel
theorem dX10_sessions_142 : decode cX10_sessions 142 = .ok (.aload_n 0, 1) := by decide +kernel
theorem dX10_sessions_143 : decode cX10_sessions 143 = .ok (.getfield 129, 3) := by decide +kernel
theorem dX10_sessions_146 : decode cX10_sessions 146 = .ok (.iconst 0, 1) := by decide +kernel
theorem dX10_sessions_147 : decode cX10_sessions 147 = .ok (.aload_n 0, 1) := by decide +kernel
theorem dX10_sessions_148 : decode cX10_sessions 148 = .ok (.getfield 126, 3) := by decide +kernel
theorem dX10_sessions_151 : decode cX10_sessions 151 = .ok (.iconst 0, 1) := by decide +kernel
theorem dX10_sessions_152 : decode cX10_sessions 152 = .ok (.invokestatic 434, 3) := by decide +kernel
theorem dX10_sessions_155 : decode cX10_sessions 155 = .ok (.iload_n 3, 1) := by decide +kernel
theorem dX10_sessions_156 : decode cX10_sessions 156 = .ok (.ifCond .ne 8, 3) := by decide +kernel
theorem dX10_sessions_159 : decode cX10_sessions 159 = .ok (.iload 5, 2) := by decide +kernel
theorem dX10_sessions_161 : decode cX10_sessions 161 = .ok (.goto 15, 3) := by decide +kernel
theorem dX10_sessions_164 : decode cX10_sessions 164 = .ok (.iload_n 3, 1) := by decide +kernel
theorem dX10_sessions_165 : decode cX10_sessions 165 = .ok (.iconst 1, 1) := by decide +kernel
theorem dX10_sessions_166 : decode cX10_sessions 166 = .ok (.if_icmp .ne 8, 3) := by decide +kernel
theorem dX10_sessions_169 : decode cX10_sessions 169 = .ok (.iload 6, 2) := by decide +kernel
theorem dX10_sessions_171 : decode cX10_sessions 171 = .ok (.goto 5, 3) := by decide +kernel
theorem dX10_sessions_174 : decode cX10_sessions 174 = .ok (.iload 7, 2) := by decide +kernel
theorem dX10_sessions_176 : decode cX10_sessions 176 = .ok (.ireturn, 1) := by decide +kernel
theorem dX10_mark_0 : decode cX10_mark 0 = .ok (.aload_n 0, 1) := by decide +kernel
theorem dX10_mark_1 : decode cX10_mark 1 = .ok (.iconst 0, 1) := by decide +kernel
theorem dX10_mark_2 : decode cX10_mark 2 = .ok (.putfield 162, 3) := by decide +kernel
theorem dX10_mark_5 : decode cX10_mark 5 = .ok (.iload_n 1, 1) := by decide +kernel
theorem dX10_mark_6 : decode cX10_mark 6 = .ok (.iconst 0, 1) := by decide +kernel
theorem dX10_mark_7 : decode cX10_mark 7 = .ok (.iconst 3, 1) := by decide +kernel
theorem dX10_mark_8 : decode cX10_mark 8 = .ok (.invokestatic 293, 3) := by decide +kernel
theorem dX10_mark_11 : decode cX10_mark 11 = .ok (.ifCond .eq 16, 3) := by decide +kernel
theorem dX10_mark_14 : decode cX10_mark 14 = .ok (.iload_n 2, 1) := by decide +kernel
theorem dX10_mark_15 : decode cX10_mark 15 = .ok (.ifCond .eq 14, 3) := by decide +kernel
theorem dX10_mark_18 : decode cX10_mark 18 = .ok (.aload_n 0, 1) := by decide +kernel
theorem dX10_mark_19 : decode cX10_mark 19 = .ok (.getfield 141, 3) := by decide +kernel
theorem dX10_mark_22 : decode cX10_mark 22 = .ok (.iload_n 1, 1) := by decide +kernel
theorem dX10_mark_23 : decode cX10_mark 23 = .ok (.baload, 1) := by decide +kernel
theorem dX10_mark_24 : decode cX10_mark 24 = .ok (.ifCond .ne 5, 3) := by decide +kernel
theorem dX10_mark_27 : decode cX10_mark 27 = .ok (.iconst 0, 1) := by decide +kernel
theorem dX10_mark_28 : decode cX10_mark 28 = .ok (.ireturn, 1) := by decide +kernel
theorem dX10_mark_29 : decode cX10_mark 29 = .ok (.aload_n 0, 1) := by decide +kernel
theorem dX10_mark_30 : decode cX10_mark 30 = .ok (.getfield 141, 3) := by decide +kernel
theorem dX10_mark_33 : decode cX10_mark 33 = .ok (.iload_n 1, 1) := by decide +kernel
theorem dX10_mark_34 : decode cX10_mark 34 = .ok (.iconst 1, 1) := by decide +kernel
theorem dX10_mark_35 : decode cX10_mark 35 = .ok (.bastore, 1) := by decide +kernel
theorem dX10_mark_36 : decode cX10_mark 36 = .ok (.iload_n 2, 1) := by decide +kernel
theorem dX10_mark_37 : decode cX10_mark 37 = .ok (.ifCond .eq 9, 3) := by decide +kernel
theorem dX10_mark_40 : decode cX10_mark 40 = .ok (.iconst 1, 1) := by decide +kernel
theorem dX10_mark_41 : decode cX10_mark 41 = .ok (.iload_n 1, 1) := by decide +kernel
theorem dX10_mark_42 : decode cX10_mark 42 = .ok (.iadd, 1) := by decide +kernel
theorem dX10_mark_43 : decode cX10_mark 43 = .ok (.goto 4, 3) := by decide +kernel
theorem dX10_mark_46 : decode cX10_mark 46 = .ok (.iconst 0, 1) := by decide +kernel
theorem dX10_mark_47 : decode cX10_mark 47 = .ok (.istore_n 3, 1) := by decide +kernel
theorem dX10_mark_48 : decode cX10_mark 48 = .ok (.iload_n 2, 1) := by decide +kernel
theorem dX10_mark_49 : decode cX10_mark 49 = .ok (.ifCond .eq 7, 3) := by decide +kernel
theorem dX10_mark_52 : decode cX10_mark 52 = .ok (.iconst 0, 1) := by decide +kernel
theorem dX10_mark_53 : decode cX10_mark 53 = .ok (.goto 6, 3) := by decide +kernel
theorem dX10_mark_56 : decode cX10_mark 56 = .ok (.iconst 1, 1) := by decide +kernel
theorem dX10_mark_57 : decode cX10_mark 57 = .ok (.iload_n 1, 1) := by decide +kernel
theorem dX10_mark_58 : decode cX10_mark 58 = .ok (.iadd, 1) := by decide +kernel
theorem dX10_mark_59 : decode cX10_mark 59 = .ok (.istore 4, 2) := by decide +kernel
theorem dX10_mark_61 : decode cX10_mark 61 = .ok (.aload_n 0, 1) := by decide +kernel
theorem dX10_mark_62 : decode cX10_mark 62 = .ok (.iload_n 3, 1) := by decide +kernel
theorem dX10_mark_63 : decode cX10_mark 63 = .ok (.iload 4, 2) := by decide +kernel
theorem dX10_mark_65 : decode cX10_mark 65 = .ok (.invokevirtual 389, 3) := by decide +kernel
theorem dX10_mark_68 : decode cX10_mark 68 = .ok (.aload_n 0, 1) := by decide +kernel
theorem dX10_mark_69 : decode cX10_mark 69 = .ok (.iload_n 3, 1) := by decide +kernel
theorem dX10_mark_70 : decode cX10_mark 70 = .ok (.iload 4, 2) := by decide +kernel
theorem dX10_mark_72 : decode cX10_mark 72 = .ok (.invokevirtual 540, 3) := by decide +kernel
theorem dX10_mark_75 : decode cX10_mark 75 = .ok (.iload_n 2, 1) := by decide +kernel
theorem dX10_mark_76 : decode cX10_mark 76 = .ok (.ifCond .eq 27, 3) := by decide +kernel
theorem dX10_mark_79 : decode cX10_mark 79 = .ok (.aload_n 0, 1) := by decide +kernel
theorem dX10_mark_80 : decode cX10_mark 80 = .ok (.getfield 135, 3) := by decide +kernel
theorem dX10_mark_83 : decode cX10_mark 83 = .ok (.bipush 25, 2) := by decide +kernel
theorem dX10_mark_85 : decode cX10_mark 85 = .ok (.iload_n 1, 1) := by decide +kernel
theorem dX10_mark_86 : decode cX10_mark 86 = .ok (.imul, 1) := by decide +kernel
theorem dX10_mark_87 : decode cX10_mark 87 = .ok (.aload_n 0, 1) := by decide +kernel
theorem dX10_mark_88 : decode cX10_mark 88 = .ok (.getfield 126, 3) := by decide +kernel
theorem dX10_mark_91 : decode cX10_mark 91 = .ok (.iconst 0, 1) := by decide +kernel
theorem dX10_mark_92 : decode cX10_mark 92 = .ok (.invokestatic 434, 3) := by decide +kernel
theorem dX10_mark_95 : decode cX10_mark 95 = .ok (.aload_n 0, 1) := by decide +kernel
theorem dX10_mark_96 : decode cX10_mark 96 = .ok (.iconst 0, 1) := by decide +kernel
theorem dX10_mark_97 : decode cX10_mark 97 = .ok (.putfield 383, 3) := by decide +kernel
theorem dX10_mark_100 : decode cX10_mark 100 = .ok (.goto 19, 3) := by decide +kernel
theorem dX10_mark_103 : decode cX10_mark 103 = .ok (.aload_n 0, 1) := by decide +kernel
theorem dX10_mark_104 : decode cX10_mark 104 = .ok (.getfield 126, 3) := by decide +kernel
theorem dX10_mark_107 : decode cX10_mark 107 = .ok (.iconst 0, 1) := by decide +kernel
theorem dX10_mark_108 : decode cX10_mark 108 = .ok (.aload_n 0, 1) := by decide +kernel
theorem dX10_mark_109 : decode cX10_mark 109 = .ok (.getfield 135, 3) := by decide +kernel
theorem dX10_mark_112 : decode cX10_mark 112 = .ok (.bipush 25, 2) := by decide +kernel
theorem dX10_mark_114 : decode cX10_mark 114 = .ok (.iload_n 1, 1) := by decide +kernel
theorem dX10_mark_115 : decode cX10_mark 115 = .ok (.imul, 1) := by decide +kernel
theorem dX10_mark_116 : decode cX10_mark 116 = .ok (.invokestatic 434, 3) := by decide +kernel
theorem dX10_mark_119 : decode cX10_mark 119 = .ok (.iconst 1, 1) := by decide +kernel
theorem dX10_mark_120 : decode cX10_mark 120 = .ok (.ireturn, 1) := by decide +kernel
theorem dX10_count_0 : decode cX10_count 0 = .ok (.aload_n 0, 1) := by decide +kernel
theorem dX10_count_1 : decode cX10_count 1 = .ok (.iconst 0, 1) := by decide +kernel
theorem dX10_count_2 : decode cX10_count 2 = .ok (.putfield 162, 3) := by decide +kernel
theorem dX10_count_5 : decode cX10_count 5 = .ok (.iload_n 1, 1) := by decide +kernel
theorem dX10_count_6 : decode cX10_count 6 = .ok (.iconst 0, 1) := by decide +kernel
theorem dX10_count_7 : decode cX10_count 7 = .ok (.bipush 12, 2) := by decide +kernel
theorem dX10_count_9 : decode cX10_count 9 = .ok (.invokestatic 293, 3) := by decide +kernel
theorem dX10_count_12 : decode cX10_count 12 = .ok (.ifCond .ne 5, 3) := by decide +kernel
theorem dX10_count_15 : decode cX10_count 15 = .ok (.iconst (-1), 1) := by decide +kernel
theorem dX10_count_16 : decode cX10_count 16 = .ok (.ireturn, 1) := by decide +kernel
theorem dX10_count_17 : decode cX10_count 17 = .ok (.iload_n 1, 1) := by decide +kernel
theorem dX10_count_18 : decode cX10_count 18 = .ok (.iconst 5, 1) := by decide +kernel
theorem dX10_count_19 : decode cX10_count 19 = .ok (.if_icmp .ge 10, 3) := by decide +kernel
theorem dX10_count_22 : decode cX10_count 22 = .ok (.aload_n 0, 1) := by decide +kernel
theorem dX10_count_23 : decode cX10_count 23 = .ok (.getfield 13, 3) := by decide +kernel
theorem dX10_count_26 : decode cX10_count 26 = .ok (.iload_n 1, 1) := by decide +kernel
theorem dX10_count_27 : decode cX10_count 27 = .ok (.iaload, 1) := by decide +kernel
theorem dX10_count_28 : decode cX10_count 28 = .ok (.ireturn, 1) := by decide +kernel
theorem dX10_count_29 : decode cX10_count 29 = .ok (.iload_n 1, 1) := by decide +kernel
theorem dX10_count_30 : decode cX10_count 30 = .ok (.bipush 7, 2) := by decide +kernel
theorem dX10_count_32 : decode cX10_count 32 = .ok (.if_icmp .ge 28, 3) := by decide +kernel
theorem dX10_count_35 : decode cX10_count 35 = .ok (.iload_n 1, 1) := by decide +kernel
theorem dX10_count_36 : decode cX10_count 36 = .ok (.iconst 5, 1) := by decide +kernel
theorem dX10_count_37 : decode cX10_count 37 = .ok (.if_icmp .ne 12, 3) := by decide +kernel
theorem dX10_count_40 : decode cX10_count 40 = .ok (.aload_n 0, 1) := by decide +kernel
theorem dX10_count_41 : decode cX10_count 41 = .ok (.getfield 126, 3) := by decide +kernel
theorem dX10_count_44 : decode cX10_count 44 = .ok (.iconst 0, 1) := by decide +kernel
theorem dX10_count_45 : decode cX10_count 45 = .ok (.iaload, 1) := by decide +kernel
theorem dX10_count_46 : decode cX10_count 46 = .ok (.goto 13, 3) := by decide +kernel
theorem dX10_count_49 : decode cX10_count 49 = .ok (.aload_n 0, 1) := by decide +kernel
theorem dX10_count_50 : decode cX10_count 50 = .ok (.aload_n 0, 1) := by decide +kernel
theorem dX10_count_51 : decode cX10_count 51 = .ok (.getfield 126, 3) := by decide +kernel
theorem dX10_count_54 : decode cX10_count 54 = .ok (.iconst 0, 1) := by decide +kernel
theorem dX10_count_55 : decode cX10_count 55 = .ok (.iaload, 1) := by decide +kernel
theorem dX10_count_56 : decode cX10_count 56 = .ok (.invokevirtual 410, 3) := by decide +kernel
theorem dX10_count_59 : decode cX10_count 59 = .ok (.ireturn, 1) := by decide +kernel
theorem dX10_count_60 : decode cX10_count 60 = .ok (.iload_n 1, 1) := by decide +kernel
theorem dX10_count_61 : decode cX10_count 61 = .ok (.bipush 9, 2) := by decide +kernel
theorem dX10_count_63 : decode cX10_count 63 = .ok (.if_icmp .ge 22, 3) := by decide +kernel
theorem dX10_count_66 : decode cX10_count 66 = .ok (.iload_n 1, 1) := by decide +kernel
theorem dX10_count_67 : decode cX10_count 67 = .ok (.bipush 7, 2) := by decide +kernel
theorem dX10_count_69 : decode cX10_count 69 = .ok (.if_icmp .ne 10, 3) := by decide +kernel
theorem dX10_count_72 : decode cX10_count 72 = .ok (.aload_n 0, 1) := by decide +kernel
theorem dX10_count_73 : decode cX10_count 73 = .ok (.invokevirtual 438, 3) := by decide +kernel
theorem dX10_count_76 : decode cX10_count 76 = .ok (.goto 8, 3) := by decide +kernel
theorem dX10_count_79 : decode cX10_count 79 = .ok (.aload_n 0, 1) := by decide +kernel
theorem dX10_count_80 : decode cX10_count 80 = .ok (.iconst 3, 1) := by decide +kernel
theorem dX10_count_81 : decode cX10_count 81 = .ok (.invokevirtual 428, 3) := by decide +kernel
theorem dX10_count_84 : decode cX10_count 84 = .ok (.ireturn, 1) := by decide +kernel
theorem dX10_count_85 : decode cX10_count 85 = .ok (.iload_n 1, 1) := by decide +kernel
theorem dX10_count_86 : decode cX10_count 86 = .ok (.bipush 11, 2) := by decide +kernel
theorem dX10_count_88 : decode cX10_count 88 = .ok (.if_icmp .ge 25, 3) := by decide +kernel
theorem dX10_count_91 : decode cX10_count 91 = .ok (.iload_n 1, 1) := by decide +kernel
theorem dX10_count_92 : decode cX10_count 92 = .ok (.bipush 9, 2) := by decide +kernel
theorem dX10_count_94 : decode cX10_count 94 = .ok (.if_icmp .ne 12, 3) := by decide +kernel
theorem dX10_count_97 : decode cX10_count 97 = .ok (.aload_n 0, 1) := by decide +kernel
theorem dX10_count_98 : decode cX10_count 98 = .ok (.getfield 102, 3) := by decide +kernel
theorem dX10_count_101 : decode cX10_count 101 = .ok (.iconst 0, 1) := by decide +kernel
theorem dX10_count_102 : decode cX10_count 102 = .ok (.iaload, 1) := by decide +kernel
theorem dX10_count_103 : decode cX10_count 103 = .ok (.goto 9, 3) := by decide +kernel
theorem dX10_count_106 : decode cX10_count 106 = .ok (.aload_n 0, 1) := by decide +kernel
theorem dX10_count_107 : decode cX10_count 107 = .ok (.getfield 114, 3) := by decide +kernel
theorem dX10_count_110 : decode cX10_count 110 = .ok (.iconst 0, 1) := by decide +kernel
theorem dX10_count_111 : decode cX10_count 111 = .ok (.iaload, 1) := by decide +kernel
theorem dX10_count_112 : decode cX10_count 112 = .ok (.ireturn, 1) := by decide +kernel
theorem dX10_count_113 : decode cX10_count 113 = .ok (.iload_n 1, 1) := by decide +kernel
theorem dX10_count_114 : decode cX10_count 114 = .ok (.bipush 11, 2) := by decide +kernel
theorem dX10_count_116 : decode cX10_count 116 = .ok (.if_icmp .ne 10, 3) := by decide +kernel
theorem dX10_count_119 : decode cX10_count 119 = .ok (.aload_n 0, 1) := by decide +kernel
theorem dX10_count_120 : decode cX10_count 120 = .ok (.getfield 383, 3) := by decide +kernel
theorem dX10_count_123 : decode cX10_count 123 = .ok (.goto 7, 3) := by decide +kernel
theorem dX10_count_126 : decode cX10_count 126 = .ok (.aload_n 0, 1) := by decide +kernel
theorem dX10_count_127 : decode cX10_count 127 = .ok (.getfield 168, 3) := by decide +kernel
theorem dX10_count_130 : decode cX10_count 130 = .ok (.ireturn, 1) := by decide +kernel
