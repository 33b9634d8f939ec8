theorem dL_sound_0 : decode cL_sound 0 = .ok (.aload_n 0, 1) := by decide +kernel
theorem dL_sound_1 : decode cL_sound 1 = .ok (.iload_n 1, 1) := by decide +kernel
theorem dL_sound_2 : decode cL_sound 2 = .ok (.iconst 3, 1) := by decide +kernel
theorem dL_sound_3 : decode cL_sound 3 = .ok (.invokevirtual 23, 3) := by decide +kernel
theorem dL_sound_6 : decode cL_sound 6 = .ok (.istore_n 2, 1) := by decide +kernel
theorem dL_sound_7 : decode cL_sound 7 = .ok (.iload_n 2, 1) := by decide +kernel
theorem dL_sound_8 : decode cL_sound 8 = .ok (.iconst 1, 1) := by decide +kernel
theorem dL_sound_9 : decode cL_sound 9 = .ok (.if_icmp .eq 8, 3) := by decide +kernel
theorem dL_sound_12 : decode cL_sound 12 = .ok (.iload_n 2, 1) := by decide +kernel
theorem dL_sound_13 : decode cL_sound 13 = .ok (.iconst 2, 1) := by decide +kernel
theorem dL_sound_14 : decode cL_sound 14 = .ok (.if_icmp .ne 7, 3) := by decide +kernel
theorem dL_sound_17 : decode cL_sound 17 = .ok (.iconst 1, 1) := by decide +kernel
theorem dL_sound_18 : decode cL_sound 18 = .ok (.goto 4, 3) := by decide +kernel
theorem dL_sound_21 : decode cL_sound 21 = .ok (.iconst 0, 1) := by decide +kernel
theorem dL_sound_22 : decode cL_sound 22 = .ok (.istore_n 3, 1) := by decide +kernel
theorem dL_sound_23 : decode cL_sound 23 = .ok (.iconst 0, 1) := by decide +kernel
theorem dL_sound_24 : decode cL_sound 24 = .ok (.istore 4, 2) := by decide +kernel
theorem dL_sound_26 : decode cL_sound 26 = .ok (.iconst 0, 1) := by decide +kernel
theorem dL_sound_27 : decode cL_sound 27 = .ok (.istore 5, 2) := by decide +kernel
theorem dL_sound_29 : decode cL_sound 29 = .ok (.iconst 0, 1) := by decide +kernel
theorem dL_sound_30 : decode cL_sound 30 = .ok (.istore 6, 2) := by decide +kernel
theorem dL_sound_32 : decode cL_sound 32 = .ok (.iconst 0, 1) := by decide +kernel
theorem dL_sound_33 : decode cL_sound 33 = .ok (.istore 7, 2) := by decide +kernel
theorem dL_sound_35 : decode cL_sound 35 = .ok (.iload 7, 2) := by decide +kernel
theorem dL_sound_37 : decode cL_sound 37 = .ok (.aload_n 0, 1) := by decide +kernel
theorem dL_sound_38 : decode cL_sound 38 = .ok (.iload_n 1, 1) := by decide +kernel
theorem dL_sound_39 : decode cL_sound 39 = .ok (.iconst 4, 1) := by decide +kernel
theorem dL_sound_40 : decode cL_sound 40 = .ok (.invokevirtual 23, 3) := by decide +kernel
theorem dL_sound_43 : decode cL_sound 43 = .ok (.if_icmp .ge 193, 3) := by decide +kernel
theorem dL_sound_46 : decode cL_sound 46 = .ok (.aload_n 0, 1) := by decide +kernel
theorem dL_sound_47 : decode cL_sound 47 = .ok (.iload_n 1, 1) := by decide +kernel
theorem dL_sound_48 : decode cL_sound 48 = .ok (.iload 7, 2) := by decide +kernel
theorem dL_sound_50 : decode cL_sound 50 = .ok (.iconst 0, 1) := by decide +kernel
theorem dL_sound_51 : decode cL_sound 51 = .ok (.invokevirtual 35, 3) := by decide +kernel
theorem dL_sound_54 : decode cL_sound 54 = .ok (.istore 8, 2) := by decide +kernel
theorem dL_sound_56 : decode cL_sound 56 = .ok (.iload 8, 2) := by decide +kernel
theorem dL_sound_58 : decode cL_sound 58 = .ok (.istore 9, 2) := by decide +kernel
theorem dL_sound_60 : decode cL_sound 60 = .ok (.iconst 0, 1) := by decide +kernel
theorem dL_sound_61 : decode cL_sound 61 = .ok (.istore 10, 2) := by decide +kernel
theorem dL_sound_63 : decode cL_sound 63 = .ok (.iconst 0, 1) := by decide +kernel
theorem dL_sound_64 : decode cL_sound 64 = .ok (.istore 11, 2) := by decide +kernel
theorem dL_sound_66 : decode cL_sound 66 = .ok (.aload_n 0, 1) := by decide +kernel
theorem dL_sound_67 : decode cL_sound 67 = .ok (.iload_n 1, 1) := by decide +kernel
theorem dL_sound_68 : decode cL_sound 68 = .ok (.iload 7, 2) := by decide +kernel
theorem dL_sound_70 : decode cL_sound 70 = .ok (.iload 11, 2) := by decide +kernel
theorem dL_sound_72 : decode cL_sound 72 = .ok (.invokevirtual 35, 3) := by decide +kernel
theorem dL_sound_75 : decode cL_sound 75 = .ok (.ifCond .lt 55, 3) := by decide +kernel
theorem dL_sound_78 : decode cL_sound 78 = .ok (.aload_n 0, 1) := by decide +kernel
theorem dL_sound_79 : decode cL_sound 79 = .ok (.iload_n 1, 1) := by decide +kernel
theorem dL_sound_80 : decode cL_sound 80 = .ok (.iload 7, 2) := by decide +kernel
theorem dL_sound_82 : decode cL_sound 82 = .ok (.iload 11, 2) := by decide +kernel
theorem dL_sound_84 : decode cL_sound 84 = .ok (.invokevirtual 35, 3) := by decide +kernel
theorem dL_sound_87 : decode cL_sound 87 = .ok (.iload 9, 2) := by decide +kernel
theorem dL_sound_89 : decode cL_sound 89 = .ok (.if_icmp .gt 19, 3) := by decide +kernel
theorem dL_sound_92 : decode cL_sound 92 = .ok (.aload_n 0, 1) := by decide +kernel
theorem dL_sound_93 : decode cL_sound 93 = .ok (.iload_n 1, 1) := by decide +kernel
theorem dL_sound_94 : decode cL_sound 94 = .ok (.iload 7, 2) := by decide +kernel
theorem dL_sound_96 : decode cL_sound 96 = .ok (.iload 11, 2) := by decide +kernel
theorem dL_sound_98 : decode cL_sound 98 = .ok (.invokevirtual 35, 3) := by decide +kernel
theorem dL_sound_101 : decode cL_sound 101 = .ok (.iload 8, 2) := by decide +kernel
theorem dL_sound_103 : decode cL_sound 103 = .ok (.iconst 1, 1) := by decide +kernel
theorem dL_sound_104 : decode cL_sound 104 = .ok (.isub, 1) := by decide +kernel
theorem dL_sound_105 : decode cL_sound 105 = .ok (.if_icmp .ge 5, 3) := by decide +kernel
theorem dL_sound_108 : decode cL_sound 108 = .ok (.iconst 0, 1) := by decide +kernel
theorem dL_sound_109 : decode cL_sound 109 = .ok (.ireturn, 1) := by decide +kernel
theorem dL_sound_110 : decode cL_sound 110 = .ok (.aload_n 0, 1) := by decide +kernel
theorem dL_sound_111 : decode cL_sound 111 = .ok (.iload_n 1, 1) := by decide +kernel
theorem dL_sound_112 : decode cL_sound 112 = .ok (.iload 7, 2) := by decide +kernel
theorem dL_sound_114 : decode cL_sound 114 = .ok (.iload 11, 2) := by decide +kernel
theorem dL_sound_116 : decode cL_sound 116 = .ok (.invokevirtual 35, 3) := by decide +kernel
theorem dL_sound_119 : decode cL_sound 119 = .ok (.istore 9, 2) := by decide +kernel
theorem dL_sound_121 : decode cL_sound 121 = .ok (.iinc 4 1, 3) := by decide +kernel
theorem dL_sound_124 : decode cL_sound 124 = .ok (.iinc 11 1, 3) := by decide +kernel
theorem dL_sound_127 : decode cL_sound 127 = .ok (.goto (-61), 3) := by decide +kernel
theorem dL_sound_130 : decode cL_sound 130 = .ok (.iconst 0, 1) := by decide +kernel
theorem dL_sound_131 : decode cL_sound 131 = .ok (.istore 11, 2) := by decide +kernel
theorem dL_sound_133 : decode cL_sound 133 = .ok (.iload_n 3, 1) := by decide +kernel
theorem dL_sound_134 : decode cL_sound 134 = .ok (.ifCond .eq 62, 3) := by decide +kernel
theorem dL_sound_137 : decode cL_sound 137 = .ok (.aload_n 0, 1) := by decide +kernel
theorem dL_sound_138 : decode cL_sound 138 = .ok (.iload_n 1, 1) := by decide +kernel
theorem dL_sound_139 : decode cL_sound 139 = .ok (.iload 7, 2) := by decide +kernel
theorem dL_sound_141 : decode cL_sound 141 = .ok (.iload 11, 2) := by decide +kernel
theorem dL_sound_143 : decode cL_sound 143 = .ok (.invokevirtual 38, 3) := by decide +kernel
theorem dL_sound_146 : decode cL_sound 146 = .ok (.ifCond .lt 50, 3) := by decide +kernel
theorem dL_sound_149 : decode cL_sound 149 = .ok (.aload_n 0, 1) := by decide +kernel
theorem dL_sound_150 : decode cL_sound 150 = .ok (.iload_n 1, 1) := by decide +kernel
theorem dL_sound_151 : decode cL_sound 151 = .ok (.iload 7, 2) := by decide +kernel
theorem dL_sound_153 : decode cL_sound 153 = .ok (.iload 11, 2) := by decide +kernel
theorem dL_sound_155 : decode cL_sound 155 = .ok (.invokevirtual 38, 3) := by decide +kernel
theorem dL_sound_158 : decode cL_sound 158 = .ok (.istore 12, 2) := by decide +kernel
theorem dL_sound_160 : decode cL_sound 160 = .ok (.iload 10, 2) := by decide +kernel
theorem dL_sound_162 : decode cL_sound 162 = .ok (.iload 12, 2) := by decide +kernel
theorem dL_sound_164 : decode cL_sound 164 = .ok (.invokestatic 41, 3) := by decide +kernel
theorem dL_sound_167 : decode cL_sound 167 = .ok (.iadd, 1) := by decide +kernel
theorem dL_sound_168 : decode cL_sound 168 = .ok (.istore 10, 2) := by decide +kernel
theorem dL_sound_170 : decode cL_sound 170 = .ok (.iinc 5 1, 3) := by decide +kernel
theorem dL_sound_173 : decode cL_sound 173 = .ok (.iload 6, 2) := by decide +kernel
theorem dL_sound_175 : decode cL_sound 175 = .ok (.iload 12, 2) := by decide +kernel
theorem dL_sound_177 : decode cL_sound 177 = .ok (.bipush 97, 2) := by decide +kernel
theorem dL_sound_179 : decode cL_sound 179 = .ok (.if_icmp .lt 7, 3) := by decide +kernel
theorem dL_sound_182 : decode cL_sound 182 = .ok (.iconst 1, 1) := by decide +kernel
theorem dL_sound_183 : decode cL_sound 183 = .ok (.goto 4, 3) := by decide +kernel
theorem dL_sound_186 : decode cL_sound 186 = .ok (.iconst 0, 1) := by decide +kernel
theorem dL_sound_187 : decode cL_sound 187 = .ok (.iadd, 1) := by decide +kernel
theorem dL_sound_188 : decode cL_sound 188 = .ok (.istore 6, 2) := by decide +kernel
theorem dL_sound_190 : decode cL_sound 190 = .ok (.iinc 11 1, 3) := by decide +kernel
theorem dL_sound_193 : decode cL_sound 193 = .ok (.goto (-60), 3) := by decide +kernel
theorem dL_sound_196 : decode cL_sound 196 = .ok (.iload_n 3, 1) := by decide +kernel
theorem dL_sound_197 : decode cL_sound 197 = .ok (.ifCond .eq 14, 3) := by decide +kernel
theorem dL_sound_200 : decode cL_sound 200 = .ok (.iload 10, 2) := by decide +kernel
theorem dL_sound_202 : decode cL_sound 202 = .ok (.aload_n 0, 1) := by decide +kernel
theorem dL_sound_203 : decode cL_sound 203 = .ok (.iload_n 1, 1) := by decide +kernel
theorem dL_sound_204 : decode cL_sound 204 = .ok (.iconst 1, 1) := by decide +kernel
theorem dL_sound_205 : decode cL_sound 205 = .ok (.invokevirtual 23, 3) := by decide +kernel
theorem dL_sound_208 : decode cL_sound 208 = .ok (.if_icmp .ne 20, 3) := by decide +kernel
theorem dL_sound_211 : decode cL_sound 211 = .ok (.iload_n 3, 1) := by decide +kernel
theorem dL_sound_212 : decode cL_sound 212 = .ok (.ifCond .ne 18, 3) := by decide +kernel
theorem dL_sound_215 : decode cL_sound 215 = .ok (.aload_n 0, 1) := by decide +kernel
theorem dL_sound_216 : decode cL_sound 216 = .ok (.iload_n 1, 1) := by decide +kernel
theorem dL_sound_217 : decode cL_sound 217 = .ok (.iload 7, 2) := by decide +kernel
theorem dL_sound_219 : decode cL_sound 219 = .ok (.iconst 0, 1) := by decide +kernel
theorem dL_sound_220 : decode cL_sound 220 = .ok (.invokevirtual 38, 3) := by decide +kernel
theorem dL_sound_223 : decode cL_sound 223 = .ok (.bipush (-4), 2) := by decide +kernel
theorem dL_sound_225 : decode cL_sound 225 = .ok (.if_icmp .eq 5, 3) := by decide +kernel
theorem dL_sound_228 : decode cL_sound 228 = .ok (.iconst 0, 1) := by decide +kernel
theorem dL_sound_229 : decode cL_sound 229 = .ok (.ireturn, 1) := by decide +kernel
theorem dL_sound_230 : decode cL_sound 230 = .ok (.iinc 7 1, 3) := by decide +kernel
theorem dL_sound_233 : decode cL_sound 233 = .ok (.goto (-198), 3) := by decide +kernel
theorem dL_sound_236 : decode cL_sound 236 = .ok (.iconst 0, 1) := by decide +kernel
theorem dL_sound_237 : decode cL_sound 237 = .ok (.istore 7, 2) := by decide +kernel
theorem dL_sound_239 : decode cL_sound 239 = .ok (.iconst 0, 1) := by decide +kernel
theorem dL_sound_240 : decode cL_sound 240 = .ok (.istore 8, 2) := by decide +kernel
theorem dL_sound_242 : decode cL_sound 242 = .ok (.iconst 0, 1) := by decide +kernel
theorem dL_sound_243 : decode cL_sound 243 = .ok (.istore 9, 2) := by decide +kernel
theorem dL_sound_245 : decode cL_sound 245 = .ok (.iload 9, 2) := by decide +kernel
theorem dL_sound_247 : decode cL_sound 247 = .ok (.bipush 29, 2) := by decide +kernel
theorem dL_sound_249 : decode cL_sound 249 = .ok (.if_icmp .ge 71, 3) := by decide +kernel
theorem dL_sound_252 : decode cL_sound 252 = .ok (.iconst 0, 1) := by decide +kernel
theorem dL_sound_253 : decode cL_sound 253 = .ok (.istore 10, 2) := by decide +kernel
theorem dL_sound_255 : decode cL_sound 255 = .ok (.iload 10, 2) := by decide +kernel
theorem dL_sound_257 : decode cL_sound 257 = .ok (.aload_n 0, 1) := by decide +kernel
theorem dL_sound_258 : decode cL_sound 258 = .ok (.iconst 0, 1) := by decide +kernel
theorem dL_sound_259 : decode cL_sound 259 = .ok (.invokevirtual 13, 3) := by decide +kernel
theorem dL_sound_262 : decode cL_sound 262 = .ok (.if_icmp .ge 52, 3) := by decide +kernel
theorem dL_sound_265 : decode cL_sound 265 = .ok (.iload 7, 2) := by decide +kernel
theorem dL_sound_267 : decode cL_sound 267 = .ok (.aload_n 0, 1) := by decide +kernel
theorem dL_sound_268 : decode cL_sound 268 = .ok (.iload_n 1, 1) := by decide +kernel
theorem dL_sound_269 : decode cL_sound 269 = .ok (.iload 10, 2) := by decide +kernel
theorem dL_sound_271 : decode cL_sound 271 = .ok (.iload 9, 2) := by decide +kernel
theorem dL_sound_273 : decode cL_sound 273 = .ok (.invokevirtual 31, 3) := by decide +kernel
theorem dL_sound_276 : decode cL_sound 276 = .ok (.iadd, 1) := by decide +kernel
theorem dL_sound_277 : decode cL_sound 277 = .ok (.istore 7, 2) := by decide +kernel
theorem dL_sound_279 : decode cL_sound 279 = .ok (.iload 8, 2) := by decide +kernel
theorem dL_sound_281 : decode cL_sound 281 = .ok (.iload 10, 2) := by decide +kernel
theorem dL_sound_283 : decode cL_sound 283 = .ok (.aload_n 0, 1) := by decide +kernel
theorem dL_sound_284 : decode cL_sound 284 = .ok (.iload_n 1, 1) := by decide +kernel
theorem dL_sound_285 : decode cL_sound 285 = .ok (.iconst 0, 1) := by decide +kernel
theorem dL_sound_286 : decode cL_sound 286 = .ok (.invokevirtual 23, 3) := by decide +kernel
theorem dL_sound_289 : decode cL_sound 289 = .ok (.if_icmp .ne 7, 3) := by decide +kernel
theorem dL_sound_292 : decode cL_sound 292 = .ok (.iconst 0, 1) := by decide +kernel
theorem dL_sound_293 : decode cL_sound 293 = .ok (.goto 12, 3) := by decide +kernel
theorem dL_sound_296 : decode cL_sound 296 = .ok (.aload_n 0, 1) := by decide +kernel
theorem dL_sound_297 : decode cL_sound 297 = .ok (.iload_n 1, 1) := by decide +kernel
theorem dL_sound_298 : decode cL_sound 298 = .ok (.iload 10, 2) := by decide +kernel
theorem dL_sound_300 : decode cL_sound 300 = .ok (.iload 9, 2) := by decide +kernel
theorem dL_sound_302 : decode cL_sound 302 = .ok (.invokevirtual 31, 3) := by decide +kernel
theorem dL_sound_305 : decode cL_sound 305 = .ok (.iadd, 1) := by decide +kernel
theorem dL_sound_306 : decode cL_sound 306 = .ok (.istore 8, 2) := by decide +kernel
theorem dL_sound_308 : decode cL_sound 308 = .ok (.iinc 10 1, 3) := by decide +kernel
theorem dL_sound_311 : decode cL_sound 311 = .ok (.goto (-56), 3) := by decide +kernel
theorem dL_sound_314 : decode cL_sound 314 = .ok (.iinc 9 1, 3) := by decide +kernel
theorem dL_sound_317 : decode cL_sound 317 = .ok (.goto (-72), 3) := by decide +kernel
theorem dL_sound_320 : decode cL_sound 320 = .ok (.aload_n 0, 1) := by decide +kernel
theorem dL_sound_321 : decode cL_sound 321 = .ok (.iload_n 1, 1) := by decide +kernel
theorem dL_sound_322 : decode cL_sound 322 = .ok (.bipush 9, 2) := by decide +kernel
theorem dL_sound_324 : decode cL_sound 324 = .ok (.invokevirtual 23, 3) := by decide +kernel
theorem dL_sound_327 : decode cL_sound 327 = .ok (.ifCond .ge 8, 3) := by decide +kernel
theorem dL_sound_330 : decode cL_sound 330 = .ok (.bipush (-5), 2) := by decide +kernel
theorem dL_sound_332 : decode cL_sound 332 = .ok (.goto 38, 3) := by decide +kernel
theorem dL_sound_335 : decode cL_sound 335 = .ok (.aload_n 0, 1) := by decide +kernel
theorem dL_sound_336 : decode cL_sound 336 = .ok (.iload_n 1, 1) := by decide +kernel
theorem dL_sound_337 : decode cL_sound 337 = .ok (.bipush 9, 2) := by decide +kernel
theorem dL_sound_339 : decode cL_sound 339 = .ok (.invokevirtual 23, 3) := by decide +kernel
theorem dL_sound_342 : decode cL_sound 342 = .ok (.aload_n 0, 1) := by decide +kernel
theorem dL_sound_343 : decode cL_sound 343 = .ok (.iload_n 1, 1) := by decide +kernel
theorem dL_sound_344 : decode cL_sound 344 = .ok (.iconst 2, 1) := by decide +kernel
theorem dL_sound_345 : decode cL_sound 345 = .ok (.invokevirtual 23, 3) := by decide +kernel
theorem dL_sound_348 : decode cL_sound 348 = .ok (.isub, 1) := by decide +kernel
theorem dL_sound_349 : decode cL_sound 349 = .ok (.ifCond .ge 7, 3) := by decide +kernel
theorem dL_sound_352 : decode cL_sound 352 = .ok (.iconst 0, 1) := by decide +kernel
theorem dL_sound_353 : decode cL_sound 353 = .ok (.goto 17, 3) := by decide +kernel
theorem dL_sound_356 : decode cL_sound 356 = .ok (.aload_n 0, 1) := by decide +kernel
theorem dL_sound_357 : decode cL_sound 357 = .ok (.iload_n 1, 1) := by decide +kernel
theorem dL_sound_358 : decode cL_sound 358 = .ok (.bipush 9, 2) := by decide +kernel
theorem dL_sound_360 : decode cL_sound 360 = .ok (.invokevirtual 23, 3) := by decide +kernel
theorem dL_sound_363 : decode cL_sound 363 = .ok (.aload_n 0, 1) := by decide +kernel
theorem dL_sound_364 : decode cL_sound 364 = .ok (.iload_n 1, 1) := by decide +kernel
theorem dL_sound_365 : decode cL_sound 365 = .ok (.iconst 2, 1) := by decide +kernel
theorem dL_sound_366 : decode cL_sound 366 = .ok (.invokevirtual 23, 3) := by decide +kernel
theorem dL_sound_369 : decode cL_sound 369 = .ok (.isub, 1) := by decide +kernel
theorem dL_sound_370 : decode cL_sound 370 = .ok (.istore 9, 2) := by decide +kernel
theorem dL_sound_372 : decode cL_sound 372 = .ok (.iload 4, 2) := by decide +kernel
theorem dL_sound_374 : decode cL_sound 374 = .ok (.aload_n 0, 1) := by decide +kernel
theorem dL_sound_375 : decode cL_sound 375 = .ok (.iload_n 1, 1) := by decide +kernel
theorem dL_sound_376 : decode cL_sound 376 = .ok (.bipush 6, 2) := by decide +kernel
theorem dL_sound_378 : decode cL_sound 378 = .ok (.invokevirtual 23, 3) := by decide +kernel
theorem dL_sound_381 : decode cL_sound 381 = .ok (.if_icmp .ne 135, 3) := by decide +kernel
theorem dL_sound_384 : decode cL_sound 384 = .ok (.iload 7, 2) := by decide +kernel
theorem dL_sound_386 : decode cL_sound 386 = .ok (.aload_n 0, 1) := by decide +kernel
theorem dL_sound_387 : decode cL_sound 387 = .ok (.iload_n 1, 1) := by decide +kernel
theorem dL_sound_388 : decode cL_sound 388 = .ok (.bipush 7, 2) := by decide +kernel
theorem dL_sound_390 : decode cL_sound 390 = .ok (.invokevirtual 23, 3) := by decide +kernel
theorem dL_sound_393 : decode cL_sound 393 = .ok (.if_icmp .ne 123, 3) := by decide +kernel
theorem dL_sound_396 : decode cL_sound 396 = .ok (.iload 8, 2) := by decide +kernel
theorem dL_sound_398 : decode cL_sound 398 = .ok (.aload_n 0, 1) := by decide +kernel
theorem dL_sound_399 : decode cL_sound 399 = .ok (.iload_n 1, 1) := by decide +kernel
theorem dL_sound_400 : decode cL_sound 400 = .ok (.bipush 8, 2) := by decide +kernel
theorem dL_sound_402 : decode cL_sound 402 = .ok (.invokevirtual 23, 3) := by decide +kernel
theorem dL_sound_405 : decode cL_sound 405 = .ok (.if_icmp .ne 111, 3) := by decide +kernel
theorem dL_sound_408 : decode cL_sound 408 = .ok (.iload 7, 2) := by decide +kernel
theorem dL_sound_410 : decode cL_sound 410 = .ok (.iload_n 3, 1) := by decide +kernel
theorem dL_sound_411 : decode cL_sound 411 = .ok (.ifCond .eq 8, 3) := by decide +kernel
theorem dL_sound_414 : decode cL_sound 414 = .ok (.iload 5, 2) := by decide +kernel
theorem dL_sound_416 : decode cL_sound 416 = .ok (.goto 4, 3) := by decide +kernel
theorem dL_sound_419 : decode cL_sound 419 = .ok (.iconst 0, 1) := by decide +kernel
theorem dL_sound_420 : decode cL_sound 420 = .ok (.if_icmp .ne 96, 3) := by decide +kernel
theorem dL_sound_423 : decode cL_sound 423 = .ok (.iload_n 3, 1) := by decide +kernel
theorem dL_sound_424 : decode cL_sound 424 = .ok (.ifCond .eq 14, 3) := by decide +kernel
theorem dL_sound_427 : decode cL_sound 427 = .ok (.iload 6, 2) := by decide +kernel
theorem dL_sound_429 : decode cL_sound 429 = .ok (.aload_n 0, 1) := by decide +kernel
theorem dL_sound_430 : decode cL_sound 430 = .ok (.iload_n 1, 1) := by decide +kernel
theorem dL_sound_431 : decode cL_sound 431 = .ok (.iconst 5, 1) := by decide +kernel
theorem dL_sound_432 : decode cL_sound 432 = .ok (.invokevirtual 23, 3) := by decide +kernel
theorem dL_sound_435 : decode cL_sound 435 = .ok (.if_icmp .ne 81, 3) := by decide +kernel
theorem dL_sound_438 : decode cL_sound 438 = .ok (.aload_n 0, 1) := by decide +kernel
theorem dL_sound_439 : decode cL_sound 439 = .ok (.iload_n 1, 1) := by decide +kernel
theorem dL_sound_440 : decode cL_sound 440 = .ok (.bipush 10, 2) := by decide +kernel
theorem dL_sound_442 : decode cL_sound 442 = .ok (.invokevirtual 23, 3) := by decide +kernel
theorem dL_sound_445 : decode cL_sound 445 = .ok (.iload 9, 2) := by decide +kernel
theorem dL_sound_447 : decode cL_sound 447 = .ok (.if_icmp .ne 69, 3) := by decide +kernel
theorem dL_sound_450 : decode cL_sound 450 = .ok (.iload_n 2, 1) := by decide +kernel
theorem dL_sound_451 : decode cL_sound 451 = .ok (.iconst 2, 1) := by decide +kernel
theorem dL_sound_452 : decode cL_sound 452 = .ok (.if_icmp .eq 8, 3) := by decide +kernel
theorem dL_sound_455 : decode cL_sound 455 = .ok (.iload_n 2, 1) := by decide +kernel
theorem dL_sound_456 : decode cL_sound 456 = .ok (.iconst 3, 1) := by decide +kernel
theorem dL_sound_457 : decode cL_sound 457 = .ok (.if_icmp .ne 7, 3) := by decide +kernel
theorem dL_sound_460 : decode cL_sound 460 = .ok (.iconst 1, 1) := by decide +kernel
theorem dL_sound_461 : decode cL_sound 461 = .ok (.goto 4, 3) := by decide +kernel
theorem dL_sound_464 : decode cL_sound 464 = .ok (.iconst 0, 1) := by decide +kernel
theorem dL_sound_465 : decode cL_sound 465 = .ok (.aload_n 0, 1) := by decide +kernel
theorem dL_sound_466 : decode cL_sound 466 = .ok (.iload_n 1, 1) := by decide +kernel
theorem dL_sound_467 : decode cL_sound 467 = .ok (.bipush 9, 2) := by decide +kernel
theorem dL_sound_469 : decode cL_sound 469 = .ok (.invokevirtual 23, 3) := by decide +kernel
theorem dL_sound_472 : decode cL_sound 472 = .ok (.ifCond .lt 7, 3) := by decide +kernel
theorem dL_sound_475 : decode cL_sound 475 = .ok (.iconst 1, 1) := by decide +kernel
theorem dL_sound_476 : decode cL_sound 476 = .ok (.goto 4, 3) := by decide +kernel
theorem dL_sound_479 : decode cL_sound 479 = .ok (.iconst 0, 1) := by decide +kernel
theorem dL_sound_480 : decode cL_sound 480 = .ok (.if_icmp .ne 36, 3) := by decide +kernel
theorem dL_sound_483 : decode cL_sound 483 = .ok (.aload_n 0, 1) := by decide +kernel
theorem dL_sound_484 : decode cL_sound 484 = .ok (.iload_n 1, 1) := by decide +kernel
theorem dL_sound_485 : decode cL_sound 485 = .ok (.aload_n 0, 1) := by decide +kernel
theorem dL_sound_486 : decode cL_sound 486 = .ok (.iload_n 1, 1) := by decide +kernel
theorem dL_sound_487 : decode cL_sound 487 = .ok (.iconst 4, 1) := by decide +kernel
theorem dL_sound_488 : decode cL_sound 488 = .ok (.invokevirtual 23, 3) := by decide +kernel
theorem dL_sound_491 : decode cL_sound 491 = .ok (.iconst 0, 1) := by decide +kernel
theorem dL_sound_492 : decode cL_sound 492 = .ok (.invokevirtual 35, 3) := by decide +kernel
theorem dL_sound_495 : decode cL_sound 495 = .ok (.bipush (-5), 2) := by decide +kernel
theorem dL_sound_497 : decode cL_sound 497 = .ok (.if_icmp .ne 19, 3) := by decide +kernel
theorem dL_sound_500 : decode cL_sound 500 = .ok (.aload_n 0, 1) := by decide +kernel
theorem dL_sound_501 : decode cL_sound 501 = .ok (.iload_n 1, 1) := by decide +kernel
theorem dL_sound_502 : decode cL_sound 502 = .ok (.bipush 11, 2) := by decide +kernel
theorem dL_sound_504 : decode cL_sound 504 = .ok (.invokevirtual 23, 3) := by decide +kernel
theorem dL_sound_507 : decode cL_sound 507 = .ok (.bipush (-2), 2) := by decide +kernel
theorem dL_sound_509 : decode cL_sound 509 = .ok (.if_icmp .ne 7, 3) := by decide +kernel
theorem dL_sound_512 : decode cL_sound 512 = .ok (.iconst 1, 1) := by decide +kernel
theorem dL_sound_513 : decode cL_sound 513 = .ok (.goto 4, 3) := by decide +kernel
theorem dL_sound_516 : decode cL_sound 516 = .ok (.iconst 0, 1) := by decide +kernel
theorem dL_sound_517 : decode cL_sound 517 = .ok (.ireturn, 1) := by decide +kernel
def rm_L_sound : Room := { frames := 6, cells := 0, slots := 0, locals := 133 }
set_option maxRecDepth 100000 in
set_option maxHeartbeats 4000000 in
theorem ok_L_sound_108 {E : Ev} {X : Xt} {l0 : Launch} {K : Int32 → Hp → Prop} (hC : Cx E X l0 RL cL_sound 13 rm_L_sound) (hQ : CQ E X "sound" (some .boolean) rm_L_sound (KI K)) (h : Hp) (hV : V_L_sound_108 K  h) : WW E X h 0 0 108 [none, none, none, none, none, none, none, none, none, none, none, none, none] [] := by
  unfold V_L_sound_108 at hV
  refine r_iconst (v := 0) hC dL_sound_108 (by decide) ?_
  exact r_zret hC hQ dL_sound_109 (Nat.le_of_ble_eq_true rfl) (Nat.le_of_ble_eq_true rfl) hV.1 ⟨_, rfl, hV.2⟩
set_option maxRecDepth 100000 in
set_option maxHeartbeats 4000000 in
theorem ok_L_sound_187 {E : Ev} {X : Xt} {l0 : Launch} {K : Int32 → Hp → Prop} {C35 : Nat → Int32 → Int32 → Int32 → Int32 → Int32 → Int32 → Int32 → Hp → Prop} {C133 : Nat → Int32 → Int32 → Int32 → Int32 → Int32 → Int32 → Int32 → Int32 → Int32 → Hp → Prop} (hC : Cx E X l0 RL cL_sound 13 rm_L_sound) (hQ : CQ E X "sound" (some .boolean) rm_L_sound (KI K)) (hC35 : ∀ (a0 : Nat) (a1 : Int32) (a2 : Int32) (a3 : Int32) (a4 : Int32) (a5 : Int32) (a6 : Int32) (a7 : Int32) (h : Hp), C35 a0 a1 a2 a3 a4 a5 a6 a7 h → WW E X h 0 0 35 [some (rv a0), some (.int a1), some (.int a2), some (.int a3), some (.int a4), some (.int a5), some (.int a6), some (.int a7), none, none, none, none, none] []) (hC133 : ∀ (a0 : Nat) (a1 : Int32) (a2 : Int32) (a3 : Int32) (a4 : Int32) (a5 : Int32) (a6 : Int32) (a7 : Int32) (a10 : Int32) (a11 : Int32) (h : Hp), C133 a0 a1 a2 a3 a4 a5 a6 a7 a10 a11 h → WW E X h 0 0 133 [some (rv a0), some (.int a1), some (.int a2), some (.int a3), some (.int a4), some (.int a5), some (.int a6), some (.int a7), none, none, some (.int a10), some (.int a11), none] []) (a0 : Nat) (a1 : Int32) (a2 : Int32) (a3 : Int32) (a4 : Int32) (a5 : Int32) (a7 : Int32) (a10 : Int32) (a11 : Int32) (s0 : Int32) (s1 : Int32) (h : Hp) (hV : V_L_sound_187 K C35 C133 a0 a1 a2 a3 a4 a5 a7 a10 a11 s0 s1 h) : WW E X h 0 0 187 [some (rv a0), some (.int a1), some (.int a2), some (.int a3), some (.int a4), some (.int a5), none, some (.int a7), none, none, some (.int a10), some (.int a11), none] [.int s1, .int s0] := by
  unfold V_L_sound_187 at hV
  refine r_iadd hC dL_sound_187 ?_
  refine r_istore (lo1 := [some (rv a0), some (.int a1), some (.int a2), some (.int a3), some (.int a4), some (.int a5), some (.int (s0 + s1)), some (.int a7), none, none, some (.int a10), some (.int a11), none]) hC dL_sound_188 (Nat.le_of_ble_eq_true rfl) (pvI rfl) rfl ?_
  refine r_iinc (v := 1) (lo1 := [some (rv a0), some (.int a1), some (.int a2), some (.int a3), some (.int a4), some (.int a5), some (.int (s0 + s1)), some (.int a7), none, none, some (.int a10), some (.int (a11 + 1)), none]) hC dL_sound_190 rfl (by decide) (pvI rfl) rfl ?_
  refine r_goto (tgt := 133) hC dL_sound_193 (by decide) ?_
  exact hC133 a0 a1 a2 a3 a4 a5 (s0 + s1) a7 a10 (a11 + 1) h hV
set_option maxRecDepth 100000 in
set_option maxHeartbeats 4000000 in
theorem ok_L_sound_228 {E : Ev} {X : Xt} {l0 : Launch} {K : Int32 → Hp → Prop} (hC : Cx E X l0 RL cL_sound 13 rm_L_sound) (hQ : CQ E X "sound" (some .boolean) rm_L_sound (KI K)) (h : Hp) (hV : V_L_sound_228 K  h) : WW E X h 0 0 228 [none, none, none, none, none, none, none, none, none, none, none, none, none] [] := by
  unfold V_L_sound_228 at hV
  refine r_iconst (v := 0) hC dL_sound_228 (by decide) ?_
  exact r_zret hC hQ dL_sound_229 (Nat.le_of_ble_eq_true rfl) (Nat.le_of_ble_eq_true rfl) hV.1 ⟨_, rfl, hV.2⟩
set_option maxRecDepth 100000 in
set_option maxHeartbeats 4000000 in
theorem ok_L_sound_230 {E : Ev} {X : Xt} {l0 : Launch} {K : Int32 → Hp → Prop} {C35 : Nat → Int32 → Int32 → Int32 → Int32 → Int32 → Int32 → Int32 → Hp → Prop} (hC : Cx E X l0 RL cL_sound 13 rm_L_sound) (hQ : CQ E X "sound" (some .boolean) rm_L_sound (KI K)) (hC35 : ∀ (a0 : Nat) (a1 : Int32) (a2 : Int32) (a3 : Int32) (a4 : Int32) (a5 : Int32) (a6 : Int32) (a7 : Int32) (h : Hp), C35 a0 a1 a2 a3 a4 a5 a6 a7 h → WW E X h 0 0 35 [some (rv a0), some (.int a1), some (.int a2), some (.int a3), some (.int a4), some (.int a5), some (.int a6), some (.int a7), none, none, none, none, none] []) (a0 : Nat) (a1 : Int32) (a2 : Int32) (a3 : Int32) (a4 : Int32) (a5 : Int32) (a6 : Int32) (a7 : Int32) (h : Hp) (hV : V_L_sound_230 K C35 a0 a1 a2 a3 a4 a5 a6 a7 h) : WW E X h 0 0 230 [some (rv a0), some (.int a1), some (.int a2), some (.int a3), some (.int a4), some (.int a5), some (.int a6), some (.int a7), none, none, none, none, none] [] := by
  unfold V_L_sound_230 at hV
  refine r_iinc (v := 1) (lo1 := [some (rv a0), some (.int a1), some (.int a2), some (.int a3), some (.int a4), some (.int a5), some (.int a6), some (.int (a7 + 1)), none, none, none, none, none]) hC dL_sound_230 rfl (by decide) (pvI rfl) rfl ?_
  refine r_goto (tgt := 35) hC dL_sound_233 (by decide) ?_
  exact hC35 a0 a1 a2 a3 a4 a5 a6 (a7 + 1) h hV
set_option maxRecDepth 100000 in
set_option maxHeartbeats 4000000 in
theorem ok_L_sound_211 {E : Ev} {X : Xt} {l0 : Launch} {K : Int32 → Hp → Prop} {C35 : Nat → Int32 → Int32 → Int32 → Int32 → Int32 → Int32 → Int32 → Hp → Prop} (hC : Cx E X l0 RL cL_sound 13 rm_L_sound) (hQ : CQ E X "sound" (some .boolean) rm_L_sound (KI K)) (hC35 : ∀ (a0 : Nat) (a1 : Int32) (a2 : Int32) (a3 : Int32) (a4 : Int32) (a5 : Int32) (a6 : Int32) (a7 : Int32) (h : Hp), C35 a0 a1 a2 a3 a4 a5 a6 a7 h → WW E X h 0 0 35 [some (rv a0), some (.int a1), some (.int a2), some (.int a3), some (.int a4), some (.int a5), some (.int a6), some (.int a7), none, none, none, none, none] []) (a0 : Nat) (a1 : Int32) (a2 : Int32) (a3 : Int32) (a4 : Int32) (a5 : Int32) (a6 : Int32) (a7 : Int32) (h : Hp) (hV : V_L_sound_211 K C35 a0 a1 a2 a3 a4 a5 a6 a7 h) : WW E X h 0 0 211 [some (rv a0), some (.int a1), some (.int a2), some (.int a3), some (.int a4), some (.int a5), some (.int a6), some (.int a7), none, none, none, none, none] [] := by
  unfold V_L_sound_211 at hV
  refine r_iload_n hC dL_sound_211 rfl ?_
  refine r_if_ne (tgt := 230) hC dL_sound_212 (by decide) (fun k9 => ?_) (fun k9 => ?_)
  · replace hV := hV.1 k9
    exact ok_L_sound_230 hC hQ hC35 a0 a1 a2 a3 a4 a5 a6 a7 h hV
  · replace hV := hV.2 k9
    refine r_aload_n hC dL_sound_215 rfl ?_
    refine r_iload_n hC dL_sound_216 rfl ?_
    refine r_iload hC dL_sound_217 rfl ?_
    refine r_iconst (v := 0) hC dL_sound_219 (by decide) ?_
    obtain ⟨k9, hV⟩ := hV
    refine r_callV (ci := 6) (As := [.int a1, .int a7, .int 0]) hC dL_sound_220 rfl cf_X6_pieceAt ml_7_38 im_X6_pieceAt sl_X6_pieceAt lq_6 rfl rfl k9 rfl ⟨(Nat.le_of_ble_eq_true rfl), (Nat.le_of_ble_eq_true rfl), (Nat.le_of_ble_eq_true rfl), (Nat.le_of_ble_eq_true rfl)⟩ cs0 (Nat.le_of_ble_eq_true rfl) (con_X6_pieceAt a0 a1 a7 0 h _ hV) rfl (kI (k := 0) (n := 0) (fun r1 h1 hV => ?_))
    refine r_bipush (v := (-4)) hC dL_sound_223 (by decide) ?_
    refine r_icmp_eq (tgt := 230) hC dL_sound_225 (by decide) (fun k9 => ?_) (fun k9 => ?_)
    · replace hV := hV.1 k9
      exact ok_L_sound_230 hC hQ hC35 a0 a1 a2 a3 a4 a5 a6 a7 h1 hV
    · replace hV := hV.2 k9
      refine r_sub (lo1 := [none, none, none, none, none, none, none, none, none, none, none, none, none]) ⟨Or.inl rfl, ⟨Or.inl rfl, ⟨Or.inl rfl, ⟨Or.inl rfl, ⟨Or.inl rfl, ⟨Or.inl rfl, ⟨Or.inl rfl, ⟨Or.inl rfl, ⟨Or.inl rfl, ⟨Or.inl rfl, ⟨Or.inl rfl, ⟨Or.inl rfl, ⟨Or.inl rfl, trivial⟩⟩⟩⟩⟩⟩⟩⟩⟩⟩⟩⟩⟩ ?_
      exact ok_L_sound_228 hC hQ  h1 hV
set_option maxRecDepth 100000 in
set_option maxHeartbeats 4000000 in
theorem ok_L_sound_196 {E : Ev} {X : Xt} {l0 : Launch} {K : Int32 → Hp → Prop} {C35 : Nat → Int32 → Int32 → Int32 → Int32 → Int32 → Int32 → Int32 → Hp → Prop} (hC : Cx E X l0 RL cL_sound 13 rm_L_sound) (hQ : CQ E X "sound" (some .boolean) rm_L_sound (KI K)) (hC35 : ∀ (a0 : Nat) (a1 : Int32) (a2 : Int32) (a3 : Int32) (a4 : Int32) (a5 : Int32) (a6 : Int32) (a7 : Int32) (h : Hp), C35 a0 a1 a2 a3 a4 a5 a6 a7 h → WW E X h 0 0 35 [some (rv a0), some (.int a1), some (.int a2), some (.int a3), some (.int a4), some (.int a5), some (.int a6), some (.int a7), none, none, none, none, none] []) (a0 : Nat) (a1 : Int32) (a2 : Int32) (a3 : Int32) (a4 : Int32) (a5 : Int32) (a6 : Int32) (a7 : Int32) (a10 : Int32) (h : Hp) (hV : V_L_sound_196 K C35 a0 a1 a2 a3 a4 a5 a6 a7 a10 h) : WW E X h 0 0 196 [some (rv a0), some (.int a1), some (.int a2), some (.int a3), some (.int a4), some (.int a5), some (.int a6), some (.int a7), none, none, some (.int a10), none, none] [] := by
  unfold V_L_sound_196 at hV
  refine r_iload_n hC dL_sound_196 rfl ?_
  refine r_if_eq (tgt := 211) hC dL_sound_197 (by decide) (fun k9 => ?_) (fun k9 => ?_)
  · replace hV := hV.1 k9
    refine r_sub (lo1 := [some (rv a0), some (.int a1), some (.int a2), some (.int a3), some (.int a4), some (.int a5), some (.int a6), some (.int a7), none, none, none, none, none]) ⟨Or.inr rfl, ⟨Or.inr rfl, ⟨Or.inr rfl, ⟨Or.inr rfl, ⟨Or.inr rfl, ⟨Or.inr rfl, ⟨Or.inr rfl, ⟨Or.inr rfl, ⟨Or.inl rfl, ⟨Or.inl rfl, ⟨Or.inl rfl, ⟨Or.inl rfl, ⟨Or.inl rfl, trivial⟩⟩⟩⟩⟩⟩⟩⟩⟩⟩⟩⟩⟩ ?_
    exact ok_L_sound_211 hC hQ hC35 a0 a1 a2 a3 a4 a5 a6 a7 h hV
  · replace hV := hV.2 k9
    refine r_iload hC dL_sound_200 rfl ?_
    refine r_aload_n hC dL_sound_202 rfl ?_
    refine r_iload_n hC dL_sound_203 rfl ?_
    refine r_iconst (v := 1) hC dL_sound_204 (by decide) ?_
    obtain ⟨k9, hV⟩ := hV
    refine r_callV (ci := 6) (As := [.int a1, .int 1]) hC dL_sound_205 rfl cf_X6_job ml_7_23 im_X6_job sl_X6_job lq_6 rfl rfl k9 rfl ⟨(Nat.le_of_ble_eq_true rfl), (Nat.le_of_ble_eq_true rfl), (Nat.le_of_ble_eq_true rfl), (Nat.le_of_ble_eq_true rfl)⟩ (csI cs0) (Nat.le_of_ble_eq_true rfl) (con_X6_job a0 a1 1 h _ hV) rfl (kI (k := 0) (n := 0) (fun r1 h1 hV => ?_))
    refine r_icmp_ne (tgt := 228) hC dL_sound_208 (by decide) (fun k9 => ?_) (fun k9 => ?_)
    · replace hV := hV.1 k9
      refine r_sub (lo1 := [none, none, none, none, none, none, none, none, none, none, none, none, none]) ⟨Or.inl rfl, ⟨Or.inl rfl, ⟨Or.inl rfl, ⟨Or.inl rfl, ⟨Or.inl rfl, ⟨Or.inl rfl, ⟨Or.inl rfl, ⟨Or.inl rfl, ⟨Or.inl rfl, ⟨Or.inl rfl, ⟨Or.inl rfl, ⟨Or.inl rfl, ⟨Or.inl rfl, trivial⟩⟩⟩⟩⟩⟩⟩⟩⟩⟩⟩⟩⟩ ?_
      exact ok_L_sound_228 hC hQ  h1 hV
    · replace hV := hV.2 k9
      refine r_sub (lo1 := [some (rv a0), some (.int a1), some (.int a2), some (.int a3), some (.int a4), some (.int a5), some (.int a6), some (.int a7), none, none, none, none, none]) ⟨Or.inr rfl, ⟨Or.inr rfl, ⟨Or.inr rfl, ⟨Or.inr rfl, ⟨Or.inr rfl, ⟨Or.inr rfl, ⟨Or.inr rfl, ⟨Or.inr rfl, ⟨Or.inl rfl, ⟨Or.inl rfl, ⟨Or.inl rfl, ⟨Or.inl rfl, ⟨Or.inl rfl, trivial⟩⟩⟩⟩⟩⟩⟩⟩⟩⟩⟩⟩⟩ ?_
      exact ok_L_sound_211 hC hQ hC35 a0 a1 a2 a3 a4 a5 a6 a7 h1 hV
set_option maxRecDepth 100000 in
set_option maxHeartbeats 4000000 in
theorem ok_L_sound_133 {E : Ev} {X : Xt} {l0 : Launch} {K : Int32 → Hp → Prop} {C35 : Nat → Int32 → Int32 → Int32 → Int32 → Int32 → Int32 → Int32 → Hp → Prop} (hC : Cx E X l0 RL cL_sound 13 rm_L_sound) (hQ : CQ E X "sound" (some .boolean) rm_L_sound (KI K)) (hC35 : ∀ (a0 : Nat) (a1 : Int32) (a2 : Int32) (a3 : Int32) (a4 : Int32) (a5 : Int32) (a6 : Int32) (a7 : Int32) (h : Hp), C35 a0 a1 a2 a3 a4 a5 a6 a7 h → WW E X h 0 0 35 [some (rv a0), some (.int a1), some (.int a2), some (.int a3), some (.int a4), some (.int a5), some (.int a6), some (.int a7), none, none, none, none, none] []) : ∀ (n : Nat) (a0 : Nat) (a1 : Int32) (a2 : Int32) (a3 : Int32) (a4 : Int32) (a5 : Int32) (a6 : Int32) (a7 : Int32) (a10 : Int32) (a11 : Int32) (h : Hp), V_L_sound_133 K C35 n a0 a1 a2 a3 a4 a5 a6 a7 a10 a11 h → WW E X h 0 0 133 [some (rv a0), some (.int a1), some (.int a2), some (.int a3), some (.int a4), some (.int a5), some (.int a6), some (.int a7), none, none, some (.int a10), some (.int a11), none] [] := by
  intro n
  induction n with
  | zero => intro a0 a1 a2 a3 a4 a5 a6 a7 a10 a11 h hV; exact hV.elim
  | succ n ih =>
    intro a0 a1 a2 a3 a4 a5 a6 a7 a10 a11 h hV
    unfold V_L_sound_133 at hV
    refine r_iload_n hC dL_sound_133 rfl ?_
    refine r_if_eq (tgt := 196) hC dL_sound_134 (by decide) (fun k9 => ?_) (fun k9 => ?_)
    · replace hV := hV.1 k9
      refine r_sub (lo1 := [some (rv a0), some (.int a1), some (.int a2), some (.int a3), some (.int a4), some (.int a5), some (.int a6), some (.int a7), none, none, some (.int a10), none, none]) ⟨Or.inr rfl, ⟨Or.inr rfl, ⟨Or.inr rfl, ⟨Or.inr rfl, ⟨Or.inr rfl, ⟨Or.inr rfl, ⟨Or.inr rfl, ⟨Or.inr rfl, ⟨Or.inl rfl, ⟨Or.inl rfl, ⟨Or.inr rfl, ⟨Or.inl rfl, ⟨Or.inl rfl, trivial⟩⟩⟩⟩⟩⟩⟩⟩⟩⟩⟩⟩⟩ ?_
      exact ok_L_sound_196 hC hQ hC35 a0 a1 a2 a3 a4 a5 a6 a7 a10 h hV
    · replace hV := hV.2 k9
      refine r_aload_n hC dL_sound_137 rfl ?_
      refine r_iload_n hC dL_sound_138 rfl ?_
      refine r_iload hC dL_sound_139 rfl ?_
      refine r_iload hC dL_sound_141 rfl ?_
      obtain ⟨k9, hV⟩ := hV
      refine r_callV (ci := 6) (As := [.int a1, .int a7, .int a11]) hC dL_sound_143 rfl cf_X6_pieceAt ml_7_38 im_X6_pieceAt sl_X6_pieceAt lq_6 rfl rfl k9 rfl ⟨(Nat.le_of_ble_eq_true rfl), (Nat.le_of_ble_eq_true rfl), (Nat.le_of_ble_eq_true rfl), (Nat.le_of_ble_eq_true rfl)⟩ cs0 (Nat.le_of_ble_eq_true rfl) (con_X6_pieceAt a0 a1 a7 a11 h _ hV) rfl (kI (k := 0) (n := 0) (fun r1 h1 hV => ?_))
      refine r_if_lt (tgt := 196) hC dL_sound_146 (by decide) (fun k9 => ?_) (fun k9 => ?_)
      · replace hV := hV.1 k9
        refine r_sub (lo1 := [some (rv a0), some (.int a1), some (.int a2), some (.int a3), some (.int a4), some (.int a5), some (.int a6), some (.int a7), none, none, some (.int a10), none, none]) ⟨Or.inr rfl, ⟨Or.inr rfl, ⟨Or.inr rfl, ⟨Or.inr rfl, ⟨Or.inr rfl, ⟨Or.inr rfl, ⟨Or.inr rfl, ⟨Or.inr rfl, ⟨Or.inl rfl, ⟨Or.inl rfl, ⟨Or.inr rfl, ⟨Or.inl rfl, ⟨Or.inl rfl, trivial⟩⟩⟩⟩⟩⟩⟩⟩⟩⟩⟩⟩⟩ ?_
        exact ok_L_sound_196 hC hQ hC35 a0 a1 a2 a3 a4 a5 a6 a7 a10 h1 hV
      · replace hV := hV.2 k9
        refine r_aload_n hC dL_sound_149 rfl ?_
        refine r_iload_n hC dL_sound_150 rfl ?_
        refine r_iload hC dL_sound_151 rfl ?_
        refine r_iload hC dL_sound_153 rfl ?_
        obtain ⟨k9, hV⟩ := hV
        refine r_callV (ci := 6) (As := [.int a1, .int a7, .int a11]) hC dL_sound_155 rfl cf_X6_pieceAt ml_7_38 im_X6_pieceAt sl_X6_pieceAt lq_6 rfl rfl k9 rfl ⟨(Nat.le_of_ble_eq_true rfl), (Nat.le_of_ble_eq_true rfl), (Nat.le_of_ble_eq_true rfl), (Nat.le_of_ble_eq_true rfl)⟩ cs0 (Nat.le_of_ble_eq_true rfl) (con_X6_pieceAt a0 a1 a7 a11 h1 _ hV) rfl (kI (k := 0) (n := 0) (fun r2 h2 hV => ?_))
        refine r_istore (lo1 := [some (rv a0), some (.int a1), some (.int a2), some (.int a3), some (.int a4), some (.int a5), some (.int a6), some (.int a7), none, none, some (.int a10), some (.int a11), some (.int r2)]) hC dL_sound_158 (Nat.le_of_ble_eq_true rfl) (pvI rfl) rfl ?_
        refine r_iload hC dL_sound_160 rfl ?_
        refine r_iload hC dL_sound_162 rfl ?_
        refine r_callS (As := [.int r2]) hC dL_sound_164 rfl cf_L_wide ml_7_41 st_L_wide rfl ⟨(Nat.le_of_ble_eq_true rfl), (Nat.le_of_ble_eq_true rfl), (Nat.le_of_ble_eq_true rfl), (Nat.le_of_ble_eq_true rfl)⟩ (csI cs0) (Nat.le_of_ble_eq_true rfl) (con_L_wide r2 h2 _ hV) rfl (kI (k := 0) (n := 0) (fun r3 h3 hV => ?_))
        refine r_iadd hC dL_sound_167 ?_
        refine r_istore (lo1 := [some (rv a0), some (.int a1), some (.int a2), some (.int a3), some (.int a4), some (.int a5), some (.int a6), some (.int a7), none, none, some (.int (a10 + r3)), some (.int a11), some (.int r2)]) hC dL_sound_168 (Nat.le_of_ble_eq_true rfl) (pvN rfl) rfl ?_
        refine r_iinc (v := 1) (lo1 := [some (rv a0), some (.int a1), some (.int a2), some (.int a3), some (.int a4), some (.int (a5 + 1)), some (.int a6), some (.int a7), none, none, some (.int (a10 + r3)), some (.int a11), some (.int r2)]) hC dL_sound_170 rfl (by decide) (pvI rfl) rfl ?_
        refine r_iload hC dL_sound_173 rfl ?_
        refine r_iload hC dL_sound_175 rfl ?_
        refine r_bipush (v := 97) hC dL_sound_177 (by decide) ?_
        refine r_icmp_lt (tgt := 186) hC dL_sound_179 (by decide) (fun k9 => ?_) (fun k9 => ?_)
        · replace hV := hV.1 k9
          refine r_iconst (v := 0) hC dL_sound_186 (by decide) ?_
          refine r_sub (lo1 := [some (rv a0), some (.int a1), some (.int a2), some (.int a3), some (.int a4), some (.int (a5 + 1)), none, some (.int a7), none, none, some (.int (a10 + r3)), some (.int a11), none]) ⟨Or.inr rfl, ⟨Or.inr rfl, ⟨Or.inr rfl, ⟨Or.inr rfl, ⟨Or.inr rfl, ⟨Or.inr rfl, ⟨Or.inl rfl, ⟨Or.inr rfl, ⟨Or.inl rfl, ⟨Or.inl rfl, ⟨Or.inr rfl, ⟨Or.inr rfl, ⟨Or.inl rfl, trivial⟩⟩⟩⟩⟩⟩⟩⟩⟩⟩⟩⟩⟩ ?_
          exact ok_L_sound_187 hC hQ hC35 ih a0 a1 a2 a3 a4 (a5 + 1) a7 (a10 + r3) a11 a6 0 h3 hV
        · replace hV := hV.2 k9
          refine r_iconst (v := 1) hC dL_sound_182 (by decide) ?_
          refine r_goto (tgt := 187) hC dL_sound_183 (by decide) ?_
          refine r_sub (lo1 := [some (rv a0), some (.int a1), some (.int a2), some (.int a3), some (.int a4), some (.int (a5 + 1)), none, some (.int a7), none, none, some (.int (a10 + r3)), some (.int a11), none]) ⟨Or.inr rfl, ⟨Or.inr rfl, ⟨Or.inr rfl, ⟨Or.inr rfl, ⟨Or.inr rfl, ⟨Or.inr rfl, ⟨Or.inl rfl, ⟨Or.inr rfl, ⟨Or.inl rfl, ⟨Or.inl rfl, ⟨Or.inr rfl, ⟨Or.inr rfl, ⟨Or.inl rfl, trivial⟩⟩⟩⟩⟩⟩⟩⟩⟩⟩⟩⟩⟩ ?_
          exact ok_L_sound_187 hC hQ hC35 ih a0 a1 a2 a3 a4 (a5 + 1) a7 (a10 + r3) a11 a6 1 h3 hV
set_option maxRecDepth 100000 in
set_option maxHeartbeats 4000000 in
theorem ok_L_sound_66 {E : Ev} {X : Xt} {l0 : Launch} {K : Int32 → Hp → Prop} {C35 : Nat → Int32 → Int32 → Int32 → Int32 → Int32 → Int32 → Int32 → Hp → Prop} (hC : Cx E X l0 RL cL_sound 13 rm_L_sound) (hQ : CQ E X "sound" (some .boolean) rm_L_sound (KI K)) (hC35 : ∀ (a0 : Nat) (a1 : Int32) (a2 : Int32) (a3 : Int32) (a4 : Int32) (a5 : Int32) (a6 : Int32) (a7 : Int32) (h : Hp), C35 a0 a1 a2 a3 a4 a5 a6 a7 h → WW E X h 0 0 35 [some (rv a0), some (.int a1), some (.int a2), some (.int a3), some (.int a4), some (.int a5), some (.int a6), some (.int a7), none, none, none, none, none] []) : ∀ (n : Nat) (a0 : Nat) (a1 : Int32) (a2 : Int32) (a3 : Int32) (a4 : Int32) (a5 : Int32) (a6 : Int32) (a7 : Int32) (a8 : Int32) (a9 : Int32) (a10 : Int32) (a11 : Int32) (h : Hp), V_L_sound_66 K C35 n a0 a1 a2 a3 a4 a5 a6 a7 a8 a9 a10 a11 h → WW E X h 0 0 66 [some (rv a0), some (.int a1), some (.int a2), some (.int a3), some (.int a4), some (.int a5), some (.int a6), some (.int a7), some (.int a8), some (.int a9), some (.int a10), some (.int a11), none] [] := by
  intro n
  induction n with
  | zero => intro a0 a1 a2 a3 a4 a5 a6 a7 a8 a9 a10 a11 h hV; exact hV.elim
  | succ n ih =>
    intro a0 a1 a2 a3 a4 a5 a6 a7 a8 a9 a10 a11 h hV
    unfold V_L_sound_66 at hV
    refine r_aload_n hC dL_sound_66 rfl ?_
    refine r_iload_n hC dL_sound_67 rfl ?_
    refine r_iload hC dL_sound_68 rfl ?_
    refine r_iload hC dL_sound_70 rfl ?_
    obtain ⟨k9, hV⟩ := hV
    refine r_callV (ci := 6) (As := [.int a1, .int a7, .int a11]) hC dL_sound_72 rfl cf_X6_gap ml_7_35 im_X6_gap sl_X6_gap lq_6 rfl rfl k9 rfl ⟨(Nat.le_of_ble_eq_true rfl), (Nat.le_of_ble_eq_true rfl), (Nat.le_of_ble_eq_true rfl), (Nat.le_of_ble_eq_true rfl)⟩ cs0 (Nat.le_of_ble_eq_true rfl) (con_X6_gap a0 a1 a7 a11 h _ hV) rfl (kI (k := 0) (n := 0) (fun r1 h1 hV => ?_))
    refine r_if_lt (tgt := 130) hC dL_sound_75 (by decide) (fun k9 => ?_) (fun k9 => ?_)
    · replace hV := hV.1 k9
      refine r_iconst (v := 0) hC dL_sound_130 (by decide) ?_
      refine r_istore (lo1 := [some (rv a0), some (.int a1), some (.int a2), some (.int a3), some (.int a4), some (.int a5), some (.int a6), some (.int a7), some (.int a8), some (.int a9), some (.int a10), some (.int 0), none]) hC dL_sound_131 (Nat.le_of_ble_eq_true rfl) (pvI rfl) rfl ?_
      refine r_sub (lo1 := [some (rv a0), some (.int a1), some (.int a2), some (.int a3), some (.int a4), some (.int a5), some (.int a6), some (.int a7), none, none, some (.int a10), some (.int 0), none]) ⟨Or.inr rfl, ⟨Or.inr rfl, ⟨Or.inr rfl, ⟨Or.inr rfl, ⟨Or.inr rfl, ⟨Or.inr rfl, ⟨Or.inr rfl, ⟨Or.inr rfl, ⟨Or.inl rfl, ⟨Or.inl rfl, ⟨Or.inr rfl, ⟨Or.inr rfl, ⟨Or.inl rfl, trivial⟩⟩⟩⟩⟩⟩⟩⟩⟩⟩⟩⟩⟩ ?_
      obtain ⟨n9, hV⟩ := hV
      exact ok_L_sound_133 hC hQ hC35 n9 a0 a1 a2 a3 a4 a5 a6 a7 a10 0 h1 hV
    · replace hV := hV.2 k9
      refine r_aload_n hC dL_sound_78 rfl ?_
      refine r_iload_n hC dL_sound_79 rfl ?_
      refine r_iload hC dL_sound_80 rfl ?_
      refine r_iload hC dL_sound_82 rfl ?_
      obtain ⟨k9, hV⟩ := hV
      refine r_callV (ci := 6) (As := [.int a1, .int a7, .int a11]) hC dL_sound_84 rfl cf_X6_gap ml_7_35 im_X6_gap sl_X6_gap lq_6 rfl rfl k9 rfl ⟨(Nat.le_of_ble_eq_true rfl), (Nat.le_of_ble_eq_true rfl), (Nat.le_of_ble_eq_true rfl), (Nat.le_of_ble_eq_true rfl)⟩ cs0 (Nat.le_of_ble_eq_true rfl) (con_X6_gap a0 a1 a7 a11 h1 _ hV) rfl (kI (k := 0) (n := 0) (fun r2 h2 hV => ?_))
      refine r_iload hC dL_sound_87 rfl ?_
      refine r_icmp_gt (tgt := 108) hC dL_sound_89 (by decide) (fun k9 => ?_) (fun k9 => ?_)
      · replace hV := hV.1 k9
        refine r_sub (lo1 := [none, none, none, none, none, none, none, none, none, none, none, none, none]) ⟨Or.inl rfl, ⟨Or.inl rfl, ⟨Or.inl rfl, ⟨Or.inl rfl, ⟨Or.inl rfl, ⟨Or.inl rfl, ⟨Or.inl rfl, ⟨Or.inl rfl, ⟨Or.inl rfl, ⟨Or.inl rfl, ⟨Or.inl rfl, ⟨Or.inl rfl, ⟨Or.inl rfl, trivial⟩⟩⟩⟩⟩⟩⟩⟩⟩⟩⟩⟩⟩ ?_
        exact ok_L_sound_108 hC hQ  h2 hV
      · replace hV := hV.2 k9
        refine r_aload_n hC dL_sound_92 rfl ?_
        refine r_iload_n hC dL_sound_93 rfl ?_
        refine r_iload hC dL_sound_94 rfl ?_
        refine r_iload hC dL_sound_96 rfl ?_
        obtain ⟨k9, hV⟩ := hV
        refine r_callV (ci := 6) (As := [.int a1, .int a7, .int a11]) hC dL_sound_98 rfl cf_X6_gap ml_7_35 im_X6_gap sl_X6_gap lq_6 rfl rfl k9 rfl ⟨(Nat.le_of_ble_eq_true rfl), (Nat.le_of_ble_eq_true rfl), (Nat.le_of_ble_eq_true rfl), (Nat.le_of_ble_eq_true rfl)⟩ cs0 (Nat.le_of_ble_eq_true rfl) (con_X6_gap a0 a1 a7 a11 h2 _ hV) rfl (kI (k := 0) (n := 0) (fun r3 h3 hV => ?_))
        refine r_iload hC dL_sound_101 rfl ?_
        refine r_iconst (v := 1) hC dL_sound_103 (by decide) ?_
        refine r_isub hC dL_sound_104 ?_
        refine r_icmp_ge (tgt := 110) hC dL_sound_105 (by decide) (fun k9 => ?_) (fun k9 => ?_)
        · replace hV := hV.1 k9
          refine r_aload_n hC dL_sound_110 rfl ?_
          refine r_iload_n hC dL_sound_111 rfl ?_
          refine r_iload hC dL_sound_112 rfl ?_
          refine r_iload hC dL_sound_114 rfl ?_
          obtain ⟨k9, hV⟩ := hV
          refine r_callV (ci := 6) (As := [.int a1, .int a7, .int a11]) hC dL_sound_116 rfl cf_X6_gap ml_7_35 im_X6_gap sl_X6_gap lq_6 rfl rfl k9 rfl ⟨(Nat.le_of_ble_eq_true rfl), (Nat.le_of_ble_eq_true rfl), (Nat.le_of_ble_eq_true rfl), (Nat.le_of_ble_eq_true rfl)⟩ cs0 (Nat.le_of_ble_eq_true rfl) (con_X6_gap a0 a1 a7 a11 h3 _ hV) rfl (kI (k := 0) (n := 0) (fun r4 h4 hV => ?_))
          refine r_istore (lo1 := [some (rv a0), some (.int a1), some (.int a2), some (.int a3), some (.int a4), some (.int a5), some (.int a6), some (.int a7), some (.int a8), some (.int r4), some (.int a10), some (.int a11), none]) hC dL_sound_119 (Nat.le_of_ble_eq_true rfl) (pvI rfl) rfl ?_
          refine r_iinc (v := 1) (lo1 := [some (rv a0), some (.int a1), some (.int a2), some (.int a3), some (.int (a4 + 1)), some (.int a5), some (.int a6), some (.int a7), some (.int a8), some (.int r4), some (.int a10), some (.int a11), none]) hC dL_sound_121 rfl (by decide) (pvI rfl) rfl ?_
          refine r_iinc (v := 1) (lo1 := [some (rv a0), some (.int a1), some (.int a2), some (.int a3), some (.int (a4 + 1)), some (.int a5), some (.int a6), some (.int a7), some (.int a8), some (.int r4), some (.int a10), some (.int (a11 + 1)), none]) hC dL_sound_124 rfl (by decide) (pvI rfl) rfl ?_
          refine r_goto (tgt := 66) hC dL_sound_127 (by decide) ?_
          exact ih a0 a1 a2 a3 (a4 + 1) a5 a6 a7 a8 r4 a10 (a11 + 1) h4 hV
        · replace hV := hV.2 k9
          refine r_sub (lo1 := [none, none, none, none, none, none, none, none, none, none, none, none, none]) ⟨Or.inl rfl, ⟨Or.inl rfl, ⟨Or.inl rfl, ⟨Or.inl rfl, ⟨Or.inl rfl, ⟨Or.inl rfl, ⟨Or.inl rfl, ⟨Or.inl rfl, ⟨Or.inl rfl, ⟨Or.inl rfl, ⟨Or.inl rfl, ⟨Or.inl rfl, ⟨Or.inl rfl, trivial⟩⟩⟩⟩⟩⟩⟩⟩⟩⟩⟩⟩⟩ ?_
          exact ok_L_sound_108 hC hQ  h3 hV
set_option maxRecDepth 100000 in
set_option maxHeartbeats 4000000 in
theorem ok_L_sound_305 {E : Ev} {X : Xt} {l0 : Launch} {K : Int32 → Hp → Prop} {C245 : Nat → Int32 → Int32 → Int32 → Int32 → Int32 → Int32 → Int32 → Int32 → Int32 → Hp → Prop} {C255 : Nat → Int32 → Int32 → Int32 → Int32 → Int32 → Int32 → Int32 → Int32 → Int32 → Int32 → Hp → Prop} (hC : Cx E X l0 RL cL_sound 13 rm_L_sound) (hQ : CQ E X "sound" (some .boolean) rm_L_sound (KI K)) (hC245 : ∀ (a0 : Nat) (a1 : Int32) (a2 : Int32) (a3 : Int32) (a4 : Int32) (a5 : Int32) (a6 : Int32) (a7 : Int32) (a8 : Int32) (a9 : Int32) (h : Hp), C245 a0 a1 a2 a3 a4 a5 a6 a7 a8 a9 h → WW E X h 0 0 245 [some (rv a0), some (.int a1), some (.int a2), some (.int a3), some (.int a4), some (.int a5), some (.int a6), some (.int a7), some (.int a8), some (.int a9), none, none, none] []) (hC255 : ∀ (a0 : Nat) (a1 : Int32) (a2 : Int32) (a3 : Int32) (a4 : Int32) (a5 : Int32) (a6 : Int32) (a7 : Int32) (a8 : Int32) (a9 : Int32) (a10 : Int32) (h : Hp), C255 a0 a1 a2 a3 a4 a5 a6 a7 a8 a9 a10 h → WW E X h 0 0 255 [some (rv a0), some (.int a1), some (.int a2), some (.int a3), some (.int a4), some (.int a5), some (.int a6), some (.int a7), some (.int a8), some (.int a9), some (.int a10), none, none] []) (a0 : Nat) (a1 : Int32) (a2 : Int32) (a3 : Int32) (a4 : Int32) (a5 : Int32) (a6 : Int32) (a7 : Int32) (a9 : Int32) (a10 : Int32) (s0 : Int32) (s1 : Int32) (h : Hp) (hV : V_L_sound_305 K C245 C255 a0 a1 a2 a3 a4 a5 a6 a7 a9 a10 s0 s1 h) : WW E X h 0 0 305 [some (rv a0), some (.int a1), some (.int a2), some (.int a3), some (.int a4), some (.int a5), some (.int a6), some (.int a7), none, some (.int a9), some (.int a10), none, none] [.int s1, .int s0] := by
  unfold V_L_sound_305 at hV
  refine r_iadd hC dL_sound_305 ?_
  refine r_istore (lo1 := [some (rv a0), some (.int a1), some (.int a2), some (.int a3), some (.int a4), some (.int a5), some (.int a6), some (.int a7), some (.int (s0 + s1)), some (.int a9), some (.int a10), none, none]) hC dL_sound_306 (Nat.le_of_ble_eq_true rfl) (pvI rfl) rfl ?_
  refine r_iinc (v := 1) (lo1 := [some (rv a0), some (.int a1), some (.int a2), some (.int a3), some (.int a4), some (.int a5), some (.int a6), some (.int a7), some (.int (s0 + s1)), some (.int a9), some (.int (a10 + 1)), none, none]) hC dL_sound_308 rfl (by decide) (pvI rfl) rfl ?_
  refine r_goto (tgt := 255) hC dL_sound_311 (by decide) ?_
  exact hC255 a0 a1 a2 a3 a4 a5 a6 a7 (s0 + s1) a9 (a10 + 1) h hV
set_option maxRecDepth 100000 in
set_option maxHeartbeats 4000000 in
theorem ok_L_sound_255 {E : Ev} {X : Xt} {l0 : Launch} {K : Int32 → Hp → Prop} {C245 : Nat → Int32 → Int32 → Int32 → Int32 → Int32 → Int32 → Int32 → Int32 → Int32 → Hp → Prop} (hC : Cx E X l0 RL cL_sound 13 rm_L_sound) (hQ : CQ E X "sound" (some .boolean) rm_L_sound (KI K)) (hC245 : ∀ (a0 : Nat) (a1 : Int32) (a2 : Int32) (a3 : Int32) (a4 : Int32) (a5 : Int32) (a6 : Int32) (a7 : Int32) (a8 : Int32) (a9 : Int32) (h : Hp), C245 a0 a1 a2 a3 a4 a5 a6 a7 a8 a9 h → WW E X h 0 0 245 [some (rv a0), some (.int a1), some (.int a2), some (.int a3), some (.int a4), some (.int a5), some (.int a6), some (.int a7), some (.int a8), some (.int a9), none, none, none] []) : ∀ (n : Nat) (a0 : Nat) (a1 : Int32) (a2 : Int32) (a3 : Int32) (a4 : Int32) (a5 : Int32) (a6 : Int32) (a7 : Int32) (a8 : Int32) (a9 : Int32) (a10 : Int32) (h : Hp), V_L_sound_255 K C245 n a0 a1 a2 a3 a4 a5 a6 a7 a8 a9 a10 h → WW E X h 0 0 255 [some (rv a0), some (.int a1), some (.int a2), some (.int a3), some (.int a4), some (.int a5), some (.int a6), some (.int a7), some (.int a8), some (.int a9), some (.int a10), none, none] [] := by
  intro n
  induction n with
  | zero => intro a0 a1 a2 a3 a4 a5 a6 a7 a8 a9 a10 h hV; exact hV.elim
  | succ n ih =>
    intro a0 a1 a2 a3 a4 a5 a6 a7 a8 a9 a10 h hV
    unfold V_L_sound_255 at hV
    refine r_iload hC dL_sound_255 rfl ?_
    refine r_aload_n hC dL_sound_257 rfl ?_
    refine r_iconst (v := 0) hC dL_sound_258 (by decide) ?_
    obtain ⟨k9, hV⟩ := hV
    refine r_callV (ci := 6) (As := [.int 0]) hC dL_sound_259 rfl cf_X6_count ml_7_13 im_X6_count sl_X6_count lq_6 rfl rfl k9 rfl ⟨(Nat.le_of_ble_eq_true rfl), (Nat.le_of_ble_eq_true rfl), (Nat.le_of_ble_eq_true rfl), (Nat.le_of_ble_eq_true rfl)⟩ (csI cs0) (Nat.le_of_ble_eq_true rfl) (con_X6_count a0 0 h _ hV) rfl (kI (k := 0) (n := 0) (fun r1 h1 hV => ?_))
    refine r_icmp_ge (tgt := 314) hC dL_sound_262 (by decide) (fun k9 => ?_) (fun k9 => ?_)
    · replace hV := hV.1 k9
      refine r_iinc (v := 1) (lo1 := [some (rv a0), some (.int a1), some (.int a2), some (.int a3), some (.int a4), some (.int a5), some (.int a6), some (.int a7), some (.int a8), some (.int (a9 + 1)), some (.int a10), none, none]) hC dL_sound_314 rfl (by decide) (pvI rfl) rfl ?_
      refine r_goto (tgt := 245) hC dL_sound_317 (by decide) ?_
      refine r_sub (lo1 := [some (rv a0), some (.int a1), some (.int a2), some (.int a3), some (.int a4), some (.int a5), some (.int a6), some (.int a7), some (.int a8), some (.int (a9 + 1)), none, none, none]) ⟨Or.inr rfl, ⟨Or.inr rfl, ⟨Or.inr rfl, ⟨Or.inr rfl, ⟨Or.inr rfl, ⟨Or.inr rfl, ⟨Or.inr rfl, ⟨Or.inr rfl, ⟨Or.inr rfl, ⟨Or.inr rfl, ⟨Or.inl rfl, ⟨Or.inl rfl, ⟨Or.inl rfl, trivial⟩⟩⟩⟩⟩⟩⟩⟩⟩⟩⟩⟩⟩ ?_
      exact hC245 a0 a1 a2 a3 a4 a5 a6 a7 a8 (a9 + 1) h1 hV
    · replace hV := hV.2 k9
      refine r_iload hC dL_sound_265 rfl ?_
      refine r_aload_n hC dL_sound_267 rfl ?_
      refine r_iload_n hC dL_sound_268 rfl ?_
      refine r_iload hC dL_sound_269 rfl ?_
      refine r_iload hC dL_sound_271 rfl ?_
      obtain ⟨k9, hV⟩ := hV
      refine r_callV (ci := 6) (As := [.int a1, .int a10, .int a9]) hC dL_sound_273 rfl cf_X6_taken ml_7_31 im_X6_taken sl_X6_taken lq_6 rfl rfl k9 rfl ⟨(Nat.le_of_ble_eq_true rfl), (Nat.le_of_ble_eq_true rfl), (Nat.le_of_ble_eq_true rfl), (Nat.le_of_ble_eq_true rfl)⟩ (csI cs0) (Nat.le_of_ble_eq_true rfl) (con_X6_taken a0 a1 a10 a9 h1 _ hV) rfl (kI (k := 0) (n := 0) (fun r2 h2 hV => ?_))
      refine r_iadd hC dL_sound_276 ?_
      refine r_istore (lo1 := [some (rv a0), some (.int a1), some (.int a2), some (.int a3), some (.int a4), some (.int a5), some (.int a6), some (.int (a7 + r2)), some (.int a8), some (.int a9), some (.int a10), none, none]) hC dL_sound_277 (Nat.le_of_ble_eq_true rfl) (pvI rfl) rfl ?_
      refine r_iload hC dL_sound_279 rfl ?_
      refine r_iload hC dL_sound_281 rfl ?_
      refine r_aload_n hC dL_sound_283 rfl ?_
      refine r_iload_n hC dL_sound_284 rfl ?_
      refine r_iconst (v := 0) hC dL_sound_285 (by decide) ?_
      obtain ⟨k9, hV⟩ := hV
      refine r_callV (ci := 6) (As := [.int a1, .int 0]) hC dL_sound_286 rfl cf_X6_job ml_7_23 im_X6_job sl_X6_job lq_6 rfl rfl k9 rfl ⟨(Nat.le_of_ble_eq_true rfl), (Nat.le_of_ble_eq_true rfl), (Nat.le_of_ble_eq_true rfl), (Nat.le_of_ble_eq_true rfl)⟩ (csI (csI cs0)) (Nat.le_of_ble_eq_true rfl) (con_X6_job a0 a1 0 h2 _ hV) rfl (kI (k := 0) (n := 0) (fun r3 h3 hV => ?_))
      refine r_icmp_ne (tgt := 296) hC dL_sound_289 (by decide) (fun k9 => ?_) (fun k9 => ?_)
      · replace hV := hV.1 k9
        refine r_aload_n hC dL_sound_296 rfl ?_
        refine r_iload_n hC dL_sound_297 rfl ?_
        refine r_iload hC dL_sound_298 rfl ?_
        refine r_iload hC dL_sound_300 rfl ?_
        obtain ⟨k9, hV⟩ := hV
        refine r_callV (ci := 6) (As := [.int a1, .int a10, .int a9]) hC dL_sound_302 rfl cf_X6_taken ml_7_31 im_X6_taken sl_X6_taken lq_6 rfl rfl k9 rfl ⟨(Nat.le_of_ble_eq_true rfl), (Nat.le_of_ble_eq_true rfl), (Nat.le_of_ble_eq_true rfl), (Nat.le_of_ble_eq_true rfl)⟩ (csI cs0) (Nat.le_of_ble_eq_true rfl) (con_X6_taken a0 a1 a10 a9 h3 _ hV) rfl (kI (k := 0) (n := 0) (fun r4 h4 hV => ?_))
        refine r_sub (lo1 := [some (rv a0), some (.int a1), some (.int a2), some (.int a3), some (.int a4), some (.int a5), some (.int a6), some (.int (a7 + r2)), none, some (.int a9), some (.int a10), none, none]) ⟨Or.inr rfl, ⟨Or.inr rfl, ⟨Or.inr rfl, ⟨Or.inr rfl, ⟨Or.inr rfl, ⟨Or.inr rfl, ⟨Or.inr rfl, ⟨Or.inr rfl, ⟨Or.inl rfl, ⟨Or.inr rfl, ⟨Or.inr rfl, ⟨Or.inl rfl, ⟨Or.inl rfl, trivial⟩⟩⟩⟩⟩⟩⟩⟩⟩⟩⟩⟩⟩ ?_
        exact ok_L_sound_305 hC hQ hC245 ih a0 a1 a2 a3 a4 a5 a6 (a7 + r2) a9 a10 a8 r4 h4 hV
      · replace hV := hV.2 k9
        refine r_iconst (v := 0) hC dL_sound_292 (by decide) ?_
        refine r_goto (tgt := 305) hC dL_sound_293 (by decide) ?_
        refine r_sub (lo1 := [some (rv a0), some (.int a1), some (.int a2), some (.int a3), some (.int a4), some (.int a5), some (.int a6), some (.int (a7 + r2)), none, some (.int a9), some (.int a10), none, none]) ⟨Or.inr rfl, ⟨Or.inr rfl, ⟨Or.inr rfl, ⟨Or.inr rfl, ⟨Or.inr rfl, ⟨Or.inr rfl, ⟨Or.inr rfl, ⟨Or.inr rfl, ⟨Or.inl rfl, ⟨Or.inr rfl, ⟨Or.inr rfl, ⟨Or.inl rfl, ⟨Or.inl rfl, trivial⟩⟩⟩⟩⟩⟩⟩⟩⟩⟩⟩⟩⟩ ?_
        exact ok_L_sound_305 hC hQ hC245 ih a0 a1 a2 a3 a4 a5 a6 (a7 + r2) a9 a10 a8 0 h3 hV
set_option maxRecDepth 100000 in
set_option maxHeartbeats 4000000 in
theorem ok_L_sound_517 {E : Ev} {X : Xt} {l0 : Launch} {K : Int32 → Hp → Prop} (hC : Cx E X l0 RL cL_sound 13 rm_L_sound) (hQ : CQ E X "sound" (some .boolean) rm_L_sound (KI K)) (s0 : Int32) (h : Hp) (hV : V_L_sound_517 K s0 h) : WW E X h 0 0 517 [none, none, none, none, none, none, none, none, none, none, none, none, none] [.int s0] := by
  unfold V_L_sound_517 at hV
  exact r_zret hC hQ dL_sound_517 (Nat.le_of_ble_eq_true rfl) (Nat.le_of_ble_eq_true rfl) hV.1 ⟨_, rfl, hV.2⟩
set_option maxRecDepth 100000 in
set_option maxHeartbeats 4000000 in
theorem ok_L_sound_516 {E : Ev} {X : Xt} {l0 : Launch} {K : Int32 → Hp → Prop} (hC : Cx E X l0 RL cL_sound 13 rm_L_sound) (hQ : CQ E X "sound" (some .boolean) rm_L_sound (KI K)) (h : Hp) (hV : V_L_sound_516 K  h) : WW E X h 0 0 516 [none, none, none, none, none, none, none, none, none, none, none, none, none] [] := by
  unfold V_L_sound_516 at hV
  refine r_iconst (v := 0) hC dL_sound_516 (by decide) ?_
  exact ok_L_sound_517 hC hQ 0 h hV
set_option maxRecDepth 100000 in
set_option maxHeartbeats 4000000 in
theorem ok_L_sound_480 {E : Ev} {X : Xt} {l0 : Launch} {K : Int32 → Hp → Prop} (hC : Cx E X l0 RL cL_sound 13 rm_L_sound) (hQ : CQ E X "sound" (some .boolean) rm_L_sound (KI K)) (a0 : Nat) (a1 : Int32) (s0 : Int32) (s1 : Int32) (h : Hp) (hV : V_L_sound_480 K a0 a1 s0 s1 h) : WW E X h 0 0 480 [some (rv a0), some (.int a1), none, none, none, none, none, none, none, none, none, none, none] [.int s1, .int s0] := by
  unfold V_L_sound_480 at hV
  refine r_icmp_ne (tgt := 516) hC dL_sound_480 (by decide) (fun k9 => ?_) (fun k9 => ?_)
  · replace hV := hV.1 k9
    refine r_sub (lo1 := [none, none, none, none, none, none, none, none, none, none, none, none, none]) ⟨Or.inl rfl, ⟨Or.inl rfl, ⟨Or.inl rfl, ⟨Or.inl rfl, ⟨Or.inl rfl, ⟨Or.inl rfl, ⟨Or.inl rfl, ⟨Or.inl rfl, ⟨Or.inl rfl, ⟨Or.inl rfl, ⟨Or.inl rfl, ⟨Or.inl rfl, ⟨Or.inl rfl, trivial⟩⟩⟩⟩⟩⟩⟩⟩⟩⟩⟩⟩⟩ ?_
    exact ok_L_sound_516 hC hQ  h hV
  · replace hV := hV.2 k9
    refine r_aload_n hC dL_sound_483 rfl ?_
    refine r_iload_n hC dL_sound_484 rfl ?_
    refine r_aload_n hC dL_sound_485 rfl ?_
    refine r_iload_n hC dL_sound_486 rfl ?_
    refine r_iconst (v := 4) hC dL_sound_487 (by decide) ?_
    obtain ⟨k9, hV⟩ := hV
    refine r_callV (ci := 6) (As := [.int a1, .int 4]) hC dL_sound_488 rfl cf_X6_job ml_7_23 im_X6_job sl_X6_job lq_6 rfl rfl k9 rfl ⟨(Nat.le_of_ble_eq_true rfl), (Nat.le_of_ble_eq_true rfl), (Nat.le_of_ble_eq_true rfl), (Nat.le_of_ble_eq_true rfl)⟩ (csI (csR cs0)) (Nat.le_of_ble_eq_true rfl) (con_X6_job a0 a1 4 h _ hV) rfl (kI (k := 0) (n := 0) (fun r1 h1 hV => ?_))
    refine r_iconst (v := 0) hC dL_sound_491 (by decide) ?_
    obtain ⟨k9, hV⟩ := hV
    refine r_callV (ci := 6) (As := [.int a1, .int r1, .int 0]) hC dL_sound_492 rfl cf_X6_gap ml_7_35 im_X6_gap sl_X6_gap lq_6 rfl rfl k9 rfl ⟨(Nat.le_of_ble_eq_true rfl), (Nat.le_of_ble_eq_true rfl), (Nat.le_of_ble_eq_true rfl), (Nat.le_of_ble_eq_true rfl)⟩ cs0 (Nat.le_of_ble_eq_true rfl) (con_X6_gap a0 a1 r1 0 h1 _ hV) rfl (kI (k := 0) (n := 0) (fun r2 h2 hV => ?_))
    refine r_bipush (v := (-5)) hC dL_sound_495 (by decide) ?_
    refine r_icmp_ne (tgt := 516) hC dL_sound_497 (by decide) (fun k9 => ?_) (fun k9 => ?_)
    · replace hV := hV.1 k9
      refine r_sub (lo1 := [none, none, none, none, none, none, none, none, none, none, none, none, none]) ⟨Or.inl rfl, ⟨Or.inl rfl, ⟨Or.inl rfl, ⟨Or.inl rfl, ⟨Or.inl rfl, ⟨Or.inl rfl, ⟨Or.inl rfl, ⟨Or.inl rfl, ⟨Or.inl rfl, ⟨Or.inl rfl, ⟨Or.inl rfl, ⟨Or.inl rfl, ⟨Or.inl rfl, trivial⟩⟩⟩⟩⟩⟩⟩⟩⟩⟩⟩⟩⟩ ?_
      exact ok_L_sound_516 hC hQ  h2 hV
    · replace hV := hV.2 k9
      refine r_aload_n hC dL_sound_500 rfl ?_
      refine r_iload_n hC dL_sound_501 rfl ?_
      refine r_bipush (v := 11) hC dL_sound_502 (by decide) ?_
      obtain ⟨k9, hV⟩ := hV
      refine r_callV (ci := 6) (As := [.int a1, .int 11]) hC dL_sound_504 rfl cf_X6_job ml_7_23 im_X6_job sl_X6_job lq_6 rfl rfl k9 rfl ⟨(Nat.le_of_ble_eq_true rfl), (Nat.le_of_ble_eq_true rfl), (Nat.le_of_ble_eq_true rfl), (Nat.le_of_ble_eq_true rfl)⟩ cs0 (Nat.le_of_ble_eq_true rfl) (con_X6_job a0 a1 11 h2 _ hV) rfl (kI (k := 0) (n := 0) (fun r3 h3 hV => ?_))
      refine r_bipush (v := (-2)) hC dL_sound_507 (by decide) ?_
      refine r_icmp_ne (tgt := 516) hC dL_sound_509 (by decide) (fun k9 => ?_) (fun k9 => ?_)
      · replace hV := hV.1 k9
        refine r_sub (lo1 := [none, none, none, none, none, none, none, none, none, none, none, none, none]) ⟨Or.inl rfl, ⟨Or.inl rfl, ⟨Or.inl rfl, ⟨Or.inl rfl, ⟨Or.inl rfl, ⟨Or.inl rfl, ⟨Or.inl rfl, ⟨Or.inl rfl, ⟨Or.inl rfl, ⟨Or.inl rfl, ⟨Or.inl rfl, ⟨Or.inl rfl, ⟨Or.inl rfl, trivial⟩⟩⟩⟩⟩⟩⟩⟩⟩⟩⟩⟩⟩ ?_
        exact ok_L_sound_516 hC hQ  h3 hV
      · replace hV := hV.2 k9
        refine r_iconst (v := 1) hC dL_sound_512 (by decide) ?_
        refine r_goto (tgt := 517) hC dL_sound_513 (by decide) ?_
        refine r_sub (lo1 := [none, none, none, none, none, none, none, none, none, none, none, none, none]) ⟨Or.inl rfl, ⟨Or.inl rfl, ⟨Or.inl rfl, ⟨Or.inl rfl, ⟨Or.inl rfl, ⟨Or.inl rfl, ⟨Or.inl rfl, ⟨Or.inl rfl, ⟨Or.inl rfl, ⟨Or.inl rfl, ⟨Or.inl rfl, ⟨Or.inl rfl, ⟨Or.inl rfl, trivial⟩⟩⟩⟩⟩⟩⟩⟩⟩⟩⟩⟩⟩ ?_
        exact ok_L_sound_517 hC hQ 1 h3 hV
set_option maxRecDepth 100000 in
set_option maxHeartbeats 4000000 in
theorem ok_L_sound_465 {E : Ev} {X : Xt} {l0 : Launch} {K : Int32 → Hp → Prop} (hC : Cx E X l0 RL cL_sound 13 rm_L_sound) (hQ : CQ E X "sound" (some .boolean) rm_L_sound (KI K)) (a0 : Nat) (a1 : Int32) (s0 : Int32) (h : Hp) (hV : V_L_sound_465 K a0 a1 s0 h) : WW E X h 0 0 465 [some (rv a0), some (.int a1), none, none, none, none, none, none, none, none, none, none, none] [.int s0] := by
  unfold V_L_sound_465 at hV
  refine r_aload_n hC dL_sound_465 rfl ?_
  refine r_iload_n hC dL_sound_466 rfl ?_
  refine r_bipush (v := 9) hC dL_sound_467 (by decide) ?_
  obtain ⟨k9, hV⟩ := hV
  refine r_callV (ci := 6) (As := [.int a1, .int 9]) hC dL_sound_469 rfl cf_X6_job ml_7_23 im_X6_job sl_X6_job lq_6 rfl rfl k9 rfl ⟨(Nat.le_of_ble_eq_true rfl), (Nat.le_of_ble_eq_true rfl), (Nat.le_of_ble_eq_true rfl), (Nat.le_of_ble_eq_true rfl)⟩ (csI cs0) (Nat.le_of_ble_eq_true rfl) (con_X6_job a0 a1 9 h _ hV) rfl (kI (k := 0) (n := 0) (fun r1 h1 hV => ?_))
  refine r_if_lt (tgt := 479) hC dL_sound_472 (by decide) (fun k9 => ?_) (fun k9 => ?_)
  · replace hV := hV.1 k9
    refine r_iconst (v := 0) hC dL_sound_479 (by decide) ?_
    exact ok_L_sound_480 hC hQ a0 a1 s0 0 h1 hV
  · replace hV := hV.2 k9
    refine r_iconst (v := 1) hC dL_sound_475 (by decide) ?_
    refine r_goto (tgt := 480) hC dL_sound_476 (by decide) ?_
    exact ok_L_sound_480 hC hQ a0 a1 s0 1 h1 hV
set_option maxRecDepth 100000 in
set_option maxHeartbeats 4000000 in
theorem ok_L_sound_460 {E : Ev} {X : Xt} {l0 : Launch} {K : Int32 → Hp → Prop} (hC : Cx E X l0 RL cL_sound 13 rm_L_sound) (hQ : CQ E X "sound" (some .boolean) rm_L_sound (KI K)) (a0 : Nat) (a1 : Int32) (h : Hp) (hV : V_L_sound_460 K a0 a1 h) : WW E X h 0 0 460 [some (rv a0), some (.int a1), none, none, none, none, none, none, none, none, none, none, none] [] := by
  unfold V_L_sound_460 at hV
  refine r_iconst (v := 1) hC dL_sound_460 (by decide) ?_
  refine r_goto (tgt := 465) hC dL_sound_461 (by decide) ?_
  exact ok_L_sound_465 hC hQ a0 a1 1 h hV
set_option maxRecDepth 100000 in
set_option maxHeartbeats 4000000 in
theorem ok_L_sound_438 {E : Ev} {X : Xt} {l0 : Launch} {K : Int32 → Hp → Prop} (hC : Cx E X l0 RL cL_sound 13 rm_L_sound) (hQ : CQ E X "sound" (some .boolean) rm_L_sound (KI K)) (a0 : Nat) (a1 : Int32) (a2 : Int32) (a9 : Int32) (h : Hp) (hV : V_L_sound_438 K a0 a1 a2 a9 h) : WW E X h 0 0 438 [some (rv a0), some (.int a1), some (.int a2), none, none, none, none, none, none, some (.int a9), none, none, none] [] := by
  unfold V_L_sound_438 at hV
  refine r_aload_n hC dL_sound_438 rfl ?_
  refine r_iload_n hC dL_sound_439 rfl ?_
  refine r_bipush (v := 10) hC dL_sound_440 (by decide) ?_
  obtain ⟨k9, hV⟩ := hV
  refine r_callV (ci := 6) (As := [.int a1, .int 10]) hC dL_sound_442 rfl cf_X6_job ml_7_23 im_X6_job sl_X6_job lq_6 rfl rfl k9 rfl ⟨(Nat.le_of_ble_eq_true rfl), (Nat.le_of_ble_eq_true rfl), (Nat.le_of_ble_eq_true rfl), (Nat.le_of_ble_eq_true rfl)⟩ cs0 (Nat.le_of_ble_eq_true rfl) (con_X6_job a0 a1 10 h _ hV) rfl (kI (k := 0) (n := 0) (fun r1 h1 hV => ?_))
  refine r_iload hC dL_sound_445 rfl ?_
  refine r_icmp_ne (tgt := 516) hC dL_sound_447 (by decide) (fun k9 => ?_) (fun k9 => ?_)
  · replace hV := hV.1 k9
    refine r_sub (lo1 := [none, none, none, none, none, none, none, none, none, none, none, none, none]) ⟨Or.inl rfl, ⟨Or.inl rfl, ⟨Or.inl rfl, ⟨Or.inl rfl, ⟨Or.inl rfl, ⟨Or.inl rfl, ⟨Or.inl rfl, ⟨Or.inl rfl, ⟨Or.inl rfl, ⟨Or.inl rfl, ⟨Or.inl rfl, ⟨Or.inl rfl, ⟨Or.inl rfl, trivial⟩⟩⟩⟩⟩⟩⟩⟩⟩⟩⟩⟩⟩ ?_
    exact ok_L_sound_516 hC hQ  h1 hV
  · replace hV := hV.2 k9
    refine r_iload_n hC dL_sound_450 rfl ?_
    refine r_iconst (v := 2) hC dL_sound_451 (by decide) ?_
    refine r_icmp_eq (tgt := 460) hC dL_sound_452 (by decide) (fun k9 => ?_) (fun k9 => ?_)
    · replace hV := hV.1 k9
      refine r_sub (lo1 := [some (rv a0), some (.int a1), none, none, none, none, none, none, none, none, none, none, none]) ⟨Or.inr rfl, ⟨Or.inr rfl, ⟨Or.inl rfl, ⟨Or.inl rfl, ⟨Or.inl rfl, ⟨Or.inl rfl, ⟨Or.inl rfl, ⟨Or.inl rfl, ⟨Or.inl rfl, ⟨Or.inl rfl, ⟨Or.inl rfl, ⟨Or.inl rfl, ⟨Or.inl rfl, trivial⟩⟩⟩⟩⟩⟩⟩⟩⟩⟩⟩⟩⟩ ?_
      exact ok_L_sound_460 hC hQ a0 a1 h1 hV
    · replace hV := hV.2 k9
      refine r_iload_n hC dL_sound_455 rfl ?_
      refine r_iconst (v := 3) hC dL_sound_456 (by decide) ?_
      refine r_icmp_ne (tgt := 464) hC dL_sound_457 (by decide) (fun k9 => ?_) (fun k9 => ?_)
      · replace hV := hV.1 k9
        refine r_iconst (v := 0) hC dL_sound_464 (by decide) ?_
        refine r_sub (lo1 := [some (rv a0), some (.int a1), none, none, none, none, none, none, none, none, none, none, none]) ⟨Or.inr rfl, ⟨Or.inr rfl, ⟨Or.inl rfl, ⟨Or.inl rfl, ⟨Or.inl rfl, ⟨Or.inl rfl, ⟨Or.inl rfl, ⟨Or.inl rfl, ⟨Or.inl rfl, ⟨Or.inl rfl, ⟨Or.inl rfl, ⟨Or.inl rfl, ⟨Or.inl rfl, trivial⟩⟩⟩⟩⟩⟩⟩⟩⟩⟩⟩⟩⟩ ?_
        exact ok_L_sound_465 hC hQ a0 a1 0 h1 hV
      · replace hV := hV.2 k9
        refine r_sub (lo1 := [some (rv a0), some (.int a1), none, none, none, none, none, none, none, none, none, none, none]) ⟨Or.inr rfl, ⟨Or.inr rfl, ⟨Or.inl rfl, ⟨Or.inl rfl, ⟨Or.inl rfl, ⟨Or.inl rfl, ⟨Or.inl rfl, ⟨Or.inl rfl, ⟨Or.inl rfl, ⟨Or.inl rfl, ⟨Or.inl rfl, ⟨Or.inl rfl, ⟨Or.inl rfl, trivial⟩⟩⟩⟩⟩⟩⟩⟩⟩⟩⟩⟩⟩ ?_
        exact ok_L_sound_460 hC hQ a0 a1 h1 hV
set_option maxRecDepth 100000 in
set_option maxHeartbeats 4000000 in
theorem ok_L_sound_420 {E : Ev} {X : Xt} {l0 : Launch} {K : Int32 → Hp → Prop} (hC : Cx E X l0 RL cL_sound 13 rm_L_sound) (hQ : CQ E X "sound" (some .boolean) rm_L_sound (KI K)) (a0 : Nat) (a1 : Int32) (a2 : Int32) (a3 : Int32) (a6 : Int32) (a9 : Int32) (s0 : Int32) (s1 : Int32) (h : Hp) (hV : V_L_sound_420 K a0 a1 a2 a3 a6 a9 s0 s1 h) : WW E X h 0 0 420 [some (rv a0), some (.int a1), some (.int a2), some (.int a3), none, none, some (.int a6), none, none, some (.int a9), none, none, none] [.int s1, .int s0] := by
  unfold V_L_sound_420 at hV
  refine r_icmp_ne (tgt := 516) hC dL_sound_420 (by decide) (fun k9 => ?_) (fun k9 => ?_)
  · replace hV := hV.1 k9
    refine r_sub (lo1 := [none, none, none, none, none, none, none, none, none, none, none, none, none]) ⟨Or.inl rfl, ⟨Or.inl rfl, ⟨Or.inl rfl, ⟨Or.inl rfl, ⟨Or.inl rfl, ⟨Or.inl rfl, ⟨Or.inl rfl, ⟨Or.inl rfl, ⟨Or.inl rfl, ⟨Or.inl rfl, ⟨Or.inl rfl, ⟨Or.inl rfl, ⟨Or.inl rfl, trivial⟩⟩⟩⟩⟩⟩⟩⟩⟩⟩⟩⟩⟩ ?_
    exact ok_L_sound_516 hC hQ  h hV
  · replace hV := hV.2 k9
    refine r_iload_n hC dL_sound_423 rfl ?_
    refine r_if_eq (tgt := 438) hC dL_sound_424 (by decide) (fun k9 => ?_) (fun k9 => ?_)
    · replace hV := hV.1 k9
      refine r_sub (lo1 := [some (rv a0), some (.int a1), some (.int a2), none, none, none, none, none, none, some (.int a9), none, none, none]) ⟨Or.inr rfl, ⟨Or.inr rfl, ⟨Or.inr rfl, ⟨Or.inl rfl, ⟨Or.inl rfl, ⟨Or.inl rfl, ⟨Or.inl rfl, ⟨Or.inl rfl, ⟨Or.inl rfl, ⟨Or.inr rfl, ⟨Or.inl rfl, ⟨Or.inl rfl, ⟨Or.inl rfl, trivial⟩⟩⟩⟩⟩⟩⟩⟩⟩⟩⟩⟩⟩ ?_
      exact ok_L_sound_438 hC hQ a0 a1 a2 a9 h hV
    · replace hV := hV.2 k9
      refine r_iload hC dL_sound_427 rfl ?_
      refine r_aload_n hC dL_sound_429 rfl ?_
      refine r_iload_n hC dL_sound_430 rfl ?_
      refine r_iconst (v := 5) hC dL_sound_431 (by decide) ?_
      obtain ⟨k9, hV⟩ := hV
      refine r_callV (ci := 6) (As := [.int a1, .int 5]) hC dL_sound_432 rfl cf_X6_job ml_7_23 im_X6_job sl_X6_job lq_6 rfl rfl k9 rfl ⟨(Nat.le_of_ble_eq_true rfl), (Nat.le_of_ble_eq_true rfl), (Nat.le_of_ble_eq_true rfl), (Nat.le_of_ble_eq_true rfl)⟩ (csI cs0) (Nat.le_of_ble_eq_true rfl) (con_X6_job a0 a1 5 h _ hV) rfl (kI (k := 0) (n := 0) (fun r1 h1 hV => ?_))
      refine r_icmp_ne (tgt := 516) hC dL_sound_435 (by decide) (fun k9 => ?_) (fun k9 => ?_)
      · replace hV := hV.1 k9
        refine r_sub (lo1 := [none, none, none, none, none, none, none, none, none, none, none, none, none]) ⟨Or.inl rfl, ⟨Or.inl rfl, ⟨Or.inl rfl, ⟨Or.inl rfl, ⟨Or.inl rfl, ⟨Or.inl rfl, ⟨Or.inl rfl, ⟨Or.inl rfl, ⟨Or.inl rfl, ⟨Or.inl rfl, ⟨Or.inl rfl, ⟨Or.inl rfl, ⟨Or.inl rfl, trivial⟩⟩⟩⟩⟩⟩⟩⟩⟩⟩⟩⟩⟩ ?_
        exact ok_L_sound_516 hC hQ  h1 hV
      · replace hV := hV.2 k9
        refine r_sub (lo1 := [some (rv a0), some (.int a1), some (.int a2), none, none, none, none, none, none, some (.int a9), none, none, none]) ⟨Or.inr rfl, ⟨Or.inr rfl, ⟨Or.inr rfl, ⟨Or.inl rfl, ⟨Or.inl rfl, ⟨Or.inl rfl, ⟨Or.inl rfl, ⟨Or.inl rfl, ⟨Or.inl rfl, ⟨Or.inr rfl, ⟨Or.inl rfl, ⟨Or.inl rfl, ⟨Or.inl rfl, trivial⟩⟩⟩⟩⟩⟩⟩⟩⟩⟩⟩⟩⟩ ?_
        exact ok_L_sound_438 hC hQ a0 a1 a2 a9 h1 hV
set_option maxRecDepth 100000 in
set_option maxHeartbeats 4000000 in
theorem ok_L_sound_370 {E : Ev} {X : Xt} {l0 : Launch} {K : Int32 → Hp → Prop} (hC : Cx E X l0 RL cL_sound 13 rm_L_sound) (hQ : CQ E X "sound" (some .boolean) rm_L_sound (KI K)) (a0 : Nat) (a1 : Int32) (a2 : Int32) (a3 : Int32) (a4 : Int32) (a5 : Int32) (a6 : Int32) (a7 : Int32) (a8 : Int32) (s0 : Int32) (h : Hp) (hV : V_L_sound_370 K a0 a1 a2 a3 a4 a5 a6 a7 a8 s0 h) : WW E X h 0 0 370 [some (rv a0), some (.int a1), some (.int a2), some (.int a3), some (.int a4), some (.int a5), some (.int a6), some (.int a7), some (.int a8), none, none, none, none] [.int s0] := by
  unfold V_L_sound_370 at hV
  refine r_istore (lo1 := [some (rv a0), some (.int a1), some (.int a2), some (.int a3), some (.int a4), some (.int a5), some (.int a6), some (.int a7), some (.int a8), some (.int s0), none, none, none]) hC dL_sound_370 (Nat.le_of_ble_eq_true rfl) (pvI rfl) rfl ?_
  refine r_iload hC dL_sound_372 rfl ?_
  refine r_aload_n hC dL_sound_374 rfl ?_
  refine r_iload_n hC dL_sound_375 rfl ?_
  refine r_bipush (v := 6) hC dL_sound_376 (by decide) ?_
  obtain ⟨k9, hV⟩ := hV
  refine r_callV (ci := 6) (As := [.int a1, .int 6]) hC dL_sound_378 rfl cf_X6_job ml_7_23 im_X6_job sl_X6_job lq_6 rfl rfl k9 rfl ⟨(Nat.le_of_ble_eq_true rfl), (Nat.le_of_ble_eq_true rfl), (Nat.le_of_ble_eq_true rfl), (Nat.le_of_ble_eq_true rfl)⟩ (csI cs0) (Nat.le_of_ble_eq_true rfl) (con_X6_job a0 a1 6 h _ hV) rfl (kI (k := 0) (n := 0) (fun r1 h1 hV => ?_))
  refine r_icmp_ne (tgt := 516) hC dL_sound_381 (by decide) (fun k9 => ?_) (fun k9 => ?_)
  · replace hV := hV.1 k9
    refine r_sub (lo1 := [none, none, none, none, none, none, none, none, none, none, none, none, none]) ⟨Or.inl rfl, ⟨Or.inl rfl, ⟨Or.inl rfl, ⟨Or.inl rfl, ⟨Or.inl rfl, ⟨Or.inl rfl, ⟨Or.inl rfl, ⟨Or.inl rfl, ⟨Or.inl rfl, ⟨Or.inl rfl, ⟨Or.inl rfl, ⟨Or.inl rfl, ⟨Or.inl rfl, trivial⟩⟩⟩⟩⟩⟩⟩⟩⟩⟩⟩⟩⟩ ?_
    exact ok_L_sound_516 hC hQ  h1 hV
  · replace hV := hV.2 k9
    refine r_iload hC dL_sound_384 rfl ?_
    refine r_aload_n hC dL_sound_386 rfl ?_
    refine r_iload_n hC dL_sound_387 rfl ?_
    refine r_bipush (v := 7) hC dL_sound_388 (by decide) ?_
    obtain ⟨k9, hV⟩ := hV
    refine r_callV (ci := 6) (As := [.int a1, .int 7]) hC dL_sound_390 rfl cf_X6_job ml_7_23 im_X6_job sl_X6_job lq_6 rfl rfl k9 rfl ⟨(Nat.le_of_ble_eq_true rfl), (Nat.le_of_ble_eq_true rfl), (Nat.le_of_ble_eq_true rfl), (Nat.le_of_ble_eq_true rfl)⟩ (csI cs0) (Nat.le_of_ble_eq_true rfl) (con_X6_job a0 a1 7 h1 _ hV) rfl (kI (k := 0) (n := 0) (fun r2 h2 hV => ?_))
    refine r_icmp_ne (tgt := 516) hC dL_sound_393 (by decide) (fun k9 => ?_) (fun k9 => ?_)
    · replace hV := hV.1 k9
      refine r_sub (lo1 := [none, none, none, none, none, none, none, none, none, none, none, none, none]) ⟨Or.inl rfl, ⟨Or.inl rfl, ⟨Or.inl rfl, ⟨Or.inl rfl, ⟨Or.inl rfl, ⟨Or.inl rfl, ⟨Or.inl rfl, ⟨Or.inl rfl, ⟨Or.inl rfl, ⟨Or.inl rfl, ⟨Or.inl rfl, ⟨Or.inl rfl, ⟨Or.inl rfl, trivial⟩⟩⟩⟩⟩⟩⟩⟩⟩⟩⟩⟩⟩ ?_
      exact ok_L_sound_516 hC hQ  h2 hV
    · replace hV := hV.2 k9
      refine r_iload hC dL_sound_396 rfl ?_
      refine r_aload_n hC dL_sound_398 rfl ?_
      refine r_iload_n hC dL_sound_399 rfl ?_
      refine r_bipush (v := 8) hC dL_sound_400 (by decide) ?_
      obtain ⟨k9, hV⟩ := hV
      refine r_callV (ci := 6) (As := [.int a1, .int 8]) hC dL_sound_402 rfl cf_X6_job ml_7_23 im_X6_job sl_X6_job lq_6 rfl rfl k9 rfl ⟨(Nat.le_of_ble_eq_true rfl), (Nat.le_of_ble_eq_true rfl), (Nat.le_of_ble_eq_true rfl), (Nat.le_of_ble_eq_true rfl)⟩ (csI cs0) (Nat.le_of_ble_eq_true rfl) (con_X6_job a0 a1 8 h2 _ hV) rfl (kI (k := 0) (n := 0) (fun r3 h3 hV => ?_))
      refine r_icmp_ne (tgt := 516) hC dL_sound_405 (by decide) (fun k9 => ?_) (fun k9 => ?_)
      · replace hV := hV.1 k9
        refine r_sub (lo1 := [none, none, none, none, none, none, none, none, none, none, none, none, none]) ⟨Or.inl rfl, ⟨Or.inl rfl, ⟨Or.inl rfl, ⟨Or.inl rfl, ⟨Or.inl rfl, ⟨Or.inl rfl, ⟨Or.inl rfl, ⟨Or.inl rfl, ⟨Or.inl rfl, ⟨Or.inl rfl, ⟨Or.inl rfl, ⟨Or.inl rfl, ⟨Or.inl rfl, trivial⟩⟩⟩⟩⟩⟩⟩⟩⟩⟩⟩⟩⟩ ?_
        exact ok_L_sound_516 hC hQ  h3 hV
      · replace hV := hV.2 k9
        refine r_iload hC dL_sound_408 rfl ?_
        refine r_iload_n hC dL_sound_410 rfl ?_
        refine r_if_eq (tgt := 419) hC dL_sound_411 (by decide) (fun k9 => ?_) (fun k9 => ?_)
        · replace hV := hV.1 k9
          refine r_iconst (v := 0) hC dL_sound_419 (by decide) ?_
          refine r_sub (lo1 := [some (rv a0), some (.int a1), some (.int a2), some (.int a3), none, none, some (.int a6), none, none, some (.int s0), none, none, none]) ⟨Or.inr rfl, ⟨Or.inr rfl, ⟨Or.inr rfl, ⟨Or.inr rfl, ⟨Or.inl rfl, ⟨Or.inl rfl, ⟨Or.inr rfl, ⟨Or.inl rfl, ⟨Or.inl rfl, ⟨Or.inr rfl, ⟨Or.inl rfl, ⟨Or.inl rfl, ⟨Or.inl rfl, trivial⟩⟩⟩⟩⟩⟩⟩⟩⟩⟩⟩⟩⟩ ?_
          exact ok_L_sound_420 hC hQ a0 a1 a2 a3 a6 s0 a7 0 h3 hV
        · replace hV := hV.2 k9
          refine r_iload hC dL_sound_414 rfl ?_
          refine r_goto (tgt := 420) hC dL_sound_416 (by decide) ?_
          refine r_sub (lo1 := [some (rv a0), some (.int a1), some (.int a2), some (.int a3), none, none, some (.int a6), none, none, some (.int s0), none, none, none]) ⟨Or.inr rfl, ⟨Or.inr rfl, ⟨Or.inr rfl, ⟨Or.inr rfl, ⟨Or.inl rfl, ⟨Or.inl rfl, ⟨Or.inr rfl, ⟨Or.inl rfl, ⟨Or.inl rfl, ⟨Or.inr rfl, ⟨Or.inl rfl, ⟨Or.inl rfl, ⟨Or.inl rfl, trivial⟩⟩⟩⟩⟩⟩⟩⟩⟩⟩⟩⟩⟩ ?_
          exact ok_L_sound_420 hC hQ a0 a1 a2 a3 a6 s0 a7 a5 h3 hV
set_option maxRecDepth 100000 in
set_option maxHeartbeats 4000000 in
theorem ok_L_sound_245 {E : Ev} {X : Xt} {l0 : Launch} {K : Int32 → Hp → Prop} (hC : Cx E X l0 RL cL_sound 13 rm_L_sound) (hQ : CQ E X "sound" (some .boolean) rm_L_sound (KI K)) : ∀ (n : Nat) (a0 : Nat) (a1 : Int32) (a2 : Int32) (a3 : Int32) (a4 : Int32) (a5 : Int32) (a6 : Int32) (a7 : Int32) (a8 : Int32) (a9 : Int32) (h : Hp), V_L_sound_245 K n a0 a1 a2 a3 a4 a5 a6 a7 a8 a9 h → WW E X h 0 0 245 [some (rv a0), some (.int a1), some (.int a2), some (.int a3), some (.int a4), some (.int a5), some (.int a6), some (.int a7), some (.int a8), some (.int a9), none, none, none] [] := by
  intro n
  induction n with
  | zero => intro a0 a1 a2 a3 a4 a5 a6 a7 a8 a9 h hV; exact hV.elim
  | succ n ih =>
    intro a0 a1 a2 a3 a4 a5 a6 a7 a8 a9 h hV
    unfold V_L_sound_245 at hV
    refine r_iload hC dL_sound_245 rfl ?_
    refine r_bipush (v := 29) hC dL_sound_247 (by decide) ?_
    refine r_icmp_ge (tgt := 320) hC dL_sound_249 (by decide) (fun k9 => ?_) (fun k9 => ?_)
    · replace hV := hV.1 k9
      refine r_aload_n hC dL_sound_320 rfl ?_
      refine r_iload_n hC dL_sound_321 rfl ?_
      refine r_bipush (v := 9) hC dL_sound_322 (by decide) ?_
      obtain ⟨k9, hV⟩ := hV
      refine r_callV (ci := 6) (As := [.int a1, .int 9]) hC dL_sound_324 rfl cf_X6_job ml_7_23 im_X6_job sl_X6_job lq_6 rfl rfl k9 rfl ⟨(Nat.le_of_ble_eq_true rfl), (Nat.le_of_ble_eq_true rfl), (Nat.le_of_ble_eq_true rfl), (Nat.le_of_ble_eq_true rfl)⟩ cs0 (Nat.le_of_ble_eq_true rfl) (con_X6_job a0 a1 9 h _ hV) rfl (kI (k := 0) (n := 0) (fun r1 h1 hV => ?_))
      refine r_if_ge (tgt := 335) hC dL_sound_327 (by decide) (fun k9 => ?_) (fun k9 => ?_)
      · replace hV := hV.1 k9
        refine r_aload_n hC dL_sound_335 rfl ?_
        refine r_iload_n hC dL_sound_336 rfl ?_
        refine r_bipush (v := 9) hC dL_sound_337 (by decide) ?_
        obtain ⟨k9, hV⟩ := hV
        refine r_callV (ci := 6) (As := [.int a1, .int 9]) hC dL_sound_339 rfl cf_X6_job ml_7_23 im_X6_job sl_X6_job lq_6 rfl rfl k9 rfl ⟨(Nat.le_of_ble_eq_true rfl), (Nat.le_of_ble_eq_true rfl), (Nat.le_of_ble_eq_true rfl), (Nat.le_of_ble_eq_true rfl)⟩ cs0 (Nat.le_of_ble_eq_true rfl) (con_X6_job a0 a1 9 h1 _ hV) rfl (kI (k := 0) (n := 0) (fun r2 h2 hV => ?_))
        refine r_aload_n hC dL_sound_342 rfl ?_
        refine r_iload_n hC dL_sound_343 rfl ?_
        refine r_iconst (v := 2) hC dL_sound_344 (by decide) ?_
        obtain ⟨k9, hV⟩ := hV
        refine r_callV (ci := 6) (As := [.int a1, .int 2]) hC dL_sound_345 rfl cf_X6_job ml_7_23 im_X6_job sl_X6_job lq_6 rfl rfl k9 rfl ⟨(Nat.le_of_ble_eq_true rfl), (Nat.le_of_ble_eq_true rfl), (Nat.le_of_ble_eq_true rfl), (Nat.le_of_ble_eq_true rfl)⟩ (csI cs0) (Nat.le_of_ble_eq_true rfl) (con_X6_job a0 a1 2 h2 _ hV) rfl (kI (k := 0) (n := 0) (fun r3 h3 hV => ?_))
        refine r_isub hC dL_sound_348 ?_
        refine r_if_ge (tgt := 356) hC dL_sound_349 (by decide) (fun k9 => ?_) (fun k9 => ?_)
        · replace hV := hV.1 k9
          refine r_aload_n hC dL_sound_356 rfl ?_
          refine r_iload_n hC dL_sound_357 rfl ?_
          refine r_bipush (v := 9) hC dL_sound_358 (by decide) ?_
          obtain ⟨k9, hV⟩ := hV
          refine r_callV (ci := 6) (As := [.int a1, .int 9]) hC dL_sound_360 rfl cf_X6_job ml_7_23 im_X6_job sl_X6_job lq_6 rfl rfl k9 rfl ⟨(Nat.le_of_ble_eq_true rfl), (Nat.le_of_ble_eq_true rfl), (Nat.le_of_ble_eq_true rfl), (Nat.le_of_ble_eq_true rfl)⟩ cs0 (Nat.le_of_ble_eq_true rfl) (con_X6_job a0 a1 9 h3 _ hV) rfl (kI (k := 0) (n := 0) (fun r4 h4 hV => ?_))
          refine r_aload_n hC dL_sound_363 rfl ?_
          refine r_iload_n hC dL_sound_364 rfl ?_
          refine r_iconst (v := 2) hC dL_sound_365 (by decide) ?_
          obtain ⟨k9, hV⟩ := hV
          refine r_callV (ci := 6) (As := [.int a1, .int 2]) hC dL_sound_366 rfl cf_X6_job ml_7_23 im_X6_job sl_X6_job lq_6 rfl rfl k9 rfl ⟨(Nat.le_of_ble_eq_true rfl), (Nat.le_of_ble_eq_true rfl), (Nat.le_of_ble_eq_true rfl), (Nat.le_of_ble_eq_true rfl)⟩ (csI cs0) (Nat.le_of_ble_eq_true rfl) (con_X6_job a0 a1 2 h4 _ hV) rfl (kI (k := 0) (n := 0) (fun r5 h5 hV => ?_))
          refine r_isub hC dL_sound_369 ?_
          refine r_sub (lo1 := [some (rv a0), some (.int a1), some (.int a2), some (.int a3), some (.int a4), some (.int a5), some (.int a6), some (.int a7), some (.int a8), none, none, none, none]) ⟨Or.inr rfl, ⟨Or.inr rfl, ⟨Or.inr rfl, ⟨Or.inr rfl, ⟨Or.inr rfl, ⟨Or.inr rfl, ⟨Or.inr rfl, ⟨Or.inr rfl, ⟨Or.inr rfl, ⟨Or.inl rfl, ⟨Or.inl rfl, ⟨Or.inl rfl, ⟨Or.inl rfl, trivial⟩⟩⟩⟩⟩⟩⟩⟩⟩⟩⟩⟩⟩ ?_
          exact ok_L_sound_370 hC hQ a0 a1 a2 a3 a4 a5 a6 a7 a8 (r4 - r5) h5 hV
        · replace hV := hV.2 k9
          refine r_iconst (v := 0) hC dL_sound_352 (by decide) ?_
          refine r_goto (tgt := 370) hC dL_sound_353 (by decide) ?_
          refine r_sub (lo1 := [some (rv a0), some (.int a1), some (.int a2), some (.int a3), some (.int a4), some (.int a5), some (.int a6), some (.int a7), some (.int a8), none, none, none, none]) ⟨Or.inr rfl, ⟨Or.inr rfl, ⟨Or.inr rfl, ⟨Or.inr rfl, ⟨Or.inr rfl, ⟨Or.inr rfl, ⟨Or.inr rfl, ⟨Or.inr rfl, ⟨Or.inr rfl, ⟨Or.inl rfl, ⟨Or.inl rfl, ⟨Or.inl rfl, ⟨Or.inl rfl, trivial⟩⟩⟩⟩⟩⟩⟩⟩⟩⟩⟩⟩⟩ ?_
          exact ok_L_sound_370 hC hQ a0 a1 a2 a3 a4 a5 a6 a7 a8 0 h3 hV
      · replace hV := hV.2 k9
        refine r_bipush (v := (-5)) hC dL_sound_330 (by decide) ?_
        refine r_goto (tgt := 370) hC dL_sound_332 (by decide) ?_
        refine r_sub (lo1 := [some (rv a0), some (.int a1), some (.int a2), some (.int a3), some (.int a4), some (.int a5), some (.int a6), some (.int a7), some (.int a8), none, none, none, none]) ⟨Or.inr rfl, ⟨Or.inr rfl, ⟨Or.inr rfl, ⟨Or.inr rfl, ⟨Or.inr rfl, ⟨Or.inr rfl, ⟨Or.inr rfl, ⟨Or.inr rfl, ⟨Or.inr rfl, ⟨Or.inl rfl, ⟨Or.inl rfl, ⟨Or.inl rfl, ⟨Or.inl rfl, trivial⟩⟩⟩⟩⟩⟩⟩⟩⟩⟩⟩⟩⟩ ?_
        exact ok_L_sound_370 hC hQ a0 a1 a2 a3 a4 a5 a6 a7 a8 (-5) h1 hV
    · replace hV := hV.2 k9
      refine r_iconst (v := 0) hC dL_sound_252 (by decide) ?_
      refine r_istore (lo1 := [some (rv a0), some (.int a1), some (.int a2), some (.int a3), some (.int a4), some (.int a5), some (.int a6), some (.int a7), some (.int a8), some (.int a9), some (.int 0), none, none]) hC dL_sound_253 (Nat.le_of_ble_eq_true rfl) (pvI rfl) rfl ?_
      obtain ⟨n9, hV⟩ := hV
      exact ok_L_sound_255 hC hQ ih n9 a0 a1 a2 a3 a4 a5 a6 a7 a8 a9 0 h hV
set_option maxRecDepth 100000 in
set_option maxHeartbeats 4000000 in
theorem ok_L_sound_35 {E : Ev} {X : Xt} {l0 : Launch} {K : Int32 → Hp → Prop} (hC : Cx E X l0 RL cL_sound 13 rm_L_sound) (hQ : CQ E X "sound" (some .boolean) rm_L_sound (KI K)) : ∀ (n : Nat) (a0 : Nat) (a1 : Int32) (a2 : Int32) (a3 : Int32) (a4 : Int32) (a5 : Int32) (a6 : Int32) (a7 : Int32) (h : Hp), V_L_sound_35 K n a0 a1 a2 a3 a4 a5 a6 a7 h → WW E X h 0 0 35 [some (rv a0), some (.int a1), some (.int a2), some (.int a3), some (.int a4), some (.int a5), some (.int a6), some (.int a7), none, none, none, none, none] [] := by
  intro n
  induction n with
  | zero => intro a0 a1 a2 a3 a4 a5 a6 a7 h hV; exact hV.elim
  | succ n ih =>
    intro a0 a1 a2 a3 a4 a5 a6 a7 h hV
    unfold V_L_sound_35 at hV
    refine r_iload hC dL_sound_35 rfl ?_
    refine r_aload_n hC dL_sound_37 rfl ?_
    refine r_iload_n hC dL_sound_38 rfl ?_
    refine r_iconst (v := 4) hC dL_sound_39 (by decide) ?_
    obtain ⟨k9, hV⟩ := hV
    refine r_callV (ci := 6) (As := [.int a1, .int 4]) hC dL_sound_40 rfl cf_X6_job ml_7_23 im_X6_job sl_X6_job lq_6 rfl rfl k9 rfl ⟨(Nat.le_of_ble_eq_true rfl), (Nat.le_of_ble_eq_true rfl), (Nat.le_of_ble_eq_true rfl), (Nat.le_of_ble_eq_true rfl)⟩ (csI cs0) (Nat.le_of_ble_eq_true rfl) (con_X6_job a0 a1 4 h _ hV) rfl (kI (k := 0) (n := 0) (fun r1 h1 hV => ?_))
    refine r_icmp_ge (tgt := 236) hC dL_sound_43 (by decide) (fun k9 => ?_) (fun k9 => ?_)
    · replace hV := hV.1 k9
      refine r_iconst (v := 0) hC dL_sound_236 (by decide) ?_
      refine r_istore (lo1 := [some (rv a0), some (.int a1), some (.int a2), some (.int a3), some (.int a4), some (.int a5), some (.int a6), some (.int 0), none, none, none, none, none]) hC dL_sound_237 (Nat.le_of_ble_eq_true rfl) (pvI rfl) rfl ?_
      refine r_iconst (v := 0) hC dL_sound_239 (by decide) ?_
      refine r_istore (lo1 := [some (rv a0), some (.int a1), some (.int a2), some (.int a3), some (.int a4), some (.int a5), some (.int a6), some (.int 0), some (.int 0), none, none, none, none]) hC dL_sound_240 (Nat.le_of_ble_eq_true rfl) (pvI rfl) rfl ?_
      refine r_iconst (v := 0) hC dL_sound_242 (by decide) ?_
      refine r_istore (lo1 := [some (rv a0), some (.int a1), some (.int a2), some (.int a3), some (.int a4), some (.int a5), some (.int a6), some (.int 0), some (.int 0), some (.int 0), none, none, none]) hC dL_sound_243 (Nat.le_of_ble_eq_true rfl) (pvI rfl) rfl ?_
      obtain ⟨n9, hV⟩ := hV
      exact ok_L_sound_245 hC hQ n9 a0 a1 a2 a3 a4 a5 a6 0 0 0 h1 hV
    · replace hV := hV.2 k9
      refine r_aload_n hC dL_sound_46 rfl ?_
      refine r_iload_n hC dL_sound_47 rfl ?_
      refine r_iload hC dL_sound_48 rfl ?_
      refine r_iconst (v := 0) hC dL_sound_50 (by decide) ?_
      obtain ⟨k9, hV⟩ := hV
      refine r_callV (ci := 6) (As := [.int a1, .int a7, .int 0]) hC dL_sound_51 rfl cf_X6_gap ml_7_35 im_X6_gap sl_X6_gap lq_6 rfl rfl k9 rfl ⟨(Nat.le_of_ble_eq_true rfl), (Nat.le_of_ble_eq_true rfl), (Nat.le_of_ble_eq_true rfl), (Nat.le_of_ble_eq_true rfl)⟩ cs0 (Nat.le_of_ble_eq_true rfl) (con_X6_gap a0 a1 a7 0 h1 _ hV) rfl (kI (k := 0) (n := 0) (fun r2 h2 hV => ?_))
      refine r_istore (lo1 := [some (rv a0), some (.int a1), some (.int a2), some (.int a3), some (.int a4), some (.int a5), some (.int a6), some (.int a7), some (.int r2), none, none, none, none]) hC dL_sound_54 (Nat.le_of_ble_eq_true rfl) (pvI rfl) rfl ?_
      refine r_iload hC dL_sound_56 rfl ?_
      refine r_istore (lo1 := [some (rv a0), some (.int a1), some (.int a2), some (.int a3), some (.int a4), some (.int a5), some (.int a6), some (.int a7), some (.int r2), some (.int r2), none, none, none]) hC dL_sound_58 (Nat.le_of_ble_eq_true rfl) (pvI rfl) rfl ?_
      refine r_iconst (v := 0) hC dL_sound_60 (by decide) ?_
      refine r_istore (lo1 := [some (rv a0), some (.int a1), some (.int a2), some (.int a3), some (.int a4), some (.int a5), some (.int a6), some (.int a7), some (.int r2), some (.int r2), some (.int 0), none, none]) hC dL_sound_61 (Nat.le_of_ble_eq_true rfl) (pvI rfl) rfl ?_
      refine r_iconst (v := 0) hC dL_sound_63 (by decide) ?_
      refine r_istore (lo1 := [some (rv a0), some (.int a1), some (.int a2), some (.int a3), some (.int a4), some (.int a5), some (.int a6), some (.int a7), some (.int r2), some (.int r2), some (.int 0), some (.int 0), none]) hC dL_sound_64 (Nat.le_of_ble_eq_true rfl) (pvI rfl) rfl ?_
      obtain ⟨n9, hV⟩ := hV
      exact ok_L_sound_66 hC hQ ih n9 a0 a1 a2 a3 a4 a5 a6 a7 r2 r2 0 0 h2 hV
set_option maxRecDepth 100000 in
set_option maxHeartbeats 4000000 in
theorem ok_L_sound_22 {E : Ev} {X : Xt} {l0 : Launch} {K : Int32 → Hp → Prop} (hC : Cx E X l0 RL cL_sound 13 rm_L_sound) (hQ : CQ E X "sound" (some .boolean) rm_L_sound (KI K)) (a0 : Nat) (a1 : Int32) (a2 : Int32) (s0 : Int32) (h : Hp) (hV : V_L_sound_22 K a0 a1 a2 s0 h) : WW E X h 0 0 22 [some (rv a0), some (.int a1), some (.int a2), none, none, none, none, none, none, none, none, none, none] [.int s0] := by
  unfold V_L_sound_22 at hV
  refine r_istore_n (ii := 3) (lo1 := [some (rv a0), some (.int a1), some (.int a2), some (.int s0), none, none, none, none, none, none, none, none, none]) hC dL_sound_22 rfl (Nat.le_of_ble_eq_true rfl) (pvI rfl) rfl ?_
  refine r_iconst (v := 0) hC dL_sound_23 (by decide) ?_
  refine r_istore (lo1 := [some (rv a0), some (.int a1), some (.int a2), some (.int s0), some (.int 0), none, none, none, none, none, none, none, none]) hC dL_sound_24 (Nat.le_of_ble_eq_true rfl) (pvI rfl) rfl ?_
  refine r_iconst (v := 0) hC dL_sound_26 (by decide) ?_
  refine r_istore (lo1 := [some (rv a0), some (.int a1), some (.int a2), some (.int s0), some (.int 0), some (.int 0), none, none, none, none, none, none, none]) hC dL_sound_27 (Nat.le_of_ble_eq_true rfl) (pvI rfl) rfl ?_
  refine r_iconst (v := 0) hC dL_sound_29 (by decide) ?_
  refine r_istore (lo1 := [some (rv a0), some (.int a1), some (.int a2), some (.int s0), some (.int 0), some (.int 0), some (.int 0), none, none, none, none, none, none]) hC dL_sound_30 (Nat.le_of_ble_eq_true rfl) (pvI rfl) rfl ?_
  refine r_iconst (v := 0) hC dL_sound_32 (by decide) ?_
  refine r_istore (lo1 := [some (rv a0), some (.int a1), some (.int a2), some (.int s0), some (.int 0), some (.int 0), some (.int 0), some (.int 0), none, none, none, none, none]) hC dL_sound_33 (Nat.le_of_ble_eq_true rfl) (pvI rfl) rfl ?_
  obtain ⟨n9, hV⟩ := hV
  exact ok_L_sound_35 hC hQ n9 a0 a1 a2 s0 0 0 0 0 h hV
set_option maxRecDepth 100000 in
set_option maxHeartbeats 4000000 in
theorem ok_L_sound_17 {E : Ev} {X : Xt} {l0 : Launch} {K : Int32 → Hp → Prop} (hC : Cx E X l0 RL cL_sound 13 rm_L_sound) (hQ : CQ E X "sound" (some .boolean) rm_L_sound (KI K)) (a0 : Nat) (a1 : Int32) (a2 : Int32) (h : Hp) (hV : V_L_sound_17 K a0 a1 a2 h) : WW E X h 0 0 17 [some (rv a0), some (.int a1), some (.int a2), none, none, none, none, none, none, none, none, none, none] [] := by
  unfold V_L_sound_17 at hV
  refine r_iconst (v := 1) hC dL_sound_17 (by decide) ?_
  refine r_goto (tgt := 22) hC dL_sound_18 (by decide) ?_
  exact ok_L_sound_22 hC hQ a0 a1 a2 1 h hV
set_option maxRecDepth 100000 in
set_option maxHeartbeats 4000000 in
theorem ok_L_sound_0 {E : Ev} {X : Xt} {l0 : Launch} {K : Int32 → Hp → Prop} (hC : Cx E X l0 RL cL_sound 13 rm_L_sound) (hQ : CQ E X "sound" (some .boolean) rm_L_sound (KI K)) (a0 : Nat) (a1 : Int32) (h : Hp) (hV : V_L_sound a0 a1 h K) : WW E X h 0 0 0 [some (rv a0), some (.int a1), none, none, none, none, none, none, none, none, none, none, none] [] := by
  unfold V_L_sound at hV
  refine r_aload_n hC dL_sound_0 rfl ?_
  refine r_iload_n hC dL_sound_1 rfl ?_
  refine r_iconst (v := 3) hC dL_sound_2 (by decide) ?_
  obtain ⟨k9, hV⟩ := hV
  refine r_callV (ci := 6) (As := [.int a1, .int 3]) hC dL_sound_3 rfl cf_X6_job ml_7_23 im_X6_job sl_X6_job lq_6 rfl rfl k9 rfl ⟨(Nat.le_of_ble_eq_true rfl), (Nat.le_of_ble_eq_true rfl), (Nat.le_of_ble_eq_true rfl), (Nat.le_of_ble_eq_true rfl)⟩ cs0 (Nat.le_of_ble_eq_true rfl) (con_X6_job a0 a1 3 h _ hV) rfl (kI (k := 0) (n := 0) (fun r1 h1 hV => ?_))
  refine r_istore_n (ii := 2) (lo1 := [some (rv a0), some (.int a1), some (.int r1), none, none, none, none, none, none, none, none, none, none]) hC dL_sound_6 rfl (Nat.le_of_ble_eq_true rfl) (pvI rfl) rfl ?_
  refine r_iload_n hC dL_sound_7 rfl ?_
  refine r_iconst (v := 1) hC dL_sound_8 (by decide) ?_
  refine r_icmp_eq (tgt := 17) hC dL_sound_9 (by decide) (fun k9 => ?_) (fun k9 => ?_)
  · replace hV := hV.1 k9
    exact ok_L_sound_17 hC hQ a0 a1 r1 h1 hV
  · replace hV := hV.2 k9
    refine r_iload_n hC dL_sound_12 rfl ?_
    refine r_iconst (v := 2) hC dL_sound_13 (by decide) ?_
    refine r_icmp_ne (tgt := 21) hC dL_sound_14 (by decide) (fun k9 => ?_) (fun k9 => ?_)
    · replace hV := hV.1 k9
      refine r_iconst (v := 0) hC dL_sound_21 (by decide) ?_
      exact ok_L_sound_22 hC hQ a0 a1 r1 0 h1 hV
    · replace hV := hV.2 k9
      exact ok_L_sound_17 hC hQ a0 a1 r1 h1 hV
set_option maxRecDepth 100000 in
set_option maxHeartbeats 4000000 in
theorem con_L_sound {E : Ev} {l0 : Launch} (a0 : Nat) (a1 : Int32) (h : Hp) (K : Int32 → Hp → Prop) (hV : V_L_sound a0 a1 h K) : Con E l0 yL_sound cL_sound 13 (some .boolean) rm_L_sound [rv a0, .int a1] h (KI K) := by
  refine Con.of (by decide +kernel) (cat_R (cat_I cat_nil)) (Nat.le_of_ble_eq_true rfl) (fun X hC hQ => ?_)
  refine r_sub (lo1 := [some (rv a0), some (.int a1), none, none, none, none, none, none, none, none, none, none, none]) (show lsub [some (rv a0), some (.int a1), none, none, none, none, none, none, none, none, none, none, none] _ from ⟨Or.inr rfl, ⟨Or.inr rfl, ⟨Or.inr rfl, ⟨Or.inr rfl, ⟨Or.inr rfl, ⟨Or.inr rfl, ⟨Or.inr rfl, ⟨Or.inr rfl, ⟨Or.inr rfl, ⟨Or.inr rfl, ⟨Or.inr rfl, ⟨Or.inr rfl, ⟨Or.inr rfl, trivial⟩⟩⟩⟩⟩⟩⟩⟩⟩⟩⟩⟩⟩) ?_
  exact ok_L_sound_0 hC hQ a0 a1 h hV
theorem dL_law_0 : decode cL_law 0 = .ok (.new 14, 3) := by decide +kernel
theorem dL_law_3 : decode cL_law 3 = .ok (.dup, 1) := by decide +kernel
theorem dL_law_4 : decode cL_law 4 = .ok (.invokespecial 109, 3) := by decide +kernel
theorem dL_law_7 : decode cL_law 7 = .ok (.astore_n 1, 1) := by decide +kernel
theorem dL_law_8 : decode cL_law 8 = .ok (.aload_n 1, 1) := by decide +kernel
theorem dL_law_9 : decode cL_law 9 = .ok (.invokevirtual 110, 3) := by decide +kernel
theorem dL_law_12 : decode cL_law 12 = .ok (.bipush (-5), 2) := by decide +kernel
theorem dL_law_14 : decode cL_law 14 = .ok (.if_icmp .ne 62, 3) := by decide +kernel
theorem dL_law_17 : decode cL_law 17 = .ok (.aload_n 1, 1) := by decide +kernel
theorem dL_law_18 : decode cL_law 18 = .ok (.invokevirtual 113, 3) := by decide +kernel
theorem dL_law_21 : decode cL_law 21 = .ok (.bipush (-5), 2) := by decide +kernel
theorem dL_law_23 : decode cL_law 23 = .ok (.if_icmp .ne 53, 3) := by decide +kernel
theorem dL_law_26 : decode cL_law 26 = .ok (.aload_n 1, 1) := by decide +kernel
theorem dL_law_27 : decode cL_law 27 = .ok (.iconst 0, 1) := by decide +kernel
theorem dL_law_28 : decode cL_law 28 = .ok (.bipush 50, 2) := by decide +kernel
theorem dL_law_30 : decode cL_law 30 = .ok (.iconst 0, 1) := by decide +kernel
theorem dL_law_31 : decode cL_law 31 = .ok (.invokevirtual 90, 3) := by decide +kernel
theorem dL_law_34 : decode cL_law 34 = .ok (.iconst (-1), 1) := by decide +kernel
theorem dL_law_35 : decode cL_law 35 = .ok (.if_icmp .ne 41, 3) := by decide +kernel
theorem dL_law_38 : decode cL_law 38 = .ok (.aload_n 1, 1) := by decide +kernel
theorem dL_law_39 : decode cL_law 39 = .ok (.invokevirtual 74, 3) := by decide +kernel
theorem dL_law_42 : decode cL_law 42 = .ok (.bipush (-5), 2) := by decide +kernel
theorem dL_law_44 : decode cL_law 44 = .ok (.if_icmp .ne 32, 3) := by decide +kernel
theorem dL_law_47 : decode cL_law 47 = .ok (.aload_n 1, 1) := by decide +kernel
theorem dL_law_48 : decode cL_law 48 = .ok (.invokevirtual 44, 3) := by decide +kernel
theorem dL_law_51 : decode cL_law 51 = .ok (.bipush (-5), 2) := by decide +kernel
theorem dL_law_53 : decode cL_law 53 = .ok (.if_icmp .ne 23, 3) := by decide +kernel
theorem dL_law_56 : decode cL_law 56 = .ok (.aload_n 1, 1) := by decide +kernel
theorem dL_law_57 : decode cL_law 57 = .ok (.iconst (-1), 1) := by decide +kernel
theorem dL_law_58 : decode cL_law 58 = .ok (.iconst 0, 1) := by decide +kernel
theorem dL_law_59 : decode cL_law 59 = .ok (.invokevirtual 19, 3) := by decide +kernel
theorem dL_law_62 : decode cL_law 62 = .ok (.ifCond .ne 14, 3) := by decide +kernel
theorem dL_law_65 : decode cL_law 65 = .ok (.aload_n 1, 1) := by decide +kernel
theorem dL_law_66 : decode cL_law 66 = .ok (.iconst 0, 1) := by decide +kernel
theorem dL_law_67 : decode cL_law 67 = .ok (.iconst 0, 1) := by decide +kernel
theorem dL_law_68 : decode cL_law 68 = .ok (.iconst 1, 1) := by decide +kernel
theorem dL_law_69 : decode cL_law 69 = .ok (.invokevirtual 65, 3) := by decide +kernel
theorem dL_law_72 : decode cL_law 72 = .ok (.iconst (-1), 1) := by decide +kernel
theorem dL_law_73 : decode cL_law 73 = .ok (.if_icmp .eq 5, 3) := by decide +kernel
theorem dL_law_76 : decode cL_law 76 = .ok (.iconst 0, 1) := by decide +kernel
theorem dL_law_77 : decode cL_law 77 = .ok (.ireturn, 1) := by decide +kernel
theorem dL_law_78 : decode cL_law 78 = .ok (.iconst 0, 1) := by decide +kernel
theorem dL_law_79 : decode cL_law 79 = .ok (.istore_n 2, 1) := by decide +kernel
theorem dL_law_80 : decode cL_law 80 = .ok (.iload_n 2, 1) := by decide +kernel
theorem dL_law_81 : decode cL_law 81 = .ok (.bipush 26, 2) := by decide +kernel
theorem dL_law_83 : decode cL_law 83 = .ok (.if_icmp .ge 387, 3) := by decide +kernel
theorem dL_law_86 : decode cL_law 86 = .ok (.aload_n 0, 1) := by decide +kernel
theorem dL_law_87 : decode cL_law 87 = .ok (.iconst 2, 1) := by decide +kernel
theorem dL_law_88 : decode cL_law 88 = .ok (.iload_n 2, 1) := by decide +kernel
theorem dL_law_89 : decode cL_law 89 = .ok (.imul, 1) := by decide +kernel
theorem dL_law_90 : decode cL_law 90 = .ok (.invokestatic 116, 3) := by decide +kernel
theorem dL_law_93 : decode cL_law 93 = .ok (.istore_n 3, 1) := by decide +kernel
theorem dL_law_94 : decode cL_law 94 = .ok (.aload_n 0, 1) := by decide +kernel
theorem dL_law_95 : decode cL_law 95 = .ok (.iconst 2, 1) := by decide +kernel
theorem dL_law_96 : decode cL_law 96 = .ok (.iload_n 2, 1) := by decide +kernel
theorem dL_law_97 : decode cL_law 97 = .ok (.imul, 1) := by decide +kernel
theorem dL_law_98 : decode cL_law 98 = .ok (.iconst 1, 1) := by decide +kernel
theorem dL_law_99 : decode cL_law 99 = .ok (.iadd, 1) := by decide +kernel
theorem dL_law_100 : decode cL_law 100 = .ok (.invokestatic 116, 3) := by decide +kernel
theorem dL_law_103 : decode cL_law 103 = .ok (.istore 4, 2) := by decide +kernel
theorem dL_law_105 : decode cL_law 105 = .ok (.iload_n 3, 1) := by decide +kernel
theorem dL_law_106 : decode cL_law 106 = .ok (.bipush 9, 2) := by decide +kernel
theorem dL_law_108 : decode cL_law 108 = .ok (.ishr, 1) := by decide +kernel
theorem dL_law_109 : decode cL_law 109 = .ok (.bipush 17, 2) := by decide +kernel
theorem dL_law_111 : decode cL_law 111 = .ok (.invokestatic 48, 3) := by decide +kernel
theorem dL_law_114 : decode cL_law 114 = .ok (.istore 5, 2) := by decide +kernel
theorem dL_law_116 : decode cL_law 116 = .ok (.aload_n 1, 1) := by decide +kernel
theorem dL_law_117 : decode cL_law 117 = .ok (.bipush 14, 2) := by decide +kernel
theorem dL_law_119 : decode cL_law 119 = .ok (.invokevirtual 13, 3) := by decide +kernel
theorem dL_law_122 : decode cL_law 122 = .ok (.istore 6, 2) := by decide +kernel
theorem dL_law_124 : decode cL_law 124 = .ok (.aload_n 1, 1) := by decide +kernel
theorem dL_law_125 : decode cL_law 125 = .ok (.invokestatic 120, 3) := by decide +kernel
theorem dL_law_128 : decode cL_law 128 = .ok (.lstore 7, 2) := by decide +kernel
theorem dL_law_130 : decode cL_law 130 = .ok (.iconst 1, 1) := by decide +kernel
theorem dL_law_131 : decode cL_law 131 = .ok (.istore 9, 2) := by decide +kernel
theorem dL_law_133 : decode cL_law 133 = .ok (.iload 5, 2) := by decide +kernel
theorem dL_law_135 : decode cL_law 135 = .ok (.bipush 12, 2) := by decide +kernel
theorem dL_law_137 : decode cL_law 137 = .ok (.if_icmp .eq 12, 3) := by decide +kernel
theorem dL_law_140 : decode cL_law 140 = .ok (.iload_n 2, 1) := by decide +kernel
theorem dL_law_141 : decode cL_law 141 = .ok (.iconst 2, 1) := by decide +kernel
theorem dL_law_142 : decode cL_law 142 = .ok (.if_icmp .le 7, 3) := by decide +kernel
theorem dL_law_145 : decode cL_law 145 = .ok (.iconst 1, 1) := by decide +kernel
theorem dL_law_146 : decode cL_law 146 = .ok (.goto 4, 3) := by decide +kernel
theorem dL_law_149 : decode cL_law 149 = .ok (.iconst 0, 1) := by decide +kernel
theorem dL_law_150 : decode cL_law 150 = .ok (.istore 10, 2) := by decide +kernel
theorem dL_law_152 : decode cL_law 152 = .ok (.iload_n 2, 1) := by decide +kernel
theorem dL_law_153 : decode cL_law 153 = .ok (.iconst 3, 1) := by decide +kernel
theorem dL_law_154 : decode cL_law 154 = .ok (.if_icmp .ge 77, 3) := by decide +kernel
theorem dL_law_157 : decode cL_law 157 = .ok (.iload_n 2, 1) := by decide +kernel
theorem dL_law_158 : decode cL_law 158 = .ok (.ifCond .ne 30, 3) := by decide +kernel
theorem dL_law_161 : decode cL_law 161 = .ok (.aload_n 1, 1) := by decide +kernel
theorem dL_law_162 : decode cL_law 162 = .ok (.sipush 20000, 3) := by decide +kernel
theorem dL_law_165 : decode cL_law 165 = .ok (.iload 4, 2) := by decide +kernel
theorem dL_law_167 : decode cL_law 167 = .ok (.sipush 9000, 3) := by decide +kernel
theorem dL_law_170 : decode cL_law 170 = .ok (.invokestatic 48, 3) := by decide +kernel
theorem dL_law_173 : decode cL_law 173 = .ok (.isub, 1) := by decide +kernel
theorem dL_law_174 : decode cL_law 174 = .ok (.invokevirtual 58, 3) := by decide +kernel
theorem dL_law_177 : decode cL_law 177 = .ok (.ifCond .le 7, 3) := by decide +kernel
theorem dL_law_180 : decode cL_law 180 = .ok (.iconst 1, 1) := by decide +kernel
theorem dL_law_181 : decode cL_law 181 = .ok (.goto 45, 3) := by decide +kernel
theorem dL_law_184 : decode cL_law 184 = .ok (.iconst 0, 1) := by decide +kernel
theorem dL_law_185 : decode cL_law 185 = .ok (.goto 41, 3) := by decide +kernel
theorem dL_law_188 : decode cL_law 188 = .ok (.iload_n 2, 1) := by decide +kernel
theorem dL_law_189 : decode cL_law 189 = .ok (.iconst 1, 1) := by decide +kernel
theorem dL_law_190 : decode cL_law 190 = .ok (.if_icmp .ne 18, 3) := by decide +kernel
theorem dL_law_193 : decode cL_law 193 = .ok (.aload_n 1, 1) := by decide +kernel
theorem dL_law_194 : decode cL_law 194 = .ok (.invokevirtual 62, 3) := by decide +kernel
theorem dL_law_197 : decode cL_law 197 = .ok (.ifCond .ne 7, 3) := by decide +kernel
theorem dL_law_200 : decode cL_law 200 = .ok (.iconst 1, 1) := by decide +kernel
theorem dL_law_201 : decode cL_law 201 = .ok (.goto 25, 3) := by decide +kernel
theorem dL_law_204 : decode cL_law 204 = .ok (.iconst 0, 1) := by decide +kernel
theorem dL_law_205 : decode cL_law 205 = .ok (.goto 21, 3) := by decide +kernel
theorem dL_law_208 : decode cL_law 208 = .ok (.aload_n 1, 1) := by decide +kernel
theorem dL_law_209 : decode cL_law 209 = .ok (.iconst 0, 1) := by decide +kernel
theorem dL_law_210 : decode cL_law 210 = .ok (.bipush 9, 2) := by decide +kernel
theorem dL_law_212 : decode cL_law 212 = .ok (.invokevirtual 68, 3) := by decide +kernel
theorem dL_law_215 : decode cL_law 215 = .ok (.sipush 288, 3) := by decide +kernel
theorem dL_law_218 : decode cL_law 218 = .ok (.if_icmp .ne 7, 3) := by decide +kernel
theorem dL_law_221 : decode cL_law 221 = .ok (.iconst 1, 1) := by decide +kernel
theorem dL_law_222 : decode cL_law 222 = .ok (.goto 4, 3) := by decide +kernel
theorem dL_law_225 : decode cL_law 225 = .ok (.iconst 0, 1) := by decide +kernel
theorem dL_law_226 : decode cL_law 226 = .ok (.istore 9, 2) := by decide +kernel
theorem dL_law_228 : decode cL_law 228 = .ok (.goto 99, 3) := by decide +kernel
theorem dL_law_231 : decode cL_law 231 = .ok (.iload 5, 2) := by decide +kernel
theorem dL_law_233 : decode cL_law 233 = .ok (.bipush 7, 2) := by decide +kernel
theorem dL_law_235 : decode cL_law 235 = .ok (.if_icmp .ge 17, 3) := by decide +kernel
theorem dL_law_238 : decode cL_law 238 = .ok (.aload_n 1, 1) := by decide +kernel
theorem dL_law_239 : decode cL_law 239 = .ok (.iload 5, 2) := by decide +kernel
theorem dL_law_241 : decode cL_law 241 = .ok (.iload_n 3, 1) := by decide +kernel
theorem dL_law_242 : decode cL_law 242 = .ok (.iload 4, 2) := by decide +kernel
theorem dL_law_244 : decode cL_law 244 = .ok (.invokestatic 124, 3) := by decide +kernel
theorem dL_law_247 : decode cL_law 247 = .ok (.istore 9, 2) := by decide +kernel
theorem dL_law_249 : decode cL_law 249 = .ok (.goto 78, 3) := by decide +kernel
theorem dL_law_252 : decode cL_law 252 = .ok (.iload 5, 2) := by decide +kernel
theorem dL_law_254 : decode cL_law 254 = .ok (.bipush 16, 2) := by decide +kernel
theorem dL_law_256 : decode cL_law 256 = .ok (.if_icmp .ne 60, 3) := by decide +kernel
theorem dL_law_259 : decode cL_law 259 = .ok (.aload_n 1, 1) := by decide +kernel
theorem dL_law_260 : decode cL_law 260 = .ok (.bipush 11, 2) := by decide +kernel
theorem dL_law_262 : decode cL_law 262 = .ok (.invokevirtual 13, 3) := by decide +kernel
theorem dL_law_265 : decode cL_law 265 = .ok (.istore 11, 2) := by decide +kernel
theorem dL_law_267 : decode cL_law 267 = .ok (.aload_n 1, 1) := by decide +kernel
theorem dL_law_268 : decode cL_law 268 = .ok (.iconst 1, 1) := by decide +kernel
theorem dL_law_269 : decode cL_law 269 = .ok (.iload 4, 2) := by decide +kernel
theorem dL_law_271 : decode cL_law 271 = .ok (.bipush 30, 2) := by decide +kernel
theorem dL_law_273 : decode cL_law 273 = .ok (.invokestatic 48, 3) := by decide +kernel
theorem dL_law_276 : decode cL_law 276 = .ok (.iadd, 1) := by decide +kernel
theorem dL_law_277 : decode cL_law 277 = .ok (.invokevirtual 128, 3) := by decide +kernel
theorem dL_law_280 : decode cL_law 280 = .ok (.iload 11, 2) := by decide +kernel
theorem dL_law_282 : decode cL_law 282 = .ok (.iconst 1, 1) := by decide +kernel
theorem dL_law_283 : decode cL_law 283 = .ok (.iadd, 1) := by decide +kernel
theorem dL_law_284 : decode cL_law 284 = .ok (.iload 4, 2) := by decide +kernel
theorem dL_law_286 : decode cL_law 286 = .ok (.bipush 30, 2) := by decide +kernel
theorem dL_law_288 : decode cL_law 288 = .ok (.invokestatic 48, 3) := by decide +kernel
theorem dL_law_291 : decode cL_law 291 = .ok (.iadd, 1) := by decide +kernel
theorem dL_law_292 : decode cL_law 292 = .ok (.if_icmp .ne 18, 3) := by decide +kernel
theorem dL_law_295 : decode cL_law 295 = .ok (.aload_n 1, 1) := by decide +kernel
theorem dL_law_296 : decode cL_law 296 = .ok (.bipush 31, 2) := by decide +kernel
theorem dL_law_298 : decode cL_law 298 = .ok (.invokevirtual 128, 3) := by decide +kernel
theorem dL_law_301 : decode cL_law 301 = .ok (.bipush (-2), 2) := by decide +kernel
theorem dL_law_303 : decode cL_law 303 = .ok (.if_icmp .ne 7, 3) := by decide +kernel
theorem dL_law_306 : decode cL_law 306 = .ok (.iconst 1, 1) := by decide +kernel
theorem dL_law_307 : decode cL_law 307 = .ok (.goto 4, 3) := by decide +kernel
theorem dL_law_310 : decode cL_law 310 = .ok (.iconst 0, 1) := by decide +kernel
theorem dL_law_311 : decode cL_law 311 = .ok (.istore 9, 2) := by decide +kernel
theorem dL_law_313 : decode cL_law 313 = .ok (.goto 14, 3) := by decide +kernel
theorem dL_law_316 : decode cL_law 316 = .ok (.aload_n 1, 1) := by decide +kernel
theorem dL_law_317 : decode cL_law 317 = .ok (.iload 5, 2) := by decide +kernel
theorem dL_law_319 : decode cL_law 319 = .ok (.iload_n 3, 1) := by decide +kernel
theorem dL_law_320 : decode cL_law 320 = .ok (.iload 4, 2) := by decide +kernel
theorem dL_law_322 : decode cL_law 322 = .ok (.invokestatic 131, 3) := by decide +kernel
theorem dL_law_325 : decode cL_law 325 = .ok (.istore 9, 2) := by decide +kernel
theorem dL_law_327 : decode cL_law 327 = .ok (.iload 6, 2) := by decide +kernel
theorem dL_law_329 : decode cL_law 329 = .ok (.iconst 5, 1) := by decide +kernel
theorem dL_law_330 : decode cL_law 330 = .ok (.if_icmp .ne 7, 3) := by decide +kernel
theorem dL_law_333 : decode cL_law 333 = .ok (.iconst 4, 1) := by decide +kernel
theorem dL_law_334 : decode cL_law 334 = .ok (.goto 5, 3) := by decide +kernel
theorem dL_law_337 : decode cL_law 337 = .ok (.iload 6, 2) := by decide +kernel
theorem dL_law_339 : decode cL_law 339 = .ok (.istore 11, 2) := by decide +kernel
theorem dL_law_341 : decode cL_law 341 = .ok (.iload 9, 2) := by decide +kernel
theorem dL_law_343 : decode cL_law 343 = .ok (.ifCond .eq 70, 3) := by decide +kernel
theorem dL_law_346 : decode cL_law 346 = .ok (.iload 10, 2) := by decide +kernel
theorem dL_law_348 : decode cL_law 348 = .ok (.ifCond .eq 65, 3) := by decide +kernel
theorem dL_law_351 : decode cL_law 351 = .ok (.iload 4, 2) := by decide +kernel
theorem dL_law_353 : decode cL_law 353 = .ok (.sipush 3072, 3) := by decide +kernel
theorem dL_law_356 : decode cL_law 356 = .ok (.iand, 1) := by decide +kernel
theorem dL_law_357 : decode cL_law 357 = .ok (.ifCond .ne 56, 3) := by decide +kernel
theorem dL_law_360 : decode cL_law 360 = .ok (.aload_n 1, 1) := by decide +kernel
theorem dL_law_361 : decode cL_law 361 = .ok (.bipush 14, 2) := by decide +kernel
theorem dL_law_363 : decode cL_law 363 = .ok (.invokevirtual 13, 3) := by decide +kernel
theorem dL_law_366 : decode cL_law 366 = .ok (.iload 6, 2) := by decide +kernel
theorem dL_law_368 : decode cL_law 368 = .ok (.if_icmp .ne 19, 3) := by decide +kernel
theorem dL_law_371 : decode cL_law 371 = .ok (.iload 6, 2) := by decide +kernel
theorem dL_law_373 : decode cL_law 373 = .ok (.iconst 5, 1) := by decide +kernel
theorem dL_law_374 : decode cL_law 374 = .ok (.if_icmp .ne 39, 3) := by decide +kernel
theorem dL_law_377 : decode cL_law 377 = .ok (.aload_n 1, 1) := by decide +kernel
theorem dL_law_378 : decode cL_law 378 = .ok (.invokestatic 120, 3) := by decide +kernel
theorem dL_law_381 : decode cL_law 381 = .ok (.lload 7, 2) := by decide +kernel
theorem dL_law_383 : decode cL_law 383 = .ok (.lcmp, 1) := by decide +kernel
theorem dL_law_384 : decode cL_law 384 = .ok (.ifCond .eq 29, 3) := by decide +kernel
theorem dL_law_387 : decode cL_law 387 = .ok (.aload_n 1, 1) := by decide +kernel
theorem dL_law_388 : decode cL_law 388 = .ok (.invokevirtual 110, 3) := by decide +kernel
theorem dL_law_391 : decode cL_law 391 = .ok (.iload 11, 2) := by decide +kernel
theorem dL_law_393 : decode cL_law 393 = .ok (.if_icmp .ne 17, 3) := by decide +kernel
theorem dL_law_396 : decode cL_law 396 = .ok (.aload_n 1, 1) := by decide +kernel
theorem dL_law_397 : decode cL_law 397 = .ok (.invokestatic 120, 3) := by decide +kernel
theorem dL_law_400 : decode cL_law 400 = .ok (.lload 7, 2) := by decide +kernel
theorem dL_law_402 : decode cL_law 402 = .ok (.lcmp, 1) := by decide +kernel
theorem dL_law_403 : decode cL_law 403 = .ok (.ifCond .ne 7, 3) := by decide +kernel
theorem dL_law_406 : decode cL_law 406 = .ok (.iconst 1, 1) := by decide +kernel
theorem dL_law_407 : decode cL_law 407 = .ok (.goto 4, 3) := by decide +kernel
theorem dL_law_410 : decode cL_law 410 = .ok (.iconst 0, 1) := by decide +kernel
theorem dL_law_411 : decode cL_law 411 = .ok (.istore 9, 2) := by decide +kernel
theorem dL_law_413 : decode cL_law 413 = .ok (.iload 9, 2) := by decide +kernel
theorem dL_law_415 : decode cL_law 415 = .ok (.ifCond .eq 17, 3) := by decide +kernel
theorem dL_law_418 : decode cL_law 418 = .ok (.aload_n 1, 1) := by decide +kernel
theorem dL_law_419 : decode cL_law 419 = .ok (.invokestatic 134, 3) := by decide +kernel
theorem dL_law_422 : decode cL_law 422 = .ok (.ifCond .eq 10, 3) := by decide +kernel
theorem dL_law_425 : decode cL_law 425 = .ok (.aload_n 1, 1) := by decide +kernel
theorem dL_law_426 : decode cL_law 426 = .ok (.invokestatic 138, 3) := by decide +kernel
theorem dL_law_429 : decode cL_law 429 = .ok (.ifCond .ne 5, 3) := by decide +kernel
theorem dL_law_432 : decode cL_law 432 = .ok (.iconst 0, 1) := by decide +kernel
theorem dL_law_433 : decode cL_law 433 = .ok (.ireturn, 1) := by decide +kernel
theorem dL_law_434 : decode cL_law 434 = .ok (.iconst 0, 1) := by decide +kernel
theorem dL_law_435 : decode cL_law 435 = .ok (.istore 12, 2) := by decide +kernel
theorem dL_law_437 : decode cL_law 437 = .ok (.iload 12, 2) := by decide +kernel
theorem dL_law_439 : decode cL_law 439 = .ok (.aload_n 1, 1) := by decide +kernel
theorem dL_law_440 : decode cL_law 440 = .ok (.iconst 1, 1) := by decide +kernel
theorem dL_law_441 : decode cL_law 441 = .ok (.invokevirtual 13, 3) := by decide +kernel
theorem dL_law_444 : decode cL_law 444 = .ok (.if_icmp .ge 20, 3) := by decide +kernel
theorem dL_law_447 : decode cL_law 447 = .ok (.aload_n 1, 1) := by decide +kernel
theorem dL_law_448 : decode cL_law 448 = .ok (.iload 12, 2) := by decide +kernel
theorem dL_law_450 : decode cL_law 450 = .ok (.invokestatic 141, 3) := by decide +kernel
theorem dL_law_453 : decode cL_law 453 = .ok (.ifCond .ne 5, 3) := by decide +kernel
theorem dL_law_456 : decode cL_law 456 = .ok (.iconst 0, 1) := by decide +kernel
theorem dL_law_457 : decode cL_law 457 = .ok (.ireturn, 1) := by decide +kernel
theorem dL_law_458 : decode cL_law 458 = .ok (.iinc 12 1, 3) := by decide +kernel
theorem dL_law_461 : decode cL_law 461 = .ok (.goto (-24), 3) := by decide +kernel
theorem dL_law_464 : decode cL_law 464 = .ok (.iinc 2 1, 3) := by decide +kernel
theorem dL_law_467 : decode cL_law 467 = .ok (.goto (-387), 3) := by decide +kernel
theorem dL_law_470 : decode cL_law 470 = .ok (.iconst 1, 1) := by decide +kernel
theorem dL_law_471 : decode cL_law 471 = .ok (.ireturn, 1) := by decide +kernel

set_option maxRecDepth 100000 in
set_option maxHeartbeats 4000000 in
theorem ok_L_law_76 {E : Ev} {X : Xt} {l0 : Launch} {K : Int32 → Hp → Prop} (hC : Cx E X l0 RL cL_law 13 room_1) (hQ : LQ E X) (h : Hp) (hV : V_L_law_76 K  h) : WW E X h 37 1494 76 [none, none, none, none, none, none, none, none, none, none, none, none, none] [] := by
  unfold V_L_law_76 at hV
  refine r_iconst (v := 0) hC dL_law_76 (by decide) ?_
  exact hV.elim
set_option maxRecDepth 100000 in
set_option maxHeartbeats 4000000 in
theorem ok_L_law_432 {E : Ev} {X : Xt} {l0 : Launch} {K : Int32 → Hp → Prop} (hC : Cx E X l0 RL cL_law 13 room_1) (hQ : LQ E X) {kc ns : Nat} (hk : kc + 26 ≤ 600000) (hn : ns + 838 ≤ 7302250) (h : Hp) (hV : V_L_law_432 K  h) : WW E X h (kc + 26) (ns + 838) 432 [none, none, none, none, none, none, none, none, none, none, none, none, none] [] := by
  unfold V_L_law_432 at hV
  refine r_iconst (v := 0) hC dL_law_432 (by decide) ?_
  exact hV.elim
set_option maxRecDepth 100000 in
set_option maxHeartbeats 4000000 in
theorem ok_L_law_437 {E : Ev} {X : Xt} {l0 : Launch} {K : Int32 → Hp → Prop} {C80 : Nat → Int32 → Hp → Prop} (hC : Cx E X l0 RL cL_law 13 room_1) (hQ : LQ E X) {kc ns : Nat} (hk : kc + 26 ≤ 600000) (hn : ns + 838 ≤ 7302250) (hC80 : ∀ (a1 : Nat) (a2 : Int32) (h : Hp), C80 a1 a2 h → WW E X h (kc + 26) (ns + 838) 80 [some (rv (sb E)), some (rv a1), some (.int a2), none, none, none, none, none, none, none, none, none, none] []) : ∀ (n : Nat) (a1 : Nat) (a2 : Int32) (a12 : Int32) (h : Hp), V_L_law_437 K C80 n a1 a2 a12 h → WW E X h (kc + 26) (ns + 838) 437 [some (rv (sb E)), some (rv a1), some (.int a2), none, none, none, none, none, none, none, none, none, some (.int a12)] [] := by
  intro n
  induction n with
  | zero => intro a1 a2 a12 h hV; exact hV.elim
  | succ n ih =>
    intro a1 a2 a12 h hV
    unfold V_L_law_437 at hV
    refine r_iload hC dL_law_437 rfl ?_
    refine r_aload_n hC dL_law_439 rfl ?_
    refine r_iconst (v := 1) hC dL_law_440 (by decide) ?_
    obtain ⟨k9, hV⟩ := hV
    refine r_callV (ci := 6) (As := [.int 1]) hC dL_law_441 rfl cf_X6_count ml_7_13 im_X6_count sl_X6_count lq_6 rfl rfl k9 rfl ⟨(Nat.le_of_ble_eq_true rfl), (Nat.le_of_ble_eq_true rfl), by show kc + 26 + 0 ≤ 600000; omega, by show ns + 838 + 0 ≤ 7302250; omega⟩ (csI cs0) (Nat.le_of_ble_eq_true rfl) (con_X6_count a1 1 h _ hV) rfl (kI (k := kc + 26 + 0) (n := ns + 838 + 0) (fun r1 h1 hV => ?_))
    refine r_icmp_ge (tgt := 464) hC dL_law_444 (by decide) (fun k9 => ?_) (fun k9 => ?_)
    · replace hV := hV.1 k9
      refine r_iinc (v := 1) (lo1 := [some (rv (sb E)), some (rv a1), some (.int (a2 + 1)), none, none, none, none, none, none, none, none, none, some (.int a12)]) hC dL_law_464 rfl (by decide) (pvR rfl) rfl ?_
      refine r_goto (tgt := 80) hC dL_law_467 (by decide) ?_
      refine r_wide (k1 := kc + 26) (n1 := ns + 838) (by omega) (by omega) ?_
      refine r_sub (lo1 := [some (rv (sb E)), some (rv a1), some (.int (a2 + 1)), none, none, none, none, none, none, none, none, none, none]) ⟨Or.inr rfl, ⟨Or.inr rfl, ⟨Or.inr rfl, ⟨Or.inl rfl, ⟨Or.inl rfl, ⟨Or.inl rfl, ⟨Or.inl rfl, ⟨Or.inl rfl, ⟨Or.inl rfl, ⟨Or.inl rfl, ⟨Or.inl rfl, ⟨Or.inl rfl, ⟨Or.inl rfl, trivial⟩⟩⟩⟩⟩⟩⟩⟩⟩⟩⟩⟩⟩ ?_
      exact hC80 a1 (a2 + 1) h1 hV
    · replace hV := hV.2 k9
      refine r_aload_n hC dL_law_447 rfl ?_
      refine r_iload hC dL_law_448 rfl ?_
      refine r_callS (As := [rv a1, .int a12]) hC dL_law_450 rfl cf_L_sound ml_7_141 st_L_sound rfl ⟨(Nat.le_of_ble_eq_true rfl), (Nat.le_of_ble_eq_true rfl), by show kc + 26 + 0 + 0 ≤ 600000; omega, by show ns + 838 + 0 + 0 ≤ 7302250; omega⟩ cs0 (Nat.le_of_ble_eq_true rfl) (con_L_sound a1 a12 h1 _ hV) rfl (kI (k := kc + 26 + 0 + 0) (n := ns + 838 + 0 + 0) (fun r2 h2 hV => ?_))
      refine r_if_ne (tgt := 458) hC dL_law_453 (by decide) (fun k9 => ?_) (fun k9 => ?_)
      · replace hV := hV.1 k9
        refine r_iinc (v := 1) (lo1 := [some (rv (sb E)), some (rv a1), some (.int a2), none, none, none, none, none, none, none, none, none, some (.int (a12 + 1))]) hC dL_law_458 rfl (by decide) (pvN rfl) rfl ?_
        refine r_goto (tgt := 437) hC dL_law_461 (by decide) ?_
        refine r_wide (k1 := kc + 26) (n1 := ns + 838) (by omega) (by omega) ?_
        exact ih a1 a2 (a12 + 1) h2 hV
      · replace hV := hV.2 k9
        refine r_iconst (v := 0) hC dL_law_456 (by decide) ?_
        exact hV.elim
set_option maxRecDepth 100000 in
set_option maxHeartbeats 4000000 in
theorem ok_L_law_413 {E : Ev} {X : Xt} {l0 : Launch} {K : Int32 → Hp → Prop} {C80 : Nat → Int32 → Hp → Prop} (hC : Cx E X l0 RL cL_law 13 room_1) (hQ : LQ E X) {kc ns : Nat} (hk : kc + 26 ≤ 600000) (hn : ns + 838 ≤ 7302250) (hC80 : ∀ (a1 : Nat) (a2 : Int32) (h : Hp), C80 a1 a2 h → WW E X h (kc + 26) (ns + 838) 80 [some (rv (sb E)), some (rv a1), some (.int a2), none, none, none, none, none, none, none, none, none, none] []) (a1 : Nat) (a2 : Int32) (a9 : Int32) (h : Hp) (hV : V_L_law_413 K C80 a1 a2 a9 h) : WW E X h (kc + 26) (ns + 838) 413 [some (rv (sb E)), some (rv a1), some (.int a2), none, none, none, none, none, none, some (.int a9), none, none, none] [] := by
  unfold V_L_law_413 at hV
  refine r_iload hC dL_law_413 rfl ?_
  refine r_if_eq (tgt := 432) hC dL_law_415 (by decide) (fun k9 => ?_) (fun k9 => ?_)
  · replace hV := hV.1 k9
    refine r_wide (k1 := kc + 26) (n1 := ns + 838) (by omega) (by omega) ?_
    refine r_sub (lo1 := [none, none, none, none, none, none, none, none, none, none, none, none, none]) ⟨Or.inl rfl, ⟨Or.inl rfl, ⟨Or.inl rfl, ⟨Or.inl rfl, ⟨Or.inl rfl, ⟨Or.inl rfl, ⟨Or.inl rfl, ⟨Or.inl rfl, ⟨Or.inl rfl, ⟨Or.inl rfl, ⟨Or.inl rfl, ⟨Or.inl rfl, ⟨Or.inl rfl, trivial⟩⟩⟩⟩⟩⟩⟩⟩⟩⟩⟩⟩⟩ ?_
    exact ok_L_law_432 hC hQ hk hn  h hV
  · replace hV := hV.2 k9
    refine r_aload_n hC dL_law_418 rfl ?_
    refine r_callS (As := [rv a1]) hC dL_law_419 rfl cf_L_kept ml_7_134 st_L_kept rfl ⟨(Nat.le_of_ble_eq_true rfl), (Nat.le_of_ble_eq_true rfl), by show kc + 26 + 0 ≤ 600000; omega, by show ns + 838 + 0 ≤ 7302250; omega⟩ cs0 (Nat.le_of_ble_eq_true rfl) (con_L_kept a1 h _ hV) rfl (kI (k := kc + 26 + 0) (n := ns + 838 + 0) (fun r1 h1 hV => ?_))
    refine r_if_eq (tgt := 432) hC dL_law_422 (by decide) (fun k9 => ?_) (fun k9 => ?_)
    · replace hV := hV.1 k9
      refine r_wide (k1 := kc + 26) (n1 := ns + 838) (by omega) (by omega) ?_
      refine r_sub (lo1 := [none, none, none, none, none, none, none, none, none, none, none, none, none]) ⟨Or.inl rfl, ⟨Or.inl rfl, ⟨Or.inl rfl, ⟨Or.inl rfl, ⟨Or.inl rfl, ⟨Or.inl rfl, ⟨Or.inl rfl, ⟨Or.inl rfl, ⟨Or.inl rfl, ⟨Or.inl rfl, ⟨Or.inl rfl, ⟨Or.inl rfl, ⟨Or.inl rfl, trivial⟩⟩⟩⟩⟩⟩⟩⟩⟩⟩⟩⟩⟩ ?_
      exact ok_L_law_432 hC hQ hk hn  h1 hV
    · replace hV := hV.2 k9
      refine r_aload_n hC dL_law_425 rfl ?_
      refine r_callS (As := [rv a1]) hC dL_law_426 rfl cf_L_accounts ml_7_138 st_L_accounts rfl ⟨(Nat.le_of_ble_eq_true rfl), (Nat.le_of_ble_eq_true rfl), by show kc + 26 + 0 + 0 ≤ 600000; omega, by show ns + 838 + 0 + 0 ≤ 7302250; omega⟩ cs0 (Nat.le_of_ble_eq_true rfl) (con_L_accounts a1 h1 _ hV) rfl (kI (k := kc + 26 + 0 + 0) (n := ns + 838 + 0 + 0) (fun r2 h2 hV => ?_))
      refine r_if_ne (tgt := 434) hC dL_law_429 (by decide) (fun k9 => ?_) (fun k9 => ?_)
      · replace hV := hV.1 k9
        refine r_iconst (v := 0) hC dL_law_434 (by decide) ?_
        refine r_istore (lo1 := [some (rv (sb E)), some (rv a1), some (.int a2), none, none, none, none, none, none, some (.int a9), none, none, some (.int 0)]) hC dL_law_435 (Nat.le_of_ble_eq_true rfl) (pvN rfl) rfl ?_
        refine r_wide (k1 := kc + 26) (n1 := ns + 838) (by omega) (by omega) ?_
        refine r_sub (lo1 := [some (rv (sb E)), some (rv a1), some (.int a2), none, none, none, none, none, none, none, none, none, some (.int 0)]) ⟨Or.inr rfl, ⟨Or.inr rfl, ⟨Or.inr rfl, ⟨Or.inl rfl, ⟨Or.inl rfl, ⟨Or.inl rfl, ⟨Or.inl rfl, ⟨Or.inl rfl, ⟨Or.inl rfl, ⟨Or.inl rfl, ⟨Or.inl rfl, ⟨Or.inl rfl, ⟨Or.inr rfl, trivial⟩⟩⟩⟩⟩⟩⟩⟩⟩⟩⟩⟩⟩ ?_
        obtain ⟨n9, hV⟩ := hV
        exact ok_L_law_437 hC hQ hk hn hC80 n9 a1 a2 0 h2 hV
      · replace hV := hV.2 k9
        refine r_wide (k1 := kc + 26) (n1 := ns + 838) (by omega) (by omega) ?_
        refine r_sub (lo1 := [none, none, none, none, none, none, none, none, none, none, none, none, none]) ⟨Or.inl rfl, ⟨Or.inl rfl, ⟨Or.inl rfl, ⟨Or.inl rfl, ⟨Or.inl rfl, ⟨Or.inl rfl, ⟨Or.inl rfl, ⟨Or.inl rfl, ⟨Or.inl rfl, ⟨Or.inl rfl, ⟨Or.inl rfl, ⟨Or.inl rfl, ⟨Or.inl rfl, trivial⟩⟩⟩⟩⟩⟩⟩⟩⟩⟩⟩⟩⟩ ?_
        exact ok_L_law_432 hC hQ hk hn  h2 hV
set_option maxRecDepth 100000 in
set_option maxHeartbeats 4000000 in
theorem ok_L_law_411 {E : Ev} {X : Xt} {l0 : Launch} {K : Int32 → Hp → Prop} {C80 : Nat → Int32 → Hp → Prop} (hC : Cx E X l0 RL cL_law 13 room_1) (hQ : LQ E X) {kc ns : Nat} (hk : kc + 26 ≤ 600000) (hn : ns + 838 ≤ 7302250) (hC80 : ∀ (a1 : Nat) (a2 : Int32) (h : Hp), C80 a1 a2 h → WW E X h (kc + 26) (ns + 838) 80 [some (rv (sb E)), some (rv a1), some (.int a2), none, none, none, none, none, none, none, none, none, none] []) (a1 : Nat) (a2 : Int32) (s0 : Int32) (h : Hp) (hV : V_L_law_411 K C80 a1 a2 s0 h) : WW E X h (kc + 26) (ns + 838) 411 [some (rv (sb E)), some (rv a1), some (.int a2), none, none, none, none, none, none, none, none, none, none] [.int s0] := by
  unfold V_L_law_411 at hV
  refine r_istore (lo1 := [some (rv (sb E)), some (rv a1), some (.int a2), none, none, none, none, none, none, some (.int s0), none, none, none]) hC dL_law_411 (Nat.le_of_ble_eq_true rfl) (pvN rfl) rfl ?_
  refine r_wide (k1 := kc + 26) (n1 := ns + 838) (by omega) (by omega) ?_
  exact ok_L_law_413 hC hQ hk hn hC80 a1 a2 s0 h hV
set_option maxRecDepth 100000 in
set_option maxHeartbeats 4000000 in
theorem ok_L_law_410 {E : Ev} {X : Xt} {l0 : Launch} {K : Int32 → Hp → Prop} {C80 : Nat → Int32 → Hp → Prop} (hC : Cx E X l0 RL cL_law 13 room_1) (hQ : LQ E X) {kc ns : Nat} (hk : kc + 26 ≤ 600000) (hn : ns + 838 ≤ 7302250) (hC80 : ∀ (a1 : Nat) (a2 : Int32) (h : Hp), C80 a1 a2 h → WW E X h (kc + 26) (ns + 838) 80 [some (rv (sb E)), some (rv a1), some (.int a2), none, none, none, none, none, none, none, none, none, none] []) (a1 : Nat) (a2 : Int32) (h : Hp) (hV : V_L_law_410 K C80 a1 a2 h) : WW E X h (kc + 26) (ns + 838) 410 [some (rv (sb E)), some (rv a1), some (.int a2), none, none, none, none, none, none, none, none, none, none] [] := by
  unfold V_L_law_410 at hV
  refine r_iconst (v := 0) hC dL_law_410 (by decide) ?_
  refine r_wide (k1 := kc + 26) (n1 := ns + 838) (by omega) (by omega) ?_
  exact ok_L_law_411 hC hQ hk hn hC80 a1 a2 0 h hV
set_option maxRecDepth 100000 in
set_option maxHeartbeats 4000000 in
theorem ok_L_law_387 {E : Ev} {X : Xt} {l0 : Launch} {K : Int32 → Hp → Prop} {C80 : Nat → Int32 → Hp → Prop} (hC : Cx E X l0 RL cL_law 13 room_1) (hQ : LQ E X) {kc ns : Nat} (hk : kc + 26 ≤ 600000) (hn : ns + 838 ≤ 7302250) (hC80 : ∀ (a1 : Nat) (a2 : Int32) (h : Hp), C80 a1 a2 h → WW E X h (kc + 26) (ns + 838) 80 [some (rv (sb E)), some (rv a1), some (.int a2), none, none, none, none, none, none, none, none, none, none] []) (a1 : Nat) (a2 : Int32) (a7 : Int64) (a11 : Int32) (h : Hp) (hV : V_L_law_387 K C80 a1 a2 a7 a11 h) : WW E X h (kc + 26) (ns + 838) 387 [some (rv (sb E)), some (rv a1), some (.int a2), none, none, none, none, some (.long a7), none, none, none, some (.int a11), none] [] := by
  unfold V_L_law_387 at hV
  refine r_aload_n hC dL_law_387 rfl ?_
  refine r_z0 (fun z9 => ?_)
  replace hV := hV z9
  obtain ⟨k9, hV⟩ := hV
  refine r_callV (ci := 6) (As := []) hC dL_law_388 rfl cf_X6_undo ml_7_110 im_X6_undo sl_X6_undo lq_6 rfl rfl k9 rfl ⟨(Nat.le_of_ble_eq_true rfl), (Nat.le_of_ble_eq_true rfl), by show kc + 26 + 0 ≤ 600000; omega, by show ns + 838 + 0 ≤ 7302250; omega⟩ cs0 (Nat.le_of_ble_eq_true rfl) (con_X6_undo a1 h _ hV) rfl (kI (k := kc + 26 + 0) (n := ns + 838 + 0) (fun r1 h1 hV => ?_))
  refine r_iload hC dL_law_391 rfl ?_
  refine r_icmp_ne (tgt := 410) hC dL_law_393 (by decide) (fun k9 => ?_) (fun k9 => ?_)
  · replace hV := hV.1 k9
    refine r_wide (k1 := kc + 26) (n1 := ns + 838) (by omega) (by omega) ?_
    refine r_sub (lo1 := [some (rv (sb E)), some (rv a1), some (.int a2), none, none, none, none, none, none, none, none, none, none]) ⟨Or.inr rfl, ⟨Or.inr rfl, ⟨Or.inr rfl, ⟨Or.inl rfl, ⟨Or.inl rfl, ⟨Or.inl rfl, ⟨Or.inl rfl, ⟨Or.inl rfl, ⟨Or.inl rfl, ⟨Or.inl rfl, ⟨Or.inl rfl, ⟨Or.inl rfl, ⟨Or.inl rfl, trivial⟩⟩⟩⟩⟩⟩⟩⟩⟩⟩⟩⟩⟩ ?_
    exact ok_L_law_410 hC hQ hk hn hC80 a1 a2 h1 hV
  · replace hV := hV.2 k9
    refine r_aload_n hC dL_law_396 rfl ?_
    refine r_callS (As := [rv a1]) hC dL_law_397 rfl cf_L_digest ml_7_120 st_L_digest rfl ⟨(Nat.le_of_ble_eq_true rfl), (Nat.le_of_ble_eq_true rfl), by show kc + 26 + 0 + 0 ≤ 600000; omega, by show ns + 838 + 0 + 0 ≤ 7302250; omega⟩ cs0 (Nat.le_of_ble_eq_true rfl) (con_L_digest a1 h1 _ hV) rfl (kJ (k := kc + 26 + 0 + 0) (n := ns + 838 + 0 + 0) (fun r2 h2 hV => ?_))
    refine r_lload hC dL_law_400 rfl ?_
    refine r_lcmp hC dL_law_402 ?_
    refine r_if_ne (tgt := 410) hC dL_law_403 (by decide) (fun k9 => ?_) (fun k9 => ?_)
    · replace hV := hV.1 k9
      refine r_wide (k1 := kc + 26) (n1 := ns + 838) (by omega) (by omega) ?_
      refine r_sub (lo1 := [some (rv (sb E)), some (rv a1), some (.int a2), none, none, none, none, none, none, none, none, none, none]) ⟨Or.inr rfl, ⟨Or.inr rfl, ⟨Or.inr rfl, ⟨Or.inl rfl, ⟨Or.inl rfl, ⟨Or.inl rfl, ⟨Or.inl rfl, ⟨Or.inl rfl, ⟨Or.inl rfl, ⟨Or.inl rfl, ⟨Or.inl rfl, ⟨Or.inl rfl, ⟨Or.inl rfl, trivial⟩⟩⟩⟩⟩⟩⟩⟩⟩⟩⟩⟩⟩ ?_
      exact ok_L_law_410 hC hQ hk hn hC80 a1 a2 h2 hV
    · replace hV := hV.2 k9
      refine r_iconst (v := 1) hC dL_law_406 (by decide) ?_
      refine r_goto (tgt := 411) hC dL_law_407 (by decide) ?_
      refine r_wide (k1 := kc + 26) (n1 := ns + 838) (by omega) (by omega) ?_
      refine r_sub (lo1 := [some (rv (sb E)), some (rv a1), some (.int a2), none, none, none, none, none, none, none, none, none, none]) ⟨Or.inr rfl, ⟨Or.inr rfl, ⟨Or.inr rfl, ⟨Or.inl rfl, ⟨Or.inl rfl, ⟨Or.inl rfl, ⟨Or.inl rfl, ⟨Or.inl rfl, ⟨Or.inl rfl, ⟨Or.inl rfl, ⟨Or.inl rfl, ⟨Or.inl rfl, ⟨Or.inl rfl, trivial⟩⟩⟩⟩⟩⟩⟩⟩⟩⟩⟩⟩⟩ ?_
      exact ok_L_law_411 hC hQ hk hn hC80 a1 a2 1 h2 hV
set_option maxRecDepth 100000 in
set_option maxHeartbeats 4000000 in
theorem ok_L_law_339 {E : Ev} {X : Xt} {l0 : Launch} {K : Int32 → Hp → Prop} {C80 : Nat → Int32 → Hp → Prop} (hC : Cx E X l0 RL cL_law 13 room_1) (hQ : LQ E X) {kc ns : Nat} (hk : kc + 26 ≤ 600000) (hn : ns + 838 ≤ 7302250) (hC80 : ∀ (a1 : Nat) (a2 : Int32) (h : Hp), C80 a1 a2 h → WW E X h (kc + 26) (ns + 838) 80 [some (rv (sb E)), some (rv a1), some (.int a2), none, none, none, none, none, none, none, none, none, none] []) (a1 : Nat) (a2 : Int32) (a4 : Int32) (a6 : Int32) (a7 : Int64) (a9 : Int32) (a10 : Int32) (s0 : Int32) (h : Hp) (hV : V_L_law_339 K C80 a1 a2 a4 a6 a7 a9 a10 s0 h) : WW E X h (kc + 26) (ns + 838) 339 [some (rv (sb E)), some (rv a1), some (.int a2), none, some (.int a4), none, some (.int a6), some (.long a7), none, some (.int a9), some (.int a10), none, none] [.int s0] := by
  unfold V_L_law_339 at hV
  refine r_istore (lo1 := [some (rv (sb E)), some (rv a1), some (.int a2), none, some (.int a4), none, some (.int a6), some (.long a7), none, some (.int a9), some (.int a10), some (.int s0), none]) hC dL_law_339 (Nat.le_of_ble_eq_true rfl) (pvI rfl) rfl ?_
  refine r_iload hC dL_law_341 rfl ?_
  refine r_if_eq (tgt := 413) hC dL_law_343 (by decide) (fun k9 => ?_) (fun k9 => ?_)
  · replace hV := hV.1 k9
    refine r_wide (k1 := kc + 26) (n1 := ns + 838) (by omega) (by omega) ?_
    refine r_sub (lo1 := [some (rv (sb E)), some (rv a1), some (.int a2), none, none, none, none, none, none, some (.int a9), none, none, none]) ⟨Or.inr rfl, ⟨Or.inr rfl, ⟨Or.inr rfl, ⟨Or.inl rfl, ⟨Or.inl rfl, ⟨Or.inl rfl, ⟨Or.inl rfl, ⟨Or.inl rfl, ⟨Or.inl rfl, ⟨Or.inr rfl, ⟨Or.inl rfl, ⟨Or.inl rfl, ⟨Or.inl rfl, trivial⟩⟩⟩⟩⟩⟩⟩⟩⟩⟩⟩⟩⟩ ?_
    exact ok_L_law_413 hC hQ hk hn hC80 a1 a2 a9 h hV
  · replace hV := hV.2 k9
    refine r_iload hC dL_law_346 rfl ?_
    refine r_if_eq (tgt := 413) hC dL_law_348 (by decide) (fun k9 => ?_) (fun k9 => ?_)
    · replace hV := hV.1 k9
      refine r_wide (k1 := kc + 26) (n1 := ns + 838) (by omega) (by omega) ?_
      refine r_sub (lo1 := [some (rv (sb E)), some (rv a1), some (.int a2), none, none, none, none, none, none, some (.int a9), none, none, none]) ⟨Or.inr rfl, ⟨Or.inr rfl, ⟨Or.inr rfl, ⟨Or.inl rfl, ⟨Or.inl rfl, ⟨Or.inl rfl, ⟨Or.inl rfl, ⟨Or.inl rfl, ⟨Or.inl rfl, ⟨Or.inr rfl, ⟨Or.inl rfl, ⟨Or.inl rfl, ⟨Or.inl rfl, trivial⟩⟩⟩⟩⟩⟩⟩⟩⟩⟩⟩⟩⟩ ?_
      exact ok_L_law_413 hC hQ hk hn hC80 a1 a2 a9 h hV
    · replace hV := hV.2 k9
      refine r_iload hC dL_law_351 rfl ?_
      refine r_sipush (v := 3072) hC dL_law_353 (by decide) ?_
      refine r_iand hC dL_law_356 ?_
      refine r_if_ne (tgt := 413) hC dL_law_357 (by decide) (fun k9 => ?_) (fun k9 => ?_)
      · replace hV := hV.1 k9
        refine r_wide (k1 := kc + 26) (n1 := ns + 838) (by omega) (by omega) ?_
        refine r_sub (lo1 := [some (rv (sb E)), some (rv a1), some (.int a2), none, none, none, none, none, none, some (.int a9), none, none, none]) ⟨Or.inr rfl, ⟨Or.inr rfl, ⟨Or.inr rfl, ⟨Or.inl rfl, ⟨Or.inl rfl, ⟨Or.inl rfl, ⟨Or.inl rfl, ⟨Or.inl rfl, ⟨Or.inl rfl, ⟨Or.inr rfl, ⟨Or.inl rfl, ⟨Or.inl rfl, ⟨Or.inl rfl, trivial⟩⟩⟩⟩⟩⟩⟩⟩⟩⟩⟩⟩⟩ ?_
        exact ok_L_law_413 hC hQ hk hn hC80 a1 a2 a9 h hV
      · replace hV := hV.2 k9
        refine r_aload_n hC dL_law_360 rfl ?_
        refine r_bipush (v := 14) hC dL_law_361 (by decide) ?_
        obtain ⟨k9, hV⟩ := hV
        refine r_callV (ci := 6) (As := [.int 14]) hC dL_law_363 rfl cf_X6_count ml_7_13 im_X6_count sl_X6_count lq_6 rfl rfl k9 rfl ⟨(Nat.le_of_ble_eq_true rfl), (Nat.le_of_ble_eq_true rfl), by show kc + 26 + 0 ≤ 600000; omega, by show ns + 838 + 0 ≤ 7302250; omega⟩ cs0 (Nat.le_of_ble_eq_true rfl) (con_X6_count a1 14 h _ hV) rfl (kI (k := kc + 26 + 0) (n := ns + 838 + 0) (fun r1 h1 hV => ?_))
        refine r_iload hC dL_law_366 rfl ?_
        refine r_icmp_ne (tgt := 387) hC dL_law_368 (by decide) (fun k9 => ?_) (fun k9 => ?_)
        · replace hV := hV.1 k9
          refine r_wide (k1 := kc + 26) (n1 := ns + 838) (by omega) (by omega) ?_
          refine r_sub (lo1 := [some (rv (sb E)), some (rv a1), some (.int a2), none, none, none, none, some (.long a7), none, none, none, some (.int s0), none]) ⟨Or.inr rfl, ⟨Or.inr rfl, ⟨Or.inr rfl, ⟨Or.inl rfl, ⟨Or.inl rfl, ⟨Or.inl rfl, ⟨Or.inl rfl, ⟨Or.inr rfl, ⟨Or.inl rfl, ⟨Or.inl rfl, ⟨Or.inl rfl, ⟨Or.inr rfl, ⟨Or.inl rfl, trivial⟩⟩⟩⟩⟩⟩⟩⟩⟩⟩⟩⟩⟩ ?_
          exact ok_L_law_387 hC hQ hk hn hC80 a1 a2 a7 s0 h1 hV
        · replace hV := hV.2 k9
          refine r_iload hC dL_law_371 rfl ?_
          refine r_iconst (v := 5) hC dL_law_373 (by decide) ?_
          refine r_icmp_ne (tgt := 413) hC dL_law_374 (by decide) (fun k9 => ?_) (fun k9 => ?_)
          · replace hV := hV.1 k9
            refine r_wide (k1 := kc + 26) (n1 := ns + 838) (by omega) (by omega) ?_
            refine r_sub (lo1 := [some (rv (sb E)), some (rv a1), some (.int a2), none, none, none, none, none, none, some (.int a9), none, none, none]) ⟨Or.inr rfl, ⟨Or.inr rfl, ⟨Or.inr rfl, ⟨Or.inl rfl, ⟨Or.inl rfl, ⟨Or.inl rfl, ⟨Or.inl rfl, ⟨Or.inl rfl, ⟨Or.inl rfl, ⟨Or.inr rfl, ⟨Or.inl rfl, ⟨Or.inl rfl, ⟨Or.inl rfl, trivial⟩⟩⟩⟩⟩⟩⟩⟩⟩⟩⟩⟩⟩ ?_
            exact ok_L_law_413 hC hQ hk hn hC80 a1 a2 a9 h1 hV
          · replace hV := hV.2 k9
            refine r_aload_n hC dL_law_377 rfl ?_
            refine r_callS (As := [rv a1]) hC dL_law_378 rfl cf_L_digest ml_7_120 st_L_digest rfl ⟨(Nat.le_of_ble_eq_true rfl), (Nat.le_of_ble_eq_true rfl), by show kc + 26 + 0 + 0 ≤ 600000; omega, by show ns + 838 + 0 + 0 ≤ 7302250; omega⟩ cs0 (Nat.le_of_ble_eq_true rfl) (con_L_digest a1 h1 _ hV) rfl (kJ (k := kc + 26 + 0 + 0) (n := ns + 838 + 0 + 0) (fun r2 h2 hV => ?_))
            refine r_lload hC dL_law_381 rfl ?_
            refine r_lcmp hC dL_law_383 ?_
            refine r_if_eq (tgt := 413) hC dL_law_384 (by decide) (fun k9 => ?_) (fun k9 => ?_)
            · replace hV := hV.1 k9
              refine r_wide (k1 := kc + 26) (n1 := ns + 838) (by omega) (by omega) ?_
              refine r_sub (lo1 := [some (rv (sb E)), some (rv a1), some (.int a2), none, none, none, none, none, none, some (.int a9), none, none, none]) ⟨Or.inr rfl, ⟨Or.inr rfl, ⟨Or.inr rfl, ⟨Or.inl rfl, ⟨Or.inl rfl, ⟨Or.inl rfl, ⟨Or.inl rfl, ⟨Or.inl rfl, ⟨Or.inl rfl, ⟨Or.inr rfl, ⟨Or.inl rfl, ⟨Or.inl rfl, ⟨Or.inl rfl, trivial⟩⟩⟩⟩⟩⟩⟩⟩⟩⟩⟩⟩⟩ ?_
              exact ok_L_law_413 hC hQ hk hn hC80 a1 a2 a9 h2 hV
            · replace hV := hV.2 k9
              refine r_wide (k1 := kc + 26) (n1 := ns + 838) (by omega) (by omega) ?_
              refine r_sub (lo1 := [some (rv (sb E)), some (rv a1), some (.int a2), none, none, none, none, some (.long a7), none, none, none, some (.int s0), none]) ⟨Or.inr rfl, ⟨Or.inr rfl, ⟨Or.inr rfl, ⟨Or.inl rfl, ⟨Or.inl rfl, ⟨Or.inl rfl, ⟨Or.inl rfl, ⟨Or.inr rfl, ⟨Or.inl rfl, ⟨Or.inl rfl, ⟨Or.inl rfl, ⟨Or.inr rfl, ⟨Or.inl rfl, trivial⟩⟩⟩⟩⟩⟩⟩⟩⟩⟩⟩⟩⟩ ?_
              exact ok_L_law_387 hC hQ hk hn hC80 a1 a2 a7 s0 h2 hV
set_option maxRecDepth 100000 in
set_option maxHeartbeats 4000000 in
theorem ok_L_law_327 {E : Ev} {X : Xt} {l0 : Launch} {K : Int32 → Hp → Prop} {C80 : Nat → Int32 → Hp → Prop} (hC : Cx E X l0 RL cL_law 13 room_1) (hQ : LQ E X) {kc ns : Nat} (hk : kc + 26 ≤ 600000) (hn : ns + 838 ≤ 7302250) (hC80 : ∀ (a1 : Nat) (a2 : Int32) (h : Hp), C80 a1 a2 h → WW E X h (kc + 26) (ns + 838) 80 [some (rv (sb E)), some (rv a1), some (.int a2), none, none, none, none, none, none, none, none, none, none] []) (a1 : Nat) (a2 : Int32) (a4 : Int32) (a6 : Int32) (a7 : Int64) (a9 : Int32) (a10 : Int32) (h : Hp) (hV : V_L_law_327 K C80 a1 a2 a4 a6 a7 a9 a10 h) : WW E X h (kc + 26) (ns + 838) 327 [some (rv (sb E)), some (rv a1), some (.int a2), none, some (.int a4), none, some (.int a6), some (.long a7), none, some (.int a9), some (.int a10), none, none] [] := by
  unfold V_L_law_327 at hV
  refine r_iload hC dL_law_327 rfl ?_
  refine r_iconst (v := 5) hC dL_law_329 (by decide) ?_
  refine r_icmp_ne (tgt := 337) hC dL_law_330 (by decide) (fun k9 => ?_) (fun k9 => ?_)
  · replace hV := hV.1 k9
    refine r_iload hC dL_law_337 rfl ?_
    refine r_wide (k1 := kc + 26) (n1 := ns + 838) (by omega) (by omega) ?_
    exact ok_L_law_339 hC hQ hk hn hC80 a1 a2 a4 a6 a7 a9 a10 a6 h hV
  · replace hV := hV.2 k9
    refine r_iconst (v := 4) hC dL_law_333 (by decide) ?_
    refine r_goto (tgt := 339) hC dL_law_334 (by decide) ?_
    refine r_wide (k1 := kc + 26) (n1 := ns + 838) (by omega) (by omega) ?_
    exact ok_L_law_339 hC hQ hk hn hC80 a1 a2 a4 a6 a7 a9 a10 4 h hV
set_option maxRecDepth 100000 in
set_option maxHeartbeats 4000000 in
theorem ok_L_law_226 {E : Ev} {X : Xt} {l0 : Launch} {K : Int32 → Hp → Prop} {C80 : Nat → Int32 → Hp → Prop} (hC : Cx E X l0 RL cL_law 13 room_1) (hQ : LQ E X) {kc ns : Nat} (hk : kc + 26 ≤ 600000) (hn : ns + 838 ≤ 7302250) (hC80 : ∀ (a1 : Nat) (a2 : Int32) (h : Hp), C80 a1 a2 h → WW E X h (kc + 26) (ns + 838) 80 [some (rv (sb E)), some (rv a1), some (.int a2), none, none, none, none, none, none, none, none, none, none] []) (a1 : Nat) (a2 : Int32) (a4 : Int32) (a6 : Int32) (a7 : Int64) (a10 : Int32) (s0 : Int32) (h : Hp) (hV : V_L_law_226 K C80 a1 a2 a4 a6 a7 a10 s0 h) : WW E X h (kc + 4) (ns + 226) 226 [some (rv (sb E)), some (rv a1), some (.int a2), none, some (.int a4), none, some (.int a6), some (.long a7), none, none, some (.int a10), none, none] [.int s0] := by
  unfold V_L_law_226 at hV
  refine r_istore (lo1 := [some (rv (sb E)), some (rv a1), some (.int a2), none, some (.int a4), none, some (.int a6), some (.long a7), none, some (.int s0), some (.int a10), none, none]) hC dL_law_226 (Nat.le_of_ble_eq_true rfl) (pvN rfl) rfl ?_
  refine r_goto (tgt := 327) hC dL_law_228 (by decide) ?_
  refine r_wide (k1 := kc + 26) (n1 := ns + 838) (by omega) (by omega) ?_
  exact ok_L_law_327 hC hQ hk hn hC80 a1 a2 a4 a6 a7 s0 a10 h hV
set_option maxRecDepth 100000 in
set_option maxHeartbeats 4000000 in
theorem ok_L_law_311 {E : Ev} {X : Xt} {l0 : Launch} {K : Int32 → Hp → Prop} {C80 : Nat → Int32 → Hp → Prop} (hC : Cx E X l0 RL cL_law 13 room_1) (hQ : LQ E X) {kc ns : Nat} (hk : kc + 26 ≤ 600000) (hn : ns + 838 ≤ 7302250) (hC80 : ∀ (a1 : Nat) (a2 : Int32) (h : Hp), C80 a1 a2 h → WW E X h (kc + 26) (ns + 838) 80 [some (rv (sb E)), some (rv a1), some (.int a2), none, none, none, none, none, none, none, none, none, none] []) (a1 : Nat) (a2 : Int32) (a4 : Int32) (a6 : Int32) (a7 : Int64) (a10 : Int32) (s0 : Int32) (h : Hp) (hV : V_L_law_311 K C80 a1 a2 a4 a6 a7 a10 s0 h) : WW E X h (kc + 8) (ns + 452) 311 [some (rv (sb E)), some (rv a1), some (.int a2), none, some (.int a4), none, some (.int a6), some (.long a7), none, none, some (.int a10), none, none] [.int s0] := by
  unfold V_L_law_311 at hV
  refine r_istore (lo1 := [some (rv (sb E)), some (rv a1), some (.int a2), none, some (.int a4), none, some (.int a6), some (.long a7), none, some (.int s0), some (.int a10), none, none]) hC dL_law_311 (Nat.le_of_ble_eq_true rfl) (pvN rfl) rfl ?_
  refine r_goto (tgt := 327) hC dL_law_313 (by decide) ?_
  refine r_wide (k1 := kc + 26) (n1 := ns + 838) (by omega) (by omega) ?_
  exact ok_L_law_327 hC hQ hk hn hC80 a1 a2 a4 a6 a7 s0 a10 h hV
set_option maxRecDepth 100000 in
set_option maxHeartbeats 4000000 in
theorem ok_L_law_310 {E : Ev} {X : Xt} {l0 : Launch} {K : Int32 → Hp → Prop} {C80 : Nat → Int32 → Hp → Prop} (hC : Cx E X l0 RL cL_law 13 room_1) (hQ : LQ E X) {kc ns : Nat} (hk : kc + 26 ≤ 600000) (hn : ns + 838 ≤ 7302250) (hC80 : ∀ (a1 : Nat) (a2 : Int32) (h : Hp), C80 a1 a2 h → WW E X h (kc + 26) (ns + 838) 80 [some (rv (sb E)), some (rv a1), some (.int a2), none, none, none, none, none, none, none, none, none, none] []) (a1 : Nat) (a2 : Int32) (a4 : Int32) (a6 : Int32) (a7 : Int64) (a10 : Int32) (h : Hp) (hV : V_L_law_310 K C80 a1 a2 a4 a6 a7 a10 h) : WW E X h (kc + 8) (ns + 452) 310 [some (rv (sb E)), some (rv a1), some (.int a2), none, some (.int a4), none, some (.int a6), some (.long a7), none, none, some (.int a10), none, none] [] := by
  unfold V_L_law_310 at hV
  refine r_iconst (v := 0) hC dL_law_310 (by decide) ?_
  refine r_wide (k1 := kc + 8) (n1 := ns + 452) (by omega) (by omega) ?_
  exact ok_L_law_311 hC hQ hk hn hC80 a1 a2 a4 a6 a7 a10 0 h hV
set_option maxRecDepth 100000 in
set_option maxHeartbeats 4000000 in
theorem ok_L_law_150 {E : Ev} {X : Xt} {l0 : Launch} {K : Int32 → Hp → Prop} {C80 : Nat → Int32 → Hp → Prop} (hC : Cx E X l0 RL cL_law 13 room_1) (hQ : LQ E X) {kc ns : Nat} (hk : kc + 26 ≤ 600000) (hn : ns + 838 ≤ 7302250) (hC80 : ∀ (a1 : Nat) (a2 : Int32) (h : Hp), C80 a1 a2 h → WW E X h (kc + 26) (ns + 838) 80 [some (rv (sb E)), some (rv a1), some (.int a2), none, none, none, none, none, none, none, none, none, none] []) (a1 : Nat) (a2 : Int32) (a3 : Int32) (a4 : Int32) (a5 : Int32) (a6 : Int32) (a7 : Int64) (s0 : Int32) (h : Hp) (hV : V_L_law_150 K C80 a1 a2 a3 a4 a5 a6 a7 s0 h) : WW E X h (kc + 0) (ns + 0) 150 [some (rv (sb E)), some (rv a1), some (.int a2), some (.int a3), some (.int a4), some (.int a5), some (.int a6), some (.long a7), none, none, none, none, none] [.int s0] := by
  unfold V_L_law_150 at hV
  refine r_istore (lo1 := [some (rv (sb E)), some (rv a1), some (.int a2), some (.int a3), some (.int a4), some (.int a5), some (.int a6), some (.long a7), none, none, some (.int s0), none, none]) hC dL_law_150 (Nat.le_of_ble_eq_true rfl) (pvN rfl) rfl ?_
  refine r_iload_n hC dL_law_152 rfl ?_
  refine r_iconst (v := 3) hC dL_law_153 (by decide) ?_
  refine r_icmp_ge (tgt := 231) hC dL_law_154 (by decide) (fun k9 => ?_) (fun k9 => ?_)
  · replace hV := hV.1 k9
    refine r_iload hC dL_law_231 rfl ?_
    refine r_bipush (v := 7) hC dL_law_233 (by decide) ?_
    refine r_icmp_ge (tgt := 252) hC dL_law_235 (by decide) (fun k9 => ?_) (fun k9 => ?_)
    · replace hV := hV.1 k9
      refine r_iload hC dL_law_252 rfl ?_
      refine r_bipush (v := 16) hC dL_law_254 (by decide) ?_
      refine r_icmp_ne (tgt := 316) hC dL_law_256 (by decide) (fun k9 => ?_) (fun k9 => ?_)
      · replace hV := hV.1 k9
        refine r_aload_n hC dL_law_316 rfl ?_
        refine r_iload hC dL_law_317 rfl ?_
        refine r_iload_n hC dL_law_319 rfl ?_
        refine r_iload hC dL_law_320 rfl ?_
        refine r_callS (As := [rv a1, .int a5, .int a3, .int a4]) hC dL_law_322 rfl cf_L_jobs ml_7_131 st_L_jobs rfl ⟨(Nat.le_of_ble_eq_true rfl), (Nat.le_of_ble_eq_true rfl), by show kc + 0 + 26 ≤ 600000; omega, by show ns + 0 + 838 ≤ 7302250; omega⟩ cs0 (Nat.le_of_ble_eq_true rfl) (con_L_jobs a1 a5 a3 a4 h _ hV) rfl (kI (k := kc + 0 + 26) (n := ns + 0 + 838) (fun r1 h1 hV => ?_))
        refine r_istore (lo1 := [some (rv (sb E)), some (rv a1), some (.int a2), some (.int a3), some (.int a4), some (.int a5), some (.int a6), some (.long a7), none, some (.int r1), some (.int s0), none, none]) hC dL_law_325 (Nat.le_of_ble_eq_true rfl) (pvN rfl) rfl ?_
        refine r_wide (k1 := kc + 26) (n1 := ns + 838) (by omega) (by omega) ?_
        refine r_sub (lo1 := [some (rv (sb E)), some (rv a1), some (.int a2), none, some (.int a4), none, some (.int a6), some (.long a7), none, some (.int r1), some (.int s0), none, none]) ⟨Or.inr rfl, ⟨Or.inr rfl, ⟨Or.inr rfl, ⟨Or.inl rfl, ⟨Or.inr rfl, ⟨Or.inl rfl, ⟨Or.inr rfl, ⟨Or.inr rfl, ⟨Or.inl rfl, ⟨Or.inr rfl, ⟨Or.inr rfl, ⟨Or.inl rfl, ⟨Or.inl rfl, trivial⟩⟩⟩⟩⟩⟩⟩⟩⟩⟩⟩⟩⟩ ?_
        exact ok_L_law_327 hC hQ hk hn hC80 a1 a2 a4 a6 a7 r1 s0 h1 hV
      · replace hV := hV.2 k9
        refine r_aload_n hC dL_law_259 rfl ?_
        refine r_bipush (v := 11) hC dL_law_260 (by decide) ?_
        obtain ⟨k9, hV⟩ := hV
        refine r_callV (ci := 6) (As := [.int 11]) hC dL_law_262 rfl cf_X6_count ml_7_13 im_X6_count sl_X6_count lq_6 rfl rfl k9 rfl ⟨(Nat.le_of_ble_eq_true rfl), (Nat.le_of_ble_eq_true rfl), by show kc + 0 + 0 ≤ 600000; omega, by show ns + 0 + 0 ≤ 7302250; omega⟩ cs0 (Nat.le_of_ble_eq_true rfl) (con_X6_count a1 11 h _ hV) rfl (kI (k := kc + 0 + 0) (n := ns + 0 + 0) (fun r1 h1 hV => ?_))
        refine r_istore (lo1 := [some (rv (sb E)), some (rv a1), some (.int a2), some (.int a3), some (.int a4), some (.int a5), some (.int a6), some (.long a7), none, none, some (.int s0), some (.int r1), none]) hC dL_law_265 (Nat.le_of_ble_eq_true rfl) (pvI rfl) rfl ?_
        refine r_aload_n hC dL_law_267 rfl ?_
        refine r_iconst (v := 1) hC dL_law_268 (by decide) ?_
        refine r_iload hC dL_law_269 rfl ?_
        refine r_bipush (v := 30) hC dL_law_271 (by decide) ?_
        refine r_callS (As := [.int a4, .int 30]) hC dL_law_273 rfl cf_L_low ml_7_48 st_L_low rfl ⟨(Nat.le_of_ble_eq_true rfl), (Nat.le_of_ble_eq_true rfl), by show kc + 0 + 0 + 0 ≤ 600000; omega, by show ns + 0 + 0 + 0 ≤ 7302250; omega⟩ (csI (csR cs0)) (Nat.le_of_ble_eq_true rfl) (con_L_low a4 30 h1 _ hV) rfl (kI (k := kc + 0 + 0 + 0) (n := ns + 0 + 0 + 0) (fun r2 h2 hV => ?_))
        refine r_iadd hC dL_law_276 ?_
        obtain ⟨k9, hV⟩ := hV
        refine r_callV (ci := 6) (As := [.int (1 + r2)]) hC dL_law_277 rfl cf_X6_pass ml_7_128 im_X6_pass sl_X6_pass lq_6 rfl rfl k9 rfl ⟨(Nat.le_of_ble_eq_true rfl), (Nat.le_of_ble_eq_true rfl), by show kc + 0 + 0 + 0 + 4 ≤ 600000; omega, by show ns + 0 + 0 + 0 + 226 ≤ 7302250; omega⟩ cs0 (Nat.le_of_ble_eq_true rfl) (con_X6_pass a1 (1 + r2) h2 _ hV) rfl (kI (k := kc + 0 + 0 + 0 + 4) (n := ns + 0 + 0 + 0 + 226) (fun r3 h3 hV => ?_))
        refine r_iload hC dL_law_280 rfl ?_
        refine r_iconst (v := 1) hC dL_law_282 (by decide) ?_
        refine r_iadd hC dL_law_283 ?_
        refine r_iload hC dL_law_284 rfl ?_
        refine r_bipush (v := 30) hC dL_law_286 (by decide) ?_
        refine r_callS (As := [.int a4, .int 30]) hC dL_law_288 rfl cf_L_low ml_7_48 st_L_low rfl ⟨(Nat.le_of_ble_eq_true rfl), (Nat.le_of_ble_eq_true rfl), by show kc + 0 + 0 + 0 + 4 + 0 ≤ 600000; omega, by show ns + 0 + 0 + 0 + 226 + 0 ≤ 7302250; omega⟩ (csI (csI cs0)) (Nat.le_of_ble_eq_true rfl) (con_L_low a4 30 h3 _ hV) rfl (kI (k := kc + 0 + 0 + 0 + 4 + 0) (n := ns + 0 + 0 + 0 + 226 + 0) (fun r4 h4 hV => ?_))
        refine r_iadd hC dL_law_291 ?_
        refine r_icmp_ne (tgt := 310) hC dL_law_292 (by decide) (fun k9 => ?_) (fun k9 => ?_)
        · replace hV := hV.1 k9
          refine r_wide (k1 := kc + 8) (n1 := ns + 452) (by omega) (by omega) ?_
          refine r_sub (lo1 := [some (rv (sb E)), some (rv a1), some (.int a2), none, some (.int a4), none, some (.int a6), some (.long a7), none, none, some (.int s0), none, none]) ⟨Or.inr rfl, ⟨Or.inr rfl, ⟨Or.inr rfl, ⟨Or.inl rfl, ⟨Or.inr rfl, ⟨Or.inl rfl, ⟨Or.inr rfl, ⟨Or.inr rfl, ⟨Or.inl rfl, ⟨Or.inl rfl, ⟨Or.inr rfl, ⟨Or.inl rfl, ⟨Or.inl rfl, trivial⟩⟩⟩⟩⟩⟩⟩⟩⟩⟩⟩⟩⟩ ?_
          exact ok_L_law_310 hC hQ hk hn hC80 a1 a2 a4 a6 a7 s0 h4 hV
        · replace hV := hV.2 k9
          refine r_aload_n hC dL_law_295 rfl ?_
          refine r_bipush (v := 31) hC dL_law_296 (by decide) ?_
          obtain ⟨k9, hV⟩ := hV
          refine r_callV (ci := 6) (As := [.int 31]) hC dL_law_298 rfl cf_X6_pass ml_7_128 im_X6_pass sl_X6_pass lq_6 rfl rfl k9 rfl ⟨(Nat.le_of_ble_eq_true rfl), (Nat.le_of_ble_eq_true rfl), by show kc + 0 + 0 + 0 + 4 + 0 + 4 ≤ 600000; omega, by show ns + 0 + 0 + 0 + 226 + 0 + 226 ≤ 7302250; omega⟩ cs0 (Nat.le_of_ble_eq_true rfl) (con_X6_pass a1 31 h4 _ hV) rfl (kI (k := kc + 0 + 0 + 0 + 4 + 0 + 4) (n := ns + 0 + 0 + 0 + 226 + 0 + 226) (fun r5 h5 hV => ?_))
          refine r_bipush (v := (-2)) hC dL_law_301 (by decide) ?_
          refine r_icmp_ne (tgt := 310) hC dL_law_303 (by decide) (fun k9 => ?_) (fun k9 => ?_)
          · replace hV := hV.1 k9
            refine r_wide (k1 := kc + 8) (n1 := ns + 452) (by omega) (by omega) ?_
            refine r_sub (lo1 := [some (rv (sb E)), some (rv a1), some (.int a2), none, some (.int a4), none, some (.int a6), some (.long a7), none, none, some (.int s0), none, none]) ⟨Or.inr rfl, ⟨Or.inr rfl, ⟨Or.inr rfl, ⟨Or.inl rfl, ⟨Or.inr rfl, ⟨Or.inl rfl, ⟨Or.inr rfl, ⟨Or.inr rfl, ⟨Or.inl rfl, ⟨Or.inl rfl, ⟨Or.inr rfl, ⟨Or.inl rfl, ⟨Or.inl rfl, trivial⟩⟩⟩⟩⟩⟩⟩⟩⟩⟩⟩⟩⟩ ?_
            exact ok_L_law_310 hC hQ hk hn hC80 a1 a2 a4 a6 a7 s0 h5 hV
          · replace hV := hV.2 k9
            refine r_iconst (v := 1) hC dL_law_306 (by decide) ?_
            refine r_goto (tgt := 311) hC dL_law_307 (by decide) ?_
            refine r_wide (k1 := kc + 8) (n1 := ns + 452) (by omega) (by omega) ?_
            refine r_sub (lo1 := [some (rv (sb E)), some (rv a1), some (.int a2), none, some (.int a4), none, some (.int a6), some (.long a7), none, none, some (.int s0), none, none]) ⟨Or.inr rfl, ⟨Or.inr rfl, ⟨Or.inr rfl, ⟨Or.inl rfl, ⟨Or.inr rfl, ⟨Or.inl rfl, ⟨Or.inr rfl, ⟨Or.inr rfl, ⟨Or.inl rfl, ⟨Or.inl rfl, ⟨Or.inr rfl, ⟨Or.inl rfl, ⟨Or.inl rfl, trivial⟩⟩⟩⟩⟩⟩⟩⟩⟩⟩⟩⟩⟩ ?_
            exact ok_L_law_311 hC hQ hk hn hC80 a1 a2 a4 a6 a7 s0 1 h5 hV
    · replace hV := hV.2 k9
      refine r_aload_n hC dL_law_238 rfl ?_
      refine r_iload hC dL_law_239 rfl ?_
      refine r_iload_n hC dL_law_241 rfl ?_
      refine r_iload hC dL_law_242 rfl ?_
      refine r_callS (As := [rv a1, .int a5, .int a3, .int a4]) hC dL_law_244 rfl cf_L_cases ml_7_124 st_L_cases rfl ⟨(Nat.le_of_ble_eq_true rfl), (Nat.le_of_ble_eq_true rfl), by show kc + 0 + 8 ≤ 600000; omega, by show ns + 0 + 452 ≤ 7302250; omega⟩ cs0 (Nat.le_of_ble_eq_true rfl) (con_L_cases a1 a5 a3 a4 h _ hV) rfl (kI (k := kc + 0 + 8) (n := ns + 0 + 452) (fun r1 h1 hV => ?_))
      refine r_istore (lo1 := [some (rv (sb E)), some (rv a1), some (.int a2), some (.int a3), some (.int a4), some (.int a5), some (.int a6), some (.long a7), none, some (.int r1), some (.int s0), none, none]) hC dL_law_247 (Nat.le_of_ble_eq_true rfl) (pvN rfl) rfl ?_
      refine r_goto (tgt := 327) hC dL_law_249 (by decide) ?_
      refine r_wide (k1 := kc + 26) (n1 := ns + 838) (by omega) (by omega) ?_
      refine r_sub (lo1 := [some (rv (sb E)), some (rv a1), some (.int a2), none, some (.int a4), none, some (.int a6), some (.long a7), none, some (.int r1), some (.int s0), none, none]) ⟨Or.inr rfl, ⟨Or.inr rfl, ⟨Or.inr rfl, ⟨Or.inl rfl, ⟨Or.inr rfl, ⟨Or.inl rfl, ⟨Or.inr rfl, ⟨Or.inr rfl, ⟨Or.inl rfl, ⟨Or.inr rfl, ⟨Or.inr rfl, ⟨Or.inl rfl, ⟨Or.inl rfl, trivial⟩⟩⟩⟩⟩⟩⟩⟩⟩⟩⟩⟩⟩ ?_
      exact ok_L_law_327 hC hQ hk hn hC80 a1 a2 a4 a6 a7 r1 s0 h1 hV
  · replace hV := hV.2 k9
    refine r_iload_n hC dL_law_157 rfl ?_
    refine r_if_ne (tgt := 188) hC dL_law_158 (by decide) (fun k9 => ?_) (fun k9 => ?_)
    · replace hV := hV.1 k9
      refine r_iload_n hC dL_law_188 rfl ?_
      refine r_iconst (v := 1) hC dL_law_189 (by decide) ?_
      refine r_icmp_ne (tgt := 208) hC dL_law_190 (by decide) (fun k9 => ?_) (fun k9 => ?_)
      · replace hV := hV.1 k9
        refine r_aload_n hC dL_law_208 rfl ?_
        refine r_iconst (v := 0) hC dL_law_209 (by decide) ?_
        refine r_bipush (v := 9) hC dL_law_210 (by decide) ?_
        obtain ⟨k9, hV⟩ := hV
        refine r_callV (ci := 6) (As := [.int 0, .int 9]) hC dL_law_212 rfl cf_X6_castFount ml_7_68 im_X6_castFount sl_X6_castFount lq_6 rfl rfl k9 rfl ⟨(Nat.le_of_ble_eq_true rfl), (Nat.le_of_ble_eq_true rfl), by show kc + 0 + 4 ≤ 600000; omega, by show ns + 0 + 226 ≤ 7302250; omega⟩ cs0 (Nat.le_of_ble_eq_true rfl) (con_X6_castFount a1 0 9 h _ hV) rfl (kI (k := kc + 0 + 4) (n := ns + 0 + 226) (fun r1 h1 hV => ?_))
        refine r_sipush (v := 288) hC dL_law_215 (by decide) ?_
        refine r_icmp_ne (tgt := 225) hC dL_law_218 (by decide) (fun k9 => ?_) (fun k9 => ?_)
        · replace hV := hV.1 k9
          refine r_iconst (v := 0) hC dL_law_225 (by decide) ?_
          refine r_wide (k1 := kc + 4) (n1 := ns + 226) (by omega) (by omega) ?_
          refine r_sub (lo1 := [some (rv (sb E)), some (rv a1), some (.int a2), none, some (.int a4), none, some (.int a6), some (.long a7), none, none, some (.int s0), none, none]) ⟨Or.inr rfl, ⟨Or.inr rfl, ⟨Or.inr rfl, ⟨Or.inl rfl, ⟨Or.inr rfl, ⟨Or.inl rfl, ⟨Or.inr rfl, ⟨Or.inr rfl, ⟨Or.inl rfl, ⟨Or.inl rfl, ⟨Or.inr rfl, ⟨Or.inl rfl, ⟨Or.inl rfl, trivial⟩⟩⟩⟩⟩⟩⟩⟩⟩⟩⟩⟩⟩ ?_
          exact ok_L_law_226 hC hQ hk hn hC80 a1 a2 a4 a6 a7 s0 0 h1 hV
        · replace hV := hV.2 k9
          refine r_iconst (v := 1) hC dL_law_221 (by decide) ?_
          refine r_goto (tgt := 226) hC dL_law_222 (by decide) ?_
          refine r_wide (k1 := kc + 4) (n1 := ns + 226) (by omega) (by omega) ?_
          refine r_sub (lo1 := [some (rv (sb E)), some (rv a1), some (.int a2), none, some (.int a4), none, some (.int a6), some (.long a7), none, none, some (.int s0), none, none]) ⟨Or.inr rfl, ⟨Or.inr rfl, ⟨Or.inr rfl, ⟨Or.inl rfl, ⟨Or.inr rfl, ⟨Or.inl rfl, ⟨Or.inr rfl, ⟨Or.inr rfl, ⟨Or.inl rfl, ⟨Or.inl rfl, ⟨Or.inr rfl, ⟨Or.inl rfl, ⟨Or.inl rfl, trivial⟩⟩⟩⟩⟩⟩⟩⟩⟩⟩⟩⟩⟩ ?_
          exact ok_L_law_226 hC hQ hk hn hC80 a1 a2 a4 a6 a7 s0 1 h1 hV
      · replace hV := hV.2 k9
        refine r_aload_n hC dL_law_193 rfl ?_
        obtain ⟨k9, hV⟩ := hV
        refine r_callV (ci := 6) (As := []) hC dL_law_194 rfl cf_X6_addCase ml_7_62 im_X6_addCase sl_X6_addCase lq_6 rfl rfl k9 rfl ⟨(Nat.le_of_ble_eq_true rfl), (Nat.le_of_ble_eq_true rfl), by show kc + 0 + 4 ≤ 600000; omega, by show ns + 0 + 226 ≤ 7302250; omega⟩ cs0 (Nat.le_of_ble_eq_true rfl) (con_X6_addCase a1 h _ hV) rfl (kI (k := kc + 0 + 4) (n := ns + 0 + 226) (fun r1 h1 hV => ?_))
        refine r_if_ne (tgt := 204) hC dL_law_197 (by decide) (fun k9 => ?_) (fun k9 => ?_)
        · replace hV := hV.1 k9
          refine r_iconst (v := 0) hC dL_law_204 (by decide) ?_
          refine r_goto (tgt := 226) hC dL_law_205 (by decide) ?_
          refine r_wide (k1 := kc + 4) (n1 := ns + 226) (by omega) (by omega) ?_
          refine r_sub (lo1 := [some (rv (sb E)), some (rv a1), some (.int a2), none, some (.int a4), none, some (.int a6), some (.long a7), none, none, some (.int s0), none, none]) ⟨Or.inr rfl, ⟨Or.inr rfl, ⟨Or.inr rfl, ⟨Or.inl rfl, ⟨Or.inr rfl, ⟨Or.inl rfl, ⟨Or.inr rfl, ⟨Or.inr rfl, ⟨Or.inl rfl, ⟨Or.inl rfl, ⟨Or.inr rfl, ⟨Or.inl rfl, ⟨Or.inl rfl, trivial⟩⟩⟩⟩⟩⟩⟩⟩⟩⟩⟩⟩⟩ ?_
          exact ok_L_law_226 hC hQ hk hn hC80 a1 a2 a4 a6 a7 s0 0 h1 hV
        · replace hV := hV.2 k9
          refine r_iconst (v := 1) hC dL_law_200 (by decide) ?_
          refine r_goto (tgt := 226) hC dL_law_201 (by decide) ?_
          refine r_wide (k1 := kc + 4) (n1 := ns + 226) (by omega) (by omega) ?_
          refine r_sub (lo1 := [some (rv (sb E)), some (rv a1), some (.int a2), none, some (.int a4), none, some (.int a6), some (.long a7), none, none, some (.int s0), none, none]) ⟨Or.inr rfl, ⟨Or.inr rfl, ⟨Or.inr rfl, ⟨Or.inl rfl, ⟨Or.inr rfl, ⟨Or.inl rfl, ⟨Or.inr rfl, ⟨Or.inr rfl, ⟨Or.inl rfl, ⟨Or.inl rfl, ⟨Or.inr rfl, ⟨Or.inl rfl, ⟨Or.inl rfl, trivial⟩⟩⟩⟩⟩⟩⟩⟩⟩⟩⟩⟩⟩ ?_
          exact ok_L_law_226 hC hQ hk hn hC80 a1 a2 a4 a6 a7 s0 1 h1 hV
    · replace hV := hV.2 k9
      refine r_aload_n hC dL_law_161 rfl ?_
      refine r_sipush (v := 20000) hC dL_law_162 (by decide) ?_
      refine r_iload hC dL_law_165 rfl ?_
      refine r_sipush (v := 9000) hC dL_law_167 (by decide) ?_
      refine r_callS (As := [.int a4, .int 9000]) hC dL_law_170 rfl cf_L_low ml_7_48 st_L_low rfl ⟨(Nat.le_of_ble_eq_true rfl), (Nat.le_of_ble_eq_true rfl), by show kc + 0 + 0 ≤ 600000; omega, by show ns + 0 + 0 ≤ 7302250; omega⟩ (csI (csR cs0)) (Nat.le_of_ble_eq_true rfl) (con_L_low a4 9000 h _ hV) rfl (kI (k := kc + 0 + 0) (n := ns + 0 + 0) (fun r1 h1 hV => ?_))
      refine r_isub hC dL_law_173 ?_
      obtain ⟨k9, hV⟩ := hV
      refine r_callV (ci := 6) (As := [.int (20000 - r1)]) hC dL_law_174 rfl cf_X6_buy ml_7_58 im_X6_buy sl_X6_buy lq_6 rfl rfl k9 rfl ⟨(Nat.le_of_ble_eq_true rfl), (Nat.le_of_ble_eq_true rfl), by show kc + 0 + 0 + 4 ≤ 600000; omega, by show ns + 0 + 0 + 226 ≤ 7302250; omega⟩ cs0 (Nat.le_of_ble_eq_true rfl) (con_X6_buy a1 (20000 - r1) h1 _ hV) rfl (kI (k := kc + 0 + 0 + 4) (n := ns + 0 + 0 + 226) (fun r2 h2 hV => ?_))
      refine r_if_le (tgt := 184) hC dL_law_177 (by decide) (fun k9 => ?_) (fun k9 => ?_)
      · replace hV := hV.1 k9
        refine r_iconst (v := 0) hC dL_law_184 (by decide) ?_
        refine r_goto (tgt := 226) hC dL_law_185 (by decide) ?_
        refine r_wide (k1 := kc + 4) (n1 := ns + 226) (by omega) (by omega) ?_
        refine r_sub (lo1 := [some (rv (sb E)), some (rv a1), some (.int a2), none, some (.int a4), none, some (.int a6), some (.long a7), none, none, some (.int s0), none, none]) ⟨Or.inr rfl, ⟨Or.inr rfl, ⟨Or.inr rfl, ⟨Or.inl rfl, ⟨Or.inr rfl, ⟨Or.inl rfl, ⟨Or.inr rfl, ⟨Or.inr rfl, ⟨Or.inl rfl, ⟨Or.inl rfl, ⟨Or.inr rfl, ⟨Or.inl rfl, ⟨Or.inl rfl, trivial⟩⟩⟩⟩⟩⟩⟩⟩⟩⟩⟩⟩⟩ ?_
        exact ok_L_law_226 hC hQ hk hn hC80 a1 a2 a4 a6 a7 s0 0 h2 hV
      · replace hV := hV.2 k9
        refine r_iconst (v := 1) hC dL_law_180 (by decide) ?_
        refine r_goto (tgt := 226) hC dL_law_181 (by decide) ?_
        refine r_wide (k1 := kc + 4) (n1 := ns + 226) (by omega) (by omega) ?_
        refine r_sub (lo1 := [some (rv (sb E)), some (rv a1), some (.int a2), none, some (.int a4), none, some (.int a6), some (.long a7), none, none, some (.int s0), none, none]) ⟨Or.inr rfl, ⟨Or.inr rfl, ⟨Or.inr rfl, ⟨Or.inl rfl, ⟨Or.inr rfl, ⟨Or.inl rfl, ⟨Or.inr rfl, ⟨Or.inr rfl, ⟨Or.inl rfl, ⟨Or.inl rfl, ⟨Or.inr rfl, ⟨Or.inl rfl, ⟨Or.inl rfl, trivial⟩⟩⟩⟩⟩⟩⟩⟩⟩⟩⟩⟩⟩ ?_
        exact ok_L_law_226 hC hQ hk hn hC80 a1 a2 a4 a6 a7 s0 1 h2 hV
set_option maxRecDepth 100000 in
set_option maxHeartbeats 4000000 in
theorem ok_L_law_149 {E : Ev} {X : Xt} {l0 : Launch} {K : Int32 → Hp → Prop} {C80 : Nat → Int32 → Hp → Prop} (hC : Cx E X l0 RL cL_law 13 room_1) (hQ : LQ E X) {kc ns : Nat} (hk : kc + 26 ≤ 600000) (hn : ns + 838 ≤ 7302250) (hC80 : ∀ (a1 : Nat) (a2 : Int32) (h : Hp), C80 a1 a2 h → WW E X h (kc + 26) (ns + 838) 80 [some (rv (sb E)), some (rv a1), some (.int a2), none, none, none, none, none, none, none, none, none, none] []) (a1 : Nat) (a2 : Int32) (a3 : Int32) (a4 : Int32) (a5 : Int32) (a6 : Int32) (a7 : Int64) (h : Hp) (hV : V_L_law_149 K C80 a1 a2 a3 a4 a5 a6 a7 h) : WW E X h (kc + 0) (ns + 0) 149 [some (rv (sb E)), some (rv a1), some (.int a2), some (.int a3), some (.int a4), some (.int a5), some (.int a6), some (.long a7), none, none, none, none, none] [] := by
  unfold V_L_law_149 at hV
  refine r_iconst (v := 0) hC dL_law_149 (by decide) ?_
  refine r_wide (k1 := kc + 0) (n1 := ns + 0) (by omega) (by omega) ?_
  exact ok_L_law_150 hC hQ hk hn hC80 a1 a2 a3 a4 a5 a6 a7 0 h hV
set_option maxRecDepth 100000 in
set_option maxHeartbeats 4000000 in
theorem ok_L_law_80 {E : Ev} {X : Xt} {l0 : Launch} {K : Int32 → Hp → Prop} (hC : Cx E X l0 RL cL_law 13 room_1) (hQ : LQ E X) : ∀ (f : Nat) (a1 : Nat) (a2 : Int32) (h : Hp), V_L_law_80 K f a1 a2 h → f ≤ 27 → WW E X h (37 + (27 - f) * 26) (1494 + (27 - f) * 838) 80 [some (rv (sb E)), some (rv a1), some (.int a2), none, none, none, none, none, none, none, none, none, none] [] := by
  intro f
  induction f with
  | zero => intro a1 a2 h hV; exact hV.elim
  | succ f ih0 =>
    intro a1 a2 h hV l9
    unfold V_L_law_80 at hV
    obtain ⟨kc, ek⟩ : ∃ k, k = 37 + (27 - (f + 1)) * 26 := ⟨_, rfl⟩
    obtain ⟨ns, en⟩ : ∃ k, k = 1494 + (27 - (f + 1)) * 838 := ⟨_, rfl⟩
    rw [← ek, ← en]
    have ih : ∀ (a1 : Nat) (a2 : Int32) (h : Hp), V_L_law_80 K f a1 a2 h → WW E X h (kc + 26) (ns + 838) 80 [some (rv (sb E)), some (rv a1), some (.int a2), none, none, none, none, none, none, none, none, none, none] [] := fun a1 a2 h hV => by
      have z := ih0 a1 a2 h hV (by omega)
      rwa [show 37 + (27 - f) * 26 = kc + 26 by omega, show 1494 + (27 - f) * 838 = ns + 838 by omega] at z
    have hk : kc + 26 ≤ 600000 := by omega
    have hn : ns + 838 ≤ 7302250 := by omega
    clear ek en ih0
    show WW E X h (kc + 0) (ns + 0) 80 [some (rv (sb E)), some (rv a1), some (.int a2), none, none, none, none, none, none, none, none, none, none] []
    refine r_iload_n hC dL_law_80 rfl ?_
    refine r_bipush (v := 26) hC dL_law_81 (by decide) ?_
    refine r_icmp_ge (tgt := 470) hC dL_law_83 (by decide) (fun k9 => ?_) (fun k9 => ?_)
    · replace hV := hV.1 k9
      refine r_iconst (v := 1) hC dL_law_470 (by decide) ?_
      exact r_lawret hC hQ dL_law_471 (by omega) (by omega)
    · replace hV := hV.2 k9
      refine r_aload_n hC dL_law_86 rfl ?_
      refine r_iconst (v := 2) hC dL_law_87 (by decide) ?_
      refine r_iload_n hC dL_law_88 rfl ?_
      refine r_imul hC dL_law_89 ?_
      refine r_callS (As := [rv (sb E), .int (2 * a2)]) hC dL_law_90 rfl cf_L_cell ml_7_116 st_L_cell rfl ⟨(Nat.le_of_ble_eq_true rfl), (Nat.le_of_ble_eq_true rfl), by show kc + 0 + 0 ≤ 600000; omega, by show ns + 0 + 0 ≤ 7302250; omega⟩ cs0 (Nat.le_of_ble_eq_true rfl) (con_L_cell (2 * a2) h _ hV) rfl (kI (k := kc + 0 + 0) (n := ns + 0 + 0) (fun r1 h1 hV => ?_))
      refine r_istore_n (ii := 3) (lo1 := [some (rv (sb E)), some (rv a1), some (.int a2), some (.int r1), none, none, none, none, none, none, none, none, none]) hC dL_law_93 rfl (Nat.le_of_ble_eq_true rfl) (pvI rfl) rfl ?_
      refine r_aload_n hC dL_law_94 rfl ?_
      refine r_iconst (v := 2) hC dL_law_95 (by decide) ?_
      refine r_iload_n hC dL_law_96 rfl ?_
      refine r_imul hC dL_law_97 ?_
      refine r_iconst (v := 1) hC dL_law_98 (by decide) ?_
      refine r_iadd hC dL_law_99 ?_
      refine r_callS (As := [rv (sb E), .int ((2 * a2) + 1)]) hC dL_law_100 rfl cf_L_cell ml_7_116 st_L_cell rfl ⟨(Nat.le_of_ble_eq_true rfl), (Nat.le_of_ble_eq_true rfl), by show kc + 0 + 0 + 0 ≤ 600000; omega, by show ns + 0 + 0 + 0 ≤ 7302250; omega⟩ cs0 (Nat.le_of_ble_eq_true rfl) (con_L_cell ((2 * a2) + 1) h1 _ hV) rfl (kI (k := kc + 0 + 0 + 0) (n := ns + 0 + 0 + 0) (fun r2 h2 hV => ?_))
      refine r_istore (lo1 := [some (rv (sb E)), some (rv a1), some (.int a2), some (.int r1), some (.int r2), none, none, none, none, none, none, none, none]) hC dL_law_103 (Nat.le_of_ble_eq_true rfl) (pvI rfl) rfl ?_
      refine r_iload_n hC dL_law_105 rfl ?_
      refine r_bipush (v := 9) hC dL_law_106 (by decide) ?_
      refine r_ishr hC dL_law_108 ?_
      refine r_bipush (v := 17) hC dL_law_109 (by decide) ?_
      refine r_callS (As := [.int (r1 >>> ((9 : Int32) &&& 31)), .int 17]) hC dL_law_111 rfl cf_L_low ml_7_48 st_L_low rfl ⟨(Nat.le_of_ble_eq_true rfl), (Nat.le_of_ble_eq_true rfl), by show kc + 0 + 0 + 0 + 0 ≤ 600000; omega, by show ns + 0 + 0 + 0 + 0 ≤ 7302250; omega⟩ cs0 (Nat.le_of_ble_eq_true rfl) (con_L_low (r1 >>> ((9 : Int32) &&& 31)) 17 h2 _ hV) rfl (kI (k := kc + 0 + 0 + 0 + 0) (n := ns + 0 + 0 + 0 + 0) (fun r3 h3 hV => ?_))
      refine r_istore (lo1 := [some (rv (sb E)), some (rv a1), some (.int a2), some (.int r1), some (.int r2), some (.int r3), none, none, none, none, none, none, none]) hC dL_law_114 (Nat.le_of_ble_eq_true rfl) (pvI rfl) rfl ?_
      refine r_aload_n hC dL_law_116 rfl ?_
      refine r_bipush (v := 14) hC dL_law_117 (by decide) ?_
      obtain ⟨k9, hV⟩ := hV
      refine r_callV (ci := 6) (As := [.int 14]) hC dL_law_119 rfl cf_X6_count ml_7_13 im_X6_count sl_X6_count lq_6 rfl rfl k9 rfl ⟨(Nat.le_of_ble_eq_true rfl), (Nat.le_of_ble_eq_true rfl), by show kc + 0 + 0 + 0 + 0 + 0 ≤ 600000; omega, by show ns + 0 + 0 + 0 + 0 + 0 ≤ 7302250; omega⟩ cs0 (Nat.le_of_ble_eq_true rfl) (con_X6_count a1 14 h3 _ hV) rfl (kI (k := kc + 0 + 0 + 0 + 0 + 0) (n := ns + 0 + 0 + 0 + 0 + 0) (fun r4 h4 hV => ?_))
      refine r_istore (lo1 := [some (rv (sb E)), some (rv a1), some (.int a2), some (.int r1), some (.int r2), some (.int r3), some (.int r4), none, none, none, none, none, none]) hC dL_law_122 (Nat.le_of_ble_eq_true rfl) (pvI rfl) rfl ?_
      refine r_aload_n hC dL_law_124 rfl ?_
      refine r_callS (As := [rv a1]) hC dL_law_125 rfl cf_L_digest ml_7_120 st_L_digest rfl ⟨(Nat.le_of_ble_eq_true rfl), (Nat.le_of_ble_eq_true rfl), by show kc + 0 + 0 + 0 + 0 + 0 + 0 ≤ 600000; omega, by show ns + 0 + 0 + 0 + 0 + 0 + 0 ≤ 7302250; omega⟩ cs0 (Nat.le_of_ble_eq_true rfl) (con_L_digest a1 h4 _ hV) rfl (kJ (k := kc + 0 + 0 + 0 + 0 + 0 + 0) (n := ns + 0 + 0 + 0 + 0 + 0 + 0) (fun r5 h5 hV => ?_))
      refine r_lstore (lo1 := [some (rv (sb E)), some (rv a1), some (.int a2), some (.int r1), some (.int r2), some (.int r3), some (.int r4), some (.long r5), none, none, none, none, none]) hC dL_law_128 (Nat.le_of_ble_eq_true rfl) (pvI rfl) rfl ?_
      refine r_iconst (v := 1) hC dL_law_130 (by decide) ?_
      refine r_istore (lo1 := [some (rv (sb E)), some (rv a1), some (.int a2), some (.int r1), some (.int r2), some (.int r3), some (.int r4), some (.long r5), none, some (.int 1), none, none, none]) hC dL_law_131 (Nat.le_of_ble_eq_true rfl) (pvN rfl) rfl ?_
      refine r_iload hC dL_law_133 rfl ?_
      refine r_bipush (v := 12) hC dL_law_135 (by decide) ?_
      refine r_icmp_eq (tgt := 149) hC dL_law_137 (by decide) (fun k9 => ?_) (fun k9 => ?_)
      · replace hV := hV.1 k9
        refine r_wide (k1 := kc + 0) (n1 := ns + 0) (by omega) (by omega) ?_
        refine r_sub (lo1 := [some (rv (sb E)), some (rv a1), some (.int a2), some (.int r1), some (.int r2), some (.int r3), some (.int r4), some (.long r5), none, none, none, none, none]) ⟨Or.inr rfl, ⟨Or.inr rfl, ⟨Or.inr rfl, ⟨Or.inr rfl, ⟨Or.inr rfl, ⟨Or.inr rfl, ⟨Or.inr rfl, ⟨Or.inr rfl, ⟨Or.inl rfl, ⟨Or.inl rfl, ⟨Or.inl rfl, ⟨Or.inl rfl, ⟨Or.inl rfl, trivial⟩⟩⟩⟩⟩⟩⟩⟩⟩⟩⟩⟩⟩ ?_
        exact ok_L_law_149 hC hQ hk hn ih a1 a2 r1 r2 r3 r4 r5 h5 hV
      · replace hV := hV.2 k9
        refine r_iload_n hC dL_law_140 rfl ?_
        refine r_iconst (v := 2) hC dL_law_141 (by decide) ?_
        refine r_icmp_le (tgt := 149) hC dL_law_142 (by decide) (fun k9 => ?_) (fun k9 => ?_)
        · replace hV := hV.1 k9
          refine r_wide (k1 := kc + 0) (n1 := ns + 0) (by omega) (by omega) ?_
          refine r_sub (lo1 := [some (rv (sb E)), some (rv a1), some (.int a2), some (.int r1), some (.int r2), some (.int r3), some (.int r4), some (.long r5), none, none, none, none, none]) ⟨Or.inr rfl, ⟨Or.inr rfl, ⟨Or.inr rfl, ⟨Or.inr rfl, ⟨Or.inr rfl, ⟨Or.inr rfl, ⟨Or.inr rfl, ⟨Or.inr rfl, ⟨Or.inl rfl, ⟨Or.inl rfl, ⟨Or.inl rfl, ⟨Or.inl rfl, ⟨Or.inl rfl, trivial⟩⟩⟩⟩⟩⟩⟩⟩⟩⟩⟩⟩⟩ ?_
          exact ok_L_law_149 hC hQ hk hn ih a1 a2 r1 r2 r3 r4 r5 h5 hV
        · replace hV := hV.2 k9
          refine r_iconst (v := 1) hC dL_law_145 (by decide) ?_
          refine r_goto (tgt := 150) hC dL_law_146 (by decide) ?_
          refine r_wide (k1 := kc + 0) (n1 := ns + 0) (by omega) (by omega) ?_
          refine r_sub (lo1 := [some (rv (sb E)), some (rv a1), some (.int a2), some (.int r1), some (.int r2), some (.int r3), some (.int r4), some (.long r5), none, none, none, none, none]) ⟨Or.inr rfl, ⟨Or.inr rfl, ⟨Or.inr rfl, ⟨Or.inr rfl, ⟨Or.inr rfl, ⟨Or.inr rfl, ⟨Or.inr rfl, ⟨Or.inr rfl, ⟨Or.inl rfl, ⟨Or.inl rfl, ⟨Or.inl rfl, ⟨Or.inl rfl, ⟨Or.inl rfl, trivial⟩⟩⟩⟩⟩⟩⟩⟩⟩⟩⟩⟩⟩ ?_
          exact ok_L_law_150 hC hQ hk hn ih a1 a2 r1 r2 r3 r4 r5 1 h5 hV
set_option maxRecDepth 100000 in
set_option maxHeartbeats 4000000 in
theorem ok_L_law_0 {E : Ev} {X : Xt} {l0 : Launch} {K : Int32 → Hp → Prop} (hC : Cx E X l0 RL cL_law 13 room_1) (hQ : LQ E X) (h : Hp) (hV : V_L_law h K) : WW E X h 0 0 0 [some (rv (sb E)), none, none, none, none, none, none, none, none, none, none, none, none] [] := by
  unfold V_L_law at hV
  refine r_new (ci := 6) hC dL_law_0 kl_7_14 ki_6 kz_6 rfl iw_6 ft_6 df_6 lq_6 ⟨(Nat.le_of_ble_eq_true rfl), (Nat.le_of_ble_eq_true rfl)⟩ (fun q1 k9 k8 => nmH (fun h1 k7 => ?_))
  replace hV := hV q1 k9 k8 h1 k7
  refine r_dup hC dL_law_3 (rv_cat _) ?_
  obtain ⟨k9, hV⟩ := hV
  refine r_callI (As := []) hC dL_law_4 rfl cf_X6_init ml_7_109 rfl im_X6_init k9 rfl ⟨(Nat.le_of_ble_eq_true rfl), (Nat.le_of_ble_eq_true rfl), (Nat.le_of_ble_eq_true rfl), (Nat.le_of_ble_eq_true rfl)⟩ (csR cs0) (Nat.le_of_ble_eq_true rfl) (con_X6_init q1 h1 _ hV) rfl (kV (k := 12) (n := 397) (fun h2 hV => ?_))
  refine r_astore_n (ii := 1) (lo1 := [some (rv (sb E)), some (rv q1), none, none, none, none, none, none, none, none, none, none, none]) hC dL_law_7 rfl (Nat.le_of_ble_eq_true rfl) (pvR rfl) rfl ?_
  refine r_aload_n hC dL_law_8 rfl ?_
  refine r_z0 (fun z9 => ?_)
  replace hV := hV z9
  obtain ⟨k9, hV⟩ := hV
  refine r_callV (ci := 6) (As := []) hC dL_law_9 rfl cf_X6_undo ml_7_110 im_X6_undo sl_X6_undo lq_6 rfl rfl k9 rfl ⟨(Nat.le_of_ble_eq_true rfl), (Nat.le_of_ble_eq_true rfl), (Nat.le_of_ble_eq_true rfl), (Nat.le_of_ble_eq_true rfl)⟩ cs0 (Nat.le_of_ble_eq_true rfl) (con_X6_undo q1 h2 _ hV) rfl (kI (k := 12) (n := 397) (fun r1 h3 hV => ?_))
  refine r_bipush (v := (-5)) hC dL_law_12 (by decide) ?_
  refine r_icmp_ne (tgt := 76) hC dL_law_14 (by decide) (fun k9 => ?_) (fun k9 => ?_)
  · replace hV := hV.1 k9
    refine r_wide (k1 := 37) (n1 := 1494) (Nat.le_of_ble_eq_true rfl) (Nat.le_of_ble_eq_true rfl) ?_
    refine r_sub (lo1 := [none, none, none, none, none, none, none, none, none, none, none, none, none]) ⟨Or.inl rfl, ⟨Or.inl rfl, ⟨Or.inl rfl, ⟨Or.inl rfl, ⟨Or.inl rfl, ⟨Or.inl rfl, ⟨Or.inl rfl, ⟨Or.inl rfl, ⟨Or.inl rfl, ⟨Or.inl rfl, ⟨Or.inl rfl, ⟨Or.inl rfl, ⟨Or.inl rfl, trivial⟩⟩⟩⟩⟩⟩⟩⟩⟩⟩⟩⟩⟩ ?_
    exact ok_L_law_76 hC hQ  h3 hV
  · replace hV := hV.2 k9
    refine r_aload_n hC dL_law_17 rfl ?_
    obtain ⟨k9, hV⟩ := hV
    refine r_callV (ci := 6) (As := []) hC dL_law_18 rfl cf_X6_restore ml_7_113 im_X6_restore sl_X6_restore lq_6 rfl rfl k9 rfl ⟨(Nat.le_of_ble_eq_true rfl), (Nat.le_of_ble_eq_true rfl), (Nat.le_of_ble_eq_true rfl), (Nat.le_of_ble_eq_true rfl)⟩ cs0 (Nat.le_of_ble_eq_true rfl) (con_X6_restore q1 h3 _ hV) rfl (kI (k := 16) (n := 623) (fun r2 h4 hV => ?_))
    refine r_bipush (v := (-5)) hC dL_law_21 (by decide) ?_
    refine r_icmp_ne (tgt := 76) hC dL_law_23 (by decide) (fun k9 => ?_) (fun k9 => ?_)
    · replace hV := hV.1 k9
      refine r_wide (k1 := 37) (n1 := 1494) (Nat.le_of_ble_eq_true rfl) (Nat.le_of_ble_eq_true rfl) ?_
      refine r_sub (lo1 := [none, none, none, none, none, none, none, none, none, none, none, none, none]) ⟨Or.inl rfl, ⟨Or.inl rfl, ⟨Or.inl rfl, ⟨Or.inl rfl, ⟨Or.inl rfl, ⟨Or.inl rfl, ⟨Or.inl rfl, ⟨Or.inl rfl, ⟨Or.inl rfl, ⟨Or.inl rfl, ⟨Or.inl rfl, ⟨Or.inl rfl, ⟨Or.inl rfl, trivial⟩⟩⟩⟩⟩⟩⟩⟩⟩⟩⟩⟩⟩ ?_
      exact ok_L_law_76 hC hQ  h4 hV
    · replace hV := hV.2 k9
      refine r_aload_n hC dL_law_26 rfl ?_
      refine r_iconst (v := 0) hC dL_law_27 (by decide) ?_
      refine r_bipush (v := 50) hC dL_law_28 (by decide) ?_
      refine r_iconst (v := 0) hC dL_law_30 (by decide) ?_
      obtain ⟨k9, hV⟩ := hV
      refine r_callV (ci := 6) (As := [.int 0, .int 50, .int 0]) hC dL_law_31 rfl cf_X6_order ml_7_90 im_X6_order sl_X6_order lq_6 rfl rfl k9 rfl ⟨(Nat.le_of_ble_eq_true rfl), (Nat.le_of_ble_eq_true rfl), (Nat.le_of_ble_eq_true rfl), (Nat.le_of_ble_eq_true rfl)⟩ cs0 (Nat.le_of_ble_eq_true rfl) (con_X6_order q1 0 50 0 h4 _ hV) rfl (kI (k := 29) (n := 1042) (fun r3 h5 hV => ?_))
      refine r_iconst (v := (-1)) hC dL_law_34 (by decide) ?_
      refine r_icmp_ne (tgt := 76) hC dL_law_35 (by decide) (fun k9 => ?_) (fun k9 => ?_)
      · replace hV := hV.1 k9
        refine r_wide (k1 := 37) (n1 := 1494) (Nat.le_of_ble_eq_true rfl) (Nat.le_of_ble_eq_true rfl) ?_
        refine r_sub (lo1 := [none, none, none, none, none, none, none, none, none, none, none, none, none]) ⟨Or.inl rfl, ⟨Or.inl rfl, ⟨Or.inl rfl, ⟨Or.inl rfl, ⟨Or.inl rfl, ⟨Or.inl rfl, ⟨Or.inl rfl, ⟨Or.inl rfl, ⟨Or.inl rfl, ⟨Or.inl rfl, ⟨Or.inl rfl, ⟨Or.inl rfl, ⟨Or.inl rfl, trivial⟩⟩⟩⟩⟩⟩⟩⟩⟩⟩⟩⟩⟩ ?_
        exact ok_L_law_76 hC hQ  h5 hV
      · replace hV := hV.2 k9
        refine r_aload_n hC dL_law_38 rfl ?_
        obtain ⟨k9, hV⟩ := hV
        refine r_callV (ci := 6) (As := []) hC dL_law_39 rfl cf_X6_meltBox ml_7_74 im_X6_meltBox sl_X6_meltBox lq_6 rfl rfl k9 rfl ⟨(Nat.le_of_ble_eq_true rfl), (Nat.le_of_ble_eq_true rfl), (Nat.le_of_ble_eq_true rfl), (Nat.le_of_ble_eq_true rfl)⟩ cs0 (Nat.le_of_ble_eq_true rfl) (con_X6_meltBox q1 h5 _ hV) rfl (kI (k := 33) (n := 1268) (fun r4 h6 hV => ?_))
        refine r_bipush (v := (-5)) hC dL_law_42 (by decide) ?_
        refine r_icmp_ne (tgt := 76) hC dL_law_44 (by decide) (fun k9 => ?_) (fun k9 => ?_)
        · replace hV := hV.1 k9
          refine r_wide (k1 := 37) (n1 := 1494) (Nat.le_of_ble_eq_true rfl) (Nat.le_of_ble_eq_true rfl) ?_
          refine r_sub (lo1 := [none, none, none, none, none, none, none, none, none, none, none, none, none]) ⟨Or.inl rfl, ⟨Or.inl rfl, ⟨Or.inl rfl, ⟨Or.inl rfl, ⟨Or.inl rfl, ⟨Or.inl rfl, ⟨Or.inl rfl, ⟨Or.inl rfl, ⟨Or.inl rfl, ⟨Or.inl rfl, ⟨Or.inl rfl, ⟨Or.inl rfl, ⟨Or.inl rfl, trivial⟩⟩⟩⟩⟩⟩⟩⟩⟩⟩⟩⟩⟩ ?_
          exact ok_L_law_76 hC hQ  h6 hV
        · replace hV := hV.2 k9
          refine r_aload_n hC dL_law_47 rfl ?_
          obtain ⟨k9, hV⟩ := hV
          refine r_callV (ci := 6) (As := []) hC dL_law_48 rfl cf_X6_urgent ml_7_44 im_X6_urgent sl_X6_urgent lq_6 rfl rfl k9 rfl ⟨(Nat.le_of_ble_eq_true rfl), (Nat.le_of_ble_eq_true rfl), (Nat.le_of_ble_eq_true rfl), (Nat.le_of_ble_eq_true rfl)⟩ cs0 (Nat.le_of_ble_eq_true rfl) (con_X6_urgent q1 h6 _ hV) rfl (kI (k := 33) (n := 1268) (fun r5 h7 hV => ?_))
          refine r_bipush (v := (-5)) hC dL_law_51 (by decide) ?_
          refine r_icmp_ne (tgt := 76) hC dL_law_53 (by decide) (fun k9 => ?_) (fun k9 => ?_)
          · replace hV := hV.1 k9
            refine r_wide (k1 := 37) (n1 := 1494) (Nat.le_of_ble_eq_true rfl) (Nat.le_of_ble_eq_true rfl) ?_
            refine r_sub (lo1 := [none, none, none, none, none, none, none, none, none, none, none, none, none]) ⟨Or.inl rfl, ⟨Or.inl rfl, ⟨Or.inl rfl, ⟨Or.inl rfl, ⟨Or.inl rfl, ⟨Or.inl rfl, ⟨Or.inl rfl, ⟨Or.inl rfl, ⟨Or.inl rfl, ⟨Or.inl rfl, ⟨Or.inl rfl, ⟨Or.inl rfl, ⟨Or.inl rfl, trivial⟩⟩⟩⟩⟩⟩⟩⟩⟩⟩⟩⟩⟩ ?_
            exact ok_L_law_76 hC hQ  h7 hV
          · replace hV := hV.2 k9
            refine r_aload_n hC dL_law_56 rfl ?_
            refine r_iconst (v := (-1)) hC dL_law_57 (by decide) ?_
            refine r_iconst (v := 0) hC dL_law_58 (by decide) ?_
            obtain ⟨k9, hV⟩ := hV
            refine r_callV (ci := 6) (As := [.int (-1), .int 0]) hC dL_law_59 rfl cf_X6_pieces ml_7_19 im_X6_pieces sl_X6_pieces lq_6 rfl rfl k9 rfl ⟨(Nat.le_of_ble_eq_true rfl), (Nat.le_of_ble_eq_true rfl), (Nat.le_of_ble_eq_true rfl), (Nat.le_of_ble_eq_true rfl)⟩ cs0 (Nat.le_of_ble_eq_true rfl) (con_X6_pieces q1 (-1) 0 h7 _ hV) rfl (kI (k := 33) (n := 1268) (fun r6 h8 hV => ?_))
            refine r_if_ne (tgt := 76) hC dL_law_62 (by decide) (fun k9 => ?_) (fun k9 => ?_)
            · replace hV := hV.1 k9
              refine r_wide (k1 := 37) (n1 := 1494) (Nat.le_of_ble_eq_true rfl) (Nat.le_of_ble_eq_true rfl) ?_
              refine r_sub (lo1 := [none, none, none, none, none, none, none, none, none, none, none, none, none]) ⟨Or.inl rfl, ⟨Or.inl rfl, ⟨Or.inl rfl, ⟨Or.inl rfl, ⟨Or.inl rfl, ⟨Or.inl rfl, ⟨Or.inl rfl, ⟨Or.inl rfl, ⟨Or.inl rfl, ⟨Or.inl rfl, ⟨Or.inl rfl, ⟨Or.inl rfl, ⟨Or.inl rfl, trivial⟩⟩⟩⟩⟩⟩⟩⟩⟩⟩⟩⟩⟩ ?_
              exact ok_L_law_76 hC hQ  h8 hV
            · replace hV := hV.2 k9
              refine r_aload_n hC dL_law_65 rfl ?_
              refine r_iconst (v := 0) hC dL_law_66 (by decide) ?_
              refine r_iconst (v := 0) hC dL_law_67 (by decide) ?_
              refine r_iconst (v := 1) hC dL_law_68 (by decide) ?_
              obtain ⟨k9, hV⟩ := hV
              refine r_callV (ci := 6) (As := [.int 0, .int 0, .int 1]) hC dL_law_69 rfl cf_X6_cast ml_7_65 im_X6_cast sl_X6_cast lq_6 rfl rfl k9 rfl ⟨(Nat.le_of_ble_eq_true rfl), (Nat.le_of_ble_eq_true rfl), (Nat.le_of_ble_eq_true rfl), (Nat.le_of_ble_eq_true rfl)⟩ cs0 (Nat.le_of_ble_eq_true rfl) (con_X6_cast q1 0 0 1 h8 _ hV) rfl (kI (k := 37) (n := 1494) (fun r7 h9 hV => ?_))
              refine r_iconst (v := (-1)) hC dL_law_72 (by decide) ?_
              refine r_icmp_eq (tgt := 78) hC dL_law_73 (by decide) (fun k9 => ?_) (fun k9 => ?_)
              · replace hV := hV.1 k9
                refine r_iconst (v := 0) hC dL_law_78 (by decide) ?_
                refine r_istore_n (ii := 2) (lo1 := [some (rv (sb E)), some (rv q1), some (.int 0), none, none, none, none, none, none, none, none, none, none]) hC dL_law_79 rfl (Nat.le_of_ble_eq_true rfl) (pvR rfl) rfl ?_
                obtain ⟨n9, l9, hV⟩ := hV
                exact r_wide (by omega) (by omega) (ok_L_law_80 hC hQ n9 q1 0 h9 hV l9)
              · replace hV := hV.2 k9
                refine r_sub (lo1 := [none, none, none, none, none, none, none, none, none, none, none, none, none]) ⟨Or.inl rfl, ⟨Or.inl rfl, ⟨Or.inl rfl, ⟨Or.inl rfl, ⟨Or.inl rfl, ⟨Or.inl rfl, ⟨Or.inl rfl, ⟨Or.inl rfl, ⟨Or.inl rfl, ⟨Or.inl rfl, ⟨Or.inl rfl, ⟨Or.inl rfl, ⟨Or.inl rfl, trivial⟩⟩⟩⟩⟩⟩⟩⟩⟩⟩⟩⟩⟩ ?_
                exact ok_L_law_76 hC hQ  h9 hV
