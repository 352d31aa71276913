theorem dL_law_0 : decode cL_law 0 = .ok (.new 20, 3) := by decide +kernel
theorem dL_law_3 : decode cL_law 3 = .ok (.dup, 1) := by decide +kernel
theorem dL_law_4 : decode cL_law 4 = .ok (.invokespecial 87, 3) := by decide +kernel
theorem dL_law_7 : decode cL_law 7 = .ok (.astore_n 1, 1) := by decide +kernel
theorem dL_law_8 : decode cL_law 8 = .ok (.bipush 19, 2) := by decide +kernel
theorem dL_law_10 : decode cL_law 10 = .ok (.newarray .int, 2) := by decide +kernel
theorem dL_law_12 : decode cL_law 12 = .ok (.astore_n 2, 1) := by decide +kernel
theorem dL_law_13 : decode cL_law 13 = .ok (.iconst 4, 1) := by decide +kernel
theorem dL_law_14 : decode cL_law 14 = .ok (.newarray .int, 2) := by decide +kernel
theorem dL_law_16 : decode cL_law 16 = .ok (.astore_n 3, 1) := by decide +kernel
theorem dL_law_17 : decode cL_law 17 = .ok (.aload_n 1, 1) := by decide +kernel
theorem dL_law_18 : decode cL_law 18 = .ok (.aload_n 0, 1) := by decide +kernel
theorem dL_law_19 : decode cL_law 19 = .ok (.aload_n 2, 1) := by decide +kernel
theorem dL_law_20 : decode cL_law 20 = .ok (.aload_n 3, 1) := by decide +kernel
theorem dL_law_21 : decode cL_law 21 = .ok (.invokestatic 88, 3) := by decide +kernel
theorem dL_law_24 : decode cL_law 24 = .ok (.ifCond .ne 5, 3) := by decide +kernel
theorem dL_law_27 : decode cL_law 27 = .ok (.iconst 0, 1) := by decide +kernel
theorem dL_law_28 : decode cL_law 28 = .ok (.ireturn, 1) := by decide +kernel
theorem dL_law_29 : decode cL_law 29 = .ok (.aload_n 2, 1) := by decide +kernel
theorem dL_law_30 : decode cL_law 30 = .ok (.iconst 0, 1) := by decide +kernel
theorem dL_law_31 : decode cL_law 31 = .ok (.iaload, 1) := by decide +kernel
theorem dL_law_32 : decode cL_law 32 = .ok (.istore 4, 2) := by decide +kernel
theorem dL_law_34 : decode cL_law 34 = .ok (.aload_n 2, 1) := by decide +kernel
theorem dL_law_35 : decode cL_law 35 = .ok (.iconst 2, 1) := by decide +kernel
theorem dL_law_36 : decode cL_law 36 = .ok (.iaload, 1) := by decide +kernel
theorem dL_law_37 : decode cL_law 37 = .ok (.istore 5, 2) := by decide +kernel
theorem dL_law_39 : decode cL_law 39 = .ok (.iconst 1, 1) := by decide +kernel
theorem dL_law_40 : decode cL_law 40 = .ok (.aload_n 2, 1) := by decide +kernel
theorem dL_law_41 : decode cL_law 41 = .ok (.iconst 1, 1) := by decide +kernel
theorem dL_law_42 : decode cL_law 42 = .ok (.iaload, 1) := by decide +kernel
theorem dL_law_43 : decode cL_law 43 = .ok (.ishl, 1) := by decide +kernel
theorem dL_law_44 : decode cL_law 44 = .ok (.iconst 1, 1) := by decide +kernel
theorem dL_law_45 : decode cL_law 45 = .ok (.isub, 1) := by decide +kernel
theorem dL_law_46 : decode cL_law 46 = .ok (.istore 6, 2) := by decide +kernel
theorem dL_law_48 : decode cL_law 48 = .ok (.aload_n 1, 1) := by decide +kernel
theorem dL_law_49 : decode cL_law 49 = .ok (.invokevirtual 91, 3) := by decide +kernel
theorem dL_law_52 : decode cL_law 52 = .ok (.lstore 7, 2) := by decide +kernel
theorem dL_law_54 : decode cL_law 54 = .ok (.aload_n 1, 1) := by decide +kernel
theorem dL_law_55 : decode cL_law 55 = .ok (.iconst 0, 1) := by decide +kernel
theorem dL_law_56 : decode cL_law 56 = .ok (.invokevirtual 95, 3) := by decide +kernel
theorem dL_law_59 : decode cL_law 59 = .ok (.ifCond .eq 5, 3) := by decide +kernel
theorem dL_law_62 : decode cL_law 62 = .ok (.iconst 0, 1) := by decide +kernel
theorem dL_law_63 : decode cL_law 63 = .ok (.ireturn, 1) := by decide +kernel
theorem dL_law_64 : decode cL_law 64 = .ok (.iconst 0, 1) := by decide +kernel
theorem dL_law_65 : decode cL_law 65 = .ok (.istore 9, 2) := by decide +kernel
theorem dL_law_67 : decode cL_law 67 = .ok (.iload 9, 2) := by decide +kernel
theorem dL_law_69 : decode cL_law 69 = .ok (.iconst 2, 1) := by decide +kernel
theorem dL_law_70 : decode cL_law 70 = .ok (.if_icmp .ge 2418, 3) := by decide +kernel
theorem dL_law_73 : decode cL_law 73 = .ok (.aload_n 0, 1) := by decide +kernel
theorem dL_law_74 : decode cL_law 74 = .ok (.bipush 8, 2) := by decide +kernel
theorem dL_law_76 : decode cL_law 76 = .ok (.iload 9, 2) := by decide +kernel
theorem dL_law_78 : decode cL_law 78 = .ok (.iadd, 1) := by decide +kernel
theorem dL_law_79 : decode cL_law 79 = .ok (.invokestatic 9, 3) := by decide +kernel
theorem dL_law_82 : decode cL_law 82 = .ok (.istore 10, 2) := by decide +kernel
theorem dL_law_84 : decode cL_law 84 = .ok (.aload_n 1, 1) := by decide +kernel
theorem dL_law_85 : decode cL_law 85 = .ok (.aload_n 2, 1) := by decide +kernel
theorem dL_law_86 : decode cL_law 86 = .ok (.aload_n 3, 1) := by decide +kernel
theorem dL_law_87 : decode cL_law 87 = .ok (.aload_n 0, 1) := by decide +kernel
theorem dL_law_88 : decode cL_law 88 = .ok (.bipush 10, 2) := by decide +kernel
theorem dL_law_90 : decode cL_law 90 = .ok (.iload 9, 2) := by decide +kernel
theorem dL_law_92 : decode cL_law 92 = .ok (.iadd, 1) := by decide +kernel
theorem dL_law_93 : decode cL_law 93 = .ok (.invokestatic 9, 3) := by decide +kernel
theorem dL_law_96 : decode cL_law 96 = .ok (.iconst 3, 1) := by decide +kernel
theorem dL_law_97 : decode cL_law 97 = .ok (.invokestatic 98, 3) := by decide +kernel
theorem dL_law_100 : decode cL_law 100 = .ok (.ifCond .ne 5, 3) := by decide +kernel
theorem dL_law_103 : decode cL_law 103 = .ok (.iconst 0, 1) := by decide +kernel
theorem dL_law_104 : decode cL_law 104 = .ok (.ireturn, 1) := by decide +kernel
theorem dL_law_105 : decode cL_law 105 = .ok (.aload_n 1, 1) := by decide +kernel
theorem dL_law_106 : decode cL_law 106 = .ok (.iconst 2, 1) := by decide +kernel
theorem dL_law_107 : decode cL_law 107 = .ok (.invokevirtual 102, 3) := by decide +kernel
theorem dL_law_110 : decode cL_law 110 = .ok (.istore 11, 2) := by decide +kernel
theorem dL_law_112 : decode cL_law 112 = .ok (.aload_n 1, 1) := by decide +kernel
theorem dL_law_113 : decode cL_law 113 = .ok (.iconst 3, 1) := by decide +kernel
theorem dL_law_114 : decode cL_law 114 = .ok (.invokevirtual 102, 3) := by decide +kernel
theorem dL_law_117 : decode cL_law 117 = .ok (.istore 12, 2) := by decide +kernel
theorem dL_law_119 : decode cL_law 119 = .ok (.aload_n 1, 1) := by decide +kernel
theorem dL_law_120 : decode cL_law 120 = .ok (.iconst 4, 1) := by decide +kernel
theorem dL_law_121 : decode cL_law 121 = .ok (.invokevirtual 102, 3) := by decide +kernel
theorem dL_law_124 : decode cL_law 124 = .ok (.istore 13, 2) := by decide +kernel
theorem dL_law_126 : decode cL_law 126 = .ok (.aload_n 1, 1) := by decide +kernel
theorem dL_law_127 : decode cL_law 127 = .ok (.iconst 5, 1) := by decide +kernel
theorem dL_law_128 : decode cL_law 128 = .ok (.invokevirtual 102, 3) := by decide +kernel
theorem dL_law_131 : decode cL_law 131 = .ok (.istore 14, 2) := by decide +kernel
theorem dL_law_133 : decode cL_law 133 = .ok (.aload_n 1, 1) := by decide +kernel
theorem dL_law_134 : decode cL_law 134 = .ok (.bipush 7, 2) := by decide +kernel
theorem dL_law_136 : decode cL_law 136 = .ok (.invokevirtual 102, 3) := by decide +kernel
theorem dL_law_139 : decode cL_law 139 = .ok (.istore 15, 2) := by decide +kernel
theorem dL_law_141 : decode cL_law 141 = .ok (.iload 12, 2) := by decide +kernel
theorem dL_law_143 : decode cL_law 143 = .ok (.ifCond .lt 51, 3) := by decide +kernel
theorem dL_law_146 : decode cL_law 146 = .ok (.iload 12, 2) := by decide +kernel
theorem dL_law_148 : decode cL_law 148 = .ok (.bipush 9, 2) := by decide +kernel
theorem dL_law_150 : decode cL_law 150 = .ok (.if_icmp .gt 44, 3) := by decide +kernel
theorem dL_law_153 : decode cL_law 153 = .ok (.iload 13, 2) := by decide +kernel
theorem dL_law_155 : decode cL_law 155 = .ok (.ifCond .lt 39, 3) := by decide +kernel
theorem dL_law_158 : decode cL_law 158 = .ok (.iload 13, 2) := by decide +kernel
theorem dL_law_160 : decode cL_law 160 = .ok (.iconst 1, 1) := by decide +kernel
theorem dL_law_161 : decode cL_law 161 = .ok (.iload 4, 2) := by decide +kernel
theorem dL_law_163 : decode cL_law 163 = .ok (.ishl, 1) := by decide +kernel
theorem dL_law_164 : decode cL_law 164 = .ok (.if_icmp .ge 30, 3) := by decide +kernel
theorem dL_law_167 : decode cL_law 167 = .ok (.iload 13, 2) := by decide +kernel
theorem dL_law_169 : decode cL_law 169 = .ok (.invokestatic 104, 3) := by decide +kernel
theorem dL_law_172 : decode cL_law 172 = .ok (.iconst 2, 1) := by decide +kernel
theorem dL_law_173 : decode cL_law 173 = .ok (.irem, 1) := by decide +kernel
theorem dL_law_174 : decode cL_law 174 = .ok (.ifCond .ne 20, 3) := by decide +kernel
theorem dL_law_177 : decode cL_law 177 = .ok (.iload 14, 2) := by decide +kernel
theorem dL_law_179 : decode cL_law 179 = .ok (.ifCond .lt 15, 3) := by decide +kernel
theorem dL_law_182 : decode cL_law 182 = .ok (.iload 14, 2) := by decide +kernel
theorem dL_law_184 : decode cL_law 184 = .ok (.iload 6, 2) := by decide +kernel
theorem dL_law_186 : decode cL_law 186 = .ok (.if_icmp .gt 8, 3) := by decide +kernel
theorem dL_law_189 : decode cL_law 189 = .ok (.iload 15, 2) := by decide +kernel
theorem dL_law_191 : decode cL_law 191 = .ok (.ifCond .ge 5, 3) := by decide +kernel
theorem dL_law_194 : decode cL_law 194 = .ok (.iconst 0, 1) := by decide +kernel
theorem dL_law_195 : decode cL_law 195 = .ok (.ireturn, 1) := by decide +kernel
theorem dL_law_196 : decode cL_law 196 = .ok (.iconst 0, 1) := by decide +kernel
theorem dL_law_197 : decode cL_law 197 = .ok (.istore 16, 2) := by decide +kernel
theorem dL_law_199 : decode cL_law 199 = .ok (.iconst 0, 1) := by decide +kernel
theorem dL_law_200 : decode cL_law 200 = .ok (.istore 17, 2) := by decide +kernel
theorem dL_law_202 : decode cL_law 202 = .ok (.iload 17, 2) := by decide +kernel
theorem dL_law_204 : decode cL_law 204 = .ok (.iload 4, 2) := by decide +kernel
theorem dL_law_206 : decode cL_law 206 = .ok (.if_icmp .ge 816, 3) := by decide +kernel
theorem dL_law_209 : decode cL_law 209 = .ok (.aload_n 1, 1) := by decide +kernel
theorem dL_law_210 : decode cL_law 210 = .ok (.iload 17, 2) := by decide +kernel
theorem dL_law_212 : decode cL_law 212 = .ok (.iconst 4, 1) := by decide +kernel
theorem dL_law_213 : decode cL_law 213 = .ok (.invokestatic 107, 3) := by decide +kernel
theorem dL_law_216 : decode cL_law 216 = .ok (.istore 18, 2) := by decide +kernel
theorem dL_law_218 : decode cL_law 218 = .ok (.iload 13, 2) := by decide +kernel
theorem dL_law_220 : decode cL_law 220 = .ok (.iload 17, 2) := by decide +kernel
theorem dL_law_222 : decode cL_law 222 = .ok (.ishr, 1) := by decide +kernel
theorem dL_law_223 : decode cL_law 223 = .ok (.iconst 1, 1) := by decide +kernel
theorem dL_law_224 : decode cL_law 224 = .ok (.iand, 1) := by decide +kernel
theorem dL_law_225 : decode cL_law 225 = .ok (.iconst 1, 1) := by decide +kernel
theorem dL_law_226 : decode cL_law 226 = .ok (.if_icmp .ne 7, 3) := by decide +kernel
theorem dL_law_229 : decode cL_law 229 = .ok (.iconst 1, 1) := by decide +kernel
theorem dL_law_230 : decode cL_law 230 = .ok (.goto 4, 3) := by decide +kernel
theorem dL_law_233 : decode cL_law 233 = .ok (.iconst 0, 1) := by decide +kernel
theorem dL_law_234 : decode cL_law 234 = .ok (.istore 19, 2) := by decide +kernel
theorem dL_law_236 : decode cL_law 236 = .ok (.iload 19, 2) := by decide +kernel
theorem dL_law_238 : decode cL_law 238 = .ok (.ifCond .eq 8, 3) := by decide +kernel
theorem dL_law_241 : decode cL_law 241 = .ok (.iload 14, 2) := by decide +kernel
theorem dL_law_243 : decode cL_law 243 = .ok (.goto 10, 3) := by decide +kernel
theorem dL_law_246 : decode cL_law 246 = .ok (.iload 6, 2) := by decide +kernel
theorem dL_law_248 : decode cL_law 248 = .ok (.iload 14, 2) := by decide +kernel
theorem dL_law_250 : decode cL_law 250 = .ok (.iconst (-1), 1) := by decide +kernel
theorem dL_law_251 : decode cL_law 251 = .ok (.ixor, 1) := by decide +kernel
theorem dL_law_252 : decode cL_law 252 = .ok (.iand, 1) := by decide +kernel
theorem dL_law_253 : decode cL_law 253 = .ok (.istore 20, 2) := by decide +kernel
theorem dL_law_255 : decode cL_law 255 = .ok (.aload_n 1, 1) := by decide +kernel
theorem dL_law_256 : decode cL_law 256 = .ok (.iload 17, 2) := by decide +kernel
theorem dL_law_258 : decode cL_law 258 = .ok (.iconst 3, 1) := by decide +kernel
theorem dL_law_259 : decode cL_law 259 = .ok (.invokestatic 107, 3) := by decide +kernel
theorem dL_law_262 : decode cL_law 262 = .ok (.iload 19, 2) := by decide +kernel
theorem dL_law_264 : decode cL_law 264 = .ok (.ifCond .eq 7, 3) := by decide +kernel
theorem dL_law_267 : decode cL_law 267 = .ok (.iconst 1, 1) := by decide +kernel
theorem dL_law_268 : decode cL_law 268 = .ok (.goto 4, 3) := by decide +kernel
theorem dL_law_271 : decode cL_law 271 = .ok (.iconst 0, 1) := by decide +kernel
theorem dL_law_272 : decode cL_law 272 = .ok (.if_icmp .ne 42, 3) := by decide +kernel
theorem dL_law_275 : decode cL_law 275 = .ok (.iload 18, 2) := by decide +kernel
theorem dL_law_277 : decode cL_law 277 = .ok (.iload 17, 2) := by decide +kernel
theorem dL_law_279 : decode cL_law 279 = .ok (.ishr, 1) := by decide +kernel
theorem dL_law_280 : decode cL_law 280 = .ok (.iconst 1, 1) := by decide +kernel
theorem dL_law_281 : decode cL_law 281 = .ok (.iand, 1) := by decide +kernel
theorem dL_law_282 : decode cL_law 282 = .ok (.ifCond .ne 32, 3) := by decide +kernel
theorem dL_law_285 : decode cL_law 285 = .ok (.iload 18, 2) := by decide +kernel
theorem dL_law_287 : decode cL_law 287 = .ok (.iload 19, 2) := by decide +kernel
theorem dL_law_289 : decode cL_law 289 = .ok (.ifCond .eq 8, 3) := by decide +kernel
theorem dL_law_292 : decode cL_law 292 = .ok (.iload 13, 2) := by decide +kernel
theorem dL_law_294 : decode cL_law 294 = .ok (.goto 14, 3) := by decide +kernel
theorem dL_law_297 : decode cL_law 297 = .ok (.iconst 1, 1) := by decide +kernel
theorem dL_law_298 : decode cL_law 298 = .ok (.iload 4, 2) := by decide +kernel
theorem dL_law_300 : decode cL_law 300 = .ok (.ishl, 1) := by decide +kernel
theorem dL_law_301 : decode cL_law 301 = .ok (.iconst 1, 1) := by decide +kernel
theorem dL_law_302 : decode cL_law 302 = .ok (.isub, 1) := by decide +kernel
theorem dL_law_303 : decode cL_law 303 = .ok (.iload 13, 2) := by decide +kernel
theorem dL_law_305 : decode cL_law 305 = .ok (.iconst (-1), 1) := by decide +kernel
theorem dL_law_306 : decode cL_law 306 = .ok (.ixor, 1) := by decide +kernel
theorem dL_law_307 : decode cL_law 307 = .ok (.iand, 1) := by decide +kernel
theorem dL_law_308 : decode cL_law 308 = .ok (.iconst (-1), 1) := by decide +kernel
theorem dL_law_309 : decode cL_law 309 = .ok (.ixor, 1) := by decide +kernel
theorem dL_law_310 : decode cL_law 310 = .ok (.iand, 1) := by decide +kernel
theorem dL_law_311 : decode cL_law 311 = .ok (.ifCond .eq 5, 3) := by decide +kernel
theorem dL_law_314 : decode cL_law 314 = .ok (.iconst 0, 1) := by decide +kernel
theorem dL_law_315 : decode cL_law 315 = .ok (.ireturn, 1) := by decide +kernel
theorem dL_law_316 : decode cL_law 316 = .ok (.iconst 0, 1) := by decide +kernel
theorem dL_law_317 : decode cL_law 317 = .ok (.istore 21, 2) := by decide +kernel
theorem dL_law_319 : decode cL_law 319 = .ok (.iload 21, 2) := by decide +kernel
theorem dL_law_321 : decode cL_law 321 = .ok (.iload 4, 2) := by decide +kernel
theorem dL_law_323 : decode cL_law 323 = .ok (.if_icmp .ge 600, 3) := by decide +kernel
theorem dL_law_326 : decode cL_law 326 = .ok (.iload 17, 2) := by decide +kernel
theorem dL_law_328 : decode cL_law 328 = .ok (.iload 21, 2) := by decide +kernel
theorem dL_law_330 : decode cL_law 330 = .ok (.if_icmp .eq 587, 3) := by decide +kernel
theorem dL_law_333 : decode cL_law 333 = .ok (.iload 13, 2) := by decide +kernel
theorem dL_law_335 : decode cL_law 335 = .ok (.iload 17, 2) := by decide +kernel
theorem dL_law_337 : decode cL_law 337 = .ok (.ishr, 1) := by decide +kernel
theorem dL_law_338 : decode cL_law 338 = .ok (.iconst 1, 1) := by decide +kernel
theorem dL_law_339 : decode cL_law 339 = .ok (.iand, 1) := by decide +kernel
theorem dL_law_340 : decode cL_law 340 = .ok (.iload 13, 2) := by decide +kernel
theorem dL_law_342 : decode cL_law 342 = .ok (.iload 21, 2) := by decide +kernel
theorem dL_law_344 : decode cL_law 344 = .ok (.ishr, 1) := by decide +kernel
theorem dL_law_345 : decode cL_law 345 = .ok (.iconst 1, 1) := by decide +kernel
theorem dL_law_346 : decode cL_law 346 = .ok (.iand, 1) := by decide +kernel
theorem dL_law_347 : decode cL_law 347 = .ok (.if_icmp .ne 7, 3) := by decide +kernel
theorem dL_law_350 : decode cL_law 350 = .ok (.iconst 1, 1) := by decide +kernel
theorem dL_law_351 : decode cL_law 351 = .ok (.goto 4, 3) := by decide +kernel
theorem dL_law_354 : decode cL_law 354 = .ok (.iconst 0, 1) := by decide +kernel
theorem dL_law_355 : decode cL_law 355 = .ok (.istore 22, 2) := by decide +kernel
theorem dL_law_357 : decode cL_law 357 = .ok (.iload 18, 2) := by decide +kernel
theorem dL_law_359 : decode cL_law 359 = .ok (.iload 21, 2) := by decide +kernel
theorem dL_law_361 : decode cL_law 361 = .ok (.ishr, 1) := by decide +kernel
theorem dL_law_362 : decode cL_law 362 = .ok (.iconst 1, 1) := by decide +kernel
theorem dL_law_363 : decode cL_law 363 = .ok (.iand, 1) := by decide +kernel
theorem dL_law_364 : decode cL_law 364 = .ok (.iconst 1, 1) := by decide +kernel
theorem dL_law_365 : decode cL_law 365 = .ok (.if_icmp .ne 7, 3) := by decide +kernel
theorem dL_law_368 : decode cL_law 368 = .ok (.iconst 1, 1) := by decide +kernel
theorem dL_law_369 : decode cL_law 369 = .ok (.goto 4, 3) := by decide +kernel
theorem dL_law_372 : decode cL_law 372 = .ok (.iconst 0, 1) := by decide +kernel
theorem dL_law_373 : decode cL_law 373 = .ok (.istore 23, 2) := by decide +kernel
theorem dL_law_375 : decode cL_law 375 = .ok (.iload 10, 2) := by decide +kernel
theorem dL_law_377 : decode cL_law 377 = .ok (.iload 17, 2) := by decide +kernel
theorem dL_law_379 : decode cL_law 379 = .ok (.ishr, 1) := by decide +kernel
theorem dL_law_380 : decode cL_law 380 = .ok (.iload 6, 2) := by decide +kernel
theorem dL_law_382 : decode cL_law 382 = .ok (.iconst 1, 1) := by decide +kernel
theorem dL_law_383 : decode cL_law 383 = .ok (.iadd, 1) := by decide +kernel
theorem dL_law_384 : decode cL_law 384 = .ok (.invokestatic 15, 3) := by decide +kernel
theorem dL_law_387 : decode cL_law 387 = .ok (.istore 24, 2) := by decide +kernel
theorem dL_law_389 : decode cL_law 389 = .ok (.iload 10, 2) := by decide +kernel
theorem dL_law_391 : decode cL_law 391 = .ok (.iload 21, 2) := by decide +kernel
theorem dL_law_393 : decode cL_law 393 = .ok (.ishr, 1) := by decide +kernel
theorem dL_law_394 : decode cL_law 394 = .ok (.iload 6, 2) := by decide +kernel
theorem dL_law_396 : decode cL_law 396 = .ok (.iconst 1, 1) := by decide +kernel
theorem dL_law_397 : decode cL_law 397 = .ok (.iadd, 1) := by decide +kernel
theorem dL_law_398 : decode cL_law 398 = .ok (.invokestatic 15, 3) := by decide +kernel
theorem dL_law_401 : decode cL_law 401 = .ok (.iload 24, 2) := by decide +kernel
theorem dL_law_403 : decode cL_law 403 = .ok (.iconst (-1), 1) := by decide +kernel
theorem dL_law_404 : decode cL_law 404 = .ok (.ixor, 1) := by decide +kernel
theorem dL_law_405 : decode cL_law 405 = .ok (.iand, 1) := by decide +kernel
theorem dL_law_406 : decode cL_law 406 = .ok (.istore 25, 2) := by decide +kernel
theorem dL_law_408 : decode cL_law 408 = .ok (.aload_n 1, 1) := by decide +kernel
theorem dL_law_409 : decode cL_law 409 = .ok (.iload 17, 2) := by decide +kernel
theorem dL_law_411 : decode cL_law 411 = .ok (.iload 21, 2) := by decide +kernel
theorem dL_law_413 : decode cL_law 413 = .ok (.iload 24, 2) := by decide +kernel
theorem dL_law_415 : decode cL_law 415 = .ok (.iload 25, 2) := by decide +kernel
theorem dL_law_417 : decode cL_law 417 = .ok (.invokevirtual 111, 3) := by decide +kernel
theorem dL_law_420 : decode cL_law 420 = .ok (.istore 26, 2) := by decide +kernel
theorem dL_law_422 : decode cL_law 422 = .ok (.iload 26, 2) := by decide +kernel
theorem dL_law_424 : decode cL_law 424 = .ok (.ifCond .lt 46, 3) := by decide +kernel
theorem dL_law_427 : decode cL_law 427 = .ok (.iload 26, 2) := by decide +kernel
theorem dL_law_429 : decode cL_law 429 = .ok (.aload_n 1, 1) := by decide +kernel
theorem dL_law_430 : decode cL_law 430 = .ok (.iload 21, 2) := by decide +kernel
theorem dL_law_432 : decode cL_law 432 = .ok (.iload 17, 2) := by decide +kernel
theorem dL_law_434 : decode cL_law 434 = .ok (.iload 25, 2) := by decide +kernel
theorem dL_law_436 : decode cL_law 436 = .ok (.iload 24, 2) := by decide +kernel
theorem dL_law_438 : decode cL_law 438 = .ok (.invokevirtual 111, 3) := by decide +kernel
theorem dL_law_441 : decode cL_law 441 = .ok (.if_icmp .ne 29, 3) := by decide +kernel
theorem dL_law_444 : decode cL_law 444 = .ok (.iload 23, 2) := by decide +kernel
theorem dL_law_446 : decode cL_law 446 = .ok (.aload_n 1, 1) := by decide +kernel
theorem dL_law_447 : decode cL_law 447 = .ok (.iload 21, 2) := by decide +kernel
theorem dL_law_449 : decode cL_law 449 = .ok (.iconst 4, 1) := by decide +kernel
theorem dL_law_450 : decode cL_law 450 = .ok (.invokestatic 107, 3) := by decide +kernel
theorem dL_law_453 : decode cL_law 453 = .ok (.iload 17, 2) := by decide +kernel
theorem dL_law_455 : decode cL_law 455 = .ok (.ishr, 1) := by decide +kernel
theorem dL_law_456 : decode cL_law 456 = .ok (.iconst 1, 1) := by decide +kernel
theorem dL_law_457 : decode cL_law 457 = .ok (.iand, 1) := by decide +kernel
theorem dL_law_458 : decode cL_law 458 = .ok (.iconst 1, 1) := by decide +kernel
theorem dL_law_459 : decode cL_law 459 = .ok (.if_icmp .ne 7, 3) := by decide +kernel
theorem dL_law_462 : decode cL_law 462 = .ok (.iconst 1, 1) := by decide +kernel
theorem dL_law_463 : decode cL_law 463 = .ok (.goto 4, 3) := by decide +kernel
theorem dL_law_466 : decode cL_law 466 = .ok (.iconst 0, 1) := by decide +kernel
theorem dL_law_467 : decode cL_law 467 = .ok (.if_icmp .eq 5, 3) := by decide +kernel
theorem dL_law_470 : decode cL_law 470 = .ok (.iconst 0, 1) := by decide +kernel
theorem dL_law_471 : decode cL_law 471 = .ok (.ireturn, 1) := by decide +kernel
theorem dL_law_472 : decode cL_law 472 = .ok (.aload_n 1, 1) := by decide +kernel
theorem dL_law_473 : decode cL_law 473 = .ok (.iload 17, 2) := by decide +kernel
theorem dL_law_475 : decode cL_law 475 = .ok (.iload 21, 2) := by decide +kernel
theorem dL_law_477 : decode cL_law 477 = .ok (.iload 24, 2) := by decide +kernel
theorem dL_law_479 : decode cL_law 479 = .ok (.iload 25, 2) := by decide +kernel
theorem dL_law_481 : decode cL_law 481 = .ok (.invokevirtual 78, 3) := by decide +kernel
theorem dL_law_484 : decode cL_law 484 = .ok (.istore 27, 2) := by decide +kernel
theorem dL_law_486 : decode cL_law 486 = .ok (.iload 22, 2) := by decide +kernel
theorem dL_law_488 : decode cL_law 488 = .ok (.ifCond .eq 20, 3) := by decide +kernel
theorem dL_law_491 : decode cL_law 491 = .ok (.iload 24, 2) := by decide +kernel
theorem dL_law_493 : decode cL_law 493 = .ok (.iload 25, 2) := by decide +kernel
theorem dL_law_495 : decode cL_law 495 = .ok (.ior, 1) := by decide +kernel
theorem dL_law_496 : decode cL_law 496 = .ok (.iload 20, 2) := by decide +kernel
theorem dL_law_498 : decode cL_law 498 = .ok (.iconst (-1), 1) := by decide +kernel
theorem dL_law_499 : decode cL_law 499 = .ok (.ixor, 1) := by decide +kernel
theorem dL_law_500 : decode cL_law 500 = .ok (.iand, 1) := by decide +kernel
theorem dL_law_501 : decode cL_law 501 = .ok (.ifCond .ne 7, 3) := by decide +kernel
theorem dL_law_504 : decode cL_law 504 = .ok (.iconst 1, 1) := by decide +kernel
theorem dL_law_505 : decode cL_law 505 = .ok (.goto 4, 3) := by decide +kernel
theorem dL_law_508 : decode cL_law 508 = .ok (.iconst 0, 1) := by decide +kernel
theorem dL_law_509 : decode cL_law 509 = .ok (.istore 28, 2) := by decide +kernel
theorem dL_law_511 : decode cL_law 511 = .ok (.iload 27, 2) := by decide +kernel
theorem dL_law_513 : decode cL_law 513 = .ok (.iload 28, 2) := by decide +kernel
theorem dL_law_515 : decode cL_law 515 = .ok (.ifCond .eq 20, 3) := by decide +kernel
theorem dL_law_518 : decode cL_law 518 = .ok (.iload 26, 2) := by decide +kernel
theorem dL_law_520 : decode cL_law 520 = .ok (.iload 5, 2) := by decide +kernel
theorem dL_law_522 : decode cL_law 522 = .ok (.if_icmp .gt 8, 3) := by decide +kernel
theorem dL_law_525 : decode cL_law 525 = .ok (.iload 26, 2) := by decide +kernel
theorem dL_law_527 : decode cL_law 527 = .ok (.goto 10, 3) := by decide +kernel
theorem dL_law_530 : decode cL_law 530 = .ok (.bipush (-6), 2) := by decide +kernel
theorem dL_law_532 : decode cL_law 532 = .ok (.goto 5, 3) := by decide +kernel
theorem dL_law_535 : decode cL_law 535 = .ok (.bipush (-4), 2) := by decide +kernel
theorem dL_law_537 : decode cL_law 537 = .ok (.if_icmp .ne 73, 3) := by decide +kernel
theorem dL_law_540 : decode cL_law 540 = .ok (.iload 27, 2) := by decide +kernel
theorem dL_law_542 : decode cL_law 542 = .ok (.ifCond .lt 70, 3) := by decide +kernel
theorem dL_law_545 : decode cL_law 545 = .ok (.iload 23, 2) := by decide +kernel
theorem dL_law_547 : decode cL_law 547 = .ok (.ifCond .eq 63, 3) := by decide +kernel
theorem dL_law_550 : decode cL_law 550 = .ok (.aload_n 1, 1) := by decide +kernel
theorem dL_law_551 : decode cL_law 551 = .ok (.iconst 4, 1) := by decide +kernel
theorem dL_law_552 : decode cL_law 552 = .ok (.invokevirtual 102, 3) := by decide +kernel
theorem dL_law_555 : decode cL_law 555 = .ok (.iload 13, 2) := by decide +kernel
theorem dL_law_557 : decode cL_law 557 = .ok (.iconst 1, 1) := by decide +kernel
theorem dL_law_558 : decode cL_law 558 = .ok (.iload 17, 2) := by decide +kernel
theorem dL_law_560 : decode cL_law 560 = .ok (.ishl, 1) := by decide +kernel
theorem dL_law_561 : decode cL_law 561 = .ok (.ixor, 1) := by decide +kernel
theorem dL_law_562 : decode cL_law 562 = .ok (.iconst 1, 1) := by decide +kernel
theorem dL_law_563 : decode cL_law 563 = .ok (.iload 21, 2) := by decide +kernel
theorem dL_law_565 : decode cL_law 565 = .ok (.ishl, 1) := by decide +kernel
theorem dL_law_566 : decode cL_law 566 = .ok (.ixor, 1) := by decide +kernel
theorem dL_law_567 : decode cL_law 567 = .ok (.if_icmp .ne 43, 3) := by decide +kernel
theorem dL_law_570 : decode cL_law 570 = .ok (.aload_n 1, 1) := by decide +kernel
theorem dL_law_571 : decode cL_law 571 = .ok (.iconst 5, 1) := by decide +kernel
theorem dL_law_572 : decode cL_law 572 = .ok (.invokevirtual 102, 3) := by decide +kernel
theorem dL_law_575 : decode cL_law 575 = .ok (.iload 14, 2) := by decide +kernel
theorem dL_law_577 : decode cL_law 577 = .ok (.iload 24, 2) := by decide +kernel
theorem dL_law_579 : decode cL_law 579 = .ok (.iload 25, 2) := by decide +kernel
theorem dL_law_581 : decode cL_law 581 = .ok (.ior, 1) := by decide +kernel
theorem dL_law_582 : decode cL_law 582 = .ok (.ixor, 1) := by decide +kernel
theorem dL_law_583 : decode cL_law 583 = .ok (.if_icmp .ne 27, 3) := by decide +kernel
theorem dL_law_586 : decode cL_law 586 = .ok (.aload_n 1, 1) := by decide +kernel
theorem dL_law_587 : decode cL_law 587 = .ok (.bipush 7, 2) := by decide +kernel
theorem dL_law_589 : decode cL_law 589 = .ok (.invokevirtual 102, 3) := by decide +kernel
theorem dL_law_592 : decode cL_law 592 = .ok (.iload 15, 2) := by decide +kernel
theorem dL_law_594 : decode cL_law 594 = .ok (.iload 26, 2) := by decide +kernel
theorem dL_law_596 : decode cL_law 596 = .ok (.iadd, 1) := by decide +kernel
theorem dL_law_597 : decode cL_law 597 = .ok (.if_icmp .ne 13, 3) := by decide +kernel
theorem dL_law_600 : decode cL_law 600 = .ok (.aload_n 1, 1) := by decide +kernel
theorem dL_law_601 : decode cL_law 601 = .ok (.iload 11, 2) := by decide +kernel
theorem dL_law_603 : decode cL_law 603 = .ok (.invokevirtual 113, 3) := by decide +kernel
theorem dL_law_606 : decode cL_law 606 = .ok (.iconst 1, 1) := by decide +kernel
theorem dL_law_607 : decode cL_law 607 = .ok (.if_icmp .eq 5, 3) := by decide +kernel
theorem dL_law_610 : decode cL_law 610 = .ok (.iconst 0, 1) := by decide +kernel
theorem dL_law_611 : decode cL_law 611 = .ok (.ireturn, 1) := by decide +kernel
theorem dL_law_612 : decode cL_law 612 = .ok (.aload_n 1, 1) := by decide +kernel
theorem dL_law_613 : decode cL_law 613 = .ok (.iload 17, 2) := by decide +kernel
theorem dL_law_615 : decode cL_law 615 = .ok (.iload 21, 2) := by decide +kernel
theorem dL_law_617 : decode cL_law 617 = .ok (.invokevirtual 116, 3) := by decide +kernel
theorem dL_law_620 : decode cL_law 620 = .ok (.istore 29, 2) := by decide +kernel
theorem dL_law_622 : decode cL_law 622 = .ok (.aload_n 1, 1) := by decide +kernel
theorem dL_law_623 : decode cL_law 623 = .ok (.invokevirtual 84, 3) := by decide +kernel
theorem dL_law_626 : decode cL_law 626 = .ok (.istore 30, 2) := by decide +kernel
theorem dL_law_628 : decode cL_law 628 = .ok (.iload 22, 2) := by decide +kernel
theorem dL_law_630 : decode cL_law 630 = .ok (.ifCond .ne 13, 3) := by decide +kernel
theorem dL_law_633 : decode cL_law 633 = .ok (.iload 29, 2) := by decide +kernel
theorem dL_law_635 : decode cL_law 635 = .ok (.bipush (-4), 2) := by decide +kernel
theorem dL_law_637 : decode cL_law 637 = .ok (.if_icmp .eq 110, 3) := by decide +kernel
theorem dL_law_640 : decode cL_law 640 = .ok (.goto 105, 3) := by decide +kernel
theorem dL_law_643 : decode cL_law 643 = .ok (.iload 29, 2) := by decide +kernel
theorem dL_law_645 : decode cL_law 645 = .ok (.ifCond .lt 100, 3) := by decide +kernel
theorem dL_law_648 : decode cL_law 648 = .ok (.iload 29, 2) := by decide +kernel
theorem dL_law_650 : decode cL_law 650 = .ok (.aload_n 1, 1) := by decide +kernel
theorem dL_law_651 : decode cL_law 651 = .ok (.iload 17, 2) := by decide +kernel
theorem dL_law_653 : decode cL_law 653 = .ok (.iload 21, 2) := by decide +kernel
theorem dL_law_655 : decode cL_law 655 = .ok (.iconst 0, 1) := by decide +kernel
theorem dL_law_656 : decode cL_law 656 = .ok (.iconst 0, 1) := by decide +kernel
theorem dL_law_657 : decode cL_law 657 = .ok (.invokevirtual 111, 3) := by decide +kernel
theorem dL_law_660 : decode cL_law 660 = .ok (.if_icmp .gt 85, 3) := by decide +kernel
theorem dL_law_663 : decode cL_law 663 = .ok (.iload 28, 2) := by decide +kernel
theorem dL_law_665 : decode cL_law 665 = .ok (.ifCond .eq 10, 3) := by decide +kernel
theorem dL_law_668 : decode cL_law 668 = .ok (.iload 29, 2) := by decide +kernel
theorem dL_law_670 : decode cL_law 670 = .ok (.iload 26, 2) := by decide +kernel
theorem dL_law_672 : decode cL_law 672 = .ok (.if_icmp .gt 73, 3) := by decide +kernel
theorem dL_law_675 : decode cL_law 675 = .ok (.iload 30, 2) := by decide +kernel
theorem dL_law_677 : decode cL_law 677 = .ok (.iconst 4, 1) := by decide +kernel
theorem dL_law_678 : decode cL_law 678 = .ok (.ishr, 1) := by decide +kernel
theorem dL_law_679 : decode cL_law 679 = .ok (.iload 30, 2) := by decide +kernel
theorem dL_law_681 : decode cL_law 681 = .ok (.iand, 1) := by decide +kernel
theorem dL_law_682 : decode cL_law 682 = .ok (.bipush 15, 2) := by decide +kernel
theorem dL_law_684 : decode cL_law 684 = .ok (.iand, 1) := by decide +kernel
theorem dL_law_685 : decode cL_law 685 = .ok (.ifCond .ne 60, 3) := by decide +kernel
theorem dL_law_688 : decode cL_law 688 = .ok (.iload 30, 2) := by decide +kernel
theorem dL_law_690 : decode cL_law 690 = .ok (.iconst 4, 1) := by decide +kernel
theorem dL_law_691 : decode cL_law 691 = .ok (.ishr, 1) := by decide +kernel
theorem dL_law_692 : decode cL_law 692 = .ok (.iload 30, 2) := by decide +kernel
theorem dL_law_694 : decode cL_law 694 = .ok (.bipush 15, 2) := by decide +kernel
theorem dL_law_696 : decode cL_law 696 = .ok (.iand, 1) := by decide +kernel
theorem dL_law_697 : decode cL_law 697 = .ok (.ior, 1) := by decide +kernel
theorem dL_law_698 : decode cL_law 698 = .ok (.iload 20, 2) := by decide +kernel
theorem dL_law_700 : decode cL_law 700 = .ok (.iconst (-1), 1) := by decide +kernel
theorem dL_law_701 : decode cL_law 701 = .ok (.ixor, 1) := by decide +kernel
theorem dL_law_702 : decode cL_law 702 = .ok (.iand, 1) := by decide +kernel
theorem dL_law_703 : decode cL_law 703 = .ok (.ifCond .ne 42, 3) := by decide +kernel
theorem dL_law_706 : decode cL_law 706 = .ok (.aload_n 1, 1) := by decide +kernel
theorem dL_law_707 : decode cL_law 707 = .ok (.iload 17, 2) := by decide +kernel
theorem dL_law_709 : decode cL_law 709 = .ok (.iload 21, 2) := by decide +kernel
theorem dL_law_711 : decode cL_law 711 = .ok (.iload 30, 2) := by decide +kernel
theorem dL_law_713 : decode cL_law 713 = .ok (.iconst 4, 1) := by decide +kernel
theorem dL_law_714 : decode cL_law 714 = .ok (.ishr, 1) := by decide +kernel
theorem dL_law_715 : decode cL_law 715 = .ok (.iload 30, 2) := by decide +kernel
theorem dL_law_717 : decode cL_law 717 = .ok (.bipush 15, 2) := by decide +kernel
theorem dL_law_719 : decode cL_law 719 = .ok (.iand, 1) := by decide +kernel
theorem dL_law_720 : decode cL_law 720 = .ok (.invokevirtual 111, 3) := by decide +kernel
theorem dL_law_723 : decode cL_law 723 = .ok (.iload 29, 2) := by decide +kernel
theorem dL_law_725 : decode cL_law 725 = .ok (.if_icmp .ne 20, 3) := by decide +kernel
theorem dL_law_728 : decode cL_law 728 = .ok (.iload 23, 2) := by decide +kernel
theorem dL_law_730 : decode cL_law 730 = .ok (.iload 29, 2) := by decide +kernel
theorem dL_law_732 : decode cL_law 732 = .ok (.iload 5, 2) := by decide +kernel
theorem dL_law_734 : decode cL_law 734 = .ok (.if_icmp .gt 7, 3) := by decide +kernel
theorem dL_law_737 : decode cL_law 737 = .ok (.iconst 1, 1) := by decide +kernel
theorem dL_law_738 : decode cL_law 738 = .ok (.goto 4, 3) := by decide +kernel
theorem dL_law_741 : decode cL_law 741 = .ok (.iconst 0, 1) := by decide +kernel
theorem dL_law_742 : decode cL_law 742 = .ok (.if_icmp .eq 5, 3) := by decide +kernel
theorem dL_law_745 : decode cL_law 745 = .ok (.iconst 0, 1) := by decide +kernel
theorem dL_law_746 : decode cL_law 746 = .ok (.ireturn, 1) := by decide +kernel
theorem dL_law_747 : decode cL_law 747 = .ok (.iload 16, 2) := by decide +kernel
theorem dL_law_749 : decode cL_law 749 = .ok (.iload 23, 2) := by decide +kernel
theorem dL_law_751 : decode cL_law 751 = .ok (.ifCond .eq 14, 3) := by decide +kernel
theorem dL_law_754 : decode cL_law 754 = .ok (.iload 17, 2) := by decide +kernel
theorem dL_law_756 : decode cL_law 756 = .ok (.iload 21, 2) := by decide +kernel
theorem dL_law_758 : decode cL_law 758 = .ok (.if_icmp .ge 7, 3) := by decide +kernel
theorem dL_law_761 : decode cL_law 761 = .ok (.iconst 1, 1) := by decide +kernel
theorem dL_law_762 : decode cL_law 762 = .ok (.goto 4, 3) := by decide +kernel
theorem dL_law_765 : decode cL_law 765 = .ok (.iconst 0, 1) := by decide +kernel
theorem dL_law_766 : decode cL_law 766 = .ok (.iadd, 1) := by decide +kernel
theorem dL_law_767 : decode cL_law 767 = .ok (.istore 16, 2) := by decide +kernel
theorem dL_law_769 : decode cL_law 769 = .ok (.iload 23, 2) := by decide +kernel
theorem dL_law_771 : decode cL_law 771 = .ok (.ifCond .eq 57, 3) := by decide +kernel
theorem dL_law_774 : decode cL_law 774 = .ok (.aload_n 1, 1) := by decide +kernel
theorem dL_law_775 : decode cL_law 775 = .ok (.iload 17, 2) := by decide +kernel
theorem dL_law_777 : decode cL_law 777 = .ok (.iload 21, 2) := by decide +kernel
theorem dL_law_779 : decode cL_law 779 = .ok (.iload 30, 2) := by decide +kernel
theorem dL_law_781 : decode cL_law 781 = .ok (.iconst 4, 1) := by decide +kernel
theorem dL_law_782 : decode cL_law 782 = .ok (.ishr, 1) := by decide +kernel
theorem dL_law_783 : decode cL_law 783 = .ok (.iload 30, 2) := by decide +kernel
theorem dL_law_785 : decode cL_law 785 = .ok (.bipush 15, 2) := by decide +kernel
theorem dL_law_787 : decode cL_law 787 = .ok (.iand, 1) := by decide +kernel
theorem dL_law_788 : decode cL_law 788 = .ok (.invokevirtual 78, 3) := by decide +kernel
theorem dL_law_791 : decode cL_law 791 = .ok (.iload 29, 2) := by decide +kernel
theorem dL_law_793 : decode cL_law 793 = .ok (.if_icmp .ne 33, 3) := by decide +kernel
theorem dL_law_796 : decode cL_law 796 = .ok (.aload_n 1, 1) := by decide +kernel
theorem dL_law_797 : decode cL_law 797 = .ok (.iload 11, 2) := by decide +kernel
theorem dL_law_799 : decode cL_law 799 = .ok (.invokevirtual 113, 3) := by decide +kernel
theorem dL_law_802 : decode cL_law 802 = .ok (.iconst 1, 1) := by decide +kernel
theorem dL_law_803 : decode cL_law 803 = .ok (.if_icmp .ne 23, 3) := by decide +kernel
theorem dL_law_806 : decode cL_law 806 = .ok (.aload_n 1, 1) := by decide +kernel
theorem dL_law_807 : decode cL_law 807 = .ok (.iconst 4, 1) := by decide +kernel
theorem dL_law_808 : decode cL_law 808 = .ok (.invokevirtual 102, 3) := by decide +kernel
theorem dL_law_811 : decode cL_law 811 = .ok (.iload 13, 2) := by decide +kernel
theorem dL_law_813 : decode cL_law 813 = .ok (.if_icmp .ne 13, 3) := by decide +kernel
theorem dL_law_816 : decode cL_law 816 = .ok (.aload_n 1, 1) := by decide +kernel
theorem dL_law_817 : decode cL_law 817 = .ok (.iconst 5, 1) := by decide +kernel
theorem dL_law_818 : decode cL_law 818 = .ok (.invokevirtual 102, 3) := by decide +kernel
theorem dL_law_821 : decode cL_law 821 = .ok (.iload 14, 2) := by decide +kernel
theorem dL_law_823 : decode cL_law 823 = .ok (.if_icmp .eq 5, 3) := by decide +kernel
theorem dL_law_826 : decode cL_law 826 = .ok (.iconst 0, 1) := by decide +kernel
theorem dL_law_827 : decode cL_law 827 = .ok (.ireturn, 1) := by decide +kernel
theorem dL_law_828 : decode cL_law 828 = .ok (.aload_n 1, 1) := by decide +kernel
theorem dL_law_829 : decode cL_law 829 = .ok (.iload 17, 2) := by decide +kernel
theorem dL_law_831 : decode cL_law 831 = .ok (.iload 21, 2) := by decide +kernel
theorem dL_law_833 : decode cL_law 833 = .ok (.invokevirtual 119, 3) := by decide +kernel
theorem dL_law_836 : decode cL_law 836 = .ok (.istore 31, 2) := by decide +kernel
theorem dL_law_838 : decode cL_law 838 = .ok (.iload 22, 2) := by decide +kernel
theorem dL_law_840 : decode cL_law 840 = .ok (.ifCond .ne 13, 3) := by decide +kernel
theorem dL_law_843 : decode cL_law 843 = .ok (.iload 31, 2) := by decide +kernel
theorem dL_law_845 : decode cL_law 845 = .ok (.bipush (-4), 2) := by decide +kernel
theorem dL_law_847 : decode cL_law 847 = .ok (.if_icmp .eq 70, 3) := by decide +kernel
theorem dL_law_850 : decode cL_law 850 = .ok (.goto 65, 3) := by decide +kernel
theorem dL_law_853 : decode cL_law 853 = .ok (.iload 31, 2) := by decide +kernel
theorem dL_law_855 : decode cL_law 855 = .ok (.bipush (-9), 2) := by decide +kernel
theorem dL_law_857 : decode cL_law 857 = .ok (.if_icmp .lt 58, 3) := by decide +kernel
theorem dL_law_860 : decode cL_law 860 = .ok (.iload 31, 2) := by decide +kernel
theorem dL_law_862 : decode cL_law 862 = .ok (.bipush 9, 2) := by decide +kernel
theorem dL_law_864 : decode cL_law 864 = .ok (.iload 12, 2) := by decide +kernel
theorem dL_law_866 : decode cL_law 866 = .ok (.isub, 1) := by decide +kernel
theorem dL_law_867 : decode cL_law 867 = .ok (.if_icmp .gt 48, 3) := by decide +kernel
theorem dL_law_870 : decode cL_law 870 = .ok (.iload 31, 2) := by decide +kernel
theorem dL_law_872 : decode cL_law 872 = .ok (.bipush (-9), 2) := by decide +kernel
theorem dL_law_874 : decode cL_law 874 = .ok (.if_icmp .le 8, 3) := by decide +kernel
theorem dL_law_877 : decode cL_law 877 = .ok (.iload 31, 2) := by decide +kernel
theorem dL_law_879 : decode cL_law 879 = .ok (.ifCond .lt 36, 3) := by decide +kernel
theorem dL_law_882 : decode cL_law 882 = .ok (.iload 31, 2) := by decide +kernel
theorem dL_law_884 : decode cL_law 884 = .ok (.ifCond .ne 7, 3) := by decide +kernel
theorem dL_law_887 : decode cL_law 887 = .ok (.iconst 1, 1) := by decide +kernel
theorem dL_law_888 : decode cL_law 888 = .ok (.goto 4, 3) := by decide +kernel
theorem dL_law_891 : decode cL_law 891 = .ok (.iconst 0, 1) := by decide +kernel
theorem dL_law_892 : decode cL_law 892 = .ok (.aload_n 1, 1) := by decide +kernel
theorem dL_law_893 : decode cL_law 893 = .ok (.iload 17, 2) := by decide +kernel
theorem dL_law_895 : decode cL_law 895 = .ok (.iload 21, 2) := by decide +kernel
theorem dL_law_897 : decode cL_law 897 = .ok (.iconst 0, 1) := by decide +kernel
theorem dL_law_898 : decode cL_law 898 = .ok (.iconst 0, 1) := by decide +kernel
theorem dL_law_899 : decode cL_law 899 = .ok (.invokevirtual 111, 3) := by decide +kernel
theorem dL_law_902 : decode cL_law 902 = .ok (.iload 5, 2) := by decide +kernel
theorem dL_law_904 : decode cL_law 904 = .ok (.if_icmp .gt 7, 3) := by decide +kernel
theorem dL_law_907 : decode cL_law 907 = .ok (.iconst 1, 1) := by decide +kernel
theorem dL_law_908 : decode cL_law 908 = .ok (.goto 4, 3) := by decide +kernel
theorem dL_law_911 : decode cL_law 911 = .ok (.iconst 0, 1) := by decide +kernel
theorem dL_law_912 : decode cL_law 912 = .ok (.if_icmp .eq 5, 3) := by decide +kernel
theorem dL_law_915 : decode cL_law 915 = .ok (.iconst 0, 1) := by decide +kernel
theorem dL_law_916 : decode cL_law 916 = .ok (.ireturn, 1) := by decide +kernel
theorem dL_law_917 : decode cL_law 917 = .ok (.iinc 21 1, 3) := by decide +kernel
theorem dL_law_920 : decode cL_law 920 = .ok (.goto (-601), 3) := by decide +kernel
theorem dL_law_923 : decode cL_law 923 = .ok (.aload_n 1, 1) := by decide +kernel
theorem dL_law_924 : decode cL_law 924 = .ok (.iload 17, 2) := by decide +kernel
theorem dL_law_926 : decode cL_law 926 = .ok (.invokevirtual 122, 3) := by decide +kernel
theorem dL_law_929 : decode cL_law 929 = .ok (.istore 21, 2) := by decide +kernel
theorem dL_law_931 : decode cL_law 931 = .ok (.iload 21, 2) := by decide +kernel
theorem dL_law_933 : decode cL_law 933 = .ok (.bipush (-9), 2) := by decide +kernel
theorem dL_law_935 : decode cL_law 935 = .ok (.if_icmp .lt 23, 3) := by decide +kernel
theorem dL_law_938 : decode cL_law 938 = .ok (.iload 21, 2) := by decide +kernel
theorem dL_law_940 : decode cL_law 940 = .ok (.bipush 99, 2) := by decide +kernel
theorem dL_law_942 : decode cL_law 942 = .ok (.if_icmp .gt 16, 3) := by decide +kernel
theorem dL_law_945 : decode cL_law 945 = .ok (.iload 21, 2) := by decide +kernel
theorem dL_law_947 : decode cL_law 947 = .ok (.bipush (-9), 2) := by decide +kernel
theorem dL_law_949 : decode cL_law 949 = .ok (.if_icmp .le 11, 3) := by decide +kernel
theorem dL_law_952 : decode cL_law 952 = .ok (.iload 21, 2) := by decide +kernel
theorem dL_law_954 : decode cL_law 954 = .ok (.iconst 1, 1) := by decide +kernel
theorem dL_law_955 : decode cL_law 955 = .ok (.if_icmp .ge 5, 3) := by decide +kernel
theorem dL_law_958 : decode cL_law 958 = .ok (.iconst 0, 1) := by decide +kernel
theorem dL_law_959 : decode cL_law 959 = .ok (.ireturn, 1) := by decide +kernel
theorem dL_law_960 : decode cL_law 960 = .ok (.iconst 0, 1) := by decide +kernel
theorem dL_law_961 : decode cL_law 961 = .ok (.istore 22, 2) := by decide +kernel
theorem dL_law_963 : decode cL_law 963 = .ok (.iload 22, 2) := by decide +kernel
theorem dL_law_965 : decode cL_law 965 = .ok (.iload 4, 2) := by decide +kernel
theorem dL_law_967 : decode cL_law 967 = .ok (.if_icmp .ge 49, 3) := by decide +kernel
theorem dL_law_970 : decode cL_law 970 = .ok (.iload 18, 2) := by decide +kernel
theorem dL_law_972 : decode cL_law 972 = .ok (.iload 22, 2) := by decide +kernel
theorem dL_law_974 : decode cL_law 974 = .ok (.ishr, 1) := by decide +kernel
theorem dL_law_975 : decode cL_law 975 = .ok (.iconst 1, 1) := by decide +kernel
theorem dL_law_976 : decode cL_law 976 = .ok (.iand, 1) := by decide +kernel
theorem dL_law_977 : decode cL_law 977 = .ok (.iconst 1, 1) := by decide +kernel
theorem dL_law_978 : decode cL_law 978 = .ok (.if_icmp .ne 32, 3) := by decide +kernel
theorem dL_law_981 : decode cL_law 981 = .ok (.aload_n 1, 1) := by decide +kernel
theorem dL_law_982 : decode cL_law 982 = .ok (.iload 22, 2) := by decide +kernel
theorem dL_law_984 : decode cL_law 984 = .ok (.iconst 0, 1) := by decide +kernel
theorem dL_law_985 : decode cL_law 985 = .ok (.invokestatic 107, 3) := by decide +kernel
theorem dL_law_988 : decode cL_law 988 = .ok (.ifCond .ne 22, 3) := by decide +kernel
theorem dL_law_991 : decode cL_law 991 = .ok (.iload 21, 2) := by decide +kernel
theorem dL_law_993 : decode cL_law 993 = .ok (.ifCond .lt 15, 3) := by decide +kernel
theorem dL_law_996 : decode cL_law 996 = .ok (.iload 21, 2) := by decide +kernel
theorem dL_law_998 : decode cL_law 998 = .ok (.aload_n 1, 1) := by decide +kernel
theorem dL_law_999 : decode cL_law 999 = .ok (.iload 22, 2) := by decide +kernel
theorem dL_law_1001 : decode cL_law 1001 = .ok (.iconst 1, 1) := by decide +kernel
theorem dL_law_1002 : decode cL_law 1002 = .ok (.invokestatic 107, 3) := by decide +kernel
theorem dL_law_1005 : decode cL_law 1005 = .ok (.if_icmp .le 5, 3) := by decide +kernel
theorem dL_law_1008 : decode cL_law 1008 = .ok (.iconst 0, 1) := by decide +kernel
theorem dL_law_1009 : decode cL_law 1009 = .ok (.ireturn, 1) := by decide +kernel
theorem dL_law_1010 : decode cL_law 1010 = .ok (.iinc 22 1, 3) := by decide +kernel
theorem dL_law_1013 : decode cL_law 1013 = .ok (.goto (-50), 3) := by decide +kernel
theorem dL_law_1016 : decode cL_law 1016 = .ok (.iinc 17 1, 3) := by decide +kernel
theorem dL_law_1019 : decode cL_law 1019 = .ok (.goto (-817), 3) := by decide +kernel
theorem dL_law_1022 : decode cL_law 1022 = .ok (.aload_n 1, 1) := by decide +kernel
theorem dL_law_1023 : decode cL_law 1023 = .ok (.invokevirtual 125, 3) := by decide +kernel
theorem dL_law_1026 : decode cL_law 1026 = .ok (.istore 17, 2) := by decide +kernel
theorem dL_law_1028 : decode cL_law 1028 = .ok (.aload_n 1, 1) := by decide +kernel
theorem dL_law_1029 : decode cL_law 1029 = .ok (.invokevirtual 84, 3) := by decide +kernel
theorem dL_law_1032 : decode cL_law 1032 = .ok (.istore 18, 2) := by decide +kernel
theorem dL_law_1034 : decode cL_law 1034 = .ok (.iload 17, 2) := by decide +kernel
theorem dL_law_1036 : decode cL_law 1036 = .ok (.iload 16, 2) := by decide +kernel
theorem dL_law_1038 : decode cL_law 1038 = .ok (.if_icmp .ne 68, 3) := by decide +kernel
theorem dL_law_1041 : decode cL_law 1041 = .ok (.iload 18, 2) := by decide +kernel
theorem dL_law_1043 : decode cL_law 1043 = .ok (.bipush (-9), 2) := by decide +kernel
theorem dL_law_1045 : decode cL_law 1045 = .ok (.if_icmp .ne 7, 3) := by decide +kernel
theorem dL_law_1048 : decode cL_law 1048 = .ok (.iconst 1, 1) := by decide +kernel
theorem dL_law_1049 : decode cL_law 1049 = .ok (.goto 4, 3) := by decide +kernel
theorem dL_law_1052 : decode cL_law 1052 = .ok (.iconst 0, 1) := by decide +kernel
theorem dL_law_1053 : decode cL_law 1053 = .ok (.iload 17, 2) := by decide +kernel
theorem dL_law_1055 : decode cL_law 1055 = .ok (.ifCond .ne 7, 3) := by decide +kernel
theorem dL_law_1058 : decode cL_law 1058 = .ok (.iconst 1, 1) := by decide +kernel
theorem dL_law_1059 : decode cL_law 1059 = .ok (.goto 4, 3) := by decide +kernel
theorem dL_law_1062 : decode cL_law 1062 = .ok (.iconst 0, 1) := by decide +kernel
theorem dL_law_1063 : decode cL_law 1063 = .ok (.if_icmp .ne 43, 3) := by decide +kernel
theorem dL_law_1066 : decode cL_law 1066 = .ok (.iload 18, 2) := by decide +kernel
theorem dL_law_1068 : decode cL_law 1068 = .ok (.ifCond .lt 40, 3) := by decide +kernel
theorem dL_law_1071 : decode cL_law 1071 = .ok (.iload 18, 2) := by decide +kernel
theorem dL_law_1073 : decode cL_law 1073 = .ok (.bipush 6, 2) := by decide +kernel
theorem dL_law_1075 : decode cL_law 1075 = .ok (.idiv, 1) := by decide +kernel
theorem dL_law_1076 : decode cL_law 1076 = .ok (.iload 18, 2) := by decide +kernel
theorem dL_law_1078 : decode cL_law 1078 = .ok (.bipush 6, 2) := by decide +kernel
theorem dL_law_1080 : decode cL_law 1080 = .ok (.irem, 1) := by decide +kernel
theorem dL_law_1081 : decode cL_law 1081 = .ok (.if_icmp .ge 25, 3) := by decide +kernel
theorem dL_law_1084 : decode cL_law 1084 = .ok (.aload_n 1, 1) := by decide +kernel
theorem dL_law_1085 : decode cL_law 1085 = .ok (.iload 18, 2) := by decide +kernel
theorem dL_law_1087 : decode cL_law 1087 = .ok (.bipush 6, 2) := by decide +kernel
theorem dL_law_1089 : decode cL_law 1089 = .ok (.idiv, 1) := by decide +kernel
theorem dL_law_1090 : decode cL_law 1090 = .ok (.iconst 4, 1) := by decide +kernel
theorem dL_law_1091 : decode cL_law 1091 = .ok (.invokestatic 107, 3) := by decide +kernel
theorem dL_law_1094 : decode cL_law 1094 = .ok (.iload 18, 2) := by decide +kernel
theorem dL_law_1096 : decode cL_law 1096 = .ok (.bipush 6, 2) := by decide +kernel
theorem dL_law_1098 : decode cL_law 1098 = .ok (.irem, 1) := by decide +kernel
theorem dL_law_1099 : decode cL_law 1099 = .ok (.ishr, 1) := by decide +kernel
theorem dL_law_1100 : decode cL_law 1100 = .ok (.iconst 1, 1) := by decide +kernel
theorem dL_law_1101 : decode cL_law 1101 = .ok (.iand, 1) := by decide +kernel
theorem dL_law_1102 : decode cL_law 1102 = .ok (.iconst 1, 1) := by decide +kernel
theorem dL_law_1103 : decode cL_law 1103 = .ok (.if_icmp .eq 5, 3) := by decide +kernel
theorem dL_law_1106 : decode cL_law 1106 = .ok (.iconst 0, 1) := by decide +kernel
theorem dL_law_1107 : decode cL_law 1107 = .ok (.ireturn, 1) := by decide +kernel
theorem dL_law_1108 : decode cL_law 1108 = .ok (.aload_n 1, 1) := by decide +kernel
theorem dL_law_1109 : decode cL_law 1109 = .ok (.invokevirtual 128, 3) := by decide +kernel
theorem dL_law_1112 : decode cL_law 1112 = .ok (.istore 19, 2) := by decide +kernel
theorem dL_law_1114 : decode cL_law 1114 = .ok (.aload_n 1, 1) := by decide +kernel
theorem dL_law_1115 : decode cL_law 1115 = .ok (.invokevirtual 84, 3) := by decide +kernel
theorem dL_law_1118 : decode cL_law 1118 = .ok (.istore 20, 2) := by decide +kernel
theorem dL_law_1120 : decode cL_law 1120 = .ok (.iload 19, 2) := by decide +kernel
theorem dL_law_1122 : decode cL_law 1122 = .ok (.ifCond .lt 67, 3) := by decide +kernel
theorem dL_law_1125 : decode cL_law 1125 = .ok (.iload 19, 2) := by decide +kernel
theorem dL_law_1127 : decode cL_law 1127 = .ok (.iload 4, 2) := by decide +kernel
theorem dL_law_1129 : decode cL_law 1129 = .ok (.iconst 2, 1) := by decide +kernel
theorem dL_law_1130 : decode cL_law 1130 = .ok (.idiv, 1) := by decide +kernel
theorem dL_law_1131 : decode cL_law 1131 = .ok (.if_icmp .gt 58, 3) := by decide +kernel
theorem dL_law_1134 : decode cL_law 1134 = .ok (.iload 20, 2) := by decide +kernel
theorem dL_law_1136 : decode cL_law 1136 = .ok (.invokestatic 104, 3) := by decide +kernel
theorem dL_law_1139 : decode cL_law 1139 = .ok (.iconst 2, 1) := by decide +kernel
theorem dL_law_1140 : decode cL_law 1140 = .ok (.iload 19, 2) := by decide +kernel
theorem dL_law_1142 : decode cL_law 1142 = .ok (.imul, 1) := by decide +kernel
theorem dL_law_1143 : decode cL_law 1143 = .ok (.if_icmp .ne 46, 3) := by decide +kernel
theorem dL_law_1146 : decode cL_law 1146 = .ok (.iload 19, 2) := by decide +kernel
theorem dL_law_1148 : decode cL_law 1148 = .ok (.ifCond .ne 7, 3) := by decide +kernel
theorem dL_law_1151 : decode cL_law 1151 = .ok (.iconst 1, 1) := by decide +kernel
theorem dL_law_1152 : decode cL_law 1152 = .ok (.goto 4, 3) := by decide +kernel
theorem dL_law_1155 : decode cL_law 1155 = .ok (.iconst 0, 1) := by decide +kernel
theorem dL_law_1156 : decode cL_law 1156 = .ok (.iload 17, 2) := by decide +kernel
theorem dL_law_1158 : decode cL_law 1158 = .ok (.ifCond .ne 7, 3) := by decide +kernel
theorem dL_law_1161 : decode cL_law 1161 = .ok (.iconst 1, 1) := by decide +kernel
theorem dL_law_1162 : decode cL_law 1162 = .ok (.goto 4, 3) := by decide +kernel
theorem dL_law_1165 : decode cL_law 1165 = .ok (.iconst 0, 1) := by decide +kernel
theorem dL_law_1166 : decode cL_law 1166 = .ok (.if_icmp .ne 23, 3) := by decide +kernel
theorem dL_law_1169 : decode cL_law 1169 = .ok (.iload 20, 2) := by decide +kernel
theorem dL_law_1171 : decode cL_law 1171 = .ok (.iload 13, 2) := by decide +kernel
theorem dL_law_1173 : decode cL_law 1173 = .ok (.iand, 1) := by decide +kernel
theorem dL_law_1174 : decode cL_law 1174 = .ok (.invokestatic 104, 3) := by decide +kernel
theorem dL_law_1177 : decode cL_law 1177 = .ok (.iconst 2, 1) := by decide +kernel
theorem dL_law_1178 : decode cL_law 1178 = .ok (.irem, 1) := by decide +kernel
theorem dL_law_1179 : decode cL_law 1179 = .ok (.ifCond .ne 10, 3) := by decide +kernel
theorem dL_law_1182 : decode cL_law 1182 = .ok (.iload 19, 2) := by decide +kernel
theorem dL_law_1184 : decode cL_law 1184 = .ok (.iload 17, 2) := by decide +kernel
theorem dL_law_1186 : decode cL_law 1186 = .ok (.if_icmp .le 5, 3) := by decide +kernel
theorem dL_law_1189 : decode cL_law 1189 = .ok (.iconst 0, 1) := by decide +kernel
theorem dL_law_1190 : decode cL_law 1190 = .ok (.ireturn, 1) := by decide +kernel
theorem dL_law_1191 : decode cL_law 1191 = .ok (.iconst 0, 1) := by decide +kernel
theorem dL_law_1192 : decode cL_law 1192 = .ok (.istore 21, 2) := by decide +kernel
theorem dL_law_1194 : decode cL_law 1194 = .ok (.iload 21, 2) := by decide +kernel
theorem dL_law_1196 : decode cL_law 1196 = .ok (.iload 4, 2) := by decide +kernel
theorem dL_law_1198 : decode cL_law 1198 = .ok (.if_icmp .ge 35, 3) := by decide +kernel
theorem dL_law_1201 : decode cL_law 1201 = .ok (.iload 20, 2) := by decide +kernel
theorem dL_law_1203 : decode cL_law 1203 = .ok (.iload 21, 2) := by decide +kernel
theorem dL_law_1205 : decode cL_law 1205 = .ok (.ishr, 1) := by decide +kernel
theorem dL_law_1206 : decode cL_law 1206 = .ok (.iconst 1, 1) := by decide +kernel
theorem dL_law_1207 : decode cL_law 1207 = .ok (.iand, 1) := by decide +kernel
theorem dL_law_1208 : decode cL_law 1208 = .ok (.iconst 1, 1) := by decide +kernel
theorem dL_law_1209 : decode cL_law 1209 = .ok (.if_icmp .ne 18, 3) := by decide +kernel
theorem dL_law_1212 : decode cL_law 1212 = .ok (.aload_n 1, 1) := by decide +kernel
theorem dL_law_1213 : decode cL_law 1213 = .ok (.iload 21, 2) := by decide +kernel
theorem dL_law_1215 : decode cL_law 1215 = .ok (.iconst 4, 1) := by decide +kernel
theorem dL_law_1216 : decode cL_law 1216 = .ok (.invokestatic 107, 3) := by decide +kernel
theorem dL_law_1219 : decode cL_law 1219 = .ok (.iload 20, 2) := by decide +kernel
theorem dL_law_1221 : decode cL_law 1221 = .ok (.iand, 1) := by decide +kernel
theorem dL_law_1222 : decode cL_law 1222 = .ok (.ifCond .ne 5, 3) := by decide +kernel
theorem dL_law_1225 : decode cL_law 1225 = .ok (.iconst 0, 1) := by decide +kernel
theorem dL_law_1226 : decode cL_law 1226 = .ok (.ireturn, 1) := by decide +kernel
theorem dL_law_1227 : decode cL_law 1227 = .ok (.iinc 21 1, 3) := by decide +kernel
theorem dL_law_1230 : decode cL_law 1230 = .ok (.goto (-36), 3) := by decide +kernel
theorem dL_law_1233 : decode cL_law 1233 = .ok (.aload_n 1, 1) := by decide +kernel
theorem dL_law_1234 : decode cL_law 1234 = .ok (.invokevirtual 131, 3) := by decide +kernel
theorem dL_law_1237 : decode cL_law 1237 = .ok (.istore 21, 2) := by decide +kernel
theorem dL_law_1239 : decode cL_law 1239 = .ok (.aload_n 1, 1) := by decide +kernel
theorem dL_law_1240 : decode cL_law 1240 = .ok (.invokevirtual 84, 3) := by decide +kernel
theorem dL_law_1243 : decode cL_law 1243 = .ok (.istore 22, 2) := by decide +kernel
theorem dL_law_1245 : decode cL_law 1245 = .ok (.aload_n 2, 1) := by decide +kernel
theorem dL_law_1246 : decode cL_law 1246 = .ok (.iconst 1, 1) := by decide +kernel
theorem dL_law_1247 : decode cL_law 1247 = .ok (.iaload, 1) := by decide +kernel
theorem dL_law_1248 : decode cL_law 1248 = .ok (.ifCond .ne 13, 3) := by decide +kernel
theorem dL_law_1251 : decode cL_law 1251 = .ok (.iload 21, 2) := by decide +kernel
theorem dL_law_1253 : decode cL_law 1253 = .ok (.bipush (-9), 2) := by decide +kernel
theorem dL_law_1255 : decode cL_law 1255 = .ok (.if_icmp .eq 33, 3) := by decide +kernel
theorem dL_law_1258 : decode cL_law 1258 = .ok (.goto 28, 3) := by decide +kernel
theorem dL_law_1261 : decode cL_law 1261 = .ok (.iload 21, 2) := by decide +kernel
theorem dL_law_1263 : decode cL_law 1263 = .ok (.ifCond .lt 23, 3) := by decide +kernel
theorem dL_law_1266 : decode cL_law 1266 = .ok (.iload 21, 2) := by decide +kernel
theorem dL_law_1268 : decode cL_law 1268 = .ok (.aload_n 2, 1) := by decide +kernel
theorem dL_law_1269 : decode cL_law 1269 = .ok (.iconst 1, 1) := by decide +kernel
theorem dL_law_1270 : decode cL_law 1270 = .ok (.iaload, 1) := by decide +kernel
theorem dL_law_1271 : decode cL_law 1271 = .ok (.if_icmp .ge 15, 3) := by decide +kernel
theorem dL_law_1274 : decode cL_law 1274 = .ok (.iload 22, 2) := by decide +kernel
theorem dL_law_1276 : decode cL_law 1276 = .ok (.ifCond .lt 10, 3) := by decide +kernel
theorem dL_law_1279 : decode cL_law 1279 = .ok (.iload 22, 2) := by decide +kernel
theorem dL_law_1281 : decode cL_law 1281 = .ok (.iload 17, 2) := by decide +kernel
theorem dL_law_1283 : decode cL_law 1283 = .ok (.if_icmp .le 5, 3) := by decide +kernel
theorem dL_law_1286 : decode cL_law 1286 = .ok (.iconst 0, 1) := by decide +kernel
theorem dL_law_1287 : decode cL_law 1287 = .ok (.ireturn, 1) := by decide +kernel
theorem dL_law_1288 : decode cL_law 1288 = .ok (.iload 10, 2) := by decide +kernel
theorem dL_law_1290 : decode cL_law 1290 = .ok (.iconst 5, 1) := by decide +kernel
theorem dL_law_1291 : decode cL_law 1291 = .ok (.ishr, 1) := by decide +kernel
theorem dL_law_1292 : decode cL_law 1292 = .ok (.iconst 1, 1) := by decide +kernel
theorem dL_law_1293 : decode cL_law 1293 = .ok (.iload 4, 2) := by decide +kernel
theorem dL_law_1295 : decode cL_law 1295 = .ok (.ishl, 1) := by decide +kernel
theorem dL_law_1296 : decode cL_law 1296 = .ok (.invokestatic 15, 3) := by decide +kernel
theorem dL_law_1299 : decode cL_law 1299 = .ok (.istore 23, 2) := by decide +kernel
theorem dL_law_1301 : decode cL_law 1301 = .ok (.aload_n 1, 1) := by decide +kernel
theorem dL_law_1302 : decode cL_law 1302 = .ok (.iload 23, 2) := by decide +kernel
theorem dL_law_1304 : decode cL_law 1304 = .ok (.invokevirtual 134, 3) := by decide +kernel
theorem dL_law_1307 : decode cL_law 1307 = .ok (.istore 24, 2) := by decide +kernel
theorem dL_law_1309 : decode cL_law 1309 = .ok (.aload_n 1, 1) := by decide +kernel
theorem dL_law_1310 : decode cL_law 1310 = .ok (.invokevirtual 84, 3) := by decide +kernel
theorem dL_law_1313 : decode cL_law 1313 = .ok (.istore 25, 2) := by decide +kernel
theorem dL_law_1315 : decode cL_law 1315 = .ok (.aload_n 1, 1) := by decide +kernel
theorem dL_law_1316 : decode cL_law 1316 = .ok (.iload 23, 2) := by decide +kernel
theorem dL_law_1318 : decode cL_law 1318 = .ok (.invokevirtual 137, 3) := by decide +kernel
theorem dL_law_1321 : decode cL_law 1321 = .ok (.istore 26, 2) := by decide +kernel
theorem dL_law_1323 : decode cL_law 1323 = .ok (.aload_n 1, 1) := by decide +kernel
theorem dL_law_1324 : decode cL_law 1324 = .ok (.invokevirtual 84, 3) := by decide +kernel
theorem dL_law_1327 : decode cL_law 1327 = .ok (.istore 27, 2) := by decide +kernel
theorem dL_law_1329 : decode cL_law 1329 = .ok (.aload_n 1, 1) := by decide +kernel
theorem dL_law_1330 : decode cL_law 1330 = .ok (.invokevirtual 140, 3) := by decide +kernel
theorem dL_law_1333 : decode cL_law 1333 = .ok (.istore 28, 2) := by decide +kernel
theorem dL_law_1335 : decode cL_law 1335 = .ok (.iload 24, 2) := by decide +kernel
theorem dL_law_1337 : decode cL_law 1337 = .ok (.bipush (-9), 2) := by decide +kernel
theorem dL_law_1339 : decode cL_law 1339 = .ok (.if_icmp .lt 175, 3) := by decide +kernel
theorem dL_law_1342 : decode cL_law 1342 = .ok (.iload 26, 2) := by decide +kernel
theorem dL_law_1344 : decode cL_law 1344 = .ok (.bipush (-9), 2) := by decide +kernel
theorem dL_law_1346 : decode cL_law 1346 = .ok (.if_icmp .lt 168, 3) := by decide +kernel
theorem dL_law_1349 : decode cL_law 1349 = .ok (.iload 24, 2) := by decide +kernel
theorem dL_law_1351 : decode cL_law 1351 = .ok (.ifCond .ne 7, 3) := by decide +kernel
theorem dL_law_1354 : decode cL_law 1354 = .ok (.iconst 1, 1) := by decide +kernel
theorem dL_law_1355 : decode cL_law 1355 = .ok (.goto 4, 3) := by decide +kernel
theorem dL_law_1358 : decode cL_law 1358 = .ok (.iconst 0, 1) := by decide +kernel
theorem dL_law_1359 : decode cL_law 1359 = .ok (.iload 23, 2) := by decide +kernel
theorem dL_law_1361 : decode cL_law 1361 = .ok (.iload 13, 2) := by decide +kernel
theorem dL_law_1363 : decode cL_law 1363 = .ok (.iconst (-1), 1) := by decide +kernel
theorem dL_law_1364 : decode cL_law 1364 = .ok (.ixor, 1) := by decide +kernel
theorem dL_law_1365 : decode cL_law 1365 = .ok (.iand, 1) := by decide +kernel
theorem dL_law_1366 : decode cL_law 1366 = .ok (.ifCond .ne 7, 3) := by decide +kernel
theorem dL_law_1369 : decode cL_law 1369 = .ok (.iconst 1, 1) := by decide +kernel
theorem dL_law_1370 : decode cL_law 1370 = .ok (.goto 4, 3) := by decide +kernel
theorem dL_law_1373 : decode cL_law 1373 = .ok (.iconst 0, 1) := by decide +kernel
theorem dL_law_1374 : decode cL_law 1374 = .ok (.if_icmp .ne 140, 3) := by decide +kernel
theorem dL_law_1377 : decode cL_law 1377 = .ok (.iload 26, 2) := by decide +kernel
theorem dL_law_1379 : decode cL_law 1379 = .ok (.ifCond .ne 7, 3) := by decide +kernel
theorem dL_law_1382 : decode cL_law 1382 = .ok (.iconst 1, 1) := by decide +kernel
theorem dL_law_1383 : decode cL_law 1383 = .ok (.goto 4, 3) := by decide +kernel
theorem dL_law_1386 : decode cL_law 1386 = .ok (.iconst 0, 1) := by decide +kernel
theorem dL_law_1387 : decode cL_law 1387 = .ok (.iload 23, 2) := by decide +kernel
theorem dL_law_1389 : decode cL_law 1389 = .ok (.iload 13, 2) := by decide +kernel
theorem dL_law_1391 : decode cL_law 1391 = .ok (.iand, 1) := by decide +kernel
theorem dL_law_1392 : decode cL_law 1392 = .ok (.ifCond .ne 7, 3) := by decide +kernel
theorem dL_law_1395 : decode cL_law 1395 = .ok (.iconst 1, 1) := by decide +kernel
theorem dL_law_1396 : decode cL_law 1396 = .ok (.goto 4, 3) := by decide +kernel
theorem dL_law_1399 : decode cL_law 1399 = .ok (.iconst 0, 1) := by decide +kernel
theorem dL_law_1400 : decode cL_law 1400 = .ok (.if_icmp .ne 114, 3) := by decide +kernel
theorem dL_law_1403 : decode cL_law 1403 = .ok (.iload 24, 2) := by decide +kernel
theorem dL_law_1405 : decode cL_law 1405 = .ok (.bipush (-9), 2) := by decide +kernel
theorem dL_law_1407 : decode cL_law 1407 = .ok (.if_icmp .le 8, 3) := by decide +kernel
theorem dL_law_1410 : decode cL_law 1410 = .ok (.iload 24, 2) := by decide +kernel
theorem dL_law_1412 : decode cL_law 1412 = .ok (.ifCond .lt 102, 3) := by decide +kernel
theorem dL_law_1415 : decode cL_law 1415 = .ok (.iload 24, 2) := by decide +kernel
theorem dL_law_1417 : decode cL_law 1417 = .ok (.ifCond .ne 10, 3) := by decide +kernel
theorem dL_law_1420 : decode cL_law 1420 = .ok (.iload 25, 2) := by decide +kernel
theorem dL_law_1422 : decode cL_law 1422 = .ok (.bipush (-9), 2) := by decide +kernel
theorem dL_law_1424 : decode cL_law 1424 = .ok (.if_icmp .ne 90, 3) := by decide +kernel
theorem dL_law_1427 : decode cL_law 1427 = .ok (.iload 26, 2) := by decide +kernel
theorem dL_law_1429 : decode cL_law 1429 = .ok (.ifCond .ne 10, 3) := by decide +kernel
theorem dL_law_1432 : decode cL_law 1432 = .ok (.iload 27, 2) := by decide +kernel
theorem dL_law_1434 : decode cL_law 1434 = .ok (.bipush (-9), 2) := by decide +kernel
theorem dL_law_1436 : decode cL_law 1436 = .ok (.if_icmp .ne 78, 3) := by decide +kernel
theorem dL_law_1439 : decode cL_law 1439 = .ok (.iload 24, 2) := by decide +kernel
theorem dL_law_1441 : decode cL_law 1441 = .ok (.ifCond .lt 18, 3) := by decide +kernel
theorem dL_law_1444 : decode cL_law 1444 = .ok (.iload 23, 2) := by decide +kernel
theorem dL_law_1446 : decode cL_law 1446 = .ok (.iload 13, 2) := by decide +kernel
theorem dL_law_1448 : decode cL_law 1448 = .ok (.iconst (-1), 1) := by decide +kernel
theorem dL_law_1449 : decode cL_law 1449 = .ok (.ixor, 1) := by decide +kernel
theorem dL_law_1450 : decode cL_law 1450 = .ok (.iand, 1) := by decide +kernel
theorem dL_law_1451 : decode cL_law 1451 = .ok (.iload 28, 2) := by decide +kernel
theorem dL_law_1453 : decode cL_law 1453 = .ok (.iconst (-1), 1) := by decide +kernel
theorem dL_law_1454 : decode cL_law 1454 = .ok (.ixor, 1) := by decide +kernel
theorem dL_law_1455 : decode cL_law 1455 = .ok (.iand, 1) := by decide +kernel
theorem dL_law_1456 : decode cL_law 1456 = .ok (.ifCond .ne 58, 3) := by decide +kernel
theorem dL_law_1459 : decode cL_law 1459 = .ok (.iload 26, 2) := by decide +kernel
theorem dL_law_1461 : decode cL_law 1461 = .ok (.ifCond .lt 16, 3) := by decide +kernel
theorem dL_law_1464 : decode cL_law 1464 = .ok (.iload 23, 2) := by decide +kernel
theorem dL_law_1466 : decode cL_law 1466 = .ok (.iload 13, 2) := by decide +kernel
theorem dL_law_1468 : decode cL_law 1468 = .ok (.iand, 1) := by decide +kernel
theorem dL_law_1469 : decode cL_law 1469 = .ok (.iload 28, 2) := by decide +kernel
theorem dL_law_1471 : decode cL_law 1471 = .ok (.iconst (-1), 1) := by decide +kernel
theorem dL_law_1472 : decode cL_law 1472 = .ok (.ixor, 1) := by decide +kernel
theorem dL_law_1473 : decode cL_law 1473 = .ok (.iand, 1) := by decide +kernel
theorem dL_law_1474 : decode cL_law 1474 = .ok (.ifCond .ne 40, 3) := by decide +kernel
theorem dL_law_1477 : decode cL_law 1477 = .ok (.iload 28, 2) := by decide +kernel
theorem dL_law_1479 : decode cL_law 1479 = .ok (.ifCond .lt 35, 3) := by decide +kernel
theorem dL_law_1482 : decode cL_law 1482 = .ok (.iload 28, 2) := by decide +kernel
theorem dL_law_1484 : decode cL_law 1484 = .ok (.iconst 1, 1) := by decide +kernel
theorem dL_law_1485 : decode cL_law 1485 = .ok (.iload 4, 2) := by decide +kernel
theorem dL_law_1487 : decode cL_law 1487 = .ok (.ishl, 1) := by decide +kernel
theorem dL_law_1488 : decode cL_law 1488 = .ok (.if_icmp .ge 26, 3) := by decide +kernel
theorem dL_law_1491 : decode cL_law 1491 = .ok (.iload 28, 2) := by decide +kernel
theorem dL_law_1493 : decode cL_law 1493 = .ok (.ifCond .ne 7, 3) := by decide +kernel
theorem dL_law_1496 : decode cL_law 1496 = .ok (.iconst 1, 1) := by decide +kernel
theorem dL_law_1497 : decode cL_law 1497 = .ok (.goto 4, 3) := by decide +kernel
theorem dL_law_1500 : decode cL_law 1500 = .ok (.iconst 0, 1) := by decide +kernel
theorem dL_law_1501 : decode cL_law 1501 = .ok (.iload 17, 2) := by decide +kernel
theorem dL_law_1503 : decode cL_law 1503 = .ok (.ifCond .ne 7, 3) := by decide +kernel
theorem dL_law_1506 : decode cL_law 1506 = .ok (.iconst 1, 1) := by decide +kernel
theorem dL_law_1507 : decode cL_law 1507 = .ok (.goto 4, 3) := by decide +kernel
theorem dL_law_1510 : decode cL_law 1510 = .ok (.iconst 0, 1) := by decide +kernel
theorem dL_law_1511 : decode cL_law 1511 = .ok (.if_icmp .eq 5, 3) := by decide +kernel
theorem dL_law_1514 : decode cL_law 1514 = .ok (.iconst 0, 1) := by decide +kernel
theorem dL_law_1515 : decode cL_law 1515 = .ok (.ireturn, 1) := by decide +kernel
theorem dL_law_1516 : decode cL_law 1516 = .ok (.iload 24, 2) := by decide +kernel
theorem dL_law_1518 : decode cL_law 1518 = .ok (.ifCond .le 200, 3) := by decide +kernel
theorem dL_law_1521 : decode cL_law 1521 = .ok (.iload 25, 2) := by decide +kernel
theorem dL_law_1523 : decode cL_law 1523 = .ok (.bipush 6, 2) := by decide +kernel
theorem dL_law_1525 : decode cL_law 1525 = .ok (.idiv, 1) := by decide +kernel
theorem dL_law_1526 : decode cL_law 1526 = .ok (.istore 29, 2) := by decide +kernel
theorem dL_law_1528 : decode cL_law 1528 = .ok (.iload 25, 2) := by decide +kernel
theorem dL_law_1530 : decode cL_law 1530 = .ok (.bipush 6, 2) := by decide +kernel
theorem dL_law_1532 : decode cL_law 1532 = .ok (.irem, 1) := by decide +kernel
theorem dL_law_1533 : decode cL_law 1533 = .ok (.istore 30, 2) := by decide +kernel
theorem dL_law_1535 : decode cL_law 1535 = .ok (.bipush 99, 2) := by decide +kernel
theorem dL_law_1537 : decode cL_law 1537 = .ok (.istore 31, 2) := by decide +kernel
theorem dL_law_1539 : decode cL_law 1539 = .ok (.iload 25, 2) := by decide +kernel
theorem dL_law_1541 : decode cL_law 1541 = .ok (.ifCond .lt 33, 3) := by decide +kernel
theorem dL_law_1544 : decode cL_law 1544 = .ok (.iload 29, 2) := by decide +kernel
theorem dL_law_1546 : decode cL_law 1546 = .ok (.iload 30, 2) := by decide +kernel
theorem dL_law_1548 : decode cL_law 1548 = .ok (.if_icmp .ge 26, 3) := by decide +kernel
theorem dL_law_1551 : decode cL_law 1551 = .ok (.iload 30, 2) := by decide +kernel
theorem dL_law_1553 : decode cL_law 1553 = .ok (.iload 4, 2) := by decide +kernel
theorem dL_law_1555 : decode cL_law 1555 = .ok (.if_icmp .ge 19, 3) := by decide +kernel
theorem dL_law_1558 : decode cL_law 1558 = .ok (.aload_n 1, 1) := by decide +kernel
theorem dL_law_1559 : decode cL_law 1559 = .ok (.iload 29, 2) := by decide +kernel
theorem dL_law_1561 : decode cL_law 1561 = .ok (.iconst 4, 1) := by decide +kernel
theorem dL_law_1562 : decode cL_law 1562 = .ok (.invokestatic 107, 3) := by decide +kernel
theorem dL_law_1565 : decode cL_law 1565 = .ok (.iload 30, 2) := by decide +kernel
theorem dL_law_1567 : decode cL_law 1567 = .ok (.ishr, 1) := by decide +kernel
theorem dL_law_1568 : decode cL_law 1568 = .ok (.iconst 1, 1) := by decide +kernel
theorem dL_law_1569 : decode cL_law 1569 = .ok (.iand, 1) := by decide +kernel
theorem dL_law_1570 : decode cL_law 1570 = .ok (.iconst 1, 1) := by decide +kernel
theorem dL_law_1571 : decode cL_law 1571 = .ok (.if_icmp .eq 5, 3) := by decide +kernel
theorem dL_law_1574 : decode cL_law 1574 = .ok (.iconst 0, 1) := by decide +kernel
theorem dL_law_1575 : decode cL_law 1575 = .ok (.ireturn, 1) := by decide +kernel
theorem dL_law_1576 : decode cL_law 1576 = .ok (.iconst 0, 1) := by decide +kernel
theorem dL_law_1577 : decode cL_law 1577 = .ok (.istore 32, 2) := by decide +kernel
theorem dL_law_1579 : decode cL_law 1579 = .ok (.iload 32, 2) := by decide +kernel
theorem dL_law_1581 : decode cL_law 1581 = .ok (.sipush 256, 3) := by decide +kernel
theorem dL_law_1584 : decode cL_law 1584 = .ok (.if_icmp .ge 123, 3) := by decide +kernel
theorem dL_law_1587 : decode cL_law 1587 = .ok (.iload 32, 2) := by decide +kernel
theorem dL_law_1589 : decode cL_law 1589 = .ok (.iconst 4, 1) := by decide +kernel
theorem dL_law_1590 : decode cL_law 1590 = .ok (.ishr, 1) := by decide +kernel
theorem dL_law_1591 : decode cL_law 1591 = .ok (.istore 33, 2) := by decide +kernel
theorem dL_law_1593 : decode cL_law 1593 = .ok (.iload 32, 2) := by decide +kernel
theorem dL_law_1595 : decode cL_law 1595 = .ok (.bipush 15, 2) := by decide +kernel
theorem dL_law_1597 : decode cL_law 1597 = .ok (.iand, 1) := by decide +kernel
theorem dL_law_1598 : decode cL_law 1598 = .ok (.istore 34, 2) := by decide +kernel
theorem dL_law_1600 : decode cL_law 1600 = .ok (.iload 31, 2) := by decide +kernel
theorem dL_law_1602 : decode cL_law 1602 = .ok (.iload 24, 2) := by decide +kernel
theorem dL_law_1604 : decode cL_law 1604 = .ok (.iconst 1, 1) := by decide +kernel
theorem dL_law_1605 : decode cL_law 1605 = .ok (.isub, 1) := by decide +kernel
theorem dL_law_1606 : decode cL_law 1606 = .ok (.if_icmp .eq 95, 3) := by decide +kernel
theorem dL_law_1609 : decode cL_law 1609 = .ok (.iload 33, 2) := by decide +kernel
theorem dL_law_1611 : decode cL_law 1611 = .ok (.iload 6, 2) := by decide +kernel
theorem dL_law_1613 : decode cL_law 1613 = .ok (.if_icmp .gt 88, 3) := by decide +kernel
theorem dL_law_1616 : decode cL_law 1616 = .ok (.iload 34, 2) := by decide +kernel
theorem dL_law_1618 : decode cL_law 1618 = .ok (.iload 6, 2) := by decide +kernel
theorem dL_law_1620 : decode cL_law 1620 = .ok (.if_icmp .gt 81, 3) := by decide +kernel
theorem dL_law_1623 : decode cL_law 1623 = .ok (.iload 33, 2) := by decide +kernel
theorem dL_law_1625 : decode cL_law 1625 = .ok (.iload 34, 2) := by decide +kernel
theorem dL_law_1627 : decode cL_law 1627 = .ok (.iand, 1) := by decide +kernel
theorem dL_law_1628 : decode cL_law 1628 = .ok (.ifCond .ne 73, 3) := by decide +kernel
theorem dL_law_1631 : decode cL_law 1631 = .ok (.aload_n 1, 1) := by decide +kernel
theorem dL_law_1632 : decode cL_law 1632 = .ok (.iload 29, 2) := by decide +kernel
theorem dL_law_1634 : decode cL_law 1634 = .ok (.iload 30, 2) := by decide +kernel
theorem dL_law_1636 : decode cL_law 1636 = .ok (.iload 33, 2) := by decide +kernel
theorem dL_law_1638 : decode cL_law 1638 = .ok (.iload 34, 2) := by decide +kernel
theorem dL_law_1640 : decode cL_law 1640 = .ok (.invokevirtual 78, 3) := by decide +kernel
theorem dL_law_1643 : decode cL_law 1643 = .ok (.ifCond .lt 58, 3) := by decide +kernel
theorem dL_law_1646 : decode cL_law 1646 = .ok (.aload_n 1, 1) := by decide +kernel
theorem dL_law_1647 : decode cL_law 1647 = .ok (.iload 23, 2) := by decide +kernel
theorem dL_law_1649 : decode cL_law 1649 = .ok (.invokevirtual 134, 3) := by decide +kernel
theorem dL_law_1652 : decode cL_law 1652 = .ok (.istore 35, 2) := by decide +kernel
theorem dL_law_1654 : decode cL_law 1654 = .ok (.iload 35, 2) := by decide +kernel
theorem dL_law_1656 : decode cL_law 1656 = .ok (.ifCond .lt 15, 3) := by decide +kernel
theorem dL_law_1659 : decode cL_law 1659 = .ok (.iload 35, 2) := by decide +kernel
theorem dL_law_1661 : decode cL_law 1661 = .ok (.iload 31, 2) := by decide +kernel
theorem dL_law_1663 : decode cL_law 1663 = .ok (.if_icmp .ge 8, 3) := by decide +kernel
theorem dL_law_1666 : decode cL_law 1666 = .ok (.iload 35, 2) := by decide +kernel
theorem dL_law_1668 : decode cL_law 1668 = .ok (.goto 5, 3) := by decide +kernel
theorem dL_law_1671 : decode cL_law 1671 = .ok (.iload 31, 2) := by decide +kernel
theorem dL_law_1673 : decode cL_law 1673 = .ok (.istore 31, 2) := by decide +kernel
theorem dL_law_1675 : decode cL_law 1675 = .ok (.aload_n 1, 1) := by decide +kernel
theorem dL_law_1676 : decode cL_law 1676 = .ok (.iload 11, 2) := by decide +kernel
theorem dL_law_1678 : decode cL_law 1678 = .ok (.invokevirtual 113, 3) := by decide +kernel
theorem dL_law_1681 : decode cL_law 1681 = .ok (.iconst 1, 1) := by decide +kernel
theorem dL_law_1682 : decode cL_law 1682 = .ok (.if_icmp .ne 17, 3) := by decide +kernel
theorem dL_law_1685 : decode cL_law 1685 = .ok (.iload 35, 2) := by decide +kernel
theorem dL_law_1687 : decode cL_law 1687 = .ok (.ifCond .lt 14, 3) := by decide +kernel
theorem dL_law_1690 : decode cL_law 1690 = .ok (.iload 35, 2) := by decide +kernel
theorem dL_law_1692 : decode cL_law 1692 = .ok (.iload 24, 2) := by decide +kernel
theorem dL_law_1694 : decode cL_law 1694 = .ok (.iconst 1, 1) := by decide +kernel
theorem dL_law_1695 : decode cL_law 1695 = .ok (.isub, 1) := by decide +kernel
theorem dL_law_1696 : decode cL_law 1696 = .ok (.if_icmp .ge 5, 3) := by decide +kernel
theorem dL_law_1699 : decode cL_law 1699 = .ok (.iconst 0, 1) := by decide +kernel
theorem dL_law_1700 : decode cL_law 1700 = .ok (.ireturn, 1) := by decide +kernel
theorem dL_law_1701 : decode cL_law 1701 = .ok (.iinc 32 1, 3) := by decide +kernel
theorem dL_law_1704 : decode cL_law 1704 = .ok (.goto (-125), 3) := by decide +kernel
theorem dL_law_1707 : decode cL_law 1707 = .ok (.iload 31, 2) := by decide +kernel
theorem dL_law_1709 : decode cL_law 1709 = .ok (.iload 24, 2) := by decide +kernel
theorem dL_law_1711 : decode cL_law 1711 = .ok (.iconst 1, 1) := by decide +kernel
theorem dL_law_1712 : decode cL_law 1712 = .ok (.isub, 1) := by decide +kernel
theorem dL_law_1713 : decode cL_law 1713 = .ok (.if_icmp .eq 5, 3) := by decide +kernel
theorem dL_law_1716 : decode cL_law 1716 = .ok (.iconst 0, 1) := by decide +kernel
theorem dL_law_1717 : decode cL_law 1717 = .ok (.ireturn, 1) := by decide +kernel
theorem dL_law_1718 : decode cL_law 1718 = .ok (.iconst 0, 1) := by decide +kernel
theorem dL_law_1719 : decode cL_law 1719 = .ok (.istore 29, 2) := by decide +kernel
theorem dL_law_1721 : decode cL_law 1721 = .ok (.iload 29, 2) := by decide +kernel
theorem dL_law_1723 : decode cL_law 1723 = .ok (.iload 4, 2) := by decide +kernel
theorem dL_law_1725 : decode cL_law 1725 = .ok (.if_icmp .ge 32, 3) := by decide +kernel
theorem dL_law_1728 : decode cL_law 1728 = .ok (.aload_n 1, 1) := by decide +kernel
theorem dL_law_1729 : decode cL_law 1729 = .ok (.iload 29, 2) := by decide +kernel
theorem dL_law_1731 : decode cL_law 1731 = .ok (.iconst 4, 1) := by decide +kernel
theorem dL_law_1732 : decode cL_law 1732 = .ok (.invokestatic 107, 3) := by decide +kernel
theorem dL_law_1735 : decode cL_law 1735 = .ok (.ifCond .eq 16, 3) := by decide +kernel
theorem dL_law_1738 : decode cL_law 1738 = .ok (.iload 28, 2) := by decide +kernel
theorem dL_law_1740 : decode cL_law 1740 = .ok (.iload 29, 2) := by decide +kernel
theorem dL_law_1742 : decode cL_law 1742 = .ok (.ishr, 1) := by decide +kernel
theorem dL_law_1743 : decode cL_law 1743 = .ok (.iconst 1, 1) := by decide +kernel
theorem dL_law_1744 : decode cL_law 1744 = .ok (.iand, 1) := by decide +kernel
theorem dL_law_1745 : decode cL_law 1745 = .ok (.iconst 1, 1) := by decide +kernel
theorem dL_law_1746 : decode cL_law 1746 = .ok (.if_icmp .eq 5, 3) := by decide +kernel
theorem dL_law_1749 : decode cL_law 1749 = .ok (.iconst 0, 1) := by decide +kernel
theorem dL_law_1750 : decode cL_law 1750 = .ok (.ireturn, 1) := by decide +kernel
theorem dL_law_1751 : decode cL_law 1751 = .ok (.iinc 29 1, 3) := by decide +kernel
theorem dL_law_1754 : decode cL_law 1754 = .ok (.goto (-33), 3) := by decide +kernel
theorem dL_law_1757 : decode cL_law 1757 = .ok (.iload 10, 2) := by decide +kernel
theorem dL_law_1759 : decode cL_law 1759 = .ok (.bipush 11, 2) := by decide +kernel
theorem dL_law_1761 : decode cL_law 1761 = .ok (.ishr, 1) := by decide +kernel
theorem dL_law_1762 : decode cL_law 1762 = .ok (.iload 4, 2) := by decide +kernel
theorem dL_law_1764 : decode cL_law 1764 = .ok (.invokestatic 15, 3) := by decide +kernel
theorem dL_law_1767 : decode cL_law 1767 = .ok (.istore 29, 2) := by decide +kernel
theorem dL_law_1769 : decode cL_law 1769 = .ok (.iload 29, 2) := by decide +kernel
theorem dL_law_1771 : decode cL_law 1771 = .ok (.iconst 1, 1) := by decide +kernel
theorem dL_law_1772 : decode cL_law 1772 = .ok (.iadd, 1) := by decide +kernel
theorem dL_law_1773 : decode cL_law 1773 = .ok (.iload 10, 2) := by decide +kernel
theorem dL_law_1775 : decode cL_law 1775 = .ok (.bipush 14, 2) := by decide +kernel
theorem dL_law_1777 : decode cL_law 1777 = .ok (.ishr, 1) := by decide +kernel
theorem dL_law_1778 : decode cL_law 1778 = .ok (.iload 4, 2) := by decide +kernel
theorem dL_law_1780 : decode cL_law 1780 = .ok (.iconst 1, 1) := by decide +kernel
theorem dL_law_1781 : decode cL_law 1781 = .ok (.isub, 1) := by decide +kernel
theorem dL_law_1782 : decode cL_law 1782 = .ok (.invokestatic 15, 3) := by decide +kernel
theorem dL_law_1785 : decode cL_law 1785 = .ok (.iadd, 1) := by decide +kernel
theorem dL_law_1786 : decode cL_law 1786 = .ok (.iload 4, 2) := by decide +kernel
theorem dL_law_1788 : decode cL_law 1788 = .ok (.irem, 1) := by decide +kernel
theorem dL_law_1789 : decode cL_law 1789 = .ok (.istore 30, 2) := by decide +kernel
theorem dL_law_1791 : decode cL_law 1791 = .ok (.aload_n 1, 1) := by decide +kernel
theorem dL_law_1792 : decode cL_law 1792 = .ok (.iconst 3, 1) := by decide +kernel
theorem dL_law_1793 : decode cL_law 1793 = .ok (.iconst 2, 1) := by decide +kernel
theorem dL_law_1794 : decode cL_law 1794 = .ok (.invokevirtual 143, 3) := by decide +kernel
theorem dL_law_1797 : decode cL_law 1797 = .ok (.iconst 2, 1) := by decide +kernel
theorem dL_law_1798 : decode cL_law 1798 = .ok (.if_icmp .ne 35, 3) := by decide +kernel
theorem dL_law_1801 : decode cL_law 1801 = .ok (.aload_n 1, 1) := by decide +kernel
theorem dL_law_1802 : decode cL_law 1802 = .ok (.iconst 3, 1) := by decide +kernel
theorem dL_law_1803 : decode cL_law 1803 = .ok (.iconst 0, 1) := by decide +kernel
theorem dL_law_1804 : decode cL_law 1804 = .ok (.iload 30, 2) := by decide +kernel
theorem dL_law_1806 : decode cL_law 1806 = .ok (.invokevirtual 146, 3) := by decide +kernel
theorem dL_law_1809 : decode cL_law 1809 = .ok (.iconst 1, 1) := by decide +kernel
theorem dL_law_1810 : decode cL_law 1810 = .ok (.if_icmp .ne 23, 3) := by decide +kernel
theorem dL_law_1813 : decode cL_law 1813 = .ok (.aload_n 1, 1) := by decide +kernel
theorem dL_law_1814 : decode cL_law 1814 = .ok (.iconst 3, 1) := by decide +kernel
theorem dL_law_1815 : decode cL_law 1815 = .ok (.iconst 1, 1) := by decide +kernel
theorem dL_law_1816 : decode cL_law 1816 = .ok (.aload_n 1, 1) := by decide +kernel
theorem dL_law_1817 : decode cL_law 1817 = .ok (.iload 29, 2) := by decide +kernel
theorem dL_law_1819 : decode cL_law 1819 = .ok (.iload 30, 2) := by decide +kernel
theorem dL_law_1821 : decode cL_law 1821 = .ok (.iconst 0, 1) := by decide +kernel
theorem dL_law_1822 : decode cL_law 1822 = .ok (.iconst 0, 1) := by decide +kernel
theorem dL_law_1823 : decode cL_law 1823 = .ok (.invokevirtual 111, 3) := by decide +kernel
theorem dL_law_1826 : decode cL_law 1826 = .ok (.invokevirtual 146, 3) := by decide +kernel
theorem dL_law_1829 : decode cL_law 1829 = .ok (.iconst 1, 1) := by decide +kernel
theorem dL_law_1830 : decode cL_law 1830 = .ok (.if_icmp .eq 5, 3) := by decide +kernel
theorem dL_law_1833 : decode cL_law 1833 = .ok (.iconst 0, 1) := by decide +kernel
theorem dL_law_1834 : decode cL_law 1834 = .ok (.ireturn, 1) := by decide +kernel
theorem dL_law_1835 : decode cL_law 1835 = .ok (.aload_n 1, 1) := by decide +kernel
theorem dL_law_1836 : decode cL_law 1836 = .ok (.iload 29, 2) := by decide +kernel
theorem dL_law_1838 : decode cL_law 1838 = .ok (.iconst 3, 1) := by decide +kernel
theorem dL_law_1839 : decode cL_law 1839 = .ok (.invokevirtual 149, 3) := by decide +kernel
theorem dL_law_1842 : decode cL_law 1842 = .ok (.istore 31, 2) := by decide +kernel
theorem dL_law_1844 : decode cL_law 1844 = .ok (.aload_n 1, 1) := by decide +kernel
theorem dL_law_1845 : decode cL_law 1845 = .ok (.invokevirtual 84, 3) := by decide +kernel
theorem dL_law_1848 : decode cL_law 1848 = .ok (.istore 32, 2) := by decide +kernel
theorem dL_law_1850 : decode cL_law 1850 = .ok (.aload_n 1, 1) := by decide +kernel
theorem dL_law_1851 : decode cL_law 1851 = .ok (.iload 29, 2) := by decide +kernel
theorem dL_law_1853 : decode cL_law 1853 = .ok (.iconst 3, 1) := by decide +kernel
theorem dL_law_1854 : decode cL_law 1854 = .ok (.invokevirtual 152, 3) := by decide +kernel
theorem dL_law_1857 : decode cL_law 1857 = .ok (.istore 33, 2) := by decide +kernel
theorem dL_law_1859 : decode cL_law 1859 = .ok (.aload_n 1, 1) := by decide +kernel
theorem dL_law_1860 : decode cL_law 1860 = .ok (.iload 29, 2) := by decide +kernel
theorem dL_law_1862 : decode cL_law 1862 = .ok (.iconst 3, 1) := by decide +kernel
theorem dL_law_1863 : decode cL_law 1863 = .ok (.invokevirtual 155, 3) := by decide +kernel
theorem dL_law_1866 : decode cL_law 1866 = .ok (.istore 34, 2) := by decide +kernel
theorem dL_law_1868 : decode cL_law 1868 = .ok (.aload_n 1, 1) := by decide +kernel
theorem dL_law_1869 : decode cL_law 1869 = .ok (.invokevirtual 84, 3) := by decide +kernel
theorem dL_law_1872 : decode cL_law 1872 = .ok (.istore 35, 2) := by decide +kernel
theorem dL_law_1874 : decode cL_law 1874 = .ok (.iload 31, 2) := by decide +kernel
theorem dL_law_1876 : decode cL_law 1876 = .ok (.iconst 1, 1) := by decide +kernel
theorem dL_law_1877 : decode cL_law 1877 = .ok (.if_icmp .lt 86, 3) := by decide +kernel
theorem dL_law_1880 : decode cL_law 1880 = .ok (.iload 31, 2) := by decide +kernel
theorem dL_law_1882 : decode cL_law 1882 = .ok (.bipush 99, 2) := by decide +kernel
theorem dL_law_1884 : decode cL_law 1884 = .ok (.if_icmp .gt 79, 3) := by decide +kernel
theorem dL_law_1887 : decode cL_law 1887 = .ok (.iload 32, 2) := by decide +kernel
theorem dL_law_1889 : decode cL_law 1889 = .ok (.iconst 1, 1) := by decide +kernel
theorem dL_law_1890 : decode cL_law 1890 = .ok (.if_icmp .lt 73, 3) := by decide +kernel
theorem dL_law_1893 : decode cL_law 1893 = .ok (.iload 32, 2) := by decide +kernel
theorem dL_law_1895 : decode cL_law 1895 = .ok (.aload_n 1, 1) := by decide +kernel
theorem dL_law_1896 : decode cL_law 1896 = .ok (.iload 29, 2) := by decide +kernel
theorem dL_law_1898 : decode cL_law 1898 = .ok (.iconst 1, 1) := by decide +kernel
theorem dL_law_1899 : decode cL_law 1899 = .ok (.invokestatic 107, 3) := by decide +kernel
theorem dL_law_1902 : decode cL_law 1902 = .ok (.if_icmp .gt 61, 3) := by decide +kernel
theorem dL_law_1905 : decode cL_law 1905 = .ok (.iload 33, 2) := by decide +kernel
theorem dL_law_1907 : decode cL_law 1907 = .ok (.aload_n 1, 1) := by decide +kernel
theorem dL_law_1908 : decode cL_law 1908 = .ok (.iload 29, 2) := by decide +kernel
theorem dL_law_1910 : decode cL_law 1910 = .ok (.iconst 0, 1) := by decide +kernel
theorem dL_law_1911 : decode cL_law 1911 = .ok (.invokestatic 107, 3) := by decide +kernel
theorem dL_law_1914 : decode cL_law 1914 = .ok (.ishr, 1) := by decide +kernel
theorem dL_law_1915 : decode cL_law 1915 = .ok (.iconst 1, 1) := by decide +kernel
theorem dL_law_1916 : decode cL_law 1916 = .ok (.iand, 1) := by decide +kernel
theorem dL_law_1917 : decode cL_law 1917 = .ok (.iconst 1, 1) := by decide +kernel
theorem dL_law_1918 : decode cL_law 1918 = .ok (.if_icmp .ne 45, 3) := by decide +kernel
theorem dL_law_1921 : decode cL_law 1921 = .ok (.iload 33, 2) := by decide +kernel
theorem dL_law_1923 : decode cL_law 1923 = .ok (.bipush 63, 2) := by decide +kernel
theorem dL_law_1925 : decode cL_law 1925 = .ok (.if_icmp .gt 38, 3) := by decide +kernel
theorem dL_law_1928 : decode cL_law 1928 = .ok (.iload 34, 2) := by decide +kernel
theorem dL_law_1930 : decode cL_law 1930 = .ok (.ifCond .lt 33, 3) := by decide +kernel
theorem dL_law_1933 : decode cL_law 1933 = .ok (.iload 34, 2) := by decide +kernel
theorem dL_law_1935 : decode cL_law 1935 = .ok (.iload 4, 2) := by decide +kernel
theorem dL_law_1937 : decode cL_law 1937 = .ok (.if_icmp .ge 26, 3) := by decide +kernel
theorem dL_law_1940 : decode cL_law 1940 = .ok (.iload 34, 2) := by decide +kernel
theorem dL_law_1942 : decode cL_law 1942 = .ok (.iload 29, 2) := by decide +kernel
theorem dL_law_1944 : decode cL_law 1944 = .ok (.if_icmp .eq 19, 3) := by decide +kernel
theorem dL_law_1947 : decode cL_law 1947 = .ok (.iload 35, 2) := by decide +kernel
theorem dL_law_1949 : decode cL_law 1949 = .ok (.iconst 1, 1) := by decide +kernel
theorem dL_law_1950 : decode cL_law 1950 = .ok (.if_icmp .lt 13, 3) := by decide +kernel
theorem dL_law_1953 : decode cL_law 1953 = .ok (.iload 35, 2) := by decide +kernel
theorem dL_law_1955 : decode cL_law 1955 = .ok (.iload 33, 2) := by decide +kernel
theorem dL_law_1957 : decode cL_law 1957 = .ok (.invokestatic 104, 3) := by decide +kernel
theorem dL_law_1960 : decode cL_law 1960 = .ok (.if_icmp .le 5, 3) := by decide +kernel
theorem dL_law_1963 : decode cL_law 1963 = .ok (.iconst 0, 1) := by decide +kernel
theorem dL_law_1964 : decode cL_law 1964 = .ok (.ireturn, 1) := by decide +kernel
theorem dL_law_1965 : decode cL_law 1965 = .ok (.aload_n 1, 1) := by decide +kernel
theorem dL_law_1966 : decode cL_law 1966 = .ok (.iconst 1, 1) := by decide +kernel
theorem dL_law_1967 : decode cL_law 1967 = .ok (.invokevirtual 158, 3) := by decide +kernel
theorem dL_law_1970 : decode cL_law 1970 = .ok (.istore 36, 2) := by decide +kernel
theorem dL_law_1972 : decode cL_law 1972 = .ok (.aload_n 1, 1) := by decide +kernel
theorem dL_law_1973 : decode cL_law 1973 = .ok (.iconst 2, 1) := by decide +kernel
theorem dL_law_1974 : decode cL_law 1974 = .ok (.invokevirtual 158, 3) := by decide +kernel
theorem dL_law_1977 : decode cL_law 1977 = .ok (.istore 37, 2) := by decide +kernel
theorem dL_law_1979 : decode cL_law 1979 = .ok (.aload_n 1, 1) := by decide +kernel
theorem dL_law_1980 : decode cL_law 1980 = .ok (.iconst 0, 1) := by decide +kernel
theorem dL_law_1981 : decode cL_law 1981 = .ok (.invokevirtual 158, 3) := by decide +kernel
theorem dL_law_1984 : decode cL_law 1984 = .ok (.iload 13, 2) := by decide +kernel
theorem dL_law_1986 : decode cL_law 1986 = .ok (.invokestatic 104, 3) := by decide +kernel
theorem dL_law_1989 : decode cL_law 1989 = .ok (.if_icmp .ne 53, 3) := by decide +kernel
theorem dL_law_1992 : decode cL_law 1992 = .ok (.iload 36, 2) := by decide +kernel
theorem dL_law_1994 : decode cL_law 1994 = .ok (.ifCond .lt 48, 3) := by decide +kernel
theorem dL_law_1997 : decode cL_law 1997 = .ok (.iload 36, 2) := by decide +kernel
theorem dL_law_1999 : decode cL_law 1999 = .ok (.iload 4, 2) := by decide +kernel
theorem dL_law_2001 : decode cL_law 2001 = .ok (.if_icmp .gt 41, 3) := by decide +kernel
theorem dL_law_2004 : decode cL_law 2004 = .ok (.iload 36, 2) := by decide +kernel
theorem dL_law_2006 : decode cL_law 2006 = .ok (.iconst 2, 1) := by decide +kernel
theorem dL_law_2007 : decode cL_law 2007 = .ok (.irem, 1) := by decide +kernel
theorem dL_law_2008 : decode cL_law 2008 = .ok (.ifCond .ne 34, 3) := by decide +kernel
theorem dL_law_2011 : decode cL_law 2011 = .ok (.iload 36, 2) := by decide +kernel
theorem dL_law_2013 : decode cL_law 2013 = .ok (.iload 13, 2) := by decide +kernel
theorem dL_law_2015 : decode cL_law 2015 = .ok (.invokestatic 104, 3) := by decide +kernel
theorem dL_law_2018 : decode cL_law 2018 = .ok (.iconst 2, 1) := by decide +kernel
theorem dL_law_2019 : decode cL_law 2019 = .ok (.iadd, 1) := by decide +kernel
theorem dL_law_2020 : decode cL_law 2020 = .ok (.if_icmp .gt 22, 3) := by decide +kernel
theorem dL_law_2023 : decode cL_law 2023 = .ok (.iload 37, 2) := by decide +kernel
theorem dL_law_2025 : decode cL_law 2025 = .ok (.ifCond .lt 17, 3) := by decide +kernel
theorem dL_law_2028 : decode cL_law 2028 = .ok (.iload 37, 2) := by decide +kernel
theorem dL_law_2030 : decode cL_law 2030 = .ok (.iload 4, 2) := by decide +kernel
theorem dL_law_2032 : decode cL_law 2032 = .ok (.if_icmp .gt 10, 3) := by decide +kernel
theorem dL_law_2035 : decode cL_law 2035 = .ok (.iload 37, 2) := by decide +kernel
theorem dL_law_2037 : decode cL_law 2037 = .ok (.iconst 2, 1) := by decide +kernel
theorem dL_law_2038 : decode cL_law 2038 = .ok (.irem, 1) := by decide +kernel
theorem dL_law_2039 : decode cL_law 2039 = .ok (.ifCond .eq 5, 3) := by decide +kernel
theorem dL_law_2042 : decode cL_law 2042 = .ok (.iconst 0, 1) := by decide +kernel
theorem dL_law_2043 : decode cL_law 2043 = .ok (.ireturn, 1) := by decide +kernel
theorem dL_law_2044 : decode cL_law 2044 = .ok (.iload 10, 2) := by decide +kernel
theorem dL_law_2046 : decode cL_law 2046 = .ok (.bipush 17, 2) := by decide +kernel
theorem dL_law_2048 : decode cL_law 2048 = .ok (.ishr, 1) := by decide +kernel
theorem dL_law_2049 : decode cL_law 2049 = .ok (.bipush 13, 2) := by decide +kernel
theorem dL_law_2051 : decode cL_law 2051 = .ok (.invokestatic 15, 3) := by decide +kernel
theorem dL_law_2054 : decode cL_law 2054 = .ok (.istore 38, 2) := by decide +kernel
theorem dL_law_2056 : decode cL_law 2056 = .ok (.iload 13, 2) := by decide +kernel
theorem dL_law_2058 : decode cL_law 2058 = .ok (.iload 29, 2) := by decide +kernel
theorem dL_law_2060 : decode cL_law 2060 = .ok (.ishr, 1) := by decide +kernel
theorem dL_law_2061 : decode cL_law 2061 = .ok (.iconst 1, 1) := by decide +kernel
theorem dL_law_2062 : decode cL_law 2062 = .ok (.iand, 1) := by decide +kernel
theorem dL_law_2063 : decode cL_law 2063 = .ok (.iload 13, 2) := by decide +kernel
theorem dL_law_2065 : decode cL_law 2065 = .ok (.iload 30, 2) := by decide +kernel
theorem dL_law_2067 : decode cL_law 2067 = .ok (.ishr, 1) := by decide +kernel
theorem dL_law_2068 : decode cL_law 2068 = .ok (.iconst 1, 1) := by decide +kernel
theorem dL_law_2069 : decode cL_law 2069 = .ok (.iand, 1) := by decide +kernel
theorem dL_law_2070 : decode cL_law 2070 = .ok (.if_icmp .ne 7, 3) := by decide +kernel
theorem dL_law_2073 : decode cL_law 2073 = .ok (.iconst 1, 1) := by decide +kernel
theorem dL_law_2074 : decode cL_law 2074 = .ok (.goto 4, 3) := by decide +kernel
theorem dL_law_2077 : decode cL_law 2077 = .ok (.iconst 0, 1) := by decide +kernel
theorem dL_law_2078 : decode cL_law 2078 = .ok (.istore 39, 2) := by decide +kernel
theorem dL_law_2080 : decode cL_law 2080 = .ok (.aload_n 1, 1) := by decide +kernel
theorem dL_law_2081 : decode cL_law 2081 = .ok (.iload 29, 2) := by decide +kernel
theorem dL_law_2083 : decode cL_law 2083 = .ok (.iconst 4, 1) := by decide +kernel
theorem dL_law_2084 : decode cL_law 2084 = .ok (.invokestatic 107, 3) := by decide +kernel
theorem dL_law_2087 : decode cL_law 2087 = .ok (.iload 30, 2) := by decide +kernel
theorem dL_law_2089 : decode cL_law 2089 = .ok (.ishr, 1) := by decide +kernel
theorem dL_law_2090 : decode cL_law 2090 = .ok (.iconst 1, 1) := by decide +kernel
theorem dL_law_2091 : decode cL_law 2091 = .ok (.iand, 1) := by decide +kernel
theorem dL_law_2092 : decode cL_law 2092 = .ok (.iconst 1, 1) := by decide +kernel
theorem dL_law_2093 : decode cL_law 2093 = .ok (.if_icmp .ne 7, 3) := by decide +kernel
theorem dL_law_2096 : decode cL_law 2096 = .ok (.iconst 1, 1) := by decide +kernel
theorem dL_law_2097 : decode cL_law 2097 = .ok (.goto 4, 3) := by decide +kernel
theorem dL_law_2100 : decode cL_law 2100 = .ok (.iconst 0, 1) := by decide +kernel
theorem dL_law_2101 : decode cL_law 2101 = .ok (.istore 40, 2) := by decide +kernel
theorem dL_law_2103 : decode cL_law 2103 = .ok (.aload_n 1, 1) := by decide +kernel
theorem dL_law_2104 : decode cL_law 2104 = .ok (.iload 29, 2) := by decide +kernel
theorem dL_law_2106 : decode cL_law 2106 = .ok (.iload 30, 2) := by decide +kernel
theorem dL_law_2108 : decode cL_law 2108 = .ok (.invokevirtual 116, 3) := by decide +kernel
theorem dL_law_2111 : decode cL_law 2111 = .ok (.istore 41, 2) := by decide +kernel
theorem dL_law_2113 : decode cL_law 2113 = .ok (.aload_n 1, 1) := by decide +kernel
theorem dL_law_2114 : decode cL_law 2114 = .ok (.iload 29, 2) := by decide +kernel
theorem dL_law_2116 : decode cL_law 2116 = .ok (.iload 30, 2) := by decide +kernel
theorem dL_law_2118 : decode cL_law 2118 = .ok (.iconst 0, 1) := by decide +kernel
theorem dL_law_2119 : decode cL_law 2119 = .ok (.invokevirtual 161, 3) := by decide +kernel
theorem dL_law_2122 : decode cL_law 2122 = .ok (.iload 39, 2) := by decide +kernel
theorem dL_law_2124 : decode cL_law 2124 = .ok (.ifCond .eq 7, 3) := by decide +kernel
theorem dL_law_2127 : decode cL_law 2127 = .ok (.iconst 1, 1) := by decide +kernel
theorem dL_law_2128 : decode cL_law 2128 = .ok (.goto 5, 3) := by decide +kernel
theorem dL_law_2131 : decode cL_law 2131 = .ok (.bipush (-4), 2) := by decide +kernel
theorem dL_law_2133 : decode cL_law 2133 = .ok (.if_icmp .ne 232, 3) := by decide +kernel
theorem dL_law_2136 : decode cL_law 2136 = .ok (.iload 39, 2) := by decide +kernel
theorem dL_law_2138 : decode cL_law 2138 = .ok (.ifCond .eq 229, 3) := by decide +kernel
theorem dL_law_2141 : decode cL_law 2141 = .ok (.aload_n 1, 1) := by decide +kernel
theorem dL_law_2142 : decode cL_law 2142 = .ok (.invokevirtual 164, 3) := by decide +kernel
theorem dL_law_2145 : decode cL_law 2145 = .ok (.iload 40, 2) := by decide +kernel
theorem dL_law_2147 : decode cL_law 2147 = .ok (.ifCond .eq 7, 3) := by decide +kernel
theorem dL_law_2150 : decode cL_law 2150 = .ok (.lconst 1, 1) := by decide +kernel
theorem dL_law_2151 : decode cL_law 2151 = .ok (.goto 4, 3) := by decide +kernel
theorem dL_law_2154 : decode cL_law 2154 = .ok (.lconst 0, 1) := by decide +kernel
theorem dL_law_2155 : decode cL_law 2155 = .ok (.lcmp, 1) := by decide +kernel
theorem dL_law_2156 : decode cL_law 2156 = .ok (.ifCond .ne 209, 3) := by decide +kernel
theorem dL_law_2159 : decode cL_law 2159 = .ok (.aload_n 1, 1) := by decide +kernel
theorem dL_law_2160 : decode cL_law 2160 = .ok (.invokevirtual 167, 3) := by decide +kernel
theorem dL_law_2163 : decode cL_law 2163 = .ok (.lconst 1, 1) := by decide +kernel
theorem dL_law_2164 : decode cL_law 2164 = .ok (.lcmp, 1) := by decide +kernel
theorem dL_law_2165 : decode cL_law 2165 = .ok (.ifCond .ne 200, 3) := by decide +kernel
theorem dL_law_2168 : decode cL_law 2168 = .ok (.aload_n 1, 1) := by decide +kernel
theorem dL_law_2169 : decode cL_law 2169 = .ok (.iload 29, 2) := by decide +kernel
theorem dL_law_2171 : decode cL_law 2171 = .ok (.iload 30, 2) := by decide +kernel
theorem dL_law_2173 : decode cL_law 2173 = .ok (.bipush 12, 2) := by decide +kernel
theorem dL_law_2175 : decode cL_law 2175 = .ok (.invokevirtual 161, 3) := by decide +kernel
theorem dL_law_2178 : decode cL_law 2178 = .ok (.iconst 1, 1) := by decide +kernel
theorem dL_law_2179 : decode cL_law 2179 = .ok (.if_icmp .ne 186, 3) := by decide +kernel
theorem dL_law_2182 : decode cL_law 2182 = .ok (.aload_n 1, 1) := by decide +kernel
theorem dL_law_2183 : decode cL_law 2183 = .ok (.invokevirtual 164, 3) := by decide +kernel
theorem dL_law_2186 : decode cL_law 2186 = .ok (.aload_n 1, 1) := by decide +kernel
theorem dL_law_2187 : decode cL_law 2187 = .ok (.iload 29, 2) := by decide +kernel
theorem dL_law_2189 : decode cL_law 2189 = .ok (.iload 30, 2) := by decide +kernel
theorem dL_law_2191 : decode cL_law 2191 = .ok (.iconst 0, 1) := by decide +kernel
theorem dL_law_2192 : decode cL_law 2192 = .ok (.iconst 0, 1) := by decide +kernel
theorem dL_law_2193 : decode cL_law 2193 = .ok (.invokevirtual 111, 3) := by decide +kernel
theorem dL_law_2196 : decode cL_law 2196 = .ok (.iload 5, 2) := by decide +kernel
theorem dL_law_2198 : decode cL_law 2198 = .ok (.if_icmp .gt 7, 3) := by decide +kernel
theorem dL_law_2201 : decode cL_law 2201 = .ok (.lconst 1, 1) := by decide +kernel
theorem dL_law_2202 : decode cL_law 2202 = .ok (.goto 4, 3) := by decide +kernel
theorem dL_law_2205 : decode cL_law 2205 = .ok (.lconst 0, 1) := by decide +kernel
theorem dL_law_2206 : decode cL_law 2206 = .ok (.lcmp, 1) := by decide +kernel
theorem dL_law_2207 : decode cL_law 2207 = .ok (.ifCond .ne 158, 3) := by decide +kernel
theorem dL_law_2210 : decode cL_law 2210 = .ok (.aload_n 1, 1) := by decide +kernel
theorem dL_law_2211 : decode cL_law 2211 = .ok (.iload 29, 2) := by decide +kernel
theorem dL_law_2213 : decode cL_law 2213 = .ok (.iload 30, 2) := by decide +kernel
theorem dL_law_2215 : decode cL_law 2215 = .ok (.iload 38, 2) := by decide +kernel
theorem dL_law_2217 : decode cL_law 2217 = .ok (.invokevirtual 161, 3) := by decide +kernel
theorem dL_law_2220 : decode cL_law 2220 = .ok (.iconst 1, 1) := by decide +kernel
theorem dL_law_2221 : decode cL_law 2221 = .ok (.if_icmp .ne 144, 3) := by decide +kernel
theorem dL_law_2224 : decode cL_law 2224 = .ok (.aload_n 1, 1) := by decide +kernel
theorem dL_law_2225 : decode cL_law 2225 = .ok (.invokevirtual 164, 3) := by decide +kernel
theorem dL_law_2228 : decode cL_law 2228 = .ok (.lconst 0, 1) := by decide +kernel
theorem dL_law_2229 : decode cL_law 2229 = .ok (.lcmp, 1) := by decide +kernel
theorem dL_law_2230 : decode cL_law 2230 = .ok (.ifCond .lt 135, 3) := by decide +kernel
theorem dL_law_2233 : decode cL_law 2233 = .ok (.aload_n 1, 1) := by decide +kernel
theorem dL_law_2234 : decode cL_law 2234 = .ok (.invokevirtual 164, 3) := by decide +kernel
theorem dL_law_2237 : decode cL_law 2237 = .ok (.aload_n 1, 1) := by decide +kernel
theorem dL_law_2238 : decode cL_law 2238 = .ok (.invokevirtual 167, 3) := by decide +kernel
theorem dL_law_2241 : decode cL_law 2241 = .ok (.lcmp, 1) := by decide +kernel
theorem dL_law_2242 : decode cL_law 2242 = .ok (.ifCond .gt 123, 3) := by decide +kernel
theorem dL_law_2245 : decode cL_law 2245 = .ok (.aload_n 1, 1) := by decide +kernel
theorem dL_law_2246 : decode cL_law 2246 = .ok (.iload 29, 2) := by decide +kernel
theorem dL_law_2248 : decode cL_law 2248 = .ok (.iload 30, 2) := by decide +kernel
theorem dL_law_2250 : decode cL_law 2250 = .ok (.iconst 0, 1) := by decide +kernel
theorem dL_law_2251 : decode cL_law 2251 = .ok (.invokevirtual 170, 3) := by decide +kernel
theorem dL_law_2254 : decode cL_law 2254 = .ok (.iconst 1, 1) := by decide +kernel
theorem dL_law_2255 : decode cL_law 2255 = .ok (.if_icmp .ne 110, 3) := by decide +kernel
theorem dL_law_2258 : decode cL_law 2258 = .ok (.aload_n 1, 1) := by decide +kernel
theorem dL_law_2259 : decode cL_law 2259 = .ok (.invokevirtual 164, 3) := by decide +kernel
theorem dL_law_2262 : decode cL_law 2262 = .ok (.iload 41, 2) := by decide +kernel
theorem dL_law_2264 : decode cL_law 2264 = .ok (.i2l, 1) := by decide +kernel
theorem dL_law_2265 : decode cL_law 2265 = .ok (.lcmp, 1) := by decide +kernel
theorem dL_law_2266 : decode cL_law 2266 = .ok (.ifCond .ne 99, 3) := by decide +kernel
theorem dL_law_2269 : decode cL_law 2269 = .ok (.aload_n 1, 1) := by decide +kernel
theorem dL_law_2270 : decode cL_law 2270 = .ok (.invokevirtual 167, 3) := by decide +kernel
theorem dL_law_2273 : decode cL_law 2273 = .ok (.lconst 1, 1) := by decide +kernel
theorem dL_law_2274 : decode cL_law 2274 = .ok (.lcmp, 1) := by decide +kernel
theorem dL_law_2275 : decode cL_law 2275 = .ok (.ifCond .ne 90, 3) := by decide +kernel
theorem dL_law_2278 : decode cL_law 2278 = .ok (.aload_n 1, 1) := by decide +kernel
theorem dL_law_2279 : decode cL_law 2279 = .ok (.iload 29, 2) := by decide +kernel
theorem dL_law_2281 : decode cL_law 2281 = .ok (.iload 30, 2) := by decide +kernel
theorem dL_law_2283 : decode cL_law 2283 = .ok (.bipush 12, 2) := by decide +kernel
theorem dL_law_2285 : decode cL_law 2285 = .ok (.invokevirtual 170, 3) := by decide +kernel
theorem dL_law_2288 : decode cL_law 2288 = .ok (.iconst 1, 1) := by decide +kernel
theorem dL_law_2289 : decode cL_law 2289 = .ok (.if_icmp .ne 76, 3) := by decide +kernel
theorem dL_law_2292 : decode cL_law 2292 = .ok (.aload_n 1, 1) := by decide +kernel
theorem dL_law_2293 : decode cL_law 2293 = .ok (.invokevirtual 164, 3) := by decide +kernel
theorem dL_law_2296 : decode cL_law 2296 = .ok (.aload_n 1, 1) := by decide +kernel
theorem dL_law_2297 : decode cL_law 2297 = .ok (.iload 29, 2) := by decide +kernel
theorem dL_law_2299 : decode cL_law 2299 = .ok (.iload 30, 2) := by decide +kernel
theorem dL_law_2301 : decode cL_law 2301 = .ok (.iconst 0, 1) := by decide +kernel
theorem dL_law_2302 : decode cL_law 2302 = .ok (.iconst 0, 1) := by decide +kernel
theorem dL_law_2303 : decode cL_law 2303 = .ok (.invokevirtual 111, 3) := by decide +kernel
theorem dL_law_2306 : decode cL_law 2306 = .ok (.i2l, 1) := by decide +kernel
theorem dL_law_2307 : decode cL_law 2307 = .ok (.lcmp, 1) := by decide +kernel
theorem dL_law_2308 : decode cL_law 2308 = .ok (.ifCond .ne 57, 3) := by decide +kernel
theorem dL_law_2311 : decode cL_law 2311 = .ok (.aload_n 1, 1) := by decide +kernel
theorem dL_law_2312 : decode cL_law 2312 = .ok (.iload 29, 2) := by decide +kernel
theorem dL_law_2314 : decode cL_law 2314 = .ok (.iload 30, 2) := by decide +kernel
theorem dL_law_2316 : decode cL_law 2316 = .ok (.iload 38, 2) := by decide +kernel
theorem dL_law_2318 : decode cL_law 2318 = .ok (.invokevirtual 170, 3) := by decide +kernel
theorem dL_law_2321 : decode cL_law 2321 = .ok (.iconst 1, 1) := by decide +kernel
theorem dL_law_2322 : decode cL_law 2322 = .ok (.if_icmp .ne 43, 3) := by decide +kernel
theorem dL_law_2325 : decode cL_law 2325 = .ok (.aload_n 1, 1) := by decide +kernel
theorem dL_law_2326 : decode cL_law 2326 = .ok (.invokevirtual 164, 3) := by decide +kernel
theorem dL_law_2329 : decode cL_law 2329 = .ok (.iload 41, 2) := by decide +kernel
theorem dL_law_2331 : decode cL_law 2331 = .ok (.i2l, 1) := by decide +kernel
theorem dL_law_2332 : decode cL_law 2332 = .ok (.aload_n 1, 1) := by decide +kernel
theorem dL_law_2333 : decode cL_law 2333 = .ok (.invokevirtual 167, 3) := by decide +kernel
theorem dL_law_2336 : decode cL_law 2336 = .ok (.lmul, 1) := by decide +kernel
theorem dL_law_2337 : decode cL_law 2337 = .ok (.lcmp, 1) := by decide +kernel
theorem dL_law_2338 : decode cL_law 2338 = .ok (.ifCond .lt 27, 3) := by decide +kernel
theorem dL_law_2341 : decode cL_law 2341 = .ok (.aload_n 1, 1) := by decide +kernel
theorem dL_law_2342 : decode cL_law 2342 = .ok (.invokevirtual 164, 3) := by decide +kernel
theorem dL_law_2345 : decode cL_law 2345 = .ok (.aload_n 1, 1) := by decide +kernel
theorem dL_law_2346 : decode cL_law 2346 = .ok (.iload 29, 2) := by decide +kernel
theorem dL_law_2348 : decode cL_law 2348 = .ok (.iload 30, 2) := by decide +kernel
theorem dL_law_2350 : decode cL_law 2350 = .ok (.iconst 0, 1) := by decide +kernel
theorem dL_law_2351 : decode cL_law 2351 = .ok (.iconst 0, 1) := by decide +kernel
theorem dL_law_2352 : decode cL_law 2352 = .ok (.invokevirtual 111, 3) := by decide +kernel
theorem dL_law_2355 : decode cL_law 2355 = .ok (.i2l, 1) := by decide +kernel
theorem dL_law_2356 : decode cL_law 2356 = .ok (.aload_n 1, 1) := by decide +kernel
theorem dL_law_2357 : decode cL_law 2357 = .ok (.invokevirtual 167, 3) := by decide +kernel
theorem dL_law_2360 : decode cL_law 2360 = .ok (.lmul, 1) := by decide +kernel
theorem dL_law_2361 : decode cL_law 2361 = .ok (.lcmp, 1) := by decide +kernel
theorem dL_law_2362 : decode cL_law 2362 = .ok (.ifCond .le 5, 3) := by decide +kernel
theorem dL_law_2365 : decode cL_law 2365 = .ok (.iconst 0, 1) := by decide +kernel
theorem dL_law_2366 : decode cL_law 2366 = .ok (.ireturn, 1) := by decide +kernel
theorem dL_law_2367 : decode cL_law 2367 = .ok (.aload_n 1, 1) := by decide +kernel
theorem dL_law_2368 : decode cL_law 2368 = .ok (.iconst 4, 1) := by decide +kernel
theorem dL_law_2369 : decode cL_law 2369 = .ok (.iconst 1, 1) := by decide +kernel
theorem dL_law_2370 : decode cL_law 2370 = .ok (.iload 10, 2) := by decide +kernel
theorem dL_law_2372 : decode cL_law 2372 = .ok (.ldc 173, 2) := by decide +kernel
theorem dL_law_2374 : decode cL_law 2374 = .ok (.iand, 1) := by decide +kernel
theorem dL_law_2375 : decode cL_law 2375 = .ok (.iadd, 1) := by decide +kernel
theorem dL_law_2376 : decode cL_law 2376 = .ok (.invokevirtual 174, 3) := by decide +kernel
theorem dL_law_2379 : decode cL_law 2379 = .ok (.istore 42, 2) := by decide +kernel
theorem dL_law_2381 : decode cL_law 2381 = .ok (.iload 42, 2) := by decide +kernel
theorem dL_law_2383 : decode cL_law 2383 = .ok (.ifCond .lt 97, 3) := by decide +kernel
theorem dL_law_2386 : decode cL_law 2386 = .ok (.iload 42, 2) := by decide +kernel
theorem dL_law_2388 : decode cL_law 2388 = .ok (.iload 4, 2) := by decide +kernel
theorem dL_law_2390 : decode cL_law 2390 = .ok (.if_icmp .gt 90, 3) := by decide +kernel
theorem dL_law_2393 : decode cL_law 2393 = .ok (.iload 42, 2) := by decide +kernel
theorem dL_law_2395 : decode cL_law 2395 = .ok (.aload_n 1, 1) := by decide +kernel
theorem dL_law_2396 : decode cL_law 2396 = .ok (.iconst 4, 1) := by decide +kernel
theorem dL_law_2397 : decode cL_law 2397 = .ok (.invokevirtual 102, 3) := by decide +kernel
theorem dL_law_2400 : decode cL_law 2400 = .ok (.invokestatic 104, 3) := by decide +kernel
theorem dL_law_2403 : decode cL_law 2403 = .ok (.if_icmp .ne 77, 3) := by decide +kernel
theorem dL_law_2406 : decode cL_law 2406 = .ok (.aload_n 1, 1) := by decide +kernel
theorem dL_law_2407 : decode cL_law 2407 = .ok (.iconst 2, 1) := by decide +kernel
theorem dL_law_2408 : decode cL_law 2408 = .ok (.invokevirtual 102, 3) := by decide +kernel
theorem dL_law_2411 : decode cL_law 2411 = .ok (.iload 11, 2) := by decide +kernel
theorem dL_law_2413 : decode cL_law 2413 = .ok (.iconst 4, 1) := by decide +kernel
theorem dL_law_2414 : decode cL_law 2414 = .ok (.iadd, 1) := by decide +kernel
theorem dL_law_2415 : decode cL_law 2415 = .ok (.if_icmp .ne 65, 3) := by decide +kernel
theorem dL_law_2418 : decode cL_law 2418 = .ok (.aload_n 1, 1) := by decide +kernel
theorem dL_law_2419 : decode cL_law 2419 = .ok (.bipush 7, 2) := by decide +kernel
theorem dL_law_2421 : decode cL_law 2421 = .ok (.invokevirtual 102, 3) := by decide +kernel
theorem dL_law_2424 : decode cL_law 2424 = .ok (.iload 15, 2) := by decide +kernel
theorem dL_law_2426 : decode cL_law 2426 = .ok (.if_icmp .lt 54, 3) := by decide +kernel
theorem dL_law_2429 : decode cL_law 2429 = .ok (.aload_n 1, 1) := by decide +kernel
theorem dL_law_2430 : decode cL_law 2430 = .ok (.iload 11, 2) := by decide +kernel
theorem dL_law_2432 : decode cL_law 2432 = .ok (.invokevirtual 113, 3) := by decide +kernel
theorem dL_law_2435 : decode cL_law 2435 = .ok (.iconst 4, 1) := by decide +kernel
theorem dL_law_2436 : decode cL_law 2436 = .ok (.if_icmp .ne 44, 3) := by decide +kernel
theorem dL_law_2439 : decode cL_law 2439 = .ok (.aload_n 1, 1) := by decide +kernel
theorem dL_law_2440 : decode cL_law 2440 = .ok (.iconst 3, 1) := by decide +kernel
theorem dL_law_2441 : decode cL_law 2441 = .ok (.invokevirtual 102, 3) := by decide +kernel
theorem dL_law_2444 : decode cL_law 2444 = .ok (.iload 12, 2) := by decide +kernel
theorem dL_law_2446 : decode cL_law 2446 = .ok (.if_icmp .ne 34, 3) := by decide +kernel
theorem dL_law_2449 : decode cL_law 2449 = .ok (.aload_n 1, 1) := by decide +kernel
theorem dL_law_2450 : decode cL_law 2450 = .ok (.iconst 4, 1) := by decide +kernel
theorem dL_law_2451 : decode cL_law 2451 = .ok (.invokevirtual 102, 3) := by decide +kernel
theorem dL_law_2454 : decode cL_law 2454 = .ok (.iload 13, 2) := by decide +kernel
theorem dL_law_2456 : decode cL_law 2456 = .ok (.if_icmp .ne 24, 3) := by decide +kernel
theorem dL_law_2459 : decode cL_law 2459 = .ok (.aload_n 1, 1) := by decide +kernel
theorem dL_law_2460 : decode cL_law 2460 = .ok (.iconst 5, 1) := by decide +kernel
theorem dL_law_2461 : decode cL_law 2461 = .ok (.invokevirtual 102, 3) := by decide +kernel
theorem dL_law_2464 : decode cL_law 2464 = .ok (.iload 14, 2) := by decide +kernel
theorem dL_law_2466 : decode cL_law 2466 = .ok (.if_icmp .ne 14, 3) := by decide +kernel
theorem dL_law_2469 : decode cL_law 2469 = .ok (.aload_n 1, 1) := by decide +kernel
theorem dL_law_2470 : decode cL_law 2470 = .ok (.bipush 7, 2) := by decide +kernel
theorem dL_law_2472 : decode cL_law 2472 = .ok (.invokevirtual 102, 3) := by decide +kernel
theorem dL_law_2475 : decode cL_law 2475 = .ok (.iload 15, 2) := by decide +kernel
theorem dL_law_2477 : decode cL_law 2477 = .ok (.if_icmp .eq 5, 3) := by decide +kernel
theorem dL_law_2480 : decode cL_law 2480 = .ok (.iconst 0, 1) := by decide +kernel
theorem dL_law_2481 : decode cL_law 2481 = .ok (.ireturn, 1) := by decide +kernel
theorem dL_law_2482 : decode cL_law 2482 = .ok (.iinc 9 1, 3) := by decide +kernel
theorem dL_law_2485 : decode cL_law 2485 = .ok (.goto (-2418), 3) := by decide +kernel
theorem dL_law_2488 : decode cL_law 2488 = .ok (.aload_n 1, 1) := by decide +kernel
theorem dL_law_2489 : decode cL_law 2489 = .ok (.iconst 2, 1) := by decide +kernel
theorem dL_law_2490 : decode cL_law 2490 = .ok (.invokevirtual 102, 3) := by decide +kernel
theorem dL_law_2493 : decode cL_law 2493 = .ok (.istore 9, 2) := by decide +kernel
theorem dL_law_2495 : decode cL_law 2495 = .ok (.aload_n 1, 1) := by decide +kernel
theorem dL_law_2496 : decode cL_law 2496 = .ok (.iconst 1, 1) := by decide +kernel
theorem dL_law_2497 : decode cL_law 2497 = .ok (.invokevirtual 95, 3) := by decide +kernel
theorem dL_law_2500 : decode cL_law 2500 = .ok (.iload 9, 2) := by decide +kernel
theorem dL_law_2502 : decode cL_law 2502 = .ok (.if_icmp .ne 48, 3) := by decide +kernel
theorem dL_law_2505 : decode cL_law 2505 = .ok (.aload_n 1, 1) := by decide +kernel
theorem dL_law_2506 : decode cL_law 2506 = .ok (.iconst 0, 1) := by decide +kernel
theorem dL_law_2507 : decode cL_law 2507 = .ok (.invokevirtual 177, 3) := by decide +kernel
theorem dL_law_2510 : decode cL_law 2510 = .ok (.ifCond .ne 40, 3) := by decide +kernel
theorem dL_law_2513 : decode cL_law 2513 = .ok (.aload_n 1, 1) := by decide +kernel
theorem dL_law_2514 : decode cL_law 2514 = .ok (.iconst 4, 1) := by decide +kernel
theorem dL_law_2515 : decode cL_law 2515 = .ok (.invokevirtual 102, 3) := by decide +kernel
theorem dL_law_2518 : decode cL_law 2518 = .ok (.ifCond .ne 32, 3) := by decide +kernel
theorem dL_law_2521 : decode cL_law 2521 = .ok (.aload_n 1, 1) := by decide +kernel
theorem dL_law_2522 : decode cL_law 2522 = .ok (.iconst 1, 1) := by decide +kernel
theorem dL_law_2523 : decode cL_law 2523 = .ok (.invokevirtual 177, 3) := by decide +kernel
theorem dL_law_2526 : decode cL_law 2526 = .ok (.iload 9, 2) := by decide +kernel
theorem dL_law_2528 : decode cL_law 2528 = .ok (.if_icmp .ne 22, 3) := by decide +kernel
theorem dL_law_2531 : decode cL_law 2531 = .ok (.aload_n 1, 1) := by decide +kernel
theorem dL_law_2532 : decode cL_law 2532 = .ok (.iconst 0, 1) := by decide +kernel
theorem dL_law_2533 : decode cL_law 2533 = .ok (.invokevirtual 113, 3) := by decide +kernel
theorem dL_law_2536 : decode cL_law 2536 = .ok (.iload 9, 2) := by decide +kernel
theorem dL_law_2538 : decode cL_law 2538 = .ok (.if_icmp .ne 12, 3) := by decide +kernel
theorem dL_law_2541 : decode cL_law 2541 = .ok (.aload_n 1, 1) := by decide +kernel
theorem dL_law_2542 : decode cL_law 2542 = .ok (.bipush 7, 2) := by decide +kernel
theorem dL_law_2544 : decode cL_law 2544 = .ok (.invokevirtual 102, 3) := by decide +kernel
theorem dL_law_2547 : decode cL_law 2547 = .ok (.ifCond .eq 5, 3) := by decide +kernel
theorem dL_law_2550 : decode cL_law 2550 = .ok (.iconst 0, 1) := by decide +kernel
theorem dL_law_2551 : decode cL_law 2551 = .ok (.ireturn, 1) := by decide +kernel
theorem dL_law_2552 : decode cL_law 2552 = .ok (.iconst 0, 1) := by decide +kernel
theorem dL_law_2553 : decode cL_law 2553 = .ok (.istore 10, 2) := by decide +kernel
theorem dL_law_2555 : decode cL_law 2555 = .ok (.iload 10, 2) := by decide +kernel
theorem dL_law_2557 : decode cL_law 2557 = .ok (.bipush 6, 2) := by decide +kernel
theorem dL_law_2559 : decode cL_law 2559 = .ok (.if_icmp .ge 32, 3) := by decide +kernel
theorem dL_law_2562 : decode cL_law 2562 = .ok (.aload_n 1, 1) := by decide +kernel
theorem dL_law_2563 : decode cL_law 2563 = .ok (.iload 10, 2) := by decide +kernel
theorem dL_law_2565 : decode cL_law 2565 = .ok (.invokevirtual 180, 3) := by decide +kernel
theorem dL_law_2568 : decode cL_law 2568 = .ok (.istore 11, 2) := by decide +kernel
theorem dL_law_2570 : decode cL_law 2570 = .ok (.iload 11, 2) := by decide +kernel
theorem dL_law_2572 : decode cL_law 2572 = .ok (.iconst 1, 1) := by decide +kernel
theorem dL_law_2573 : decode cL_law 2573 = .ok (.if_icmp .eq 12, 3) := by decide +kernel
theorem dL_law_2576 : decode cL_law 2576 = .ok (.iload 11, 2) := by decide +kernel
theorem dL_law_2578 : decode cL_law 2578 = .ok (.bipush (-3), 2) := by decide +kernel
theorem dL_law_2580 : decode cL_law 2580 = .ok (.if_icmp .eq 5, 3) := by decide +kernel
theorem dL_law_2583 : decode cL_law 2583 = .ok (.iconst 0, 1) := by decide +kernel
theorem dL_law_2584 : decode cL_law 2584 = .ok (.ireturn, 1) := by decide +kernel
theorem dL_law_2585 : decode cL_law 2585 = .ok (.iinc 10 1, 3) := by decide +kernel
theorem dL_law_2588 : decode cL_law 2588 = .ok (.goto (-33), 3) := by decide +kernel
theorem dL_law_2591 : decode cL_law 2591 = .ok (.aload_n 1, 1) := by decide +kernel
theorem dL_law_2592 : decode cL_law 2592 = .ok (.iconst 0, 1) := by decide +kernel
theorem dL_law_2593 : decode cL_law 2593 = .ok (.invokevirtual 35, 3) := by decide +kernel
theorem dL_law_2596 : decode cL_law 2596 = .ok (.iload 4, 2) := by decide +kernel
theorem dL_law_2598 : decode cL_law 2598 = .ok (.if_icmp .ne 17, 3) := by decide +kernel
theorem dL_law_2601 : decode cL_law 2601 = .ok (.aload_n 1, 1) := by decide +kernel
theorem dL_law_2602 : decode cL_law 2602 = .ok (.invokevirtual 91, 3) := by decide +kernel
theorem dL_law_2605 : decode cL_law 2605 = .ok (.lload 7, 2) := by decide +kernel
theorem dL_law_2607 : decode cL_law 2607 = .ok (.lcmp, 1) := by decide +kernel
theorem dL_law_2608 : decode cL_law 2608 = .ok (.ifCond .ne 7, 3) := by decide +kernel
theorem dL_law_2611 : decode cL_law 2611 = .ok (.iconst 1, 1) := by decide +kernel
theorem dL_law_2612 : decode cL_law 2612 = .ok (.goto 4, 3) := by decide +kernel
theorem dL_law_2615 : decode cL_law 2615 = .ok (.iconst 0, 1) := by decide +kernel
theorem dL_law_2616 : decode cL_law 2616 = .ok (.ireturn, 1) := by decide +kernel
