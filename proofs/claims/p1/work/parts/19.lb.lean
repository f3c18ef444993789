theorem dd_law_0 : decode code 0 = .ok (.new 8, 3) := by decide +kernel
theorem dd_law_3 : decode code 3 = .ok (.dup, 1) := by decide +kernel
theorem dd_law_4 : decode code 4 = .ok (.invokespecial 40, 3) := by decide +kernel
theorem dd_law_7 : decode code 7 = .ok (.astore_n 1, 1) := by decide +kernel
theorem dd_law_8 : decode code 8 = .ok (.new 41, 3) := by decide +kernel
theorem dd_law_11 : decode code 11 = .ok (.dup, 1) := by decide +kernel
theorem dd_law_12 : decode code 12 = .ok (.invokespecial 43, 3) := by decide +kernel
theorem dd_law_15 : decode code 15 = .ok (.astore_n 2, 1) := by decide +kernel
theorem dd_law_16 : decode code 16 = .ok (.iconst 1, 1) := by decide +kernel
theorem dd_law_17 : decode code 17 = .ok (.newarray .long, 2) := by decide +kernel
theorem dd_law_19 : decode code 19 = .ok (.astore_n 3, 1) := by decide +kernel
theorem dd_law_20 : decode code 20 = .ok (.iconst 0, 1) := by decide +kernel
theorem dd_law_21 : decode code 21 = .ok (.istore 4, 2) := by decide +kernel
theorem dd_law_23 : decode code 23 = .ok (.iload 4, 2) := by decide +kernel
theorem dd_law_25 : decode code 25 = .ok (.aload_n 0, 1) := by decide +kernel
theorem dd_law_26 : decode code 26 = .ok (.arraylength, 1) := by decide +kernel
theorem dd_law_27 : decode code 27 = .ok (.iconst 4, 1) := by decide +kernel
theorem dd_law_28 : decode code 28 = .ok (.isub, 1) := by decide +kernel
theorem dd_law_29 : decode code 29 = .ok (.if_icmp .gt 540, 3) := by decide +kernel
theorem dd_law_32 : decode code 32 = .ok (.aload_n 0, 1) := by decide +kernel
theorem dd_law_33 : decode code 33 = .ok (.iload 4, 2) := by decide +kernel
theorem dd_law_35 : decode code 35 = .ok (.iaload, 1) := by decide +kernel
theorem dd_law_36 : decode code 36 = .ok (.bipush 7, 2) := by decide +kernel
theorem dd_law_38 : decode code 38 = .ok (.iand, 1) := by decide +kernel
theorem dd_law_39 : decode code 39 = .ok (.tableswitch 524 0 7 #[45, 145, 158, 246, 302, 357, 412, 468], 45) := by decide +kernel
theorem dd_law_84 : decode code 84 = .ok (.aload_n 1, 1) := by decide +kernel
theorem dd_law_85 : decode code 85 = .ok (.aload_n 0, 1) := by decide +kernel
theorem dd_law_86 : decode code 86 = .ok (.iload 4, 2) := by decide +kernel
theorem dd_law_88 : decode code 88 = .ok (.iconst 1, 1) := by decide +kernel
theorem dd_law_89 : decode code 89 = .ok (.iadd, 1) := by decide +kernel
theorem dd_law_90 : decode code 90 = .ok (.iaload, 1) := by decide +kernel
theorem dd_law_91 : decode code 91 = .ok (.aload_n 0, 1) := by decide +kernel
theorem dd_law_92 : decode code 92 = .ok (.iload 4, 2) := by decide +kernel
theorem dd_law_94 : decode code 94 = .ok (.iconst 2, 1) := by decide +kernel
theorem dd_law_95 : decode code 95 = .ok (.iadd, 1) := by decide +kernel
theorem dd_law_96 : decode code 96 = .ok (.iaload, 1) := by decide +kernel
theorem dd_law_97 : decode code 97 = .ok (.i2l, 1) := by decide +kernel
theorem dd_law_98 : decode code 98 = .ok (.bipush 32, 2) := by decide +kernel
theorem dd_law_100 : decode code 100 = .ok (.lshl, 1) := by decide +kernel
theorem dd_law_101 : decode code 101 = .ok (.aload_n 0, 1) := by decide +kernel
theorem dd_law_102 : decode code 102 = .ok (.iload 4, 2) := by decide +kernel
theorem dd_law_104 : decode code 104 = .ok (.iconst 3, 1) := by decide +kernel
theorem dd_law_105 : decode code 105 = .ok (.iadd, 1) := by decide +kernel
theorem dd_law_106 : decode code 106 = .ok (.iaload, 1) := by decide +kernel
theorem dd_law_107 : decode code 107 = .ok (.i2l, 1) := by decide +kernel
theorem dd_law_108 : decode code 108 = .ok (.ldc2_w 44, 3) := by decide +kernel
theorem dd_law_111 : decode code 111 = .ok (.land, 1) := by decide +kernel
theorem dd_law_112 : decode code 112 = .ok (.lor, 1) := by decide +kernel
theorem dd_law_113 : decode code 113 = .ok (.aload_n 3, 1) := by decide +kernel
theorem dd_law_114 : decode code 114 = .ok (.invokestatic 46, 3) := by decide +kernel
theorem dd_law_117 : decode code 117 = .ok (.istore 5, 2) := by decide +kernel
theorem dd_law_119 : decode code 119 = .ok (.aload_n 2, 1) := by decide +kernel
theorem dd_law_120 : decode code 120 = .ok (.aload_n 0, 1) := by decide +kernel
theorem dd_law_121 : decode code 121 = .ok (.iload 4, 2) := by decide +kernel
theorem dd_law_123 : decode code 123 = .ok (.iconst 1, 1) := by decide +kernel
theorem dd_law_124 : decode code 124 = .ok (.iadd, 1) := by decide +kernel
theorem dd_law_125 : decode code 125 = .ok (.iaload, 1) := by decide +kernel
theorem dd_law_126 : decode code 126 = .ok (.aload_n 0, 1) := by decide +kernel
theorem dd_law_127 : decode code 127 = .ok (.iload 4, 2) := by decide +kernel
theorem dd_law_129 : decode code 129 = .ok (.iconst 2, 1) := by decide +kernel
theorem dd_law_130 : decode code 130 = .ok (.iadd, 1) := by decide +kernel
theorem dd_law_131 : decode code 131 = .ok (.iaload, 1) := by decide +kernel
theorem dd_law_132 : decode code 132 = .ok (.i2l, 1) := by decide +kernel
theorem dd_law_133 : decode code 133 = .ok (.bipush 32, 2) := by decide +kernel
theorem dd_law_135 : decode code 135 = .ok (.lshl, 1) := by decide +kernel
theorem dd_law_136 : decode code 136 = .ok (.aload_n 0, 1) := by decide +kernel
theorem dd_law_137 : decode code 137 = .ok (.iload 4, 2) := by decide +kernel
theorem dd_law_139 : decode code 139 = .ok (.iconst 3, 1) := by decide +kernel
theorem dd_law_140 : decode code 140 = .ok (.iadd, 1) := by decide +kernel
theorem dd_law_141 : decode code 141 = .ok (.iaload, 1) := by decide +kernel
theorem dd_law_142 : decode code 142 = .ok (.i2l, 1) := by decide +kernel
theorem dd_law_143 : decode code 143 = .ok (.ldc2_w 44, 3) := by decide +kernel
theorem dd_law_146 : decode code 146 = .ok (.land, 1) := by decide +kernel
theorem dd_law_147 : decode code 147 = .ok (.lor, 1) := by decide +kernel
theorem dd_law_148 : decode code 148 = .ok (.invokevirtual 51, 3) := by decide +kernel
theorem dd_law_151 : decode code 151 = .ok (.istore 6, 2) := by decide +kernel
theorem dd_law_153 : decode code 153 = .ok (.aload_n 2, 1) := by decide +kernel
theorem dd_law_154 : decode code 154 = .ok (.invokevirtual 52, 3) := by decide +kernel
theorem dd_law_157 : decode code 157 = .ok (.iload 5, 2) := by decide +kernel
theorem dd_law_159 : decode code 159 = .ok (.if_icmp .eq 5, 3) := by decide +kernel
theorem dd_law_162 : decode code 162 = .ok (.iconst 0, 1) := by decide +kernel
theorem dd_law_163 : decode code 163 = .ok (.ireturn, 1) := by decide +kernel
theorem dd_law_164 : decode code 164 = .ok (.iload 5, 2) := by decide +kernel
theorem dd_law_166 : decode code 166 = .ok (.ifCond .ne 15, 3) := by decide +kernel
theorem dd_law_169 : decode code 169 = .ok (.aload_n 3, 1) := by decide +kernel
theorem dd_law_170 : decode code 170 = .ok (.iconst 0, 1) := by decide +kernel
theorem dd_law_171 : decode code 171 = .ok (.laload, 1) := by decide +kernel
theorem dd_law_172 : decode code 172 = .ok (.iload 6, 2) := by decide +kernel
theorem dd_law_174 : decode code 174 = .ok (.i2l, 1) := by decide +kernel
theorem dd_law_175 : decode code 175 = .ok (.lcmp, 1) := by decide +kernel
theorem dd_law_176 : decode code 176 = .ok (.ifCond .eq 5, 3) := by decide +kernel
theorem dd_law_179 : decode code 179 = .ok (.iconst 0, 1) := by decide +kernel
theorem dd_law_180 : decode code 180 = .ok (.ireturn, 1) := by decide +kernel
theorem dd_law_181 : decode code 181 = .ok (.goto 382, 3) := by decide +kernel
theorem dd_law_184 : decode code 184 = .ok (.aload_n 1, 1) := by decide +kernel
theorem dd_law_185 : decode code 185 = .ok (.invokevirtual 56, 3) := by decide +kernel
theorem dd_law_188 : decode code 188 = .ok (.aload_n 2, 1) := by decide +kernel
theorem dd_law_189 : decode code 189 = .ok (.invokevirtual 59, 3) := by decide +kernel
theorem dd_law_192 : decode code 192 = .ok (.if_icmp .eq 371, 3) := by decide +kernel
theorem dd_law_195 : decode code 195 = .ok (.iconst 0, 1) := by decide +kernel
theorem dd_law_196 : decode code 196 = .ok (.ireturn, 1) := by decide +kernel
theorem dd_law_197 : decode code 197 = .ok (.aload_n 1, 1) := by decide +kernel
theorem dd_law_198 : decode code 198 = .ok (.aload_n 0, 1) := by decide +kernel
theorem dd_law_199 : decode code 199 = .ok (.iload 4, 2) := by decide +kernel
theorem dd_law_201 : decode code 201 = .ok (.iconst 1, 1) := by decide +kernel
theorem dd_law_202 : decode code 202 = .ok (.iadd, 1) := by decide +kernel
theorem dd_law_203 : decode code 203 = .ok (.iaload, 1) := by decide +kernel
theorem dd_law_204 : decode code 204 = .ok (.i2l, 1) := by decide +kernel
theorem dd_law_205 : decode code 205 = .ok (.bipush 32, 2) := by decide +kernel
theorem dd_law_207 : decode code 207 = .ok (.lshl, 1) := by decide +kernel
theorem dd_law_208 : decode code 208 = .ok (.aload_n 0, 1) := by decide +kernel
theorem dd_law_209 : decode code 209 = .ok (.iload 4, 2) := by decide +kernel
theorem dd_law_211 : decode code 211 = .ok (.iconst 2, 1) := by decide +kernel
theorem dd_law_212 : decode code 212 = .ok (.iadd, 1) := by decide +kernel
theorem dd_law_213 : decode code 213 = .ok (.iaload, 1) := by decide +kernel
theorem dd_law_214 : decode code 214 = .ok (.i2l, 1) := by decide +kernel
theorem dd_law_215 : decode code 215 = .ok (.ldc2_w 44, 3) := by decide +kernel
theorem dd_law_218 : decode code 218 = .ok (.land, 1) := by decide +kernel
theorem dd_law_219 : decode code 219 = .ok (.lor, 1) := by decide +kernel
theorem dd_law_220 : decode code 220 = .ok (.aload_n 3, 1) := by decide +kernel
theorem dd_law_221 : decode code 221 = .ok (.invokestatic 60, 3) := by decide +kernel
theorem dd_law_224 : decode code 224 = .ok (.istore 5, 2) := by decide +kernel
theorem dd_law_226 : decode code 226 = .ok (.aload_n 2, 1) := by decide +kernel
theorem dd_law_227 : decode code 227 = .ok (.aload_n 0, 1) := by decide +kernel
theorem dd_law_228 : decode code 228 = .ok (.iload 4, 2) := by decide +kernel
theorem dd_law_230 : decode code 230 = .ok (.iconst 1, 1) := by decide +kernel
theorem dd_law_231 : decode code 231 = .ok (.iadd, 1) := by decide +kernel
theorem dd_law_232 : decode code 232 = .ok (.iaload, 1) := by decide +kernel
theorem dd_law_233 : decode code 233 = .ok (.i2l, 1) := by decide +kernel
theorem dd_law_234 : decode code 234 = .ok (.bipush 32, 2) := by decide +kernel
theorem dd_law_236 : decode code 236 = .ok (.lshl, 1) := by decide +kernel
theorem dd_law_237 : decode code 237 = .ok (.aload_n 0, 1) := by decide +kernel
theorem dd_law_238 : decode code 238 = .ok (.iload 4, 2) := by decide +kernel
theorem dd_law_240 : decode code 240 = .ok (.iconst 2, 1) := by decide +kernel
theorem dd_law_241 : decode code 241 = .ok (.iadd, 1) := by decide +kernel
theorem dd_law_242 : decode code 242 = .ok (.iaload, 1) := by decide +kernel
theorem dd_law_243 : decode code 243 = .ok (.i2l, 1) := by decide +kernel
theorem dd_law_244 : decode code 244 = .ok (.ldc2_w 44, 3) := by decide +kernel
theorem dd_law_247 : decode code 247 = .ok (.land, 1) := by decide +kernel
theorem dd_law_248 : decode code 248 = .ok (.lor, 1) := by decide +kernel
theorem dd_law_249 : decode code 249 = .ok (.invokevirtual 63, 3) := by decide +kernel
theorem dd_law_252 : decode code 252 = .ok (.istore 6, 2) := by decide +kernel
theorem dd_law_254 : decode code 254 = .ok (.aload_n 2, 1) := by decide +kernel
theorem dd_law_255 : decode code 255 = .ok (.invokevirtual 52, 3) := by decide +kernel
theorem dd_law_258 : decode code 258 = .ok (.iload 5, 2) := by decide +kernel
theorem dd_law_260 : decode code 260 = .ok (.if_icmp .eq 5, 3) := by decide +kernel
theorem dd_law_263 : decode code 263 = .ok (.iconst 0, 1) := by decide +kernel
theorem dd_law_264 : decode code 264 = .ok (.ireturn, 1) := by decide +kernel
theorem dd_law_265 : decode code 265 = .ok (.iload 5, 2) := by decide +kernel
theorem dd_law_267 : decode code 267 = .ok (.ifCond .ne 15, 3) := by decide +kernel
theorem dd_law_270 : decode code 270 = .ok (.aload_n 3, 1) := by decide +kernel
theorem dd_law_271 : decode code 271 = .ok (.iconst 0, 1) := by decide +kernel
theorem dd_law_272 : decode code 272 = .ok (.laload, 1) := by decide +kernel
theorem dd_law_273 : decode code 273 = .ok (.iload 6, 2) := by decide +kernel
theorem dd_law_275 : decode code 275 = .ok (.i2l, 1) := by decide +kernel
theorem dd_law_276 : decode code 276 = .ok (.lcmp, 1) := by decide +kernel
theorem dd_law_277 : decode code 277 = .ok (.ifCond .eq 5, 3) := by decide +kernel
theorem dd_law_280 : decode code 280 = .ok (.iconst 0, 1) := by decide +kernel
theorem dd_law_281 : decode code 281 = .ok (.ireturn, 1) := by decide +kernel
theorem dd_law_282 : decode code 282 = .ok (.goto 281, 3) := by decide +kernel
theorem dd_law_285 : decode code 285 = .ok (.aload_n 1, 1) := by decide +kernel
theorem dd_law_286 : decode code 286 = .ok (.aload_n 0, 1) := by decide +kernel
theorem dd_law_287 : decode code 287 = .ok (.iload 4, 2) := by decide +kernel
theorem dd_law_289 : decode code 289 = .ok (.iconst 1, 1) := by decide +kernel
theorem dd_law_290 : decode code 290 = .ok (.iadd, 1) := by decide +kernel
theorem dd_law_291 : decode code 291 = .ok (.iaload, 1) := by decide +kernel
theorem dd_law_292 : decode code 292 = .ok (.aload_n 3, 1) := by decide +kernel
theorem dd_law_293 : decode code 293 = .ok (.invokestatic 64, 3) := by decide +kernel
theorem dd_law_296 : decode code 296 = .ok (.istore 5, 2) := by decide +kernel
theorem dd_law_298 : decode code 298 = .ok (.aload_n 2, 1) := by decide +kernel
theorem dd_law_299 : decode code 299 = .ok (.aload_n 0, 1) := by decide +kernel
theorem dd_law_300 : decode code 300 = .ok (.iload 4, 2) := by decide +kernel
theorem dd_law_302 : decode code 302 = .ok (.iconst 1, 1) := by decide +kernel
theorem dd_law_303 : decode code 303 = .ok (.iadd, 1) := by decide +kernel
theorem dd_law_304 : decode code 304 = .ok (.iaload, 1) := by decide +kernel
theorem dd_law_305 : decode code 305 = .ok (.invokevirtual 67, 3) := by decide +kernel
theorem dd_law_308 : decode code 308 = .ok (.istore 6, 2) := by decide +kernel
theorem dd_law_310 : decode code 310 = .ok (.aload_n 2, 1) := by decide +kernel
theorem dd_law_311 : decode code 311 = .ok (.invokevirtual 52, 3) := by decide +kernel
theorem dd_law_314 : decode code 314 = .ok (.iload 5, 2) := by decide +kernel
theorem dd_law_316 : decode code 316 = .ok (.if_icmp .eq 5, 3) := by decide +kernel
theorem dd_law_319 : decode code 319 = .ok (.iconst 0, 1) := by decide +kernel
theorem dd_law_320 : decode code 320 = .ok (.ireturn, 1) := by decide +kernel
theorem dd_law_321 : decode code 321 = .ok (.iload 5, 2) := by decide +kernel
theorem dd_law_323 : decode code 323 = .ok (.ifCond .ne 15, 3) := by decide +kernel
theorem dd_law_326 : decode code 326 = .ok (.aload_n 3, 1) := by decide +kernel
theorem dd_law_327 : decode code 327 = .ok (.iconst 0, 1) := by decide +kernel
theorem dd_law_328 : decode code 328 = .ok (.laload, 1) := by decide +kernel
theorem dd_law_329 : decode code 329 = .ok (.iload 6, 2) := by decide +kernel
theorem dd_law_331 : decode code 331 = .ok (.i2l, 1) := by decide +kernel
theorem dd_law_332 : decode code 332 = .ok (.lcmp, 1) := by decide +kernel
theorem dd_law_333 : decode code 333 = .ok (.ifCond .eq 5, 3) := by decide +kernel
theorem dd_law_336 : decode code 336 = .ok (.iconst 0, 1) := by decide +kernel
theorem dd_law_337 : decode code 337 = .ok (.ireturn, 1) := by decide +kernel
theorem dd_law_338 : decode code 338 = .ok (.goto 225, 3) := by decide +kernel
theorem dd_law_341 : decode code 341 = .ok (.aload_n 1, 1) := by decide +kernel
theorem dd_law_342 : decode code 342 = .ok (.aload_n 0, 1) := by decide +kernel
theorem dd_law_343 : decode code 343 = .ok (.iload 4, 2) := by decide +kernel
theorem dd_law_345 : decode code 345 = .ok (.iconst 1, 1) := by decide +kernel
theorem dd_law_346 : decode code 346 = .ok (.iadd, 1) := by decide +kernel
theorem dd_law_347 : decode code 347 = .ok (.iaload, 1) := by decide +kernel
theorem dd_law_348 : decode code 348 = .ok (.aload_n 3, 1) := by decide +kernel
theorem dd_law_349 : decode code 349 = .ok (.invokestatic 68, 3) := by decide +kernel
theorem dd_law_352 : decode code 352 = .ok (.istore 5, 2) := by decide +kernel
theorem dd_law_354 : decode code 354 = .ok (.aload_n 2, 1) := by decide +kernel
theorem dd_law_355 : decode code 355 = .ok (.aload_n 0, 1) := by decide +kernel
theorem dd_law_356 : decode code 356 = .ok (.iload 4, 2) := by decide +kernel
theorem dd_law_358 : decode code 358 = .ok (.iconst 1, 1) := by decide +kernel
theorem dd_law_359 : decode code 359 = .ok (.iadd, 1) := by decide +kernel
theorem dd_law_360 : decode code 360 = .ok (.iaload, 1) := by decide +kernel
theorem dd_law_361 : decode code 361 = .ok (.invokevirtual 70, 3) := by decide +kernel
theorem dd_law_364 : decode code 364 = .ok (.lstore 6, 2) := by decide +kernel
theorem dd_law_366 : decode code 366 = .ok (.aload_n 2, 1) := by decide +kernel
theorem dd_law_367 : decode code 367 = .ok (.invokevirtual 52, 3) := by decide +kernel
theorem dd_law_370 : decode code 370 = .ok (.iload 5, 2) := by decide +kernel
theorem dd_law_372 : decode code 372 = .ok (.if_icmp .eq 5, 3) := by decide +kernel
theorem dd_law_375 : decode code 375 = .ok (.iconst 0, 1) := by decide +kernel
theorem dd_law_376 : decode code 376 = .ok (.ireturn, 1) := by decide +kernel
theorem dd_law_377 : decode code 377 = .ok (.iload 5, 2) := by decide +kernel
theorem dd_law_379 : decode code 379 = .ok (.ifCond .ne 14, 3) := by decide +kernel
theorem dd_law_382 : decode code 382 = .ok (.aload_n 3, 1) := by decide +kernel
theorem dd_law_383 : decode code 383 = .ok (.iconst 0, 1) := by decide +kernel
theorem dd_law_384 : decode code 384 = .ok (.laload, 1) := by decide +kernel
theorem dd_law_385 : decode code 385 = .ok (.lload 6, 2) := by decide +kernel
theorem dd_law_387 : decode code 387 = .ok (.lcmp, 1) := by decide +kernel
theorem dd_law_388 : decode code 388 = .ok (.ifCond .eq 5, 3) := by decide +kernel
theorem dd_law_391 : decode code 391 = .ok (.iconst 0, 1) := by decide +kernel
theorem dd_law_392 : decode code 392 = .ok (.ireturn, 1) := by decide +kernel
theorem dd_law_393 : decode code 393 = .ok (.goto 170, 3) := by decide +kernel
theorem dd_law_396 : decode code 396 = .ok (.aload_n 1, 1) := by decide +kernel
theorem dd_law_397 : decode code 397 = .ok (.aload_n 0, 1) := by decide +kernel
theorem dd_law_398 : decode code 398 = .ok (.iload 4, 2) := by decide +kernel
theorem dd_law_400 : decode code 400 = .ok (.iconst 1, 1) := by decide +kernel
theorem dd_law_401 : decode code 401 = .ok (.iadd, 1) := by decide +kernel
theorem dd_law_402 : decode code 402 = .ok (.iaload, 1) := by decide +kernel
theorem dd_law_403 : decode code 403 = .ok (.aload_n 3, 1) := by decide +kernel
theorem dd_law_404 : decode code 404 = .ok (.invokestatic 71, 3) := by decide +kernel
theorem dd_law_407 : decode code 407 = .ok (.istore 5, 2) := by decide +kernel
theorem dd_law_409 : decode code 409 = .ok (.aload_n 2, 1) := by decide +kernel
theorem dd_law_410 : decode code 410 = .ok (.aload_n 0, 1) := by decide +kernel
theorem dd_law_411 : decode code 411 = .ok (.iload 4, 2) := by decide +kernel
theorem dd_law_413 : decode code 413 = .ok (.iconst 1, 1) := by decide +kernel
theorem dd_law_414 : decode code 414 = .ok (.iadd, 1) := by decide +kernel
theorem dd_law_415 : decode code 415 = .ok (.iaload, 1) := by decide +kernel
theorem dd_law_416 : decode code 416 = .ok (.invokevirtual 73, 3) := by decide +kernel
theorem dd_law_419 : decode code 419 = .ok (.lstore 6, 2) := by decide +kernel
theorem dd_law_421 : decode code 421 = .ok (.aload_n 2, 1) := by decide +kernel
theorem dd_law_422 : decode code 422 = .ok (.invokevirtual 52, 3) := by decide +kernel
theorem dd_law_425 : decode code 425 = .ok (.iload 5, 2) := by decide +kernel
theorem dd_law_427 : decode code 427 = .ok (.if_icmp .eq 5, 3) := by decide +kernel
theorem dd_law_430 : decode code 430 = .ok (.iconst 0, 1) := by decide +kernel
theorem dd_law_431 : decode code 431 = .ok (.ireturn, 1) := by decide +kernel
theorem dd_law_432 : decode code 432 = .ok (.iload 5, 2) := by decide +kernel
theorem dd_law_434 : decode code 434 = .ok (.ifCond .ne 14, 3) := by decide +kernel
theorem dd_law_437 : decode code 437 = .ok (.aload_n 3, 1) := by decide +kernel
theorem dd_law_438 : decode code 438 = .ok (.iconst 0, 1) := by decide +kernel
theorem dd_law_439 : decode code 439 = .ok (.laload, 1) := by decide +kernel
theorem dd_law_440 : decode code 440 = .ok (.lload 6, 2) := by decide +kernel
theorem dd_law_442 : decode code 442 = .ok (.lcmp, 1) := by decide +kernel
theorem dd_law_443 : decode code 443 = .ok (.ifCond .eq 5, 3) := by decide +kernel
theorem dd_law_446 : decode code 446 = .ok (.iconst 0, 1) := by decide +kernel
theorem dd_law_447 : decode code 447 = .ok (.ireturn, 1) := by decide +kernel
theorem dd_law_448 : decode code 448 = .ok (.goto 115, 3) := by decide +kernel
theorem dd_law_451 : decode code 451 = .ok (.aload_n 1, 1) := by decide +kernel
theorem dd_law_452 : decode code 452 = .ok (.aload_n 0, 1) := by decide +kernel
theorem dd_law_453 : decode code 453 = .ok (.iload 4, 2) := by decide +kernel
theorem dd_law_455 : decode code 455 = .ok (.iconst 1, 1) := by decide +kernel
theorem dd_law_456 : decode code 456 = .ok (.iadd, 1) := by decide +kernel
theorem dd_law_457 : decode code 457 = .ok (.iaload, 1) := by decide +kernel
theorem dd_law_458 : decode code 458 = .ok (.aload_n 3, 1) := by decide +kernel
theorem dd_law_459 : decode code 459 = .ok (.invokestatic 74, 3) := by decide +kernel
theorem dd_law_462 : decode code 462 = .ok (.istore 5, 2) := by decide +kernel
theorem dd_law_464 : decode code 464 = .ok (.aload_n 2, 1) := by decide +kernel
theorem dd_law_465 : decode code 465 = .ok (.aload_n 0, 1) := by decide +kernel
theorem dd_law_466 : decode code 466 = .ok (.iload 4, 2) := by decide +kernel
theorem dd_law_468 : decode code 468 = .ok (.iconst 1, 1) := by decide +kernel
theorem dd_law_469 : decode code 469 = .ok (.iadd, 1) := by decide +kernel
theorem dd_law_470 : decode code 470 = .ok (.iaload, 1) := by decide +kernel
theorem dd_law_471 : decode code 471 = .ok (.invokevirtual 76, 3) := by decide +kernel
theorem dd_law_474 : decode code 474 = .ok (.istore 6, 2) := by decide +kernel
theorem dd_law_476 : decode code 476 = .ok (.aload_n 2, 1) := by decide +kernel
theorem dd_law_477 : decode code 477 = .ok (.invokevirtual 52, 3) := by decide +kernel
theorem dd_law_480 : decode code 480 = .ok (.iload 5, 2) := by decide +kernel
theorem dd_law_482 : decode code 482 = .ok (.if_icmp .eq 5, 3) := by decide +kernel
theorem dd_law_485 : decode code 485 = .ok (.iconst 0, 1) := by decide +kernel
theorem dd_law_486 : decode code 486 = .ok (.ireturn, 1) := by decide +kernel
theorem dd_law_487 : decode code 487 = .ok (.iload 5, 2) := by decide +kernel
theorem dd_law_489 : decode code 489 = .ok (.ifCond .ne 15, 3) := by decide +kernel
theorem dd_law_492 : decode code 492 = .ok (.aload_n 3, 1) := by decide +kernel
theorem dd_law_493 : decode code 493 = .ok (.iconst 0, 1) := by decide +kernel
theorem dd_law_494 : decode code 494 = .ok (.laload, 1) := by decide +kernel
theorem dd_law_495 : decode code 495 = .ok (.iload 6, 2) := by decide +kernel
theorem dd_law_497 : decode code 497 = .ok (.i2l, 1) := by decide +kernel
theorem dd_law_498 : decode code 498 = .ok (.lcmp, 1) := by decide +kernel
theorem dd_law_499 : decode code 499 = .ok (.ifCond .eq 5, 3) := by decide +kernel
theorem dd_law_502 : decode code 502 = .ok (.iconst 0, 1) := by decide +kernel
theorem dd_law_503 : decode code 503 = .ok (.ireturn, 1) := by decide +kernel
theorem dd_law_504 : decode code 504 = .ok (.goto 59, 3) := by decide +kernel
theorem dd_law_507 : decode code 507 = .ok (.aload_n 1, 1) := by decide +kernel
theorem dd_law_508 : decode code 508 = .ok (.aload_n 0, 1) := by decide +kernel
theorem dd_law_509 : decode code 509 = .ok (.iload 4, 2) := by decide +kernel
theorem dd_law_511 : decode code 511 = .ok (.iconst 1, 1) := by decide +kernel
theorem dd_law_512 : decode code 512 = .ok (.iadd, 1) := by decide +kernel
theorem dd_law_513 : decode code 513 = .ok (.iaload, 1) := by decide +kernel
theorem dd_law_514 : decode code 514 = .ok (.aload_n 3, 1) := by decide +kernel
theorem dd_law_515 : decode code 515 = .ok (.invokestatic 77, 3) := by decide +kernel
theorem dd_law_518 : decode code 518 = .ok (.istore 5, 2) := by decide +kernel
theorem dd_law_520 : decode code 520 = .ok (.aload_n 2, 1) := by decide +kernel
theorem dd_law_521 : decode code 521 = .ok (.aload_n 0, 1) := by decide +kernel
theorem dd_law_522 : decode code 522 = .ok (.iload 4, 2) := by decide +kernel
theorem dd_law_524 : decode code 524 = .ok (.iconst 1, 1) := by decide +kernel
theorem dd_law_525 : decode code 525 = .ok (.iadd, 1) := by decide +kernel
theorem dd_law_526 : decode code 526 = .ok (.iaload, 1) := by decide +kernel
theorem dd_law_527 : decode code 527 = .ok (.invokevirtual 79, 3) := by decide +kernel
theorem dd_law_530 : decode code 530 = .ok (.istore 6, 2) := by decide +kernel
theorem dd_law_532 : decode code 532 = .ok (.aload_n 2, 1) := by decide +kernel
theorem dd_law_533 : decode code 533 = .ok (.invokevirtual 52, 3) := by decide +kernel
theorem dd_law_536 : decode code 536 = .ok (.iload 5, 2) := by decide +kernel
theorem dd_law_538 : decode code 538 = .ok (.if_icmp .eq 5, 3) := by decide +kernel
theorem dd_law_541 : decode code 541 = .ok (.iconst 0, 1) := by decide +kernel
theorem dd_law_542 : decode code 542 = .ok (.ireturn, 1) := by decide +kernel
theorem dd_law_543 : decode code 543 = .ok (.iload 5, 2) := by decide +kernel
theorem dd_law_545 : decode code 545 = .ok (.ifCond .ne 15, 3) := by decide +kernel
theorem dd_law_548 : decode code 548 = .ok (.aload_n 3, 1) := by decide +kernel
theorem dd_law_549 : decode code 549 = .ok (.iconst 0, 1) := by decide +kernel
theorem dd_law_550 : decode code 550 = .ok (.laload, 1) := by decide +kernel
theorem dd_law_551 : decode code 551 = .ok (.iload 6, 2) := by decide +kernel
theorem dd_law_553 : decode code 553 = .ok (.i2l, 1) := by decide +kernel
theorem dd_law_554 : decode code 554 = .ok (.lcmp, 1) := by decide +kernel
theorem dd_law_555 : decode code 555 = .ok (.ifCond .eq 5, 3) := by decide +kernel
theorem dd_law_558 : decode code 558 = .ok (.iconst 0, 1) := by decide +kernel
theorem dd_law_559 : decode code 559 = .ok (.ireturn, 1) := by decide +kernel
theorem dd_law_560 : decode code 560 = .ok (.goto 3, 3) := by decide +kernel
theorem dd_law_563 : decode code 563 = .ok (.iinc 4 4, 3) := by decide +kernel
theorem dd_law_566 : decode code 566 = .ok (.goto (-543), 3) := by decide +kernel
theorem dd_law_569 : decode code 569 = .ok (.iconst 1, 1) := by decide +kernel
theorem dd_law_570 : decode code 570 = .ok (.ireturn, 1) := by decide +kernel
