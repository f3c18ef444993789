theorem dd_Code_turned_0 : decode prog_3_method_5_code 0 = .ok (.aload_n 0, 1) := by decide +kernel
theorem dd_Code_turned_1 : decode prog_3_method_5_code 1 = .ok (.getfield 23, 3) := by decide +kernel
theorem dd_Code_turned_4 : decode prog_3_method_5_code 4 = .ok (.aload_n 0, 1) := by decide +kernel
theorem dd_Code_turned_5 : decode prog_3_method_5_code 5 = .ok (.getfield 32, 3) := by decide +kernel
theorem dd_Code_turned_8 : decode prog_3_method_5_code 8 = .ok (.iconst 1, 1) := by decide +kernel
theorem dd_Code_turned_9 : decode prog_3_method_5_code 9 = .ok (.isub, 1) := by decide +kernel
theorem dd_Code_turned_10 : decode prog_3_method_5_code 10 = .ok (.aload_n 0, 1) := by decide +kernel
theorem dd_Code_turned_11 : decode prog_3_method_5_code 11 = .ok (.getfield 23, 3) := by decide +kernel
theorem dd_Code_turned_14 : decode prog_3_method_5_code 14 = .ok (.iload_n 1, 1) := by decide +kernel
theorem dd_Code_turned_15 : decode prog_3_method_5_code 15 = .ok (.iaload, 1) := by decide +kernel
theorem dd_Code_turned_16 : decode prog_3_method_5_code 16 = .ok (.iastore, 1) := by decide +kernel
theorem dd_Code_turned_17 : decode prog_3_method_5_code 17 = .ok (.aload_n 0, 1) := by decide +kernel
theorem dd_Code_turned_18 : decode prog_3_method_5_code 18 = .ok (.getfield 23, 3) := by decide +kernel
theorem dd_Code_turned_21 : decode prog_3_method_5_code 21 = .ok (.iload_n 1, 1) := by decide +kernel
theorem dd_Code_turned_22 : decode prog_3_method_5_code 22 = .ok (.aload_n 0, 1) := by decide +kernel
theorem dd_Code_turned_23 : decode prog_3_method_5_code 23 = .ok (.getfield 32, 3) := by decide +kernel
theorem dd_Code_turned_26 : decode prog_3_method_5_code 26 = .ok (.iconst 1, 1) := by decide +kernel
theorem dd_Code_turned_27 : decode prog_3_method_5_code 27 = .ok (.isub, 1) := by decide +kernel
theorem dd_Code_turned_28 : decode prog_3_method_5_code 28 = .ok (.iastore, 1) := by decide +kernel
theorem dd_Code_turned_29 : decode prog_3_method_5_code 29 = .ok (.aload_n 0, 1) := by decide +kernel
theorem dd_Code_turned_30 : decode prog_3_method_5_code 30 = .ok (.getfield 32, 3) := by decide +kernel
theorem dd_Code_turned_33 : decode prog_3_method_5_code 33 = .ok (.iconst 1, 1) := by decide +kernel
theorem dd_Code_turned_34 : decode prog_3_method_5_code 34 = .ok (.isub, 1) := by decide +kernel
theorem dd_Code_turned_35 : decode prog_3_method_5_code 35 = .ok (.ireturn, 1) := by decide +kernel
theorem dd_Code_closed_0 : decode prog_3_method_6_code 0 = .ok (.aload_n 0, 1) := by decide +kernel
theorem dd_Code_closed_1 : decode prog_3_method_6_code 1 = .ok (.getfield 23, 3) := by decide +kernel
theorem dd_Code_closed_4 : decode prog_3_method_6_code 4 = .ok (.iload_n 1, 1) := by decide +kernel
theorem dd_Code_closed_5 : decode prog_3_method_6_code 5 = .ok (.iaload, 1) := by decide +kernel
theorem dd_Code_closed_6 : decode prog_3_method_6_code 6 = .ok (.istore_n 2, 1) := by decide +kernel
theorem dd_Code_closed_7 : decode prog_3_method_6_code 7 = .ok (.aload_n 0, 1) := by decide +kernel
theorem dd_Code_closed_8 : decode prog_3_method_6_code 8 = .ok (.getfield 23, 3) := by decide +kernel
theorem dd_Code_closed_11 : decode prog_3_method_6_code 11 = .ok (.iload_n 1, 1) := by decide +kernel
theorem dd_Code_closed_12 : decode prog_3_method_6_code 12 = .ok (.aload_n 0, 1) := by decide +kernel
theorem dd_Code_closed_13 : decode prog_3_method_6_code 13 = .ok (.getfield 32, 3) := by decide +kernel
theorem dd_Code_closed_16 : decode prog_3_method_6_code 16 = .ok (.iconst 1, 1) := by decide +kernel
theorem dd_Code_closed_17 : decode prog_3_method_6_code 17 = .ok (.isub, 1) := by decide +kernel
theorem dd_Code_closed_18 : decode prog_3_method_6_code 18 = .ok (.iastore, 1) := by decide +kernel
theorem dd_Code_closed_19 : decode prog_3_method_6_code 19 = .ok (.iload_n 2, 1) := by decide +kernel
theorem dd_Code_closed_20 : decode prog_3_method_6_code 20 = .ok (.ireturn, 1) := by decide +kernel
theorem dd_Reader_readWays_0 : decode prog_9_method_31_code 0 = .ok (.aload_n 0, 1) := by decide +kernel
theorem dd_Reader_readWays_1 : decode prog_9_method_31_code 1 = .ok (.getfield 31, 3) := by decide +kernel
theorem dd_Reader_readWays_4 : decode prog_9_method_31_code 4 = .ok (.getfield 215, 3) := by decide +kernel
theorem dd_Reader_readWays_7 : decode prog_9_method_31_code 7 = .ok (.istore_n 2, 1) := by decide +kernel
theorem dd_Reader_readWays_8 : decode prog_9_method_31_code 8 = .ok (.aload_n 0, 1) := by decide +kernel
theorem dd_Reader_readWays_9 : decode prog_9_method_31_code 9 = .ok (.invokevirtual 220, 3) := by decide +kernel
theorem dd_Reader_readWays_12 : decode prog_9_method_31_code 12 = .ok (.istore_n 3, 1) := by decide +kernel
theorem dd_Reader_readWays_13 : decode prog_9_method_31_code 13 = .ok (.aload_n 0, 1) := by decide +kernel
theorem dd_Reader_readWays_14 : decode prog_9_method_31_code 14 = .ok (.getfield 31, 3) := by decide +kernel
theorem dd_Reader_readWays_17 : decode prog_9_method_31_code 17 = .ok (.aload_n 0, 1) := by decide +kernel
theorem dd_Reader_readWays_18 : decode prog_9_method_31_code 18 = .ok (.invokevirtual 78, 3) := by decide +kernel
theorem dd_Reader_readWays_21 : decode prog_9_method_31_code 21 = .ok (.invokevirtual 223, 3) := by decide +kernel
theorem dd_Reader_readWays_24 : decode prog_9_method_31_code 24 = .ok (.aload_n 0, 1) := by decide +kernel
theorem dd_Reader_readWays_25 : decode prog_9_method_31_code 25 = .ok (.getfield 31, 3) := by decide +kernel
theorem dd_Reader_readWays_28 : decode prog_9_method_31_code 28 = .ok (.iload_n 1, 1) := by decide +kernel
theorem dd_Reader_readWays_29 : decode prog_9_method_31_code 29 = .ok (.iload_n 2, 1) := by decide +kernel
theorem dd_Reader_readWays_30 : decode prog_9_method_31_code 30 = .ok (.iload_n 3, 1) := by decide +kernel
theorem dd_Reader_readWays_31 : decode prog_9_method_31_code 31 = .ok (.i2l, 1) := by decide +kernel
theorem dd_Reader_readWays_32 : decode prog_9_method_31_code 32 = .ok (.invokevirtual 235, 3) := by decide +kernel
theorem dd_Reader_readWays_35 : decode prog_9_method_31_code 35 = .ok (.return_, 1) := by decide +kernel
theorem dd_Reader_readInstruction_0 : decode prog_9_method_30_code 0 = .ok (.aload_n 0, 1) := by decide +kernel
theorem dd_Reader_readInstruction_1 : decode prog_9_method_30_code 1 = .ok (.invokevirtual 49, 3) := by decide +kernel
theorem dd_Reader_readInstruction_4 : decode prog_9_method_30_code 4 = .ok (.istore_n 2, 1) := by decide +kernel
theorem dd_Reader_readInstruction_5 : decode prog_9_method_30_code 5 = .ok (.iload_n 2, 1) := by decide +kernel
theorem dd_Reader_readInstruction_6 : decode prog_9_method_30_code 6 = .ok (.sipush 251, 3) := by decide +kernel
theorem dd_Reader_readInstruction_9 : decode prog_9_method_30_code 9 = .ok (.if_icmp .ne 17, 3) := by decide +kernel
theorem dd_Reader_readInstruction_12 : decode prog_9_method_30_code 12 = .ok (.sipush 256, 3) := by decide +kernel
theorem dd_Reader_readInstruction_15 : decode prog_9_method_30_code 15 = .ok (.aload_n 0, 1) := by decide +kernel
theorem dd_Reader_readInstruction_16 : decode prog_9_method_30_code 16 = .ok (.invokevirtual 78, 3) := by decide +kernel
theorem dd_Reader_readInstruction_19 : decode prog_9_method_30_code 19 = .ok (.bipush 31, 2) := by decide +kernel
theorem dd_Reader_readInstruction_21 : decode prog_9_method_30_code 21 = .ok (.invokestatic 139, 3) := by decide +kernel
theorem dd_Reader_readInstruction_24 : decode prog_9_method_30_code 24 = .ok (.iadd, 1) := by decide +kernel
theorem dd_Reader_readInstruction_25 : decode prog_9_method_30_code 25 = .ok (.istore_n 2, 1) := by decide +kernel
theorem dd_Reader_readInstruction_26 : decode prog_9_method_30_code 26 = .ok (.iload_n 2, 1) := by decide +kernel
theorem dd_Reader_readInstruction_27 : decode prog_9_method_30_code 27 = .ok (.sipush 286, 3) := by decide +kernel
theorem dd_Reader_readInstruction_30 : decode prog_9_method_30_code 30 = .ok (.if_icmp .le 8, 3) := by decide +kernel
theorem dd_Reader_readInstruction_33 : decode prog_9_method_30_code 33 = .ok (.bipush 33, 2) := by decide +kernel
theorem dd_Reader_readInstruction_35 : decode prog_9_method_30_code 35 = .ok (.goto 8, 3) := by decide +kernel
theorem dd_Reader_readInstruction_38 : decode prog_9_method_30_code 38 = .ok (.getstatic 248, 3) := by decide +kernel
theorem dd_Reader_readInstruction_41 : decode prog_9_method_30_code 41 = .ok (.iload_n 2, 1) := by decide +kernel
theorem dd_Reader_readInstruction_42 : decode prog_9_method_30_code 42 = .ok (.caload, 1) := by decide +kernel
theorem dd_Reader_readInstruction_43 : decode prog_9_method_30_code 43 = .ok (.istore_n 3, 1) := by decide +kernel
theorem dd_Reader_readInstruction_44 : decode prog_9_method_30_code 44 = .ok (.iload_n 3, 1) := by decide +kernel
theorem dd_Reader_readInstruction_45 : decode prog_9_method_30_code 45 = .ok (.lookupswitch 342 #[(45, 334), (46, 107), (98, 233), (101, 255), (105, 155), (108, 173), (110, 295), (114, 207), (116, 191), (117, 120), (119, 136), (122, 215)], 107) := by decide +kernel
theorem dd_Reader_readInstruction_152 : decode prog_9_method_30_code 152 = .ok (.aload_n 0, 1) := by decide +kernel
theorem dd_Reader_readInstruction_153 : decode prog_9_method_30_code 153 = .ok (.getfield 31, 3) := by decide +kernel
theorem dd_Reader_readInstruction_156 : decode prog_9_method_30_code 156 = .ok (.iload_n 2, 1) := by decide +kernel
theorem dd_Reader_readInstruction_157 : decode prog_9_method_30_code 157 = .ok (.iconst 0, 1) := by decide +kernel
theorem dd_Reader_readInstruction_158 : decode prog_9_method_30_code 158 = .ok (.lconst 0, 1) := by decide +kernel
theorem dd_Reader_readInstruction_159 : decode prog_9_method_30_code 159 = .ok (.invokevirtual 235, 3) := by decide +kernel
theorem dd_Reader_readInstruction_162 : decode prog_9_method_30_code 162 = .ok (.goto 233, 3) := by decide +kernel
theorem dd_Reader_readInstruction_165 : decode prog_9_method_30_code 165 = .ok (.aload_n 0, 1) := by decide +kernel
theorem dd_Reader_readInstruction_166 : decode prog_9_method_30_code 166 = .ok (.getfield 31, 3) := by decide +kernel
theorem dd_Reader_readInstruction_169 : decode prog_9_method_30_code 169 = .ok (.iload_n 2, 1) := by decide +kernel
theorem dd_Reader_readInstruction_170 : decode prog_9_method_30_code 170 = .ok (.aload_n 0, 1) := by decide +kernel
theorem dd_Reader_readInstruction_171 : decode prog_9_method_30_code 171 = .ok (.invokevirtual 78, 3) := by decide +kernel
theorem dd_Reader_readInstruction_174 : decode prog_9_method_30_code 174 = .ok (.lconst 0, 1) := by decide +kernel
theorem dd_Reader_readInstruction_175 : decode prog_9_method_30_code 175 = .ok (.invokevirtual 235, 3) := by decide +kernel
theorem dd_Reader_readInstruction_178 : decode prog_9_method_30_code 178 = .ok (.goto 217, 3) := by decide +kernel
theorem dd_Reader_readInstruction_181 : decode prog_9_method_30_code 181 = .ok (.aload_n 0, 1) := by decide +kernel
theorem dd_Reader_readInstruction_182 : decode prog_9_method_30_code 182 = .ok (.getfield 31, 3) := by decide +kernel
theorem dd_Reader_readInstruction_185 : decode prog_9_method_30_code 185 = .ok (.iload_n 2, 1) := by decide +kernel
theorem dd_Reader_readInstruction_186 : decode prog_9_method_30_code 186 = .ok (.aload_n 0, 1) := by decide +kernel
theorem dd_Reader_readInstruction_187 : decode prog_9_method_30_code 187 = .ok (.invokevirtual 78, 3) := by decide +kernel
theorem dd_Reader_readInstruction_190 : decode prog_9_method_30_code 190 = .ok (.aload_n 0, 1) := by decide +kernel
theorem dd_Reader_readInstruction_191 : decode prog_9_method_30_code 191 = .ok (.invokevirtual 103, 3) := by decide +kernel
theorem dd_Reader_readInstruction_194 : decode prog_9_method_30_code 194 = .ok (.invokevirtual 235, 3) := by decide +kernel
theorem dd_Reader_readInstruction_197 : decode prog_9_method_30_code 197 = .ok (.goto 198, 3) := by decide +kernel
theorem dd_Reader_readInstruction_200 : decode prog_9_method_30_code 200 = .ok (.aload_n 0, 1) := by decide +kernel
theorem dd_Reader_readInstruction_201 : decode prog_9_method_30_code 201 = .ok (.getfield 31, 3) := by decide +kernel
theorem dd_Reader_readInstruction_204 : decode prog_9_method_30_code 204 = .ok (.iload_n 2, 1) := by decide +kernel
theorem dd_Reader_readInstruction_205 : decode prog_9_method_30_code 205 = .ok (.iconst 0, 1) := by decide +kernel
theorem dd_Reader_readInstruction_206 : decode prog_9_method_30_code 206 = .ok (.aload_n 0, 1) := by decide +kernel
theorem dd_Reader_readInstruction_207 : decode prog_9_method_30_code 207 = .ok (.bipush 32, 2) := by decide +kernel
theorem dd_Reader_readInstruction_209 : decode prog_9_method_30_code 209 = .ok (.invokevirtual 120, 3) := by decide +kernel
theorem dd_Reader_readInstruction_212 : decode prog_9_method_30_code 212 = .ok (.invokevirtual 235, 3) := by decide +kernel
theorem dd_Reader_readInstruction_215 : decode prog_9_method_30_code 215 = .ok (.goto 180, 3) := by decide +kernel
theorem dd_Reader_readInstruction_218 : decode prog_9_method_30_code 218 = .ok (.aload_n 0, 1) := by decide +kernel
theorem dd_Reader_readInstruction_219 : decode prog_9_method_30_code 219 = .ok (.getfield 31, 3) := by decide +kernel
theorem dd_Reader_readInstruction_222 : decode prog_9_method_30_code 222 = .ok (.iload_n 2, 1) := by decide +kernel
theorem dd_Reader_readInstruction_223 : decode prog_9_method_30_code 223 = .ok (.iconst 0, 1) := by decide +kernel
theorem dd_Reader_readInstruction_224 : decode prog_9_method_30_code 224 = .ok (.aload_n 0, 1) := by decide +kernel
theorem dd_Reader_readInstruction_225 : decode prog_9_method_30_code 225 = .ok (.bipush 64, 2) := by decide +kernel
theorem dd_Reader_readInstruction_227 : decode prog_9_method_30_code 227 = .ok (.invokevirtual 120, 3) := by decide +kernel
theorem dd_Reader_readInstruction_230 : decode prog_9_method_30_code 230 = .ok (.invokevirtual 235, 3) := by decide +kernel
theorem dd_Reader_readInstruction_233 : decode prog_9_method_30_code 233 = .ok (.goto 162, 3) := by decide +kernel
theorem dd_Reader_readInstruction_236 : decode prog_9_method_30_code 236 = .ok (.aload_n 0, 1) := by decide +kernel
theorem dd_Reader_readInstruction_237 : decode prog_9_method_30_code 237 = .ok (.getfield 31, 3) := by decide +kernel
theorem dd_Reader_readInstruction_240 : decode prog_9_method_30_code 240 = .ok (.iload_n 2, 1) := by decide +kernel
theorem dd_Reader_readInstruction_241 : decode prog_9_method_30_code 241 = .ok (.aload_n 0, 1) := by decide +kernel
theorem dd_Reader_readInstruction_242 : decode prog_9_method_30_code 242 = .ok (.invokevirtual 130, 3) := by decide +kernel
theorem dd_Reader_readInstruction_245 : decode prog_9_method_30_code 245 = .ok (.lconst 0, 1) := by decide +kernel
theorem dd_Reader_readInstruction_246 : decode prog_9_method_30_code 246 = .ok (.invokevirtual 235, 3) := by decide +kernel
theorem dd_Reader_readInstruction_249 : decode prog_9_method_30_code 249 = .ok (.goto 146, 3) := by decide +kernel
theorem dd_Reader_readInstruction_252 : decode prog_9_method_30_code 252 = .ok (.aload_n 0, 1) := by decide +kernel
theorem dd_Reader_readInstruction_253 : decode prog_9_method_30_code 253 = .ok (.iload_n 2, 1) := by decide +kernel
theorem dd_Reader_readInstruction_254 : decode prog_9_method_30_code 254 = .ok (.invokevirtual 252, 3) := by decide +kernel
theorem dd_Reader_readInstruction_257 : decode prog_9_method_30_code 257 = .ok (.goto 138, 3) := by decide +kernel
theorem dd_Reader_readInstruction_260 : decode prog_9_method_30_code 260 = .ok (.aload_n 0, 1) := by decide +kernel
theorem dd_Reader_readInstruction_261 : decode prog_9_method_30_code 261 = .ok (.iconst 0, 1) := by decide +kernel
theorem dd_Reader_readInstruction_262 : decode prog_9_method_30_code 262 = .ok (.invokevirtual 179, 3) := by decide +kernel
theorem dd_Reader_readInstruction_265 : decode prog_9_method_30_code 265 = .ok (.aload_n 0, 1) := by decide +kernel
theorem dd_Reader_readInstruction_266 : decode prog_9_method_30_code 266 = .ok (.getfield 31, 3) := by decide +kernel
theorem dd_Reader_readInstruction_269 : decode prog_9_method_30_code 269 = .ok (.iload_n 2, 1) := by decide +kernel
theorem dd_Reader_readInstruction_270 : decode prog_9_method_30_code 270 = .ok (.iconst 0, 1) := by decide +kernel
theorem dd_Reader_readInstruction_271 : decode prog_9_method_30_code 271 = .ok (.lconst 0, 1) := by decide +kernel
theorem dd_Reader_readInstruction_272 : decode prog_9_method_30_code 272 = .ok (.invokevirtual 235, 3) := by decide +kernel
theorem dd_Reader_readInstruction_275 : decode prog_9_method_30_code 275 = .ok (.goto 120, 3) := by decide +kernel
theorem dd_Reader_readInstruction_278 : decode prog_9_method_30_code 278 = .ok (.aload_n 0, 1) := by decide +kernel
theorem dd_Reader_readInstruction_279 : decode prog_9_method_30_code 279 = .ok (.getfield 31, 3) := by decide +kernel
theorem dd_Reader_readInstruction_282 : decode prog_9_method_30_code 282 = .ok (.iload_n 2, 1) := by decide +kernel
theorem dd_Reader_readInstruction_283 : decode prog_9_method_30_code 283 = .ok (.aload_n 0, 1) := by decide +kernel
theorem dd_Reader_readInstruction_284 : decode prog_9_method_30_code 284 = .ok (.invokevirtual 255, 3) := by decide +kernel
theorem dd_Reader_readInstruction_287 : decode prog_9_method_30_code 287 = .ok (.lconst 0, 1) := by decide +kernel
theorem dd_Reader_readInstruction_288 : decode prog_9_method_30_code 288 = .ok (.invokevirtual 235, 3) := by decide +kernel
theorem dd_Reader_readInstruction_291 : decode prog_9_method_30_code 291 = .ok (.aload_n 0, 1) := by decide +kernel
theorem dd_Reader_readInstruction_292 : decode prog_9_method_30_code 292 = .ok (.getfield 31, 3) := by decide +kernel
theorem dd_Reader_readInstruction_295 : decode prog_9_method_30_code 295 = .ok (.iload_n 1, 1) := by decide +kernel
theorem dd_Reader_readInstruction_296 : decode prog_9_method_30_code 296 = .ok (.invokevirtual 239, 3) := by decide +kernel
theorem dd_Reader_readInstruction_299 : decode prog_9_method_30_code 299 = .ok (.ireturn, 1) := by decide +kernel
theorem dd_Reader_readInstruction_300 : decode prog_9_method_30_code 300 = .ok (.aload_n 0, 1) := by decide +kernel
theorem dd_Reader_readInstruction_301 : decode prog_9_method_30_code 301 = .ok (.getfield 31, 3) := by decide +kernel
theorem dd_Reader_readInstruction_304 : decode prog_9_method_30_code 304 = .ok (.getfield 258, 3) := by decide +kernel
theorem dd_Reader_readInstruction_307 : decode prog_9_method_30_code 307 = .ok (.iload_n 1, 1) := by decide +kernel
theorem dd_Reader_readInstruction_308 : decode prog_9_method_30_code 308 = .ok (.saload, 1) := by decide +kernel
theorem dd_Reader_readInstruction_309 : decode prog_9_method_30_code 309 = .ok (.iconst 4, 1) := by decide +kernel
theorem dd_Reader_readInstruction_310 : decode prog_9_method_30_code 310 = .ok (.if_icmp .eq 11, 3) := by decide +kernel
theorem dd_Reader_readInstruction_313 : decode prog_9_method_30_code 313 = .ok (.new 53, 3) := by decide +kernel
theorem dd_Reader_readInstruction_316 : decode prog_9_method_30_code 316 = .ok (.dup, 1) := by decide +kernel
theorem dd_Reader_readInstruction_317 : decode prog_9_method_30_code 317 = .ok (.invokespecial 55, 3) := by decide +kernel
theorem dd_Reader_readInstruction_320 : decode prog_9_method_30_code 320 = .ok (.athrow, 1) := by decide +kernel
theorem dd_Reader_readInstruction_321 : decode prog_9_method_30_code 321 = .ok (.aload_n 0, 1) := by decide +kernel
theorem dd_Reader_readInstruction_322 : decode prog_9_method_30_code 322 = .ok (.getfield 31, 3) := by decide +kernel
theorem dd_Reader_readInstruction_325 : decode prog_9_method_30_code 325 = .ok (.iload_n 2, 1) := by decide +kernel
theorem dd_Reader_readInstruction_326 : decode prog_9_method_30_code 326 = .ok (.iconst 0, 1) := by decide +kernel
theorem dd_Reader_readInstruction_327 : decode prog_9_method_30_code 327 = .ok (.lconst 0, 1) := by decide +kernel
theorem dd_Reader_readInstruction_328 : decode prog_9_method_30_code 328 = .ok (.invokevirtual 235, 3) := by decide +kernel
theorem dd_Reader_readInstruction_331 : decode prog_9_method_30_code 331 = .ok (.aload_n 0, 1) := by decide +kernel
theorem dd_Reader_readInstruction_332 : decode prog_9_method_30_code 332 = .ok (.getfield 31, 3) := by decide +kernel
theorem dd_Reader_readInstruction_335 : decode prog_9_method_30_code 335 = .ok (.iload_n 1, 1) := by decide +kernel
theorem dd_Reader_readInstruction_336 : decode prog_9_method_30_code 336 = .ok (.invokevirtual 262, 3) := by decide +kernel
theorem dd_Reader_readInstruction_339 : decode prog_9_method_30_code 339 = .ok (.ireturn, 1) := by decide +kernel
theorem dd_Reader_readInstruction_340 : decode prog_9_method_30_code 340 = .ok (.aload_n 0, 1) := by decide +kernel
theorem dd_Reader_readInstruction_341 : decode prog_9_method_30_code 341 = .ok (.getfield 31, 3) := by decide +kernel
theorem dd_Reader_readInstruction_344 : decode prog_9_method_30_code 344 = .ok (.aload_n 0, 1) := by decide +kernel
theorem dd_Reader_readInstruction_345 : decode prog_9_method_30_code 345 = .ok (.getfield 31, 3) := by decide +kernel
theorem dd_Reader_readInstruction_348 : decode prog_9_method_30_code 348 = .ok (.getfield 258, 3) := by decide +kernel
theorem dd_Reader_readInstruction_351 : decode prog_9_method_30_code 351 = .ok (.iload_n 1, 1) := by decide +kernel
theorem dd_Reader_readInstruction_352 : decode prog_9_method_30_code 352 = .ok (.saload, 1) := by decide +kernel
theorem dd_Reader_readInstruction_353 : decode prog_9_method_30_code 353 = .ok (.bipush 6, 2) := by decide +kernel
theorem dd_Reader_readInstruction_355 : decode prog_9_method_30_code 355 = .ok (.if_icmp .ne 8, 3) := by decide +kernel
theorem dd_Reader_readInstruction_358 : decode prog_9_method_30_code 358 = .ok (.bipush 7, 2) := by decide +kernel
theorem dd_Reader_readInstruction_360 : decode prog_9_method_30_code 360 = .ok (.goto 5, 3) := by decide +kernel
theorem dd_Reader_readInstruction_363 : decode prog_9_method_30_code 363 = .ok (.bipush 11, 2) := by decide +kernel
theorem dd_Reader_readInstruction_365 : decode prog_9_method_30_code 365 = .ok (.iconst 0, 1) := by decide +kernel
theorem dd_Reader_readInstruction_366 : decode prog_9_method_30_code 366 = .ok (.lconst 0, 1) := by decide +kernel
theorem dd_Reader_readInstruction_367 : decode prog_9_method_30_code 367 = .ok (.invokevirtual 235, 3) := by decide +kernel
theorem dd_Reader_readInstruction_370 : decode prog_9_method_30_code 370 = .ok (.aload_n 0, 1) := by decide +kernel
theorem dd_Reader_readInstruction_371 : decode prog_9_method_30_code 371 = .ok (.getfield 31, 3) := by decide +kernel
theorem dd_Reader_readInstruction_374 : decode prog_9_method_30_code 374 = .ok (.iload_n 1, 1) := by decide +kernel
theorem dd_Reader_readInstruction_375 : decode prog_9_method_30_code 375 = .ok (.invokevirtual 265, 3) := by decide +kernel
theorem dd_Reader_readInstruction_378 : decode prog_9_method_30_code 378 = .ok (.ireturn, 1) := by decide +kernel
theorem dd_Reader_readInstruction_379 : decode prog_9_method_30_code 379 = .ok (.new 268, 3) := by decide +kernel
theorem dd_Reader_readInstruction_382 : decode prog_9_method_30_code 382 = .ok (.dup, 1) := by decide +kernel
theorem dd_Reader_readInstruction_383 : decode prog_9_method_30_code 383 = .ok (.invokespecial 270, 3) := by decide +kernel
theorem dd_Reader_readInstruction_386 : decode prog_9_method_30_code 386 = .ok (.athrow, 1) := by decide +kernel
theorem dd_Reader_readInstruction_387 : decode prog_9_method_30_code 387 = .ok (.new 53, 3) := by decide +kernel
theorem dd_Reader_readInstruction_390 : decode prog_9_method_30_code 390 = .ok (.dup, 1) := by decide +kernel
theorem dd_Reader_readInstruction_391 : decode prog_9_method_30_code 391 = .ok (.invokespecial 55, 3) := by decide +kernel
theorem dd_Reader_readInstruction_394 : decode prog_9_method_30_code 394 = .ok (.athrow, 1) := by decide +kernel
theorem dd_Reader_readInstruction_395 : decode prog_9_method_30_code 395 = .ok (.iload_n 1, 1) := by decide +kernel
theorem dd_Reader_readInstruction_396 : decode prog_9_method_30_code 396 = .ok (.ireturn, 1) := by decide +kernel
theorem dd_Reader_readCode_0 : decode prog_9_method_28_code 0 = .ok (.aload_n 0, 1) := by decide +kernel
theorem dd_Reader_readCode_1 : decode prog_9_method_28_code 1 = .ok (.getfield 42, 3) := by decide +kernel
theorem dd_Reader_readCode_4 : decode prog_9_method_28_code 4 = .ok (.istore_n 1, 1) := by decide +kernel
theorem dd_Reader_readCode_5 : decode prog_9_method_28_code 5 = .ok (.aload_n 0, 1) := by decide +kernel
theorem dd_Reader_readCode_6 : decode prog_9_method_28_code 6 = .ok (.invokevirtual 78, 3) := by decide +kernel
theorem dd_Reader_readCode_9 : decode prog_9_method_28_code 9 = .ok (.istore_n 2, 1) := by decide +kernel
theorem dd_Reader_readCode_10 : decode prog_9_method_28_code 10 = .ok (.aload_n 0, 1) := by decide +kernel
theorem dd_Reader_readCode_11 : decode prog_9_method_28_code 11 = .ok (.getfield 9, 3) := by decide +kernel
theorem dd_Reader_readCode_14 : decode prog_9_method_28_code 14 = .ok (.iload_n 2, 1) := by decide +kernel
theorem dd_Reader_readCode_15 : decode prog_9_method_28_code 15 = .ok (.putfield 229, 3) := by decide +kernel
theorem dd_Reader_readCode_18 : decode prog_9_method_28_code 18 = .ok (.iconst 0, 1) := by decide +kernel
theorem dd_Reader_readCode_19 : decode prog_9_method_28_code 19 = .ok (.istore_n 3, 1) := by decide +kernel
theorem dd_Reader_readCode_20 : decode prog_9_method_28_code 20 = .ok (.iload_n 3, 1) := by decide +kernel
theorem dd_Reader_readCode_21 : decode prog_9_method_28_code 21 = .ok (.iload_n 2, 1) := by decide +kernel
theorem dd_Reader_readCode_22 : decode prog_9_method_28_code 22 = .ok (.if_icmp .ge 131, 3) := by decide +kernel
theorem dd_Reader_readCode_25 : decode prog_9_method_28_code 25 = .ok (.aload_n 0, 1) := by decide +kernel
theorem dd_Reader_readCode_26 : decode prog_9_method_28_code 26 = .ok (.iload_n 1, 1) := by decide +kernel
theorem dd_Reader_readCode_27 : decode prog_9_method_28_code 27 = .ok (.invokevirtual 56, 3) := by decide +kernel
theorem dd_Reader_readCode_30 : decode prog_9_method_28_code 30 = .ok (.istore 4, 2) := by decide +kernel
theorem dd_Reader_readCode_32 : decode prog_9_method_28_code 32 = .ok (.aload_n 0, 1) := by decide +kernel
theorem dd_Reader_readCode_33 : decode prog_9_method_28_code 33 = .ok (.aload_n 0, 1) := by decide +kernel
theorem dd_Reader_readCode_34 : decode prog_9_method_28_code 34 = .ok (.getfield 38, 3) := by decide +kernel
theorem dd_Reader_readCode_37 : decode prog_9_method_28_code 37 = .ok (.iload 4, 2) := by decide +kernel
theorem dd_Reader_readCode_39 : decode prog_9_method_28_code 39 = .ok (.iadd, 1) := by decide +kernel
theorem dd_Reader_readCode_40 : decode prog_9_method_28_code 40 = .ok (.putfield 42, 3) := by decide +kernel
theorem dd_Reader_readCode_43 : decode prog_9_method_28_code 43 = .ok (.aload_n 0, 1) := by decide +kernel
theorem dd_Reader_readCode_44 : decode prog_9_method_28_code 44 = .ok (.getfield 9, 3) := by decide +kernel
theorem dd_Reader_readCode_47 : decode prog_9_method_28_code 47 = .ok (.getfield 168, 3) := by decide +kernel
theorem dd_Reader_readCode_50 : decode prog_9_method_28_code 50 = .ok (.getfield 189, 3) := by decide +kernel
theorem dd_Reader_readCode_53 : decode prog_9_method_28_code 53 = .ok (.iload_n 3, 1) := by decide +kernel
theorem dd_Reader_readCode_54 : decode prog_9_method_28_code 54 = .ok (.bipush 64, 2) := by decide +kernel
theorem dd_Reader_readCode_56 : decode prog_9_method_28_code 56 = .ok (.invokestatic 139, 3) := by decide +kernel
theorem dd_Reader_readCode_59 : decode prog_9_method_28_code 59 = .ok (.aload_n 0, 1) := by decide +kernel
theorem dd_Reader_readCode_60 : decode prog_9_method_28_code 60 = .ok (.getfield 31, 3) := by decide +kernel
theorem dd_Reader_readCode_63 : decode prog_9_method_28_code 63 = .ok (.getfield 232, 3) := by decide +kernel
theorem dd_Reader_readCode_66 : decode prog_9_method_28_code 66 = .ok (.iastore, 1) := by decide +kernel
theorem dd_Reader_readCode_67 : decode prog_9_method_28_code 67 = .ok (.aload_n 0, 1) := by decide +kernel
theorem dd_Reader_readCode_68 : decode prog_9_method_28_code 68 = .ok (.getfield 31, 3) := by decide +kernel
theorem dd_Reader_readCode_71 : decode prog_9_method_28_code 71 = .ok (.bipush 6, 2) := by decide +kernel
theorem dd_Reader_readCode_73 : decode prog_9_method_28_code 73 = .ok (.iconst 0, 1) := by decide +kernel
theorem dd_Reader_readCode_74 : decode prog_9_method_28_code 74 = .ok (.lconst 0, 1) := by decide +kernel
theorem dd_Reader_readCode_75 : decode prog_9_method_28_code 75 = .ok (.invokevirtual 235, 3) := by decide +kernel
theorem dd_Reader_readCode_78 : decode prog_9_method_28_code 78 = .ok (.aload_n 0, 1) := by decide +kernel
theorem dd_Reader_readCode_79 : decode prog_9_method_28_code 79 = .ok (.getfield 31, 3) := by decide +kernel
theorem dd_Reader_readCode_82 : decode prog_9_method_28_code 82 = .ok (.iconst (-1), 1) := by decide +kernel
theorem dd_Reader_readCode_83 : decode prog_9_method_28_code 83 = .ok (.invokevirtual 239, 3) := by decide +kernel
theorem dd_Reader_readCode_86 : decode prog_9_method_28_code 86 = .ok (.istore 5, 2) := by decide +kernel
theorem dd_Reader_readCode_88 : decode prog_9_method_28_code 88 = .ok (.aload_n 0, 1) := by decide +kernel
theorem dd_Reader_readCode_89 : decode prog_9_method_28_code 89 = .ok (.invokevirtual 242, 3) := by decide +kernel
theorem dd_Reader_readCode_92 : decode prog_9_method_28_code 92 = .ok (.iconst 0, 1) := by decide +kernel
theorem dd_Reader_readCode_93 : decode prog_9_method_28_code 93 = .ok (.istore 6, 2) := by decide +kernel
theorem dd_Reader_readCode_95 : decode prog_9_method_28_code 95 = .ok (.iload 6, 2) := by decide +kernel
theorem dd_Reader_readCode_97 : decode prog_9_method_28_code 97 = .ok (.sipush 8192, 3) := by decide +kernel
theorem dd_Reader_readCode_100 : decode prog_9_method_28_code 100 = .ok (.if_icmp .ge 23, 3) := by decide +kernel
theorem dd_Reader_readCode_103 : decode prog_9_method_28_code 103 = .ok (.iload 5, 2) := by decide +kernel
theorem dd_Reader_readCode_105 : decode prog_9_method_28_code 105 = .ok (.iconst (-1), 1) := by decide +kernel
theorem dd_Reader_readCode_106 : decode prog_9_method_28_code 106 = .ok (.if_icmp .eq 17, 3) := by decide +kernel
theorem dd_Reader_readCode_109 : decode prog_9_method_28_code 109 = .ok (.aload_n 0, 1) := by decide +kernel
theorem dd_Reader_readCode_110 : decode prog_9_method_28_code 110 = .ok (.iload 5, 2) := by decide +kernel
theorem dd_Reader_readCode_112 : decode prog_9_method_28_code 112 = .ok (.invokevirtual 245, 3) := by decide +kernel
theorem dd_Reader_readCode_115 : decode prog_9_method_28_code 115 = .ok (.istore 5, 2) := by decide +kernel
theorem dd_Reader_readCode_117 : decode prog_9_method_28_code 117 = .ok (.iinc 6 1, 3) := by decide +kernel
theorem dd_Reader_readCode_120 : decode prog_9_method_28_code 120 = .ok (.goto (-25), 3) := by decide +kernel
theorem dd_Reader_readCode_123 : decode prog_9_method_28_code 123 = .ok (.aload_n 0, 1) := by decide +kernel
theorem dd_Reader_readCode_124 : decode prog_9_method_28_code 124 = .ok (.getfield 38, 3) := by decide +kernel
theorem dd_Reader_readCode_127 : decode prog_9_method_28_code 127 = .ok (.aload_n 0, 1) := by decide +kernel
theorem dd_Reader_readCode_128 : decode prog_9_method_28_code 128 = .ok (.getfield 42, 3) := by decide +kernel
theorem dd_Reader_readCode_131 : decode prog_9_method_28_code 131 = .ok (.if_icmp .eq 11, 3) := by decide +kernel
theorem dd_Reader_readCode_134 : decode prog_9_method_28_code 134 = .ok (.new 53, 3) := by decide +kernel
theorem dd_Reader_readCode_137 : decode prog_9_method_28_code 137 = .ok (.dup, 1) := by decide +kernel
theorem dd_Reader_readCode_138 : decode prog_9_method_28_code 138 = .ok (.invokespecial 55, 3) := by decide +kernel
theorem dd_Reader_readCode_141 : decode prog_9_method_28_code 141 = .ok (.athrow, 1) := by decide +kernel
theorem dd_Reader_readCode_142 : decode prog_9_method_28_code 142 = .ok (.aload_n 0, 1) := by decide +kernel
theorem dd_Reader_readCode_143 : decode prog_9_method_28_code 143 = .ok (.iload_n 1, 1) := by decide +kernel
theorem dd_Reader_readCode_144 : decode prog_9_method_28_code 144 = .ok (.putfield 42, 3) := by decide +kernel
theorem dd_Reader_readCode_147 : decode prog_9_method_28_code 147 = .ok (.iinc 3 1, 3) := by decide +kernel
theorem dd_Reader_readCode_150 : decode prog_9_method_28_code 150 = .ok (.goto (-130), 3) := by decide +kernel
theorem dd_Reader_readCode_153 : decode prog_9_method_28_code 153 = .ok (.return_, 1) := by decide +kernel
theorem dd_Reader_readModule_0 : decode prog_9_method_2_code 0 = .ok (.aload_n 1, 1) := by decide +kernel
theorem dd_Reader_readModule_1 : decode prog_9_method_2_code 1 = .ok (.iconst 0, 1) := by decide +kernel
theorem dd_Reader_readModule_2 : decode prog_9_method_2_code 2 = .ok (.aload_n 0, 1) := by decide +kernel
theorem dd_Reader_readModule_3 : decode prog_9_method_2_code 3 = .ok (.getfield 21, 3) := by decide +kernel
theorem dd_Reader_readModule_6 : decode prog_9_method_2_code 6 = .ok (.iconst 0, 1) := by decide +kernel
theorem dd_Reader_readModule_7 : decode prog_9_method_2_code 7 = .ok (.iload_n 2, 1) := by decide +kernel
theorem dd_Reader_readModule_8 : decode prog_9_method_2_code 8 = .ok (.invokestatic 32, 3) := by decide +kernel
theorem dd_Reader_readModule_11 : decode prog_9_method_2_code 11 = .ok (.aload_n 0, 1) := by decide +kernel
theorem dd_Reader_readModule_12 : decode prog_9_method_2_code 12 = .ok (.iconst 0, 1) := by decide +kernel
theorem dd_Reader_readModule_13 : decode prog_9_method_2_code 13 = .ok (.putfield 38, 3) := by decide +kernel
theorem dd_Reader_readModule_16 : decode prog_9_method_2_code 16 = .ok (.aload_n 0, 1) := by decide +kernel
theorem dd_Reader_readModule_17 : decode prog_9_method_2_code 17 = .ok (.iload_n 2, 1) := by decide +kernel
theorem dd_Reader_readModule_18 : decode prog_9_method_2_code 18 = .ok (.putfield 42, 3) := by decide +kernel
theorem dd_Reader_readModule_21 : decode prog_9_method_2_code 21 = .ok (.iconst 0, 1) := by decide +kernel
theorem dd_Reader_readModule_22 : decode prog_9_method_2_code 22 = .ok (.istore_n 3, 1) := by decide +kernel
theorem dd_Reader_readModule_23 : decode prog_9_method_2_code 23 = .ok (.iload_n 3, 1) := by decide +kernel
theorem dd_Reader_readModule_24 : decode prog_9_method_2_code 24 = .ok (.getstatic 45, 3) := by decide +kernel
theorem dd_Reader_readModule_27 : decode prog_9_method_2_code 27 = .ok (.arraylength, 1) := by decide +kernel
theorem dd_Reader_readModule_28 : decode prog_9_method_2_code 28 = .ok (.if_icmp .ge 29, 3) := by decide +kernel
theorem dd_Reader_readModule_31 : decode prog_9_method_2_code 31 = .ok (.aload_n 0, 1) := by decide +kernel
theorem dd_Reader_readModule_32 : decode prog_9_method_2_code 32 = .ok (.invokevirtual 49, 3) := by decide +kernel
theorem dd_Reader_readModule_35 : decode prog_9_method_2_code 35 = .ok (.getstatic 45, 3) := by decide +kernel
theorem dd_Reader_readModule_38 : decode prog_9_method_2_code 38 = .ok (.iload_n 3, 1) := by decide +kernel
theorem dd_Reader_readModule_39 : decode prog_9_method_2_code 39 = .ok (.iaload, 1) := by decide +kernel
theorem dd_Reader_readModule_40 : decode prog_9_method_2_code 40 = .ok (.if_icmp .eq 11, 3) := by decide +kernel
theorem dd_Reader_readModule_43 : decode prog_9_method_2_code 43 = .ok (.new 53, 3) := by decide +kernel
theorem dd_Reader_readModule_46 : decode prog_9_method_2_code 46 = .ok (.dup, 1) := by decide +kernel
theorem dd_Reader_readModule_47 : decode prog_9_method_2_code 47 = .ok (.invokespecial 55, 3) := by decide +kernel
theorem dd_Reader_readModule_50 : decode prog_9_method_2_code 50 = .ok (.athrow, 1) := by decide +kernel
theorem dd_Reader_readModule_51 : decode prog_9_method_2_code 51 = .ok (.iinc 3 1, 3) := by decide +kernel
theorem dd_Reader_readModule_54 : decode prog_9_method_2_code 54 = .ok (.goto (-31), 3) := by decide +kernel
theorem dd_Reader_readModule_57 : decode prog_9_method_2_code 57 = .ok (.iconst 0, 1) := by decide +kernel
theorem dd_Reader_readModule_58 : decode prog_9_method_2_code 58 = .ok (.istore_n 3, 1) := by decide +kernel
theorem dd_Reader_readModule_59 : decode prog_9_method_2_code 59 = .ok (.iconst 0, 1) := by decide +kernel
theorem dd_Reader_readModule_60 : decode prog_9_method_2_code 60 = .ok (.istore 4, 2) := by decide +kernel
theorem dd_Reader_readModule_62 : decode prog_9_method_2_code 62 = .ok (.iload 4, 2) := by decide +kernel
theorem dd_Reader_readModule_64 : decode prog_9_method_2_code 64 = .ok (.sipush 8192, 3) := by decide +kernel
theorem dd_Reader_readModule_67 : decode prog_9_method_2_code 67 = .ok (.if_icmp .ge 251, 3) := by decide +kernel
theorem dd_Reader_readModule_70 : decode prog_9_method_2_code 70 = .ok (.aload_n 0, 1) := by decide +kernel
theorem dd_Reader_readModule_71 : decode prog_9_method_2_code 71 = .ok (.getfield 38, 3) := by decide +kernel
theorem dd_Reader_readModule_74 : decode prog_9_method_2_code 74 = .ok (.iload_n 2, 1) := by decide +kernel
theorem dd_Reader_readModule_75 : decode prog_9_method_2_code 75 = .ok (.if_icmp .ge 243, 3) := by decide +kernel
theorem dd_Reader_readModule_78 : decode prog_9_method_2_code 78 = .ok (.aload_n 0, 1) := by decide +kernel
theorem dd_Reader_readModule_79 : decode prog_9_method_2_code 79 = .ok (.invokevirtual 49, 3) := by decide +kernel
theorem dd_Reader_readModule_82 : decode prog_9_method_2_code 82 = .ok (.istore 5, 2) := by decide +kernel
theorem dd_Reader_readModule_84 : decode prog_9_method_2_code 84 = .ok (.iload 5, 2) := by decide +kernel
theorem dd_Reader_readModule_86 : decode prog_9_method_2_code 86 = .ok (.ifCond .eq 30, 3) := by decide +kernel
theorem dd_Reader_readModule_89 : decode prog_9_method_2_code 89 = .ok (.iload 5, 2) := by decide +kernel
theorem dd_Reader_readModule_91 : decode prog_9_method_2_code 91 = .ok (.iload_n 3, 1) := by decide +kernel
theorem dd_Reader_readModule_92 : decode prog_9_method_2_code 92 = .ok (.if_icmp .le 16, 3) := by decide +kernel
theorem dd_Reader_readModule_95 : decode prog_9_method_2_code 95 = .ok (.iload 5, 2) := by decide +kernel
theorem dd_Reader_readModule_97 : decode prog_9_method_2_code 97 = .ok (.iconst 2, 1) := by decide +kernel
theorem dd_Reader_readModule_98 : decode prog_9_method_2_code 98 = .ok (.if_icmp .eq 10, 3) := by decide +kernel
theorem dd_Reader_readModule_101 : decode prog_9_method_2_code 101 = .ok (.iload 5, 2) := by decide +kernel
theorem dd_Reader_readModule_103 : decode prog_9_method_2_code 103 = .ok (.bipush 11, 2) := by decide +kernel
theorem dd_Reader_readModule_105 : decode prog_9_method_2_code 105 = .ok (.if_icmp .le 11, 3) := by decide +kernel
theorem dd_Reader_readModule_108 : decode prog_9_method_2_code 108 = .ok (.new 53, 3) := by decide +kernel
theorem dd_Reader_readModule_111 : decode prog_9_method_2_code 111 = .ok (.dup, 1) := by decide +kernel
theorem dd_Reader_readModule_112 : decode prog_9_method_2_code 112 = .ok (.invokespecial 55, 3) := by decide +kernel
theorem dd_Reader_readModule_115 : decode prog_9_method_2_code 115 = .ok (.athrow, 1) := by decide +kernel
theorem dd_Reader_readModule_116 : decode prog_9_method_2_code 116 = .ok (.aload_n 0, 1) := by decide +kernel
theorem dd_Reader_readModule_117 : decode prog_9_method_2_code 117 = .ok (.iload_n 2, 1) := by decide +kernel
theorem dd_Reader_readModule_118 : decode prog_9_method_2_code 118 = .ok (.invokevirtual 56, 3) := by decide +kernel
theorem dd_Reader_readModule_121 : decode prog_9_method_2_code 121 = .ok (.istore 6, 2) := by decide +kernel
theorem dd_Reader_readModule_123 : decode prog_9_method_2_code 123 = .ok (.aload_n 0, 1) := by decide +kernel
theorem dd_Reader_readModule_124 : decode prog_9_method_2_code 124 = .ok (.aload_n 0, 1) := by decide +kernel
theorem dd_Reader_readModule_125 : decode prog_9_method_2_code 125 = .ok (.getfield 38, 3) := by decide +kernel
theorem dd_Reader_readModule_128 : decode prog_9_method_2_code 128 = .ok (.iload 6, 2) := by decide +kernel
theorem dd_Reader_readModule_130 : decode prog_9_method_2_code 130 = .ok (.iadd, 1) := by decide +kernel
theorem dd_Reader_readModule_131 : decode prog_9_method_2_code 131 = .ok (.putfield 42, 3) := by decide +kernel
theorem dd_Reader_readModule_134 : decode prog_9_method_2_code 134 = .ok (.iload 5, 2) := by decide +kernel
theorem dd_Reader_readModule_136 : decode prog_9_method_2_code 136 = .ok (.tableswitch 141 0 10 #[60, 71, 141, 78, 85, 92, 99, 106, 113, 127, 134], 60) := by decide +kernel
theorem dd_Reader_readModule_196 : decode prog_9_method_2_code 196 = .ok (.aload_n 0, 1) := by decide +kernel
theorem dd_Reader_readModule_197 : decode prog_9_method_2_code 197 = .ok (.aload_n 0, 1) := by decide +kernel
theorem dd_Reader_readModule_198 : decode prog_9_method_2_code 198 = .ok (.getfield 42, 3) := by decide +kernel
theorem dd_Reader_readModule_201 : decode prog_9_method_2_code 201 = .ok (.putfield 38, 3) := by decide +kernel
theorem dd_Reader_readModule_204 : decode prog_9_method_2_code 204 = .ok (.goto 77, 3) := by decide +kernel
theorem dd_Reader_readModule_207 : decode prog_9_method_2_code 207 = .ok (.aload_n 0, 1) := by decide +kernel
theorem dd_Reader_readModule_208 : decode prog_9_method_2_code 208 = .ok (.invokevirtual 60, 3) := by decide +kernel
theorem dd_Reader_readModule_211 : decode prog_9_method_2_code 211 = .ok (.goto 70, 3) := by decide +kernel
theorem dd_Reader_readModule_214 : decode prog_9_method_2_code 214 = .ok (.aload_n 0, 1) := by decide +kernel
theorem dd_Reader_readModule_215 : decode prog_9_method_2_code 215 = .ok (.invokevirtual 63, 3) := by decide +kernel
theorem dd_Reader_readModule_218 : decode prog_9_method_2_code 218 = .ok (.goto 63, 3) := by decide +kernel
theorem dd_Reader_readModule_221 : decode prog_9_method_2_code 221 = .ok (.aload_n 0, 1) := by decide +kernel
theorem dd_Reader_readModule_222 : decode prog_9_method_2_code 222 = .ok (.invokevirtual 66, 3) := by decide +kernel
theorem dd_Reader_readModule_225 : decode prog_9_method_2_code 225 = .ok (.goto 56, 3) := by decide +kernel
theorem dd_Reader_readModule_228 : decode prog_9_method_2_code 228 = .ok (.aload_n 0, 1) := by decide +kernel
theorem dd_Reader_readModule_229 : decode prog_9_method_2_code 229 = .ok (.invokevirtual 69, 3) := by decide +kernel
theorem dd_Reader_readModule_232 : decode prog_9_method_2_code 232 = .ok (.goto 49, 3) := by decide +kernel
theorem dd_Reader_readModule_235 : decode prog_9_method_2_code 235 = .ok (.aload_n 0, 1) := by decide +kernel
theorem dd_Reader_readModule_236 : decode prog_9_method_2_code 236 = .ok (.invokevirtual 72, 3) := by decide +kernel
theorem dd_Reader_readModule_239 : decode prog_9_method_2_code 239 = .ok (.goto 42, 3) := by decide +kernel
theorem dd_Reader_readModule_242 : decode prog_9_method_2_code 242 = .ok (.aload_n 0, 1) := by decide +kernel
theorem dd_Reader_readModule_243 : decode prog_9_method_2_code 243 = .ok (.invokevirtual 75, 3) := by decide +kernel
theorem dd_Reader_readModule_246 : decode prog_9_method_2_code 246 = .ok (.goto 35, 3) := by decide +kernel
theorem dd_Reader_readModule_249 : decode prog_9_method_2_code 249 = .ok (.aload_n 0, 1) := by decide +kernel
theorem dd_Reader_readModule_250 : decode prog_9_method_2_code 250 = .ok (.getfield 9, 3) := by decide +kernel
theorem dd_Reader_readModule_253 : decode prog_9_method_2_code 253 = .ok (.aload_n 0, 1) := by decide +kernel
theorem dd_Reader_readModule_254 : decode prog_9_method_2_code 254 = .ok (.invokevirtual 78, 3) := by decide +kernel
theorem dd_Reader_readModule_257 : decode prog_9_method_2_code 257 = .ok (.putfield 81, 3) := by decide +kernel
theorem dd_Reader_readModule_260 : decode prog_9_method_2_code 260 = .ok (.goto 21, 3) := by decide +kernel
theorem dd_Reader_readModule_263 : decode prog_9_method_2_code 263 = .ok (.aload_n 0, 1) := by decide +kernel
theorem dd_Reader_readModule_264 : decode prog_9_method_2_code 264 = .ok (.invokevirtual 84, 3) := by decide +kernel
theorem dd_Reader_readModule_267 : decode prog_9_method_2_code 267 = .ok (.goto 14, 3) := by decide +kernel
theorem dd_Reader_readModule_270 : decode prog_9_method_2_code 270 = .ok (.aload_n 0, 1) := by decide +kernel
theorem dd_Reader_readModule_271 : decode prog_9_method_2_code 271 = .ok (.invokevirtual 87, 3) := by decide +kernel
theorem dd_Reader_readModule_274 : decode prog_9_method_2_code 274 = .ok (.goto 7, 3) := by decide +kernel
theorem dd_Reader_readModule_277 : decode prog_9_method_2_code 277 = .ok (.aload_n 0, 1) := by decide +kernel
theorem dd_Reader_readModule_278 : decode prog_9_method_2_code 278 = .ok (.invokevirtual 90, 3) := by decide +kernel
theorem dd_Reader_readModule_281 : decode prog_9_method_2_code 281 = .ok (.aload_n 0, 1) := by decide +kernel
theorem dd_Reader_readModule_282 : decode prog_9_method_2_code 282 = .ok (.getfield 38, 3) := by decide +kernel
theorem dd_Reader_readModule_285 : decode prog_9_method_2_code 285 = .ok (.aload_n 0, 1) := by decide +kernel
theorem dd_Reader_readModule_286 : decode prog_9_method_2_code 286 = .ok (.getfield 42, 3) := by decide +kernel
theorem dd_Reader_readModule_289 : decode prog_9_method_2_code 289 = .ok (.if_icmp .eq 11, 3) := by decide +kernel
theorem dd_Reader_readModule_292 : decode prog_9_method_2_code 292 = .ok (.new 53, 3) := by decide +kernel
theorem dd_Reader_readModule_295 : decode prog_9_method_2_code 295 = .ok (.dup, 1) := by decide +kernel
theorem dd_Reader_readModule_296 : decode prog_9_method_2_code 296 = .ok (.invokespecial 55, 3) := by decide +kernel
theorem dd_Reader_readModule_299 : decode prog_9_method_2_code 299 = .ok (.athrow, 1) := by decide +kernel
theorem dd_Reader_readModule_300 : decode prog_9_method_2_code 300 = .ok (.iload_n 3, 1) := by decide +kernel
theorem dd_Reader_readModule_301 : decode prog_9_method_2_code 301 = .ok (.iload 5, 2) := by decide +kernel
theorem dd_Reader_readModule_303 : decode prog_9_method_2_code 303 = .ok (.invokestatic 93, 3) := by decide +kernel
theorem dd_Reader_readModule_306 : decode prog_9_method_2_code 306 = .ok (.istore_n 3, 1) := by decide +kernel
theorem dd_Reader_readModule_307 : decode prog_9_method_2_code 307 = .ok (.aload_n 0, 1) := by decide +kernel
theorem dd_Reader_readModule_308 : decode prog_9_method_2_code 308 = .ok (.iload_n 2, 1) := by decide +kernel
theorem dd_Reader_readModule_309 : decode prog_9_method_2_code 309 = .ok (.putfield 42, 3) := by decide +kernel
theorem dd_Reader_readModule_312 : decode prog_9_method_2_code 312 = .ok (.iinc 4 1, 3) := by decide +kernel
theorem dd_Reader_readModule_315 : decode prog_9_method_2_code 315 = .ok (.goto (-253), 3) := by decide +kernel
theorem dd_Reader_readModule_318 : decode prog_9_method_2_code 318 = .ok (.return_, 1) := by decide +kernel
theorem dd_Checker_need_0 : decode prog_2_method_2_code 0 = .ok (.iload_n 0, 1) := by decide +kernel
theorem dd_Checker_need_1 : decode prog_2_method_2_code 1 = .ok (.ifCond .ne 11, 3) := by decide +kernel
theorem dd_Checker_need_4 : decode prog_2_method_2_code 4 = .ok (.new 43, 3) := by decide +kernel
theorem dd_Checker_need_7 : decode prog_2_method_2_code 7 = .ok (.dup, 1) := by decide +kernel
theorem dd_Checker_need_8 : decode prog_2_method_2_code 8 = .ok (.invokespecial 45, 3) := by decide +kernel
theorem dd_Checker_need_11 : decode prog_2_method_2_code 11 = .ok (.athrow, 1) := by decide +kernel
theorem dd_Checker_need_12 : decode prog_2_method_2_code 12 = .ok (.return_, 1) := by decide +kernel
theorem dd_Types_target_0 : decode prog_11_method_5_code 0 = .ok (.iload_n 0, 1) := by decide +kernel
theorem dd_Types_target_1 : decode prog_11_method_5_code 1 = .ok (.bipush 16, 2) := by decide +kernel
theorem dd_Types_target_3 : decode prog_11_method_5_code 3 = .ok (.isub, 1) := by decide +kernel
theorem dd_Types_target_4 : decode prog_11_method_5_code 4 = .ok (.iconst 1, 1) := by decide +kernel
theorem dd_Types_target_5 : decode prog_11_method_5_code 5 = .ok (.ishr, 1) := by decide +kernel
theorem dd_Types_target_6 : decode prog_11_method_5_code 6 = .ok (.ireturn, 1) := by decide +kernel
theorem dd_Types_orNull_0 : decode prog_11_method_4_code 0 = .ok (.iload_n 0, 1) := by decide +kernel
theorem dd_Types_orNull_1 : decode prog_11_method_4_code 1 = .ok (.invokestatic 27, 3) := by decide +kernel
theorem dd_Types_orNull_4 : decode prog_11_method_4_code 4 = .ok (.ifCond .eq 14, 3) := by decide +kernel
theorem dd_Types_orNull_7 : decode prog_11_method_4_code 7 = .ok (.iload_n 0, 1) := by decide +kernel
theorem dd_Types_orNull_8 : decode prog_11_method_4_code 8 = .ok (.iconst 1, 1) := by decide +kernel
theorem dd_Types_orNull_9 : decode prog_11_method_4_code 9 = .ok (.iand, 1) := by decide +kernel
theorem dd_Types_orNull_10 : decode prog_11_method_4_code 10 = .ok (.iconst 1, 1) := by decide +kernel
theorem dd_Types_orNull_11 : decode prog_11_method_4_code 11 = .ok (.if_icmp .ne 7, 3) := by decide +kernel
theorem dd_Types_orNull_14 : decode prog_11_method_4_code 14 = .ok (.iconst 1, 1) := by decide +kernel
theorem dd_Types_orNull_15 : decode prog_11_method_4_code 15 = .ok (.goto 4, 3) := by decide +kernel
theorem dd_Types_orNull_18 : decode prog_11_method_4_code 18 = .ok (.iconst 0, 1) := by decide +kernel
theorem dd_Types_orNull_19 : decode prog_11_method_4_code 19 = .ok (.ireturn, 1) := by decide +kernel
theorem dd_Types_alikeWithin_0 : decode prog_11_method_20_code 0 = .ok (.iload_n 1, 1) := by decide +kernel
theorem dd_Types_alikeWithin_1 : decode prog_11_method_20_code 1 = .ok (.invokestatic 27, 3) := by decide +kernel
theorem dd_Types_alikeWithin_4 : decode prog_11_method_20_code 4 = .ok (.ifCond .eq 26, 3) := by decide +kernel
theorem dd_Types_alikeWithin_7 : decode prog_11_method_20_code 7 = .ok (.iload_n 3, 1) := by decide +kernel
theorem dd_Types_alikeWithin_8 : decode prog_11_method_20_code 8 = .ok (.invokestatic 27, 3) := by decide +kernel
theorem dd_Types_alikeWithin_11 : decode prog_11_method_20_code 11 = .ok (.ifCond .eq 19, 3) := by decide +kernel
theorem dd_Types_alikeWithin_14 : decode prog_11_method_20_code 14 = .ok (.iload_n 1, 1) := by decide +kernel
theorem dd_Types_alikeWithin_15 : decode prog_11_method_20_code 15 = .ok (.invokestatic 50, 3) := by decide +kernel
theorem dd_Types_alikeWithin_18 : decode prog_11_method_20_code 18 = .ok (.iconst 3, 1) := by decide +kernel
theorem dd_Types_alikeWithin_19 : decode prog_11_method_20_code 19 = .ok (.if_icmp .lt 11, 3) := by decide +kernel
theorem dd_Types_alikeWithin_22 : decode prog_11_method_20_code 22 = .ok (.iload_n 3, 1) := by decide +kernel
theorem dd_Types_alikeWithin_23 : decode prog_11_method_20_code 23 = .ok (.invokestatic 50, 3) := by decide +kernel
theorem dd_Types_alikeWithin_26 : decode prog_11_method_20_code 26 = .ok (.iconst 3, 1) := by decide +kernel
theorem dd_Types_alikeWithin_27 : decode prog_11_method_20_code 27 = .ok (.if_icmp .ge 14, 3) := by decide +kernel
theorem dd_Types_alikeWithin_30 : decode prog_11_method_20_code 30 = .ok (.iload_n 1, 1) := by decide +kernel
theorem dd_Types_alikeWithin_31 : decode prog_11_method_20_code 31 = .ok (.iload_n 3, 1) := by decide +kernel
theorem dd_Types_alikeWithin_32 : decode prog_11_method_20_code 32 = .ok (.if_icmp .ne 7, 3) := by decide +kernel
theorem dd_Types_alikeWithin_35 : decode prog_11_method_20_code 35 = .ok (.iconst 1, 1) := by decide +kernel
theorem dd_Types_alikeWithin_36 : decode prog_11_method_20_code 36 = .ok (.goto 4, 3) := by decide +kernel
theorem dd_Types_alikeWithin_39 : decode prog_11_method_20_code 39 = .ok (.iconst 0, 1) := by decide +kernel
theorem dd_Types_alikeWithin_40 : decode prog_11_method_20_code 40 = .ok (.ireturn, 1) := by decide +kernel
theorem dd_Types_alikeWithin_41 : decode prog_11_method_20_code 41 = .ok (.iload_n 1, 1) := by decide +kernel
theorem dd_Types_alikeWithin_42 : decode prog_11_method_20_code 42 = .ok (.invokestatic 50, 3) := by decide +kernel
theorem dd_Types_alikeWithin_45 : decode prog_11_method_20_code 45 = .ok (.iconst 3, 1) := by decide +kernel
theorem dd_Types_alikeWithin_46 : decode prog_11_method_20_code 46 = .ok (.isub, 1) := by decide +kernel
theorem dd_Types_alikeWithin_47 : decode prog_11_method_20_code 47 = .ok (.istore 5, 2) := by decide +kernel
theorem dd_Types_alikeWithin_49 : decode prog_11_method_20_code 49 = .ok (.iload_n 3, 1) := by decide +kernel
theorem dd_Types_alikeWithin_50 : decode prog_11_method_20_code 50 = .ok (.invokestatic 50, 3) := by decide +kernel
theorem dd_Types_alikeWithin_53 : decode prog_11_method_20_code 53 = .ok (.iconst 3, 1) := by decide +kernel
theorem dd_Types_alikeWithin_54 : decode prog_11_method_20_code 54 = .ok (.isub, 1) := by decide +kernel
theorem dd_Types_alikeWithin_55 : decode prog_11_method_20_code 55 = .ok (.istore 6, 2) := by decide +kernel
theorem dd_Types_alikeWithin_57 : decode prog_11_method_20_code 57 = .ok (.iload_n 1, 1) := by decide +kernel
theorem dd_Types_alikeWithin_58 : decode prog_11_method_20_code 58 = .ok (.invokestatic 31, 3) := by decide +kernel
theorem dd_Types_alikeWithin_61 : decode prog_11_method_20_code 61 = .ok (.iload_n 3, 1) := by decide +kernel
theorem dd_Types_alikeWithin_62 : decode prog_11_method_20_code 62 = .ok (.invokestatic 31, 3) := by decide +kernel
theorem dd_Types_alikeWithin_65 : decode prog_11_method_20_code 65 = .ok (.if_icmp .ne 29, 3) := by decide +kernel
theorem dd_Types_alikeWithin_68 : decode prog_11_method_20_code 68 = .ok (.iload 5, 2) := by decide +kernel
theorem dd_Types_alikeWithin_70 : decode prog_11_method_20_code 70 = .ok (.iload_n 2, 1) := by decide +kernel
theorem dd_Types_alikeWithin_71 : decode prog_11_method_20_code 71 = .ok (.if_icmp .ne 7, 3) := by decide +kernel
theorem dd_Types_alikeWithin_74 : decode prog_11_method_20_code 74 = .ok (.iconst 1, 1) := by decide +kernel
theorem dd_Types_alikeWithin_75 : decode prog_11_method_20_code 75 = .ok (.goto 4, 3) := by decide +kernel
theorem dd_Types_alikeWithin_78 : decode prog_11_method_20_code 78 = .ok (.iconst 0, 1) := by decide +kernel
theorem dd_Types_alikeWithin_79 : decode prog_11_method_20_code 79 = .ok (.iload 6, 2) := by decide +kernel
theorem dd_Types_alikeWithin_81 : decode prog_11_method_20_code 81 = .ok (.iload 4, 2) := by decide +kernel
theorem dd_Types_alikeWithin_83 : decode prog_11_method_20_code 83 = .ok (.if_icmp .ne 7, 3) := by decide +kernel
theorem dd_Types_alikeWithin_86 : decode prog_11_method_20_code 86 = .ok (.iconst 1, 1) := by decide +kernel
theorem dd_Types_alikeWithin_87 : decode prog_11_method_20_code 87 = .ok (.goto 4, 3) := by decide +kernel
theorem dd_Types_alikeWithin_90 : decode prog_11_method_20_code 90 = .ok (.iconst 0, 1) := by decide +kernel
theorem dd_Types_alikeWithin_91 : decode prog_11_method_20_code 91 = .ok (.if_icmp .eq 5, 3) := by decide +kernel
theorem dd_Types_alikeWithin_94 : decode prog_11_method_20_code 94 = .ok (.iconst 0, 1) := by decide +kernel
theorem dd_Types_alikeWithin_95 : decode prog_11_method_20_code 95 = .ok (.ireturn, 1) := by decide +kernel
theorem dd_Types_alikeWithin_96 : decode prog_11_method_20_code 96 = .ok (.iload 5, 2) := by decide +kernel
theorem dd_Types_alikeWithin_98 : decode prog_11_method_20_code 98 = .ok (.iload_n 2, 1) := by decide +kernel
theorem dd_Types_alikeWithin_99 : decode prog_11_method_20_code 99 = .ok (.if_icmp .eq 20, 3) := by decide +kernel
theorem dd_Types_alikeWithin_102 : decode prog_11_method_20_code 102 = .ok (.aload_n 0, 1) := by decide +kernel
theorem dd_Types_alikeWithin_103 : decode prog_11_method_20_code 103 = .ok (.getfield 21, 3) := by decide +kernel
theorem dd_Types_alikeWithin_106 : decode prog_11_method_20_code 106 = .ok (.iload 5, 2) := by decide +kernel
theorem dd_Types_alikeWithin_108 : decode prog_11_method_20_code 108 = .ok (.iaload, 1) := by decide +kernel
theorem dd_Types_alikeWithin_109 : decode prog_11_method_20_code 109 = .ok (.aload_n 0, 1) := by decide +kernel
theorem dd_Types_alikeWithin_110 : decode prog_11_method_20_code 110 = .ok (.getfield 21, 3) := by decide +kernel
theorem dd_Types_alikeWithin_113 : decode prog_11_method_20_code 113 = .ok (.iload 6, 2) := by decide +kernel
theorem dd_Types_alikeWithin_115 : decode prog_11_method_20_code 115 = .ok (.iaload, 1) := by decide +kernel
theorem dd_Types_alikeWithin_116 : decode prog_11_method_20_code 116 = .ok (.if_icmp .ne 7, 3) := by decide +kernel
theorem dd_Types_alikeWithin_119 : decode prog_11_method_20_code 119 = .ok (.iconst 1, 1) := by decide +kernel
theorem dd_Types_alikeWithin_120 : decode prog_11_method_20_code 120 = .ok (.goto 4, 3) := by decide +kernel
theorem dd_Types_alikeWithin_123 : decode prog_11_method_20_code 123 = .ok (.iconst 0, 1) := by decide +kernel
theorem dd_Types_alikeWithin_124 : decode prog_11_method_20_code 124 = .ok (.ireturn, 1) := by decide +kernel
theorem dd_Types_alike_0 : decode prog_11_method_19_code 0 = .ok (.aload_n 0, 1) := by decide +kernel
theorem dd_Types_alike_1 : decode prog_11_method_19_code 1 = .ok (.getfield 9, 3) := by decide +kernel
theorem dd_Types_alike_4 : decode prog_11_method_19_code 4 = .ok (.iload_n 1, 1) := by decide +kernel
theorem dd_Types_alike_5 : decode prog_11_method_19_code 5 = .ok (.iaload, 1) := by decide +kernel
theorem dd_Types_alike_6 : decode prog_11_method_19_code 6 = .ok (.aload_n 0, 1) := by decide +kernel
theorem dd_Types_alike_7 : decode prog_11_method_19_code 7 = .ok (.getfield 9, 3) := by decide +kernel
theorem dd_Types_alike_10 : decode prog_11_method_19_code 10 = .ok (.iload_n 2, 1) := by decide +kernel
theorem dd_Types_alike_11 : decode prog_11_method_19_code 11 = .ok (.iaload, 1) := by decide +kernel
theorem dd_Types_alike_12 : decode prog_11_method_19_code 12 = .ok (.if_icmp .ne 33, 3) := by decide +kernel
theorem dd_Types_alike_15 : decode prog_11_method_19_code 15 = .ok (.aload_n 0, 1) := by decide +kernel
theorem dd_Types_alike_16 : decode prog_11_method_19_code 16 = .ok (.getfield 15, 3) := by decide +kernel
theorem dd_Types_alike_19 : decode prog_11_method_19_code 19 = .ok (.iload_n 1, 1) := by decide +kernel
theorem dd_Types_alike_20 : decode prog_11_method_19_code 20 = .ok (.iaload, 1) := by decide +kernel
theorem dd_Types_alike_21 : decode prog_11_method_19_code 21 = .ok (.aload_n 0, 1) := by decide +kernel
theorem dd_Types_alike_22 : decode prog_11_method_19_code 22 = .ok (.getfield 15, 3) := by decide +kernel
theorem dd_Types_alike_25 : decode prog_11_method_19_code 25 = .ok (.iload_n 2, 1) := by decide +kernel
theorem dd_Types_alike_26 : decode prog_11_method_19_code 26 = .ok (.iaload, 1) := by decide +kernel
theorem dd_Types_alike_27 : decode prog_11_method_19_code 27 = .ok (.if_icmp .ne 18, 3) := by decide +kernel
theorem dd_Types_alike_30 : decode prog_11_method_19_code 30 = .ok (.aload_n 0, 1) := by decide +kernel
theorem dd_Types_alike_31 : decode prog_11_method_19_code 31 = .ok (.getfield 18, 3) := by decide +kernel
theorem dd_Types_alike_34 : decode prog_11_method_19_code 34 = .ok (.iload_n 1, 1) := by decide +kernel
theorem dd_Types_alike_35 : decode prog_11_method_19_code 35 = .ok (.iaload, 1) := by decide +kernel
theorem dd_Types_alike_36 : decode prog_11_method_19_code 36 = .ok (.aload_n 0, 1) := by decide +kernel
theorem dd_Types_alike_37 : decode prog_11_method_19_code 37 = .ok (.getfield 18, 3) := by decide +kernel
theorem dd_Types_alike_40 : decode prog_11_method_19_code 40 = .ok (.iload_n 2, 1) := by decide +kernel
theorem dd_Types_alike_41 : decode prog_11_method_19_code 41 = .ok (.iaload, 1) := by decide +kernel
theorem dd_Types_alike_42 : decode prog_11_method_19_code 42 = .ok (.if_icmp .eq 5, 3) := by decide +kernel
theorem dd_Types_alike_45 : decode prog_11_method_19_code 45 = .ok (.iconst 0, 1) := by decide +kernel
theorem dd_Types_alike_46 : decode prog_11_method_19_code 46 = .ok (.ireturn, 1) := by decide +kernel
theorem dd_Types_alike_47 : decode prog_11_method_19_code 47 = .ok (.bipush 34, 2) := by decide +kernel
theorem dd_Types_alike_49 : decode prog_11_method_19_code 49 = .ok (.iload_n 1, 1) := by decide +kernel
theorem dd_Types_alike_50 : decode prog_11_method_19_code 50 = .ok (.imul, 1) := by decide +kernel
theorem dd_Types_alike_51 : decode prog_11_method_19_code 51 = .ok (.istore_n 3, 1) := by decide +kernel
theorem dd_Types_alike_52 : decode prog_11_method_19_code 52 = .ok (.bipush 34, 2) := by decide +kernel
theorem dd_Types_alike_54 : decode prog_11_method_19_code 54 = .ok (.iload_n 2, 1) := by decide +kernel
theorem dd_Types_alike_55 : decode prog_11_method_19_code 55 = .ok (.imul, 1) := by decide +kernel
theorem dd_Types_alike_56 : decode prog_11_method_19_code 56 = .ok (.istore 4, 2) := by decide +kernel
theorem dd_Types_alike_58 : decode prog_11_method_19_code 58 = .ok (.aload_n 0, 1) := by decide +kernel
theorem dd_Types_alike_59 : decode prog_11_method_19_code 59 = .ok (.getfield 9, 3) := by decide +kernel
theorem dd_Types_alike_62 : decode prog_11_method_19_code 62 = .ok (.iload_n 1, 1) := by decide +kernel
theorem dd_Types_alike_63 : decode prog_11_method_19_code 63 = .ok (.iaload, 1) := by decide +kernel
theorem dd_Types_alike_64 : decode prog_11_method_19_code 64 = .ok (.bipush 96, 2) := by decide +kernel
theorem dd_Types_alike_66 : decode prog_11_method_19_code 66 = .ok (.if_icmp .ne 12, 3) := by decide +kernel
theorem dd_Types_alike_69 : decode prog_11_method_19_code 69 = .ok (.aload_n 0, 1) := by decide +kernel
theorem dd_Types_alike_70 : decode prog_11_method_19_code 70 = .ok (.getfield 18, 3) := by decide +kernel
theorem dd_Types_alike_73 : decode prog_11_method_19_code 73 = .ok (.iload_n 1, 1) := by decide +kernel
theorem dd_Types_alike_74 : decode prog_11_method_19_code 74 = .ok (.iaload, 1) := by decide +kernel
theorem dd_Types_alike_75 : decode prog_11_method_19_code 75 = .ok (.goto 9, 3) := by decide +kernel
theorem dd_Types_alike_78 : decode prog_11_method_19_code 78 = .ok (.aload_n 0, 1) := by decide +kernel
theorem dd_Types_alike_79 : decode prog_11_method_19_code 79 = .ok (.getfield 15, 3) := by decide +kernel
theorem dd_Types_alike_82 : decode prog_11_method_19_code 82 = .ok (.iload_n 1, 1) := by decide +kernel
theorem dd_Types_alike_83 : decode prog_11_method_19_code 83 = .ok (.iaload, 1) := by decide +kernel
theorem dd_Types_alike_84 : decode prog_11_method_19_code 84 = .ok (.istore 5, 2) := by decide +kernel
theorem dd_Types_alike_86 : decode prog_11_method_19_code 86 = .ok (.iconst 0, 1) := by decide +kernel
theorem dd_Types_alike_87 : decode prog_11_method_19_code 87 = .ok (.istore 6, 2) := by decide +kernel
theorem dd_Types_alike_89 : decode prog_11_method_19_code 89 = .ok (.iload 6, 2) := by decide +kernel
theorem dd_Types_alike_91 : decode prog_11_method_19_code 91 = .ok (.aload_n 0, 1) := by decide +kernel
theorem dd_Types_alike_92 : decode prog_11_method_19_code 92 = .ok (.getfield 15, 3) := by decide +kernel
theorem dd_Types_alike_95 : decode prog_11_method_19_code 95 = .ok (.iload_n 1, 1) := by decide +kernel
theorem dd_Types_alike_96 : decode prog_11_method_19_code 96 = .ok (.iaload, 1) := by decide +kernel
theorem dd_Types_alike_97 : decode prog_11_method_19_code 97 = .ok (.if_icmp .ge 39, 3) := by decide +kernel
theorem dd_Types_alike_100 : decode prog_11_method_19_code 100 = .ok (.aload_n 0, 1) := by decide +kernel
theorem dd_Types_alike_101 : decode prog_11_method_19_code 101 = .ok (.aload_n 0, 1) := by decide +kernel
theorem dd_Types_alike_102 : decode prog_11_method_19_code 102 = .ok (.getfield 24, 3) := by decide +kernel
theorem dd_Types_alike_105 : decode prog_11_method_19_code 105 = .ok (.iload_n 3, 1) := by decide +kernel
theorem dd_Types_alike_106 : decode prog_11_method_19_code 106 = .ok (.iload 6, 2) := by decide +kernel
theorem dd_Types_alike_108 : decode prog_11_method_19_code 108 = .ok (.iadd, 1) := by decide +kernel
theorem dd_Types_alike_109 : decode prog_11_method_19_code 109 = .ok (.iaload, 1) := by decide +kernel
theorem dd_Types_alike_110 : decode prog_11_method_19_code 110 = .ok (.iload_n 1, 1) := by decide +kernel
theorem dd_Types_alike_111 : decode prog_11_method_19_code 111 = .ok (.aload_n 0, 1) := by decide +kernel
theorem dd_Types_alike_112 : decode prog_11_method_19_code 112 = .ok (.getfield 24, 3) := by decide +kernel
theorem dd_Types_alike_115 : decode prog_11_method_19_code 115 = .ok (.iload 4, 2) := by decide +kernel
theorem dd_Types_alike_117 : decode prog_11_method_19_code 117 = .ok (.iload 6, 2) := by decide +kernel
theorem dd_Types_alike_119 : decode prog_11_method_19_code 119 = .ok (.iadd, 1) := by decide +kernel
theorem dd_Types_alike_120 : decode prog_11_method_19_code 120 = .ok (.iaload, 1) := by decide +kernel
theorem dd_Types_alike_121 : decode prog_11_method_19_code 121 = .ok (.iload_n 2, 1) := by decide +kernel
theorem dd_Types_alike_122 : decode prog_11_method_19_code 122 = .ok (.invokevirtual 61, 3) := by decide +kernel
theorem dd_Types_alike_125 : decode prog_11_method_19_code 125 = .ok (.ifCond .ne 5, 3) := by decide +kernel
theorem dd_Types_alike_128 : decode prog_11_method_19_code 128 = .ok (.iconst 0, 1) := by decide +kernel
theorem dd_Types_alike_129 : decode prog_11_method_19_code 129 = .ok (.ireturn, 1) := by decide +kernel
theorem dd_Types_alike_130 : decode prog_11_method_19_code 130 = .ok (.iinc 6 1, 3) := by decide +kernel
theorem dd_Types_alike_133 : decode prog_11_method_19_code 133 = .ok (.goto (-44), 3) := by decide +kernel
theorem dd_Types_alike_136 : decode prog_11_method_19_code 136 = .ok (.bipush 17, 2) := by decide +kernel
theorem dd_Types_alike_138 : decode prog_11_method_19_code 138 = .ok (.istore 6, 2) := by decide +kernel
theorem dd_Types_alike_140 : decode prog_11_method_19_code 140 = .ok (.iload 6, 2) := by decide +kernel
theorem dd_Types_alike_142 : decode prog_11_method_19_code 142 = .ok (.bipush 17, 2) := by decide +kernel
theorem dd_Types_alike_144 : decode prog_11_method_19_code 144 = .ok (.iload 5, 2) := by decide +kernel
theorem dd_Types_alike_146 : decode prog_11_method_19_code 146 = .ok (.iadd, 1) := by decide +kernel
theorem dd_Types_alike_147 : decode prog_11_method_19_code 147 = .ok (.if_icmp .ge 39, 3) := by decide +kernel
theorem dd_Types_alike_150 : decode prog_11_method_19_code 150 = .ok (.aload_n 0, 1) := by decide +kernel
theorem dd_Types_alike_151 : decode prog_11_method_19_code 151 = .ok (.aload_n 0, 1) := by decide +kernel
theorem dd_Types_alike_152 : decode prog_11_method_19_code 152 = .ok (.getfield 24, 3) := by decide +kernel
theorem dd_Types_alike_155 : decode prog_11_method_19_code 155 = .ok (.iload_n 3, 1) := by decide +kernel
theorem dd_Types_alike_156 : decode prog_11_method_19_code 156 = .ok (.iload 6, 2) := by decide +kernel
theorem dd_Types_alike_158 : decode prog_11_method_19_code 158 = .ok (.iadd, 1) := by decide +kernel
theorem dd_Types_alike_159 : decode prog_11_method_19_code 159 = .ok (.iaload, 1) := by decide +kernel
theorem dd_Types_alike_160 : decode prog_11_method_19_code 160 = .ok (.iload_n 1, 1) := by decide +kernel
theorem dd_Types_alike_161 : decode prog_11_method_19_code 161 = .ok (.aload_n 0, 1) := by decide +kernel
theorem dd_Types_alike_162 : decode prog_11_method_19_code 162 = .ok (.getfield 24, 3) := by decide +kernel
theorem dd_Types_alike_165 : decode prog_11_method_19_code 165 = .ok (.iload 4, 2) := by decide +kernel
theorem dd_Types_alike_167 : decode prog_11_method_19_code 167 = .ok (.iload 6, 2) := by decide +kernel
theorem dd_Types_alike_169 : decode prog_11_method_19_code 169 = .ok (.iadd, 1) := by decide +kernel
theorem dd_Types_alike_170 : decode prog_11_method_19_code 170 = .ok (.iaload, 1) := by decide +kernel
theorem dd_Types_alike_171 : decode prog_11_method_19_code 171 = .ok (.iload_n 2, 1) := by decide +kernel
theorem dd_Types_alike_172 : decode prog_11_method_19_code 172 = .ok (.invokevirtual 61, 3) := by decide +kernel
theorem dd_Types_alike_175 : decode prog_11_method_19_code 175 = .ok (.ifCond .ne 5, 3) := by decide +kernel
theorem dd_Types_alike_178 : decode prog_11_method_19_code 178 = .ok (.iconst 0, 1) := by decide +kernel
theorem dd_Types_alike_179 : decode prog_11_method_19_code 179 = .ok (.ireturn, 1) := by decide +kernel
theorem dd_Types_alike_180 : decode prog_11_method_19_code 180 = .ok (.iinc 6 1, 3) := by decide +kernel
theorem dd_Types_alike_183 : decode prog_11_method_19_code 183 = .ok (.goto (-43), 3) := by decide +kernel
theorem dd_Types_alike_186 : decode prog_11_method_19_code 186 = .ok (.iconst 1, 1) := by decide +kernel
theorem dd_Types_alike_187 : decode prog_11_method_19_code 187 = .ok (.ireturn, 1) := by decide +kernel
theorem dd_Types_group_0 : decode prog_11_method_18_code 0 = .ok (.iconst 0, 1) := by decide +kernel
theorem dd_Types_group_1 : decode prog_11_method_18_code 1 = .ok (.istore_n 1, 1) := by decide +kernel
theorem dd_Types_group_2 : decode prog_11_method_18_code 2 = .ok (.iload_n 1, 1) := by decide +kernel
theorem dd_Types_group_3 : decode prog_11_method_18_code 3 = .ok (.aload_n 0, 1) := by decide +kernel
theorem dd_Types_group_4 : decode prog_11_method_18_code 4 = .ok (.getfield 46, 3) := by decide +kernel
theorem dd_Types_group_7 : decode prog_11_method_18_code 7 = .ok (.if_icmp .ge 58, 3) := by decide +kernel
theorem dd_Types_group_10 : decode prog_11_method_18_code 10 = .ok (.aload_n 0, 1) := by decide +kernel
theorem dd_Types_group_11 : decode prog_11_method_18_code 11 = .ok (.getfield 21, 3) := by decide +kernel
theorem dd_Types_group_14 : decode prog_11_method_18_code 14 = .ok (.iload_n 1, 1) := by decide +kernel
theorem dd_Types_group_15 : decode prog_11_method_18_code 15 = .ok (.iload_n 1, 1) := by decide +kernel
theorem dd_Types_group_16 : decode prog_11_method_18_code 16 = .ok (.iastore, 1) := by decide +kernel
theorem dd_Types_group_17 : decode prog_11_method_18_code 17 = .ok (.iconst 0, 1) := by decide +kernel
theorem dd_Types_group_18 : decode prog_11_method_18_code 18 = .ok (.istore_n 2, 1) := by decide +kernel
theorem dd_Types_group_19 : decode prog_11_method_18_code 19 = .ok (.iload_n 2, 1) := by decide +kernel
theorem dd_Types_group_20 : decode prog_11_method_18_code 20 = .ok (.iload_n 1, 1) := by decide +kernel
theorem dd_Types_group_21 : decode prog_11_method_18_code 21 = .ok (.if_icmp .ge 38, 3) := by decide +kernel
theorem dd_Types_group_24 : decode prog_11_method_18_code 24 = .ok (.aload_n 0, 1) := by decide +kernel
theorem dd_Types_group_25 : decode prog_11_method_18_code 25 = .ok (.getfield 21, 3) := by decide +kernel
theorem dd_Types_group_28 : decode prog_11_method_18_code 28 = .ok (.iload_n 2, 1) := by decide +kernel
theorem dd_Types_group_29 : decode prog_11_method_18_code 29 = .ok (.iaload, 1) := by decide +kernel
theorem dd_Types_group_30 : decode prog_11_method_18_code 30 = .ok (.iload_n 2, 1) := by decide +kernel
theorem dd_Types_group_31 : decode prog_11_method_18_code 31 = .ok (.if_icmp .ne 22, 3) := by decide +kernel
theorem dd_Types_group_34 : decode prog_11_method_18_code 34 = .ok (.aload_n 0, 1) := by decide +kernel
theorem dd_Types_group_35 : decode prog_11_method_18_code 35 = .ok (.iload_n 1, 1) := by decide +kernel
theorem dd_Types_group_36 : decode prog_11_method_18_code 36 = .ok (.iload_n 2, 1) := by decide +kernel
theorem dd_Types_group_37 : decode prog_11_method_18_code 37 = .ok (.invokevirtual 57, 3) := by decide +kernel
theorem dd_Types_group_40 : decode prog_11_method_18_code 40 = .ok (.ifCond .eq 13, 3) := by decide +kernel
theorem dd_Types_group_43 : decode prog_11_method_18_code 43 = .ok (.aload_n 0, 1) := by decide +kernel
theorem dd_Types_group_44 : decode prog_11_method_18_code 44 = .ok (.getfield 21, 3) := by decide +kernel
theorem dd_Types_group_47 : decode prog_11_method_18_code 47 = .ok (.iload_n 1, 1) := by decide +kernel
theorem dd_Types_group_48 : decode prog_11_method_18_code 48 = .ok (.iload_n 2, 1) := by decide +kernel
theorem dd_Types_group_49 : decode prog_11_method_18_code 49 = .ok (.iastore, 1) := by decide +kernel
theorem dd_Types_group_50 : decode prog_11_method_18_code 50 = .ok (.goto 9, 3) := by decide +kernel
theorem dd_Types_group_53 : decode prog_11_method_18_code 53 = .ok (.iinc 2 1, 3) := by decide +kernel
theorem dd_Types_group_56 : decode prog_11_method_18_code 56 = .ok (.goto (-37), 3) := by decide +kernel
theorem dd_Types_group_59 : decode prog_11_method_18_code 59 = .ok (.iinc 1 1, 3) := by decide +kernel
theorem dd_Types_group_62 : decode prog_11_method_18_code 62 = .ok (.goto (-60), 3) := by decide +kernel
theorem dd_Types_group_65 : decode prog_11_method_18_code 65 = .ok (.return_, 1) := by decide +kernel
theorem dd_Types_outcome_0 : decode prog_11_method_11_code 0 = .ok (.aload_n 0, 1) := by decide +kernel
theorem dd_Types_outcome_1 : decode prog_11_method_11_code 1 = .ok (.getfield 24, 3) := by decide +kernel
theorem dd_Types_outcome_4 : decode prog_11_method_11_code 4 = .ok (.bipush 34, 2) := by decide +kernel
theorem dd_Types_outcome_6 : decode prog_11_method_11_code 6 = .ok (.iload_n 1, 1) := by decide +kernel
theorem dd_Types_outcome_7 : decode prog_11_method_11_code 7 = .ok (.imul, 1) := by decide +kernel
theorem dd_Types_outcome_8 : decode prog_11_method_11_code 8 = .ok (.bipush 17, 2) := by decide +kernel
theorem dd_Types_outcome_10 : decode prog_11_method_11_code 10 = .ok (.iadd, 1) := by decide +kernel
theorem dd_Types_outcome_11 : decode prog_11_method_11_code 11 = .ok (.iload_n 2, 1) := by decide +kernel
theorem dd_Types_outcome_12 : decode prog_11_method_11_code 12 = .ok (.iadd, 1) := by decide +kernel
theorem dd_Types_outcome_13 : decode prog_11_method_11_code 13 = .ok (.iaload, 1) := by decide +kernel
theorem dd_Types_outcome_14 : decode prog_11_method_11_code 14 = .ok (.ireturn, 1) := by decide +kernel
theorem dd_Types_knowsTarget_0 : decode prog_11_method_16_code 0 = .ok (.iload_n 1, 1) := by decide +kernel
theorem dd_Types_knowsTarget_1 : decode prog_11_method_16_code 1 = .ok (.iconst 3, 1) := by decide +kernel
theorem dd_Types_knowsTarget_2 : decode prog_11_method_16_code 2 = .ok (.if_icmp .lt 26, 3) := by decide +kernel
theorem dd_Types_knowsTarget_5 : decode prog_11_method_16_code 5 = .ok (.iload_n 1, 1) := by decide +kernel
theorem dd_Types_knowsTarget_6 : decode prog_11_method_16_code 6 = .ok (.iconst 3, 1) := by decide +kernel
theorem dd_Types_knowsTarget_7 : decode prog_11_method_16_code 7 = .ok (.isub, 1) := by decide +kernel
theorem dd_Types_knowsTarget_8 : decode prog_11_method_16_code 8 = .ok (.aload_n 0, 1) := by decide +kernel
theorem dd_Types_knowsTarget_9 : decode prog_11_method_16_code 9 = .ok (.getfield 46, 3) := by decide +kernel
theorem dd_Types_knowsTarget_12 : decode prog_11_method_16_code 12 = .ok (.if_icmp .ge 20, 3) := by decide +kernel
theorem dd_Types_knowsTarget_15 : decode prog_11_method_16_code 15 = .ok (.aload_n 0, 1) := by decide +kernel
theorem dd_Types_knowsTarget_16 : decode prog_11_method_16_code 16 = .ok (.getfield 9, 3) := by decide +kernel
theorem dd_Types_knowsTarget_19 : decode prog_11_method_16_code 19 = .ok (.iload_n 1, 1) := by decide +kernel
theorem dd_Types_knowsTarget_20 : decode prog_11_method_16_code 20 = .ok (.iconst 3, 1) := by decide +kernel
theorem dd_Types_knowsTarget_21 : decode prog_11_method_16_code 21 = .ok (.isub, 1) := by decide +kernel
theorem dd_Types_knowsTarget_22 : decode prog_11_method_16_code 22 = .ok (.iaload, 1) := by decide +kernel
theorem dd_Types_knowsTarget_23 : decode prog_11_method_16_code 23 = .ok (.bipush 96, 2) := by decide +kernel
theorem dd_Types_knowsTarget_25 : decode prog_11_method_16_code 25 = .ok (.if_icmp .eq 7, 3) := by decide +kernel
theorem dd_Types_knowsTarget_28 : decode prog_11_method_16_code 28 = .ok (.iconst 1, 1) := by decide +kernel
theorem dd_Types_knowsTarget_29 : decode prog_11_method_16_code 29 = .ok (.goto 4, 3) := by decide +kernel
theorem dd_Types_knowsTarget_32 : decode prog_11_method_16_code 32 = .ok (.iconst 0, 1) := by decide +kernel
theorem dd_Types_knowsTarget_33 : decode prog_11_method_16_code 33 = .ok (.ireturn, 1) := by decide +kernel
theorem dd_Types_knows_0 : decode prog_11_method_17_code 0 = .ok (.iload_n 1, 1) := by decide +kernel
theorem dd_Types_knows_1 : decode prog_11_method_17_code 1 = .ok (.invokestatic 27, 3) := by decide +kernel
theorem dd_Types_knows_4 : decode prog_11_method_17_code 4 = .ok (.ifCond .eq 14, 3) := by decide +kernel
theorem dd_Types_knows_7 : decode prog_11_method_17_code 7 = .ok (.aload_n 0, 1) := by decide +kernel
theorem dd_Types_knows_8 : decode prog_11_method_17_code 8 = .ok (.iload_n 1, 1) := by decide +kernel
theorem dd_Types_knows_9 : decode prog_11_method_17_code 9 = .ok (.invokestatic 50, 3) := by decide +kernel
theorem dd_Types_knows_12 : decode prog_11_method_17_code 12 = .ok (.invokevirtual 54, 3) := by decide +kernel
theorem dd_Types_knows_15 : decode prog_11_method_17_code 15 = .ok (.ifCond .eq 7, 3) := by decide +kernel
theorem dd_Types_knows_18 : decode prog_11_method_17_code 18 = .ok (.iconst 1, 1) := by decide +kernel
theorem dd_Types_knows_19 : decode prog_11_method_17_code 19 = .ok (.goto 4, 3) := by decide +kernel
theorem dd_Types_knows_22 : decode prog_11_method_17_code 22 = .ok (.iconst 0, 1) := by decide +kernel
theorem dd_Types_knows_23 : decode prog_11_method_17_code 23 = .ok (.ireturn, 1) := by decide +kernel
theorem dd_Checker_needWithin_0 : decode prog_2_method_5_code 0 = .ok (.aload_n 0, 1) := by decide +kernel
theorem dd_Checker_needWithin_1 : decode prog_2_method_5_code 1 = .ok (.getfield 37, 3) := by decide +kernel
theorem dd_Checker_needWithin_4 : decode prog_2_method_5_code 4 = .ok (.iload_n 1, 1) := by decide +kernel
theorem dd_Checker_needWithin_5 : decode prog_2_method_5_code 5 = .ok (.invokevirtual 121, 3) := by decide +kernel
theorem dd_Checker_needWithin_8 : decode prog_2_method_5_code 8 = .ok (.invokestatic 60, 3) := by decide +kernel
theorem dd_Checker_needWithin_11 : decode prog_2_method_5_code 11 = .ok (.iload_n 1, 1) := by decide +kernel
theorem dd_Checker_needWithin_12 : decode prog_2_method_5_code 12 = .ok (.invokestatic 125, 3) := by decide +kernel
theorem dd_Checker_needWithin_15 : decode prog_2_method_5_code 15 = .ok (.ifCond .eq 13, 3) := by decide +kernel
theorem dd_Checker_needWithin_18 : decode prog_2_method_5_code 18 = .ok (.iload_n 1, 1) := by decide +kernel
theorem dd_Checker_needWithin_19 : decode prog_2_method_5_code 19 = .ok (.invokestatic 128, 3) := by decide +kernel
theorem dd_Checker_needWithin_22 : decode prog_2_method_5_code 22 = .ok (.iconst 3, 1) := by decide +kernel
theorem dd_Checker_needWithin_23 : decode prog_2_method_5_code 23 = .ok (.isub, 1) := by decide +kernel
theorem dd_Checker_needWithin_24 : decode prog_2_method_5_code 24 = .ok (.iload_n 2, 1) := by decide +kernel
theorem dd_Checker_needWithin_25 : decode prog_2_method_5_code 25 = .ok (.if_icmp .gt 7, 3) := by decide +kernel
theorem dd_Checker_needWithin_28 : decode prog_2_method_5_code 28 = .ok (.iconst 1, 1) := by decide +kernel
theorem dd_Checker_needWithin_29 : decode prog_2_method_5_code 29 = .ok (.goto 4, 3) := by decide +kernel
theorem dd_Checker_needWithin_32 : decode prog_2_method_5_code 32 = .ok (.iconst 0, 1) := by decide +kernel
theorem dd_Checker_needWithin_33 : decode prog_2_method_5_code 33 = .ok (.invokestatic 60, 3) := by decide +kernel
theorem dd_Checker_needWithin_36 : decode prog_2_method_5_code 36 = .ok (.return_, 1) := by decide +kernel
theorem dd_Checker_checkTypes_0 : decode prog_2_method_4_code 0 = .ok (.iconst 0, 1) := by decide +kernel
theorem dd_Checker_checkTypes_1 : decode prog_2_method_4_code 1 = .ok (.istore_n 1, 1) := by decide +kernel
theorem dd_Checker_checkTypes_2 : decode prog_2_method_4_code 2 = .ok (.iload_n 1, 1) := by decide +kernel
theorem dd_Checker_checkTypes_3 : decode prog_2_method_4_code 3 = .ok (.aload_n 0, 1) := by decide +kernel
theorem dd_Checker_checkTypes_4 : decode prog_2_method_4_code 4 = .ok (.getfield 37, 3) := by decide +kernel
theorem dd_Checker_checkTypes_7 : decode prog_2_method_4_code 7 = .ok (.getfield 46, 3) := by decide +kernel
theorem dd_Checker_checkTypes_10 : decode prog_2_method_4_code 10 = .ok (.if_icmp .ge 115, 3) := by decide +kernel
theorem dd_Checker_checkTypes_13 : decode prog_2_method_4_code 13 = .ok (.aload_n 0, 1) := by decide +kernel
theorem dd_Checker_checkTypes_14 : decode prog_2_method_4_code 14 = .ok (.getfield 37, 3) := by decide +kernel
theorem dd_Checker_checkTypes_17 : decode prog_2_method_4_code 17 = .ok (.getfield 101, 3) := by decide +kernel
theorem dd_Checker_checkTypes_20 : decode prog_2_method_4_code 20 = .ok (.iload_n 1, 1) := by decide +kernel
theorem dd_Checker_checkTypes_21 : decode prog_2_method_4_code 21 = .ok (.iaload, 1) := by decide +kernel
theorem dd_Checker_checkTypes_22 : decode prog_2_method_4_code 22 = .ok (.bipush 16, 2) := by decide +kernel
theorem dd_Checker_checkTypes_24 : decode prog_2_method_4_code 24 = .ok (.if_icmp .gt 21, 3) := by decide +kernel
theorem dd_Checker_checkTypes_27 : decode prog_2_method_4_code 27 = .ok (.aload_n 0, 1) := by decide +kernel
theorem dd_Checker_checkTypes_28 : decode prog_2_method_4_code 28 = .ok (.getfield 37, 3) := by decide +kernel
theorem dd_Checker_checkTypes_31 : decode prog_2_method_4_code 31 = .ok (.getfield 104, 3) := by decide +kernel
theorem dd_Checker_checkTypes_34 : decode prog_2_method_4_code 34 = .ok (.iload_n 1, 1) := by decide +kernel
theorem dd_Checker_checkTypes_35 : decode prog_2_method_4_code 35 = .ok (.iaload, 1) := by decide +kernel
theorem dd_Checker_checkTypes_36 : decode prog_2_method_4_code 36 = .ok (.bipush 16, 2) := by decide +kernel
theorem dd_Checker_checkTypes_38 : decode prog_2_method_4_code 38 = .ok (.if_icmp .gt 7, 3) := by decide +kernel
theorem dd_Checker_checkTypes_41 : decode prog_2_method_4_code 41 = .ok (.iconst 1, 1) := by decide +kernel
theorem dd_Checker_checkTypes_42 : decode prog_2_method_4_code 42 = .ok (.goto 4, 3) := by decide +kernel
theorem dd_Checker_checkTypes_45 : decode prog_2_method_4_code 45 = .ok (.iconst 0, 1) := by decide +kernel
theorem dd_Checker_checkTypes_46 : decode prog_2_method_4_code 46 = .ok (.invokestatic 60, 3) := by decide +kernel
theorem dd_Checker_checkTypes_49 : decode prog_2_method_4_code 49 = .ok (.iconst 0, 1) := by decide +kernel
theorem dd_Checker_checkTypes_50 : decode prog_2_method_4_code 50 = .ok (.istore_n 2, 1) := by decide +kernel
theorem dd_Checker_checkTypes_51 : decode prog_2_method_4_code 51 = .ok (.iload_n 2, 1) := by decide +kernel
theorem dd_Checker_checkTypes_52 : decode prog_2_method_4_code 52 = .ok (.aload_n 0, 1) := by decide +kernel
theorem dd_Checker_checkTypes_53 : decode prog_2_method_4_code 53 = .ok (.getfield 37, 3) := by decide +kernel
theorem dd_Checker_checkTypes_56 : decode prog_2_method_4_code 56 = .ok (.getfield 101, 3) := by decide +kernel
theorem dd_Checker_checkTypes_59 : decode prog_2_method_4_code 59 = .ok (.iload_n 1, 1) := by decide +kernel
theorem dd_Checker_checkTypes_60 : decode prog_2_method_4_code 60 = .ok (.iaload, 1) := by decide +kernel
theorem dd_Checker_checkTypes_61 : decode prog_2_method_4_code 61 = .ok (.if_icmp .ge 23, 3) := by decide +kernel
theorem dd_Checker_checkTypes_64 : decode prog_2_method_4_code 64 = .ok (.aload_n 0, 1) := by decide +kernel
theorem dd_Checker_checkTypes_65 : decode prog_2_method_4_code 65 = .ok (.aload_n 0, 1) := by decide +kernel
theorem dd_Checker_checkTypes_66 : decode prog_2_method_4_code 66 = .ok (.getfield 37, 3) := by decide +kernel
theorem dd_Checker_checkTypes_69 : decode prog_2_method_4_code 69 = .ok (.iload_n 1, 1) := by decide +kernel
theorem dd_Checker_checkTypes_70 : decode prog_2_method_4_code 70 = .ok (.iload_n 2, 1) := by decide +kernel
theorem dd_Checker_checkTypes_71 : decode prog_2_method_4_code 71 = .ok (.invokevirtual 107, 3) := by decide +kernel
theorem dd_Checker_checkTypes_74 : decode prog_2_method_4_code 74 = .ok (.iload_n 1, 1) := by decide +kernel
theorem dd_Checker_checkTypes_75 : decode prog_2_method_4_code 75 = .ok (.invokevirtual 111, 3) := by decide +kernel
theorem dd_Checker_checkTypes_78 : decode prog_2_method_4_code 78 = .ok (.iinc 2 1, 3) := by decide +kernel
theorem dd_Checker_checkTypes_81 : decode prog_2_method_4_code 81 = .ok (.goto (-30), 3) := by decide +kernel
theorem dd_Checker_checkTypes_84 : decode prog_2_method_4_code 84 = .ok (.iconst 0, 1) := by decide +kernel
theorem dd_Checker_checkTypes_85 : decode prog_2_method_4_code 85 = .ok (.istore_n 2, 1) := by decide +kernel
theorem dd_Checker_checkTypes_86 : decode prog_2_method_4_code 86 = .ok (.iload_n 2, 1) := by decide +kernel
theorem dd_Checker_checkTypes_87 : decode prog_2_method_4_code 87 = .ok (.aload_n 0, 1) := by decide +kernel
theorem dd_Checker_checkTypes_88 : decode prog_2_method_4_code 88 = .ok (.getfield 37, 3) := by decide +kernel
theorem dd_Checker_checkTypes_91 : decode prog_2_method_4_code 91 = .ok (.getfield 104, 3) := by decide +kernel
theorem dd_Checker_checkTypes_94 : decode prog_2_method_4_code 94 = .ok (.iload_n 1, 1) := by decide +kernel
theorem dd_Checker_checkTypes_95 : decode prog_2_method_4_code 95 = .ok (.iaload, 1) := by decide +kernel
theorem dd_Checker_checkTypes_96 : decode prog_2_method_4_code 96 = .ok (.if_icmp .ge 23, 3) := by decide +kernel
theorem dd_Checker_checkTypes_99 : decode prog_2_method_4_code 99 = .ok (.aload_n 0, 1) := by decide +kernel
theorem dd_Checker_checkTypes_100 : decode prog_2_method_4_code 100 = .ok (.aload_n 0, 1) := by decide +kernel
theorem dd_Checker_checkTypes_101 : decode prog_2_method_4_code 101 = .ok (.getfield 37, 3) := by decide +kernel
theorem dd_Checker_checkTypes_104 : decode prog_2_method_4_code 104 = .ok (.iload_n 1, 1) := by decide +kernel
theorem dd_Checker_checkTypes_105 : decode prog_2_method_4_code 105 = .ok (.iload_n 2, 1) := by decide +kernel
theorem dd_Checker_checkTypes_106 : decode prog_2_method_4_code 106 = .ok (.invokevirtual 115, 3) := by decide +kernel
theorem dd_Checker_checkTypes_109 : decode prog_2_method_4_code 109 = .ok (.iload_n 1, 1) := by decide +kernel
theorem dd_Checker_checkTypes_110 : decode prog_2_method_4_code 110 = .ok (.invokevirtual 111, 3) := by decide +kernel
theorem dd_Checker_checkTypes_113 : decode prog_2_method_4_code 113 = .ok (.iinc 2 1, 3) := by decide +kernel
theorem dd_Checker_checkTypes_116 : decode prog_2_method_4_code 116 = .ok (.goto (-30), 3) := by decide +kernel
theorem dd_Checker_checkTypes_119 : decode prog_2_method_4_code 119 = .ok (.iinc 1 1, 3) := by decide +kernel
theorem dd_Checker_checkTypes_122 : decode prog_2_method_4_code 122 = .ok (.goto (-120), 3) := by decide +kernel
theorem dd_Checker_checkTypes_125 : decode prog_2_method_4_code 125 = .ok (.aload_n 0, 1) := by decide +kernel
theorem dd_Checker_checkTypes_126 : decode prog_2_method_4_code 126 = .ok (.getfield 37, 3) := by decide +kernel
theorem dd_Checker_checkTypes_129 : decode prog_2_method_4_code 129 = .ok (.invokevirtual 118, 3) := by decide +kernel
theorem dd_Checker_checkTypes_132 : decode prog_2_method_4_code 132 = .ok (.return_, 1) := by decide +kernel
theorem dd_Types_is_0 : decode prog_11_method_15_code 0 = .ok (.iload_n 1, 1) := by decide +kernel
theorem dd_Types_is_1 : decode prog_11_method_15_code 1 = .ok (.aload_n 0, 1) := by decide +kernel
theorem dd_Types_is_2 : decode prog_11_method_15_code 2 = .ok (.getfield 46, 3) := by decide +kernel
theorem dd_Types_is_5 : decode prog_11_method_15_code 5 = .ok (.if_icmp .ge 17, 3) := by decide +kernel
theorem dd_Types_is_8 : decode prog_11_method_15_code 8 = .ok (.aload_n 0, 1) := by decide +kernel
theorem dd_Types_is_9 : decode prog_11_method_15_code 9 = .ok (.getfield 9, 3) := by decide +kernel
theorem dd_Types_is_12 : decode prog_11_method_15_code 12 = .ok (.iload_n 1, 1) := by decide +kernel
theorem dd_Types_is_13 : decode prog_11_method_15_code 13 = .ok (.iaload, 1) := by decide +kernel
theorem dd_Types_is_14 : decode prog_11_method_15_code 14 = .ok (.iload_n 2, 1) := by decide +kernel
theorem dd_Types_is_15 : decode prog_11_method_15_code 15 = .ok (.if_icmp .ne 7, 3) := by decide +kernel
theorem dd_Types_is_18 : decode prog_11_method_15_code 18 = .ok (.iconst 1, 1) := by decide +kernel
theorem dd_Types_is_19 : decode prog_11_method_15_code 19 = .ok (.goto 4, 3) := by decide +kernel
theorem dd_Types_is_22 : decode prog_11_method_15_code 22 = .ok (.iconst 0, 1) := by decide +kernel
theorem dd_Types_is_23 : decode prog_11_method_15_code 23 = .ok (.ireturn, 1) := by decide +kernel
theorem dd_Checker_checkFunctions_0 : decode prog_2_method_6_code 0 = .ok (.iconst 0, 1) := by decide +kernel
theorem dd_Checker_checkFunctions_1 : decode prog_2_method_6_code 1 = .ok (.istore_n 1, 1) := by decide +kernel
theorem dd_Checker_checkFunctions_2 : decode prog_2_method_6_code 2 = .ok (.iload_n 1, 1) := by decide +kernel
theorem dd_Checker_checkFunctions_3 : decode prog_2_method_6_code 3 = .ok (.aload_n 0, 1) := by decide +kernel
theorem dd_Checker_checkFunctions_4 : decode prog_2_method_6_code 4 = .ok (.getfield 27, 3) := by decide +kernel
theorem dd_Checker_checkFunctions_7 : decode prog_2_method_6_code 7 = .ok (.getfield 50, 3) := by decide +kernel
theorem dd_Checker_checkFunctions_10 : decode prog_2_method_6_code 10 = .ok (.getfield 54, 3) := by decide +kernel
theorem dd_Checker_checkFunctions_13 : decode prog_2_method_6_code 13 = .ok (.if_icmp .ge 33, 3) := by decide +kernel
theorem dd_Checker_checkFunctions_16 : decode prog_2_method_6_code 16 = .ok (.aload_n 0, 1) := by decide +kernel
theorem dd_Checker_checkFunctions_17 : decode prog_2_method_6_code 17 = .ok (.getfield 37, 3) := by decide +kernel
theorem dd_Checker_checkFunctions_20 : decode prog_2_method_6_code 20 = .ok (.aload_n 0, 1) := by decide +kernel
theorem dd_Checker_checkFunctions_21 : decode prog_2_method_6_code 21 = .ok (.getfield 27, 3) := by decide +kernel
theorem dd_Checker_checkFunctions_24 : decode prog_2_method_6_code 24 = .ok (.getfield 50, 3) := by decide +kernel
theorem dd_Checker_checkFunctions_27 : decode prog_2_method_6_code 27 = .ok (.getfield 132, 3) := by decide +kernel
theorem dd_Checker_checkFunctions_30 : decode prog_2_method_6_code 30 = .ok (.iload_n 1, 1) := by decide +kernel
theorem dd_Checker_checkFunctions_31 : decode prog_2_method_6_code 31 = .ok (.iaload, 1) := by decide +kernel
theorem dd_Checker_checkFunctions_32 : decode prog_2_method_6_code 32 = .ok (.bipush 96, 2) := by decide +kernel
theorem dd_Checker_checkFunctions_34 : decode prog_2_method_6_code 34 = .ok (.invokevirtual 135, 3) := by decide +kernel
theorem dd_Checker_checkFunctions_37 : decode prog_2_method_6_code 37 = .ok (.invokestatic 60, 3) := by decide +kernel
theorem dd_Checker_checkFunctions_40 : decode prog_2_method_6_code 40 = .ok (.iinc 1 1, 3) := by decide +kernel
theorem dd_Checker_checkFunctions_43 : decode prog_2_method_6_code 43 = .ok (.goto (-41), 3) := by decide +kernel
theorem dd_Checker_checkFunctions_46 : decode prog_2_method_6_code 46 = .ok (.aload_n 0, 1) := by decide +kernel
theorem dd_Checker_checkFunctions_47 : decode prog_2_method_6_code 47 = .ok (.getfield 27, 3) := by decide +kernel
theorem dd_Checker_checkFunctions_50 : decode prog_2_method_6_code 50 = .ok (.getfield 139, 3) := by decide +kernel
theorem dd_Checker_checkFunctions_53 : decode prog_2_method_6_code 53 = .ok (.iconst (-1), 1) := by decide +kernel
theorem dd_Checker_checkFunctions_54 : decode prog_2_method_6_code 54 = .ok (.if_icmp .eq 82, 3) := by decide +kernel
theorem dd_Checker_checkFunctions_57 : decode prog_2_method_6_code 57 = .ok (.aload_n 0, 1) := by decide +kernel
theorem dd_Checker_checkFunctions_58 : decode prog_2_method_6_code 58 = .ok (.getfield 27, 3) := by decide +kernel
theorem dd_Checker_checkFunctions_61 : decode prog_2_method_6_code 61 = .ok (.getfield 139, 3) := by decide +kernel
theorem dd_Checker_checkFunctions_64 : decode prog_2_method_6_code 64 = .ok (.aload_n 0, 1) := by decide +kernel
theorem dd_Checker_checkFunctions_65 : decode prog_2_method_6_code 65 = .ok (.getfield 27, 3) := by decide +kernel
theorem dd_Checker_checkFunctions_68 : decode prog_2_method_6_code 68 = .ok (.getfield 50, 3) := by decide +kernel
theorem dd_Checker_checkFunctions_71 : decode prog_2_method_6_code 71 = .ok (.getfield 54, 3) := by decide +kernel
theorem dd_Checker_checkFunctions_74 : decode prog_2_method_6_code 74 = .ok (.if_icmp .ge 7, 3) := by decide +kernel
theorem dd_Checker_checkFunctions_77 : decode prog_2_method_6_code 77 = .ok (.iconst 1, 1) := by decide +kernel
theorem dd_Checker_checkFunctions_78 : decode prog_2_method_6_code 78 = .ok (.goto 4, 3) := by decide +kernel
theorem dd_Checker_checkFunctions_81 : decode prog_2_method_6_code 81 = .ok (.iconst 0, 1) := by decide +kernel
theorem dd_Checker_checkFunctions_82 : decode prog_2_method_6_code 82 = .ok (.invokestatic 60, 3) := by decide +kernel
theorem dd_Checker_checkFunctions_85 : decode prog_2_method_6_code 85 = .ok (.aload_n 0, 1) := by decide +kernel
theorem dd_Checker_checkFunctions_86 : decode prog_2_method_6_code 86 = .ok (.getfield 27, 3) := by decide +kernel
theorem dd_Checker_checkFunctions_89 : decode prog_2_method_6_code 89 = .ok (.getfield 50, 3) := by decide +kernel
theorem dd_Checker_checkFunctions_92 : decode prog_2_method_6_code 92 = .ok (.getfield 132, 3) := by decide +kernel
theorem dd_Checker_checkFunctions_95 : decode prog_2_method_6_code 95 = .ok (.aload_n 0, 1) := by decide +kernel
theorem dd_Checker_checkFunctions_96 : decode prog_2_method_6_code 96 = .ok (.getfield 27, 3) := by decide +kernel
theorem dd_Checker_checkFunctions_99 : decode prog_2_method_6_code 99 = .ok (.getfield 139, 3) := by decide +kernel
theorem dd_Checker_checkFunctions_102 : decode prog_2_method_6_code 102 = .ok (.iaload, 1) := by decide +kernel
theorem dd_Checker_checkFunctions_103 : decode prog_2_method_6_code 103 = .ok (.istore_n 1, 1) := by decide +kernel
theorem dd_Checker_checkFunctions_104 : decode prog_2_method_6_code 104 = .ok (.aload_n 0, 1) := by decide +kernel
theorem dd_Checker_checkFunctions_105 : decode prog_2_method_6_code 105 = .ok (.getfield 37, 3) := by decide +kernel
theorem dd_Checker_checkFunctions_108 : decode prog_2_method_6_code 108 = .ok (.getfield 101, 3) := by decide +kernel
theorem dd_Checker_checkFunctions_111 : decode prog_2_method_6_code 111 = .ok (.iload_n 1, 1) := by decide +kernel
theorem dd_Checker_checkFunctions_112 : decode prog_2_method_6_code 112 = .ok (.iaload, 1) := by decide +kernel
theorem dd_Checker_checkFunctions_113 : decode prog_2_method_6_code 113 = .ok (.ifCond .ne 19, 3) := by decide +kernel
theorem dd_Checker_checkFunctions_116 : decode prog_2_method_6_code 116 = .ok (.aload_n 0, 1) := by decide +kernel
theorem dd_Checker_checkFunctions_117 : decode prog_2_method_6_code 117 = .ok (.getfield 37, 3) := by decide +kernel
theorem dd_Checker_checkFunctions_120 : decode prog_2_method_6_code 120 = .ok (.getfield 104, 3) := by decide +kernel
theorem dd_Checker_checkFunctions_123 : decode prog_2_method_6_code 123 = .ok (.iload_n 1, 1) := by decide +kernel
theorem dd_Checker_checkFunctions_124 : decode prog_2_method_6_code 124 = .ok (.iaload, 1) := by decide +kernel
theorem dd_Checker_checkFunctions_125 : decode prog_2_method_6_code 125 = .ok (.ifCond .ne 7, 3) := by decide +kernel
theorem dd_Checker_checkFunctions_128 : decode prog_2_method_6_code 128 = .ok (.iconst 1, 1) := by decide +kernel
theorem dd_Checker_checkFunctions_129 : decode prog_2_method_6_code 129 = .ok (.goto 4, 3) := by decide +kernel
theorem dd_Checker_checkFunctions_132 : decode prog_2_method_6_code 132 = .ok (.iconst 0, 1) := by decide +kernel
theorem dd_Checker_checkFunctions_133 : decode prog_2_method_6_code 133 = .ok (.invokestatic 60, 3) := by decide +kernel
theorem dd_Checker_checkFunctions_136 : decode prog_2_method_6_code 136 = .ok (.return_, 1) := by decide +kernel
theorem dd_Checker_checkLimits_0 : decode prog_2_method_7_code 0 = .ok (.aload_n 1, 1) := by decide +kernel
theorem dd_Checker_checkLimits_1 : decode prog_2_method_7_code 1 = .ok (.getfield 54, 3) := by decide +kernel
theorem dd_Checker_checkLimits_4 : decode prog_2_method_7_code 4 = .ok (.iconst 1, 1) := by decide +kernel
theorem dd_Checker_checkLimits_5 : decode prog_2_method_7_code 5 = .ok (.if_icmp .gt 7, 3) := by decide +kernel
theorem dd_Checker_checkLimits_8 : decode prog_2_method_7_code 8 = .ok (.iconst 1, 1) := by decide +kernel
theorem dd_Checker_checkLimits_9 : decode prog_2_method_7_code 9 = .ok (.goto 4, 3) := by decide +kernel
theorem dd_Checker_checkLimits_12 : decode prog_2_method_7_code 12 = .ok (.iconst 0, 1) := by decide +kernel
theorem dd_Checker_checkLimits_13 : decode prog_2_method_7_code 13 = .ok (.invokestatic 60, 3) := by decide +kernel
theorem dd_Checker_checkLimits_16 : decode prog_2_method_7_code 16 = .ok (.aload_n 1, 1) := by decide +kernel
theorem dd_Checker_checkLimits_17 : decode prog_2_method_7_code 17 = .ok (.getfield 54, 3) := by decide +kernel
theorem dd_Checker_checkLimits_20 : decode prog_2_method_7_code 20 = .ok (.ifCond .eq 28, 3) := by decide +kernel
theorem dd_Checker_checkLimits_23 : decode prog_2_method_7_code 23 = .ok (.aload_n 1, 1) := by decide +kernel
theorem dd_Checker_checkLimits_24 : decode prog_2_method_7_code 24 = .ok (.getfield 142, 3) := by decide +kernel
theorem dd_Checker_checkLimits_27 : decode prog_2_method_7_code 27 = .ok (.iconst 0, 1) := by decide +kernel
theorem dd_Checker_checkLimits_28 : decode prog_2_method_7_code 28 = .ok (.iaload, 1) := by decide +kernel
theorem dd_Checker_checkLimits_29 : decode prog_2_method_7_code 29 = .ok (.iload_n 2, 1) := by decide +kernel
theorem dd_Checker_checkLimits_30 : decode prog_2_method_7_code 30 = .ok (.if_icmp .gt 22, 3) := by decide +kernel
theorem dd_Checker_checkLimits_33 : decode prog_2_method_7_code 33 = .ok (.aload_n 1, 1) := by decide +kernel
theorem dd_Checker_checkLimits_34 : decode prog_2_method_7_code 34 = .ok (.getfield 142, 3) := by decide +kernel
theorem dd_Checker_checkLimits_37 : decode prog_2_method_7_code 37 = .ok (.iconst 0, 1) := by decide +kernel
theorem dd_Checker_checkLimits_38 : decode prog_2_method_7_code 38 = .ok (.iaload, 1) := by decide +kernel
theorem dd_Checker_checkLimits_39 : decode prog_2_method_7_code 39 = .ok (.aload_n 1, 1) := by decide +kernel
theorem dd_Checker_checkLimits_40 : decode prog_2_method_7_code 40 = .ok (.getfield 145, 3) := by decide +kernel
theorem dd_Checker_checkLimits_43 : decode prog_2_method_7_code 43 = .ok (.iconst 0, 1) := by decide +kernel
theorem dd_Checker_checkLimits_44 : decode prog_2_method_7_code 44 = .ok (.iaload, 1) := by decide +kernel
theorem dd_Checker_checkLimits_45 : decode prog_2_method_7_code 45 = .ok (.if_icmp .gt 7, 3) := by decide +kernel
theorem dd_Checker_checkLimits_48 : decode prog_2_method_7_code 48 = .ok (.iconst 1, 1) := by decide +kernel
theorem dd_Checker_checkLimits_49 : decode prog_2_method_7_code 49 = .ok (.goto 4, 3) := by decide +kernel
theorem dd_Checker_checkLimits_52 : decode prog_2_method_7_code 52 = .ok (.iconst 0, 1) := by decide +kernel
theorem dd_Checker_checkLimits_53 : decode prog_2_method_7_code 53 = .ok (.invokestatic 60, 3) := by decide +kernel
theorem dd_Checker_checkLimits_56 : decode prog_2_method_7_code 56 = .ok (.return_, 1) := by decide +kernel
theorem dd_Types_fits_0 : decode prog_11_method_22_code 0 = .ok (.iload_n 1, 1) := by decide +kernel
theorem dd_Types_fits_1 : decode prog_11_method_22_code 1 = .ok (.iload_n 2, 1) := by decide +kernel
theorem dd_Types_fits_2 : decode prog_11_method_22_code 2 = .ok (.if_icmp .eq 7, 3) := by decide +kernel
theorem dd_Types_fits_5 : decode prog_11_method_22_code 5 = .ok (.iload_n 1, 1) := by decide +kernel
theorem dd_Types_fits_6 : decode prog_11_method_22_code 6 = .ok (.ifCond .ne 5, 3) := by decide +kernel
theorem dd_Types_fits_9 : decode prog_11_method_22_code 9 = .ok (.iconst 1, 1) := by decide +kernel
theorem dd_Types_fits_10 : decode prog_11_method_22_code 10 = .ok (.ireturn, 1) := by decide +kernel
theorem dd_Types_fits_11 : decode prog_11_method_22_code 11 = .ok (.iload_n 1, 1) := by decide +kernel
theorem dd_Types_fits_12 : decode prog_11_method_22_code 12 = .ok (.bipush 16, 2) := by decide +kernel
theorem dd_Types_fits_14 : decode prog_11_method_22_code 14 = .ok (.if_icmp .lt 18, 3) := by decide +kernel
theorem dd_Types_fits_17 : decode prog_11_method_22_code 17 = .ok (.iload_n 2, 1) := by decide +kernel
theorem dd_Types_fits_18 : decode prog_11_method_22_code 18 = .ok (.bipush 16, 2) := by decide +kernel
theorem dd_Types_fits_20 : decode prog_11_method_22_code 20 = .ok (.if_icmp .lt 12, 3) := by decide +kernel
theorem dd_Types_fits_23 : decode prog_11_method_22_code 23 = .ok (.iload_n 1, 1) := by decide +kernel
theorem dd_Types_fits_24 : decode prog_11_method_22_code 24 = .ok (.iconst 1, 1) := by decide +kernel
theorem dd_Types_fits_25 : decode prog_11_method_22_code 25 = .ok (.iand, 1) := by decide +kernel
theorem dd_Types_fits_26 : decode prog_11_method_22_code 26 = .ok (.iload_n 2, 1) := by decide +kernel
theorem dd_Types_fits_27 : decode prog_11_method_22_code 27 = .ok (.iconst 1, 1) := by decide +kernel
theorem dd_Types_fits_28 : decode prog_11_method_22_code 28 = .ok (.iand, 1) := by decide +kernel
theorem dd_Types_fits_29 : decode prog_11_method_22_code 29 = .ok (.if_icmp .le 5, 3) := by decide +kernel
theorem dd_Types_fits_32 : decode prog_11_method_22_code 32 = .ok (.iconst 0, 1) := by decide +kernel
theorem dd_Types_fits_33 : decode prog_11_method_22_code 33 = .ok (.ireturn, 1) := by decide +kernel
theorem dd_Types_fits_34 : decode prog_11_method_22_code 34 = .ok (.iload_n 1, 1) := by decide +kernel
theorem dd_Types_fits_35 : decode prog_11_method_22_code 35 = .ok (.bipush 16, 2) := by decide +kernel
theorem dd_Types_fits_37 : decode prog_11_method_22_code 37 = .ok (.isub, 1) := by decide +kernel
theorem dd_Types_fits_38 : decode prog_11_method_22_code 38 = .ok (.iconst 1, 1) := by decide +kernel
theorem dd_Types_fits_39 : decode prog_11_method_22_code 39 = .ok (.ishr, 1) := by decide +kernel
theorem dd_Types_fits_40 : decode prog_11_method_22_code 40 = .ok (.istore_n 3, 1) := by decide +kernel
theorem dd_Types_fits_41 : decode prog_11_method_22_code 41 = .ok (.iload_n 2, 1) := by decide +kernel
theorem dd_Types_fits_42 : decode prog_11_method_22_code 42 = .ok (.bipush 16, 2) := by decide +kernel
theorem dd_Types_fits_44 : decode prog_11_method_22_code 44 = .ok (.isub, 1) := by decide +kernel
theorem dd_Types_fits_45 : decode prog_11_method_22_code 45 = .ok (.iconst 1, 1) := by decide +kernel
theorem dd_Types_fits_46 : decode prog_11_method_22_code 46 = .ok (.ishr, 1) := by decide +kernel
theorem dd_Types_fits_47 : decode prog_11_method_22_code 47 = .ok (.istore 4, 2) := by decide +kernel
theorem dd_Types_fits_49 : decode prog_11_method_22_code 49 = .ok (.iload_n 3, 1) := by decide +kernel
theorem dd_Types_fits_50 : decode prog_11_method_22_code 50 = .ok (.iload 4, 2) := by decide +kernel
theorem dd_Types_fits_52 : decode prog_11_method_22_code 52 = .ok (.if_icmp .eq 13, 3) := by decide +kernel
theorem dd_Types_fits_55 : decode prog_11_method_22_code 55 = .ok (.iload 4, 2) := by decide +kernel
theorem dd_Types_fits_57 : decode prog_11_method_22_code 57 = .ok (.ifCond .eq 8, 3) := by decide +kernel
theorem dd_Types_fits_60 : decode prog_11_method_22_code 60 = .ok (.iload_n 3, 1) := by decide +kernel
theorem dd_Types_fits_61 : decode prog_11_method_22_code 61 = .ok (.iconst 2, 1) := by decide +kernel
theorem dd_Types_fits_62 : decode prog_11_method_22_code 62 = .ok (.if_icmp .ne 5, 3) := by decide +kernel
theorem dd_Types_fits_65 : decode prog_11_method_22_code 65 = .ok (.iconst 1, 1) := by decide +kernel
theorem dd_Types_fits_66 : decode prog_11_method_22_code 66 = .ok (.ireturn, 1) := by decide +kernel
theorem dd_Types_fits_67 : decode prog_11_method_22_code 67 = .ok (.iload_n 3, 1) := by decide +kernel
theorem dd_Types_fits_68 : decode prog_11_method_22_code 68 = .ok (.iconst 3, 1) := by decide +kernel
theorem dd_Types_fits_69 : decode prog_11_method_22_code 69 = .ok (.if_icmp .lt 33, 3) := by decide +kernel
theorem dd_Types_fits_72 : decode prog_11_method_22_code 72 = .ok (.iload 4, 2) := by decide +kernel
theorem dd_Types_fits_74 : decode prog_11_method_22_code 74 = .ok (.iconst 3, 1) := by decide +kernel
theorem dd_Types_fits_75 : decode prog_11_method_22_code 75 = .ok (.if_icmp .lt 27, 3) := by decide +kernel
theorem dd_Types_fits_78 : decode prog_11_method_22_code 78 = .ok (.aload_n 0, 1) := by decide +kernel
theorem dd_Types_fits_79 : decode prog_11_method_22_code 79 = .ok (.getfield 21, 3) := by decide +kernel
theorem dd_Types_fits_82 : decode prog_11_method_22_code 82 = .ok (.iload_n 3, 1) := by decide +kernel
theorem dd_Types_fits_83 : decode prog_11_method_22_code 83 = .ok (.iconst 3, 1) := by decide +kernel
theorem dd_Types_fits_84 : decode prog_11_method_22_code 84 = .ok (.isub, 1) := by decide +kernel
theorem dd_Types_fits_85 : decode prog_11_method_22_code 85 = .ok (.iaload, 1) := by decide +kernel
theorem dd_Types_fits_86 : decode prog_11_method_22_code 86 = .ok (.aload_n 0, 1) := by decide +kernel
theorem dd_Types_fits_87 : decode prog_11_method_22_code 87 = .ok (.getfield 21, 3) := by decide +kernel
theorem dd_Types_fits_90 : decode prog_11_method_22_code 90 = .ok (.iload 4, 2) := by decide +kernel
theorem dd_Types_fits_92 : decode prog_11_method_22_code 92 = .ok (.iconst 3, 1) := by decide +kernel
theorem dd_Types_fits_93 : decode prog_11_method_22_code 93 = .ok (.isub, 1) := by decide +kernel
theorem dd_Types_fits_94 : decode prog_11_method_22_code 94 = .ok (.iaload, 1) := by decide +kernel
theorem dd_Types_fits_95 : decode prog_11_method_22_code 95 = .ok (.if_icmp .ne 7, 3) := by decide +kernel
theorem dd_Types_fits_98 : decode prog_11_method_22_code 98 = .ok (.iconst 1, 1) := by decide +kernel
theorem dd_Types_fits_99 : decode prog_11_method_22_code 99 = .ok (.goto 4, 3) := by decide +kernel
theorem dd_Types_fits_102 : decode prog_11_method_22_code 102 = .ok (.iconst 0, 1) := by decide +kernel
theorem dd_Types_fits_103 : decode prog_11_method_22_code 103 = .ok (.ireturn, 1) := by decide +kernel
theorem dd_Checker_checkGlobals_0 : decode prog_2_method_8_code 0 = .ok (.aload_n 0, 1) := by decide +kernel
theorem dd_Checker_checkGlobals_1 : decode prog_2_method_8_code 1 = .ok (.getfield 27, 3) := by decide +kernel
theorem dd_Checker_checkGlobals_4 : decode prog_2_method_8_code 4 = .ok (.getfield 57, 3) := by decide +kernel
theorem dd_Checker_checkGlobals_7 : decode prog_2_method_8_code 7 = .ok (.astore_n 1, 1) := by decide +kernel
theorem dd_Checker_checkGlobals_8 : decode prog_2_method_8_code 8 = .ok (.iconst 0, 1) := by decide +kernel
theorem dd_Checker_checkGlobals_9 : decode prog_2_method_8_code 9 = .ok (.istore_n 2, 1) := by decide +kernel
theorem dd_Checker_checkGlobals_10 : decode prog_2_method_8_code 10 = .ok (.iload_n 2, 1) := by decide +kernel
theorem dd_Checker_checkGlobals_11 : decode prog_2_method_8_code 11 = .ok (.aload_n 1, 1) := by decide +kernel
theorem dd_Checker_checkGlobals_12 : decode prog_2_method_8_code 12 = .ok (.getfield 54, 3) := by decide +kernel
theorem dd_Checker_checkGlobals_15 : decode prog_2_method_8_code 15 = .ok (.if_icmp .ge 71, 3) := by decide +kernel
theorem dd_Checker_checkGlobals_18 : decode prog_2_method_8_code 18 = .ok (.aload_n 0, 1) := by decide +kernel
theorem dd_Checker_checkGlobals_19 : decode prog_2_method_8_code 19 = .ok (.getfield 37, 3) := by decide +kernel
theorem dd_Checker_checkGlobals_22 : decode prog_2_method_8_code 22 = .ok (.aload_n 1, 1) := by decide +kernel
theorem dd_Checker_checkGlobals_23 : decode prog_2_method_8_code 23 = .ok (.getfield 132, 3) := by decide +kernel
theorem dd_Checker_checkGlobals_26 : decode prog_2_method_8_code 26 = .ok (.iload_n 2, 1) := by decide +kernel
theorem dd_Checker_checkGlobals_27 : decode prog_2_method_8_code 27 = .ok (.iaload, 1) := by decide +kernel
theorem dd_Checker_checkGlobals_28 : decode prog_2_method_8_code 28 = .ok (.invokevirtual 121, 3) := by decide +kernel
theorem dd_Checker_checkGlobals_31 : decode prog_2_method_8_code 31 = .ok (.ifCond .eq 23, 3) := by decide +kernel
theorem dd_Checker_checkGlobals_34 : decode prog_2_method_8_code 34 = .ok (.aload_n 0, 1) := by decide +kernel
theorem dd_Checker_checkGlobals_35 : decode prog_2_method_8_code 35 = .ok (.getfield 37, 3) := by decide +kernel
theorem dd_Checker_checkGlobals_38 : decode prog_2_method_8_code 38 = .ok (.aload_n 1, 1) := by decide +kernel
theorem dd_Checker_checkGlobals_39 : decode prog_2_method_8_code 39 = .ok (.getfield 145, 3) := by decide +kernel
theorem dd_Checker_checkGlobals_42 : decode prog_2_method_8_code 42 = .ok (.iload_n 2, 1) := by decide +kernel
theorem dd_Checker_checkGlobals_43 : decode prog_2_method_8_code 43 = .ok (.iaload, 1) := by decide +kernel
theorem dd_Checker_checkGlobals_44 : decode prog_2_method_8_code 44 = .ok (.invokevirtual 121, 3) := by decide +kernel
theorem dd_Checker_checkGlobals_47 : decode prog_2_method_8_code 47 = .ok (.ifCond .eq 7, 3) := by decide +kernel
theorem dd_Checker_checkGlobals_50 : decode prog_2_method_8_code 50 = .ok (.iconst 1, 1) := by decide +kernel
theorem dd_Checker_checkGlobals_51 : decode prog_2_method_8_code 51 = .ok (.goto 4, 3) := by decide +kernel
theorem dd_Checker_checkGlobals_54 : decode prog_2_method_8_code 54 = .ok (.iconst 0, 1) := by decide +kernel
theorem dd_Checker_checkGlobals_55 : decode prog_2_method_8_code 55 = .ok (.invokestatic 60, 3) := by decide +kernel
theorem dd_Checker_checkGlobals_58 : decode prog_2_method_8_code 58 = .ok (.aload_n 0, 1) := by decide +kernel
theorem dd_Checker_checkGlobals_59 : decode prog_2_method_8_code 59 = .ok (.getfield 37, 3) := by decide +kernel
theorem dd_Checker_checkGlobals_62 : decode prog_2_method_8_code 62 = .ok (.aload_n 1, 1) := by decide +kernel
theorem dd_Checker_checkGlobals_63 : decode prog_2_method_8_code 63 = .ok (.getfield 145, 3) := by decide +kernel
theorem dd_Checker_checkGlobals_66 : decode prog_2_method_8_code 66 = .ok (.iload_n 2, 1) := by decide +kernel
theorem dd_Checker_checkGlobals_67 : decode prog_2_method_8_code 67 = .ok (.iaload, 1) := by decide +kernel
theorem dd_Checker_checkGlobals_68 : decode prog_2_method_8_code 68 = .ok (.aload_n 1, 1) := by decide +kernel
theorem dd_Checker_checkGlobals_69 : decode prog_2_method_8_code 69 = .ok (.getfield 132, 3) := by decide +kernel
theorem dd_Checker_checkGlobals_72 : decode prog_2_method_8_code 72 = .ok (.iload_n 2, 1) := by decide +kernel
theorem dd_Checker_checkGlobals_73 : decode prog_2_method_8_code 73 = .ok (.iaload, 1) := by decide +kernel
theorem dd_Checker_checkGlobals_74 : decode prog_2_method_8_code 74 = .ok (.invokevirtual 148, 3) := by decide +kernel
theorem dd_Checker_checkGlobals_77 : decode prog_2_method_8_code 77 = .ok (.invokestatic 60, 3) := by decide +kernel
theorem dd_Checker_checkGlobals_80 : decode prog_2_method_8_code 80 = .ok (.iinc 2 1, 3) := by decide +kernel
theorem dd_Checker_checkGlobals_83 : decode prog_2_method_8_code 83 = .ok (.goto (-73), 3) := by decide +kernel
theorem dd_Checker_checkGlobals_86 : decode prog_2_method_8_code 86 = .ok (.return_, 1) := by decide +kernel
theorem dd_Checker_sameName_0 : decode prog_2_method_10_code 0 = .ok (.aload_n 0, 1) := by decide +kernel
theorem dd_Checker_sameName_1 : decode prog_2_method_10_code 1 = .ok (.getfield 27, 3) := by decide +kernel
theorem dd_Checker_sameName_4 : decode prog_2_method_10_code 4 = .ok (.getfield 64, 3) := by decide +kernel
theorem dd_Checker_sameName_7 : decode prog_2_method_10_code 7 = .ok (.getfield 142, 3) := by decide +kernel
theorem dd_Checker_sameName_10 : decode prog_2_method_10_code 10 = .ok (.iload_n 1, 1) := by decide +kernel
theorem dd_Checker_sameName_11 : decode prog_2_method_10_code 11 = .ok (.iaload, 1) := by decide +kernel
theorem dd_Checker_sameName_12 : decode prog_2_method_10_code 12 = .ok (.istore_n 3, 1) := by decide +kernel
theorem dd_Checker_sameName_13 : decode prog_2_method_10_code 13 = .ok (.aload_n 0, 1) := by decide +kernel
theorem dd_Checker_sameName_14 : decode prog_2_method_10_code 14 = .ok (.getfield 27, 3) := by decide +kernel
theorem dd_Checker_sameName_17 : decode prog_2_method_10_code 17 = .ok (.getfield 64, 3) := by decide +kernel
theorem dd_Checker_sameName_20 : decode prog_2_method_10_code 20 = .ok (.getfield 142, 3) := by decide +kernel
theorem dd_Checker_sameName_23 : decode prog_2_method_10_code 23 = .ok (.iload_n 2, 1) := by decide +kernel
theorem dd_Checker_sameName_24 : decode prog_2_method_10_code 24 = .ok (.iaload, 1) := by decide +kernel
theorem dd_Checker_sameName_25 : decode prog_2_method_10_code 25 = .ok (.istore 4, 2) := by decide +kernel
theorem dd_Checker_sameName_27 : decode prog_2_method_10_code 27 = .ok (.iconst 0, 1) := by decide +kernel
theorem dd_Checker_sameName_28 : decode prog_2_method_10_code 28 = .ok (.istore 5, 2) := by decide +kernel
theorem dd_Checker_sameName_30 : decode prog_2_method_10_code 30 = .ok (.iload 5, 2) := by decide +kernel
theorem dd_Checker_sameName_32 : decode prog_2_method_10_code 32 = .ok (.aload_n 0, 1) := by decide +kernel
theorem dd_Checker_sameName_33 : decode prog_2_method_10_code 33 = .ok (.getfield 27, 3) := by decide +kernel
theorem dd_Checker_sameName_36 : decode prog_2_method_10_code 36 = .ok (.getfield 64, 3) := by decide +kernel
theorem dd_Checker_sameName_39 : decode prog_2_method_10_code 39 = .ok (.getfield 145, 3) := by decide +kernel
theorem dd_Checker_sameName_42 : decode prog_2_method_10_code 42 = .ok (.iload_n 1, 1) := by decide +kernel
theorem dd_Checker_sameName_43 : decode prog_2_method_10_code 43 = .ok (.iaload, 1) := by decide +kernel
theorem dd_Checker_sameName_44 : decode prog_2_method_10_code 44 = .ok (.if_icmp .ge 39, 3) := by decide +kernel
theorem dd_Checker_sameName_47 : decode prog_2_method_10_code 47 = .ok (.aload_n 0, 1) := by decide +kernel
theorem dd_Checker_sameName_48 : decode prog_2_method_10_code 48 = .ok (.getfield 27, 3) := by decide +kernel
theorem dd_Checker_sameName_51 : decode prog_2_method_10_code 51 = .ok (.getfield 158, 3) := by decide +kernel
theorem dd_Checker_sameName_54 : decode prog_2_method_10_code 54 = .ok (.iload_n 3, 1) := by decide +kernel
theorem dd_Checker_sameName_55 : decode prog_2_method_10_code 55 = .ok (.iload 5, 2) := by decide +kernel
theorem dd_Checker_sameName_57 : decode prog_2_method_10_code 57 = .ok (.iadd, 1) := by decide +kernel
theorem dd_Checker_sameName_58 : decode prog_2_method_10_code 58 = .ok (.baload, 1) := by decide +kernel
theorem dd_Checker_sameName_59 : decode prog_2_method_10_code 59 = .ok (.aload_n 0, 1) := by decide +kernel
theorem dd_Checker_sameName_60 : decode prog_2_method_10_code 60 = .ok (.getfield 27, 3) := by decide +kernel
theorem dd_Checker_sameName_63 : decode prog_2_method_10_code 63 = .ok (.getfield 158, 3) := by decide +kernel
theorem dd_Checker_sameName_66 : decode prog_2_method_10_code 66 = .ok (.iload 4, 2) := by decide +kernel
theorem dd_Checker_sameName_68 : decode prog_2_method_10_code 68 = .ok (.iload 5, 2) := by decide +kernel
theorem dd_Checker_sameName_70 : decode prog_2_method_10_code 70 = .ok (.iadd, 1) := by decide +kernel
theorem dd_Checker_sameName_71 : decode prog_2_method_10_code 71 = .ok (.baload, 1) := by decide +kernel
theorem dd_Checker_sameName_72 : decode prog_2_method_10_code 72 = .ok (.if_icmp .eq 5, 3) := by decide +kernel
theorem dd_Checker_sameName_75 : decode prog_2_method_10_code 75 = .ok (.iconst 0, 1) := by decide +kernel
theorem dd_Checker_sameName_76 : decode prog_2_method_10_code 76 = .ok (.ireturn, 1) := by decide +kernel
theorem dd_Checker_sameName_77 : decode prog_2_method_10_code 77 = .ok (.iinc 5 1, 3) := by decide +kernel
theorem dd_Checker_sameName_80 : decode prog_2_method_10_code 80 = .ok (.goto (-50), 3) := by decide +kernel
theorem dd_Checker_sameName_83 : decode prog_2_method_10_code 83 = .ok (.iconst 1, 1) := by decide +kernel
theorem dd_Checker_sameName_84 : decode prog_2_method_10_code 84 = .ok (.ireturn, 1) := by decide +kernel
