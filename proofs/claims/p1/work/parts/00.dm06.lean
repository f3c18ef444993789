theorem dd_Model_collect_0 : decode prog_14_method_101_code 0 = .ok (.aload_n 0, 1) := by decide +kernel
theorem dd_Model_collect_1 : decode prog_14_method_101_code 1 = .ok (.iconst 0, 1) := by decide +kernel
theorem dd_Model_collect_2 : decode prog_14_method_101_code 2 = .ok (.putfield 655, 3) := by decide +kernel
theorem dd_Model_collect_5 : decode prog_14_method_101_code 5 = .ok (.iconst 0, 1) := by decide +kernel
theorem dd_Model_collect_6 : decode prog_14_method_101_code 6 = .ok (.istore_n 1, 1) := by decide +kernel
theorem dd_Model_collect_7 : decode prog_14_method_101_code 7 = .ok (.iload_n 1, 1) := by decide +kernel
theorem dd_Model_collect_8 : decode prog_14_method_101_code 8 = .ok (.sipush 2001, 3) := by decide +kernel
theorem dd_Model_collect_11 : decode prog_14_method_101_code 11 = .ok (.if_icmp .ge 16, 3) := by decide +kernel
theorem dd_Model_collect_14 : decode prog_14_method_101_code 14 = .ok (.aload_n 0, 1) := by decide +kernel
theorem dd_Model_collect_15 : decode prog_14_method_101_code 15 = .ok (.getfield 152, 3) := by decide +kernel
theorem dd_Model_collect_18 : decode prog_14_method_101_code 18 = .ok (.iload_n 1, 1) := by decide +kernel
theorem dd_Model_collect_19 : decode prog_14_method_101_code 19 = .ok (.iconst 0, 1) := by decide +kernel
theorem dd_Model_collect_20 : decode prog_14_method_101_code 20 = .ok (.bastore, 1) := by decide +kernel
theorem dd_Model_collect_21 : decode prog_14_method_101_code 21 = .ok (.iinc 1 1, 3) := by decide +kernel
theorem dd_Model_collect_24 : decode prog_14_method_101_code 24 = .ok (.goto (-17), 3) := by decide +kernel
theorem dd_Model_collect_27 : decode prog_14_method_101_code 27 = .ok (.iconst 0, 1) := by decide +kernel
theorem dd_Model_collect_28 : decode prog_14_method_101_code 28 = .ok (.istore_n 1, 1) := by decide +kernel
theorem dd_Model_collect_29 : decode prog_14_method_101_code 29 = .ok (.iload_n 1, 1) := by decide +kernel
theorem dd_Model_collect_30 : decode prog_14_method_101_code 30 = .ok (.aload_n 0, 1) := by decide +kernel
theorem dd_Model_collect_31 : decode prog_14_method_101_code 31 = .ok (.getfield 466, 3) := by decide +kernel
theorem dd_Model_collect_34 : decode prog_14_method_101_code 34 = .ok (.if_icmp .ge 31, 3) := by decide +kernel
theorem dd_Model_collect_37 : decode prog_14_method_101_code 37 = .ok (.aload_n 0, 1) := by decide +kernel
theorem dd_Model_collect_38 : decode prog_14_method_101_code 38 = .ok (.getfield 57, 3) := by decide +kernel
theorem dd_Model_collect_41 : decode prog_14_method_101_code 41 = .ok (.iload_n 1, 1) := by decide +kernel
theorem dd_Model_collect_42 : decode prog_14_method_101_code 42 = .ok (.iaload, 1) := by decide +kernel
theorem dd_Model_collect_43 : decode prog_14_method_101_code 43 = .ok (.invokestatic 384, 3) := by decide +kernel
theorem dd_Model_collect_46 : decode prog_14_method_101_code 46 = .ok (.ifCond .eq 13, 3) := by decide +kernel
theorem dd_Model_collect_49 : decode prog_14_method_101_code 49 = .ok (.aload_n 0, 1) := by decide +kernel
theorem dd_Model_collect_50 : decode prog_14_method_101_code 50 = .ok (.aload_n 0, 1) := by decide +kernel
theorem dd_Model_collect_51 : decode prog_14_method_101_code 51 = .ok (.getfield 100, 3) := by decide +kernel
theorem dd_Model_collect_54 : decode prog_14_method_101_code 54 = .ok (.iload_n 1, 1) := by decide +kernel
theorem dd_Model_collect_55 : decode prog_14_method_101_code 55 = .ok (.laload, 1) := by decide +kernel
theorem dd_Model_collect_56 : decode prog_14_method_101_code 56 = .ok (.invokevirtual 658, 3) := by decide +kernel
theorem dd_Model_collect_59 : decode prog_14_method_101_code 59 = .ok (.iinc 1 1, 3) := by decide +kernel
theorem dd_Model_collect_62 : decode prog_14_method_101_code 62 = .ok (.goto (-33), 3) := by decide +kernel
theorem dd_Model_collect_65 : decode prog_14_method_101_code 65 = .ok (.iconst 0, 1) := by decide +kernel
theorem dd_Model_collect_66 : decode prog_14_method_101_code 66 = .ok (.istore_n 1, 1) := by decide +kernel
theorem dd_Model_collect_67 : decode prog_14_method_101_code 67 = .ok (.iload_n 1, 1) := by decide +kernel
theorem dd_Model_collect_68 : decode prog_14_method_101_code 68 = .ok (.aload_n 0, 1) := by decide +kernel
theorem dd_Model_collect_69 : decode prog_14_method_101_code 69 = .ok (.getfield 662, 3) := by decide +kernel
theorem dd_Model_collect_72 : decode prog_14_method_101_code 72 = .ok (.if_icmp .ge 28, 3) := by decide +kernel
theorem dd_Model_collect_75 : decode prog_14_method_101_code 75 = .ok (.aload_n 0, 1) := by decide +kernel
theorem dd_Model_collect_76 : decode prog_14_method_101_code 76 = .ok (.getfield 113, 3) := by decide +kernel
theorem dd_Model_collect_79 : decode prog_14_method_101_code 79 = .ok (.iload_n 1, 1) := by decide +kernel
theorem dd_Model_collect_80 : decode prog_14_method_101_code 80 = .ok (.baload, 1) := by decide +kernel
theorem dd_Model_collect_81 : decode prog_14_method_101_code 81 = .ok (.ifCond .eq 13, 3) := by decide +kernel
theorem dd_Model_collect_84 : decode prog_14_method_101_code 84 = .ok (.aload_n 0, 1) := by decide +kernel
theorem dd_Model_collect_85 : decode prog_14_method_101_code 85 = .ok (.aload_n 0, 1) := by decide +kernel
theorem dd_Model_collect_86 : decode prog_14_method_101_code 86 = .ok (.getfield 110, 3) := by decide +kernel
theorem dd_Model_collect_89 : decode prog_14_method_101_code 89 = .ok (.iload_n 1, 1) := by decide +kernel
theorem dd_Model_collect_90 : decode prog_14_method_101_code 90 = .ok (.laload, 1) := by decide +kernel
theorem dd_Model_collect_91 : decode prog_14_method_101_code 91 = .ok (.invokevirtual 658, 3) := by decide +kernel
theorem dd_Model_collect_94 : decode prog_14_method_101_code 94 = .ok (.iinc 1 1, 3) := by decide +kernel
theorem dd_Model_collect_97 : decode prog_14_method_101_code 97 = .ok (.goto (-30), 3) := by decide +kernel
theorem dd_Model_collect_100 : decode prog_14_method_101_code 100 = .ok (.aload_n 0, 1) := by decide +kernel
theorem dd_Model_collect_101 : decode prog_14_method_101_code 101 = .ok (.getfield 655, 3) := by decide +kernel
theorem dd_Model_collect_104 : decode prog_14_method_101_code 104 = .ok (.ifCond .le 78, 3) := by decide +kernel
theorem dd_Model_collect_107 : decode prog_14_method_101_code 107 = .ok (.aload_n 0, 1) := by decide +kernel
theorem dd_Model_collect_108 : decode prog_14_method_101_code 108 = .ok (.dup, 1) := by decide +kernel
theorem dd_Model_collect_109 : decode prog_14_method_101_code 109 = .ok (.getfield 655, 3) := by decide +kernel
theorem dd_Model_collect_112 : decode prog_14_method_101_code 112 = .ok (.iconst 1, 1) := by decide +kernel
theorem dd_Model_collect_113 : decode prog_14_method_101_code 113 = .ok (.isub, 1) := by decide +kernel
theorem dd_Model_collect_114 : decode prog_14_method_101_code 114 = .ok (.putfield 655, 3) := by decide +kernel
theorem dd_Model_collect_117 : decode prog_14_method_101_code 117 = .ok (.aload_n 0, 1) := by decide +kernel
theorem dd_Model_collect_118 : decode prog_14_method_101_code 118 = .ok (.getfield 155, 3) := by decide +kernel
theorem dd_Model_collect_121 : decode prog_14_method_101_code 121 = .ok (.aload_n 0, 1) := by decide +kernel
theorem dd_Model_collect_122 : decode prog_14_method_101_code 122 = .ok (.getfield 655, 3) := by decide +kernel
theorem dd_Model_collect_125 : decode prog_14_method_101_code 125 = .ok (.iaload, 1) := by decide +kernel
theorem dd_Model_collect_126 : decode prog_14_method_101_code 126 = .ok (.istore_n 1, 1) := by decide +kernel
theorem dd_Model_collect_127 : decode prog_14_method_101_code 127 = .ok (.iconst 0, 1) := by decide +kernel
theorem dd_Model_collect_128 : decode prog_14_method_101_code 128 = .ok (.istore_n 2, 1) := by decide +kernel
theorem dd_Model_collect_129 : decode prog_14_method_101_code 129 = .ok (.iload_n 2, 1) := by decide +kernel
theorem dd_Model_collect_130 : decode prog_14_method_101_code 130 = .ok (.aload_n 0, 1) := by decide +kernel
theorem dd_Model_collect_131 : decode prog_14_method_101_code 131 = .ok (.getfield 146, 3) := by decide +kernel
theorem dd_Model_collect_134 : decode prog_14_method_101_code 134 = .ok (.iload_n 1, 1) := by decide +kernel
theorem dd_Model_collect_135 : decode prog_14_method_101_code 135 = .ok (.iaload, 1) := by decide +kernel
theorem dd_Model_collect_136 : decode prog_14_method_101_code 136 = .ok (.if_icmp .ge 43, 3) := by decide +kernel
theorem dd_Model_collect_139 : decode prog_14_method_101_code 139 = .ok (.aload_n 0, 1) := by decide +kernel
theorem dd_Model_collect_140 : decode prog_14_method_101_code 140 = .ok (.aload_n 0, 1) := by decide +kernel
theorem dd_Model_collect_141 : decode prog_14_method_101_code 141 = .ok (.getfield 149, 3) := by decide +kernel
theorem dd_Model_collect_144 : decode prog_14_method_101_code 144 = .ok (.iload_n 1, 1) := by decide +kernel
theorem dd_Model_collect_145 : decode prog_14_method_101_code 145 = .ok (.iaload, 1) := by decide +kernel
theorem dd_Model_collect_146 : decode prog_14_method_101_code 146 = .ok (.iload_n 2, 1) := by decide +kernel
theorem dd_Model_collect_147 : decode prog_14_method_101_code 147 = .ok (.invokevirtual 665, 3) := by decide +kernel
theorem dd_Model_collect_150 : decode prog_14_method_101_code 150 = .ok (.invokestatic 384, 3) := by decide +kernel
theorem dd_Model_collect_153 : decode prog_14_method_101_code 153 = .ok (.ifCond .eq 20, 3) := by decide +kernel
theorem dd_Model_collect_156 : decode prog_14_method_101_code 156 = .ok (.aload_n 0, 1) := by decide +kernel
theorem dd_Model_collect_157 : decode prog_14_method_101_code 157 = .ok (.aload_n 0, 1) := by decide +kernel
theorem dd_Model_collect_158 : decode prog_14_method_101_code 158 = .ok (.getfield 140, 3) := by decide +kernel
theorem dd_Model_collect_161 : decode prog_14_method_101_code 161 = .ok (.aload_n 0, 1) := by decide +kernel
theorem dd_Model_collect_162 : decode prog_14_method_101_code 162 = .ok (.getfield 143, 3) := by decide +kernel
theorem dd_Model_collect_165 : decode prog_14_method_101_code 165 = .ok (.iload_n 1, 1) := by decide +kernel
theorem dd_Model_collect_166 : decode prog_14_method_101_code 166 = .ok (.iaload, 1) := by decide +kernel
theorem dd_Model_collect_167 : decode prog_14_method_101_code 167 = .ok (.iload_n 2, 1) := by decide +kernel
theorem dd_Model_collect_168 : decode prog_14_method_101_code 168 = .ok (.iadd, 1) := by decide +kernel
theorem dd_Model_collect_169 : decode prog_14_method_101_code 169 = .ok (.laload, 1) := by decide +kernel
theorem dd_Model_collect_170 : decode prog_14_method_101_code 170 = .ok (.invokevirtual 658, 3) := by decide +kernel
theorem dd_Model_collect_173 : decode prog_14_method_101_code 173 = .ok (.iinc 2 1, 3) := by decide +kernel
theorem dd_Model_collect_176 : decode prog_14_method_101_code 176 = .ok (.goto (-47), 3) := by decide +kernel
theorem dd_Model_collect_179 : decode prog_14_method_101_code 179 = .ok (.goto (-79), 3) := by decide +kernel
theorem dd_Model_collect_182 : decode prog_14_method_101_code 182 = .ok (.iconst 0, 1) := by decide +kernel
theorem dd_Model_collect_183 : decode prog_14_method_101_code 183 = .ok (.istore_n 1, 1) := by decide +kernel
theorem dd_Model_collect_184 : decode prog_14_method_101_code 184 = .ok (.iconst 0, 1) := by decide +kernel
theorem dd_Model_collect_185 : decode prog_14_method_101_code 185 = .ok (.istore_n 2, 1) := by decide +kernel
theorem dd_Model_collect_186 : decode prog_14_method_101_code 186 = .ok (.iconst 0, 1) := by decide +kernel
theorem dd_Model_collect_187 : decode prog_14_method_101_code 187 = .ok (.istore_n 3, 1) := by decide +kernel
theorem dd_Model_collect_188 : decode prog_14_method_101_code 188 = .ok (.iload_n 3, 1) := by decide +kernel
theorem dd_Model_collect_189 : decode prog_14_method_101_code 189 = .ok (.aload_n 0, 1) := by decide +kernel
theorem dd_Model_collect_190 : decode prog_14_method_101_code 190 = .ok (.getfield 652, 3) := by decide +kernel
theorem dd_Model_collect_193 : decode prog_14_method_101_code 193 = .ok (.if_icmp .ge 122, 3) := by decide +kernel
theorem dd_Model_collect_196 : decode prog_14_method_101_code 196 = .ok (.aload_n 0, 1) := by decide +kernel
theorem dd_Model_collect_197 : decode prog_14_method_101_code 197 = .ok (.getfield 158, 3) := by decide +kernel
theorem dd_Model_collect_200 : decode prog_14_method_101_code 200 = .ok (.iload_n 3, 1) := by decide +kernel
theorem dd_Model_collect_201 : decode prog_14_method_101_code 201 = .ok (.iaload, 1) := by decide +kernel
theorem dd_Model_collect_202 : decode prog_14_method_101_code 202 = .ok (.istore 4, 2) := by decide +kernel
theorem dd_Model_collect_204 : decode prog_14_method_101_code 204 = .ok (.aload_n 0, 1) := by decide +kernel
theorem dd_Model_collect_205 : decode prog_14_method_101_code 205 = .ok (.getfield 152, 3) := by decide +kernel
theorem dd_Model_collect_208 : decode prog_14_method_101_code 208 = .ok (.iload 4, 2) := by decide +kernel
theorem dd_Model_collect_210 : decode prog_14_method_101_code 210 = .ok (.baload, 1) := by decide +kernel
theorem dd_Model_collect_211 : decode prog_14_method_101_code 211 = .ok (.ifCond .ne 14, 3) := by decide +kernel
theorem dd_Model_collect_214 : decode prog_14_method_101_code 214 = .ok (.aload_n 0, 1) := by decide +kernel
theorem dd_Model_collect_215 : decode prog_14_method_101_code 215 = .ok (.getfield 146, 3) := by decide +kernel
theorem dd_Model_collect_218 : decode prog_14_method_101_code 218 = .ok (.iload 4, 2) := by decide +kernel
theorem dd_Model_collect_220 : decode prog_14_method_101_code 220 = .ok (.iconst (-1), 1) := by decide +kernel
theorem dd_Model_collect_221 : decode prog_14_method_101_code 221 = .ok (.iastore, 1) := by decide +kernel
theorem dd_Model_collect_222 : decode prog_14_method_101_code 222 = .ok (.goto 87, 3) := by decide +kernel
theorem dd_Model_collect_225 : decode prog_14_method_101_code 225 = .ok (.aload_n 0, 1) := by decide +kernel
theorem dd_Model_collect_226 : decode prog_14_method_101_code 226 = .ok (.getfield 143, 3) := by decide +kernel
theorem dd_Model_collect_229 : decode prog_14_method_101_code 229 = .ok (.iload 4, 2) := by decide +kernel
theorem dd_Model_collect_231 : decode prog_14_method_101_code 231 = .ok (.iaload, 1) := by decide +kernel
theorem dd_Model_collect_232 : decode prog_14_method_101_code 232 = .ok (.istore 5, 2) := by decide +kernel
theorem dd_Model_collect_234 : decode prog_14_method_101_code 234 = .ok (.aload_n 0, 1) := by decide +kernel
theorem dd_Model_collect_235 : decode prog_14_method_101_code 235 = .ok (.getfield 143, 3) := by decide +kernel
theorem dd_Model_collect_238 : decode prog_14_method_101_code 238 = .ok (.iload 4, 2) := by decide +kernel
theorem dd_Model_collect_240 : decode prog_14_method_101_code 240 = .ok (.iload_n 2, 1) := by decide +kernel
theorem dd_Model_collect_241 : decode prog_14_method_101_code 241 = .ok (.iconst 1, 1) := by decide +kernel
theorem dd_Model_collect_242 : decode prog_14_method_101_code 242 = .ok (.iadd, 1) := by decide +kernel
theorem dd_Model_collect_243 : decode prog_14_method_101_code 243 = .ok (.iastore, 1) := by decide +kernel
theorem dd_Model_collect_244 : decode prog_14_method_101_code 244 = .ok (.iconst 0, 1) := by decide +kernel
theorem dd_Model_collect_245 : decode prog_14_method_101_code 245 = .ok (.istore 6, 2) := by decide +kernel
theorem dd_Model_collect_247 : decode prog_14_method_101_code 247 = .ok (.iload 6, 2) := by decide +kernel
theorem dd_Model_collect_249 : decode prog_14_method_101_code 249 = .ok (.aload_n 0, 1) := by decide +kernel
theorem dd_Model_collect_250 : decode prog_14_method_101_code 250 = .ok (.getfield 146, 3) := by decide +kernel
theorem dd_Model_collect_253 : decode prog_14_method_101_code 253 = .ok (.iload 4, 2) := by decide +kernel
theorem dd_Model_collect_255 : decode prog_14_method_101_code 255 = .ok (.iaload, 1) := by decide +kernel
theorem dd_Model_collect_256 : decode prog_14_method_101_code 256 = .ok (.if_icmp .ge 30, 3) := by decide +kernel
theorem dd_Model_collect_259 : decode prog_14_method_101_code 259 = .ok (.aload_n 0, 1) := by decide +kernel
theorem dd_Model_collect_260 : decode prog_14_method_101_code 260 = .ok (.getfield 140, 3) := by decide +kernel
theorem dd_Model_collect_263 : decode prog_14_method_101_code 263 = .ok (.iload_n 2, 1) := by decide +kernel
theorem dd_Model_collect_264 : decode prog_14_method_101_code 264 = .ok (.iconst 1, 1) := by decide +kernel
theorem dd_Model_collect_265 : decode prog_14_method_101_code 265 = .ok (.iadd, 1) := by decide +kernel
theorem dd_Model_collect_266 : decode prog_14_method_101_code 266 = .ok (.iload 6, 2) := by decide +kernel
theorem dd_Model_collect_268 : decode prog_14_method_101_code 268 = .ok (.iadd, 1) := by decide +kernel
theorem dd_Model_collect_269 : decode prog_14_method_101_code 269 = .ok (.aload_n 0, 1) := by decide +kernel
theorem dd_Model_collect_270 : decode prog_14_method_101_code 270 = .ok (.getfield 140, 3) := by decide +kernel
theorem dd_Model_collect_273 : decode prog_14_method_101_code 273 = .ok (.iload 5, 2) := by decide +kernel
theorem dd_Model_collect_275 : decode prog_14_method_101_code 275 = .ok (.iload 6, 2) := by decide +kernel
theorem dd_Model_collect_277 : decode prog_14_method_101_code 277 = .ok (.iadd, 1) := by decide +kernel
theorem dd_Model_collect_278 : decode prog_14_method_101_code 278 = .ok (.laload, 1) := by decide +kernel
theorem dd_Model_collect_279 : decode prog_14_method_101_code 279 = .ok (.lastore, 1) := by decide +kernel
theorem dd_Model_collect_280 : decode prog_14_method_101_code 280 = .ok (.iinc 6 1, 3) := by decide +kernel
theorem dd_Model_collect_283 : decode prog_14_method_101_code 283 = .ok (.goto (-36), 3) := by decide +kernel
theorem dd_Model_collect_286 : decode prog_14_method_101_code 286 = .ok (.iload_n 2, 1) := by decide +kernel
theorem dd_Model_collect_287 : decode prog_14_method_101_code 287 = .ok (.iconst 1, 1) := by decide +kernel
theorem dd_Model_collect_288 : decode prog_14_method_101_code 288 = .ok (.aload_n 0, 1) := by decide +kernel
theorem dd_Model_collect_289 : decode prog_14_method_101_code 289 = .ok (.getfield 146, 3) := by decide +kernel
theorem dd_Model_collect_292 : decode prog_14_method_101_code 292 = .ok (.iload 4, 2) := by decide +kernel
theorem dd_Model_collect_294 : decode prog_14_method_101_code 294 = .ok (.iaload, 1) := by decide +kernel
theorem dd_Model_collect_295 : decode prog_14_method_101_code 295 = .ok (.iadd, 1) := by decide +kernel
theorem dd_Model_collect_296 : decode prog_14_method_101_code 296 = .ok (.iadd, 1) := by decide +kernel
theorem dd_Model_collect_297 : decode prog_14_method_101_code 297 = .ok (.istore_n 2, 1) := by decide +kernel
theorem dd_Model_collect_298 : decode prog_14_method_101_code 298 = .ok (.aload_n 0, 1) := by decide +kernel
theorem dd_Model_collect_299 : decode prog_14_method_101_code 299 = .ok (.getfield 158, 3) := by decide +kernel
theorem dd_Model_collect_302 : decode prog_14_method_101_code 302 = .ok (.iload_n 1, 1) := by decide +kernel
theorem dd_Model_collect_303 : decode prog_14_method_101_code 303 = .ok (.iload 4, 2) := by decide +kernel
theorem dd_Model_collect_305 : decode prog_14_method_101_code 305 = .ok (.iastore, 1) := by decide +kernel
theorem dd_Model_collect_306 : decode prog_14_method_101_code 306 = .ok (.iinc 1 1, 3) := by decide +kernel
theorem dd_Model_collect_309 : decode prog_14_method_101_code 309 = .ok (.iinc 3 1, 3) := by decide +kernel
theorem dd_Model_collect_312 : decode prog_14_method_101_code 312 = .ok (.goto (-124), 3) := by decide +kernel
theorem dd_Model_collect_315 : decode prog_14_method_101_code 315 = .ok (.aload_n 0, 1) := by decide +kernel
theorem dd_Model_collect_316 : decode prog_14_method_101_code 316 = .ok (.iload_n 1, 1) := by decide +kernel
theorem dd_Model_collect_317 : decode prog_14_method_101_code 317 = .ok (.putfield 652, 3) := by decide +kernel
theorem dd_Model_collect_320 : decode prog_14_method_101_code 320 = .ok (.aload_n 0, 1) := by decide +kernel
theorem dd_Model_collect_321 : decode prog_14_method_101_code 321 = .ok (.iload_n 2, 1) := by decide +kernel
theorem dd_Model_collect_322 : decode prog_14_method_101_code 322 = .ok (.putfield 649, 3) := by decide +kernel
theorem dd_Model_collect_325 : decode prog_14_method_101_code 325 = .ok (.return_, 1) := by decide +kernel
theorem dd_Model_made_0 : decode prog_14_method_102_code 0 = .ok (.lload_n 2, 1) := by decide +kernel
theorem dd_Model_made_1 : decode prog_14_method_102_code 1 = .ok (.ldc2_w 668, 3) := by decide +kernel
theorem dd_Model_made_4 : decode prog_14_method_102_code 4 = .ok (.lcmp, 1) := by decide +kernel
theorem dd_Model_made_5 : decode prog_14_method_102_code 5 = .ok (.ifCond .gt 19, 3) := by decide +kernel
theorem dd_Model_made_8 : decode prog_14_method_102_code 8 = .ok (.aload_n 0, 1) := by decide +kernel
theorem dd_Model_made_9 : decode prog_14_method_102_code 9 = .ok (.getfield 649, 3) := by decide +kernel
theorem dd_Model_made_12 : decode prog_14_method_102_code 12 = .ok (.i2l, 1) := by decide +kernel
theorem dd_Model_made_13 : decode prog_14_method_102_code 13 = .ok (.lconst 1, 1) := by decide +kernel
theorem dd_Model_made_14 : decode prog_14_method_102_code 14 = .ok (.ladd, 1) := by decide +kernel
theorem dd_Model_made_15 : decode prog_14_method_102_code 15 = .ok (.lload_n 2, 1) := by decide +kernel
theorem dd_Model_made_16 : decode prog_14_method_102_code 16 = .ok (.ladd, 1) := by decide +kernel
theorem dd_Model_made_17 : decode prog_14_method_102_code 17 = .ok (.ldc2_w 668, 3) := by decide +kernel
theorem dd_Model_made_20 : decode prog_14_method_102_code 20 = .ok (.lcmp, 1) := by decide +kernel
theorem dd_Model_made_21 : decode prog_14_method_102_code 21 = .ok (.ifCond .le 7, 3) := by decide +kernel
theorem dd_Model_made_24 : decode prog_14_method_102_code 24 = .ok (.aload_n 0, 1) := by decide +kernel
theorem dd_Model_made_25 : decode prog_14_method_102_code 25 = .ok (.invokevirtual 670, 3) := by decide +kernel
theorem dd_Model_made_28 : decode prog_14_method_102_code 28 = .ok (.lload_n 2, 1) := by decide +kernel
theorem dd_Model_made_29 : decode prog_14_method_102_code 29 = .ok (.ldc2_w 668, 3) := by decide +kernel
theorem dd_Model_made_32 : decode prog_14_method_102_code 32 = .ok (.lcmp, 1) := by decide +kernel
theorem dd_Model_made_33 : decode prog_14_method_102_code 33 = .ok (.ifCond .gt 19, 3) := by decide +kernel
theorem dd_Model_made_36 : decode prog_14_method_102_code 36 = .ok (.aload_n 0, 1) := by decide +kernel
theorem dd_Model_made_37 : decode prog_14_method_102_code 37 = .ok (.getfield 649, 3) := by decide +kernel
theorem dd_Model_made_40 : decode prog_14_method_102_code 40 = .ok (.i2l, 1) := by decide +kernel
theorem dd_Model_made_41 : decode prog_14_method_102_code 41 = .ok (.lconst 1, 1) := by decide +kernel
theorem dd_Model_made_42 : decode prog_14_method_102_code 42 = .ok (.ladd, 1) := by decide +kernel
theorem dd_Model_made_43 : decode prog_14_method_102_code 43 = .ok (.lload_n 2, 1) := by decide +kernel
theorem dd_Model_made_44 : decode prog_14_method_102_code 44 = .ok (.ladd, 1) := by decide +kernel
theorem dd_Model_made_45 : decode prog_14_method_102_code 45 = .ok (.ldc2_w 668, 3) := by decide +kernel
theorem dd_Model_made_48 : decode prog_14_method_102_code 48 = .ok (.lcmp, 1) := by decide +kernel
theorem dd_Model_made_49 : decode prog_14_method_102_code 49 = .ok (.ifCond .le 11, 3) := by decide +kernel
theorem dd_Model_made_52 : decode prog_14_method_102_code 52 = .ok (.aload_n 0, 1) := by decide +kernel
theorem dd_Model_made_53 : decode prog_14_method_102_code 53 = .ok (.bipush 11, 2) := by decide +kernel
theorem dd_Model_made_55 : decode prog_14_method_102_code 55 = .ok (.putfield 673, 3) := by decide +kernel
theorem dd_Model_made_58 : decode prog_14_method_102_code 58 = .ok (.lconst 0, 1) := by decide +kernel
theorem dd_Model_made_59 : decode prog_14_method_102_code 59 = .ok (.lreturn, 1) := by decide +kernel
theorem dd_Model_made_60 : decode prog_14_method_102_code 60 = .ok (.iconst 0, 1) := by decide +kernel
theorem dd_Model_made_61 : decode prog_14_method_102_code 61 = .ok (.istore 4, 2) := by decide +kernel
theorem dd_Model_made_63 : decode prog_14_method_102_code 63 = .ok (.aload_n 0, 1) := by decide +kernel
theorem dd_Model_made_64 : decode prog_14_method_102_code 64 = .ok (.getfield 146, 3) := by decide +kernel
theorem dd_Model_made_67 : decode prog_14_method_102_code 67 = .ok (.iload 4, 2) := by decide +kernel
theorem dd_Model_made_69 : decode prog_14_method_102_code 69 = .ok (.iaload, 1) := by decide +kernel
theorem dd_Model_made_70 : decode prog_14_method_102_code 70 = .ok (.iconst (-1), 1) := by decide +kernel
theorem dd_Model_made_71 : decode prog_14_method_102_code 71 = .ok (.if_icmp .eq 9, 3) := by decide +kernel
theorem dd_Model_made_74 : decode prog_14_method_102_code 74 = .ok (.iinc 4 1, 3) := by decide +kernel
theorem dd_Model_made_77 : decode prog_14_method_102_code 77 = .ok (.goto (-14), 3) := by decide +kernel
theorem dd_Model_made_80 : decode prog_14_method_102_code 80 = .ok (.aload_n 0, 1) := by decide +kernel
theorem dd_Model_made_81 : decode prog_14_method_102_code 81 = .ok (.getfield 143, 3) := by decide +kernel
theorem dd_Model_made_84 : decode prog_14_method_102_code 84 = .ok (.iload 4, 2) := by decide +kernel
theorem dd_Model_made_86 : decode prog_14_method_102_code 86 = .ok (.aload_n 0, 1) := by decide +kernel
theorem dd_Model_made_87 : decode prog_14_method_102_code 87 = .ok (.getfield 649, 3) := by decide +kernel
theorem dd_Model_made_90 : decode prog_14_method_102_code 90 = .ok (.iconst 1, 1) := by decide +kernel
theorem dd_Model_made_91 : decode prog_14_method_102_code 91 = .ok (.iadd, 1) := by decide +kernel
theorem dd_Model_made_92 : decode prog_14_method_102_code 92 = .ok (.iastore, 1) := by decide +kernel
theorem dd_Model_made_93 : decode prog_14_method_102_code 93 = .ok (.aload_n 0, 1) := by decide +kernel
theorem dd_Model_made_94 : decode prog_14_method_102_code 94 = .ok (.getfield 146, 3) := by decide +kernel
theorem dd_Model_made_97 : decode prog_14_method_102_code 97 = .ok (.iload 4, 2) := by decide +kernel
theorem dd_Model_made_99 : decode prog_14_method_102_code 99 = .ok (.lload_n 2, 1) := by decide +kernel
theorem dd_Model_made_100 : decode prog_14_method_102_code 100 = .ok (.l2i, 1) := by decide +kernel
theorem dd_Model_made_101 : decode prog_14_method_102_code 101 = .ok (.iastore, 1) := by decide +kernel
theorem dd_Model_made_102 : decode prog_14_method_102_code 102 = .ok (.aload_n 0, 1) := by decide +kernel
theorem dd_Model_made_103 : decode prog_14_method_102_code 103 = .ok (.getfield 149, 3) := by decide +kernel
theorem dd_Model_made_106 : decode prog_14_method_102_code 106 = .ok (.iload 4, 2) := by decide +kernel
theorem dd_Model_made_108 : decode prog_14_method_102_code 108 = .ok (.iload_n 1, 1) := by decide +kernel
theorem dd_Model_made_109 : decode prog_14_method_102_code 109 = .ok (.iastore, 1) := by decide +kernel
theorem dd_Model_made_110 : decode prog_14_method_102_code 110 = .ok (.iconst 0, 1) := by decide +kernel
theorem dd_Model_made_111 : decode prog_14_method_102_code 111 = .ok (.istore 5, 2) := by decide +kernel
theorem dd_Model_made_113 : decode prog_14_method_102_code 113 = .ok (.iload 5, 2) := by decide +kernel
theorem dd_Model_made_115 : decode prog_14_method_102_code 115 = .ok (.i2l, 1) := by decide +kernel
theorem dd_Model_made_116 : decode prog_14_method_102_code 116 = .ok (.lload_n 2, 1) := by decide +kernel
theorem dd_Model_made_117 : decode prog_14_method_102_code 117 = .ok (.lcmp, 1) := by decide +kernel
theorem dd_Model_made_118 : decode prog_14_method_102_code 118 = .ok (.ifCond .ge 24, 3) := by decide +kernel
theorem dd_Model_made_121 : decode prog_14_method_102_code 121 = .ok (.aload_n 0, 1) := by decide +kernel
theorem dd_Model_made_122 : decode prog_14_method_102_code 122 = .ok (.getfield 140, 3) := by decide +kernel
theorem dd_Model_made_125 : decode prog_14_method_102_code 125 = .ok (.aload_n 0, 1) := by decide +kernel
theorem dd_Model_made_126 : decode prog_14_method_102_code 126 = .ok (.getfield 649, 3) := by decide +kernel
theorem dd_Model_made_129 : decode prog_14_method_102_code 129 = .ok (.iconst 1, 1) := by decide +kernel
theorem dd_Model_made_130 : decode prog_14_method_102_code 130 = .ok (.iadd, 1) := by decide +kernel
theorem dd_Model_made_131 : decode prog_14_method_102_code 131 = .ok (.iload 5, 2) := by decide +kernel
theorem dd_Model_made_133 : decode prog_14_method_102_code 133 = .ok (.iadd, 1) := by decide +kernel
theorem dd_Model_made_134 : decode prog_14_method_102_code 134 = .ok (.lconst 0, 1) := by decide +kernel
theorem dd_Model_made_135 : decode prog_14_method_102_code 135 = .ok (.lastore, 1) := by decide +kernel
theorem dd_Model_made_136 : decode prog_14_method_102_code 136 = .ok (.iinc 5 1, 3) := by decide +kernel
theorem dd_Model_made_139 : decode prog_14_method_102_code 139 = .ok (.goto (-26), 3) := by decide +kernel
theorem dd_Model_made_142 : decode prog_14_method_102_code 142 = .ok (.aload_n 0, 1) := by decide +kernel
theorem dd_Model_made_143 : decode prog_14_method_102_code 143 = .ok (.dup, 1) := by decide +kernel
theorem dd_Model_made_144 : decode prog_14_method_102_code 144 = .ok (.getfield 649, 3) := by decide +kernel
theorem dd_Model_made_147 : decode prog_14_method_102_code 147 = .ok (.iconst 1, 1) := by decide +kernel
theorem dd_Model_made_148 : decode prog_14_method_102_code 148 = .ok (.lload_n 2, 1) := by decide +kernel
theorem dd_Model_made_149 : decode prog_14_method_102_code 149 = .ok (.l2i, 1) := by decide +kernel
theorem dd_Model_made_150 : decode prog_14_method_102_code 150 = .ok (.iadd, 1) := by decide +kernel
theorem dd_Model_made_151 : decode prog_14_method_102_code 151 = .ok (.iadd, 1) := by decide +kernel
theorem dd_Model_made_152 : decode prog_14_method_102_code 152 = .ok (.putfield 649, 3) := by decide +kernel
theorem dd_Model_made_155 : decode prog_14_method_102_code 155 = .ok (.aload_n 0, 1) := by decide +kernel
theorem dd_Model_made_156 : decode prog_14_method_102_code 156 = .ok (.getfield 158, 3) := by decide +kernel
theorem dd_Model_made_159 : decode prog_14_method_102_code 159 = .ok (.aload_n 0, 1) := by decide +kernel
theorem dd_Model_made_160 : decode prog_14_method_102_code 160 = .ok (.getfield 652, 3) := by decide +kernel
theorem dd_Model_made_163 : decode prog_14_method_102_code 163 = .ok (.iload 4, 2) := by decide +kernel
theorem dd_Model_made_165 : decode prog_14_method_102_code 165 = .ok (.iastore, 1) := by decide +kernel
theorem dd_Model_made_166 : decode prog_14_method_102_code 166 = .ok (.aload_n 0, 1) := by decide +kernel
theorem dd_Model_made_167 : decode prog_14_method_102_code 167 = .ok (.dup, 1) := by decide +kernel
theorem dd_Model_made_168 : decode prog_14_method_102_code 168 = .ok (.getfield 652, 3) := by decide +kernel
theorem dd_Model_made_171 : decode prog_14_method_102_code 171 = .ok (.iconst 1, 1) := by decide +kernel
theorem dd_Model_made_172 : decode prog_14_method_102_code 172 = .ok (.iadd, 1) := by decide +kernel
theorem dd_Model_made_173 : decode prog_14_method_102_code 173 = .ok (.putfield 652, 3) := by decide +kernel
theorem dd_Model_made_176 : decode prog_14_method_102_code 176 = .ok (.ldc2_w 283, 3) := by decide +kernel
theorem dd_Model_made_179 : decode prog_14_method_102_code 179 = .ok (.iload 4, 2) := by decide +kernel
theorem dd_Model_made_181 : decode prog_14_method_102_code 181 = .ok (.i2l, 1) := by decide +kernel
theorem dd_Model_made_182 : decode prog_14_method_102_code 182 = .ok (.lmul, 1) := by decide +kernel
theorem dd_Model_made_183 : decode prog_14_method_102_code 183 = .ok (.ldc2_w 283, 3) := by decide +kernel
theorem dd_Model_made_186 : decode prog_14_method_102_code 186 = .ok (.ladd, 1) := by decide +kernel
theorem dd_Model_made_187 : decode prog_14_method_102_code 187 = .ok (.lreturn, 1) := by decide +kernel
theorem dd_Model_newArray_0 : decode prog_14_method_131_code 0 = .ok (.aload_n 0, 1) := by decide +kernel
theorem dd_Model_newArray_1 : decode prog_14_method_131_code 1 = .ok (.getfield 273, 3) := by decide +kernel
theorem dd_Model_newArray_4 : decode prog_14_method_131_code 4 = .ok (.l2i, 1) := by decide +kernel
theorem dd_Model_newArray_5 : decode prog_14_method_131_code 5 = .ok (.istore_n 1, 1) := by decide +kernel
theorem dd_Model_newArray_6 : decode prog_14_method_131_code 6 = .ok (.aload_n 0, 1) := by decide +kernel
theorem dd_Model_newArray_7 : decode prog_14_method_131_code 7 = .ok (.getfield 36, 3) := by decide +kernel
theorem dd_Model_newArray_10 : decode prog_14_method_131_code 10 = .ok (.bipush 32, 2) := by decide +kernel
theorem dd_Model_newArray_12 : decode prog_14_method_131_code 12 = .ok (.iload_n 1, 1) := by decide +kernel
theorem dd_Model_newArray_13 : decode prog_14_method_131_code 13 = .ok (.imul, 1) := by decide +kernel
theorem dd_Model_newArray_14 : decode prog_14_method_131_code 14 = .ok (.iaload, 1) := by decide +kernel
theorem dd_Model_newArray_15 : decode prog_14_method_131_code 15 = .ok (.istore_n 2, 1) := by decide +kernel
theorem dd_Model_newArray_16 : decode prog_14_method_131_code 16 = .ok (.aload_n 0, 1) := by decide +kernel
theorem dd_Model_newArray_17 : decode prog_14_method_131_code 17 = .ok (.getfield 270, 3) := by decide +kernel
theorem dd_Model_newArray_20 : decode prog_14_method_131_code 20 = .ok (.bipush 8, 2) := by decide +kernel
theorem dd_Model_newArray_22 : decode prog_14_method_131_code 22 = .ok (.if_icmp .ne 10, 3) := by decide +kernel
theorem dd_Model_newArray_25 : decode prog_14_method_131_code 25 = .ok (.aload_n 0, 1) := by decide +kernel
theorem dd_Model_newArray_26 : decode prog_14_method_131_code 26 = .ok (.getfield 277, 3) := by decide +kernel
theorem dd_Model_newArray_29 : decode prog_14_method_131_code 29 = .ok (.goto 18, 3) := by decide +kernel
theorem dd_Model_newArray_32 : decode prog_14_method_131_code 32 = .ok (.aload_n 0, 1) := by decide +kernel
theorem dd_Model_newArray_33 : decode prog_14_method_131_code 33 = .ok (.getfield 110, 3) := by decide +kernel
theorem dd_Model_newArray_36 : decode prog_14_method_131_code 36 = .ok (.aload_n 0, 1) := by decide +kernel
theorem dd_Model_newArray_37 : decode prog_14_method_131_code 37 = .ok (.getfield 662, 3) := by decide +kernel
theorem dd_Model_newArray_40 : decode prog_14_method_131_code 40 = .ok (.iconst 1, 1) := by decide +kernel
theorem dd_Model_newArray_41 : decode prog_14_method_131_code 41 = .ok (.isub, 1) := by decide +kernel
theorem dd_Model_newArray_42 : decode prog_14_method_131_code 42 = .ok (.laload, 1) := by decide +kernel
theorem dd_Model_newArray_43 : decode prog_14_method_131_code 43 = .ok (.ldc2_w 182, 3) := by decide +kernel
theorem dd_Model_newArray_46 : decode prog_14_method_131_code 46 = .ok (.land, 1) := by decide +kernel
theorem dd_Model_newArray_47 : decode prog_14_method_131_code 47 = .ok (.lstore_n 3, 1) := by decide +kernel
theorem dd_Model_newArray_48 : decode prog_14_method_131_code 48 = .ok (.aload_n 0, 1) := by decide +kernel
theorem dd_Model_newArray_49 : decode prog_14_method_131_code 49 = .ok (.iload_n 1, 1) := by decide +kernel
theorem dd_Model_newArray_50 : decode prog_14_method_131_code 50 = .ok (.lload_n 3, 1) := by decide +kernel
theorem dd_Model_newArray_51 : decode prog_14_method_131_code 51 = .ok (.invokevirtual 796, 3) := by decide +kernel
theorem dd_Model_newArray_54 : decode prog_14_method_131_code 54 = .ok (.lstore 5, 2) := by decide +kernel
theorem dd_Model_newArray_56 : decode prog_14_method_131_code 56 = .ok (.aload_n 0, 1) := by decide +kernel
theorem dd_Model_newArray_57 : decode prog_14_method_131_code 57 = .ok (.getfield 673, 3) := by decide +kernel
theorem dd_Model_newArray_60 : decode prog_14_method_131_code 60 = .ok (.ifCond .eq 4, 3) := by decide +kernel
theorem dd_Model_newArray_63 : decode prog_14_method_131_code 63 = .ok (.return_, 1) := by decide +kernel
theorem dd_Model_newArray_64 : decode prog_14_method_131_code 64 = .ok (.aload_n 0, 1) := by decide +kernel
theorem dd_Model_newArray_65 : decode prog_14_method_131_code 65 = .ok (.getfield 143, 3) := by decide +kernel
theorem dd_Model_newArray_68 : decode prog_14_method_131_code 68 = .ok (.lload 5, 2) := by decide +kernel
theorem dd_Model_newArray_70 : decode prog_14_method_131_code 70 = .ok (.ldc2_w 283, 3) := by decide +kernel
theorem dd_Model_newArray_73 : decode prog_14_method_131_code 73 = .ok (.ldiv, 1) := by decide +kernel
theorem dd_Model_newArray_74 : decode prog_14_method_131_code 74 = .ok (.l2i, 1) := by decide +kernel
theorem dd_Model_newArray_75 : decode prog_14_method_131_code 75 = .ok (.iconst 1, 1) := by decide +kernel
theorem dd_Model_newArray_76 : decode prog_14_method_131_code 76 = .ok (.isub, 1) := by decide +kernel
theorem dd_Model_newArray_77 : decode prog_14_method_131_code 77 = .ok (.iaload, 1) := by decide +kernel
theorem dd_Model_newArray_78 : decode prog_14_method_131_code 78 = .ok (.istore 7, 2) := by decide +kernel
theorem dd_Model_newArray_80 : decode prog_14_method_131_code 80 = .ok (.aload_n 0, 1) := by decide +kernel
theorem dd_Model_newArray_81 : decode prog_14_method_131_code 81 = .ok (.dup, 1) := by decide +kernel
theorem dd_Model_newArray_82 : decode prog_14_method_131_code 82 = .ok (.getfield 662, 3) := by decide +kernel
theorem dd_Model_newArray_85 : decode prog_14_method_131_code 85 = .ok (.aload_n 0, 1) := by decide +kernel
theorem dd_Model_newArray_86 : decode prog_14_method_131_code 86 = .ok (.getfield 270, 3) := by decide +kernel
theorem dd_Model_newArray_89 : decode prog_14_method_131_code 89 = .ok (.bipush 8, 2) := by decide +kernel
theorem dd_Model_newArray_91 : decode prog_14_method_131_code 91 = .ok (.if_icmp .ne 8, 3) := by decide +kernel
theorem dd_Model_newArray_94 : decode prog_14_method_131_code 94 = .ok (.lload_n 3, 1) := by decide +kernel
theorem dd_Model_newArray_95 : decode prog_14_method_131_code 95 = .ok (.l2i, 1) := by decide +kernel
theorem dd_Model_newArray_96 : decode prog_14_method_131_code 96 = .ok (.goto 4, 3) := by decide +kernel
theorem dd_Model_newArray_99 : decode prog_14_method_131_code 99 = .ok (.iconst 1, 1) := by decide +kernel
theorem dd_Model_newArray_100 : decode prog_14_method_131_code 100 = .ok (.isub, 1) := by decide +kernel
theorem dd_Model_newArray_101 : decode prog_14_method_131_code 101 = .ok (.putfield 662, 3) := by decide +kernel
theorem dd_Model_newArray_104 : decode prog_14_method_131_code 104 = .ok (.iconst 0, 1) := by decide +kernel
theorem dd_Model_newArray_105 : decode prog_14_method_131_code 105 = .ok (.istore 8, 2) := by decide +kernel
theorem dd_Model_newArray_107 : decode prog_14_method_131_code 107 = .ok (.iload 8, 2) := by decide +kernel
theorem dd_Model_newArray_109 : decode prog_14_method_131_code 109 = .ok (.i2l, 1) := by decide +kernel
theorem dd_Model_newArray_110 : decode prog_14_method_131_code 110 = .ok (.lload_n 3, 1) := by decide +kernel
theorem dd_Model_newArray_111 : decode prog_14_method_131_code 111 = .ok (.lcmp, 1) := by decide +kernel
theorem dd_Model_newArray_112 : decode prog_14_method_131_code 112 = .ok (.ifCond .ge 44, 3) := by decide +kernel
theorem dd_Model_newArray_115 : decode prog_14_method_131_code 115 = .ok (.aload_n 0, 1) := by decide +kernel
theorem dd_Model_newArray_116 : decode prog_14_method_131_code 116 = .ok (.getfield 270, 3) := by decide +kernel
theorem dd_Model_newArray_119 : decode prog_14_method_131_code 119 = .ok (.bipush 8, 2) := by decide +kernel
theorem dd_Model_newArray_121 : decode prog_14_method_131_code 121 = .ok (.if_icmp .ne 35, 3) := by decide +kernel
theorem dd_Model_newArray_124 : decode prog_14_method_131_code 124 = .ok (.aload_n 0, 1) := by decide +kernel
theorem dd_Model_newArray_125 : decode prog_14_method_131_code 125 = .ok (.getfield 140, 3) := by decide +kernel
theorem dd_Model_newArray_128 : decode prog_14_method_131_code 128 = .ok (.iload 7, 2) := by decide +kernel
theorem dd_Model_newArray_130 : decode prog_14_method_131_code 130 = .ok (.iload 8, 2) := by decide +kernel
theorem dd_Model_newArray_132 : decode prog_14_method_131_code 132 = .ok (.iadd, 1) := by decide +kernel
theorem dd_Model_newArray_133 : decode prog_14_method_131_code 133 = .ok (.iload_n 2, 1) := by decide +kernel
theorem dd_Model_newArray_134 : decode prog_14_method_131_code 134 = .ok (.aload_n 0, 1) := by decide +kernel
theorem dd_Model_newArray_135 : decode prog_14_method_131_code 135 = .ok (.getfield 110, 3) := by decide +kernel
theorem dd_Model_newArray_138 : decode prog_14_method_131_code 138 = .ok (.aload_n 0, 1) := by decide +kernel
theorem dd_Model_newArray_139 : decode prog_14_method_131_code 139 = .ok (.getfield 662, 3) := by decide +kernel
theorem dd_Model_newArray_142 : decode prog_14_method_131_code 142 = .ok (.iload 8, 2) := by decide +kernel
theorem dd_Model_newArray_144 : decode prog_14_method_131_code 144 = .ok (.iadd, 1) := by decide +kernel
theorem dd_Model_newArray_145 : decode prog_14_method_131_code 145 = .ok (.laload, 1) := by decide +kernel
theorem dd_Model_newArray_146 : decode prog_14_method_131_code 146 = .ok (.invokestatic 800, 3) := by decide +kernel
theorem dd_Model_newArray_149 : decode prog_14_method_131_code 149 = .ok (.lastore, 1) := by decide +kernel
theorem dd_Model_newArray_150 : decode prog_14_method_131_code 150 = .ok (.iinc 8 1, 3) := by decide +kernel
theorem dd_Model_newArray_153 : decode prog_14_method_131_code 153 = .ok (.goto (-46), 3) := by decide +kernel
theorem dd_Model_newArray_156 : decode prog_14_method_131_code 156 = .ok (.aload_n 0, 1) := by decide +kernel
theorem dd_Model_newArray_157 : decode prog_14_method_131_code 157 = .ok (.getfield 270, 3) := by decide +kernel
theorem dd_Model_newArray_160 : decode prog_14_method_131_code 160 = .ok (.bipush 6, 2) := by decide +kernel
theorem dd_Model_newArray_162 : decode prog_14_method_131_code 162 = .ok (.if_icmp .ne 42, 3) := by decide +kernel
theorem dd_Model_newArray_165 : decode prog_14_method_131_code 165 = .ok (.aload_n 0, 1) := by decide +kernel
theorem dd_Model_newArray_166 : decode prog_14_method_131_code 166 = .ok (.invokevirtual 725, 3) := by decide +kernel
theorem dd_Model_newArray_169 : decode prog_14_method_131_code 169 = .ok (.lstore 8, 2) := by decide +kernel
theorem dd_Model_newArray_171 : decode prog_14_method_131_code 171 = .ok (.iconst 0, 1) := by decide +kernel
theorem dd_Model_newArray_172 : decode prog_14_method_131_code 172 = .ok (.istore 10, 2) := by decide +kernel
theorem dd_Model_newArray_174 : decode prog_14_method_131_code 174 = .ok (.iload 10, 2) := by decide +kernel
theorem dd_Model_newArray_176 : decode prog_14_method_131_code 176 = .ok (.i2l, 1) := by decide +kernel
theorem dd_Model_newArray_177 : decode prog_14_method_131_code 177 = .ok (.lload_n 3, 1) := by decide +kernel
theorem dd_Model_newArray_178 : decode prog_14_method_131_code 178 = .ok (.lcmp, 1) := by decide +kernel
theorem dd_Model_newArray_179 : decode prog_14_method_131_code 179 = .ok (.ifCond .ge 25, 3) := by decide +kernel
theorem dd_Model_newArray_182 : decode prog_14_method_131_code 182 = .ok (.aload_n 0, 1) := by decide +kernel
theorem dd_Model_newArray_183 : decode prog_14_method_131_code 183 = .ok (.getfield 140, 3) := by decide +kernel
theorem dd_Model_newArray_186 : decode prog_14_method_131_code 186 = .ok (.iload 7, 2) := by decide +kernel
theorem dd_Model_newArray_188 : decode prog_14_method_131_code 188 = .ok (.iload 10, 2) := by decide +kernel
theorem dd_Model_newArray_190 : decode prog_14_method_131_code 190 = .ok (.iadd, 1) := by decide +kernel
theorem dd_Model_newArray_191 : decode prog_14_method_131_code 191 = .ok (.iload_n 2, 1) := by decide +kernel
theorem dd_Model_newArray_192 : decode prog_14_method_131_code 192 = .ok (.lload 8, 2) := by decide +kernel
theorem dd_Model_newArray_194 : decode prog_14_method_131_code 194 = .ok (.invokestatic 800, 3) := by decide +kernel
theorem dd_Model_newArray_197 : decode prog_14_method_131_code 197 = .ok (.lastore, 1) := by decide +kernel
theorem dd_Model_newArray_198 : decode prog_14_method_131_code 198 = .ok (.iinc 10 1, 3) := by decide +kernel
theorem dd_Model_newArray_201 : decode prog_14_method_131_code 201 = .ok (.goto (-27), 3) := by decide +kernel
theorem dd_Model_newArray_204 : decode prog_14_method_131_code 204 = .ok (.aload_n 0, 1) := by decide +kernel
theorem dd_Model_newArray_205 : decode prog_14_method_131_code 205 = .ok (.lload 5, 2) := by decide +kernel
theorem dd_Model_newArray_207 : decode prog_14_method_131_code 207 = .ok (.iconst 1, 1) := by decide +kernel
theorem dd_Model_newArray_208 : decode prog_14_method_131_code 208 = .ok (.invokevirtual 676, 3) := by decide +kernel
theorem dd_Model_newArray_211 : decode prog_14_method_131_code 211 = .ok (.return_, 1) := by decide +kernel
theorem dd_Model_doField_0 : decode prog_14_method_130_code 0 = .ok (.aload_n 0, 1) := by decide +kernel
theorem dd_Model_doField_1 : decode prog_14_method_130_code 1 = .ok (.getfield 36, 3) := by decide +kernel
theorem dd_Model_doField_4 : decode prog_14_method_130_code 4 = .ok (.bipush 32, 2) := by decide +kernel
theorem dd_Model_doField_6 : decode prog_14_method_130_code 6 = .ok (.aload_n 0, 1) := by decide +kernel
theorem dd_Model_doField_7 : decode prog_14_method_130_code 7 = .ok (.getfield 273, 3) := by decide +kernel
theorem dd_Model_doField_10 : decode prog_14_method_130_code 10 = .ok (.l2i, 1) := by decide +kernel
theorem dd_Model_doField_11 : decode prog_14_method_130_code 11 = .ok (.imul, 1) := by decide +kernel
theorem dd_Model_doField_12 : decode prog_14_method_130_code 12 = .ok (.aload_n 0, 1) := by decide +kernel
theorem dd_Model_doField_13 : decode prog_14_method_130_code 13 = .ok (.getfield 277, 3) := by decide +kernel
theorem dd_Model_doField_16 : decode prog_14_method_130_code 16 = .ok (.l2i, 1) := by decide +kernel
theorem dd_Model_doField_17 : decode prog_14_method_130_code 17 = .ok (.iadd, 1) := by decide +kernel
theorem dd_Model_doField_18 : decode prog_14_method_130_code 18 = .ok (.iaload, 1) := by decide +kernel
theorem dd_Model_doField_19 : decode prog_14_method_130_code 19 = .ok (.istore_n 1, 1) := by decide +kernel
theorem dd_Model_doField_20 : decode prog_14_method_130_code 20 = .ok (.aload_n 0, 1) := by decide +kernel
theorem dd_Model_doField_21 : decode prog_14_method_130_code 21 = .ok (.getfield 270, 3) := by decide +kernel
theorem dd_Model_doField_24 : decode prog_14_method_130_code 24 = .ok (.iconst 5, 1) := by decide +kernel
theorem dd_Model_doField_25 : decode prog_14_method_130_code 25 = .ok (.if_icmp .ne 10, 3) := by decide +kernel
theorem dd_Model_doField_28 : decode prog_14_method_130_code 28 = .ok (.aload_n 0, 1) := by decide +kernel
theorem dd_Model_doField_29 : decode prog_14_method_130_code 29 = .ok (.invokevirtual 725, 3) := by decide +kernel
theorem dd_Model_doField_32 : decode prog_14_method_130_code 32 = .ok (.goto 4, 3) := by decide +kernel
theorem dd_Model_doField_35 : decode prog_14_method_130_code 35 = .ok (.lconst 0, 1) := by decide +kernel
theorem dd_Model_doField_36 : decode prog_14_method_130_code 36 = .ok (.lstore_n 2, 1) := by decide +kernel
theorem dd_Model_doField_37 : decode prog_14_method_130_code 37 = .ok (.aload_n 0, 1) := by decide +kernel
theorem dd_Model_doField_38 : decode prog_14_method_130_code 38 = .ok (.invokevirtual 725, 3) := by decide +kernel
theorem dd_Model_doField_41 : decode prog_14_method_130_code 41 = .ok (.lstore 4, 2) := by decide +kernel
theorem dd_Model_doField_43 : decode prog_14_method_130_code 43 = .ok (.lload 4, 2) := by decide +kernel
theorem dd_Model_doField_45 : decode prog_14_method_130_code 45 = .ok (.lconst 0, 1) := by decide +kernel
theorem dd_Model_doField_46 : decode prog_14_method_130_code 46 = .ok (.lcmp, 1) := by decide +kernel
theorem dd_Model_doField_47 : decode prog_14_method_130_code 47 = .ok (.ifCond .ne 10, 3) := by decide +kernel
theorem dd_Model_doField_50 : decode prog_14_method_130_code 50 = .ok (.aload_n 0, 1) := by decide +kernel
theorem dd_Model_doField_51 : decode prog_14_method_130_code 51 = .ok (.bipush 8, 2) := by decide +kernel
theorem dd_Model_doField_53 : decode prog_14_method_130_code 53 = .ok (.putfield 673, 3) := by decide +kernel
theorem dd_Model_doField_56 : decode prog_14_method_130_code 56 = .ok (.return_, 1) := by decide +kernel
theorem dd_Model_doField_57 : decode prog_14_method_130_code 57 = .ok (.aload_n 0, 1) := by decide +kernel
theorem dd_Model_doField_58 : decode prog_14_method_130_code 58 = .ok (.getfield 143, 3) := by decide +kernel
theorem dd_Model_doField_61 : decode prog_14_method_130_code 61 = .ok (.lload 4, 2) := by decide +kernel
theorem dd_Model_doField_63 : decode prog_14_method_130_code 63 = .ok (.ldc2_w 283, 3) := by decide +kernel
theorem dd_Model_doField_66 : decode prog_14_method_130_code 66 = .ok (.ldiv, 1) := by decide +kernel
theorem dd_Model_doField_67 : decode prog_14_method_130_code 67 = .ok (.l2i, 1) := by decide +kernel
theorem dd_Model_doField_68 : decode prog_14_method_130_code 68 = .ok (.iconst 1, 1) := by decide +kernel
theorem dd_Model_doField_69 : decode prog_14_method_130_code 69 = .ok (.isub, 1) := by decide +kernel
theorem dd_Model_doField_70 : decode prog_14_method_130_code 70 = .ok (.iaload, 1) := by decide +kernel
theorem dd_Model_doField_71 : decode prog_14_method_130_code 71 = .ok (.aload_n 0, 1) := by decide +kernel
theorem dd_Model_doField_72 : decode prog_14_method_130_code 72 = .ok (.getfield 277, 3) := by decide +kernel
theorem dd_Model_doField_75 : decode prog_14_method_130_code 75 = .ok (.l2i, 1) := by decide +kernel
theorem dd_Model_doField_76 : decode prog_14_method_130_code 76 = .ok (.iadd, 1) := by decide +kernel
theorem dd_Model_doField_77 : decode prog_14_method_130_code 77 = .ok (.istore 6, 2) := by decide +kernel
theorem dd_Model_doField_79 : decode prog_14_method_130_code 79 = .ok (.aload_n 0, 1) := by decide +kernel
theorem dd_Model_doField_80 : decode prog_14_method_130_code 80 = .ok (.getfield 270, 3) := by decide +kernel
theorem dd_Model_doField_83 : decode prog_14_method_130_code 83 = .ok (.iconst 5, 1) := by decide +kernel
theorem dd_Model_doField_84 : decode prog_14_method_130_code 84 = .ok (.if_icmp .ne 18, 3) := by decide +kernel
theorem dd_Model_doField_87 : decode prog_14_method_130_code 87 = .ok (.aload_n 0, 1) := by decide +kernel
theorem dd_Model_doField_88 : decode prog_14_method_130_code 88 = .ok (.getfield 140, 3) := by decide +kernel
theorem dd_Model_doField_91 : decode prog_14_method_130_code 91 = .ok (.iload 6, 2) := by decide +kernel
theorem dd_Model_doField_93 : decode prog_14_method_130_code 93 = .ok (.iload_n 1, 1) := by decide +kernel
theorem dd_Model_doField_94 : decode prog_14_method_130_code 94 = .ok (.lload_n 2, 1) := by decide +kernel
theorem dd_Model_doField_95 : decode prog_14_method_130_code 95 = .ok (.invokestatic 800, 3) := by decide +kernel
theorem dd_Model_doField_98 : decode prog_14_method_130_code 98 = .ok (.lastore, 1) := by decide +kernel
theorem dd_Model_doField_99 : decode prog_14_method_130_code 99 = .ok (.goto 28, 3) := by decide +kernel
theorem dd_Model_doField_102 : decode prog_14_method_130_code 102 = .ok (.aload_n 0, 1) := by decide +kernel
theorem dd_Model_doField_103 : decode prog_14_method_130_code 103 = .ok (.iload_n 1, 1) := by decide +kernel
theorem dd_Model_doField_104 : decode prog_14_method_130_code 104 = .ok (.aload_n 0, 1) := by decide +kernel
theorem dd_Model_doField_105 : decode prog_14_method_130_code 105 = .ok (.getfield 140, 3) := by decide +kernel
theorem dd_Model_doField_108 : decode prog_14_method_130_code 108 = .ok (.iload 6, 2) := by decide +kernel
theorem dd_Model_doField_110 : decode prog_14_method_130_code 110 = .ok (.laload, 1) := by decide +kernel
theorem dd_Model_doField_111 : decode prog_14_method_130_code 111 = .ok (.aload_n 0, 1) := by decide +kernel
theorem dd_Model_doField_112 : decode prog_14_method_130_code 112 = .ok (.getfield 270, 3) := by decide +kernel
theorem dd_Model_doField_115 : decode prog_14_method_130_code 115 = .ok (.iconst 3, 1) := by decide +kernel
theorem dd_Model_doField_116 : decode prog_14_method_130_code 116 = .ok (.if_icmp .ne 7, 3) := by decide +kernel
theorem dd_Model_doField_119 : decode prog_14_method_130_code 119 = .ok (.iconst 1, 1) := by decide +kernel
theorem dd_Model_doField_120 : decode prog_14_method_130_code 120 = .ok (.goto 4, 3) := by decide +kernel
theorem dd_Model_doField_123 : decode prog_14_method_130_code 123 = .ok (.iconst 0, 1) := by decide +kernel
theorem dd_Model_doField_124 : decode prog_14_method_130_code 124 = .ok (.invokevirtual 803, 3) := by decide +kernel
theorem dd_Model_doField_127 : decode prog_14_method_130_code 127 = .ok (.return_, 1) := by decide +kernel
theorem dd_Model_newStructure_0 : decode prog_14_method_129_code 0 = .ok (.aload_n 0, 1) := by decide +kernel
theorem dd_Model_newStructure_1 : decode prog_14_method_129_code 1 = .ok (.getfield 273, 3) := by decide +kernel
theorem dd_Model_newStructure_4 : decode prog_14_method_129_code 4 = .ok (.l2i, 1) := by decide +kernel
theorem dd_Model_newStructure_5 : decode prog_14_method_129_code 5 = .ok (.istore_n 1, 1) := by decide +kernel
theorem dd_Model_newStructure_6 : decode prog_14_method_129_code 6 = .ok (.aload_n 0, 1) := by decide +kernel
theorem dd_Model_newStructure_7 : decode prog_14_method_129_code 7 = .ok (.getfield 30, 3) := by decide +kernel
theorem dd_Model_newStructure_10 : decode prog_14_method_129_code 10 = .ok (.iload_n 1, 1) := by decide +kernel
theorem dd_Model_newStructure_11 : decode prog_14_method_129_code 11 = .ok (.iaload, 1) := by decide +kernel
theorem dd_Model_newStructure_12 : decode prog_14_method_129_code 12 = .ok (.istore_n 2, 1) := by decide +kernel
theorem dd_Model_newStructure_13 : decode prog_14_method_129_code 13 = .ok (.aload_n 0, 1) := by decide +kernel
theorem dd_Model_newStructure_14 : decode prog_14_method_129_code 14 = .ok (.iload_n 1, 1) := by decide +kernel
theorem dd_Model_newStructure_15 : decode prog_14_method_129_code 15 = .ok (.iload_n 2, 1) := by decide +kernel
theorem dd_Model_newStructure_16 : decode prog_14_method_129_code 16 = .ok (.i2l, 1) := by decide +kernel
theorem dd_Model_newStructure_17 : decode prog_14_method_129_code 17 = .ok (.invokevirtual 796, 3) := by decide +kernel
theorem dd_Model_newStructure_20 : decode prog_14_method_129_code 20 = .ok (.lstore_n 3, 1) := by decide +kernel
theorem dd_Model_newStructure_21 : decode prog_14_method_129_code 21 = .ok (.aload_n 0, 1) := by decide +kernel
theorem dd_Model_newStructure_22 : decode prog_14_method_129_code 22 = .ok (.getfield 673, 3) := by decide +kernel
theorem dd_Model_newStructure_25 : decode prog_14_method_129_code 25 = .ok (.ifCond .eq 4, 3) := by decide +kernel
theorem dd_Model_newStructure_28 : decode prog_14_method_129_code 28 = .ok (.return_, 1) := by decide +kernel
theorem dd_Model_newStructure_29 : decode prog_14_method_129_code 29 = .ok (.aload_n 0, 1) := by decide +kernel
theorem dd_Model_newStructure_30 : decode prog_14_method_129_code 30 = .ok (.getfield 270, 3) := by decide +kernel
theorem dd_Model_newStructure_33 : decode prog_14_method_129_code 33 = .ok (.ifCond .ne 80, 3) := by decide +kernel
theorem dd_Model_newStructure_36 : decode prog_14_method_129_code 36 = .ok (.aload_n 0, 1) := by decide +kernel
theorem dd_Model_newStructure_37 : decode prog_14_method_129_code 37 = .ok (.dup, 1) := by decide +kernel
theorem dd_Model_newStructure_38 : decode prog_14_method_129_code 38 = .ok (.getfield 662, 3) := by decide +kernel
theorem dd_Model_newStructure_41 : decode prog_14_method_129_code 41 = .ok (.iload_n 2, 1) := by decide +kernel
theorem dd_Model_newStructure_42 : decode prog_14_method_129_code 42 = .ok (.isub, 1) := by decide +kernel
theorem dd_Model_newStructure_43 : decode prog_14_method_129_code 43 = .ok (.putfield 662, 3) := by decide +kernel
theorem dd_Model_newStructure_46 : decode prog_14_method_129_code 46 = .ok (.aload_n 0, 1) := by decide +kernel
theorem dd_Model_newStructure_47 : decode prog_14_method_129_code 47 = .ok (.getfield 143, 3) := by decide +kernel
theorem dd_Model_newStructure_50 : decode prog_14_method_129_code 50 = .ok (.lload_n 3, 1) := by decide +kernel
theorem dd_Model_newStructure_51 : decode prog_14_method_129_code 51 = .ok (.ldc2_w 283, 3) := by decide +kernel
theorem dd_Model_newStructure_54 : decode prog_14_method_129_code 54 = .ok (.ldiv, 1) := by decide +kernel
theorem dd_Model_newStructure_55 : decode prog_14_method_129_code 55 = .ok (.l2i, 1) := by decide +kernel
theorem dd_Model_newStructure_56 : decode prog_14_method_129_code 56 = .ok (.iconst 1, 1) := by decide +kernel
theorem dd_Model_newStructure_57 : decode prog_14_method_129_code 57 = .ok (.isub, 1) := by decide +kernel
theorem dd_Model_newStructure_58 : decode prog_14_method_129_code 58 = .ok (.iaload, 1) := by decide +kernel
theorem dd_Model_newStructure_59 : decode prog_14_method_129_code 59 = .ok (.istore 5, 2) := by decide +kernel
theorem dd_Model_newStructure_61 : decode prog_14_method_129_code 61 = .ok (.iconst 0, 1) := by decide +kernel
theorem dd_Model_newStructure_62 : decode prog_14_method_129_code 62 = .ok (.istore 6, 2) := by decide +kernel
theorem dd_Model_newStructure_64 : decode prog_14_method_129_code 64 = .ok (.iload 6, 2) := by decide +kernel
theorem dd_Model_newStructure_66 : decode prog_14_method_129_code 66 = .ok (.iload_n 2, 1) := by decide +kernel
theorem dd_Model_newStructure_67 : decode prog_14_method_129_code 67 = .ok (.if_icmp .ge 46, 3) := by decide +kernel
theorem dd_Model_newStructure_70 : decode prog_14_method_129_code 70 = .ok (.aload_n 0, 1) := by decide +kernel
theorem dd_Model_newStructure_71 : decode prog_14_method_129_code 71 = .ok (.getfield 140, 3) := by decide +kernel
theorem dd_Model_newStructure_74 : decode prog_14_method_129_code 74 = .ok (.iload 5, 2) := by decide +kernel
theorem dd_Model_newStructure_76 : decode prog_14_method_129_code 76 = .ok (.iload 6, 2) := by decide +kernel
theorem dd_Model_newStructure_78 : decode prog_14_method_129_code 78 = .ok (.iadd, 1) := by decide +kernel
theorem dd_Model_newStructure_79 : decode prog_14_method_129_code 79 = .ok (.aload_n 0, 1) := by decide +kernel
theorem dd_Model_newStructure_80 : decode prog_14_method_129_code 80 = .ok (.getfield 36, 3) := by decide +kernel
theorem dd_Model_newStructure_83 : decode prog_14_method_129_code 83 = .ok (.bipush 32, 2) := by decide +kernel
theorem dd_Model_newStructure_85 : decode prog_14_method_129_code 85 = .ok (.iload_n 1, 1) := by decide +kernel
theorem dd_Model_newStructure_86 : decode prog_14_method_129_code 86 = .ok (.imul, 1) := by decide +kernel
theorem dd_Model_newStructure_87 : decode prog_14_method_129_code 87 = .ok (.iload 6, 2) := by decide +kernel
theorem dd_Model_newStructure_89 : decode prog_14_method_129_code 89 = .ok (.iadd, 1) := by decide +kernel
theorem dd_Model_newStructure_90 : decode prog_14_method_129_code 90 = .ok (.iaload, 1) := by decide +kernel
theorem dd_Model_newStructure_91 : decode prog_14_method_129_code 91 = .ok (.aload_n 0, 1) := by decide +kernel
theorem dd_Model_newStructure_92 : decode prog_14_method_129_code 92 = .ok (.getfield 110, 3) := by decide +kernel
theorem dd_Model_newStructure_95 : decode prog_14_method_129_code 95 = .ok (.aload_n 0, 1) := by decide +kernel
theorem dd_Model_newStructure_96 : decode prog_14_method_129_code 96 = .ok (.getfield 662, 3) := by decide +kernel
theorem dd_Model_newStructure_99 : decode prog_14_method_129_code 99 = .ok (.iload 6, 2) := by decide +kernel
theorem dd_Model_newStructure_101 : decode prog_14_method_129_code 101 = .ok (.iadd, 1) := by decide +kernel
theorem dd_Model_newStructure_102 : decode prog_14_method_129_code 102 = .ok (.laload, 1) := by decide +kernel
theorem dd_Model_newStructure_103 : decode prog_14_method_129_code 103 = .ok (.invokestatic 800, 3) := by decide +kernel
theorem dd_Model_newStructure_106 : decode prog_14_method_129_code 106 = .ok (.lastore, 1) := by decide +kernel
theorem dd_Model_newStructure_107 : decode prog_14_method_129_code 107 = .ok (.iinc 6 1, 3) := by decide +kernel
theorem dd_Model_newStructure_110 : decode prog_14_method_129_code 110 = .ok (.goto (-46), 3) := by decide +kernel
theorem dd_Model_newStructure_113 : decode prog_14_method_129_code 113 = .ok (.aload_n 0, 1) := by decide +kernel
theorem dd_Model_newStructure_114 : decode prog_14_method_129_code 114 = .ok (.lload_n 3, 1) := by decide +kernel
theorem dd_Model_newStructure_115 : decode prog_14_method_129_code 115 = .ok (.iconst 1, 1) := by decide +kernel
theorem dd_Model_newStructure_116 : decode prog_14_method_129_code 116 = .ok (.invokevirtual 676, 3) := by decide +kernel
theorem dd_Model_newStructure_119 : decode prog_14_method_129_code 119 = .ok (.return_, 1) := by decide +kernel
theorem dd_Model_doObjects_0 : decode prog_14_method_128_code 0 = .ok (.aload_n 0, 1) := by decide +kernel
theorem dd_Model_doObjects_1 : decode prog_14_method_128_code 1 = .ok (.getfield 270, 3) := by decide +kernel
theorem dd_Model_doObjects_4 : decode prog_14_method_128_code 4 = .ok (.iconst 2, 1) := by decide +kernel
theorem dd_Model_doObjects_5 : decode prog_14_method_128_code 5 = .ok (.if_icmp .ge 10, 3) := by decide +kernel
theorem dd_Model_doObjects_8 : decode prog_14_method_128_code 8 = .ok (.aload_n 0, 1) := by decide +kernel
theorem dd_Model_doObjects_9 : decode prog_14_method_128_code 9 = .ok (.invokevirtual 779, 3) := by decide +kernel
theorem dd_Model_doObjects_12 : decode prog_14_method_128_code 12 = .ok (.goto 146, 3) := by decide +kernel
theorem dd_Model_doObjects_15 : decode prog_14_method_128_code 15 = .ok (.aload_n 0, 1) := by decide +kernel
theorem dd_Model_doObjects_16 : decode prog_14_method_128_code 16 = .ok (.getfield 270, 3) := by decide +kernel
theorem dd_Model_doObjects_19 : decode prog_14_method_128_code 19 = .ok (.bipush 6, 2) := by decide +kernel
theorem dd_Model_doObjects_21 : decode prog_14_method_128_code 21 = .ok (.if_icmp .ge 10, 3) := by decide +kernel
theorem dd_Model_doObjects_24 : decode prog_14_method_128_code 24 = .ok (.aload_n 0, 1) := by decide +kernel
theorem dd_Model_doObjects_25 : decode prog_14_method_128_code 25 = .ok (.invokevirtual 782, 3) := by decide +kernel
theorem dd_Model_doObjects_28 : decode prog_14_method_128_code 28 = .ok (.goto 130, 3) := by decide +kernel
theorem dd_Model_doObjects_31 : decode prog_14_method_128_code 31 = .ok (.aload_n 0, 1) := by decide +kernel
theorem dd_Model_doObjects_32 : decode prog_14_method_128_code 32 = .ok (.getfield 270, 3) := by decide +kernel
theorem dd_Model_doObjects_35 : decode prog_14_method_128_code 35 = .ok (.bipush 9, 2) := by decide +kernel
theorem dd_Model_doObjects_37 : decode prog_14_method_128_code 37 = .ok (.if_icmp .ge 10, 3) := by decide +kernel
theorem dd_Model_doObjects_40 : decode prog_14_method_128_code 40 = .ok (.aload_n 0, 1) := by decide +kernel
theorem dd_Model_doObjects_41 : decode prog_14_method_128_code 41 = .ok (.invokevirtual 785, 3) := by decide +kernel
theorem dd_Model_doObjects_44 : decode prog_14_method_128_code 44 = .ok (.goto 114, 3) := by decide +kernel
theorem dd_Model_doObjects_47 : decode prog_14_method_128_code 47 = .ok (.aload_n 0, 1) := by decide +kernel
theorem dd_Model_doObjects_48 : decode prog_14_method_128_code 48 = .ok (.getfield 270, 3) := by decide +kernel
theorem dd_Model_doObjects_51 : decode prog_14_method_128_code 51 = .ok (.bipush 17, 2) := by decide +kernel
theorem dd_Model_doObjects_53 : decode prog_14_method_128_code 53 = .ok (.if_icmp .ge 10, 3) := by decide +kernel
theorem dd_Model_doObjects_56 : decode prog_14_method_128_code 56 = .ok (.aload_n 0, 1) := by decide +kernel
theorem dd_Model_doObjects_57 : decode prog_14_method_128_code 57 = .ok (.invokevirtual 788, 3) := by decide +kernel
theorem dd_Model_doObjects_60 : decode prog_14_method_128_code 60 = .ok (.goto 98, 3) := by decide +kernel
theorem dd_Model_doObjects_63 : decode prog_14_method_128_code 63 = .ok (.aload_n 0, 1) := by decide +kernel
theorem dd_Model_doObjects_64 : decode prog_14_method_128_code 64 = .ok (.getfield 270, 3) := by decide +kernel
theorem dd_Model_doObjects_67 : decode prog_14_method_128_code 67 = .ok (.bipush 24, 2) := by decide +kernel
theorem dd_Model_doObjects_69 : decode prog_14_method_128_code 69 = .ok (.if_icmp .ge 10, 3) := by decide +kernel
theorem dd_Model_doObjects_72 : decode prog_14_method_128_code 72 = .ok (.aload_n 0, 1) := by decide +kernel
theorem dd_Model_doObjects_73 : decode prog_14_method_128_code 73 = .ok (.invokevirtual 791, 3) := by decide +kernel
theorem dd_Model_doObjects_76 : decode prog_14_method_128_code 76 = .ok (.goto 82, 3) := by decide +kernel
theorem dd_Model_doObjects_79 : decode prog_14_method_128_code 79 = .ok (.aload_n 0, 1) := by decide +kernel
theorem dd_Model_doObjects_80 : decode prog_14_method_128_code 80 = .ok (.getfield 270, 3) := by decide +kernel
theorem dd_Model_doObjects_83 : decode prog_14_method_128_code 83 = .ok (.bipush 28, 2) := by decide +kernel
theorem dd_Model_doObjects_85 : decode prog_14_method_128_code 85 = .ok (.if_icmp .ne 25, 3) := by decide +kernel
theorem dd_Model_doObjects_88 : decode prog_14_method_128_code 88 = .ok (.aload_n 0, 1) := by decide +kernel
theorem dd_Model_doObjects_89 : decode prog_14_method_128_code 89 = .ok (.ldc2_w 283, 3) := by decide +kernel
theorem dd_Model_doObjects_92 : decode prog_14_method_128_code 92 = .ok (.aload_n 0, 1) := by decide +kernel
theorem dd_Model_doObjects_93 : decode prog_14_method_128_code 93 = .ok (.invokevirtual 725, 3) := by decide +kernel
theorem dd_Model_doObjects_96 : decode prog_14_method_128_code 96 = .ok (.ldc2_w 794, 3) := by decide +kernel
theorem dd_Model_doObjects_99 : decode prog_14_method_128_code 99 = .ok (.land, 1) := by decide +kernel
theorem dd_Model_doObjects_100 : decode prog_14_method_128_code 100 = .ok (.lmul, 1) := by decide +kernel
theorem dd_Model_doObjects_101 : decode prog_14_method_128_code 101 = .ok (.lconst 1, 1) := by decide +kernel
theorem dd_Model_doObjects_102 : decode prog_14_method_128_code 102 = .ok (.ladd, 1) := by decide +kernel
theorem dd_Model_doObjects_103 : decode prog_14_method_128_code 103 = .ok (.iconst 1, 1) := by decide +kernel
theorem dd_Model_doObjects_104 : decode prog_14_method_128_code 104 = .ok (.invokevirtual 676, 3) := by decide +kernel
theorem dd_Model_doObjects_107 : decode prog_14_method_128_code 107 = .ok (.goto 51, 3) := by decide +kernel
theorem dd_Model_doObjects_110 : decode prog_14_method_128_code 110 = .ok (.aload_n 0, 1) := by decide +kernel
theorem dd_Model_doObjects_111 : decode prog_14_method_128_code 111 = .ok (.invokevirtual 725, 3) := by decide +kernel
theorem dd_Model_doObjects_114 : decode prog_14_method_128_code 114 = .ok (.lstore_n 1, 1) := by decide +kernel
theorem dd_Model_doObjects_115 : decode prog_14_method_128_code 115 = .ok (.aload_n 0, 1) := by decide +kernel
theorem dd_Model_doObjects_116 : decode prog_14_method_128_code 116 = .ok (.lload_n 1, 1) := by decide +kernel
theorem dd_Model_doObjects_117 : decode prog_14_method_128_code 117 = .ok (.lconst 0, 1) := by decide +kernel
theorem dd_Model_doObjects_118 : decode prog_14_method_128_code 118 = .ok (.lcmp, 1) := by decide +kernel
theorem dd_Model_doObjects_119 : decode prog_14_method_128_code 119 = .ok (.ifCond .ne 8, 3) := by decide +kernel
theorem dd_Model_doObjects_122 : decode prog_14_method_128_code 122 = .ok (.bipush 8, 2) := by decide +kernel
theorem dd_Model_doObjects_124 : decode prog_14_method_128_code 124 = .ok (.goto 4, 3) := by decide +kernel
theorem dd_Model_doObjects_127 : decode prog_14_method_128_code 127 = .ok (.iconst 0, 1) := by decide +kernel
theorem dd_Model_doObjects_128 : decode prog_14_method_128_code 128 = .ok (.putfield 673, 3) := by decide +kernel
theorem dd_Model_doObjects_131 : decode prog_14_method_128_code 131 = .ok (.aload_n 0, 1) := by decide +kernel
theorem dd_Model_doObjects_132 : decode prog_14_method_128_code 132 = .ok (.aload_n 0, 1) := by decide +kernel
theorem dd_Model_doObjects_133 : decode prog_14_method_128_code 133 = .ok (.getfield 270, 3) := by decide +kernel
theorem dd_Model_doObjects_136 : decode prog_14_method_128_code 136 = .ok (.bipush 29, 2) := by decide +kernel
theorem dd_Model_doObjects_138 : decode prog_14_method_128_code 138 = .ok (.if_icmp .ne 14, 3) := by decide +kernel
theorem dd_Model_doObjects_141 : decode prog_14_method_128_code 141 = .ok (.lload_n 1, 1) := by decide +kernel
theorem dd_Model_doObjects_142 : decode prog_14_method_128_code 142 = .ok (.iconst 1, 1) := by decide +kernel
theorem dd_Model_doObjects_143 : decode prog_14_method_128_code 143 = .ok (.lshr, 1) := by decide +kernel
theorem dd_Model_doObjects_144 : decode prog_14_method_128_code 144 = .ok (.bipush 31, 2) := by decide +kernel
theorem dd_Model_doObjects_146 : decode prog_14_method_128_code 146 = .ok (.invokestatic 186, 3) := by decide +kernel
theorem dd_Model_doObjects_149 : decode prog_14_method_128_code 149 = .ok (.goto 6, 3) := by decide +kernel
theorem dd_Model_doObjects_152 : decode prog_14_method_128_code 152 = .ok (.lload_n 1, 1) := by decide +kernel
theorem dd_Model_doObjects_153 : decode prog_14_method_128_code 153 = .ok (.iconst 1, 1) := by decide +kernel
theorem dd_Model_doObjects_154 : decode prog_14_method_128_code 154 = .ok (.lshr, 1) := by decide +kernel
theorem dd_Model_doObjects_155 : decode prog_14_method_128_code 155 = .ok (.invokevirtual 737, 3) := by decide +kernel
theorem dd_Model_doObjects_158 : decode prog_14_method_128_code 158 = .ok (.return_, 1) := by decide +kernel
theorem dd_Model_comeDown_0 : decode prog_14_method_108_code 0 = .ok (.aload_n 0, 1) := by decide +kernel
theorem dd_Model_comeDown_1 : decode prog_14_method_108_code 1 = .ok (.getfield 662, 3) := by decide +kernel
theorem dd_Model_comeDown_4 : decode prog_14_method_108_code 4 = .ok (.iload_n 1, 1) := by decide +kernel
theorem dd_Model_comeDown_5 : decode prog_14_method_108_code 5 = .ok (.isub, 1) := by decide +kernel
theorem dd_Model_comeDown_6 : decode prog_14_method_108_code 6 = .ok (.istore_n 3, 1) := by decide +kernel
theorem dd_Model_comeDown_7 : decode prog_14_method_108_code 7 = .ok (.iconst 0, 1) := by decide +kernel
theorem dd_Model_comeDown_8 : decode prog_14_method_108_code 8 = .ok (.istore 4, 2) := by decide +kernel
theorem dd_Model_comeDown_10 : decode prog_14_method_108_code 10 = .ok (.iload 4, 2) := by decide +kernel
theorem dd_Model_comeDown_12 : decode prog_14_method_108_code 12 = .ok (.iload_n 1, 1) := by decide +kernel
theorem dd_Model_comeDown_13 : decode prog_14_method_108_code 13 = .ok (.if_icmp .ge 45, 3) := by decide +kernel
theorem dd_Model_comeDown_16 : decode prog_14_method_108_code 16 = .ok (.aload_n 0, 1) := by decide +kernel
theorem dd_Model_comeDown_17 : decode prog_14_method_108_code 17 = .ok (.getfield 110, 3) := by decide +kernel
theorem dd_Model_comeDown_20 : decode prog_14_method_108_code 20 = .ok (.iload_n 2, 1) := by decide +kernel
theorem dd_Model_comeDown_21 : decode prog_14_method_108_code 21 = .ok (.iload 4, 2) := by decide +kernel
theorem dd_Model_comeDown_23 : decode prog_14_method_108_code 23 = .ok (.iadd, 1) := by decide +kernel
theorem dd_Model_comeDown_24 : decode prog_14_method_108_code 24 = .ok (.aload_n 0, 1) := by decide +kernel
theorem dd_Model_comeDown_25 : decode prog_14_method_108_code 25 = .ok (.getfield 110, 3) := by decide +kernel
theorem dd_Model_comeDown_28 : decode prog_14_method_108_code 28 = .ok (.iload_n 3, 1) := by decide +kernel
theorem dd_Model_comeDown_29 : decode prog_14_method_108_code 29 = .ok (.iload 4, 2) := by decide +kernel
theorem dd_Model_comeDown_31 : decode prog_14_method_108_code 31 = .ok (.iadd, 1) := by decide +kernel
theorem dd_Model_comeDown_32 : decode prog_14_method_108_code 32 = .ok (.laload, 1) := by decide +kernel
theorem dd_Model_comeDown_33 : decode prog_14_method_108_code 33 = .ok (.lastore, 1) := by decide +kernel
theorem dd_Model_comeDown_34 : decode prog_14_method_108_code 34 = .ok (.aload_n 0, 1) := by decide +kernel
theorem dd_Model_comeDown_35 : decode prog_14_method_108_code 35 = .ok (.getfield 113, 3) := by decide +kernel
theorem dd_Model_comeDown_38 : decode prog_14_method_108_code 38 = .ok (.iload_n 2, 1) := by decide +kernel
theorem dd_Model_comeDown_39 : decode prog_14_method_108_code 39 = .ok (.iload 4, 2) := by decide +kernel
theorem dd_Model_comeDown_41 : decode prog_14_method_108_code 41 = .ok (.iadd, 1) := by decide +kernel
theorem dd_Model_comeDown_42 : decode prog_14_method_108_code 42 = .ok (.aload_n 0, 1) := by decide +kernel
theorem dd_Model_comeDown_43 : decode prog_14_method_108_code 43 = .ok (.getfield 113, 3) := by decide +kernel
theorem dd_Model_comeDown_46 : decode prog_14_method_108_code 46 = .ok (.iload_n 3, 1) := by decide +kernel
theorem dd_Model_comeDown_47 : decode prog_14_method_108_code 47 = .ok (.iload 4, 2) := by decide +kernel
theorem dd_Model_comeDown_49 : decode prog_14_method_108_code 49 = .ok (.iadd, 1) := by decide +kernel
theorem dd_Model_comeDown_50 : decode prog_14_method_108_code 50 = .ok (.baload, 1) := by decide +kernel
theorem dd_Model_comeDown_51 : decode prog_14_method_108_code 51 = .ok (.bastore, 1) := by decide +kernel
theorem dd_Model_comeDown_52 : decode prog_14_method_108_code 52 = .ok (.iinc 4 1, 3) := by decide +kernel
theorem dd_Model_comeDown_55 : decode prog_14_method_108_code 55 = .ok (.goto (-45), 3) := by decide +kernel
theorem dd_Model_comeDown_58 : decode prog_14_method_108_code 58 = .ok (.aload_n 0, 1) := by decide +kernel
theorem dd_Model_comeDown_59 : decode prog_14_method_108_code 59 = .ok (.iload_n 2, 1) := by decide +kernel
theorem dd_Model_comeDown_60 : decode prog_14_method_108_code 60 = .ok (.iload_n 1, 1) := by decide +kernel
theorem dd_Model_comeDown_61 : decode prog_14_method_108_code 61 = .ok (.iadd, 1) := by decide +kernel
theorem dd_Model_comeDown_62 : decode prog_14_method_108_code 62 = .ok (.putfield 662, 3) := by decide +kernel
theorem dd_Model_comeDown_65 : decode prog_14_method_108_code 65 = .ok (.return_, 1) := by decide +kernel
theorem dd_Model_leave_0 : decode prog_14_method_109_code 0 = .ok (.aload_n 0, 1) := by decide +kernel
theorem dd_Model_leave_1 : decode prog_14_method_109_code 1 = .ok (.dup, 1) := by decide +kernel
theorem dd_Model_leave_2 : decode prog_14_method_109_code 2 = .ok (.getfield 682, 3) := by decide +kernel
theorem dd_Model_leave_5 : decode prog_14_method_109_code 5 = .ok (.iconst 1, 1) := by decide +kernel
theorem dd_Model_leave_6 : decode prog_14_method_109_code 6 = .ok (.isub, 1) := by decide +kernel
theorem dd_Model_leave_7 : decode prog_14_method_109_code 7 = .ok (.putfield 682, 3) := by decide +kernel
theorem dd_Model_leave_10 : decode prog_14_method_109_code 10 = .ok (.aload_n 0, 1) := by decide +kernel
theorem dd_Model_leave_11 : decode prog_14_method_109_code 11 = .ok (.aload_n 0, 1) := by decide +kernel
theorem dd_Model_leave_12 : decode prog_14_method_109_code 12 = .ok (.getfield 128, 3) := by decide +kernel
theorem dd_Model_leave_15 : decode prog_14_method_109_code 15 = .ok (.aload_n 0, 1) := by decide +kernel
theorem dd_Model_leave_16 : decode prog_14_method_109_code 16 = .ok (.getfield 122, 3) := by decide +kernel
theorem dd_Model_leave_19 : decode prog_14_method_109_code 19 = .ok (.aload_n 0, 1) := by decide +kernel
theorem dd_Model_leave_20 : decode prog_14_method_109_code 20 = .ok (.getfield 682, 3) := by decide +kernel
theorem dd_Model_leave_23 : decode prog_14_method_109_code 23 = .ok (.iaload, 1) := by decide +kernel
theorem dd_Model_leave_24 : decode prog_14_method_109_code 24 = .ok (.iaload, 1) := by decide +kernel
theorem dd_Model_leave_25 : decode prog_14_method_109_code 25 = .ok (.aload_n 0, 1) := by decide +kernel
theorem dd_Model_leave_26 : decode prog_14_method_109_code 26 = .ok (.getfield 119, 3) := by decide +kernel
theorem dd_Model_leave_29 : decode prog_14_method_109_code 29 = .ok (.aload_n 0, 1) := by decide +kernel
theorem dd_Model_leave_30 : decode prog_14_method_109_code 30 = .ok (.getfield 682, 3) := by decide +kernel
theorem dd_Model_leave_33 : decode prog_14_method_109_code 33 = .ok (.iaload, 1) := by decide +kernel
theorem dd_Model_leave_34 : decode prog_14_method_109_code 34 = .ok (.invokevirtual 691, 3) := by decide +kernel
theorem dd_Model_leave_37 : decode prog_14_method_109_code 37 = .ok (.aload_n 0, 1) := by decide +kernel
theorem dd_Model_leave_38 : decode prog_14_method_109_code 38 = .ok (.aload_n 0, 1) := by decide +kernel
theorem dd_Model_leave_39 : decode prog_14_method_109_code 39 = .ok (.getfield 122, 3) := by decide +kernel
theorem dd_Model_leave_42 : decode prog_14_method_109_code 42 = .ok (.aload_n 0, 1) := by decide +kernel
theorem dd_Model_leave_43 : decode prog_14_method_109_code 43 = .ok (.getfield 682, 3) := by decide +kernel
theorem dd_Model_leave_46 : decode prog_14_method_109_code 46 = .ok (.iaload, 1) := by decide +kernel
theorem dd_Model_leave_47 : decode prog_14_method_109_code 47 = .ok (.putfield 685, 3) := by decide +kernel
theorem dd_Model_leave_50 : decode prog_14_method_109_code 50 = .ok (.aload_n 0, 1) := by decide +kernel
theorem dd_Model_leave_51 : decode prog_14_method_109_code 51 = .ok (.aload_n 0, 1) := by decide +kernel
theorem dd_Model_leave_52 : decode prog_14_method_109_code 52 = .ok (.getfield 116, 3) := by decide +kernel
theorem dd_Model_leave_55 : decode prog_14_method_109_code 55 = .ok (.aload_n 0, 1) := by decide +kernel
theorem dd_Model_leave_56 : decode prog_14_method_109_code 56 = .ok (.getfield 682, 3) := by decide +kernel
theorem dd_Model_leave_59 : decode prog_14_method_109_code 59 = .ok (.iaload, 1) := by decide +kernel
theorem dd_Model_leave_60 : decode prog_14_method_109_code 60 = .ok (.putfield 168, 3) := by decide +kernel
theorem dd_Model_leave_63 : decode prog_14_method_109_code 63 = .ok (.return_, 1) := by decide +kernel
theorem dd_Model_goOut_0 : decode prog_14_method_110_code 0 = .ok (.aload_n 0, 1) := by decide +kernel
theorem dd_Model_goOut_1 : decode prog_14_method_110_code 1 = .ok (.getfield 685, 3) := by decide +kernel
theorem dd_Model_goOut_4 : decode prog_14_method_110_code 4 = .ok (.iconst 1, 1) := by decide +kernel
theorem dd_Model_goOut_5 : decode prog_14_method_110_code 5 = .ok (.isub, 1) := by decide +kernel
theorem dd_Model_goOut_6 : decode prog_14_method_110_code 6 = .ok (.iload_n 1, 1) := by decide +kernel
theorem dd_Model_goOut_7 : decode prog_14_method_110_code 7 = .ok (.isub, 1) := by decide +kernel
theorem dd_Model_goOut_8 : decode prog_14_method_110_code 8 = .ok (.istore_n 2, 1) := by decide +kernel
theorem dd_Model_goOut_9 : decode prog_14_method_110_code 9 = .ok (.iload_n 2, 1) := by decide +kernel
theorem dd_Model_goOut_10 : decode prog_14_method_110_code 10 = .ok (.aload_n 0, 1) := by decide +kernel
theorem dd_Model_goOut_11 : decode prog_14_method_110_code 11 = .ok (.getfield 122, 3) := by decide +kernel
theorem dd_Model_goOut_14 : decode prog_14_method_110_code 14 = .ok (.aload_n 0, 1) := by decide +kernel
theorem dd_Model_goOut_15 : decode prog_14_method_110_code 15 = .ok (.getfield 682, 3) := by decide +kernel
theorem dd_Model_goOut_18 : decode prog_14_method_110_code 18 = .ok (.iconst 1, 1) := by decide +kernel
theorem dd_Model_goOut_19 : decode prog_14_method_110_code 19 = .ok (.isub, 1) := by decide +kernel
theorem dd_Model_goOut_20 : decode prog_14_method_110_code 20 = .ok (.iaload, 1) := by decide +kernel
theorem dd_Model_goOut_21 : decode prog_14_method_110_code 21 = .ok (.if_icmp .ne 8, 3) := by decide +kernel
theorem dd_Model_goOut_24 : decode prog_14_method_110_code 24 = .ok (.aload_n 0, 1) := by decide +kernel
theorem dd_Model_goOut_25 : decode prog_14_method_110_code 25 = .ok (.invokevirtual 695, 3) := by decide +kernel
theorem dd_Model_goOut_28 : decode prog_14_method_110_code 28 = .ok (.return_, 1) := by decide +kernel
theorem dd_Model_goOut_29 : decode prog_14_method_110_code 29 = .ok (.aload_n 0, 1) := by decide +kernel
theorem dd_Model_goOut_30 : decode prog_14_method_110_code 30 = .ok (.getfield 134, 3) := by decide +kernel
theorem dd_Model_goOut_33 : decode prog_14_method_110_code 33 = .ok (.iload_n 2, 1) := by decide +kernel
theorem dd_Model_goOut_34 : decode prog_14_method_110_code 34 = .ok (.baload, 1) := by decide +kernel
theorem dd_Model_goOut_35 : decode prog_14_method_110_code 35 = .ok (.ifCond .eq 29, 3) := by decide +kernel
theorem dd_Model_goOut_38 : decode prog_14_method_110_code 38 = .ok (.aload_n 0, 1) := by decide +kernel
theorem dd_Model_goOut_39 : decode prog_14_method_110_code 39 = .ok (.getfield 679, 3) := by decide +kernel
theorem dd_Model_goOut_42 : decode prog_14_method_110_code 42 = .ok (.lconst 0, 1) := by decide +kernel
theorem dd_Model_goOut_43 : decode prog_14_method_110_code 43 = .ok (.lcmp, 1) := by decide +kernel
theorem dd_Model_goOut_44 : decode prog_14_method_110_code 44 = .ok (.ifCond .ne 10, 3) := by decide +kernel
theorem dd_Model_goOut_47 : decode prog_14_method_110_code 47 = .ok (.aload_n 0, 1) := by decide +kernel
theorem dd_Model_goOut_48 : decode prog_14_method_110_code 48 = .ok (.bipush 13, 2) := by decide +kernel
theorem dd_Model_goOut_50 : decode prog_14_method_110_code 50 = .ok (.putfield 673, 3) := by decide +kernel
theorem dd_Model_goOut_53 : decode prog_14_method_110_code 53 = .ok (.return_, 1) := by decide +kernel
theorem dd_Model_goOut_54 : decode prog_14_method_110_code 54 = .ok (.aload_n 0, 1) := by decide +kernel
theorem dd_Model_goOut_55 : decode prog_14_method_110_code 55 = .ok (.dup, 1) := by decide +kernel
theorem dd_Model_goOut_56 : decode prog_14_method_110_code 56 = .ok (.getfield 679, 3) := by decide +kernel
theorem dd_Model_goOut_59 : decode prog_14_method_110_code 59 = .ok (.lconst 1, 1) := by decide +kernel
theorem dd_Model_goOut_60 : decode prog_14_method_110_code 60 = .ok (.lsub, 1) := by decide +kernel
theorem dd_Model_goOut_61 : decode prog_14_method_110_code 61 = .ok (.putfield 679, 3) := by decide +kernel
theorem dd_Model_goOut_64 : decode prog_14_method_110_code 64 = .ok (.aload_n 0, 1) := by decide +kernel
theorem dd_Model_goOut_65 : decode prog_14_method_110_code 65 = .ok (.aload_n 0, 1) := by decide +kernel
theorem dd_Model_goOut_66 : decode prog_14_method_110_code 66 = .ok (.getfield 128, 3) := by decide +kernel
theorem dd_Model_goOut_69 : decode prog_14_method_110_code 69 = .ok (.iload_n 2, 1) := by decide +kernel
theorem dd_Model_goOut_70 : decode prog_14_method_110_code 70 = .ok (.iaload, 1) := by decide +kernel
theorem dd_Model_goOut_71 : decode prog_14_method_110_code 71 = .ok (.aload_n 0, 1) := by decide +kernel
theorem dd_Model_goOut_72 : decode prog_14_method_110_code 72 = .ok (.getfield 131, 3) := by decide +kernel
theorem dd_Model_goOut_75 : decode prog_14_method_110_code 75 = .ok (.iload_n 2, 1) := by decide +kernel
theorem dd_Model_goOut_76 : decode prog_14_method_110_code 76 = .ok (.iaload, 1) := by decide +kernel
theorem dd_Model_goOut_77 : decode prog_14_method_110_code 77 = .ok (.invokevirtual 691, 3) := by decide +kernel
theorem dd_Model_goOut_80 : decode prog_14_method_110_code 80 = .ok (.aload_n 0, 1) := by decide +kernel
theorem dd_Model_goOut_81 : decode prog_14_method_110_code 81 = .ok (.aload_n 0, 1) := by decide +kernel
theorem dd_Model_goOut_82 : decode prog_14_method_110_code 82 = .ok (.getfield 134, 3) := by decide +kernel
theorem dd_Model_goOut_85 : decode prog_14_method_110_code 85 = .ok (.iload_n 2, 1) := by decide +kernel
theorem dd_Model_goOut_86 : decode prog_14_method_110_code 86 = .ok (.baload, 1) := by decide +kernel
theorem dd_Model_goOut_87 : decode prog_14_method_110_code 87 = .ok (.ifCond .eq 9, 3) := by decide +kernel
theorem dd_Model_goOut_90 : decode prog_14_method_110_code 90 = .ok (.iload_n 2, 1) := by decide +kernel
theorem dd_Model_goOut_91 : decode prog_14_method_110_code 91 = .ok (.iconst 1, 1) := by decide +kernel
theorem dd_Model_goOut_92 : decode prog_14_method_110_code 92 = .ok (.iadd, 1) := by decide +kernel
theorem dd_Model_goOut_93 : decode prog_14_method_110_code 93 = .ok (.goto 4, 3) := by decide +kernel
theorem dd_Model_goOut_96 : decode prog_14_method_110_code 96 = .ok (.iload_n 2, 1) := by decide +kernel
theorem dd_Model_goOut_97 : decode prog_14_method_110_code 97 = .ok (.putfield 685, 3) := by decide +kernel
theorem dd_Model_goOut_100 : decode prog_14_method_110_code 100 = .ok (.aload_n 0, 1) := by decide +kernel
theorem dd_Model_goOut_101 : decode prog_14_method_110_code 101 = .ok (.aload_n 0, 1) := by decide +kernel
theorem dd_Model_goOut_102 : decode prog_14_method_110_code 102 = .ok (.getfield 125, 3) := by decide +kernel
theorem dd_Model_goOut_105 : decode prog_14_method_110_code 105 = .ok (.iload_n 2, 1) := by decide +kernel
theorem dd_Model_goOut_106 : decode prog_14_method_110_code 106 = .ok (.iaload, 1) := by decide +kernel
theorem dd_Model_goOut_107 : decode prog_14_method_110_code 107 = .ok (.putfield 168, 3) := by decide +kernel
theorem dd_Model_goOut_110 : decode prog_14_method_110_code 110 = .ok (.return_, 1) := by decide +kernel
theorem dd_Model_doReferences_0 : decode prog_14_method_124_code 0 = .ok (.aload_n 0, 1) := by decide +kernel
theorem dd_Model_doReferences_1 : decode prog_14_method_124_code 1 = .ok (.getfield 267, 3) := by decide +kernel
theorem dd_Model_doReferences_4 : decode prog_14_method_124_code 4 = .ok (.sipush 208, 3) := by decide +kernel
theorem dd_Model_doReferences_7 : decode prog_14_method_124_code 7 = .ok (.if_icmp .ne 10, 3) := by decide +kernel
theorem dd_Model_doReferences_10 : decode prog_14_method_124_code 10 = .ok (.aload_n 0, 1) := by decide +kernel
theorem dd_Model_doReferences_11 : decode prog_14_method_124_code 11 = .ok (.lconst 0, 1) := by decide +kernel
theorem dd_Model_doReferences_12 : decode prog_14_method_124_code 12 = .ok (.iconst 1, 1) := by decide +kernel
theorem dd_Model_doReferences_13 : decode prog_14_method_124_code 13 = .ok (.invokevirtual 676, 3) := by decide +kernel
theorem dd_Model_doReferences_16 : decode prog_14_method_124_code 16 = .ok (.return_, 1) := by decide +kernel
theorem dd_Model_doReferences_17 : decode prog_14_method_124_code 17 = .ok (.aload_n 0, 1) := by decide +kernel
theorem dd_Model_doReferences_18 : decode prog_14_method_124_code 18 = .ok (.getfield 110, 3) := by decide +kernel
theorem dd_Model_doReferences_21 : decode prog_14_method_124_code 21 = .ok (.aload_n 0, 1) := by decide +kernel
theorem dd_Model_doReferences_22 : decode prog_14_method_124_code 22 = .ok (.getfield 662, 3) := by decide +kernel
theorem dd_Model_doReferences_25 : decode prog_14_method_124_code 25 = .ok (.iconst 1, 1) := by decide +kernel
theorem dd_Model_doReferences_26 : decode prog_14_method_124_code 26 = .ok (.isub, 1) := by decide +kernel
theorem dd_Model_doReferences_27 : decode prog_14_method_124_code 27 = .ok (.laload, 1) := by decide +kernel
theorem dd_Model_doReferences_28 : decode prog_14_method_124_code 28 = .ok (.lstore_n 1, 1) := by decide +kernel
theorem dd_Model_doReferences_29 : decode prog_14_method_124_code 29 = .ok (.aload_n 0, 1) := by decide +kernel
theorem dd_Model_doReferences_30 : decode prog_14_method_124_code 30 = .ok (.getfield 267, 3) := by decide +kernel
theorem dd_Model_doReferences_33 : decode prog_14_method_124_code 33 = .ok (.tableswitch 149 209 213 #[35, 149, 63, 99, 118], 35) := by decide +kernel
theorem dd_Model_doReferences_68 : decode prog_14_method_124_code 68 = .ok (.aload_n 0, 1) := by decide +kernel
theorem dd_Model_doReferences_69 : decode prog_14_method_124_code 69 = .ok (.dup, 1) := by decide +kernel
theorem dd_Model_doReferences_70 : decode prog_14_method_124_code 70 = .ok (.getfield 662, 3) := by decide +kernel
theorem dd_Model_doReferences_73 : decode prog_14_method_124_code 73 = .ok (.iconst 1, 1) := by decide +kernel
theorem dd_Model_doReferences_74 : decode prog_14_method_124_code 74 = .ok (.isub, 1) := by decide +kernel
theorem dd_Model_doReferences_75 : decode prog_14_method_124_code 75 = .ok (.putfield 662, 3) := by decide +kernel
theorem dd_Model_doReferences_78 : decode prog_14_method_124_code 78 = .ok (.aload_n 0, 1) := by decide +kernel
theorem dd_Model_doReferences_79 : decode prog_14_method_124_code 79 = .ok (.lload_n 1, 1) := by decide +kernel
theorem dd_Model_doReferences_80 : decode prog_14_method_124_code 80 = .ok (.lconst 0, 1) := by decide +kernel
theorem dd_Model_doReferences_81 : decode prog_14_method_124_code 81 = .ok (.lcmp, 1) := by decide +kernel
theorem dd_Model_doReferences_82 : decode prog_14_method_124_code 82 = .ok (.ifCond .ne 7, 3) := by decide +kernel
theorem dd_Model_doReferences_85 : decode prog_14_method_124_code 85 = .ok (.lconst 1, 1) := by decide +kernel
theorem dd_Model_doReferences_86 : decode prog_14_method_124_code 86 = .ok (.goto 4, 3) := by decide +kernel
theorem dd_Model_doReferences_89 : decode prog_14_method_124_code 89 = .ok (.lconst 0, 1) := by decide +kernel
theorem dd_Model_doReferences_90 : decode prog_14_method_124_code 90 = .ok (.invokevirtual 737, 3) := by decide +kernel
theorem dd_Model_doReferences_93 : decode prog_14_method_124_code 93 = .ok (.goto 117, 3) := by decide +kernel
theorem dd_Model_doReferences_96 : decode prog_14_method_124_code 96 = .ok (.aload_n 0, 1) := by decide +kernel
theorem dd_Model_doReferences_97 : decode prog_14_method_124_code 97 = .ok (.dup, 1) := by decide +kernel
theorem dd_Model_doReferences_98 : decode prog_14_method_124_code 98 = .ok (.getfield 662, 3) := by decide +kernel
theorem dd_Model_doReferences_101 : decode prog_14_method_124_code 101 = .ok (.iconst 2, 1) := by decide +kernel
theorem dd_Model_doReferences_102 : decode prog_14_method_124_code 102 = .ok (.isub, 1) := by decide +kernel
theorem dd_Model_doReferences_103 : decode prog_14_method_124_code 103 = .ok (.putfield 662, 3) := by decide +kernel
theorem dd_Model_doReferences_106 : decode prog_14_method_124_code 106 = .ok (.aload_n 0, 1) := by decide +kernel
theorem dd_Model_doReferences_107 : decode prog_14_method_124_code 107 = .ok (.aload_n 0, 1) := by decide +kernel
theorem dd_Model_doReferences_108 : decode prog_14_method_124_code 108 = .ok (.getfield 110, 3) := by decide +kernel
theorem dd_Model_doReferences_111 : decode prog_14_method_124_code 111 = .ok (.aload_n 0, 1) := by decide +kernel
theorem dd_Model_doReferences_112 : decode prog_14_method_124_code 112 = .ok (.getfield 662, 3) := by decide +kernel
theorem dd_Model_doReferences_115 : decode prog_14_method_124_code 115 = .ok (.laload, 1) := by decide +kernel
theorem dd_Model_doReferences_116 : decode prog_14_method_124_code 116 = .ok (.lload_n 1, 1) := by decide +kernel
theorem dd_Model_doReferences_117 : decode prog_14_method_124_code 117 = .ok (.lcmp, 1) := by decide +kernel
theorem dd_Model_doReferences_118 : decode prog_14_method_124_code 118 = .ok (.ifCond .ne 7, 3) := by decide +kernel
theorem dd_Model_doReferences_121 : decode prog_14_method_124_code 121 = .ok (.lconst 1, 1) := by decide +kernel
theorem dd_Model_doReferences_122 : decode prog_14_method_124_code 122 = .ok (.goto 4, 3) := by decide +kernel
theorem dd_Model_doReferences_125 : decode prog_14_method_124_code 125 = .ok (.lconst 0, 1) := by decide +kernel
theorem dd_Model_doReferences_126 : decode prog_14_method_124_code 126 = .ok (.invokevirtual 737, 3) := by decide +kernel
theorem dd_Model_doReferences_129 : decode prog_14_method_124_code 129 = .ok (.goto 81, 3) := by decide +kernel
theorem dd_Model_doReferences_132 : decode prog_14_method_124_code 132 = .ok (.aload_n 0, 1) := by decide +kernel
theorem dd_Model_doReferences_133 : decode prog_14_method_124_code 133 = .ok (.lload_n 1, 1) := by decide +kernel
theorem dd_Model_doReferences_134 : decode prog_14_method_124_code 134 = .ok (.lconst 0, 1) := by decide +kernel
theorem dd_Model_doReferences_135 : decode prog_14_method_124_code 135 = .ok (.lcmp, 1) := by decide +kernel
theorem dd_Model_doReferences_136 : decode prog_14_method_124_code 136 = .ok (.ifCond .ne 8, 3) := by decide +kernel
theorem dd_Model_doReferences_139 : decode prog_14_method_124_code 139 = .ok (.bipush 8, 2) := by decide +kernel
theorem dd_Model_doReferences_141 : decode prog_14_method_124_code 141 = .ok (.goto 4, 3) := by decide +kernel
theorem dd_Model_doReferences_144 : decode prog_14_method_124_code 144 = .ok (.iconst 0, 1) := by decide +kernel
theorem dd_Model_doReferences_145 : decode prog_14_method_124_code 145 = .ok (.putfield 673, 3) := by decide +kernel
theorem dd_Model_doReferences_148 : decode prog_14_method_124_code 148 = .ok (.goto 62, 3) := by decide +kernel
theorem dd_Model_doReferences_151 : decode prog_14_method_124_code 151 = .ok (.lload_n 1, 1) := by decide +kernel
theorem dd_Model_doReferences_152 : decode prog_14_method_124_code 152 = .ok (.lconst 0, 1) := by decide +kernel
theorem dd_Model_doReferences_153 : decode prog_14_method_124_code 153 = .ok (.lcmp, 1) := by decide +kernel
theorem dd_Model_doReferences_154 : decode prog_14_method_124_code 154 = .ok (.ifCond .eq 6, 3) := by decide +kernel
theorem dd_Model_doReferences_157 : decode prog_14_method_124_code 157 = .ok (.goto 53, 3) := by decide +kernel
theorem dd_Model_doReferences_160 : decode prog_14_method_124_code 160 = .ok (.aload_n 0, 1) := by decide +kernel
theorem dd_Model_doReferences_161 : decode prog_14_method_124_code 161 = .ok (.dup, 1) := by decide +kernel
theorem dd_Model_doReferences_162 : decode prog_14_method_124_code 162 = .ok (.getfield 662, 3) := by decide +kernel
theorem dd_Model_doReferences_165 : decode prog_14_method_124_code 165 = .ok (.iconst 1, 1) := by decide +kernel
theorem dd_Model_doReferences_166 : decode prog_14_method_124_code 166 = .ok (.isub, 1) := by decide +kernel
theorem dd_Model_doReferences_167 : decode prog_14_method_124_code 167 = .ok (.putfield 662, 3) := by decide +kernel
theorem dd_Model_doReferences_170 : decode prog_14_method_124_code 170 = .ok (.aload_n 0, 1) := by decide +kernel
theorem dd_Model_doReferences_171 : decode prog_14_method_124_code 171 = .ok (.aload_n 0, 1) := by decide +kernel
theorem dd_Model_doReferences_172 : decode prog_14_method_124_code 172 = .ok (.getfield 273, 3) := by decide +kernel
theorem dd_Model_doReferences_175 : decode prog_14_method_124_code 175 = .ok (.l2i, 1) := by decide +kernel
theorem dd_Model_doReferences_176 : decode prog_14_method_124_code 176 = .ok (.invokevirtual 731, 3) := by decide +kernel
theorem dd_Model_doReferences_179 : decode prog_14_method_124_code 179 = .ok (.goto 31, 3) := by decide +kernel
theorem dd_Model_doReferences_182 : decode prog_14_method_124_code 182 = .ok (.lload_n 1, 1) := by decide +kernel
theorem dd_Model_doReferences_183 : decode prog_14_method_124_code 183 = .ok (.lconst 0, 1) := by decide +kernel
theorem dd_Model_doReferences_184 : decode prog_14_method_124_code 184 = .ok (.lcmp, 1) := by decide +kernel
theorem dd_Model_doReferences_185 : decode prog_14_method_124_code 185 = .ok (.ifCond .ne 16, 3) := by decide +kernel
theorem dd_Model_doReferences_188 : decode prog_14_method_124_code 188 = .ok (.aload_n 0, 1) := by decide +kernel
theorem dd_Model_doReferences_189 : decode prog_14_method_124_code 189 = .ok (.dup, 1) := by decide +kernel
theorem dd_Model_doReferences_190 : decode prog_14_method_124_code 190 = .ok (.getfield 662, 3) := by decide +kernel
theorem dd_Model_doReferences_193 : decode prog_14_method_124_code 193 = .ok (.iconst 1, 1) := by decide +kernel
theorem dd_Model_doReferences_194 : decode prog_14_method_124_code 194 = .ok (.isub, 1) := by decide +kernel
theorem dd_Model_doReferences_195 : decode prog_14_method_124_code 195 = .ok (.putfield 662, 3) := by decide +kernel
theorem dd_Model_doReferences_198 : decode prog_14_method_124_code 198 = .ok (.goto 12, 3) := by decide +kernel
theorem dd_Model_doReferences_201 : decode prog_14_method_124_code 201 = .ok (.aload_n 0, 1) := by decide +kernel
theorem dd_Model_doReferences_202 : decode prog_14_method_124_code 202 = .ok (.aload_n 0, 1) := by decide +kernel
theorem dd_Model_doReferences_203 : decode prog_14_method_124_code 203 = .ok (.getfield 273, 3) := by decide +kernel
theorem dd_Model_doReferences_206 : decode prog_14_method_124_code 206 = .ok (.l2i, 1) := by decide +kernel
theorem dd_Model_doReferences_207 : decode prog_14_method_124_code 207 = .ok (.invokevirtual 731, 3) := by decide +kernel
theorem dd_Model_doReferences_210 : decode prog_14_method_124_code 210 = .ok (.return_, 1) := by decide +kernel
theorem dd_Long_remainderUnsigned_0 : decode prog_21_method_45_code 0 = .ok (.lload_n 2, 1) := by decide +kernel
theorem dd_Long_remainderUnsigned_1 : decode prog_21_method_45_code 1 = .ok (.lconst 0, 1) := by decide +kernel
theorem dd_Long_remainderUnsigned_2 : decode prog_21_method_45_code 2 = .ok (.lcmp, 1) := by decide +kernel
theorem dd_Long_remainderUnsigned_3 : decode prog_21_method_45_code 3 = .ok (.ifCond .lt 37, 3) := by decide +kernel
theorem dd_Long_remainderUnsigned_6 : decode prog_21_method_45_code 6 = .ok (.lload_n 0, 1) := by decide +kernel
theorem dd_Long_remainderUnsigned_7 : decode prog_21_method_45_code 7 = .ok (.iconst 1, 1) := by decide +kernel
theorem dd_Long_remainderUnsigned_8 : decode prog_21_method_45_code 8 = .ok (.lushr, 1) := by decide +kernel
theorem dd_Long_remainderUnsigned_9 : decode prog_21_method_45_code 9 = .ok (.lload_n 2, 1) := by decide +kernel
theorem dd_Long_remainderUnsigned_10 : decode prog_21_method_45_code 10 = .ok (.ldiv, 1) := by decide +kernel
theorem dd_Long_remainderUnsigned_11 : decode prog_21_method_45_code 11 = .ok (.iconst 1, 1) := by decide +kernel
theorem dd_Long_remainderUnsigned_12 : decode prog_21_method_45_code 12 = .ok (.lshl, 1) := by decide +kernel
theorem dd_Long_remainderUnsigned_13 : decode prog_21_method_45_code 13 = .ok (.lstore 4, 2) := by decide +kernel
theorem dd_Long_remainderUnsigned_15 : decode prog_21_method_45_code 15 = .ok (.lload_n 0, 1) := by decide +kernel
theorem dd_Long_remainderUnsigned_16 : decode prog_21_method_45_code 16 = .ok (.lload 4, 2) := by decide +kernel
theorem dd_Long_remainderUnsigned_18 : decode prog_21_method_45_code 18 = .ok (.lload_n 2, 1) := by decide +kernel
theorem dd_Long_remainderUnsigned_19 : decode prog_21_method_45_code 19 = .ok (.lmul, 1) := by decide +kernel
theorem dd_Long_remainderUnsigned_20 : decode prog_21_method_45_code 20 = .ok (.lsub, 1) := by decide +kernel
theorem dd_Long_remainderUnsigned_21 : decode prog_21_method_45_code 21 = .ok (.lstore 6, 2) := by decide +kernel
theorem dd_Long_remainderUnsigned_23 : decode prog_21_method_45_code 23 = .ok (.lload 6, 2) := by decide +kernel
theorem dd_Long_remainderUnsigned_25 : decode prog_21_method_45_code 25 = .ok (.lload 6, 2) := by decide +kernel
theorem dd_Long_remainderUnsigned_27 : decode prog_21_method_45_code 27 = .ok (.lload_n 2, 1) := by decide +kernel
theorem dd_Long_remainderUnsigned_28 : decode prog_21_method_45_code 28 = .ok (.lsub, 1) := by decide +kernel
theorem dd_Long_remainderUnsigned_29 : decode prog_21_method_45_code 29 = .ok (.ldc2_w 306, 3) := by decide +kernel
theorem dd_Long_remainderUnsigned_32 : decode prog_21_method_45_code 32 = .ok (.lxor, 1) := by decide +kernel
theorem dd_Long_remainderUnsigned_33 : decode prog_21_method_45_code 33 = .ok (.bipush 63, 2) := by decide +kernel
theorem dd_Long_remainderUnsigned_35 : decode prog_21_method_45_code 35 = .ok (.lshr, 1) := by decide +kernel
theorem dd_Long_remainderUnsigned_36 : decode prog_21_method_45_code 36 = .ok (.lload_n 2, 1) := by decide +kernel
theorem dd_Long_remainderUnsigned_37 : decode prog_21_method_45_code 37 = .ok (.land, 1) := by decide +kernel
theorem dd_Long_remainderUnsigned_38 : decode prog_21_method_45_code 38 = .ok (.lsub, 1) := by decide +kernel
theorem dd_Long_remainderUnsigned_39 : decode prog_21_method_45_code 39 = .ok (.lreturn, 1) := by decide +kernel
theorem dd_Long_remainderUnsigned_40 : decode prog_21_method_45_code 40 = .ok (.lload_n 0, 1) := by decide +kernel
theorem dd_Long_remainderUnsigned_41 : decode prog_21_method_45_code 41 = .ok (.lload_n 0, 1) := by decide +kernel
theorem dd_Long_remainderUnsigned_42 : decode prog_21_method_45_code 42 = .ok (.lload_n 0, 1) := by decide +kernel
theorem dd_Long_remainderUnsigned_43 : decode prog_21_method_45_code 43 = .ok (.lload_n 2, 1) := by decide +kernel
theorem dd_Long_remainderUnsigned_44 : decode prog_21_method_45_code 44 = .ok (.lsub, 1) := by decide +kernel
theorem dd_Long_remainderUnsigned_45 : decode prog_21_method_45_code 45 = .ok (.ldc2_w 306, 3) := by decide +kernel
theorem dd_Long_remainderUnsigned_48 : decode prog_21_method_45_code 48 = .ok (.lxor, 1) := by decide +kernel
theorem dd_Long_remainderUnsigned_49 : decode prog_21_method_45_code 49 = .ok (.land, 1) := by decide +kernel
theorem dd_Long_remainderUnsigned_50 : decode prog_21_method_45_code 50 = .ok (.bipush 63, 2) := by decide +kernel
theorem dd_Long_remainderUnsigned_52 : decode prog_21_method_45_code 52 = .ok (.lshr, 1) := by decide +kernel
theorem dd_Long_remainderUnsigned_53 : decode prog_21_method_45_code 53 = .ok (.lload_n 2, 1) := by decide +kernel
theorem dd_Long_remainderUnsigned_54 : decode prog_21_method_45_code 54 = .ok (.land, 1) := by decide +kernel
theorem dd_Long_remainderUnsigned_55 : decode prog_21_method_45_code 55 = .ok (.lsub, 1) := by decide +kernel
theorem dd_Long_remainderUnsigned_56 : decode prog_21_method_45_code 56 = .ok (.lreturn, 1) := by decide +kernel
theorem dd_Long_divideUnsigned_0 : decode prog_21_method_44_code 0 = .ok (.lload_n 2, 1) := by decide +kernel
theorem dd_Long_divideUnsigned_1 : decode prog_21_method_44_code 1 = .ok (.lconst 0, 1) := by decide +kernel
theorem dd_Long_divideUnsigned_2 : decode prog_21_method_44_code 2 = .ok (.lcmp, 1) := by decide +kernel
theorem dd_Long_divideUnsigned_3 : decode prog_21_method_44_code 3 = .ok (.ifCond .lt 38, 3) := by decide +kernel
theorem dd_Long_divideUnsigned_6 : decode prog_21_method_44_code 6 = .ok (.lload_n 0, 1) := by decide +kernel
theorem dd_Long_divideUnsigned_7 : decode prog_21_method_44_code 7 = .ok (.iconst 1, 1) := by decide +kernel
theorem dd_Long_divideUnsigned_8 : decode prog_21_method_44_code 8 = .ok (.lushr, 1) := by decide +kernel
theorem dd_Long_divideUnsigned_9 : decode prog_21_method_44_code 9 = .ok (.lload_n 2, 1) := by decide +kernel
theorem dd_Long_divideUnsigned_10 : decode prog_21_method_44_code 10 = .ok (.ldiv, 1) := by decide +kernel
theorem dd_Long_divideUnsigned_11 : decode prog_21_method_44_code 11 = .ok (.iconst 1, 1) := by decide +kernel
theorem dd_Long_divideUnsigned_12 : decode prog_21_method_44_code 12 = .ok (.lshl, 1) := by decide +kernel
theorem dd_Long_divideUnsigned_13 : decode prog_21_method_44_code 13 = .ok (.lstore 4, 2) := by decide +kernel
theorem dd_Long_divideUnsigned_15 : decode prog_21_method_44_code 15 = .ok (.lload_n 0, 1) := by decide +kernel
theorem dd_Long_divideUnsigned_16 : decode prog_21_method_44_code 16 = .ok (.lload 4, 2) := by decide +kernel
theorem dd_Long_divideUnsigned_18 : decode prog_21_method_44_code 18 = .ok (.lload_n 2, 1) := by decide +kernel
theorem dd_Long_divideUnsigned_19 : decode prog_21_method_44_code 19 = .ok (.lmul, 1) := by decide +kernel
theorem dd_Long_divideUnsigned_20 : decode prog_21_method_44_code 20 = .ok (.lsub, 1) := by decide +kernel
theorem dd_Long_divideUnsigned_21 : decode prog_21_method_44_code 21 = .ok (.lstore 6, 2) := by decide +kernel
theorem dd_Long_divideUnsigned_23 : decode prog_21_method_44_code 23 = .ok (.lload 4, 2) := by decide +kernel
theorem dd_Long_divideUnsigned_25 : decode prog_21_method_44_code 25 = .ok (.lload 6, 2) := by decide +kernel
theorem dd_Long_divideUnsigned_27 : decode prog_21_method_44_code 27 = .ok (.lload 6, 2) := by decide +kernel
theorem dd_Long_divideUnsigned_29 : decode prog_21_method_44_code 29 = .ok (.lload_n 2, 1) := by decide +kernel
theorem dd_Long_divideUnsigned_30 : decode prog_21_method_44_code 30 = .ok (.lsub, 1) := by decide +kernel
theorem dd_Long_divideUnsigned_31 : decode prog_21_method_44_code 31 = .ok (.ldc2_w 306, 3) := by decide +kernel
theorem dd_Long_divideUnsigned_34 : decode prog_21_method_44_code 34 = .ok (.lxor, 1) := by decide +kernel
theorem dd_Long_divideUnsigned_35 : decode prog_21_method_44_code 35 = .ok (.lor, 1) := by decide +kernel
theorem dd_Long_divideUnsigned_36 : decode prog_21_method_44_code 36 = .ok (.bipush 63, 2) := by decide +kernel
theorem dd_Long_divideUnsigned_38 : decode prog_21_method_44_code 38 = .ok (.lushr, 1) := by decide +kernel
theorem dd_Long_divideUnsigned_39 : decode prog_21_method_44_code 39 = .ok (.ladd, 1) := by decide +kernel
theorem dd_Long_divideUnsigned_40 : decode prog_21_method_44_code 40 = .ok (.lreturn, 1) := by decide +kernel
theorem dd_Long_divideUnsigned_41 : decode prog_21_method_44_code 41 = .ok (.lload_n 0, 1) := by decide +kernel
theorem dd_Long_divideUnsigned_42 : decode prog_21_method_44_code 42 = .ok (.lload_n 0, 1) := by decide +kernel
theorem dd_Long_divideUnsigned_43 : decode prog_21_method_44_code 43 = .ok (.lload_n 2, 1) := by decide +kernel
theorem dd_Long_divideUnsigned_44 : decode prog_21_method_44_code 44 = .ok (.lsub, 1) := by decide +kernel
theorem dd_Long_divideUnsigned_45 : decode prog_21_method_44_code 45 = .ok (.ldc2_w 306, 3) := by decide +kernel
theorem dd_Long_divideUnsigned_48 : decode prog_21_method_44_code 48 = .ok (.lxor, 1) := by decide +kernel
theorem dd_Long_divideUnsigned_49 : decode prog_21_method_44_code 49 = .ok (.land, 1) := by decide +kernel
theorem dd_Long_divideUnsigned_50 : decode prog_21_method_44_code 50 = .ok (.bipush 63, 2) := by decide +kernel
theorem dd_Long_divideUnsigned_52 : decode prog_21_method_44_code 52 = .ok (.lushr, 1) := by decide +kernel
theorem dd_Long_divideUnsigned_53 : decode prog_21_method_44_code 53 = .ok (.lreturn, 1) := by decide +kernel
theorem dd_Model_divided_0 : decode prog_14_method_120_code 0 = .ok (.lload 4, 2) := by decide +kernel
theorem dd_Model_divided_2 : decode prog_14_method_120_code 2 = .ok (.lconst 0, 1) := by decide +kernel
theorem dd_Model_divided_3 : decode prog_14_method_120_code 3 = .ok (.lcmp, 1) := by decide +kernel
theorem dd_Model_divided_4 : decode prog_14_method_120_code 4 = .ok (.ifCond .ne 10, 3) := by decide +kernel
theorem dd_Model_divided_7 : decode prog_14_method_120_code 7 = .ok (.aload_n 0, 1) := by decide +kernel
theorem dd_Model_divided_8 : decode prog_14_method_120_code 8 = .ok (.iconst 3, 1) := by decide +kernel
theorem dd_Model_divided_9 : decode prog_14_method_120_code 9 = .ok (.putfield 673, 3) := by decide +kernel
theorem dd_Model_divided_12 : decode prog_14_method_120_code 12 = .ok (.lconst 0, 1) := by decide +kernel
theorem dd_Model_divided_13 : decode prog_14_method_120_code 13 = .ok (.lreturn, 1) := by decide +kernel
theorem dd_Model_divided_14 : decode prog_14_method_120_code 14 = .ok (.iload_n 1, 1) := by decide +kernel
theorem dd_Model_divided_15 : decode prog_14_method_120_code 15 = .ok (.iconst 2, 1) := by decide +kernel
theorem dd_Model_divided_16 : decode prog_14_method_120_code 16 = .ok (.irem, 1) := by decide +kernel
theorem dd_Model_divided_17 : decode prog_14_method_120_code 17 = .ok (.ifCond .ne 71, 3) := by decide +kernel
theorem dd_Model_divided_20 : decode prog_14_method_120_code 20 = .ok (.lload 4, 2) := by decide +kernel
theorem dd_Model_divided_22 : decode prog_14_method_120_code 22 = .ok (.ldc2_w 184, 3) := by decide +kernel
theorem dd_Model_divided_25 : decode prog_14_method_120_code 25 = .ok (.lcmp, 1) := by decide +kernel
theorem dd_Model_divided_26 : decode prog_14_method_120_code 26 = .ok (.ifCond .ne 20, 3) := by decide +kernel
theorem dd_Model_divided_29 : decode prog_14_method_120_code 29 = .ok (.lload_n 2, 1) := by decide +kernel
theorem dd_Model_divided_30 : decode prog_14_method_120_code 30 = .ok (.ldc2_w 184, 3) := by decide +kernel
theorem dd_Model_divided_33 : decode prog_14_method_120_code 33 = .ok (.iload 6, 2) := by decide +kernel
theorem dd_Model_divided_35 : decode prog_14_method_120_code 35 = .ok (.iconst 1, 1) := by decide +kernel
theorem dd_Model_divided_36 : decode prog_14_method_120_code 36 = .ok (.isub, 1) := by decide +kernel
theorem dd_Model_divided_37 : decode prog_14_method_120_code 37 = .ok (.lshl, 1) := by decide +kernel
theorem dd_Model_divided_38 : decode prog_14_method_120_code 38 = .ok (.lcmp, 1) := by decide +kernel
theorem dd_Model_divided_39 : decode prog_14_method_120_code 39 = .ok (.ifCond .ne 7, 3) := by decide +kernel
theorem dd_Model_divided_42 : decode prog_14_method_120_code 42 = .ok (.iconst 1, 1) := by decide +kernel
theorem dd_Model_divided_43 : decode prog_14_method_120_code 43 = .ok (.goto 4, 3) := by decide +kernel
theorem dd_Model_divided_46 : decode prog_14_method_120_code 46 = .ok (.iconst 0, 1) := by decide +kernel
theorem dd_Model_divided_47 : decode prog_14_method_120_code 47 = .ok (.istore 7, 2) := by decide +kernel
theorem dd_Model_divided_49 : decode prog_14_method_120_code 49 = .ok (.iload_n 1, 1) := by decide +kernel
theorem dd_Model_divided_50 : decode prog_14_method_120_code 50 = .ok (.ifCond .ne 13, 3) := by decide +kernel
theorem dd_Model_divided_53 : decode prog_14_method_120_code 53 = .ok (.iload 7, 2) := by decide +kernel
theorem dd_Model_divided_55 : decode prog_14_method_120_code 55 = .ok (.ifCond .eq 8, 3) := by decide +kernel
theorem dd_Model_divided_58 : decode prog_14_method_120_code 58 = .ok (.aload_n 0, 1) := by decide +kernel
theorem dd_Model_divided_59 : decode prog_14_method_120_code 59 = .ok (.iconst 4, 1) := by decide +kernel
theorem dd_Model_divided_60 : decode prog_14_method_120_code 60 = .ok (.putfield 673, 3) := by decide +kernel
theorem dd_Model_divided_63 : decode prog_14_method_120_code 63 = .ok (.iload 7, 2) := by decide +kernel
theorem dd_Model_divided_65 : decode prog_14_method_120_code 65 = .ok (.ifCond .eq 7, 3) := by decide +kernel
theorem dd_Model_divided_68 : decode prog_14_method_120_code 68 = .ok (.lconst 0, 1) := by decide +kernel
theorem dd_Model_divided_69 : decode prog_14_method_120_code 69 = .ok (.goto 18, 3) := by decide +kernel
theorem dd_Model_divided_72 : decode prog_14_method_120_code 72 = .ok (.iload_n 1, 1) := by decide +kernel
theorem dd_Model_divided_73 : decode prog_14_method_120_code 73 = .ok (.ifCond .ne 10, 3) := by decide +kernel
theorem dd_Model_divided_76 : decode prog_14_method_120_code 76 = .ok (.lload_n 2, 1) := by decide +kernel
theorem dd_Model_divided_77 : decode prog_14_method_120_code 77 = .ok (.lload 4, 2) := by decide +kernel
theorem dd_Model_divided_79 : decode prog_14_method_120_code 79 = .ok (.ldiv, 1) := by decide +kernel
theorem dd_Model_divided_80 : decode prog_14_method_120_code 80 = .ok (.goto 7, 3) := by decide +kernel
theorem dd_Model_divided_83 : decode prog_14_method_120_code 83 = .ok (.lload_n 2, 1) := by decide +kernel
theorem dd_Model_divided_84 : decode prog_14_method_120_code 84 = .ok (.lload 4, 2) := by decide +kernel
theorem dd_Model_divided_86 : decode prog_14_method_120_code 86 = .ok (.lrem, 1) := by decide +kernel
theorem dd_Model_divided_87 : decode prog_14_method_120_code 87 = .ok (.lreturn, 1) := by decide +kernel
theorem dd_Model_divided_88 : decode prog_14_method_120_code 88 = .ok (.iload 6, 2) := by decide +kernel
theorem dd_Model_divided_90 : decode prog_14_method_120_code 90 = .ok (.bipush 32, 2) := by decide +kernel
theorem dd_Model_divided_92 : decode prog_14_method_120_code 92 = .ok (.if_icmp .ne 11, 3) := by decide +kernel
theorem dd_Model_divided_95 : decode prog_14_method_120_code 95 = .ok (.lload_n 2, 1) := by decide +kernel
theorem dd_Model_divided_96 : decode prog_14_method_120_code 96 = .ok (.ldc2_w 182, 3) := by decide +kernel
theorem dd_Model_divided_99 : decode prog_14_method_120_code 99 = .ok (.land, 1) := by decide +kernel
theorem dd_Model_divided_100 : decode prog_14_method_120_code 100 = .ok (.goto 4, 3) := by decide +kernel
theorem dd_Model_divided_103 : decode prog_14_method_120_code 103 = .ok (.lload_n 2, 1) := by decide +kernel
theorem dd_Model_divided_104 : decode prog_14_method_120_code 104 = .ok (.lstore 7, 2) := by decide +kernel
theorem dd_Model_divided_106 : decode prog_14_method_120_code 106 = .ok (.iload 6, 2) := by decide +kernel
theorem dd_Model_divided_108 : decode prog_14_method_120_code 108 = .ok (.bipush 32, 2) := by decide +kernel
theorem dd_Model_divided_110 : decode prog_14_method_120_code 110 = .ok (.if_icmp .ne 12, 3) := by decide +kernel
theorem dd_Model_divided_113 : decode prog_14_method_120_code 113 = .ok (.lload 4, 2) := by decide +kernel
theorem dd_Model_divided_115 : decode prog_14_method_120_code 115 = .ok (.ldc2_w 182, 3) := by decide +kernel
theorem dd_Model_divided_118 : decode prog_14_method_120_code 118 = .ok (.land, 1) := by decide +kernel
theorem dd_Model_divided_119 : decode prog_14_method_120_code 119 = .ok (.goto 5, 3) := by decide +kernel
theorem dd_Model_divided_122 : decode prog_14_method_120_code 122 = .ok (.lload 4, 2) := by decide +kernel
theorem dd_Model_divided_124 : decode prog_14_method_120_code 124 = .ok (.lstore 9, 2) := by decide +kernel
theorem dd_Model_divided_126 : decode prog_14_method_120_code 126 = .ok (.iload_n 1, 1) := by decide +kernel
theorem dd_Model_divided_127 : decode prog_14_method_120_code 127 = .ok (.iconst 1, 1) := by decide +kernel
theorem dd_Model_divided_128 : decode prog_14_method_120_code 128 = .ok (.if_icmp .ne 13, 3) := by decide +kernel
theorem dd_Model_divided_131 : decode prog_14_method_120_code 131 = .ok (.lload 7, 2) := by decide +kernel
theorem dd_Model_divided_133 : decode prog_14_method_120_code 133 = .ok (.lload 9, 2) := by decide +kernel
theorem dd_Model_divided_135 : decode prog_14_method_120_code 135 = .ok (.invokestatic 750, 3) := by decide +kernel
theorem dd_Model_divided_138 : decode prog_14_method_120_code 138 = .ok (.goto 10, 3) := by decide +kernel
theorem dd_Model_divided_141 : decode prog_14_method_120_code 141 = .ok (.lload 7, 2) := by decide +kernel
theorem dd_Model_divided_143 : decode prog_14_method_120_code 143 = .ok (.lload 9, 2) := by decide +kernel
theorem dd_Model_divided_145 : decode prog_14_method_120_code 145 = .ok (.invokestatic 756, 3) := by decide +kernel
theorem dd_Model_divided_148 : decode prog_14_method_120_code 148 = .ok (.lreturn, 1) := by decide +kernel
