theorem dd_Model_instance_0 : decode prog_14_method_134_code 0 = .ok (.aload_n 0, 1) := by decide +kernel
theorem dd_Model_instance_1 : decode prog_14_method_134_code 1 = .ok (.iconst 1, 1) := by decide +kernel
theorem dd_Model_instance_2 : decode prog_14_method_134_code 2 = .ok (.putfield 811, 3) := by decide +kernel
theorem dd_Model_instance_5 : decode prog_14_method_134_code 5 = .ok (.aload_n 0, 1) := by decide +kernel
theorem dd_Model_instance_6 : decode prog_14_method_134_code 6 = .ok (.invokevirtual 814, 3) := by decide +kernel
theorem dd_Model_instance_9 : decode prog_14_method_134_code 9 = .ok (.aload_n 0, 1) := by decide +kernel
theorem dd_Model_instance_10 : decode prog_14_method_134_code 10 = .ok (.iconst 0, 1) := by decide +kernel
theorem dd_Model_instance_11 : decode prog_14_method_134_code 11 = .ok (.putfield 662, 3) := by decide +kernel
theorem dd_Model_instance_14 : decode prog_14_method_134_code 14 = .ok (.aload_n 0, 1) := by decide +kernel
theorem dd_Model_instance_15 : decode prog_14_method_134_code 15 = .ok (.iconst 0, 1) := by decide +kernel
theorem dd_Model_instance_16 : decode prog_14_method_134_code 16 = .ok (.putfield 673, 3) := by decide +kernel
theorem dd_Model_instance_19 : decode prog_14_method_134_code 19 = .ok (.iconst 0, 1) := by decide +kernel
theorem dd_Model_instance_20 : decode prog_14_method_134_code 20 = .ok (.istore_n 1, 1) := by decide +kernel
theorem dd_Model_instance_21 : decode prog_14_method_134_code 21 = .ok (.iload_n 1, 1) := by decide +kernel
theorem dd_Model_instance_22 : decode prog_14_method_134_code 22 = .ok (.ldc 103, 2) := by decide +kernel
theorem dd_Model_instance_24 : decode prog_14_method_134_code 24 = .ok (.if_icmp .ge 16, 3) := by decide +kernel
theorem dd_Model_instance_27 : decode prog_14_method_134_code 27 = .ok (.aload_n 0, 1) := by decide +kernel
theorem dd_Model_instance_28 : decode prog_14_method_134_code 28 = .ok (.getfield 104, 3) := by decide +kernel
theorem dd_Model_instance_31 : decode prog_14_method_134_code 31 = .ok (.iload_n 1, 1) := by decide +kernel
theorem dd_Model_instance_32 : decode prog_14_method_134_code 32 = .ok (.iconst 0, 1) := by decide +kernel
theorem dd_Model_instance_33 : decode prog_14_method_134_code 33 = .ok (.bastore, 1) := by decide +kernel
theorem dd_Model_instance_34 : decode prog_14_method_134_code 34 = .ok (.iinc 1 1, 3) := by decide +kernel
theorem dd_Model_instance_37 : decode prog_14_method_134_code 37 = .ok (.goto (-16), 3) := by decide +kernel
theorem dd_Model_instance_40 : decode prog_14_method_134_code 40 = .ok (.iconst 0, 1) := by decide +kernel
theorem dd_Model_instance_41 : decode prog_14_method_134_code 41 = .ok (.istore_n 1, 1) := by decide +kernel
theorem dd_Model_instance_42 : decode prog_14_method_134_code 42 = .ok (.iload_n 1, 1) := by decide +kernel
theorem dd_Model_instance_43 : decode prog_14_method_134_code 43 = .ok (.bipush 64, 2) := by decide +kernel
theorem dd_Model_instance_45 : decode prog_14_method_134_code 45 = .ok (.if_icmp .ge 16, 3) := by decide +kernel
theorem dd_Model_instance_48 : decode prog_14_method_134_code 48 = .ok (.aload_n 0, 1) := by decide +kernel
theorem dd_Model_instance_49 : decode prog_14_method_134_code 49 = .ok (.getfield 107, 3) := by decide +kernel
theorem dd_Model_instance_52 : decode prog_14_method_134_code 52 = .ok (.iload_n 1, 1) := by decide +kernel
theorem dd_Model_instance_53 : decode prog_14_method_134_code 53 = .ok (.iconst (-1), 1) := by decide +kernel
theorem dd_Model_instance_54 : decode prog_14_method_134_code 54 = .ok (.iastore, 1) := by decide +kernel
theorem dd_Model_instance_55 : decode prog_14_method_134_code 55 = .ok (.iinc 1 1, 3) := by decide +kernel
theorem dd_Model_instance_58 : decode prog_14_method_134_code 58 = .ok (.goto (-16), 3) := by decide +kernel
theorem dd_Model_instance_61 : decode prog_14_method_134_code 61 = .ok (.aload_n 0, 1) := by decide +kernel
theorem dd_Model_instance_62 : decode prog_14_method_134_code 62 = .ok (.bipush 9, 2) := by decide +kernel
theorem dd_Model_instance_64 : decode prog_14_method_134_code 64 = .ok (.invokevirtual 417, 3) := by decide +kernel
theorem dd_Model_instance_67 : decode prog_14_method_134_code 67 = .ok (.istore_n 1, 1) := by decide +kernel
theorem dd_Model_instance_68 : decode prog_14_method_134_code 68 = .ok (.iconst 0, 1) := by decide +kernel
theorem dd_Model_instance_69 : decode prog_14_method_134_code 69 = .ok (.istore_n 2, 1) := by decide +kernel
theorem dd_Model_instance_70 : decode prog_14_method_134_code 70 = .ok (.iload_n 2, 1) := by decide +kernel
theorem dd_Model_instance_71 : decode prog_14_method_134_code 71 = .ok (.iload_n 1, 1) := by decide +kernel
theorem dd_Model_instance_72 : decode prog_14_method_134_code 72 = .ok (.if_icmp .ge 95, 3) := by decide +kernel
theorem dd_Model_instance_75 : decode prog_14_method_134_code 75 = .ok (.aload_n 0, 1) := by decide +kernel
theorem dd_Model_instance_76 : decode prog_14_method_134_code 76 = .ok (.getfield 673, 3) := by decide +kernel
theorem dd_Model_instance_79 : decode prog_14_method_134_code 79 = .ok (.ifCond .ne 88, 3) := by decide +kernel
theorem dd_Model_instance_82 : decode prog_14_method_134_code 82 = .ok (.aload_n 0, 1) := by decide +kernel
theorem dd_Model_instance_83 : decode prog_14_method_134_code 83 = .ok (.invokevirtual 366, 3) := by decide +kernel
theorem dd_Model_instance_86 : decode prog_14_method_134_code 86 = .ok (.aload_n 0, 1) := by decide +kernel
theorem dd_Model_instance_87 : decode prog_14_method_134_code 87 = .ok (.getfield 273, 3) := by decide +kernel
theorem dd_Model_instance_90 : decode prog_14_method_134_code 90 = .ok (.ldc2_w 182, 3) := by decide +kernel
theorem dd_Model_instance_93 : decode prog_14_method_134_code 93 = .ok (.land, 1) := by decide +kernel
theorem dd_Model_instance_94 : decode prog_14_method_134_code 94 = .ok (.lstore_n 3, 1) := by decide +kernel
theorem dd_Model_instance_95 : decode prog_14_method_134_code 95 = .ok (.aload_n 0, 1) := by decide +kernel
theorem dd_Model_instance_96 : decode prog_14_method_134_code 96 = .ok (.invokevirtual 295, 3) := by decide +kernel
theorem dd_Model_instance_99 : decode prog_14_method_134_code 99 = .ok (.lstore 5, 2) := by decide +kernel
theorem dd_Model_instance_101 : decode prog_14_method_134_code 101 = .ok (.lload_n 3, 1) := by decide +kernel
theorem dd_Model_instance_102 : decode prog_14_method_134_code 102 = .ok (.lload 5, 2) := by decide +kernel
theorem dd_Model_instance_104 : decode prog_14_method_134_code 104 = .ok (.ladd, 1) := by decide +kernel
theorem dd_Model_instance_105 : decode prog_14_method_134_code 105 = .ok (.aload_n 0, 1) := by decide +kernel
theorem dd_Model_instance_106 : decode prog_14_method_134_code 106 = .ok (.getfield 454, 3) := by decide +kernel
theorem dd_Model_instance_109 : decode prog_14_method_134_code 109 = .ok (.i2l, 1) := by decide +kernel
theorem dd_Model_instance_110 : decode prog_14_method_134_code 110 = .ok (.lcmp, 1) := by decide +kernel
theorem dd_Model_instance_111 : decode prog_14_method_134_code 111 = .ok (.ifCond .le 8, 3) := by decide +kernel
theorem dd_Model_instance_114 : decode prog_14_method_134_code 114 = .ok (.aload_n 0, 1) := by decide +kernel
theorem dd_Model_instance_115 : decode prog_14_method_134_code 115 = .ok (.iconst 5, 1) := by decide +kernel
theorem dd_Model_instance_116 : decode prog_14_method_134_code 116 = .ok (.putfield 673, 3) := by decide +kernel
theorem dd_Model_instance_119 : decode prog_14_method_134_code 119 = .ok (.lconst 0, 1) := by decide +kernel
theorem dd_Model_instance_120 : decode prog_14_method_134_code 120 = .ok (.lstore 7, 2) := by decide +kernel
theorem dd_Model_instance_122 : decode prog_14_method_134_code 122 = .ok (.lload 7, 2) := by decide +kernel
theorem dd_Model_instance_124 : decode prog_14_method_134_code 124 = .ok (.lload 5, 2) := by decide +kernel
theorem dd_Model_instance_126 : decode prog_14_method_134_code 126 = .ok (.lcmp, 1) := by decide +kernel
theorem dd_Model_instance_127 : decode prog_14_method_134_code 127 = .ok (.ifCond .ge 34, 3) := by decide +kernel
theorem dd_Model_instance_130 : decode prog_14_method_134_code 130 = .ok (.aload_n 0, 1) := by decide +kernel
theorem dd_Model_instance_131 : decode prog_14_method_134_code 131 = .ok (.getfield 673, 3) := by decide +kernel
theorem dd_Model_instance_134 : decode prog_14_method_134_code 134 = .ok (.ifCond .ne 27, 3) := by decide +kernel
theorem dd_Model_instance_137 : decode prog_14_method_134_code 137 = .ok (.aload_n 0, 1) := by decide +kernel
theorem dd_Model_instance_138 : decode prog_14_method_134_code 138 = .ok (.getfield 107, 3) := by decide +kernel
theorem dd_Model_instance_141 : decode prog_14_method_134_code 141 = .ok (.lload_n 3, 1) := by decide +kernel
theorem dd_Model_instance_142 : decode prog_14_method_134_code 142 = .ok (.lload 7, 2) := by decide +kernel
theorem dd_Model_instance_144 : decode prog_14_method_134_code 144 = .ok (.ladd, 1) := by decide +kernel
theorem dd_Model_instance_145 : decode prog_14_method_134_code 145 = .ok (.l2i, 1) := by decide +kernel
theorem dd_Model_instance_146 : decode prog_14_method_134_code 146 = .ok (.aload_n 0, 1) := by decide +kernel
theorem dd_Model_instance_147 : decode prog_14_method_134_code 147 = .ok (.invokevirtual 295, 3) := by decide +kernel
theorem dd_Model_instance_150 : decode prog_14_method_134_code 150 = .ok (.l2i, 1) := by decide +kernel
theorem dd_Model_instance_151 : decode prog_14_method_134_code 151 = .ok (.iastore, 1) := by decide +kernel
theorem dd_Model_instance_152 : decode prog_14_method_134_code 152 = .ok (.lload 7, 2) := by decide +kernel
theorem dd_Model_instance_154 : decode prog_14_method_134_code 154 = .ok (.lconst 1, 1) := by decide +kernel
theorem dd_Model_instance_155 : decode prog_14_method_134_code 155 = .ok (.ladd, 1) := by decide +kernel
theorem dd_Model_instance_156 : decode prog_14_method_134_code 156 = .ok (.lstore 7, 2) := by decide +kernel
theorem dd_Model_instance_158 : decode prog_14_method_134_code 158 = .ok (.goto (-36), 3) := by decide +kernel
theorem dd_Model_instance_161 : decode prog_14_method_134_code 161 = .ok (.iinc 2 1, 3) := by decide +kernel
theorem dd_Model_instance_164 : decode prog_14_method_134_code 164 = .ok (.goto (-94), 3) := by decide +kernel
theorem dd_Model_instance_167 : decode prog_14_method_134_code 167 = .ok (.aload_n 0, 1) := by decide +kernel
theorem dd_Model_instance_168 : decode prog_14_method_134_code 168 = .ok (.getfield 673, 3) := by decide +kernel
theorem dd_Model_instance_171 : decode prog_14_method_134_code 171 = .ok (.ifCond .ne 12, 3) := by decide +kernel
theorem dd_Model_instance_174 : decode prog_14_method_134_code 174 = .ok (.aload_n 0, 1) := by decide +kernel
theorem dd_Model_instance_175 : decode prog_14_method_134_code 175 = .ok (.bipush 11, 2) := by decide +kernel
theorem dd_Model_instance_177 : decode prog_14_method_134_code 177 = .ok (.invokevirtual 417, 3) := by decide +kernel
theorem dd_Model_instance_180 : decode prog_14_method_134_code 180 = .ok (.goto 4, 3) := by decide +kernel
theorem dd_Model_instance_183 : decode prog_14_method_134_code 183 = .ok (.iconst 0, 1) := by decide +kernel
theorem dd_Model_instance_184 : decode prog_14_method_134_code 184 = .ok (.istore_n 1, 1) := by decide +kernel
theorem dd_Model_instance_185 : decode prog_14_method_134_code 185 = .ok (.iconst 0, 1) := by decide +kernel
theorem dd_Model_instance_186 : decode prog_14_method_134_code 186 = .ok (.istore_n 2, 1) := by decide +kernel
theorem dd_Model_instance_187 : decode prog_14_method_134_code 187 = .ok (.iload_n 2, 1) := by decide +kernel
theorem dd_Model_instance_188 : decode prog_14_method_134_code 188 = .ok (.iload_n 1, 1) := by decide +kernel
theorem dd_Model_instance_189 : decode prog_14_method_134_code 189 = .ok (.if_icmp .ge 99, 3) := by decide +kernel
theorem dd_Model_instance_192 : decode prog_14_method_134_code 192 = .ok (.aload_n 0, 1) := by decide +kernel
theorem dd_Model_instance_193 : decode prog_14_method_134_code 193 = .ok (.getfield 673, 3) := by decide +kernel
theorem dd_Model_instance_196 : decode prog_14_method_134_code 196 = .ok (.ifCond .ne 92, 3) := by decide +kernel
theorem dd_Model_instance_199 : decode prog_14_method_134_code 199 = .ok (.aload_n 0, 1) := by decide +kernel
theorem dd_Model_instance_200 : decode prog_14_method_134_code 200 = .ok (.invokevirtual 366, 3) := by decide +kernel
theorem dd_Model_instance_203 : decode prog_14_method_134_code 203 = .ok (.aload_n 0, 1) := by decide +kernel
theorem dd_Model_instance_204 : decode prog_14_method_134_code 204 = .ok (.getfield 273, 3) := by decide +kernel
theorem dd_Model_instance_207 : decode prog_14_method_134_code 207 = .ok (.ldc2_w 182, 3) := by decide +kernel
theorem dd_Model_instance_210 : decode prog_14_method_134_code 210 = .ok (.land, 1) := by decide +kernel
theorem dd_Model_instance_211 : decode prog_14_method_134_code 211 = .ok (.lstore_n 3, 1) := by decide +kernel
theorem dd_Model_instance_212 : decode prog_14_method_134_code 212 = .ok (.aload_n 0, 1) := by decide +kernel
theorem dd_Model_instance_213 : decode prog_14_method_134_code 213 = .ok (.invokevirtual 295, 3) := by decide +kernel
theorem dd_Model_instance_216 : decode prog_14_method_134_code 216 = .ok (.lstore 5, 2) := by decide +kernel
theorem dd_Model_instance_218 : decode prog_14_method_134_code 218 = .ok (.lload_n 3, 1) := by decide +kernel
theorem dd_Model_instance_219 : decode prog_14_method_134_code 219 = .ok (.lload 5, 2) := by decide +kernel
theorem dd_Model_instance_221 : decode prog_14_method_134_code 221 = .ok (.ladd, 1) := by decide +kernel
theorem dd_Model_instance_222 : decode prog_14_method_134_code 222 = .ok (.ldc2_w 740, 3) := by decide +kernel
theorem dd_Model_instance_225 : decode prog_14_method_134_code 225 = .ok (.aload_n 0, 1) := by decide +kernel
theorem dd_Model_instance_226 : decode prog_14_method_134_code 226 = .ok (.getfield 460, 3) := by decide +kernel
theorem dd_Model_instance_229 : decode prog_14_method_134_code 229 = .ok (.i2l, 1) := by decide +kernel
theorem dd_Model_instance_230 : decode prog_14_method_134_code 230 = .ok (.lmul, 1) := by decide +kernel
theorem dd_Model_instance_231 : decode prog_14_method_134_code 231 = .ok (.lcmp, 1) := by decide +kernel
theorem dd_Model_instance_232 : decode prog_14_method_134_code 232 = .ok (.ifCond .le 8, 3) := by decide +kernel
theorem dd_Model_instance_235 : decode prog_14_method_134_code 235 = .ok (.aload_n 0, 1) := by decide +kernel
theorem dd_Model_instance_236 : decode prog_14_method_134_code 236 = .ok (.iconst 2, 1) := by decide +kernel
theorem dd_Model_instance_237 : decode prog_14_method_134_code 237 = .ok (.putfield 673, 3) := by decide +kernel
theorem dd_Model_instance_240 : decode prog_14_method_134_code 240 = .ok (.lconst 0, 1) := by decide +kernel
theorem dd_Model_instance_241 : decode prog_14_method_134_code 241 = .ok (.lstore 7, 2) := by decide +kernel
theorem dd_Model_instance_243 : decode prog_14_method_134_code 243 = .ok (.lload 7, 2) := by decide +kernel
theorem dd_Model_instance_245 : decode prog_14_method_134_code 245 = .ok (.lload 5, 2) := by decide +kernel
theorem dd_Model_instance_247 : decode prog_14_method_134_code 247 = .ok (.lcmp, 1) := by decide +kernel
theorem dd_Model_instance_248 : decode prog_14_method_134_code 248 = .ok (.ifCond .ge 34, 3) := by decide +kernel
theorem dd_Model_instance_251 : decode prog_14_method_134_code 251 = .ok (.aload_n 0, 1) := by decide +kernel
theorem dd_Model_instance_252 : decode prog_14_method_134_code 252 = .ok (.getfield 673, 3) := by decide +kernel
theorem dd_Model_instance_255 : decode prog_14_method_134_code 255 = .ok (.ifCond .ne 27, 3) := by decide +kernel
theorem dd_Model_instance_258 : decode prog_14_method_134_code 258 = .ok (.aload_n 0, 1) := by decide +kernel
theorem dd_Model_instance_259 : decode prog_14_method_134_code 259 = .ok (.getfield 104, 3) := by decide +kernel
theorem dd_Model_instance_262 : decode prog_14_method_134_code 262 = .ok (.lload_n 3, 1) := by decide +kernel
theorem dd_Model_instance_263 : decode prog_14_method_134_code 263 = .ok (.lload 7, 2) := by decide +kernel
theorem dd_Model_instance_265 : decode prog_14_method_134_code 265 = .ok (.ladd, 1) := by decide +kernel
theorem dd_Model_instance_266 : decode prog_14_method_134_code 266 = .ok (.l2i, 1) := by decide +kernel
theorem dd_Model_instance_267 : decode prog_14_method_134_code 267 = .ok (.aload_n 0, 1) := by decide +kernel
theorem dd_Model_instance_268 : decode prog_14_method_134_code 268 = .ok (.invokevirtual 178, 3) := by decide +kernel
theorem dd_Model_instance_271 : decode prog_14_method_134_code 271 = .ok (.i2b, 1) := by decide +kernel
theorem dd_Model_instance_272 : decode prog_14_method_134_code 272 = .ok (.bastore, 1) := by decide +kernel
theorem dd_Model_instance_273 : decode prog_14_method_134_code 273 = .ok (.lload 7, 2) := by decide +kernel
theorem dd_Model_instance_275 : decode prog_14_method_134_code 275 = .ok (.lconst 1, 1) := by decide +kernel
theorem dd_Model_instance_276 : decode prog_14_method_134_code 276 = .ok (.ladd, 1) := by decide +kernel
theorem dd_Model_instance_277 : decode prog_14_method_134_code 277 = .ok (.lstore 7, 2) := by decide +kernel
theorem dd_Model_instance_279 : decode prog_14_method_134_code 279 = .ok (.goto (-36), 3) := by decide +kernel
theorem dd_Model_instance_282 : decode prog_14_method_134_code 282 = .ok (.iinc 2 1, 3) := by decide +kernel
theorem dd_Model_instance_285 : decode prog_14_method_134_code 285 = .ok (.goto (-98), 3) := by decide +kernel
theorem dd_Model_instance_288 : decode prog_14_method_134_code 288 = .ok (.aload_n 0, 1) := by decide +kernel
theorem dd_Model_instance_289 : decode prog_14_method_134_code 289 = .ok (.getfield 673, 3) := by decide +kernel
theorem dd_Model_instance_292 : decode prog_14_method_134_code 292 = .ok (.ifCond .ne 21, 3) := by decide +kernel
theorem dd_Model_instance_295 : decode prog_14_method_134_code 295 = .ok (.aload_n 0, 1) := by decide +kernel
theorem dd_Model_instance_296 : decode prog_14_method_134_code 296 = .ok (.getfield 478, 3) := by decide +kernel
theorem dd_Model_instance_299 : decode prog_14_method_134_code 299 = .ok (.ifCond .lt 14, 3) := by decide +kernel
theorem dd_Model_instance_302 : decode prog_14_method_134_code 302 = .ok (.aload_n 0, 1) := by decide +kernel
theorem dd_Model_instance_303 : decode prog_14_method_134_code 303 = .ok (.aload_n 0, 1) := by decide +kernel
theorem dd_Model_instance_304 : decode prog_14_method_134_code 304 = .ok (.getfield 478, 3) := by decide +kernel
theorem dd_Model_instance_307 : decode prog_14_method_134_code 307 = .ok (.ldc2_w 817, 3) := by decide +kernel
theorem dd_Model_instance_310 : decode prog_14_method_134_code 310 = .ok (.invokevirtual 819, 3) := by decide +kernel
theorem dd_Model_instance_313 : decode prog_14_method_134_code 313 = .ok (.return_, 1) := by decide +kernel
theorem dd_Model_load_0 : decode prog_14_method_137_code 0 = .ok (.aload_n 0, 1) := by decide +kernel
theorem dd_Model_load_1 : decode prog_14_method_137_code 1 = .ok (.iconst 0, 1) := by decide +kernel
theorem dd_Model_load_2 : decode prog_14_method_137_code 2 = .ok (.putfield 161, 3) := by decide +kernel
theorem dd_Model_load_5 : decode prog_14_method_137_code 5 = .ok (.aload_n 0, 1) := by decide +kernel
theorem dd_Model_load_6 : decode prog_14_method_137_code 6 = .ok (.aload_n 0, 1) := by decide +kernel
theorem dd_Model_load_7 : decode prog_14_method_137_code 7 = .ok (.getfield 828, 3) := by decide +kernel
theorem dd_Model_load_10 : decode prog_14_method_137_code 10 = .ok (.putfield 341, 3) := by decide +kernel
theorem dd_Model_load_13 : decode prog_14_method_137_code 13 = .ok (.iconst 0, 1) := by decide +kernel
theorem dd_Model_load_14 : decode prog_14_method_137_code 14 = .ok (.istore_n 1, 1) := by decide +kernel
theorem dd_Model_load_15 : decode prog_14_method_137_code 15 = .ok (.iload_n 1, 1) := by decide +kernel
theorem dd_Model_load_16 : decode prog_14_method_137_code 16 = .ok (.aload_n 0, 1) := by decide +kernel
theorem dd_Model_load_17 : decode prog_14_method_137_code 17 = .ok (.getfield 341, 3) := by decide +kernel
theorem dd_Model_load_20 : decode prog_14_method_137_code 20 = .ok (.if_icmp .ge 21, 3) := by decide +kernel
theorem dd_Model_load_23 : decode prog_14_method_137_code 23 = .ok (.aload_n 0, 1) := by decide +kernel
theorem dd_Model_load_24 : decode prog_14_method_137_code 24 = .ok (.getfield 17, 3) := by decide +kernel
theorem dd_Model_load_27 : decode prog_14_method_137_code 27 = .ok (.iload_n 1, 1) := by decide +kernel
theorem dd_Model_load_28 : decode prog_14_method_137_code 28 = .ok (.aload_n 0, 1) := by decide +kernel
theorem dd_Model_load_29 : decode prog_14_method_137_code 29 = .ok (.getfield 7, 3) := by decide +kernel
theorem dd_Model_load_32 : decode prog_14_method_137_code 32 = .ok (.iload_n 1, 1) := by decide +kernel
theorem dd_Model_load_33 : decode prog_14_method_137_code 33 = .ok (.baload, 1) := by decide +kernel
theorem dd_Model_load_34 : decode prog_14_method_137_code 34 = .ok (.bastore, 1) := by decide +kernel
theorem dd_Model_load_35 : decode prog_14_method_137_code 35 = .ok (.iinc 1 1, 3) := by decide +kernel
theorem dd_Model_load_38 : decode prog_14_method_137_code 38 = .ok (.goto (-23), 3) := by decide +kernel
theorem dd_Model_load_41 : decode prog_14_method_137_code 41 = .ok (.aload_n 0, 1) := by decide +kernel
theorem dd_Model_load_42 : decode prog_14_method_137_code 42 = .ok (.iconst 0, 1) := by decide +kernel
theorem dd_Model_load_43 : decode prog_14_method_137_code 43 = .ok (.putfield 828, 3) := by decide +kernel
theorem dd_Model_load_46 : decode prog_14_method_137_code 46 = .ok (.aload_n 0, 1) := by decide +kernel
theorem dd_Model_load_47 : decode prog_14_method_137_code 47 = .ok (.iconst 0, 1) := by decide +kernel
theorem dd_Model_load_48 : decode prog_14_method_137_code 48 = .ok (.putfield 811, 3) := by decide +kernel
theorem dd_Model_load_51 : decode prog_14_method_137_code 51 = .ok (.aload_n 0, 1) := by decide +kernel
theorem dd_Model_load_52 : decode prog_14_method_137_code 52 = .ok (.iconst 0, 1) := by decide +kernel
theorem dd_Model_load_53 : decode prog_14_method_137_code 53 = .ok (.putfield 722, 3) := by decide +kernel
theorem dd_Model_load_56 : decode prog_14_method_137_code 56 = .ok (.aload_n 0, 1) := by decide +kernel
theorem dd_Model_load_57 : decode prog_14_method_137_code 57 = .ok (.iconst 0, 1) := by decide +kernel
theorem dd_Model_load_58 : decode prog_14_method_137_code 58 = .ok (.putfield 719, 3) := by decide +kernel
theorem dd_Model_load_61 : decode prog_14_method_137_code 61 = .ok (.aload_n 0, 1) := by decide +kernel
theorem dd_Model_load_62 : decode prog_14_method_137_code 62 = .ok (.invokevirtual 831, 3) := by decide +kernel
theorem dd_Model_load_65 : decode prog_14_method_137_code 65 = .ok (.aload_n 0, 1) := by decide +kernel
theorem dd_Model_load_66 : decode prog_14_method_137_code 66 = .ok (.getfield 165, 3) := by decide +kernel
theorem dd_Model_load_69 : decode prog_14_method_137_code 69 = .ok (.ifCond .eq 8, 3) := by decide +kernel
theorem dd_Model_load_72 : decode prog_14_method_137_code 72 = .ok (.aload_n 0, 1) := by decide +kernel
theorem dd_Model_load_73 : decode prog_14_method_137_code 73 = .ok (.getfield 165, 3) := by decide +kernel
theorem dd_Model_load_76 : decode prog_14_method_137_code 76 = .ok (.ireturn, 1) := by decide +kernel
theorem dd_Model_load_77 : decode prog_14_method_137_code 77 = .ok (.aload_n 0, 1) := by decide +kernel
theorem dd_Model_load_78 : decode prog_14_method_137_code 78 = .ok (.invokevirtual 834, 3) := by decide +kernel
theorem dd_Model_load_81 : decode prog_14_method_137_code 81 = .ok (.aload_n 0, 1) := by decide +kernel
theorem dd_Model_load_82 : decode prog_14_method_137_code 82 = .ok (.getfield 398, 3) := by decide +kernel
theorem dd_Model_load_85 : decode prog_14_method_137_code 85 = .ok (.ifCond .eq 6, 3) := by decide +kernel
theorem dd_Model_load_88 : decode prog_14_method_137_code 88 = .ok (.bipush (-2), 2) := by decide +kernel
theorem dd_Model_load_90 : decode prog_14_method_137_code 90 = .ok (.ireturn, 1) := by decide +kernel
theorem dd_Model_load_91 : decode prog_14_method_137_code 91 = .ok (.aload_n 0, 1) := by decide +kernel
theorem dd_Model_load_92 : decode prog_14_method_137_code 92 = .ok (.invokevirtual 837, 3) := by decide +kernel
theorem dd_Model_load_95 : decode prog_14_method_137_code 95 = .ok (.aload_n 0, 1) := by decide +kernel
theorem dd_Model_load_96 : decode prog_14_method_137_code 96 = .ok (.getfield 673, 3) := by decide +kernel
theorem dd_Model_load_99 : decode prog_14_method_137_code 99 = .ok (.ireturn, 1) := by decide +kernel
theorem dd_Model_give_0 : decode prog_14_method_138_code 0 = .ok (.aload_n 0, 1) := by decide +kernel
theorem dd_Model_give_1 : decode prog_14_method_138_code 1 = .ok (.aload_n 0, 1) := by decide +kernel
theorem dd_Model_give_2 : decode prog_14_method_138_code 2 = .ok (.getfield 840, 3) := by decide +kernel
theorem dd_Model_give_5 : decode prog_14_method_138_code 5 = .ok (.bipush 16, 2) := by decide +kernel
theorem dd_Model_give_7 : decode prog_14_method_138_code 7 = .ok (.if_icmp .ne 7, 3) := by decide +kernel
theorem dd_Model_give_10 : decode prog_14_method_138_code 10 = .ok (.iconst 1, 1) := by decide +kernel
theorem dd_Model_give_11 : decode prog_14_method_138_code 11 = .ok (.goto 4, 3) := by decide +kernel
theorem dd_Model_give_14 : decode prog_14_method_138_code 14 = .ok (.iconst 0, 1) := by decide +kernel
theorem dd_Model_give_15 : decode prog_14_method_138_code 15 = .ok (.iconst 1, 1) := by decide +kernel
theorem dd_Model_give_16 : decode prog_14_method_138_code 16 = .ok (.invokevirtual 824, 3) := by decide +kernel
theorem dd_Model_give_19 : decode prog_14_method_138_code 19 = .ok (.ifCond .eq 5, 3) := by decide +kernel
theorem dd_Model_give_22 : decode prog_14_method_138_code 22 = .ok (.iconst 0, 1) := by decide +kernel
theorem dd_Model_give_23 : decode prog_14_method_138_code 23 = .ok (.ireturn, 1) := by decide +kernel
theorem dd_Model_give_24 : decode prog_14_method_138_code 24 = .ok (.aload_n 0, 1) := by decide +kernel
theorem dd_Model_give_25 : decode prog_14_method_138_code 25 = .ok (.getfield 13, 3) := by decide +kernel
theorem dd_Model_give_28 : decode prog_14_method_138_code 28 = .ok (.aload_n 0, 1) := by decide +kernel
theorem dd_Model_give_29 : decode prog_14_method_138_code 29 = .ok (.getfield 840, 3) := by decide +kernel
theorem dd_Model_give_32 : decode prog_14_method_138_code 32 = .ok (.lload_n 1, 1) := by decide +kernel
theorem dd_Model_give_33 : decode prog_14_method_138_code 33 = .ok (.lastore, 1) := by decide +kernel
theorem dd_Model_give_34 : decode prog_14_method_138_code 34 = .ok (.aload_n 0, 1) := by decide +kernel
theorem dd_Model_give_35 : decode prog_14_method_138_code 35 = .ok (.dup, 1) := by decide +kernel
theorem dd_Model_give_36 : decode prog_14_method_138_code 36 = .ok (.getfield 840, 3) := by decide +kernel
theorem dd_Model_give_39 : decode prog_14_method_138_code 39 = .ok (.iconst 1, 1) := by decide +kernel
theorem dd_Model_give_40 : decode prog_14_method_138_code 40 = .ok (.iadd, 1) := by decide +kernel
theorem dd_Model_give_41 : decode prog_14_method_138_code 41 = .ok (.putfield 840, 3) := by decide +kernel
theorem dd_Model_give_44 : decode prog_14_method_138_code 44 = .ok (.aload_n 0, 1) := by decide +kernel
theorem dd_Model_give_45 : decode prog_14_method_138_code 45 = .ok (.getfield 840, 3) := by decide +kernel
theorem dd_Model_give_48 : decode prog_14_method_138_code 48 = .ok (.ireturn, 1) := by decide +kernel
theorem dd_Model_exportNamed_0 : decode prog_14_method_135_code 0 = .ok (.iconst (-1), 1) := by decide +kernel
theorem dd_Model_exportNamed_1 : decode prog_14_method_135_code 1 = .ok (.istore_n 2, 1) := by decide +kernel
theorem dd_Model_exportNamed_2 : decode prog_14_method_135_code 2 = .ok (.iconst 0, 1) := by decide +kernel
theorem dd_Model_exportNamed_3 : decode prog_14_method_135_code 3 = .ok (.istore_n 3, 1) := by decide +kernel
theorem dd_Model_exportNamed_4 : decode prog_14_method_135_code 4 = .ok (.iload_n 3, 1) := by decide +kernel
theorem dd_Model_exportNamed_5 : decode prog_14_method_135_code 5 = .ok (.aload_n 0, 1) := by decide +kernel
theorem dd_Model_exportNamed_6 : decode prog_14_method_135_code 6 = .ok (.getfield 472, 3) := by decide +kernel
theorem dd_Model_exportNamed_9 : decode prog_14_method_135_code 9 = .ok (.if_icmp .ge 92, 3) := by decide +kernel
theorem dd_Model_exportNamed_12 : decode prog_14_method_135_code 12 = .ok (.iload_n 2, 1) := by decide +kernel
theorem dd_Model_exportNamed_13 : decode prog_14_method_135_code 13 = .ok (.ifCond .ge 88, 3) := by decide +kernel
theorem dd_Model_exportNamed_16 : decode prog_14_method_135_code 16 = .ok (.aload_n 0, 1) := by decide +kernel
theorem dd_Model_exportNamed_17 : decode prog_14_method_135_code 17 = .ok (.getfield 67, 3) := by decide +kernel
theorem dd_Model_exportNamed_20 : decode prog_14_method_135_code 20 = .ok (.iload_n 3, 1) := by decide +kernel
theorem dd_Model_exportNamed_21 : decode prog_14_method_135_code 21 = .ok (.iaload, 1) := by decide +kernel
theorem dd_Model_exportNamed_22 : decode prog_14_method_135_code 22 = .ok (.iload_n 1, 1) := by decide +kernel
theorem dd_Model_exportNamed_23 : decode prog_14_method_135_code 23 = .ok (.if_icmp .ne 7, 3) := by decide +kernel
theorem dd_Model_exportNamed_26 : decode prog_14_method_135_code 26 = .ok (.iconst 1, 1) := by decide +kernel
theorem dd_Model_exportNamed_27 : decode prog_14_method_135_code 27 = .ok (.goto 4, 3) := by decide +kernel
theorem dd_Model_exportNamed_30 : decode prog_14_method_135_code 30 = .ok (.iconst 0, 1) := by decide +kernel
theorem dd_Model_exportNamed_31 : decode prog_14_method_135_code 31 = .ok (.istore 4, 2) := by decide +kernel
theorem dd_Model_exportNamed_33 : decode prog_14_method_135_code 33 = .ok (.iconst 0, 1) := by decide +kernel
theorem dd_Model_exportNamed_34 : decode prog_14_method_135_code 34 = .ok (.istore 5, 2) := by decide +kernel
theorem dd_Model_exportNamed_36 : decode prog_14_method_135_code 36 = .ok (.iload 5, 2) := by decide +kernel
theorem dd_Model_exportNamed_38 : decode prog_14_method_135_code 38 = .ok (.iload_n 1, 1) := by decide +kernel
theorem dd_Model_exportNamed_39 : decode prog_14_method_135_code 39 = .ok (.if_icmp .ge 45, 3) := by decide +kernel
theorem dd_Model_exportNamed_42 : decode prog_14_method_135_code 42 = .ok (.iload 4, 2) := by decide +kernel
theorem dd_Model_exportNamed_44 : decode prog_14_method_135_code 44 = .ok (.ifCond .eq 40, 3) := by decide +kernel
theorem dd_Model_exportNamed_47 : decode prog_14_method_135_code 47 = .ok (.aload_n 0, 1) := by decide +kernel
theorem dd_Model_exportNamed_48 : decode prog_14_method_135_code 48 = .ok (.getfield 17, 3) := by decide +kernel
theorem dd_Model_exportNamed_51 : decode prog_14_method_135_code 51 = .ok (.aload_n 0, 1) := by decide +kernel
theorem dd_Model_exportNamed_52 : decode prog_14_method_135_code 52 = .ok (.getfield 64, 3) := by decide +kernel
theorem dd_Model_exportNamed_55 : decode prog_14_method_135_code 55 = .ok (.iload_n 3, 1) := by decide +kernel
theorem dd_Model_exportNamed_56 : decode prog_14_method_135_code 56 = .ok (.iaload, 1) := by decide +kernel
theorem dd_Model_exportNamed_57 : decode prog_14_method_135_code 57 = .ok (.iload 5, 2) := by decide +kernel
theorem dd_Model_exportNamed_59 : decode prog_14_method_135_code 59 = .ok (.iadd, 1) := by decide +kernel
theorem dd_Model_exportNamed_60 : decode prog_14_method_135_code 60 = .ok (.baload, 1) := by decide +kernel
theorem dd_Model_exportNamed_61 : decode prog_14_method_135_code 61 = .ok (.aload_n 0, 1) := by decide +kernel
theorem dd_Model_exportNamed_62 : decode prog_14_method_135_code 62 = .ok (.getfield 7, 3) := by decide +kernel
theorem dd_Model_exportNamed_65 : decode prog_14_method_135_code 65 = .ok (.iload 5, 2) := by decide +kernel
theorem dd_Model_exportNamed_67 : decode prog_14_method_135_code 67 = .ok (.baload, 1) := by decide +kernel
theorem dd_Model_exportNamed_68 : decode prog_14_method_135_code 68 = .ok (.if_icmp .ne 7, 3) := by decide +kernel
theorem dd_Model_exportNamed_71 : decode prog_14_method_135_code 71 = .ok (.iconst 1, 1) := by decide +kernel
theorem dd_Model_exportNamed_72 : decode prog_14_method_135_code 72 = .ok (.goto 4, 3) := by decide +kernel
theorem dd_Model_exportNamed_75 : decode prog_14_method_135_code 75 = .ok (.iconst 0, 1) := by decide +kernel
theorem dd_Model_exportNamed_76 : decode prog_14_method_135_code 76 = .ok (.istore 4, 2) := by decide +kernel
theorem dd_Model_exportNamed_78 : decode prog_14_method_135_code 78 = .ok (.iinc 5 1, 3) := by decide +kernel
theorem dd_Model_exportNamed_81 : decode prog_14_method_135_code 81 = .ok (.goto (-45), 3) := by decide +kernel
theorem dd_Model_exportNamed_84 : decode prog_14_method_135_code 84 = .ok (.iload 4, 2) := by decide +kernel
theorem dd_Model_exportNamed_86 : decode prog_14_method_135_code 86 = .ok (.ifCond .eq 7, 3) := by decide +kernel
theorem dd_Model_exportNamed_89 : decode prog_14_method_135_code 89 = .ok (.iload_n 3, 1) := by decide +kernel
theorem dd_Model_exportNamed_90 : decode prog_14_method_135_code 90 = .ok (.goto 4, 3) := by decide +kernel
theorem dd_Model_exportNamed_93 : decode prog_14_method_135_code 93 = .ok (.iconst (-1), 1) := by decide +kernel
theorem dd_Model_exportNamed_94 : decode prog_14_method_135_code 94 = .ok (.istore_n 2, 1) := by decide +kernel
theorem dd_Model_exportNamed_95 : decode prog_14_method_135_code 95 = .ok (.iinc 3 1, 3) := by decide +kernel
theorem dd_Model_exportNamed_98 : decode prog_14_method_135_code 98 = .ok (.goto (-94), 3) := by decide +kernel
theorem dd_Model_exportNamed_101 : decode prog_14_method_135_code 101 = .ok (.iload_n 2, 1) := by decide +kernel
theorem dd_Model_exportNamed_102 : decode prog_14_method_135_code 102 = .ok (.ireturn, 1) := by decide +kernel
theorem dd_Model_call_0 : decode prog_14_method_139_code 0 = .ok (.aload_n 0, 1) := by decide +kernel
theorem dd_Model_call_1 : decode prog_14_method_139_code 1 = .ok (.iload_n 1, 1) := by decide +kernel
theorem dd_Model_call_2 : decode prog_14_method_139_code 2 = .ok (.ifCond .ge 7, 3) := by decide +kernel
theorem dd_Model_call_5 : decode prog_14_method_139_code 5 = .ok (.iconst 1, 1) := by decide +kernel
theorem dd_Model_call_6 : decode prog_14_method_139_code 6 = .ok (.goto 4, 3) := by decide +kernel
theorem dd_Model_call_9 : decode prog_14_method_139_code 9 = .ok (.iconst 0, 1) := by decide +kernel
theorem dd_Model_call_10 : decode prog_14_method_139_code 10 = .ok (.iconst 1, 1) := by decide +kernel
theorem dd_Model_call_11 : decode prog_14_method_139_code 11 = .ok (.invokevirtual 824, 3) := by decide +kernel
theorem dd_Model_call_14 : decode prog_14_method_139_code 14 = .ok (.ifCond .eq 5, 3) := by decide +kernel
theorem dd_Model_call_17 : decode prog_14_method_139_code 17 = .ok (.iconst 0, 1) := by decide +kernel
theorem dd_Model_call_18 : decode prog_14_method_139_code 18 = .ok (.ireturn, 1) := by decide +kernel
theorem dd_Model_call_19 : decode prog_14_method_139_code 19 = .ok (.aload_n 0, 1) := by decide +kernel
theorem dd_Model_call_20 : decode prog_14_method_139_code 20 = .ok (.getfield 828, 3) := by decide +kernel
theorem dd_Model_call_23 : decode prog_14_method_139_code 23 = .ok (.istore_n 2, 1) := by decide +kernel
theorem dd_Model_call_24 : decode prog_14_method_139_code 24 = .ok (.aload_n 0, 1) := by decide +kernel
theorem dd_Model_call_25 : decode prog_14_method_139_code 25 = .ok (.getfield 840, 3) := by decide +kernel
theorem dd_Model_call_28 : decode prog_14_method_139_code 28 = .ok (.istore_n 3, 1) := by decide +kernel
theorem dd_Model_call_29 : decode prog_14_method_139_code 29 = .ok (.aload_n 0, 1) := by decide +kernel
theorem dd_Model_call_30 : decode prog_14_method_139_code 30 = .ok (.iconst 0, 1) := by decide +kernel
theorem dd_Model_call_31 : decode prog_14_method_139_code 31 = .ok (.putfield 828, 3) := by decide +kernel
theorem dd_Model_call_34 : decode prog_14_method_139_code 34 = .ok (.aload_n 0, 1) := by decide +kernel
theorem dd_Model_call_35 : decode prog_14_method_139_code 35 = .ok (.iconst 0, 1) := by decide +kernel
theorem dd_Model_call_36 : decode prog_14_method_139_code 36 = .ok (.putfield 840, 3) := by decide +kernel
theorem dd_Model_call_39 : decode prog_14_method_139_code 39 = .ok (.aload_n 0, 1) := by decide +kernel
theorem dd_Model_call_40 : decode prog_14_method_139_code 40 = .ok (.iconst 0, 1) := by decide +kernel
theorem dd_Model_call_41 : decode prog_14_method_139_code 41 = .ok (.putfield 722, 3) := by decide +kernel
theorem dd_Model_call_44 : decode prog_14_method_139_code 44 = .ok (.aload_n 0, 1) := by decide +kernel
theorem dd_Model_call_45 : decode prog_14_method_139_code 45 = .ok (.getfield 811, 3) := by decide +kernel
theorem dd_Model_call_48 : decode prog_14_method_139_code 48 = .ok (.ifCond .ne 5, 3) := by decide +kernel
theorem dd_Model_call_51 : decode prog_14_method_139_code 51 = .ok (.iconst (-1), 1) := by decide +kernel
theorem dd_Model_call_52 : decode prog_14_method_139_code 52 = .ok (.ireturn, 1) := by decide +kernel
theorem dd_Model_call_53 : decode prog_14_method_139_code 53 = .ok (.aload_n 0, 1) := by decide +kernel
theorem dd_Model_call_54 : decode prog_14_method_139_code 54 = .ok (.iload_n 2, 1) := by decide +kernel
theorem dd_Model_call_55 : decode prog_14_method_139_code 55 = .ok (.invokevirtual 843, 3) := by decide +kernel
theorem dd_Model_call_58 : decode prog_14_method_139_code 58 = .ok (.istore 4, 2) := by decide +kernel
theorem dd_Model_call_60 : decode prog_14_method_139_code 60 = .ok (.iload 4, 2) := by decide +kernel
theorem dd_Model_call_62 : decode prog_14_method_139_code 62 = .ok (.ifCond .lt 13, 3) := by decide +kernel
theorem dd_Model_call_65 : decode prog_14_method_139_code 65 = .ok (.aload_n 0, 1) := by decide +kernel
theorem dd_Model_call_66 : decode prog_14_method_139_code 66 = .ok (.getfield 70, 3) := by decide +kernel
theorem dd_Model_call_69 : decode prog_14_method_139_code 69 = .ok (.iload 4, 2) := by decide +kernel
theorem dd_Model_call_71 : decode prog_14_method_139_code 71 = .ok (.iaload, 1) := by decide +kernel
theorem dd_Model_call_72 : decode prog_14_method_139_code 72 = .ok (.ifCond .eq 6, 3) := by decide +kernel
theorem dd_Model_call_75 : decode prog_14_method_139_code 75 = .ok (.bipush (-2), 2) := by decide +kernel
theorem dd_Model_call_77 : decode prog_14_method_139_code 77 = .ok (.ireturn, 1) := by decide +kernel
theorem dd_Model_call_78 : decode prog_14_method_139_code 78 = .ok (.aload_n 0, 1) := by decide +kernel
theorem dd_Model_call_79 : decode prog_14_method_139_code 79 = .ok (.getfield 42, 3) := by decide +kernel
theorem dd_Model_call_82 : decode prog_14_method_139_code 82 = .ok (.aload_n 0, 1) := by decide +kernel
theorem dd_Model_call_83 : decode prog_14_method_139_code 83 = .ok (.getfield 73, 3) := by decide +kernel
theorem dd_Model_call_86 : decode prog_14_method_139_code 86 = .ok (.iload 4, 2) := by decide +kernel
theorem dd_Model_call_88 : decode prog_14_method_139_code 88 = .ok (.iaload, 1) := by decide +kernel
theorem dd_Model_call_89 : decode prog_14_method_139_code 89 = .ok (.iaload, 1) := by decide +kernel
theorem dd_Model_call_90 : decode prog_14_method_139_code 90 = .ok (.istore 5, 2) := by decide +kernel
theorem dd_Model_call_92 : decode prog_14_method_139_code 92 = .ok (.aload_n 0, 1) := by decide +kernel
theorem dd_Model_call_93 : decode prog_14_method_139_code 93 = .ok (.getfield 30, 3) := by decide +kernel
theorem dd_Model_call_96 : decode prog_14_method_139_code 96 = .ok (.iload 5, 2) := by decide +kernel
theorem dd_Model_call_98 : decode prog_14_method_139_code 98 = .ok (.iaload, 1) := by decide +kernel
theorem dd_Model_call_99 : decode prog_14_method_139_code 99 = .ok (.iload_n 3, 1) := by decide +kernel
theorem dd_Model_call_100 : decode prog_14_method_139_code 100 = .ok (.if_icmp .ne 7, 3) := by decide +kernel
theorem dd_Model_call_103 : decode prog_14_method_139_code 103 = .ok (.iconst 1, 1) := by decide +kernel
theorem dd_Model_call_104 : decode prog_14_method_139_code 104 = .ok (.goto 4, 3) := by decide +kernel
theorem dd_Model_call_107 : decode prog_14_method_139_code 107 = .ok (.iconst 0, 1) := by decide +kernel
theorem dd_Model_call_108 : decode prog_14_method_139_code 108 = .ok (.istore 6, 2) := by decide +kernel
theorem dd_Model_call_110 : decode prog_14_method_139_code 110 = .ok (.iconst 0, 1) := by decide +kernel
theorem dd_Model_call_111 : decode prog_14_method_139_code 111 = .ok (.istore 7, 2) := by decide +kernel
theorem dd_Model_call_113 : decode prog_14_method_139_code 113 = .ok (.iload 7, 2) := by decide +kernel
theorem dd_Model_call_115 : decode prog_14_method_139_code 115 = .ok (.aload_n 0, 1) := by decide +kernel
theorem dd_Model_call_116 : decode prog_14_method_139_code 116 = .ok (.getfield 30, 3) := by decide +kernel
theorem dd_Model_call_119 : decode prog_14_method_139_code 119 = .ok (.iload 5, 2) := by decide +kernel
theorem dd_Model_call_121 : decode prog_14_method_139_code 121 = .ok (.iaload, 1) := by decide +kernel
theorem dd_Model_call_122 : decode prog_14_method_139_code 122 = .ok (.if_icmp .ge 40, 3) := by decide +kernel
theorem dd_Model_call_125 : decode prog_14_method_139_code 125 = .ok (.iload 6, 2) := by decide +kernel
theorem dd_Model_call_127 : decode prog_14_method_139_code 127 = .ok (.ifCond .eq 26, 3) := by decide +kernel
theorem dd_Model_call_130 : decode prog_14_method_139_code 130 = .ok (.aload_n 0, 1) := by decide +kernel
theorem dd_Model_call_131 : decode prog_14_method_139_code 131 = .ok (.getfield 36, 3) := by decide +kernel
theorem dd_Model_call_134 : decode prog_14_method_139_code 134 = .ok (.bipush 32, 2) := by decide +kernel
theorem dd_Model_call_136 : decode prog_14_method_139_code 136 = .ok (.iload 5, 2) := by decide +kernel
theorem dd_Model_call_138 : decode prog_14_method_139_code 138 = .ok (.imul, 1) := by decide +kernel
theorem dd_Model_call_139 : decode prog_14_method_139_code 139 = .ok (.iload 7, 2) := by decide +kernel
theorem dd_Model_call_141 : decode prog_14_method_139_code 141 = .ok (.iadd, 1) := by decide +kernel
theorem dd_Model_call_142 : decode prog_14_method_139_code 142 = .ok (.iaload, 1) := by decide +kernel
theorem dd_Model_call_143 : decode prog_14_method_139_code 143 = .ok (.invokestatic 384, 3) := by decide +kernel
theorem dd_Model_call_146 : decode prog_14_method_139_code 146 = .ok (.ifCond .ne 7, 3) := by decide +kernel
theorem dd_Model_call_149 : decode prog_14_method_139_code 149 = .ok (.iconst 1, 1) := by decide +kernel
theorem dd_Model_call_150 : decode prog_14_method_139_code 150 = .ok (.goto 4, 3) := by decide +kernel
theorem dd_Model_call_153 : decode prog_14_method_139_code 153 = .ok (.iconst 0, 1) := by decide +kernel
theorem dd_Model_call_154 : decode prog_14_method_139_code 154 = .ok (.istore 6, 2) := by decide +kernel
theorem dd_Model_call_156 : decode prog_14_method_139_code 156 = .ok (.iinc 7 1, 3) := by decide +kernel
theorem dd_Model_call_159 : decode prog_14_method_139_code 159 = .ok (.goto (-46), 3) := by decide +kernel
theorem dd_Model_call_162 : decode prog_14_method_139_code 162 = .ok (.iload 6, 2) := by decide +kernel
theorem dd_Model_call_164 : decode prog_14_method_139_code 164 = .ok (.ifCond .ne 6, 3) := by decide +kernel
theorem dd_Model_call_167 : decode prog_14_method_139_code 167 = .ok (.bipush (-3), 2) := by decide +kernel
theorem dd_Model_call_169 : decode prog_14_method_139_code 169 = .ok (.ireturn, 1) := by decide +kernel
theorem dd_Model_call_170 : decode prog_14_method_139_code 170 = .ok (.iconst 0, 1) := by decide +kernel
theorem dd_Model_call_171 : decode prog_14_method_139_code 171 = .ok (.istore 7, 2) := by decide +kernel
theorem dd_Model_call_173 : decode prog_14_method_139_code 173 = .ok (.iload 7, 2) := by decide +kernel
theorem dd_Model_call_175 : decode prog_14_method_139_code 175 = .ok (.iload_n 3, 1) := by decide +kernel
theorem dd_Model_call_176 : decode prog_14_method_139_code 176 = .ok (.if_icmp .ge 50, 3) := by decide +kernel
theorem dd_Model_call_179 : decode prog_14_method_139_code 179 = .ok (.aload_n 0, 1) := by decide +kernel
theorem dd_Model_call_180 : decode prog_14_method_139_code 180 = .ok (.aload_n 0, 1) := by decide +kernel
theorem dd_Model_call_181 : decode prog_14_method_139_code 181 = .ok (.getfield 36, 3) := by decide +kernel
theorem dd_Model_call_184 : decode prog_14_method_139_code 184 = .ok (.bipush 32, 2) := by decide +kernel
theorem dd_Model_call_186 : decode prog_14_method_139_code 186 = .ok (.iload 5, 2) := by decide +kernel
theorem dd_Model_call_188 : decode prog_14_method_139_code 188 = .ok (.imul, 1) := by decide +kernel
theorem dd_Model_call_189 : decode prog_14_method_139_code 189 = .ok (.iload 7, 2) := by decide +kernel
theorem dd_Model_call_191 : decode prog_14_method_139_code 191 = .ok (.iadd, 1) := by decide +kernel
theorem dd_Model_call_192 : decode prog_14_method_139_code 192 = .ok (.iaload, 1) := by decide +kernel
theorem dd_Model_call_193 : decode prog_14_method_139_code 193 = .ok (.iconst 1, 1) := by decide +kernel
theorem dd_Model_call_194 : decode prog_14_method_139_code 194 = .ok (.if_icmp .ne 15, 3) := by decide +kernel
theorem dd_Model_call_197 : decode prog_14_method_139_code 197 = .ok (.aload_n 0, 1) := by decide +kernel
theorem dd_Model_call_198 : decode prog_14_method_139_code 198 = .ok (.getfield 13, 3) := by decide +kernel
theorem dd_Model_call_201 : decode prog_14_method_139_code 201 = .ok (.iload 7, 2) := by decide +kernel
theorem dd_Model_call_203 : decode prog_14_method_139_code 203 = .ok (.laload, 1) := by decide +kernel
theorem dd_Model_call_204 : decode prog_14_method_139_code 204 = .ok (.l2i, 1) := by decide +kernel
theorem dd_Model_call_205 : decode prog_14_method_139_code 205 = .ok (.i2l, 1) := by decide +kernel
theorem dd_Model_call_206 : decode prog_14_method_139_code 206 = .ok (.goto 10, 3) := by decide +kernel
theorem dd_Model_call_209 : decode prog_14_method_139_code 209 = .ok (.aload_n 0, 1) := by decide +kernel
theorem dd_Model_call_210 : decode prog_14_method_139_code 210 = .ok (.getfield 13, 3) := by decide +kernel
theorem dd_Model_call_213 : decode prog_14_method_139_code 213 = .ok (.iload 7, 2) := by decide +kernel
theorem dd_Model_call_215 : decode prog_14_method_139_code 215 = .ok (.laload, 1) := by decide +kernel
theorem dd_Model_call_216 : decode prog_14_method_139_code 216 = .ok (.iconst 0, 1) := by decide +kernel
theorem dd_Model_call_217 : decode prog_14_method_139_code 217 = .ok (.invokevirtual 676, 3) := by decide +kernel
theorem dd_Model_call_220 : decode prog_14_method_139_code 220 = .ok (.iinc 7 1, 3) := by decide +kernel
theorem dd_Model_call_223 : decode prog_14_method_139_code 223 = .ok (.goto (-50), 3) := by decide +kernel
theorem dd_Model_call_226 : decode prog_14_method_139_code 226 = .ok (.aload_n 0, 1) := by decide +kernel
theorem dd_Model_call_227 : decode prog_14_method_139_code 227 = .ok (.iconst 0, 1) := by decide +kernel
theorem dd_Model_call_228 : decode prog_14_method_139_code 228 = .ok (.putfield 673, 3) := by decide +kernel
theorem dd_Model_call_231 : decode prog_14_method_139_code 231 = .ok (.aload_n 0, 1) := by decide +kernel
theorem dd_Model_call_232 : decode prog_14_method_139_code 232 = .ok (.aload_n 0, 1) := by decide +kernel
theorem dd_Model_call_233 : decode prog_14_method_139_code 233 = .ok (.getfield 73, 3) := by decide +kernel
theorem dd_Model_call_236 : decode prog_14_method_139_code 236 = .ok (.iload 4, 2) := by decide +kernel
theorem dd_Model_call_238 : decode prog_14_method_139_code 238 = .ok (.iaload, 1) := by decide +kernel
theorem dd_Model_call_239 : decode prog_14_method_139_code 239 = .ok (.iload_n 1, 1) := by decide +kernel
theorem dd_Model_call_240 : decode prog_14_method_139_code 240 = .ok (.i2l, 1) := by decide +kernel
theorem dd_Model_call_241 : decode prog_14_method_139_code 241 = .ok (.invokevirtual 819, 3) := by decide +kernel
theorem dd_Model_call_244 : decode prog_14_method_139_code 244 = .ok (.aload_n 0, 1) := by decide +kernel
theorem dd_Model_call_245 : decode prog_14_method_139_code 245 = .ok (.getfield 673, 3) := by decide +kernel
theorem dd_Model_call_248 : decode prog_14_method_139_code 248 = .ok (.ireturn, 1) := by decide +kernel
theorem dd_Model_result_0 : decode prog_14_method_140_code 0 = .ok (.aload_n 0, 1) := by decide +kernel
theorem dd_Model_result_1 : decode prog_14_method_140_code 1 = .ok (.iload_n 1, 1) := by decide +kernel
theorem dd_Model_result_2 : decode prog_14_method_140_code 2 = .ok (.ifCond .lt 11, 3) := by decide +kernel
theorem dd_Model_result_5 : decode prog_14_method_140_code 5 = .ok (.iload_n 1, 1) := by decide +kernel
theorem dd_Model_result_6 : decode prog_14_method_140_code 6 = .ok (.aload_n 0, 1) := by decide +kernel
theorem dd_Model_result_7 : decode prog_14_method_140_code 7 = .ok (.getfield 722, 3) := by decide +kernel
theorem dd_Model_result_10 : decode prog_14_method_140_code 10 = .ok (.if_icmp .lt 7, 3) := by decide +kernel
theorem dd_Model_result_13 : decode prog_14_method_140_code 13 = .ok (.iconst 1, 1) := by decide +kernel
theorem dd_Model_result_14 : decode prog_14_method_140_code 14 = .ok (.goto 4, 3) := by decide +kernel
theorem dd_Model_result_17 : decode prog_14_method_140_code 17 = .ok (.iconst 0, 1) := by decide +kernel
theorem dd_Model_result_18 : decode prog_14_method_140_code 18 = .ok (.iconst 1, 1) := by decide +kernel
theorem dd_Model_result_19 : decode prog_14_method_140_code 19 = .ok (.invokevirtual 824, 3) := by decide +kernel
theorem dd_Model_result_22 : decode prog_14_method_140_code 22 = .ok (.ifCond .eq 7, 3) := by decide +kernel
theorem dd_Model_result_25 : decode prog_14_method_140_code 25 = .ok (.lconst 0, 1) := by decide +kernel
theorem dd_Model_result_26 : decode prog_14_method_140_code 26 = .ok (.goto 9, 3) := by decide +kernel
theorem dd_Model_result_29 : decode prog_14_method_140_code 29 = .ok (.aload_n 0, 1) := by decide +kernel
theorem dd_Model_result_30 : decode prog_14_method_140_code 30 = .ok (.getfield 137, 3) := by decide +kernel
theorem dd_Model_result_33 : decode prog_14_method_140_code 33 = .ok (.iload_n 1, 1) := by decide +kernel
theorem dd_Model_result_34 : decode prog_14_method_140_code 34 = .ok (.laload, 1) := by decide +kernel
theorem dd_Model_result_35 : decode prog_14_method_140_code 35 = .ok (.lreturn, 1) := by decide +kernel
theorem dd_Model_global_0 : decode prog_14_method_141_code 0 = .ok (.aload_n 0, 1) := by decide +kernel
theorem dd_Model_global_1 : decode prog_14_method_141_code 1 = .ok (.getfield 811, 3) := by decide +kernel
theorem dd_Model_global_4 : decode prog_14_method_141_code 4 = .ok (.ifCond .eq 45, 3) := by decide +kernel
theorem dd_Model_global_7 : decode prog_14_method_141_code 7 = .ok (.iload_n 1, 1) := by decide +kernel
theorem dd_Model_global_8 : decode prog_14_method_141_code 8 = .ok (.ifCond .lt 41, 3) := by decide +kernel
theorem dd_Model_global_11 : decode prog_14_method_141_code 11 = .ok (.iload_n 1, 1) := by decide +kernel
theorem dd_Model_global_12 : decode prog_14_method_141_code 12 = .ok (.aload_n 0, 1) := by decide +kernel
theorem dd_Model_global_13 : decode prog_14_method_141_code 13 = .ok (.getfield 472, 3) := by decide +kernel
theorem dd_Model_global_16 : decode prog_14_method_141_code 16 = .ok (.if_icmp .ge 33, 3) := by decide +kernel
theorem dd_Model_global_19 : decode prog_14_method_141_code 19 = .ok (.aload_n 0, 1) := by decide +kernel
theorem dd_Model_global_20 : decode prog_14_method_141_code 20 = .ok (.getfield 70, 3) := by decide +kernel
theorem dd_Model_global_23 : decode prog_14_method_141_code 23 = .ok (.iload_n 1, 1) := by decide +kernel
theorem dd_Model_global_24 : decode prog_14_method_141_code 24 = .ok (.ifCond .lt 15, 3) := by decide +kernel
theorem dd_Model_global_27 : decode prog_14_method_141_code 27 = .ok (.iload_n 1, 1) := by decide +kernel
theorem dd_Model_global_28 : decode prog_14_method_141_code 28 = .ok (.aload_n 0, 1) := by decide +kernel
theorem dd_Model_global_29 : decode prog_14_method_141_code 29 = .ok (.getfield 472, 3) := by decide +kernel
theorem dd_Model_global_32 : decode prog_14_method_141_code 32 = .ok (.if_icmp .ge 7, 3) := by decide +kernel
theorem dd_Model_global_35 : decode prog_14_method_141_code 35 = .ok (.iload_n 1, 1) := by decide +kernel
theorem dd_Model_global_36 : decode prog_14_method_141_code 36 = .ok (.goto 4, 3) := by decide +kernel
theorem dd_Model_global_39 : decode prog_14_method_141_code 39 = .ok (.iconst 0, 1) := by decide +kernel
theorem dd_Model_global_40 : decode prog_14_method_141_code 40 = .ok (.iaload, 1) := by decide +kernel
theorem dd_Model_global_41 : decode prog_14_method_141_code 41 = .ok (.iconst 3, 1) := by decide +kernel
theorem dd_Model_global_42 : decode prog_14_method_141_code 42 = .ok (.if_icmp .ne 7, 3) := by decide +kernel
theorem dd_Model_global_45 : decode prog_14_method_141_code 45 = .ok (.iconst 1, 1) := by decide +kernel
theorem dd_Model_global_46 : decode prog_14_method_141_code 46 = .ok (.goto 4, 3) := by decide +kernel
theorem dd_Model_global_49 : decode prog_14_method_141_code 49 = .ok (.iconst 0, 1) := by decide +kernel
theorem dd_Model_global_50 : decode prog_14_method_141_code 50 = .ok (.istore_n 2, 1) := by decide +kernel
theorem dd_Model_global_51 : decode prog_14_method_141_code 51 = .ok (.aload_n 0, 1) := by decide +kernel
theorem dd_Model_global_52 : decode prog_14_method_141_code 52 = .ok (.iload_n 2, 1) := by decide +kernel
theorem dd_Model_global_53 : decode prog_14_method_141_code 53 = .ok (.ifCond .ne 7, 3) := by decide +kernel
theorem dd_Model_global_56 : decode prog_14_method_141_code 56 = .ok (.iconst 1, 1) := by decide +kernel
theorem dd_Model_global_57 : decode prog_14_method_141_code 57 = .ok (.goto 4, 3) := by decide +kernel
theorem dd_Model_global_60 : decode prog_14_method_141_code 60 = .ok (.iconst 0, 1) := by decide +kernel
theorem dd_Model_global_61 : decode prog_14_method_141_code 61 = .ok (.iconst 1, 1) := by decide +kernel
theorem dd_Model_global_62 : decode prog_14_method_141_code 62 = .ok (.invokevirtual 824, 3) := by decide +kernel
theorem dd_Model_global_65 : decode prog_14_method_141_code 65 = .ok (.ifCond .eq 5, 3) := by decide +kernel
theorem dd_Model_global_68 : decode prog_14_method_141_code 68 = .ok (.lconst 0, 1) := by decide +kernel
theorem dd_Model_global_69 : decode prog_14_method_141_code 69 = .ok (.lreturn, 1) := by decide +kernel
theorem dd_Model_global_70 : decode prog_14_method_141_code 70 = .ok (.aload_n 0, 1) := by decide +kernel
theorem dd_Model_global_71 : decode prog_14_method_141_code 71 = .ok (.getfield 73, 3) := by decide +kernel
theorem dd_Model_global_74 : decode prog_14_method_141_code 74 = .ok (.iload_n 1, 1) := by decide +kernel
theorem dd_Model_global_75 : decode prog_14_method_141_code 75 = .ok (.iaload, 1) := by decide +kernel
theorem dd_Model_global_76 : decode prog_14_method_141_code 76 = .ok (.istore_n 3, 1) := by decide +kernel
theorem dd_Model_global_77 : decode prog_14_method_141_code 77 = .ok (.aload_n 0, 1) := by decide +kernel
theorem dd_Model_global_78 : decode prog_14_method_141_code 78 = .ok (.getfield 57, 3) := by decide +kernel
theorem dd_Model_global_81 : decode prog_14_method_141_code 81 = .ok (.iload_n 3, 1) := by decide +kernel
theorem dd_Model_global_82 : decode prog_14_method_141_code 82 = .ok (.iaload, 1) := by decide +kernel
theorem dd_Model_global_83 : decode prog_14_method_141_code 83 = .ok (.invokestatic 384, 3) := by decide +kernel
theorem dd_Model_global_86 : decode prog_14_method_141_code 86 = .ok (.ifCond .ne 12, 3) := by decide +kernel
theorem dd_Model_global_89 : decode prog_14_method_141_code 89 = .ok (.aload_n 0, 1) := by decide +kernel
theorem dd_Model_global_90 : decode prog_14_method_141_code 90 = .ok (.getfield 100, 3) := by decide +kernel
theorem dd_Model_global_93 : decode prog_14_method_141_code 93 = .ok (.iload_n 3, 1) := by decide +kernel
theorem dd_Model_global_94 : decode prog_14_method_141_code 94 = .ok (.laload, 1) := by decide +kernel
theorem dd_Model_global_95 : decode prog_14_method_141_code 95 = .ok (.goto 19, 3) := by decide +kernel
theorem dd_Model_global_98 : decode prog_14_method_141_code 98 = .ok (.aload_n 0, 1) := by decide +kernel
theorem dd_Model_global_99 : decode prog_14_method_141_code 99 = .ok (.getfield 100, 3) := by decide +kernel
theorem dd_Model_global_102 : decode prog_14_method_141_code 102 = .ok (.iload_n 3, 1) := by decide +kernel
theorem dd_Model_global_103 : decode prog_14_method_141_code 103 = .ok (.laload, 1) := by decide +kernel
theorem dd_Model_global_104 : decode prog_14_method_141_code 104 = .ok (.lconst 0, 1) := by decide +kernel
theorem dd_Model_global_105 : decode prog_14_method_141_code 105 = .ok (.lcmp, 1) := by decide +kernel
theorem dd_Model_global_106 : decode prog_14_method_141_code 106 = .ok (.ifCond .ne 7, 3) := by decide +kernel
theorem dd_Model_global_109 : decode prog_14_method_141_code 109 = .ok (.lconst 0, 1) := by decide +kernel
theorem dd_Model_global_110 : decode prog_14_method_141_code 110 = .ok (.goto 4, 3) := by decide +kernel
theorem dd_Model_global_113 : decode prog_14_method_141_code 113 = .ok (.lconst 1, 1) := by decide +kernel
theorem dd_Model_global_114 : decode prog_14_method_141_code 114 = .ok (.lreturn, 1) := by decide +kernel
theorem dd_Model_at_0 : decode prog_14_method_142_code 0 = .ok (.aload_n 0, 1) := by decide +kernel
theorem dd_Model_at_1 : decode prog_14_method_142_code 1 = .ok (.aload_n 0, 1) := by decide +kernel
theorem dd_Model_at_2 : decode prog_14_method_142_code 2 = .ok (.getfield 811, 3) := by decide +kernel
theorem dd_Model_at_5 : decode prog_14_method_142_code 5 = .ok (.ifCond .eq 19, 3) := by decide +kernel
theorem dd_Model_at_8 : decode prog_14_method_142_code 8 = .ok (.iload_n 1, 1) := by decide +kernel
theorem dd_Model_at_9 : decode prog_14_method_142_code 9 = .ok (.ifCond .lt 15, 3) := by decide +kernel
theorem dd_Model_at_12 : decode prog_14_method_142_code 12 = .ok (.iload_n 1, 1) := by decide +kernel
theorem dd_Model_at_13 : decode prog_14_method_142_code 13 = .ok (.sipush 4096, 3) := by decide +kernel
theorem dd_Model_at_16 : decode prog_14_method_142_code 16 = .ok (.aload_n 0, 1) := by decide +kernel
theorem dd_Model_at_17 : decode prog_14_method_142_code 17 = .ok (.getfield 460, 3) := by decide +kernel
theorem dd_Model_at_20 : decode prog_14_method_142_code 20 = .ok (.imul, 1) := by decide +kernel
theorem dd_Model_at_21 : decode prog_14_method_142_code 21 = .ok (.if_icmp .lt 7, 3) := by decide +kernel
theorem dd_Model_at_24 : decode prog_14_method_142_code 24 = .ok (.iconst 1, 1) := by decide +kernel
theorem dd_Model_at_25 : decode prog_14_method_142_code 25 = .ok (.goto 4, 3) := by decide +kernel
theorem dd_Model_at_28 : decode prog_14_method_142_code 28 = .ok (.iconst 0, 1) := by decide +kernel
theorem dd_Model_at_29 : decode prog_14_method_142_code 29 = .ok (.iconst 1, 1) := by decide +kernel
theorem dd_Model_at_30 : decode prog_14_method_142_code 30 = .ok (.invokevirtual 824, 3) := by decide +kernel
theorem dd_Model_at_33 : decode prog_14_method_142_code 33 = .ok (.ifCond .eq 7, 3) := by decide +kernel
theorem dd_Model_at_36 : decode prog_14_method_142_code 36 = .ok (.iconst 0, 1) := by decide +kernel
theorem dd_Model_at_37 : decode prog_14_method_142_code 37 = .ok (.goto 13, 3) := by decide +kernel
theorem dd_Model_at_40 : decode prog_14_method_142_code 40 = .ok (.aload_n 0, 1) := by decide +kernel
theorem dd_Model_at_41 : decode prog_14_method_142_code 41 = .ok (.getfield 104, 3) := by decide +kernel
theorem dd_Model_at_44 : decode prog_14_method_142_code 44 = .ok (.iload_n 1, 1) := by decide +kernel
theorem dd_Model_at_45 : decode prog_14_method_142_code 45 = .ok (.baload, 1) := by decide +kernel
theorem dd_Model_at_46 : decode prog_14_method_142_code 46 = .ok (.sipush 255, 3) := by decide +kernel
theorem dd_Model_at_49 : decode prog_14_method_142_code 49 = .ok (.iand, 1) := by decide +kernel
theorem dd_Model_at_50 : decode prog_14_method_142_code 50 = .ok (.ireturn, 1) := by decide +kernel
theorem dd_Model_look_0 : decode prog_14_method_143_code 0 = .ok (.aload_n 0, 1) := by decide +kernel
theorem dd_Model_look_1 : decode prog_14_method_143_code 1 = .ok (.iload_n 1, 1) := by decide +kernel
theorem dd_Model_look_2 : decode prog_14_method_143_code 2 = .ok (.ifCond .lt 9, 3) := by decide +kernel
theorem dd_Model_look_5 : decode prog_14_method_143_code 5 = .ok (.iload_n 1, 1) := by decide +kernel
theorem dd_Model_look_6 : decode prog_14_method_143_code 6 = .ok (.bipush 10, 2) := by decide +kernel
theorem dd_Model_look_8 : decode prog_14_method_143_code 8 = .ok (.if_icmp .le 7, 3) := by decide +kernel
theorem dd_Model_look_11 : decode prog_14_method_143_code 11 = .ok (.iconst 1, 1) := by decide +kernel
theorem dd_Model_look_12 : decode prog_14_method_143_code 12 = .ok (.goto 4, 3) := by decide +kernel
theorem dd_Model_look_15 : decode prog_14_method_143_code 15 = .ok (.iconst 0, 1) := by decide +kernel
theorem dd_Model_look_16 : decode prog_14_method_143_code 16 = .ok (.iconst 1, 1) := by decide +kernel
theorem dd_Model_look_17 : decode prog_14_method_143_code 17 = .ok (.invokevirtual 824, 3) := by decide +kernel
theorem dd_Model_look_20 : decode prog_14_method_143_code 20 = .ok (.ifCond .eq 5, 3) := by decide +kernel
theorem dd_Model_look_23 : decode prog_14_method_143_code 23 = .ok (.iconst 0, 1) := by decide +kernel
theorem dd_Model_look_24 : decode prog_14_method_143_code 24 = .ok (.ireturn, 1) := by decide +kernel
theorem dd_Model_look_25 : decode prog_14_method_143_code 25 = .ok (.iload_n 1, 1) := by decide +kernel
theorem dd_Model_look_26 : decode prog_14_method_143_code 26 = .ok (.bipush 8, 2) := by decide +kernel
theorem dd_Model_look_28 : decode prog_14_method_143_code 28 = .ok (.if_icmp .ne 8, 3) := by decide +kernel
theorem dd_Model_look_31 : decode prog_14_method_143_code 31 = .ok (.aload_n 0, 1) := by decide +kernel
theorem dd_Model_look_32 : decode prog_14_method_143_code 32 = .ok (.getfield 828, 3) := by decide +kernel
theorem dd_Model_look_35 : decode prog_14_method_143_code 35 = .ok (.ireturn, 1) := by decide +kernel
theorem dd_Model_look_36 : decode prog_14_method_143_code 36 = .ok (.iload_n 1, 1) := by decide +kernel
theorem dd_Model_look_37 : decode prog_14_method_143_code 37 = .ok (.bipush 9, 2) := by decide +kernel
theorem dd_Model_look_39 : decode prog_14_method_143_code 39 = .ok (.if_icmp .ne 8, 3) := by decide +kernel
theorem dd_Model_look_42 : decode prog_14_method_143_code 42 = .ok (.aload_n 0, 1) := by decide +kernel
theorem dd_Model_look_43 : decode prog_14_method_143_code 43 = .ok (.getfield 840, 3) := by decide +kernel
theorem dd_Model_look_46 : decode prog_14_method_143_code 46 = .ok (.ireturn, 1) := by decide +kernel
theorem dd_Model_look_47 : decode prog_14_method_143_code 47 = .ok (.aload_n 0, 1) := by decide +kernel
theorem dd_Model_look_48 : decode prog_14_method_143_code 48 = .ok (.getfield 811, 3) := by decide +kernel
theorem dd_Model_look_51 : decode prog_14_method_143_code 51 = .ok (.ifCond .ne 5, 3) := by decide +kernel
theorem dd_Model_look_54 : decode prog_14_method_143_code 54 = .ok (.iconst 0, 1) := by decide +kernel
theorem dd_Model_look_55 : decode prog_14_method_143_code 55 = .ok (.ireturn, 1) := by decide +kernel
theorem dd_Model_look_56 : decode prog_14_method_143_code 56 = .ok (.iload_n 1, 1) := by decide +kernel
theorem dd_Model_look_57 : decode prog_14_method_143_code 57 = .ok (.tableswitch 88 0 7 #[47, 49, 54, 59, 64, 69, 74, 79], 47) := by decide +kernel
theorem dd_Model_look_104 : decode prog_14_method_143_code 104 = .ok (.iconst 1, 1) := by decide +kernel
theorem dd_Model_look_105 : decode prog_14_method_143_code 105 = .ok (.ireturn, 1) := by decide +kernel
theorem dd_Model_look_106 : decode prog_14_method_143_code 106 = .ok (.aload_n 0, 1) := by decide +kernel
theorem dd_Model_look_107 : decode prog_14_method_143_code 107 = .ok (.getfield 423, 3) := by decide +kernel
theorem dd_Model_look_110 : decode prog_14_method_143_code 110 = .ok (.ireturn, 1) := by decide +kernel
theorem dd_Model_look_111 : decode prog_14_method_143_code 111 = .ok (.aload_n 0, 1) := by decide +kernel
theorem dd_Model_look_112 : decode prog_14_method_143_code 112 = .ok (.getfield 472, 3) := by decide +kernel
theorem dd_Model_look_115 : decode prog_14_method_143_code 115 = .ok (.ireturn, 1) := by decide +kernel
theorem dd_Model_look_116 : decode prog_14_method_143_code 116 = .ok (.aload_n 0, 1) := by decide +kernel
theorem dd_Model_look_117 : decode prog_14_method_143_code 117 = .ok (.getfield 460, 3) := by decide +kernel
theorem dd_Model_look_120 : decode prog_14_method_143_code 120 = .ok (.ireturn, 1) := by decide +kernel
theorem dd_Model_look_121 : decode prog_14_method_143_code 121 = .ok (.aload_n 0, 1) := by decide +kernel
theorem dd_Model_look_122 : decode prog_14_method_143_code 122 = .ok (.getfield 454, 3) := by decide +kernel
theorem dd_Model_look_125 : decode prog_14_method_143_code 125 = .ok (.ireturn, 1) := by decide +kernel
theorem dd_Model_look_126 : decode prog_14_method_143_code 126 = .ok (.aload_n 0, 1) := by decide +kernel
theorem dd_Model_look_127 : decode prog_14_method_143_code 127 = .ok (.getfield 722, 3) := by decide +kernel
theorem dd_Model_look_130 : decode prog_14_method_143_code 130 = .ok (.ireturn, 1) := by decide +kernel
theorem dd_Model_look_131 : decode prog_14_method_143_code 131 = .ok (.aload_n 0, 1) := by decide +kernel
theorem dd_Model_look_132 : decode prog_14_method_143_code 132 = .ok (.getfield 719, 3) := by decide +kernel
theorem dd_Model_look_135 : decode prog_14_method_143_code 135 = .ok (.ireturn, 1) := by decide +kernel
theorem dd_Model_look_136 : decode prog_14_method_143_code 136 = .ok (.aload_n 0, 1) := by decide +kernel
theorem dd_Model_look_137 : decode prog_14_method_143_code 137 = .ok (.invokevirtual 670, 3) := by decide +kernel
theorem dd_Model_look_140 : decode prog_14_method_143_code 140 = .ok (.aload_n 0, 1) := by decide +kernel
theorem dd_Model_look_141 : decode prog_14_method_143_code 141 = .ok (.getfield 649, 3) := by decide +kernel
theorem dd_Model_look_144 : decode prog_14_method_143_code 144 = .ok (.ireturn, 1) := by decide +kernel
theorem dd_Model_look_145 : decode prog_14_method_143_code 145 = .ok (.aload_n 0, 1) := by decide +kernel
theorem dd_Model_look_146 : decode prog_14_method_143_code 146 = .ok (.getfield 414, 3) := by decide +kernel
theorem dd_Model_look_149 : decode prog_14_method_143_code 149 = .ok (.ireturn, 1) := by decide +kernel
