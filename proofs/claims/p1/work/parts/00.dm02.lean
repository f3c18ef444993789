theorem dd_Model_bodyForm_0 : decode prog_14_method_37_code 0 = .ok (.aload_n 0, 1) := by decide +kernel
theorem dd_Model_bodyForm_1 : decode prog_14_method_37_code 1 = .ok (.getfield 171, 3) := by decide +kernel
theorem dd_Model_bodyForm_4 : decode prog_14_method_37_code 4 = .ok (.istore_n 1, 1) := by decide +kernel
theorem dd_Model_bodyForm_5 : decode prog_14_method_37_code 5 = .ok (.aload_n 0, 1) := by decide +kernel
theorem dd_Model_bodyForm_6 : decode prog_14_method_37_code 6 = .ok (.invokevirtual 295, 3) := by decide +kernel
theorem dd_Model_bodyForm_9 : decode prog_14_method_37_code 9 = .ok (.lstore_n 2, 1) := by decide +kernel
theorem dd_Model_bodyForm_10 : decode prog_14_method_37_code 10 = .ok (.lload_n 2, 1) := by decide +kernel
theorem dd_Model_bodyForm_11 : decode prog_14_method_37_code 11 = .ok (.aload_n 0, 1) := by decide +kernel
theorem dd_Model_bodyForm_12 : decode prog_14_method_37_code 12 = .ok (.getfield 171, 3) := by decide +kernel
theorem dd_Model_bodyForm_15 : decode prog_14_method_37_code 15 = .ok (.aload_n 0, 1) := by decide +kernel
theorem dd_Model_bodyForm_16 : decode prog_14_method_37_code 16 = .ok (.getfield 168, 3) := by decide +kernel
theorem dd_Model_bodyForm_19 : decode prog_14_method_37_code 19 = .ok (.isub, 1) := by decide +kernel
theorem dd_Model_bodyForm_20 : decode prog_14_method_37_code 20 = .ok (.i2l, 1) := by decide +kernel
theorem dd_Model_bodyForm_21 : decode prog_14_method_37_code 21 = .ok (.lcmp, 1) := by decide +kernel
theorem dd_Model_bodyForm_22 : decode prog_14_method_37_code 22 = .ok (.ifCond .le 8, 3) := by decide +kernel
theorem dd_Model_bodyForm_25 : decode prog_14_method_37_code 25 = .ok (.aload_n 0, 1) := by decide +kernel
theorem dd_Model_bodyForm_26 : decode prog_14_method_37_code 26 = .ok (.iconst (-1), 1) := by decide +kernel
theorem dd_Model_bodyForm_27 : decode prog_14_method_37_code 27 = .ok (.invokevirtual 174, 3) := by decide +kernel
theorem dd_Model_bodyForm_30 : decode prog_14_method_37_code 30 = .ok (.aload_n 0, 1) := by decide +kernel
theorem dd_Model_bodyForm_31 : decode prog_14_method_37_code 31 = .ok (.getfield 165, 3) := by decide +kernel
theorem dd_Model_bodyForm_34 : decode prog_14_method_37_code 34 = .ok (.ifCond .eq 4, 3) := by decide +kernel
theorem dd_Model_bodyForm_37 : decode prog_14_method_37_code 37 = .ok (.return_, 1) := by decide +kernel
theorem dd_Model_bodyForm_38 : decode prog_14_method_37_code 38 = .ok (.aload_n 0, 1) := by decide +kernel
theorem dd_Model_bodyForm_39 : decode prog_14_method_37_code 39 = .ok (.getfield 168, 3) := by decide +kernel
theorem dd_Model_bodyForm_42 : decode prog_14_method_37_code 42 = .ok (.lload_n 2, 1) := by decide +kernel
theorem dd_Model_bodyForm_43 : decode prog_14_method_37_code 43 = .ok (.l2i, 1) := by decide +kernel
theorem dd_Model_bodyForm_44 : decode prog_14_method_37_code 44 = .ok (.iadd, 1) := by decide +kernel
theorem dd_Model_bodyForm_45 : decode prog_14_method_37_code 45 = .ok (.istore 4, 2) := by decide +kernel
theorem dd_Model_bodyForm_47 : decode prog_14_method_37_code 47 = .ok (.aload_n 0, 1) := by decide +kernel
theorem dd_Model_bodyForm_48 : decode prog_14_method_37_code 48 = .ok (.iload 4, 2) := by decide +kernel
theorem dd_Model_bodyForm_50 : decode prog_14_method_37_code 50 = .ok (.putfield 171, 3) := by decide +kernel
theorem dd_Model_bodyForm_53 : decode prog_14_method_37_code 53 = .ok (.aload_n 0, 1) := by decide +kernel
theorem dd_Model_bodyForm_54 : decode prog_14_method_37_code 54 = .ok (.invokevirtual 295, 3) := by decide +kernel
theorem dd_Model_bodyForm_57 : decode prog_14_method_37_code 57 = .ok (.lstore 5, 2) := by decide +kernel
theorem dd_Model_bodyForm_59 : decode prog_14_method_37_code 59 = .ok (.lload 5, 2) := by decide +kernel
theorem dd_Model_bodyForm_61 : decode prog_14_method_37_code 61 = .ok (.lconst 0, 1) := by decide +kernel
theorem dd_Model_bodyForm_62 : decode prog_14_method_37_code 62 = .ok (.lcmp, 1) := by decide +kernel
theorem dd_Model_bodyForm_63 : decode prog_14_method_37_code 63 = .ok (.ifCond .le 29, 3) := by decide +kernel
theorem dd_Model_bodyForm_66 : decode prog_14_method_37_code 66 = .ok (.aload_n 0, 1) := by decide +kernel
theorem dd_Model_bodyForm_67 : decode prog_14_method_37_code 67 = .ok (.getfield 165, 3) := by decide +kernel
theorem dd_Model_bodyForm_70 : decode prog_14_method_37_code 70 = .ok (.ifCond .ne 22, 3) := by decide +kernel
theorem dd_Model_bodyForm_73 : decode prog_14_method_37_code 73 = .ok (.aload_n 0, 1) := by decide +kernel
theorem dd_Model_bodyForm_74 : decode prog_14_method_37_code 74 = .ok (.invokevirtual 295, 3) := by decide +kernel
theorem dd_Model_bodyForm_77 : decode prog_14_method_37_code 77 = .ok (.pop2, 1) := by decide +kernel
theorem dd_Model_bodyForm_78 : decode prog_14_method_37_code 78 = .ok (.aload_n 0, 1) := by decide +kernel
theorem dd_Model_bodyForm_79 : decode prog_14_method_37_code 79 = .ok (.invokevirtual 210, 3) := by decide +kernel
theorem dd_Model_bodyForm_82 : decode prog_14_method_37_code 82 = .ok (.pop, 1) := by decide +kernel
theorem dd_Model_bodyForm_83 : decode prog_14_method_37_code 83 = .ok (.lload 5, 2) := by decide +kernel
theorem dd_Model_bodyForm_85 : decode prog_14_method_37_code 85 = .ok (.lconst 1, 1) := by decide +kernel
theorem dd_Model_bodyForm_86 : decode prog_14_method_37_code 86 = .ok (.lsub, 1) := by decide +kernel
theorem dd_Model_bodyForm_87 : decode prog_14_method_37_code 87 = .ok (.lstore 5, 2) := by decide +kernel
theorem dd_Model_bodyForm_89 : decode prog_14_method_37_code 89 = .ok (.goto (-30), 3) := by decide +kernel
theorem dd_Model_bodyForm_92 : decode prog_14_method_37_code 92 = .ok (.iconst 1, 1) := by decide +kernel
theorem dd_Model_bodyForm_93 : decode prog_14_method_37_code 93 = .ok (.istore 5, 2) := by decide +kernel
theorem dd_Model_bodyForm_95 : decode prog_14_method_37_code 95 = .ok (.aload_n 0, 1) := by decide +kernel
theorem dd_Model_bodyForm_96 : decode prog_14_method_37_code 96 = .ok (.getfield 24, 3) := by decide +kernel
theorem dd_Model_bodyForm_99 : decode prog_14_method_37_code 99 = .ok (.iconst 0, 1) := by decide +kernel
theorem dd_Model_bodyForm_100 : decode prog_14_method_37_code 100 = .ok (.iconst 0, 1) := by decide +kernel
theorem dd_Model_bodyForm_101 : decode prog_14_method_37_code 101 = .ok (.bastore, 1) := by decide +kernel
theorem dd_Model_bodyForm_102 : decode prog_14_method_37_code 102 = .ok (.iload 5, 2) := by decide +kernel
theorem dd_Model_bodyForm_104 : decode prog_14_method_37_code 104 = .ok (.ifCond .le 111, 3) := by decide +kernel
theorem dd_Model_bodyForm_107 : decode prog_14_method_37_code 107 = .ok (.aload_n 0, 1) := by decide +kernel
theorem dd_Model_bodyForm_108 : decode prog_14_method_37_code 108 = .ok (.getfield 165, 3) := by decide +kernel
theorem dd_Model_bodyForm_111 : decode prog_14_method_37_code 111 = .ok (.ifCond .ne 104, 3) := by decide +kernel
theorem dd_Model_bodyForm_114 : decode prog_14_method_37_code 114 = .ok (.aload_n 0, 1) := by decide +kernel
theorem dd_Model_bodyForm_115 : decode prog_14_method_37_code 115 = .ok (.invokevirtual 381, 3) := by decide +kernel
theorem dd_Model_bodyForm_118 : decode prog_14_method_37_code 118 = .ok (.aload_n 0, 1) := by decide +kernel
theorem dd_Model_bodyForm_119 : decode prog_14_method_37_code 119 = .ok (.getfield 267, 3) := by decide +kernel
theorem dd_Model_bodyForm_122 : decode prog_14_method_37_code 122 = .ok (.bipush 11, 2) := by decide +kernel
theorem dd_Model_bodyForm_124 : decode prog_14_method_37_code 124 = .ok (.if_icmp .ne 9, 3) := by decide +kernel
theorem dd_Model_bodyForm_127 : decode prog_14_method_37_code 127 = .ok (.iinc 5 (-1), 3) := by decide +kernel
theorem dd_Model_bodyForm_130 : decode prog_14_method_37_code 130 = .ok (.goto (-28), 3) := by decide +kernel
theorem dd_Model_bodyForm_133 : decode prog_14_method_37_code 133 = .ok (.aload_n 0, 1) := by decide +kernel
theorem dd_Model_bodyForm_134 : decode prog_14_method_37_code 134 = .ok (.getfield 267, 3) := by decide +kernel
theorem dd_Model_bodyForm_137 : decode prog_14_method_37_code 137 = .ok (.iconst 5, 1) := by decide +kernel
theorem dd_Model_bodyForm_138 : decode prog_14_method_37_code 138 = .ok (.if_icmp .ne 33, 3) := by decide +kernel
theorem dd_Model_bodyForm_141 : decode prog_14_method_37_code 141 = .ok (.aload_n 0, 1) := by decide +kernel
theorem dd_Model_bodyForm_142 : decode prog_14_method_37_code 142 = .ok (.getfield 24, 3) := by decide +kernel
theorem dd_Model_bodyForm_145 : decode prog_14_method_37_code 145 = .ok (.iload 5, 2) := by decide +kernel
theorem dd_Model_bodyForm_147 : decode prog_14_method_37_code 147 = .ok (.iconst 1, 1) := by decide +kernel
theorem dd_Model_bodyForm_148 : decode prog_14_method_37_code 148 = .ok (.isub, 1) := by decide +kernel
theorem dd_Model_bodyForm_149 : decode prog_14_method_37_code 149 = .ok (.baload, 1) := by decide +kernel
theorem dd_Model_bodyForm_150 : decode prog_14_method_37_code 150 = .ok (.ifCond .ne 8, 3) := by decide +kernel
theorem dd_Model_bodyForm_153 : decode prog_14_method_37_code 153 = .ok (.aload_n 0, 1) := by decide +kernel
theorem dd_Model_bodyForm_154 : decode prog_14_method_37_code 154 = .ok (.iconst (-1), 1) := by decide +kernel
theorem dd_Model_bodyForm_155 : decode prog_14_method_37_code 155 = .ok (.invokevirtual 174, 3) := by decide +kernel
theorem dd_Model_bodyForm_158 : decode prog_14_method_37_code 158 = .ok (.aload_n 0, 1) := by decide +kernel
theorem dd_Model_bodyForm_159 : decode prog_14_method_37_code 159 = .ok (.getfield 24, 3) := by decide +kernel
theorem dd_Model_bodyForm_162 : decode prog_14_method_37_code 162 = .ok (.iload 5, 2) := by decide +kernel
theorem dd_Model_bodyForm_164 : decode prog_14_method_37_code 164 = .ok (.iconst 1, 1) := by decide +kernel
theorem dd_Model_bodyForm_165 : decode prog_14_method_37_code 165 = .ok (.isub, 1) := by decide +kernel
theorem dd_Model_bodyForm_166 : decode prog_14_method_37_code 166 = .ok (.iconst 0, 1) := by decide +kernel
theorem dd_Model_bodyForm_167 : decode prog_14_method_37_code 167 = .ok (.bastore, 1) := by decide +kernel
theorem dd_Model_bodyForm_168 : decode prog_14_method_37_code 168 = .ok (.goto (-66), 3) := by decide +kernel
theorem dd_Model_bodyForm_171 : decode prog_14_method_37_code 171 = .ok (.aload_n 0, 1) := by decide +kernel
theorem dd_Model_bodyForm_172 : decode prog_14_method_37_code 172 = .ok (.getfield 267, 3) := by decide +kernel
theorem dd_Model_bodyForm_175 : decode prog_14_method_37_code 175 = .ok (.i2l, 1) := by decide +kernel
theorem dd_Model_bodyForm_176 : decode prog_14_method_37_code 176 = .ok (.ldc2_w 283, 3) := by decide +kernel
theorem dd_Model_bodyForm_179 : decode prog_14_method_37_code 179 = .ok (.ldc2_w 285, 3) := by decide +kernel
theorem dd_Model_bodyForm_182 : decode prog_14_method_37_code 182 = .ok (.invokestatic 219, 3) := by decide +kernel
theorem dd_Model_bodyForm_185 : decode prog_14_method_37_code 185 = .ok (.ifCond .eq (-83), 3) := by decide +kernel
theorem dd_Model_bodyForm_188 : decode prog_14_method_37_code 188 = .ok (.aload_n 0, 1) := by decide +kernel
theorem dd_Model_bodyForm_189 : decode prog_14_method_37_code 189 = .ok (.getfield 24, 3) := by decide +kernel
theorem dd_Model_bodyForm_192 : decode prog_14_method_37_code 192 = .ok (.iload 5, 2) := by decide +kernel
theorem dd_Model_bodyForm_194 : decode prog_14_method_37_code 194 = .ok (.aload_n 0, 1) := by decide +kernel
theorem dd_Model_bodyForm_195 : decode prog_14_method_37_code 195 = .ok (.getfield 267, 3) := by decide +kernel
theorem dd_Model_bodyForm_198 : decode prog_14_method_37_code 198 = .ok (.iconst 4, 1) := by decide +kernel
theorem dd_Model_bodyForm_199 : decode prog_14_method_37_code 199 = .ok (.if_icmp .ne 7, 3) := by decide +kernel
theorem dd_Model_bodyForm_202 : decode prog_14_method_37_code 202 = .ok (.iconst 1, 1) := by decide +kernel
theorem dd_Model_bodyForm_203 : decode prog_14_method_37_code 203 = .ok (.goto 4, 3) := by decide +kernel
theorem dd_Model_bodyForm_206 : decode prog_14_method_37_code 206 = .ok (.iconst 0, 1) := by decide +kernel
theorem dd_Model_bodyForm_207 : decode prog_14_method_37_code 207 = .ok (.i2b, 1) := by decide +kernel
theorem dd_Model_bodyForm_208 : decode prog_14_method_37_code 208 = .ok (.bastore, 1) := by decide +kernel
theorem dd_Model_bodyForm_209 : decode prog_14_method_37_code 209 = .ok (.iinc 5 1, 3) := by decide +kernel
theorem dd_Model_bodyForm_212 : decode prog_14_method_37_code 212 = .ok (.goto (-110), 3) := by decide +kernel
theorem dd_Model_bodyForm_215 : decode prog_14_method_37_code 215 = .ok (.aload_n 0, 1) := by decide +kernel
theorem dd_Model_bodyForm_216 : decode prog_14_method_37_code 216 = .ok (.getfield 168, 3) := by decide +kernel
theorem dd_Model_bodyForm_219 : decode prog_14_method_37_code 219 = .ok (.iload 4, 2) := by decide +kernel
theorem dd_Model_bodyForm_221 : decode prog_14_method_37_code 221 = .ok (.if_icmp .eq 8, 3) := by decide +kernel
theorem dd_Model_bodyForm_224 : decode prog_14_method_37_code 224 = .ok (.aload_n 0, 1) := by decide +kernel
theorem dd_Model_bodyForm_225 : decode prog_14_method_37_code 225 = .ok (.iconst (-1), 1) := by decide +kernel
theorem dd_Model_bodyForm_226 : decode prog_14_method_37_code 226 = .ok (.invokevirtual 174, 3) := by decide +kernel
theorem dd_Model_bodyForm_229 : decode prog_14_method_37_code 229 = .ok (.aload_n 0, 1) := by decide +kernel
theorem dd_Model_bodyForm_230 : decode prog_14_method_37_code 230 = .ok (.iload_n 1, 1) := by decide +kernel
theorem dd_Model_bodyForm_231 : decode prog_14_method_37_code 231 = .ok (.putfield 171, 3) := by decide +kernel
theorem dd_Model_bodyForm_234 : decode prog_14_method_37_code 234 = .ok (.return_, 1) := by decide +kernel
theorem dd_Model_section_0 : decode prog_14_method_29_code 0 = .ok (.iload_n 1, 1) := by decide +kernel
theorem dd_Model_section_1 : decode prog_14_method_29_code 1 = .ok (.bipush 8, 2) := by decide +kernel
theorem dd_Model_section_3 : decode prog_14_method_29_code 3 = .ok (.if_icmp .ne 9, 3) := by decide +kernel
theorem dd_Model_section_6 : decode prog_14_method_29_code 6 = .ok (.aload_n 0, 1) := by decide +kernel
theorem dd_Model_section_7 : decode prog_14_method_29_code 7 = .ok (.invokevirtual 295, 3) := by decide +kernel
theorem dd_Model_section_10 : decode prog_14_method_29_code 10 = .ok (.pop2, 1) := by decide +kernel
theorem dd_Model_section_11 : decode prog_14_method_29_code 11 = .ok (.return_, 1) := by decide +kernel
theorem dd_Model_section_12 : decode prog_14_method_29_code 12 = .ok (.aload_n 0, 1) := by decide +kernel
theorem dd_Model_section_13 : decode prog_14_method_29_code 13 = .ok (.invokevirtual 295, 3) := by decide +kernel
theorem dd_Model_section_16 : decode prog_14_method_29_code 16 = .ok (.lstore_n 2, 1) := by decide +kernel
theorem dd_Model_section_17 : decode prog_14_method_29_code 17 = .ok (.lconst 0, 1) := by decide +kernel
theorem dd_Model_section_18 : decode prog_14_method_29_code 18 = .ok (.lstore 4, 2) := by decide +kernel
theorem dd_Model_section_20 : decode prog_14_method_29_code 20 = .ok (.lload 4, 2) := by decide +kernel
theorem dd_Model_section_22 : decode prog_14_method_29_code 22 = .ok (.lload_n 2, 1) := by decide +kernel
theorem dd_Model_section_23 : decode prog_14_method_29_code 23 = .ok (.lcmp, 1) := by decide +kernel
theorem dd_Model_section_24 : decode prog_14_method_29_code 24 = .ok (.ifCond .ge 189, 3) := by decide +kernel
theorem dd_Model_section_27 : decode prog_14_method_29_code 27 = .ok (.aload_n 0, 1) := by decide +kernel
theorem dd_Model_section_28 : decode prog_14_method_29_code 28 = .ok (.getfield 165, 3) := by decide +kernel
theorem dd_Model_section_31 : decode prog_14_method_29_code 31 = .ok (.ifCond .ne 182, 3) := by decide +kernel
theorem dd_Model_section_34 : decode prog_14_method_29_code 34 = .ok (.iload_n 1, 1) := by decide +kernel
theorem dd_Model_section_35 : decode prog_14_method_29_code 35 = .ok (.tableswitch 161 1 10 #[53, 161, 60, 68, 81, 88, 106, 161, 113, 154], 53) := by decide +kernel
theorem dd_Model_section_88 : decode prog_14_method_29_code 88 = .ok (.aload_n 0, 1) := by decide +kernel
theorem dd_Model_section_89 : decode prog_14_method_29_code 89 = .ok (.invokevirtual 351, 3) := by decide +kernel
theorem dd_Model_section_92 : decode prog_14_method_29_code 92 = .ok (.goto 112, 3) := by decide +kernel
theorem dd_Model_section_95 : decode prog_14_method_29_code 95 = .ok (.aload_n 0, 1) := by decide +kernel
theorem dd_Model_section_96 : decode prog_14_method_29_code 96 = .ok (.invokevirtual 295, 3) := by decide +kernel
theorem dd_Model_section_99 : decode prog_14_method_29_code 99 = .ok (.pop2, 1) := by decide +kernel
theorem dd_Model_section_100 : decode prog_14_method_29_code 100 = .ok (.goto 104, 3) := by decide +kernel
theorem dd_Model_section_103 : decode prog_14_method_29_code 103 = .ok (.aload_n 0, 1) := by decide +kernel
theorem dd_Model_section_104 : decode prog_14_method_29_code 104 = .ok (.bipush 112, 2) := by decide +kernel
theorem dd_Model_section_106 : decode prog_14_method_29_code 106 = .ok (.invokevirtual 308, 3) := by decide +kernel
theorem dd_Model_section_109 : decode prog_14_method_29_code 109 = .ok (.aload_n 0, 1) := by decide +kernel
theorem dd_Model_section_110 : decode prog_14_method_29_code 110 = .ok (.invokevirtual 354, 3) := by decide +kernel
theorem dd_Model_section_113 : decode prog_14_method_29_code 113 = .ok (.goto 91, 3) := by decide +kernel
theorem dd_Model_section_116 : decode prog_14_method_29_code 116 = .ok (.aload_n 0, 1) := by decide +kernel
theorem dd_Model_section_117 : decode prog_14_method_29_code 117 = .ok (.invokevirtual 354, 3) := by decide +kernel
theorem dd_Model_section_120 : decode prog_14_method_29_code 120 = .ok (.goto 84, 3) := by decide +kernel
theorem dd_Model_section_123 : decode prog_14_method_29_code 123 = .ok (.aload_n 0, 1) := by decide +kernel
theorem dd_Model_section_124 : decode prog_14_method_29_code 124 = .ok (.invokevirtual 210, 3) := by decide +kernel
theorem dd_Model_section_127 : decode prog_14_method_29_code 127 = .ok (.pop, 1) := by decide +kernel
theorem dd_Model_section_128 : decode prog_14_method_29_code 128 = .ok (.aload_n 0, 1) := by decide +kernel
theorem dd_Model_section_129 : decode prog_14_method_29_code 129 = .ok (.invokevirtual 357, 3) := by decide +kernel
theorem dd_Model_section_132 : decode prog_14_method_29_code 132 = .ok (.pop, 1) := by decide +kernel
theorem dd_Model_section_133 : decode prog_14_method_29_code 133 = .ok (.aload_n 0, 1) := by decide +kernel
theorem dd_Model_section_134 : decode prog_14_method_29_code 134 = .ok (.invokevirtual 360, 3) := by decide +kernel
theorem dd_Model_section_137 : decode prog_14_method_29_code 137 = .ok (.pop, 1) := by decide +kernel
theorem dd_Model_section_138 : decode prog_14_method_29_code 138 = .ok (.goto 66, 3) := by decide +kernel
theorem dd_Model_section_141 : decode prog_14_method_29_code 141 = .ok (.aload_n 0, 1) := by decide +kernel
theorem dd_Model_section_142 : decode prog_14_method_29_code 142 = .ok (.invokevirtual 363, 3) := by decide +kernel
theorem dd_Model_section_145 : decode prog_14_method_29_code 145 = .ok (.goto 59, 3) := by decide +kernel
theorem dd_Model_section_148 : decode prog_14_method_29_code 148 = .ok (.aload_n 0, 1) := by decide +kernel
theorem dd_Model_section_149 : decode prog_14_method_29_code 149 = .ok (.invokevirtual 366, 3) := by decide +kernel
theorem dd_Model_section_152 : decode prog_14_method_29_code 152 = .ok (.aload_n 0, 1) := by decide +kernel
theorem dd_Model_section_153 : decode prog_14_method_29_code 153 = .ok (.invokevirtual 295, 3) := by decide +kernel
theorem dd_Model_section_156 : decode prog_14_method_29_code 156 = .ok (.lstore 6, 2) := by decide +kernel
theorem dd_Model_section_158 : decode prog_14_method_29_code 158 = .ok (.lload 6, 2) := by decide +kernel
theorem dd_Model_section_160 : decode prog_14_method_29_code 160 = .ok (.lconst 0, 1) := by decide +kernel
theorem dd_Model_section_161 : decode prog_14_method_29_code 161 = .ok (.lcmp, 1) := by decide +kernel
theorem dd_Model_section_162 : decode prog_14_method_29_code 162 = .ok (.ifCond .le 24, 3) := by decide +kernel
theorem dd_Model_section_165 : decode prog_14_method_29_code 165 = .ok (.aload_n 0, 1) := by decide +kernel
theorem dd_Model_section_166 : decode prog_14_method_29_code 166 = .ok (.getfield 165, 3) := by decide +kernel
theorem dd_Model_section_169 : decode prog_14_method_29_code 169 = .ok (.ifCond .ne 17, 3) := by decide +kernel
theorem dd_Model_section_172 : decode prog_14_method_29_code 172 = .ok (.aload_n 0, 1) := by decide +kernel
theorem dd_Model_section_173 : decode prog_14_method_29_code 173 = .ok (.invokevirtual 295, 3) := by decide +kernel
theorem dd_Model_section_176 : decode prog_14_method_29_code 176 = .ok (.pop2, 1) := by decide +kernel
theorem dd_Model_section_177 : decode prog_14_method_29_code 177 = .ok (.lload 6, 2) := by decide +kernel
theorem dd_Model_section_179 : decode prog_14_method_29_code 179 = .ok (.lconst 1, 1) := by decide +kernel
theorem dd_Model_section_180 : decode prog_14_method_29_code 180 = .ok (.lsub, 1) := by decide +kernel
theorem dd_Model_section_181 : decode prog_14_method_29_code 181 = .ok (.lstore 6, 2) := by decide +kernel
theorem dd_Model_section_183 : decode prog_14_method_29_code 183 = .ok (.goto (-25), 3) := by decide +kernel
theorem dd_Model_section_186 : decode prog_14_method_29_code 186 = .ok (.goto 18, 3) := by decide +kernel
theorem dd_Model_section_189 : decode prog_14_method_29_code 189 = .ok (.aload_n 0, 1) := by decide +kernel
theorem dd_Model_section_190 : decode prog_14_method_29_code 190 = .ok (.invokevirtual 369, 3) := by decide +kernel
theorem dd_Model_section_193 : decode prog_14_method_29_code 193 = .ok (.goto 11, 3) := by decide +kernel
theorem dd_Model_section_196 : decode prog_14_method_29_code 196 = .ok (.aload_n 0, 1) := by decide +kernel
theorem dd_Model_section_197 : decode prog_14_method_29_code 197 = .ok (.invokevirtual 366, 3) := by decide +kernel
theorem dd_Model_section_200 : decode prog_14_method_29_code 200 = .ok (.aload_n 0, 1) := by decide +kernel
theorem dd_Model_section_201 : decode prog_14_method_29_code 201 = .ok (.invokevirtual 372, 3) := by decide +kernel
theorem dd_Model_section_204 : decode prog_14_method_29_code 204 = .ok (.lload 4, 2) := by decide +kernel
theorem dd_Model_section_206 : decode prog_14_method_29_code 206 = .ok (.lconst 1, 1) := by decide +kernel
theorem dd_Model_section_207 : decode prog_14_method_29_code 207 = .ok (.ladd, 1) := by decide +kernel
theorem dd_Model_section_208 : decode prog_14_method_29_code 208 = .ok (.lstore 4, 2) := by decide +kernel
theorem dd_Model_section_210 : decode prog_14_method_29_code 210 = .ok (.goto (-190), 3) := by decide +kernel
theorem dd_Model_section_213 : decode prog_14_method_29_code 213 = .ok (.return_, 1) := by decide +kernel
theorem dd_Model_magic_0 : decode prog_14_method_27_code 0 = .ok (.iload_n 0, 1) := by decide +kernel
theorem dd_Model_magic_1 : decode prog_14_method_27_code 1 = .ok (.iconst 1, 1) := by decide +kernel
theorem dd_Model_magic_2 : decode prog_14_method_27_code 2 = .ok (.if_icmp .ne 8, 3) := by decide +kernel
theorem dd_Model_magic_5 : decode prog_14_method_27_code 5 = .ok (.bipush 97, 2) := by decide +kernel
theorem dd_Model_magic_7 : decode prog_14_method_27_code 7 = .ok (.goto 33, 3) := by decide +kernel
theorem dd_Model_magic_10 : decode prog_14_method_27_code 10 = .ok (.iload_n 0, 1) := by decide +kernel
theorem dd_Model_magic_11 : decode prog_14_method_27_code 11 = .ok (.iconst 2, 1) := by decide +kernel
theorem dd_Model_magic_12 : decode prog_14_method_27_code 12 = .ok (.if_icmp .ne 8, 3) := by decide +kernel
theorem dd_Model_magic_15 : decode prog_14_method_27_code 15 = .ok (.bipush 115, 2) := by decide +kernel
theorem dd_Model_magic_17 : decode prog_14_method_27_code 17 = .ok (.goto 23, 3) := by decide +kernel
theorem dd_Model_magic_20 : decode prog_14_method_27_code 20 = .ok (.iload_n 0, 1) := by decide +kernel
theorem dd_Model_magic_21 : decode prog_14_method_27_code 21 = .ok (.iconst 3, 1) := by decide +kernel
theorem dd_Model_magic_22 : decode prog_14_method_27_code 22 = .ok (.if_icmp .ne 8, 3) := by decide +kernel
theorem dd_Model_magic_25 : decode prog_14_method_27_code 25 = .ok (.bipush 109, 2) := by decide +kernel
theorem dd_Model_magic_27 : decode prog_14_method_27_code 27 = .ok (.goto 13, 3) := by decide +kernel
theorem dd_Model_magic_30 : decode prog_14_method_27_code 30 = .ok (.iload_n 0, 1) := by decide +kernel
theorem dd_Model_magic_31 : decode prog_14_method_27_code 31 = .ok (.iconst 4, 1) := by decide +kernel
theorem dd_Model_magic_32 : decode prog_14_method_27_code 32 = .ok (.if_icmp .ne 7, 3) := by decide +kernel
theorem dd_Model_magic_35 : decode prog_14_method_27_code 35 = .ok (.iconst 1, 1) := by decide +kernel
theorem dd_Model_magic_36 : decode prog_14_method_27_code 36 = .ok (.goto 4, 3) := by decide +kernel
theorem dd_Model_magic_39 : decode prog_14_method_27_code 39 = .ok (.iconst 0, 1) := by decide +kernel
theorem dd_Model_magic_40 : decode prog_14_method_27_code 40 = .ok (.ireturn, 1) := by decide +kernel
theorem dd_Model_walk_0 : decode prog_14_method_28_code 0 = .ok (.aload_n 0, 1) := by decide +kernel
theorem dd_Model_walk_1 : decode prog_14_method_28_code 1 = .ok (.iconst 0, 1) := by decide +kernel
theorem dd_Model_walk_2 : decode prog_14_method_28_code 2 = .ok (.putfield 165, 3) := by decide +kernel
theorem dd_Model_walk_5 : decode prog_14_method_28_code 5 = .ok (.aload_n 0, 1) := by decide +kernel
theorem dd_Model_walk_6 : decode prog_14_method_28_code 6 = .ok (.iconst 0, 1) := by decide +kernel
theorem dd_Model_walk_7 : decode prog_14_method_28_code 7 = .ok (.putfield 168, 3) := by decide +kernel
theorem dd_Model_walk_10 : decode prog_14_method_28_code 10 = .ok (.aload_n 0, 1) := by decide +kernel
theorem dd_Model_walk_11 : decode prog_14_method_28_code 11 = .ok (.aload_n 0, 1) := by decide +kernel
theorem dd_Model_walk_12 : decode prog_14_method_28_code 12 = .ok (.getfield 341, 3) := by decide +kernel
theorem dd_Model_walk_15 : decode prog_14_method_28_code 15 = .ok (.putfield 171, 3) := by decide +kernel
theorem dd_Model_walk_18 : decode prog_14_method_28_code 18 = .ok (.iconst 0, 1) := by decide +kernel
theorem dd_Model_walk_19 : decode prog_14_method_28_code 19 = .ok (.istore_n 1, 1) := by decide +kernel
theorem dd_Model_walk_20 : decode prog_14_method_28_code 20 = .ok (.iload_n 1, 1) := by decide +kernel
theorem dd_Model_walk_21 : decode prog_14_method_28_code 21 = .ok (.bipush 12, 2) := by decide +kernel
theorem dd_Model_walk_23 : decode prog_14_method_28_code 23 = .ok (.if_icmp .ge 16, 3) := by decide +kernel
theorem dd_Model_walk_26 : decode prog_14_method_28_code 26 = .ok (.aload_n 0, 1) := by decide +kernel
theorem dd_Model_walk_27 : decode prog_14_method_28_code 27 = .ok (.getfield 20, 3) := by decide +kernel
theorem dd_Model_walk_30 : decode prog_14_method_28_code 30 = .ok (.iload_n 1, 1) := by decide +kernel
theorem dd_Model_walk_31 : decode prog_14_method_28_code 31 = .ok (.iconst (-1), 1) := by decide +kernel
theorem dd_Model_walk_32 : decode prog_14_method_28_code 32 = .ok (.iastore, 1) := by decide +kernel
theorem dd_Model_walk_33 : decode prog_14_method_28_code 33 = .ok (.iinc 1 1, 3) := by decide +kernel
theorem dd_Model_walk_36 : decode prog_14_method_28_code 36 = .ok (.goto (-16), 3) := by decide +kernel
theorem dd_Model_walk_39 : decode prog_14_method_28_code 39 = .ok (.iconst 0, 1) := by decide +kernel
theorem dd_Model_walk_40 : decode prog_14_method_28_code 40 = .ok (.istore_n 1, 1) := by decide +kernel
theorem dd_Model_walk_41 : decode prog_14_method_28_code 41 = .ok (.iload_n 1, 1) := by decide +kernel
theorem dd_Model_walk_42 : decode prog_14_method_28_code 42 = .ok (.bipush 8, 2) := by decide +kernel
theorem dd_Model_walk_44 : decode prog_14_method_28_code 44 = .ok (.if_icmp .ge 17, 3) := by decide +kernel
theorem dd_Model_walk_47 : decode prog_14_method_28_code 47 = .ok (.aload_n 0, 1) := by decide +kernel
theorem dd_Model_walk_48 : decode prog_14_method_28_code 48 = .ok (.iload_n 1, 1) := by decide +kernel
theorem dd_Model_walk_49 : decode prog_14_method_28_code 49 = .ok (.invokestatic 344, 3) := by decide +kernel
theorem dd_Model_walk_52 : decode prog_14_method_28_code 52 = .ok (.invokevirtual 308, 3) := by decide +kernel
theorem dd_Model_walk_55 : decode prog_14_method_28_code 55 = .ok (.iinc 1 1, 3) := by decide +kernel
theorem dd_Model_walk_58 : decode prog_14_method_28_code 58 = .ok (.goto (-17), 3) := by decide +kernel
theorem dd_Model_walk_61 : decode prog_14_method_28_code 61 = .ok (.iconst 0, 1) := by decide +kernel
theorem dd_Model_walk_62 : decode prog_14_method_28_code 62 = .ok (.istore_n 1, 1) := by decide +kernel
theorem dd_Model_walk_63 : decode prog_14_method_28_code 63 = .ok (.aload_n 0, 1) := by decide +kernel
theorem dd_Model_walk_64 : decode prog_14_method_28_code 64 = .ok (.getfield 165, 3) := by decide +kernel
theorem dd_Model_walk_67 : decode prog_14_method_28_code 67 = .ok (.ifCond .ne 147, 3) := by decide +kernel
theorem dd_Model_walk_70 : decode prog_14_method_28_code 70 = .ok (.aload_n 0, 1) := by decide +kernel
theorem dd_Model_walk_71 : decode prog_14_method_28_code 71 = .ok (.getfield 168, 3) := by decide +kernel
theorem dd_Model_walk_74 : decode prog_14_method_28_code 74 = .ok (.aload_n 0, 1) := by decide +kernel
theorem dd_Model_walk_75 : decode prog_14_method_28_code 75 = .ok (.getfield 341, 3) := by decide +kernel
theorem dd_Model_walk_78 : decode prog_14_method_28_code 78 = .ok (.if_icmp .ge 136, 3) := by decide +kernel
theorem dd_Model_walk_81 : decode prog_14_method_28_code 81 = .ok (.aload_n 0, 1) := by decide +kernel
theorem dd_Model_walk_82 : decode prog_14_method_28_code 82 = .ok (.aload_n 0, 1) := by decide +kernel
theorem dd_Model_walk_83 : decode prog_14_method_28_code 83 = .ok (.getfield 341, 3) := by decide +kernel
theorem dd_Model_walk_86 : decode prog_14_method_28_code 86 = .ok (.putfield 171, 3) := by decide +kernel
theorem dd_Model_walk_89 : decode prog_14_method_28_code 89 = .ok (.aload_n 0, 1) := by decide +kernel
theorem dd_Model_walk_90 : decode prog_14_method_28_code 90 = .ok (.invokevirtual 178, 3) := by decide +kernel
theorem dd_Model_walk_93 : decode prog_14_method_28_code 93 = .ok (.istore_n 2, 1) := by decide +kernel
theorem dd_Model_walk_94 : decode prog_14_method_28_code 94 = .ok (.iload_n 2, 1) := by decide +kernel
theorem dd_Model_walk_95 : decode prog_14_method_28_code 95 = .ok (.iconst 2, 1) := by decide +kernel
theorem dd_Model_walk_96 : decode prog_14_method_28_code 96 = .ok (.if_icmp .eq 18, 3) := by decide +kernel
theorem dd_Model_walk_99 : decode prog_14_method_28_code 99 = .ok (.iload_n 2, 1) := by decide +kernel
theorem dd_Model_walk_100 : decode prog_14_method_28_code 100 = .ok (.bipush 11, 2) := by decide +kernel
theorem dd_Model_walk_102 : decode prog_14_method_28_code 102 = .ok (.if_icmp .gt 12, 3) := by decide +kernel
theorem dd_Model_walk_105 : decode prog_14_method_28_code 105 = .ok (.iload_n 2, 1) := by decide +kernel
theorem dd_Model_walk_106 : decode prog_14_method_28_code 106 = .ok (.ifCond .le 13, 3) := by decide +kernel
theorem dd_Model_walk_109 : decode prog_14_method_28_code 109 = .ok (.iload_n 2, 1) := by decide +kernel
theorem dd_Model_walk_110 : decode prog_14_method_28_code 110 = .ok (.iload_n 1, 1) := by decide +kernel
theorem dd_Model_walk_111 : decode prog_14_method_28_code 111 = .ok (.if_icmp .gt 8, 3) := by decide +kernel
theorem dd_Model_walk_114 : decode prog_14_method_28_code 114 = .ok (.aload_n 0, 1) := by decide +kernel
theorem dd_Model_walk_115 : decode prog_14_method_28_code 115 = .ok (.iconst (-1), 1) := by decide +kernel
theorem dd_Model_walk_116 : decode prog_14_method_28_code 116 = .ok (.invokevirtual 174, 3) := by decide +kernel
theorem dd_Model_walk_119 : decode prog_14_method_28_code 119 = .ok (.aload_n 0, 1) := by decide +kernel
theorem dd_Model_walk_120 : decode prog_14_method_28_code 120 = .ok (.invokevirtual 295, 3) := by decide +kernel
theorem dd_Model_walk_123 : decode prog_14_method_28_code 123 = .ok (.lstore_n 3, 1) := by decide +kernel
theorem dd_Model_walk_124 : decode prog_14_method_28_code 124 = .ok (.lload_n 3, 1) := by decide +kernel
theorem dd_Model_walk_125 : decode prog_14_method_28_code 125 = .ok (.aload_n 0, 1) := by decide +kernel
theorem dd_Model_walk_126 : decode prog_14_method_28_code 126 = .ok (.getfield 341, 3) := by decide +kernel
theorem dd_Model_walk_129 : decode prog_14_method_28_code 129 = .ok (.aload_n 0, 1) := by decide +kernel
theorem dd_Model_walk_130 : decode prog_14_method_28_code 130 = .ok (.getfield 168, 3) := by decide +kernel
theorem dd_Model_walk_133 : decode prog_14_method_28_code 133 = .ok (.isub, 1) := by decide +kernel
theorem dd_Model_walk_134 : decode prog_14_method_28_code 134 = .ok (.i2l, 1) := by decide +kernel
theorem dd_Model_walk_135 : decode prog_14_method_28_code 135 = .ok (.lcmp, 1) := by decide +kernel
theorem dd_Model_walk_136 : decode prog_14_method_28_code 136 = .ok (.ifCond .le 8, 3) := by decide +kernel
theorem dd_Model_walk_139 : decode prog_14_method_28_code 139 = .ok (.aload_n 0, 1) := by decide +kernel
theorem dd_Model_walk_140 : decode prog_14_method_28_code 140 = .ok (.iconst (-1), 1) := by decide +kernel
theorem dd_Model_walk_141 : decode prog_14_method_28_code 141 = .ok (.invokevirtual 174, 3) := by decide +kernel
theorem dd_Model_walk_144 : decode prog_14_method_28_code 144 = .ok (.aload_n 0, 1) := by decide +kernel
theorem dd_Model_walk_145 : decode prog_14_method_28_code 145 = .ok (.getfield 165, 3) := by decide +kernel
theorem dd_Model_walk_148 : decode prog_14_method_28_code 148 = .ok (.ifCond .eq 4, 3) := by decide +kernel
theorem dd_Model_walk_151 : decode prog_14_method_28_code 151 = .ok (.return_, 1) := by decide +kernel
theorem dd_Model_walk_152 : decode prog_14_method_28_code 152 = .ok (.aload_n 0, 1) := by decide +kernel
theorem dd_Model_walk_153 : decode prog_14_method_28_code 153 = .ok (.getfield 168, 3) := by decide +kernel
theorem dd_Model_walk_156 : decode prog_14_method_28_code 156 = .ok (.lload_n 3, 1) := by decide +kernel
theorem dd_Model_walk_157 : decode prog_14_method_28_code 157 = .ok (.l2i, 1) := by decide +kernel
theorem dd_Model_walk_158 : decode prog_14_method_28_code 158 = .ok (.iadd, 1) := by decide +kernel
theorem dd_Model_walk_159 : decode prog_14_method_28_code 159 = .ok (.istore 5, 2) := by decide +kernel
theorem dd_Model_walk_161 : decode prog_14_method_28_code 161 = .ok (.aload_n 0, 1) := by decide +kernel
theorem dd_Model_walk_162 : decode prog_14_method_28_code 162 = .ok (.iload 5, 2) := by decide +kernel
theorem dd_Model_walk_164 : decode prog_14_method_28_code 164 = .ok (.putfield 171, 3) := by decide +kernel
theorem dd_Model_walk_167 : decode prog_14_method_28_code 167 = .ok (.iload_n 2, 1) := by decide +kernel
theorem dd_Model_walk_168 : decode prog_14_method_28_code 168 = .ok (.ifCond .ne 12, 3) := by decide +kernel
theorem dd_Model_walk_171 : decode prog_14_method_28_code 171 = .ok (.aload_n 0, 1) := by decide +kernel
theorem dd_Model_walk_172 : decode prog_14_method_28_code 172 = .ok (.iload 5, 2) := by decide +kernel
theorem dd_Model_walk_174 : decode prog_14_method_28_code 174 = .ok (.putfield 168, 3) := by decide +kernel
theorem dd_Model_walk_177 : decode prog_14_method_28_code 177 = .ok (.goto 20, 3) := by decide +kernel
theorem dd_Model_walk_180 : decode prog_14_method_28_code 180 = .ok (.iload_n 2, 1) := by decide +kernel
theorem dd_Model_walk_181 : decode prog_14_method_28_code 181 = .ok (.istore_n 1, 1) := by decide +kernel
theorem dd_Model_walk_182 : decode prog_14_method_28_code 182 = .ok (.aload_n 0, 1) := by decide +kernel
theorem dd_Model_walk_183 : decode prog_14_method_28_code 183 = .ok (.getfield 20, 3) := by decide +kernel
theorem dd_Model_walk_186 : decode prog_14_method_28_code 186 = .ok (.iload_n 2, 1) := by decide +kernel
theorem dd_Model_walk_187 : decode prog_14_method_28_code 187 = .ok (.aload_n 0, 1) := by decide +kernel
theorem dd_Model_walk_188 : decode prog_14_method_28_code 188 = .ok (.getfield 168, 3) := by decide +kernel
theorem dd_Model_walk_191 : decode prog_14_method_28_code 191 = .ok (.iastore, 1) := by decide +kernel
theorem dd_Model_walk_192 : decode prog_14_method_28_code 192 = .ok (.aload_n 0, 1) := by decide +kernel
theorem dd_Model_walk_193 : decode prog_14_method_28_code 193 = .ok (.iload_n 2, 1) := by decide +kernel
theorem dd_Model_walk_194 : decode prog_14_method_28_code 194 = .ok (.invokevirtual 348, 3) := by decide +kernel
theorem dd_Model_walk_197 : decode prog_14_method_28_code 197 = .ok (.aload_n 0, 1) := by decide +kernel
theorem dd_Model_walk_198 : decode prog_14_method_28_code 198 = .ok (.getfield 168, 3) := by decide +kernel
theorem dd_Model_walk_201 : decode prog_14_method_28_code 201 = .ok (.iload 5, 2) := by decide +kernel
theorem dd_Model_walk_203 : decode prog_14_method_28_code 203 = .ok (.if_icmp .eq 8, 3) := by decide +kernel
theorem dd_Model_walk_206 : decode prog_14_method_28_code 206 = .ok (.aload_n 0, 1) := by decide +kernel
theorem dd_Model_walk_207 : decode prog_14_method_28_code 207 = .ok (.iconst (-1), 1) := by decide +kernel
theorem dd_Model_walk_208 : decode prog_14_method_28_code 208 = .ok (.invokevirtual 174, 3) := by decide +kernel
theorem dd_Model_walk_211 : decode prog_14_method_28_code 211 = .ok (.goto (-148), 3) := by decide +kernel
theorem dd_Model_walk_214 : decode prog_14_method_28_code 214 = .ok (.return_, 1) := by decide +kernel
theorem dd_Model_rowOf_0 : decode prog_14_method_46_code 0 = .ok (.aload_n 0, 1) := by decide +kernel
theorem dd_Model_rowOf_1 : decode prog_14_method_46_code 1 = .ok (.getfield 20, 3) := by decide +kernel
theorem dd_Model_rowOf_4 : decode prog_14_method_46_code 4 = .ok (.iload_n 1, 1) := by decide +kernel
theorem dd_Model_rowOf_5 : decode prog_14_method_46_code 5 = .ok (.iaload, 1) := by decide +kernel
theorem dd_Model_rowOf_6 : decode prog_14_method_46_code 6 = .ok (.ifCond .ge 5, 3) := by decide +kernel
theorem dd_Model_rowOf_9 : decode prog_14_method_46_code 9 = .ok (.iconst 0, 1) := by decide +kernel
theorem dd_Model_rowOf_10 : decode prog_14_method_46_code 10 = .ok (.ireturn, 1) := by decide +kernel
theorem dd_Model_rowOf_11 : decode prog_14_method_46_code 11 = .ok (.aload_n 0, 1) := by decide +kernel
theorem dd_Model_rowOf_12 : decode prog_14_method_46_code 12 = .ok (.aload_n 0, 1) := by decide +kernel
theorem dd_Model_rowOf_13 : decode prog_14_method_46_code 13 = .ok (.getfield 20, 3) := by decide +kernel
theorem dd_Model_rowOf_16 : decode prog_14_method_46_code 16 = .ok (.iload_n 1, 1) := by decide +kernel
theorem dd_Model_rowOf_17 : decode prog_14_method_46_code 17 = .ok (.iaload, 1) := by decide +kernel
theorem dd_Model_rowOf_18 : decode prog_14_method_46_code 18 = .ok (.putfield 168, 3) := by decide +kernel
theorem dd_Model_rowOf_21 : decode prog_14_method_46_code 21 = .ok (.aload_n 0, 1) := by decide +kernel
theorem dd_Model_rowOf_22 : decode prog_14_method_46_code 22 = .ok (.aload_n 0, 1) := by decide +kernel
theorem dd_Model_rowOf_23 : decode prog_14_method_46_code 23 = .ok (.getfield 341, 3) := by decide +kernel
theorem dd_Model_rowOf_26 : decode prog_14_method_46_code 26 = .ok (.putfield 171, 3) := by decide +kernel
theorem dd_Model_rowOf_29 : decode prog_14_method_46_code 29 = .ok (.aload_n 0, 1) := by decide +kernel
theorem dd_Model_rowOf_30 : decode prog_14_method_46_code 30 = .ok (.invokevirtual 295, 3) := by decide +kernel
theorem dd_Model_rowOf_33 : decode prog_14_method_46_code 33 = .ok (.lstore_n 2, 1) := by decide +kernel
theorem dd_Model_rowOf_34 : decode prog_14_method_46_code 34 = .ok (.aload_n 0, 1) := by decide +kernel
theorem dd_Model_rowOf_35 : decode prog_14_method_46_code 35 = .ok (.aload_n 0, 1) := by decide +kernel
theorem dd_Model_rowOf_36 : decode prog_14_method_46_code 36 = .ok (.getfield 398, 3) := by decide +kernel
theorem dd_Model_rowOf_39 : decode prog_14_method_46_code 39 = .ok (.ifCond .ne 11, 3) := by decide +kernel
theorem dd_Model_rowOf_42 : decode prog_14_method_46_code 42 = .ok (.lload_n 2, 1) := by decide +kernel
theorem dd_Model_rowOf_43 : decode prog_14_method_46_code 43 = .ok (.ldc2_w 197, 3) := by decide +kernel
theorem dd_Model_rowOf_46 : decode prog_14_method_46_code 46 = .ok (.lcmp, 1) := by decide +kernel
theorem dd_Model_rowOf_47 : decode prog_14_method_46_code 47 = .ok (.ifCond .le 7, 3) := by decide +kernel
theorem dd_Model_rowOf_50 : decode prog_14_method_46_code 50 = .ok (.iconst 1, 1) := by decide +kernel
theorem dd_Model_rowOf_51 : decode prog_14_method_46_code 51 = .ok (.goto 4, 3) := by decide +kernel
theorem dd_Model_rowOf_54 : decode prog_14_method_46_code 54 = .ok (.iconst 0, 1) := by decide +kernel
theorem dd_Model_rowOf_55 : decode prog_14_method_46_code 55 = .ok (.putfield 398, 3) := by decide +kernel
theorem dd_Model_rowOf_58 : decode prog_14_method_46_code 58 = .ok (.aload_n 0, 1) := by decide +kernel
theorem dd_Model_rowOf_59 : decode prog_14_method_46_code 59 = .ok (.getfield 398, 3) := by decide +kernel
theorem dd_Model_rowOf_62 : decode prog_14_method_46_code 62 = .ok (.ifCond .eq 7, 3) := by decide +kernel
theorem dd_Model_rowOf_65 : decode prog_14_method_46_code 65 = .ok (.iconst 0, 1) := by decide +kernel
theorem dd_Model_rowOf_66 : decode prog_14_method_46_code 66 = .ok (.goto 5, 3) := by decide +kernel
theorem dd_Model_rowOf_69 : decode prog_14_method_46_code 69 = .ok (.lload_n 2, 1) := by decide +kernel
theorem dd_Model_rowOf_70 : decode prog_14_method_46_code 70 = .ok (.l2i, 1) := by decide +kernel
theorem dd_Model_rowOf_71 : decode prog_14_method_46_code 71 = .ok (.ireturn, 1) := by decide +kernel
theorem dd_Model_dataRow_0 : decode prog_14_method_55_code 0 = .ok (.aload_n 0, 1) := by decide +kernel
theorem dd_Model_dataRow_1 : decode prog_14_method_55_code 1 = .ok (.bipush 11, 2) := by decide +kernel
theorem dd_Model_dataRow_3 : decode prog_14_method_55_code 3 = .ok (.invokevirtual 417, 3) := by decide +kernel
theorem dd_Model_dataRow_6 : decode prog_14_method_55_code 6 = .ok (.istore_n 1, 1) := by decide +kernel
theorem dd_Model_dataRow_7 : decode prog_14_method_55_code 7 = .ok (.aload_n 0, 1) := by decide +kernel
theorem dd_Model_dataRow_8 : decode prog_14_method_55_code 8 = .ok (.aload_n 0, 1) := by decide +kernel
theorem dd_Model_dataRow_9 : decode prog_14_method_55_code 9 = .ok (.getfield 398, 3) := by decide +kernel
theorem dd_Model_dataRow_12 : decode prog_14_method_55_code 12 = .ok (.ifCond .ne 14, 3) := by decide +kernel
theorem dd_Model_dataRow_15 : decode prog_14_method_55_code 15 = .ok (.iload_n 1, 1) := by decide +kernel
theorem dd_Model_dataRow_16 : decode prog_14_method_55_code 16 = .ok (.ifCond .le 14, 3) := by decide +kernel
theorem dd_Model_dataRow_19 : decode prog_14_method_55_code 19 = .ok (.aload_n 0, 1) := by decide +kernel
theorem dd_Model_dataRow_20 : decode prog_14_method_55_code 20 = .ok (.getfield 457, 3) := by decide +kernel
theorem dd_Model_dataRow_23 : decode prog_14_method_55_code 23 = .ok (.ifCond .ne 7, 3) := by decide +kernel
theorem dd_Model_dataRow_26 : decode prog_14_method_55_code 26 = .ok (.iconst 1, 1) := by decide +kernel
theorem dd_Model_dataRow_27 : decode prog_14_method_55_code 27 = .ok (.goto 4, 3) := by decide +kernel
theorem dd_Model_dataRow_30 : decode prog_14_method_55_code 30 = .ok (.iconst 0, 1) := by decide +kernel
theorem dd_Model_dataRow_31 : decode prog_14_method_55_code 31 = .ok (.putfield 398, 3) := by decide +kernel
theorem dd_Model_dataRow_34 : decode prog_14_method_55_code 34 = .ok (.return_, 1) := by decide +kernel
theorem dd_Model_isReference_0 : decode prog_14_method_6_code 0 = .ok (.iload_n 0, 1) := by decide +kernel
theorem dd_Model_isReference_1 : decode prog_14_method_6_code 1 = .ok (.bipush 16, 2) := by decide +kernel
theorem dd_Model_isReference_3 : decode prog_14_method_6_code 3 = .ok (.if_icmp .lt 7, 3) := by decide +kernel
theorem dd_Model_isReference_6 : decode prog_14_method_6_code 6 = .ok (.iconst 1, 1) := by decide +kernel
theorem dd_Model_isReference_7 : decode prog_14_method_6_code 7 = .ok (.goto 4, 3) := by decide +kernel
theorem dd_Model_isReference_10 : decode prog_14_method_6_code 10 = .ok (.iconst 0, 1) := by decide +kernel
theorem dd_Model_isReference_11 : decode prog_14_method_6_code 11 = .ok (.ireturn, 1) := by decide +kernel
theorem dd_Model_targetOf_0 : decode prog_14_method_7_code 0 = .ok (.iload_n 0, 1) := by decide +kernel
theorem dd_Model_targetOf_1 : decode prog_14_method_7_code 1 = .ok (.bipush 16, 2) := by decide +kernel
theorem dd_Model_targetOf_3 : decode prog_14_method_7_code 3 = .ok (.isub, 1) := by decide +kernel
theorem dd_Model_targetOf_4 : decode prog_14_method_7_code 4 = .ok (.iconst 2, 1) := by decide +kernel
theorem dd_Model_targetOf_5 : decode prog_14_method_7_code 5 = .ok (.idiv, 1) := by decide +kernel
theorem dd_Model_targetOf_6 : decode prog_14_method_7_code 6 = .ok (.ireturn, 1) := by decide +kernel
theorem dd_Model_isObjectType_0 : decode prog_14_method_38_code 0 = .ok (.iload_n 1, 1) := by decide +kernel
theorem dd_Model_isObjectType_1 : decode prog_14_method_38_code 1 = .ok (.iconst 2, 1) := by decide +kernel
theorem dd_Model_isObjectType_2 : decode prog_14_method_38_code 2 = .ok (.if_icmp .lt 21, 3) := by decide +kernel
theorem dd_Model_isObjectType_5 : decode prog_14_method_38_code 5 = .ok (.iload_n 1, 1) := by decide +kernel
theorem dd_Model_isObjectType_6 : decode prog_14_method_38_code 6 = .ok (.iconst 2, 1) := by decide +kernel
theorem dd_Model_isObjectType_7 : decode prog_14_method_38_code 7 = .ok (.isub, 1) := by decide +kernel
theorem dd_Model_isObjectType_8 : decode prog_14_method_38_code 8 = .ok (.iload_n 2, 1) := by decide +kernel
theorem dd_Model_isObjectType_9 : decode prog_14_method_38_code 9 = .ok (.if_icmp .ge 18, 3) := by decide +kernel
theorem dd_Model_isObjectType_12 : decode prog_14_method_38_code 12 = .ok (.aload_n 0, 1) := by decide +kernel
theorem dd_Model_isObjectType_13 : decode prog_14_method_38_code 13 = .ok (.getfield 27, 3) := by decide +kernel
theorem dd_Model_isObjectType_16 : decode prog_14_method_38_code 16 = .ok (.iload_n 1, 1) := by decide +kernel
theorem dd_Model_isObjectType_17 : decode prog_14_method_38_code 17 = .ok (.iconst 2, 1) := by decide +kernel
theorem dd_Model_isObjectType_18 : decode prog_14_method_38_code 18 = .ok (.isub, 1) := by decide +kernel
theorem dd_Model_isObjectType_19 : decode prog_14_method_38_code 19 = .ok (.iaload, 1) := by decide +kernel
theorem dd_Model_isObjectType_20 : decode prog_14_method_38_code 20 = .ok (.ifCond .eq 7, 3) := by decide +kernel
theorem dd_Model_isObjectType_23 : decode prog_14_method_38_code 23 = .ok (.iconst 1, 1) := by decide +kernel
theorem dd_Model_isObjectType_24 : decode prog_14_method_38_code 24 = .ok (.goto 4, 3) := by decide +kernel
theorem dd_Model_isObjectType_27 : decode prog_14_method_38_code 27 = .ok (.iconst 0, 1) := by decide +kernel
theorem dd_Model_isObjectType_28 : decode prog_14_method_38_code 28 = .ok (.ireturn, 1) := by decide +kernel
theorem dd_Model_isThere_0 : decode prog_14_method_39_code 0 = .ok (.iload_n 1, 1) := by decide +kernel
theorem dd_Model_isThere_1 : decode prog_14_method_39_code 1 = .ok (.invokestatic 384, 3) := by decide +kernel
theorem dd_Model_isThere_4 : decode prog_14_method_39_code 4 = .ok (.ifCond .eq 15, 3) := by decide +kernel
theorem dd_Model_isThere_7 : decode prog_14_method_39_code 7 = .ok (.aload_n 0, 1) := by decide +kernel
theorem dd_Model_isThere_8 : decode prog_14_method_39_code 8 = .ok (.iload_n 1, 1) := by decide +kernel
theorem dd_Model_isThere_9 : decode prog_14_method_39_code 9 = .ok (.invokestatic 387, 3) := by decide +kernel
theorem dd_Model_isThere_12 : decode prog_14_method_39_code 12 = .ok (.iload_n 2, 1) := by decide +kernel
theorem dd_Model_isThere_13 : decode prog_14_method_39_code 13 = .ok (.invokevirtual 390, 3) := by decide +kernel
theorem dd_Model_isThere_16 : decode prog_14_method_39_code 16 = .ok (.ifCond .eq 7, 3) := by decide +kernel
theorem dd_Model_isThere_19 : decode prog_14_method_39_code 19 = .ok (.iconst 1, 1) := by decide +kernel
theorem dd_Model_isThere_20 : decode prog_14_method_39_code 20 = .ok (.goto 4, 3) := by decide +kernel
theorem dd_Model_isThere_23 : decode prog_14_method_39_code 23 = .ok (.iconst 0, 1) := by decide +kernel
theorem dd_Model_isThere_24 : decode prog_14_method_39_code 24 = .ok (.ireturn, 1) := by decide +kernel
theorem dd_Model_localRow_0 : decode prog_14_method_57_code 0 = .ok (.aload_n 0, 1) := by decide +kernel
theorem dd_Model_localRow_1 : decode prog_14_method_57_code 1 = .ok (.getfield 42, 3) := by decide +kernel
theorem dd_Model_localRow_4 : decode prog_14_method_57_code 4 = .ok (.iload_n 1, 1) := by decide +kernel
theorem dd_Model_localRow_5 : decode prog_14_method_57_code 5 = .ok (.iaload, 1) := by decide +kernel
theorem dd_Model_localRow_6 : decode prog_14_method_57_code 6 = .ok (.istore_n 2, 1) := by decide +kernel
theorem dd_Model_localRow_7 : decode prog_14_method_57_code 7 = .ok (.aload_n 0, 1) := by decide +kernel
theorem dd_Model_localRow_8 : decode prog_14_method_57_code 8 = .ok (.getfield 30, 3) := by decide +kernel
theorem dd_Model_localRow_11 : decode prog_14_method_57_code 11 = .ok (.iload_n 2, 1) := by decide +kernel
theorem dd_Model_localRow_12 : decode prog_14_method_57_code 12 = .ok (.iaload, 1) := by decide +kernel
theorem dd_Model_localRow_13 : decode prog_14_method_57_code 13 = .ok (.istore_n 3, 1) := by decide +kernel
theorem dd_Model_localRow_14 : decode prog_14_method_57_code 14 = .ok (.iconst 0, 1) := by decide +kernel
theorem dd_Model_localRow_15 : decode prog_14_method_57_code 15 = .ok (.istore 4, 2) := by decide +kernel
theorem dd_Model_localRow_17 : decode prog_14_method_57_code 17 = .ok (.iload 4, 2) := by decide +kernel
theorem dd_Model_localRow_19 : decode prog_14_method_57_code 19 = .ok (.iload_n 3, 1) := by decide +kernel
theorem dd_Model_localRow_20 : decode prog_14_method_57_code 20 = .ok (.if_icmp .ge 34, 3) := by decide +kernel
theorem dd_Model_localRow_23 : decode prog_14_method_57_code 23 = .ok (.aload_n 0, 1) := by decide +kernel
theorem dd_Model_localRow_24 : decode prog_14_method_57_code 24 = .ok (.getfield 54, 3) := by decide +kernel
theorem dd_Model_localRow_27 : decode prog_14_method_57_code 27 = .ok (.sipush 200, 3) := by decide +kernel
theorem dd_Model_localRow_30 : decode prog_14_method_57_code 30 = .ok (.iload_n 1, 1) := by decide +kernel
theorem dd_Model_localRow_31 : decode prog_14_method_57_code 31 = .ok (.imul, 1) := by decide +kernel
theorem dd_Model_localRow_32 : decode prog_14_method_57_code 32 = .ok (.iload 4, 2) := by decide +kernel
theorem dd_Model_localRow_34 : decode prog_14_method_57_code 34 = .ok (.iadd, 1) := by decide +kernel
theorem dd_Model_localRow_35 : decode prog_14_method_57_code 35 = .ok (.aload_n 0, 1) := by decide +kernel
theorem dd_Model_localRow_36 : decode prog_14_method_57_code 36 = .ok (.getfield 36, 3) := by decide +kernel
theorem dd_Model_localRow_39 : decode prog_14_method_57_code 39 = .ok (.bipush 32, 2) := by decide +kernel
theorem dd_Model_localRow_41 : decode prog_14_method_57_code 41 = .ok (.iload_n 2, 1) := by decide +kernel
theorem dd_Model_localRow_42 : decode prog_14_method_57_code 42 = .ok (.imul, 1) := by decide +kernel
theorem dd_Model_localRow_43 : decode prog_14_method_57_code 43 = .ok (.iload 4, 2) := by decide +kernel
theorem dd_Model_localRow_45 : decode prog_14_method_57_code 45 = .ok (.iadd, 1) := by decide +kernel
theorem dd_Model_localRow_46 : decode prog_14_method_57_code 46 = .ok (.iaload, 1) := by decide +kernel
theorem dd_Model_localRow_47 : decode prog_14_method_57_code 47 = .ok (.iastore, 1) := by decide +kernel
theorem dd_Model_localRow_48 : decode prog_14_method_57_code 48 = .ok (.iinc 4 1, 3) := by decide +kernel
theorem dd_Model_localRow_51 : decode prog_14_method_57_code 51 = .ok (.goto (-34), 3) := by decide +kernel
theorem dd_Model_localRow_54 : decode prog_14_method_57_code 54 = .ok (.aload_n 0, 1) := by decide +kernel
theorem dd_Model_localRow_55 : decode prog_14_method_57_code 55 = .ok (.invokevirtual 295, 3) := by decide +kernel
theorem dd_Model_localRow_58 : decode prog_14_method_57_code 58 = .ok (.lstore 4, 2) := by decide +kernel
theorem dd_Model_localRow_60 : decode prog_14_method_57_code 60 = .ok (.lload 4, 2) := by decide +kernel
theorem dd_Model_localRow_62 : decode prog_14_method_57_code 62 = .ok (.lconst 0, 1) := by decide +kernel
theorem dd_Model_localRow_63 : decode prog_14_method_57_code 63 = .ok (.lcmp, 1) := by decide +kernel
theorem dd_Model_localRow_64 : decode prog_14_method_57_code 64 = .ok (.ifCond .le 139, 3) := by decide +kernel
theorem dd_Model_localRow_67 : decode prog_14_method_57_code 67 = .ok (.aload_n 0, 1) := by decide +kernel
theorem dd_Model_localRow_68 : decode prog_14_method_57_code 68 = .ok (.invokevirtual 295, 3) := by decide +kernel
theorem dd_Model_localRow_71 : decode prog_14_method_57_code 71 = .ok (.lstore 6, 2) := by decide +kernel
theorem dd_Model_localRow_73 : decode prog_14_method_57_code 73 = .ok (.aload_n 0, 1) := by decide +kernel
theorem dd_Model_localRow_74 : decode prog_14_method_57_code 74 = .ok (.invokevirtual 210, 3) := by decide +kernel
theorem dd_Model_localRow_77 : decode prog_14_method_57_code 77 = .ok (.istore 8, 2) := by decide +kernel
theorem dd_Model_localRow_79 : decode prog_14_method_57_code 79 = .ok (.aload_n 0, 1) := by decide +kernel
theorem dd_Model_localRow_80 : decode prog_14_method_57_code 80 = .ok (.aload_n 0, 1) := by decide +kernel
theorem dd_Model_localRow_81 : decode prog_14_method_57_code 81 = .ok (.getfield 398, 3) := by decide +kernel
theorem dd_Model_localRow_84 : decode prog_14_method_57_code 84 = .ok (.ifCond .ne 43, 3) := by decide +kernel
theorem dd_Model_localRow_87 : decode prog_14_method_57_code 87 = .ok (.aload_n 0, 1) := by decide +kernel
theorem dd_Model_localRow_88 : decode prog_14_method_57_code 88 = .ok (.iload 8, 2) := by decide +kernel
theorem dd_Model_localRow_90 : decode prog_14_method_57_code 90 = .ok (.aload_n 0, 1) := by decide +kernel
theorem dd_Model_localRow_91 : decode prog_14_method_57_code 91 = .ok (.getfield 414, 3) := by decide +kernel
theorem dd_Model_localRow_94 : decode prog_14_method_57_code 94 = .ok (.invokevirtual 404, 3) := by decide +kernel
theorem dd_Model_localRow_97 : decode prog_14_method_57_code 97 = .ok (.ifCond .eq 30, 3) := by decide +kernel
theorem dd_Model_localRow_100 : decode prog_14_method_57_code 100 = .ok (.iload 8, 2) := by decide +kernel
theorem dd_Model_localRow_102 : decode prog_14_method_57_code 102 = .ok (.invokestatic 384, 3) := by decide +kernel
theorem dd_Model_localRow_105 : decode prog_14_method_57_code 105 = .ok (.ifCond .eq 10, 3) := by decide +kernel
theorem dd_Model_localRow_108 : decode prog_14_method_57_code 108 = .ok (.iload 8, 2) := by decide +kernel
theorem dd_Model_localRow_110 : decode prog_14_method_57_code 110 = .ok (.iconst 1, 1) := by decide +kernel
theorem dd_Model_localRow_111 : decode prog_14_method_57_code 111 = .ok (.iand, 1) := by decide +kernel
theorem dd_Model_localRow_112 : decode prog_14_method_57_code 112 = .ok (.ifCond .eq 15, 3) := by decide +kernel
theorem dd_Model_localRow_115 : decode prog_14_method_57_code 115 = .ok (.lload 6, 2) := by decide +kernel
theorem dd_Model_localRow_117 : decode prog_14_method_57_code 117 = .ok (.sipush 200, 3) := by decide +kernel
theorem dd_Model_localRow_120 : decode prog_14_method_57_code 120 = .ok (.iload_n 3, 1) := by decide +kernel
theorem dd_Model_localRow_121 : decode prog_14_method_57_code 121 = .ok (.isub, 1) := by decide +kernel
theorem dd_Model_localRow_122 : decode prog_14_method_57_code 122 = .ok (.i2l, 1) := by decide +kernel
theorem dd_Model_localRow_123 : decode prog_14_method_57_code 123 = .ok (.lcmp, 1) := by decide +kernel
theorem dd_Model_localRow_124 : decode prog_14_method_57_code 124 = .ok (.ifCond .le 7, 3) := by decide +kernel
theorem dd_Model_localRow_127 : decode prog_14_method_57_code 127 = .ok (.iconst 1, 1) := by decide +kernel
theorem dd_Model_localRow_128 : decode prog_14_method_57_code 128 = .ok (.goto 4, 3) := by decide +kernel
theorem dd_Model_localRow_131 : decode prog_14_method_57_code 131 = .ok (.iconst 0, 1) := by decide +kernel
theorem dd_Model_localRow_132 : decode prog_14_method_57_code 132 = .ok (.putfield 398, 3) := by decide +kernel
theorem dd_Model_localRow_135 : decode prog_14_method_57_code 135 = .ok (.iconst 0, 1) := by decide +kernel
theorem dd_Model_localRow_136 : decode prog_14_method_57_code 136 = .ok (.istore 9, 2) := by decide +kernel
theorem dd_Model_localRow_138 : decode prog_14_method_57_code 138 = .ok (.iload 9, 2) := by decide +kernel
theorem dd_Model_localRow_140 : decode prog_14_method_57_code 140 = .ok (.i2l, 1) := by decide +kernel
theorem dd_Model_localRow_141 : decode prog_14_method_57_code 141 = .ok (.lload 6, 2) := by decide +kernel
theorem dd_Model_localRow_143 : decode prog_14_method_57_code 143 = .ok (.lcmp, 1) := by decide +kernel
theorem dd_Model_localRow_144 : decode prog_14_method_57_code 144 = .ok (.ifCond .ge 33, 3) := by decide +kernel
theorem dd_Model_localRow_147 : decode prog_14_method_57_code 147 = .ok (.aload_n 0, 1) := by decide +kernel
theorem dd_Model_localRow_148 : decode prog_14_method_57_code 148 = .ok (.getfield 398, 3) := by decide +kernel
theorem dd_Model_localRow_151 : decode prog_14_method_57_code 151 = .ok (.ifCond .ne 26, 3) := by decide +kernel
theorem dd_Model_localRow_154 : decode prog_14_method_57_code 154 = .ok (.aload_n 0, 1) := by decide +kernel
theorem dd_Model_localRow_155 : decode prog_14_method_57_code 155 = .ok (.getfield 54, 3) := by decide +kernel
theorem dd_Model_localRow_158 : decode prog_14_method_57_code 158 = .ok (.sipush 200, 3) := by decide +kernel
theorem dd_Model_localRow_161 : decode prog_14_method_57_code 161 = .ok (.iload_n 1, 1) := by decide +kernel
theorem dd_Model_localRow_162 : decode prog_14_method_57_code 162 = .ok (.imul, 1) := by decide +kernel
theorem dd_Model_localRow_163 : decode prog_14_method_57_code 163 = .ok (.iload_n 3, 1) := by decide +kernel
theorem dd_Model_localRow_164 : decode prog_14_method_57_code 164 = .ok (.iadd, 1) := by decide +kernel
theorem dd_Model_localRow_165 : decode prog_14_method_57_code 165 = .ok (.iload 9, 2) := by decide +kernel
theorem dd_Model_localRow_167 : decode prog_14_method_57_code 167 = .ok (.iadd, 1) := by decide +kernel
theorem dd_Model_localRow_168 : decode prog_14_method_57_code 168 = .ok (.iload 8, 2) := by decide +kernel
theorem dd_Model_localRow_170 : decode prog_14_method_57_code 170 = .ok (.iastore, 1) := by decide +kernel
theorem dd_Model_localRow_171 : decode prog_14_method_57_code 171 = .ok (.iinc 9 1, 3) := by decide +kernel
theorem dd_Model_localRow_174 : decode prog_14_method_57_code 174 = .ok (.goto (-36), 3) := by decide +kernel
theorem dd_Model_localRow_177 : decode prog_14_method_57_code 177 = .ok (.iload_n 3, 1) := by decide +kernel
theorem dd_Model_localRow_178 : decode prog_14_method_57_code 178 = .ok (.aload_n 0, 1) := by decide +kernel
theorem dd_Model_localRow_179 : decode prog_14_method_57_code 179 = .ok (.getfield 398, 3) := by decide +kernel
theorem dd_Model_localRow_182 : decode prog_14_method_57_code 182 = .ok (.ifCond .eq 7, 3) := by decide +kernel
theorem dd_Model_localRow_185 : decode prog_14_method_57_code 185 = .ok (.iconst 0, 1) := by decide +kernel
theorem dd_Model_localRow_186 : decode prog_14_method_57_code 186 = .ok (.goto 6, 3) := by decide +kernel
theorem dd_Model_localRow_189 : decode prog_14_method_57_code 189 = .ok (.lload 6, 2) := by decide +kernel
theorem dd_Model_localRow_191 : decode prog_14_method_57_code 191 = .ok (.l2i, 1) := by decide +kernel
theorem dd_Model_localRow_192 : decode prog_14_method_57_code 192 = .ok (.iadd, 1) := by decide +kernel
theorem dd_Model_localRow_193 : decode prog_14_method_57_code 193 = .ok (.istore_n 3, 1) := by decide +kernel
theorem dd_Model_localRow_194 : decode prog_14_method_57_code 194 = .ok (.lload 4, 2) := by decide +kernel
theorem dd_Model_localRow_196 : decode prog_14_method_57_code 196 = .ok (.lconst 1, 1) := by decide +kernel
theorem dd_Model_localRow_197 : decode prog_14_method_57_code 197 = .ok (.lsub, 1) := by decide +kernel
theorem dd_Model_localRow_198 : decode prog_14_method_57_code 198 = .ok (.lstore 4, 2) := by decide +kernel
theorem dd_Model_localRow_200 : decode prog_14_method_57_code 200 = .ok (.goto (-140), 3) := by decide +kernel
theorem dd_Model_localRow_203 : decode prog_14_method_57_code 203 = .ok (.aload_n 0, 1) := by decide +kernel
theorem dd_Model_localRow_204 : decode prog_14_method_57_code 204 = .ok (.getfield 51, 3) := by decide +kernel
theorem dd_Model_localRow_207 : decode prog_14_method_57_code 207 = .ok (.iload_n 1, 1) := by decide +kernel
theorem dd_Model_localRow_208 : decode prog_14_method_57_code 208 = .ok (.iload_n 3, 1) := by decide +kernel
theorem dd_Model_localRow_209 : decode prog_14_method_57_code 209 = .ok (.iastore, 1) := by decide +kernel
theorem dd_Model_localRow_210 : decode prog_14_method_57_code 210 = .ok (.return_, 1) := by decide +kernel
theorem dd_Model_open_0 : decode prog_14_method_67_code 0 = .ok (.aload_n 0, 1) := by decide +kernel
theorem dd_Model_open_1 : decode prog_14_method_67_code 1 = .ok (.getfield 490, 3) := by decide +kernel
theorem dd_Model_open_4 : decode prog_14_method_67_code 4 = .ok (.bipush 100, 2) := by decide +kernel
theorem dd_Model_open_6 : decode prog_14_method_67_code 6 = .ok (.if_icmp .ne 9, 3) := by decide +kernel
theorem dd_Model_open_9 : decode prog_14_method_67_code 9 = .ok (.aload_n 0, 1) := by decide +kernel
theorem dd_Model_open_10 : decode prog_14_method_67_code 10 = .ok (.iconst 1, 1) := by decide +kernel
theorem dd_Model_open_11 : decode prog_14_method_67_code 11 = .ok (.putfield 398, 3) := by decide +kernel
theorem dd_Model_open_14 : decode prog_14_method_67_code 14 = .ok (.return_, 1) := by decide +kernel
theorem dd_Model_open_15 : decode prog_14_method_67_code 15 = .ok (.aload_n 0, 1) := by decide +kernel
theorem dd_Model_open_16 : decode prog_14_method_67_code 16 = .ok (.getfield 88, 3) := by decide +kernel
theorem dd_Model_open_19 : decode prog_14_method_67_code 19 = .ok (.aload_n 0, 1) := by decide +kernel
theorem dd_Model_open_20 : decode prog_14_method_67_code 20 = .ok (.getfield 490, 3) := by decide +kernel
theorem dd_Model_open_23 : decode prog_14_method_67_code 23 = .ok (.iload_n 1, 1) := by decide +kernel
theorem dd_Model_open_24 : decode prog_14_method_67_code 24 = .ok (.iastore, 1) := by decide +kernel
theorem dd_Model_open_25 : decode prog_14_method_67_code 25 = .ok (.aload_n 0, 1) := by decide +kernel
theorem dd_Model_open_26 : decode prog_14_method_67_code 26 = .ok (.getfield 91, 3) := by decide +kernel
theorem dd_Model_open_29 : decode prog_14_method_67_code 29 = .ok (.aload_n 0, 1) := by decide +kernel
theorem dd_Model_open_30 : decode prog_14_method_67_code 30 = .ok (.getfield 490, 3) := by decide +kernel
theorem dd_Model_open_33 : decode prog_14_method_67_code 33 = .ok (.lload_n 2, 1) := by decide +kernel
theorem dd_Model_open_34 : decode prog_14_method_67_code 34 = .ok (.lastore, 1) := by decide +kernel
theorem dd_Model_open_35 : decode prog_14_method_67_code 35 = .ok (.aload_n 0, 1) := by decide +kernel
theorem dd_Model_open_36 : decode prog_14_method_67_code 36 = .ok (.getfield 85, 3) := by decide +kernel
theorem dd_Model_open_39 : decode prog_14_method_67_code 39 = .ok (.aload_n 0, 1) := by decide +kernel
theorem dd_Model_open_40 : decode prog_14_method_67_code 40 = .ok (.getfield 490, 3) := by decide +kernel
theorem dd_Model_open_43 : decode prog_14_method_67_code 43 = .ok (.aload_n 0, 1) := by decide +kernel
theorem dd_Model_open_44 : decode prog_14_method_67_code 44 = .ok (.getfield 510, 3) := by decide +kernel
theorem dd_Model_open_47 : decode prog_14_method_67_code 47 = .ok (.iastore, 1) := by decide +kernel
theorem dd_Model_open_48 : decode prog_14_method_67_code 48 = .ok (.aload_n 0, 1) := by decide +kernel
theorem dd_Model_open_49 : decode prog_14_method_67_code 49 = .ok (.getfield 94, 3) := by decide +kernel
theorem dd_Model_open_52 : decode prog_14_method_67_code 52 = .ok (.aload_n 0, 1) := by decide +kernel
theorem dd_Model_open_53 : decode prog_14_method_67_code 53 = .ok (.getfield 490, 3) := by decide +kernel
theorem dd_Model_open_56 : decode prog_14_method_67_code 56 = .ok (.aload_n 0, 1) := by decide +kernel
theorem dd_Model_open_57 : decode prog_14_method_67_code 57 = .ok (.getfield 487, 3) := by decide +kernel
theorem dd_Model_open_60 : decode prog_14_method_67_code 60 = .ok (.iastore, 1) := by decide +kernel
theorem dd_Model_open_61 : decode prog_14_method_67_code 61 = .ok (.aload_n 0, 1) := by decide +kernel
theorem dd_Model_open_62 : decode prog_14_method_67_code 62 = .ok (.getfield 97, 3) := by decide +kernel
theorem dd_Model_open_65 : decode prog_14_method_67_code 65 = .ok (.aload_n 0, 1) := by decide +kernel
theorem dd_Model_open_66 : decode prog_14_method_67_code 66 = .ok (.getfield 490, 3) := by decide +kernel
theorem dd_Model_open_69 : decode prog_14_method_67_code 69 = .ok (.iconst 0, 1) := by decide +kernel
theorem dd_Model_open_70 : decode prog_14_method_67_code 70 = .ok (.bastore, 1) := by decide +kernel
theorem dd_Model_open_71 : decode prog_14_method_67_code 71 = .ok (.aload_n 0, 1) := by decide +kernel
theorem dd_Model_open_72 : decode prog_14_method_67_code 72 = .ok (.dup, 1) := by decide +kernel
theorem dd_Model_open_73 : decode prog_14_method_67_code 73 = .ok (.getfield 490, 3) := by decide +kernel
theorem dd_Model_open_76 : decode prog_14_method_67_code 76 = .ok (.iconst 1, 1) := by decide +kernel
theorem dd_Model_open_77 : decode prog_14_method_67_code 77 = .ok (.iadd, 1) := by decide +kernel
theorem dd_Model_open_78 : decode prog_14_method_67_code 78 = .ok (.putfield 490, 3) := by decide +kernel
theorem dd_Model_open_81 : decode prog_14_method_67_code 81 = .ok (.return_, 1) := by decide +kernel
theorem dd_Model_pop_0 : decode prog_14_method_59_code 0 = .ok (.aload_n 0, 1) := by decide +kernel
theorem dd_Model_pop_1 : decode prog_14_method_59_code 1 = .ok (.getfield 487, 3) := by decide +kernel
theorem dd_Model_pop_4 : decode prog_14_method_59_code 4 = .ok (.aload_n 0, 1) := by decide +kernel
theorem dd_Model_pop_5 : decode prog_14_method_59_code 5 = .ok (.getfield 94, 3) := by decide +kernel
theorem dd_Model_pop_8 : decode prog_14_method_59_code 8 = .ok (.aload_n 0, 1) := by decide +kernel
theorem dd_Model_pop_9 : decode prog_14_method_59_code 9 = .ok (.getfield 490, 3) := by decide +kernel
theorem dd_Model_pop_12 : decode prog_14_method_59_code 12 = .ok (.iconst 1, 1) := by decide +kernel
theorem dd_Model_pop_13 : decode prog_14_method_59_code 13 = .ok (.isub, 1) := by decide +kernel
theorem dd_Model_pop_14 : decode prog_14_method_59_code 14 = .ok (.iaload, 1) := by decide +kernel
theorem dd_Model_pop_15 : decode prog_14_method_59_code 15 = .ok (.if_icmp .ne 35, 3) := by decide +kernel
theorem dd_Model_pop_18 : decode prog_14_method_59_code 18 = .ok (.aload_n 0, 1) := by decide +kernel
theorem dd_Model_pop_19 : decode prog_14_method_59_code 19 = .ok (.aload_n 0, 1) := by decide +kernel
theorem dd_Model_pop_20 : decode prog_14_method_59_code 20 = .ok (.getfield 398, 3) := by decide +kernel
theorem dd_Model_pop_23 : decode prog_14_method_59_code 23 = .ok (.ifCond .ne 17, 3) := by decide +kernel
theorem dd_Model_pop_26 : decode prog_14_method_59_code 26 = .ok (.aload_n 0, 1) := by decide +kernel
theorem dd_Model_pop_27 : decode prog_14_method_59_code 27 = .ok (.getfield 97, 3) := by decide +kernel
theorem dd_Model_pop_30 : decode prog_14_method_59_code 30 = .ok (.aload_n 0, 1) := by decide +kernel
theorem dd_Model_pop_31 : decode prog_14_method_59_code 31 = .ok (.getfield 490, 3) := by decide +kernel
theorem dd_Model_pop_34 : decode prog_14_method_59_code 34 = .ok (.iconst 1, 1) := by decide +kernel
theorem dd_Model_pop_35 : decode prog_14_method_59_code 35 = .ok (.isub, 1) := by decide +kernel
theorem dd_Model_pop_36 : decode prog_14_method_59_code 36 = .ok (.baload, 1) := by decide +kernel
theorem dd_Model_pop_37 : decode prog_14_method_59_code 37 = .ok (.ifCond .ne 7, 3) := by decide +kernel
theorem dd_Model_pop_40 : decode prog_14_method_59_code 40 = .ok (.iconst 1, 1) := by decide +kernel
theorem dd_Model_pop_41 : decode prog_14_method_59_code 41 = .ok (.goto 4, 3) := by decide +kernel
theorem dd_Model_pop_44 : decode prog_14_method_59_code 44 = .ok (.iconst 0, 1) := by decide +kernel
theorem dd_Model_pop_45 : decode prog_14_method_59_code 45 = .ok (.putfield 398, 3) := by decide +kernel
theorem dd_Model_pop_48 : decode prog_14_method_59_code 48 = .ok (.iconst 0, 1) := by decide +kernel
theorem dd_Model_pop_49 : decode prog_14_method_59_code 49 = .ok (.ireturn, 1) := by decide +kernel
theorem dd_Model_pop_50 : decode prog_14_method_59_code 50 = .ok (.aload_n 0, 1) := by decide +kernel
theorem dd_Model_pop_51 : decode prog_14_method_59_code 51 = .ok (.dup, 1) := by decide +kernel
theorem dd_Model_pop_52 : decode prog_14_method_59_code 52 = .ok (.getfield 487, 3) := by decide +kernel
theorem dd_Model_pop_55 : decode prog_14_method_59_code 55 = .ok (.iconst 1, 1) := by decide +kernel
theorem dd_Model_pop_56 : decode prog_14_method_59_code 56 = .ok (.isub, 1) := by decide +kernel
theorem dd_Model_pop_57 : decode prog_14_method_59_code 57 = .ok (.putfield 487, 3) := by decide +kernel
theorem dd_Model_pop_60 : decode prog_14_method_59_code 60 = .ok (.aload_n 0, 1) := by decide +kernel
theorem dd_Model_pop_61 : decode prog_14_method_59_code 61 = .ok (.getfield 82, 3) := by decide +kernel
theorem dd_Model_pop_64 : decode prog_14_method_59_code 64 = .ok (.aload_n 0, 1) := by decide +kernel
theorem dd_Model_pop_65 : decode prog_14_method_59_code 65 = .ok (.getfield 487, 3) := by decide +kernel
theorem dd_Model_pop_68 : decode prog_14_method_59_code 68 = .ok (.iaload, 1) := by decide +kernel
theorem dd_Model_pop_69 : decode prog_14_method_59_code 69 = .ok (.ireturn, 1) := by decide +kernel
theorem dd_Model_fits_0 : decode prog_14_method_40_code 0 = .ok (.iload_n 1, 1) := by decide +kernel
theorem dd_Model_fits_1 : decode prog_14_method_40_code 1 = .ok (.ifCond .eq 8, 3) := by decide +kernel
theorem dd_Model_fits_4 : decode prog_14_method_40_code 4 = .ok (.iload_n 1, 1) := by decide +kernel
theorem dd_Model_fits_5 : decode prog_14_method_40_code 5 = .ok (.iload_n 2, 1) := by decide +kernel
theorem dd_Model_fits_6 : decode prog_14_method_40_code 6 = .ok (.if_icmp .ne 5, 3) := by decide +kernel
theorem dd_Model_fits_9 : decode prog_14_method_40_code 9 = .ok (.iconst 1, 1) := by decide +kernel
theorem dd_Model_fits_10 : decode prog_14_method_40_code 10 = .ok (.ireturn, 1) := by decide +kernel
theorem dd_Model_fits_11 : decode prog_14_method_40_code 11 = .ok (.iload_n 1, 1) := by decide +kernel
theorem dd_Model_fits_12 : decode prog_14_method_40_code 12 = .ok (.invokestatic 384, 3) := by decide +kernel
theorem dd_Model_fits_15 : decode prog_14_method_40_code 15 = .ok (.ifCond .eq 19, 3) := by decide +kernel
theorem dd_Model_fits_18 : decode prog_14_method_40_code 18 = .ok (.iload_n 2, 1) := by decide +kernel
theorem dd_Model_fits_19 : decode prog_14_method_40_code 19 = .ok (.invokestatic 384, 3) := by decide +kernel
theorem dd_Model_fits_22 : decode prog_14_method_40_code 22 = .ok (.ifCond .eq 12, 3) := by decide +kernel
theorem dd_Model_fits_25 : decode prog_14_method_40_code 25 = .ok (.iload_n 1, 1) := by decide +kernel
theorem dd_Model_fits_26 : decode prog_14_method_40_code 26 = .ok (.iconst 1, 1) := by decide +kernel
theorem dd_Model_fits_27 : decode prog_14_method_40_code 27 = .ok (.iand, 1) := by decide +kernel
theorem dd_Model_fits_28 : decode prog_14_method_40_code 28 = .ok (.iload_n 2, 1) := by decide +kernel
theorem dd_Model_fits_29 : decode prog_14_method_40_code 29 = .ok (.iconst 1, 1) := by decide +kernel
theorem dd_Model_fits_30 : decode prog_14_method_40_code 30 = .ok (.iand, 1) := by decide +kernel
theorem dd_Model_fits_31 : decode prog_14_method_40_code 31 = .ok (.if_icmp .le 5, 3) := by decide +kernel
theorem dd_Model_fits_34 : decode prog_14_method_40_code 34 = .ok (.iconst 0, 1) := by decide +kernel
theorem dd_Model_fits_35 : decode prog_14_method_40_code 35 = .ok (.ireturn, 1) := by decide +kernel
theorem dd_Model_fits_36 : decode prog_14_method_40_code 36 = .ok (.iload_n 1, 1) := by decide +kernel
theorem dd_Model_fits_37 : decode prog_14_method_40_code 37 = .ok (.invokestatic 387, 3) := by decide +kernel
theorem dd_Model_fits_40 : decode prog_14_method_40_code 40 = .ok (.istore_n 3, 1) := by decide +kernel
theorem dd_Model_fits_41 : decode prog_14_method_40_code 41 = .ok (.iload_n 2, 1) := by decide +kernel
theorem dd_Model_fits_42 : decode prog_14_method_40_code 42 = .ok (.invokestatic 387, 3) := by decide +kernel
theorem dd_Model_fits_45 : decode prog_14_method_40_code 45 = .ok (.istore 4, 2) := by decide +kernel
theorem dd_Model_fits_47 : decode prog_14_method_40_code 47 = .ok (.iload_n 3, 1) := by decide +kernel
theorem dd_Model_fits_48 : decode prog_14_method_40_code 48 = .ok (.sipush 400, 3) := by decide +kernel
theorem dd_Model_fits_51 : decode prog_14_method_40_code 51 = .ok (.if_icmp .eq 45, 3) := by decide +kernel
theorem dd_Model_fits_54 : decode prog_14_method_40_code 54 = .ok (.iload_n 3, 1) := by decide +kernel
theorem dd_Model_fits_55 : decode prog_14_method_40_code 55 = .ok (.iload 4, 2) := by decide +kernel
theorem dd_Model_fits_57 : decode prog_14_method_40_code 57 = .ok (.if_icmp .eq 39, 3) := by decide +kernel
theorem dd_Model_fits_60 : decode prog_14_method_40_code 60 = .ok (.iload 4, 2) := by decide +kernel
theorem dd_Model_fits_62 : decode prog_14_method_40_code 62 = .ok (.ifCond .eq 34, 3) := by decide +kernel
theorem dd_Model_fits_65 : decode prog_14_method_40_code 65 = .ok (.iload_n 3, 1) := by decide +kernel
theorem dd_Model_fits_66 : decode prog_14_method_40_code 66 = .ok (.iconst 2, 1) := by decide +kernel
theorem dd_Model_fits_67 : decode prog_14_method_40_code 67 = .ok (.if_icmp .lt 33, 3) := by decide +kernel
theorem dd_Model_fits_70 : decode prog_14_method_40_code 70 = .ok (.iload 4, 2) := by decide +kernel
theorem dd_Model_fits_72 : decode prog_14_method_40_code 72 = .ok (.iconst 2, 1) := by decide +kernel
theorem dd_Model_fits_73 : decode prog_14_method_40_code 73 = .ok (.if_icmp .lt 27, 3) := by decide +kernel
theorem dd_Model_fits_76 : decode prog_14_method_40_code 76 = .ok (.aload_n 0, 1) := by decide +kernel
theorem dd_Model_fits_77 : decode prog_14_method_40_code 77 = .ok (.getfield 39, 3) := by decide +kernel
theorem dd_Model_fits_80 : decode prog_14_method_40_code 80 = .ok (.iload_n 3, 1) := by decide +kernel
theorem dd_Model_fits_81 : decode prog_14_method_40_code 81 = .ok (.iconst 2, 1) := by decide +kernel
theorem dd_Model_fits_82 : decode prog_14_method_40_code 82 = .ok (.isub, 1) := by decide +kernel
theorem dd_Model_fits_83 : decode prog_14_method_40_code 83 = .ok (.iaload, 1) := by decide +kernel
theorem dd_Model_fits_84 : decode prog_14_method_40_code 84 = .ok (.aload_n 0, 1) := by decide +kernel
theorem dd_Model_fits_85 : decode prog_14_method_40_code 85 = .ok (.getfield 39, 3) := by decide +kernel
theorem dd_Model_fits_88 : decode prog_14_method_40_code 88 = .ok (.iload 4, 2) := by decide +kernel
theorem dd_Model_fits_90 : decode prog_14_method_40_code 90 = .ok (.iconst 2, 1) := by decide +kernel
theorem dd_Model_fits_91 : decode prog_14_method_40_code 91 = .ok (.isub, 1) := by decide +kernel
theorem dd_Model_fits_92 : decode prog_14_method_40_code 92 = .ok (.iaload, 1) := by decide +kernel
theorem dd_Model_fits_93 : decode prog_14_method_40_code 93 = .ok (.if_icmp .ne 7, 3) := by decide +kernel
theorem dd_Model_fits_96 : decode prog_14_method_40_code 96 = .ok (.iconst 1, 1) := by decide +kernel
theorem dd_Model_fits_97 : decode prog_14_method_40_code 97 = .ok (.goto 4, 3) := by decide +kernel
theorem dd_Model_fits_100 : decode prog_14_method_40_code 100 = .ok (.iconst 0, 1) := by decide +kernel
theorem dd_Model_fits_101 : decode prog_14_method_40_code 101 = .ok (.ireturn, 1) := by decide +kernel
theorem dd_Model_take_0 : decode prog_14_method_60_code 0 = .ok (.aload_n 0, 1) := by decide +kernel
theorem dd_Model_take_1 : decode prog_14_method_60_code 1 = .ok (.aload_n 0, 1) := by decide +kernel
theorem dd_Model_take_2 : decode prog_14_method_60_code 2 = .ok (.aload_n 0, 1) := by decide +kernel
theorem dd_Model_take_3 : decode prog_14_method_60_code 3 = .ok (.invokevirtual 493, 3) := by decide +kernel
theorem dd_Model_take_6 : decode prog_14_method_60_code 6 = .ok (.iload_n 1, 1) := by decide +kernel
theorem dd_Model_take_7 : decode prog_14_method_60_code 7 = .ok (.invokevirtual 469, 3) := by decide +kernel
theorem dd_Model_take_10 : decode prog_14_method_60_code 10 = .ok (.ifCond .eq 10, 3) := by decide +kernel
theorem dd_Model_take_13 : decode prog_14_method_60_code 13 = .ok (.aload_n 0, 1) := by decide +kernel
theorem dd_Model_take_14 : decode prog_14_method_60_code 14 = .ok (.getfield 398, 3) := by decide +kernel
theorem dd_Model_take_17 : decode prog_14_method_60_code 17 = .ok (.ifCond .eq 7, 3) := by decide +kernel
theorem dd_Model_take_20 : decode prog_14_method_60_code 20 = .ok (.iconst 1, 1) := by decide +kernel
theorem dd_Model_take_21 : decode prog_14_method_60_code 21 = .ok (.goto 4, 3) := by decide +kernel
theorem dd_Model_take_24 : decode prog_14_method_60_code 24 = .ok (.iconst 0, 1) := by decide +kernel
theorem dd_Model_take_25 : decode prog_14_method_60_code 25 = .ok (.putfield 398, 3) := by decide +kernel
theorem dd_Model_take_28 : decode prog_14_method_60_code 28 = .ok (.return_, 1) := by decide +kernel
theorem dd_Model_push_0 : decode prog_14_method_58_code 0 = .ok (.aload_n 0, 1) := by decide +kernel
theorem dd_Model_push_1 : decode prog_14_method_58_code 1 = .ok (.getfield 487, 3) := by decide +kernel
theorem dd_Model_push_4 : decode prog_14_method_58_code 4 = .ok (.bipush 100, 2) := by decide +kernel
theorem dd_Model_push_6 : decode prog_14_method_58_code 6 = .ok (.if_icmp .ne 9, 3) := by decide +kernel
theorem dd_Model_push_9 : decode prog_14_method_58_code 9 = .ok (.aload_n 0, 1) := by decide +kernel
theorem dd_Model_push_10 : decode prog_14_method_58_code 10 = .ok (.iconst 1, 1) := by decide +kernel
theorem dd_Model_push_11 : decode prog_14_method_58_code 11 = .ok (.putfield 398, 3) := by decide +kernel
theorem dd_Model_push_14 : decode prog_14_method_58_code 14 = .ok (.return_, 1) := by decide +kernel
theorem dd_Model_push_15 : decode prog_14_method_58_code 15 = .ok (.aload_n 0, 1) := by decide +kernel
theorem dd_Model_push_16 : decode prog_14_method_58_code 16 = .ok (.getfield 82, 3) := by decide +kernel
theorem dd_Model_push_19 : decode prog_14_method_58_code 19 = .ok (.aload_n 0, 1) := by decide +kernel
theorem dd_Model_push_20 : decode prog_14_method_58_code 20 = .ok (.getfield 487, 3) := by decide +kernel
theorem dd_Model_push_23 : decode prog_14_method_58_code 23 = .ok (.iload_n 1, 1) := by decide +kernel
theorem dd_Model_push_24 : decode prog_14_method_58_code 24 = .ok (.iastore, 1) := by decide +kernel
theorem dd_Model_push_25 : decode prog_14_method_58_code 25 = .ok (.aload_n 0, 1) := by decide +kernel
theorem dd_Model_push_26 : decode prog_14_method_58_code 26 = .ok (.dup, 1) := by decide +kernel
theorem dd_Model_push_27 : decode prog_14_method_58_code 27 = .ok (.getfield 487, 3) := by decide +kernel
theorem dd_Model_push_30 : decode prog_14_method_58_code 30 = .ok (.iconst 1, 1) := by decide +kernel
theorem dd_Model_push_31 : decode prog_14_method_58_code 31 = .ok (.iadd, 1) := by decide +kernel
theorem dd_Model_push_32 : decode prog_14_method_58_code 32 = .ok (.putfield 487, 3) := by decide +kernel
theorem dd_Model_push_35 : decode prog_14_method_58_code 35 = .ok (.return_, 1) := by decide +kernel
theorem dd_Model_takeReference_0 : decode prog_14_method_61_code 0 = .ok (.aload_n 0, 1) := by decide +kernel
theorem dd_Model_takeReference_1 : decode prog_14_method_61_code 1 = .ok (.invokevirtual 493, 3) := by decide +kernel
theorem dd_Model_takeReference_4 : decode prog_14_method_61_code 4 = .ok (.istore_n 1, 1) := by decide +kernel
theorem dd_Model_takeReference_5 : decode prog_14_method_61_code 5 = .ok (.aload_n 0, 1) := by decide +kernel
theorem dd_Model_takeReference_6 : decode prog_14_method_61_code 6 = .ok (.aload_n 0, 1) := by decide +kernel
theorem dd_Model_takeReference_7 : decode prog_14_method_61_code 7 = .ok (.getfield 398, 3) := by decide +kernel
theorem dd_Model_takeReference_10 : decode prog_14_method_61_code 10 = .ok (.ifCond .ne 14, 3) := by decide +kernel
theorem dd_Model_takeReference_13 : decode prog_14_method_61_code 13 = .ok (.iload_n 1, 1) := by decide +kernel
theorem dd_Model_takeReference_14 : decode prog_14_method_61_code 14 = .ok (.ifCond .eq 14, 3) := by decide +kernel
theorem dd_Model_takeReference_17 : decode prog_14_method_61_code 17 = .ok (.iload_n 1, 1) := by decide +kernel
theorem dd_Model_takeReference_18 : decode prog_14_method_61_code 18 = .ok (.invokestatic 384, 3) := by decide +kernel
theorem dd_Model_takeReference_21 : decode prog_14_method_61_code 21 = .ok (.ifCond .ne 7, 3) := by decide +kernel
theorem dd_Model_takeReference_24 : decode prog_14_method_61_code 24 = .ok (.iconst 1, 1) := by decide +kernel
theorem dd_Model_takeReference_25 : decode prog_14_method_61_code 25 = .ok (.goto 4, 3) := by decide +kernel
theorem dd_Model_takeReference_28 : decode prog_14_method_61_code 28 = .ok (.iconst 0, 1) := by decide +kernel
theorem dd_Model_takeReference_29 : decode prog_14_method_61_code 29 = .ok (.putfield 398, 3) := by decide +kernel
theorem dd_Model_takeReference_32 : decode prog_14_method_61_code 32 = .ok (.iload_n 1, 1) := by decide +kernel
theorem dd_Model_takeReference_33 : decode prog_14_method_61_code 33 = .ok (.ireturn, 1) := by decide +kernel
theorem dd_Model_objectType_0 : decode prog_14_method_92_code 0 = .ok (.aload_n 0, 1) := by decide +kernel
theorem dd_Model_objectType_1 : decode prog_14_method_92_code 1 = .ok (.getfield 273, 3) := by decide +kernel
theorem dd_Model_objectType_4 : decode prog_14_method_92_code 4 = .ok (.aload_n 0, 1) := by decide +kernel
theorem dd_Model_objectType_5 : decode prog_14_method_92_code 5 = .ok (.getfield 414, 3) := by decide +kernel
theorem dd_Model_objectType_8 : decode prog_14_method_92_code 8 = .ok (.i2l, 1) := by decide +kernel
theorem dd_Model_objectType_9 : decode prog_14_method_92_code 9 = .ok (.lcmp, 1) := by decide +kernel
theorem dd_Model_objectType_10 : decode prog_14_method_92_code 10 = .ok (.ifCond .ge 17, 3) := by decide +kernel
theorem dd_Model_objectType_13 : decode prog_14_method_92_code 13 = .ok (.aload_n 0, 1) := by decide +kernel
theorem dd_Model_objectType_14 : decode prog_14_method_92_code 14 = .ok (.getfield 27, 3) := by decide +kernel
theorem dd_Model_objectType_17 : decode prog_14_method_92_code 17 = .ok (.aload_n 0, 1) := by decide +kernel
theorem dd_Model_objectType_18 : decode prog_14_method_92_code 18 = .ok (.getfield 273, 3) := by decide +kernel
theorem dd_Model_objectType_21 : decode prog_14_method_92_code 21 = .ok (.l2i, 1) := by decide +kernel
theorem dd_Model_objectType_22 : decode prog_14_method_92_code 22 = .ok (.iaload, 1) := by decide +kernel
theorem dd_Model_objectType_23 : decode prog_14_method_92_code 23 = .ok (.iload_n 1, 1) := by decide +kernel
theorem dd_Model_objectType_24 : decode prog_14_method_92_code 24 = .ok (.if_icmp .eq 10, 3) := by decide +kernel
theorem dd_Model_objectType_27 : decode prog_14_method_92_code 27 = .ok (.aload_n 0, 1) := by decide +kernel
theorem dd_Model_objectType_28 : decode prog_14_method_92_code 28 = .ok (.iconst 1, 1) := by decide +kernel
theorem dd_Model_objectType_29 : decode prog_14_method_92_code 29 = .ok (.putfield 398, 3) := by decide +kernel
theorem dd_Model_objectType_32 : decode prog_14_method_92_code 32 = .ok (.iconst (-1), 1) := by decide +kernel
theorem dd_Model_objectType_33 : decode prog_14_method_92_code 33 = .ok (.ireturn, 1) := by decide +kernel
theorem dd_Model_objectType_34 : decode prog_14_method_92_code 34 = .ok (.aload_n 0, 1) := by decide +kernel
theorem dd_Model_objectType_35 : decode prog_14_method_92_code 35 = .ok (.getfield 273, 3) := by decide +kernel
theorem dd_Model_objectType_38 : decode prog_14_method_92_code 38 = .ok (.l2i, 1) := by decide +kernel
theorem dd_Model_objectType_39 : decode prog_14_method_92_code 39 = .ok (.ireturn, 1) := by decide +kernel
theorem dd_Model_unpacked_0 : decode prog_14_method_90_code 0 = .ok (.iload_n 0, 1) := by decide +kernel
theorem dd_Model_unpacked_1 : decode prog_14_method_90_code 1 = .ok (.iconst 3, 1) := by decide +kernel
theorem dd_Model_unpacked_2 : decode prog_14_method_90_code 2 = .ok (.if_icmp .eq 8, 3) := by decide +kernel
theorem dd_Model_unpacked_5 : decode prog_14_method_90_code 5 = .ok (.iload_n 0, 1) := by decide +kernel
theorem dd_Model_unpacked_6 : decode prog_14_method_90_code 6 = .ok (.iconst 4, 1) := by decide +kernel
theorem dd_Model_unpacked_7 : decode prog_14_method_90_code 7 = .ok (.if_icmp .ne 7, 3) := by decide +kernel
theorem dd_Model_unpacked_10 : decode prog_14_method_90_code 10 = .ok (.iconst 1, 1) := by decide +kernel
theorem dd_Model_unpacked_11 : decode prog_14_method_90_code 11 = .ok (.goto 4, 3) := by decide +kernel
theorem dd_Model_unpacked_14 : decode prog_14_method_90_code 14 = .ok (.iload_n 0, 1) := by decide +kernel
theorem dd_Model_unpacked_15 : decode prog_14_method_90_code 15 = .ok (.ireturn, 1) := by decide +kernel
theorem dd_Model_checkPart_0 : decode prog_14_method_95_code 0 = .ok (.iload_n 2, 1) := by decide +kernel
theorem dd_Model_checkPart_1 : decode prog_14_method_95_code 1 = .ok (.iconst 3, 1) := by decide +kernel
theorem dd_Model_checkPart_2 : decode prog_14_method_95_code 2 = .ok (.if_icmp .eq 8, 3) := by decide +kernel
theorem dd_Model_checkPart_5 : decode prog_14_method_95_code 5 = .ok (.iload_n 2, 1) := by decide +kernel
theorem dd_Model_checkPart_6 : decode prog_14_method_95_code 6 = .ok (.iconst 4, 1) := by decide +kernel
theorem dd_Model_checkPart_7 : decode prog_14_method_95_code 7 = .ok (.if_icmp .ne 7, 3) := by decide +kernel
theorem dd_Model_checkPart_10 : decode prog_14_method_95_code 10 = .ok (.iconst 1, 1) := by decide +kernel
theorem dd_Model_checkPart_11 : decode prog_14_method_95_code 11 = .ok (.goto 4, 3) := by decide +kernel
theorem dd_Model_checkPart_14 : decode prog_14_method_95_code 14 = .ok (.iconst 0, 1) := by decide +kernel
theorem dd_Model_checkPart_15 : decode prog_14_method_95_code 15 = .ok (.istore 7, 2) := by decide +kernel
theorem dd_Model_checkPart_17 : decode prog_14_method_95_code 17 = .ok (.aload_n 0, 1) := by decide +kernel
theorem dd_Model_checkPart_18 : decode prog_14_method_95_code 18 = .ok (.aload_n 0, 1) := by decide +kernel
theorem dd_Model_checkPart_19 : decode prog_14_method_95_code 19 = .ok (.getfield 398, 3) := by decide +kernel
theorem dd_Model_checkPart_22 : decode prog_14_method_95_code 22 = .ok (.ifCond .ne 30, 3) := by decide +kernel
theorem dd_Model_checkPart_25 : decode prog_14_method_95_code 25 = .ok (.iload_n 3, 1) := by decide +kernel
theorem dd_Model_checkPart_26 : decode prog_14_method_95_code 26 = .ok (.ifCond .eq 11, 3) := by decide +kernel
theorem dd_Model_checkPart_29 : decode prog_14_method_95_code 29 = .ok (.iload 5, 2) := by decide +kernel
theorem dd_Model_checkPart_31 : decode prog_14_method_95_code 31 = .ok (.ifCond .ne 25, 3) := by decide +kernel
theorem dd_Model_checkPart_34 : decode prog_14_method_95_code 34 = .ok (.goto 18, 3) := by decide +kernel
theorem dd_Model_checkPart_37 : decode prog_14_method_95_code 37 = .ok (.iload 7, 2) := by decide +kernel
theorem dd_Model_checkPart_39 : decode prog_14_method_95_code 39 = .ok (.iload 4, 2) := by decide +kernel
theorem dd_Model_checkPart_41 : decode prog_14_method_95_code 41 = .ok (.ifCond .le 7, 3) := by decide +kernel
theorem dd_Model_checkPart_44 : decode prog_14_method_95_code 44 = .ok (.iconst 1, 1) := by decide +kernel
theorem dd_Model_checkPart_45 : decode prog_14_method_95_code 45 = .ok (.goto 4, 3) := by decide +kernel
theorem dd_Model_checkPart_48 : decode prog_14_method_95_code 48 = .ok (.iconst 0, 1) := by decide +kernel
theorem dd_Model_checkPart_49 : decode prog_14_method_95_code 49 = .ok (.if_icmp .eq 7, 3) := by decide +kernel
theorem dd_Model_checkPart_52 : decode prog_14_method_95_code 52 = .ok (.iconst 1, 1) := by decide +kernel
theorem dd_Model_checkPart_53 : decode prog_14_method_95_code 53 = .ok (.goto 4, 3) := by decide +kernel
theorem dd_Model_checkPart_56 : decode prog_14_method_95_code 56 = .ok (.iconst 0, 1) := by decide +kernel
theorem dd_Model_checkPart_57 : decode prog_14_method_95_code 57 = .ok (.putfield 398, 3) := by decide +kernel
theorem dd_Model_checkPart_60 : decode prog_14_method_95_code 60 = .ok (.iload_n 3, 1) := by decide +kernel
theorem dd_Model_checkPart_61 : decode prog_14_method_95_code 61 = .ok (.ifCond .eq 11, 3) := by decide +kernel
theorem dd_Model_checkPart_64 : decode prog_14_method_95_code 64 = .ok (.aload_n 0, 1) := by decide +kernel
theorem dd_Model_checkPart_65 : decode prog_14_method_95_code 65 = .ok (.iload_n 2, 1) := by decide +kernel
theorem dd_Model_checkPart_66 : decode prog_14_method_95_code 66 = .ok (.invokestatic 639, 3) := by decide +kernel
theorem dd_Model_checkPart_69 : decode prog_14_method_95_code 69 = .ok (.invokevirtual 504, 3) := by decide +kernel
theorem dd_Model_checkPart_72 : decode prog_14_method_95_code 72 = .ok (.iload 6, 2) := by decide +kernel
theorem dd_Model_checkPart_74 : decode prog_14_method_95_code 74 = .ok (.ifCond .eq 8, 3) := by decide +kernel
theorem dd_Model_checkPart_77 : decode prog_14_method_95_code 77 = .ok (.aload_n 0, 1) := by decide +kernel
theorem dd_Model_checkPart_78 : decode prog_14_method_95_code 78 = .ok (.iconst 1, 1) := by decide +kernel
theorem dd_Model_checkPart_79 : decode prog_14_method_95_code 79 = .ok (.invokevirtual 504, 3) := by decide +kernel
theorem dd_Model_checkPart_82 : decode prog_14_method_95_code 82 = .ok (.aload_n 0, 1) := by decide +kernel
theorem dd_Model_checkPart_83 : decode prog_14_method_95_code 83 = .ok (.iconst 2, 1) := by decide +kernel
theorem dd_Model_checkPart_84 : decode prog_14_method_95_code 84 = .ok (.iload_n 1, 1) := by decide +kernel
theorem dd_Model_checkPart_85 : decode prog_14_method_95_code 85 = .ok (.iadd, 1) := by decide +kernel
theorem dd_Model_checkPart_86 : decode prog_14_method_95_code 86 = .ok (.iconst 1, 1) := by decide +kernel
theorem dd_Model_checkPart_87 : decode prog_14_method_95_code 87 = .ok (.invokestatic 203, 3) := by decide +kernel
theorem dd_Model_checkPart_90 : decode prog_14_method_95_code 90 = .ok (.invokevirtual 504, 3) := by decide +kernel
theorem dd_Model_checkPart_93 : decode prog_14_method_95_code 93 = .ok (.iload_n 3, 1) := by decide +kernel
theorem dd_Model_checkPart_94 : decode prog_14_method_95_code 94 = .ok (.ifCond .ne 11, 3) := by decide +kernel
theorem dd_Model_checkPart_97 : decode prog_14_method_95_code 97 = .ok (.aload_n 0, 1) := by decide +kernel
theorem dd_Model_checkPart_98 : decode prog_14_method_95_code 98 = .ok (.iload_n 2, 1) := by decide +kernel
theorem dd_Model_checkPart_99 : decode prog_14_method_95_code 99 = .ok (.invokestatic 639, 3) := by decide +kernel
theorem dd_Model_checkPart_102 : decode prog_14_method_95_code 102 = .ok (.invokevirtual 507, 3) := by decide +kernel
theorem dd_Model_checkPart_105 : decode prog_14_method_95_code 105 = .ok (.return_, 1) := by decide +kernel
theorem dd_Model_checkArray_0 : decode prog_14_method_97_code 0 = .ok (.aload_n 0, 1) := by decide +kernel
theorem dd_Model_checkArray_1 : decode prog_14_method_97_code 1 = .ok (.iconst 2, 1) := by decide +kernel
theorem dd_Model_checkArray_2 : decode prog_14_method_97_code 2 = .ok (.invokevirtual 636, 3) := by decide +kernel
theorem dd_Model_checkArray_5 : decode prog_14_method_97_code 5 = .ok (.istore_n 1, 1) := by decide +kernel
theorem dd_Model_checkArray_6 : decode prog_14_method_97_code 6 = .ok (.iload_n 1, 1) := by decide +kernel
theorem dd_Model_checkArray_7 : decode prog_14_method_97_code 7 = .ok (.ifCond .ge 4, 3) := by decide +kernel
theorem dd_Model_checkArray_10 : decode prog_14_method_97_code 10 = .ok (.return_, 1) := by decide +kernel
theorem dd_Model_checkArray_11 : decode prog_14_method_97_code 11 = .ok (.aload_n 0, 1) := by decide +kernel
theorem dd_Model_checkArray_12 : decode prog_14_method_97_code 12 = .ok (.getfield 36, 3) := by decide +kernel
theorem dd_Model_checkArray_15 : decode prog_14_method_97_code 15 = .ok (.bipush 32, 2) := by decide +kernel
theorem dd_Model_checkArray_17 : decode prog_14_method_97_code 17 = .ok (.iload_n 1, 1) := by decide +kernel
theorem dd_Model_checkArray_18 : decode prog_14_method_97_code 18 = .ok (.imul, 1) := by decide +kernel
theorem dd_Model_checkArray_19 : decode prog_14_method_97_code 19 = .ok (.bipush 16, 2) := by decide +kernel
theorem dd_Model_checkArray_21 : decode prog_14_method_97_code 21 = .ok (.iadd, 1) := by decide +kernel
theorem dd_Model_checkArray_22 : decode prog_14_method_97_code 22 = .ok (.iaload, 1) := by decide +kernel
theorem dd_Model_checkArray_23 : decode prog_14_method_97_code 23 = .ok (.iconst 1, 1) := by decide +kernel
theorem dd_Model_checkArray_24 : decode prog_14_method_97_code 24 = .ok (.if_icmp .ne 7, 3) := by decide +kernel
theorem dd_Model_checkArray_27 : decode prog_14_method_97_code 27 = .ok (.iconst 1, 1) := by decide +kernel
theorem dd_Model_checkArray_28 : decode prog_14_method_97_code 28 = .ok (.goto 4, 3) := by decide +kernel
theorem dd_Model_checkArray_31 : decode prog_14_method_97_code 31 = .ok (.iconst 0, 1) := by decide +kernel
theorem dd_Model_checkArray_32 : decode prog_14_method_97_code 32 = .ok (.istore_n 2, 1) := by decide +kernel
theorem dd_Model_checkArray_33 : decode prog_14_method_97_code 33 = .ok (.aload_n 0, 1) := by decide +kernel
theorem dd_Model_checkArray_34 : decode prog_14_method_97_code 34 = .ok (.getfield 270, 3) := by decide +kernel
theorem dd_Model_checkArray_37 : decode prog_14_method_97_code 37 = .ok (.bipush 16, 2) := by decide +kernel
theorem dd_Model_checkArray_39 : decode prog_14_method_97_code 39 = .ok (.if_icmp .ne 61, 3) := by decide +kernel
theorem dd_Model_checkArray_42 : decode prog_14_method_97_code 42 = .ok (.aload_n 0, 1) := by decide +kernel
theorem dd_Model_checkArray_43 : decode prog_14_method_97_code 43 = .ok (.aload_n 0, 1) := by decide +kernel
theorem dd_Model_checkArray_44 : decode prog_14_method_97_code 44 = .ok (.getfield 398, 3) := by decide +kernel
theorem dd_Model_checkArray_47 : decode prog_14_method_97_code 47 = .ok (.ifCond .ne 7, 3) := by decide +kernel
theorem dd_Model_checkArray_50 : decode prog_14_method_97_code 50 = .ok (.iload_n 2, 1) := by decide +kernel
theorem dd_Model_checkArray_51 : decode prog_14_method_97_code 51 = .ok (.ifCond .ne 7, 3) := by decide +kernel
theorem dd_Model_checkArray_54 : decode prog_14_method_97_code 54 = .ok (.iconst 1, 1) := by decide +kernel
theorem dd_Model_checkArray_55 : decode prog_14_method_97_code 55 = .ok (.goto 4, 3) := by decide +kernel
theorem dd_Model_checkArray_58 : decode prog_14_method_97_code 58 = .ok (.iconst 0, 1) := by decide +kernel
theorem dd_Model_checkArray_59 : decode prog_14_method_97_code 59 = .ok (.putfield 398, 3) := by decide +kernel
theorem dd_Model_checkArray_62 : decode prog_14_method_97_code 62 = .ok (.aload_n 0, 1) := by decide +kernel
theorem dd_Model_checkArray_63 : decode prog_14_method_97_code 63 = .ok (.iconst 1, 1) := by decide +kernel
theorem dd_Model_checkArray_64 : decode prog_14_method_97_code 64 = .ok (.invokevirtual 504, 3) := by decide +kernel
theorem dd_Model_checkArray_67 : decode prog_14_method_97_code 67 = .ok (.aload_n 0, 1) := by decide +kernel
theorem dd_Model_checkArray_68 : decode prog_14_method_97_code 68 = .ok (.aload_n 0, 1) := by decide +kernel
theorem dd_Model_checkArray_69 : decode prog_14_method_97_code 69 = .ok (.getfield 36, 3) := by decide +kernel
theorem dd_Model_checkArray_72 : decode prog_14_method_97_code 72 = .ok (.bipush 32, 2) := by decide +kernel
theorem dd_Model_checkArray_74 : decode prog_14_method_97_code 74 = .ok (.iload_n 1, 1) := by decide +kernel
theorem dd_Model_checkArray_75 : decode prog_14_method_97_code 75 = .ok (.imul, 1) := by decide +kernel
theorem dd_Model_checkArray_76 : decode prog_14_method_97_code 76 = .ok (.iaload, 1) := by decide +kernel
theorem dd_Model_checkArray_77 : decode prog_14_method_97_code 77 = .ok (.invokestatic 639, 3) := by decide +kernel
theorem dd_Model_checkArray_80 : decode prog_14_method_97_code 80 = .ok (.invokevirtual 504, 3) := by decide +kernel
theorem dd_Model_checkArray_83 : decode prog_14_method_97_code 83 = .ok (.aload_n 0, 1) := by decide +kernel
theorem dd_Model_checkArray_84 : decode prog_14_method_97_code 84 = .ok (.iconst 1, 1) := by decide +kernel
theorem dd_Model_checkArray_85 : decode prog_14_method_97_code 85 = .ok (.invokevirtual 504, 3) := by decide +kernel
theorem dd_Model_checkArray_88 : decode prog_14_method_97_code 88 = .ok (.aload_n 0, 1) := by decide +kernel
theorem dd_Model_checkArray_89 : decode prog_14_method_97_code 89 = .ok (.iconst 2, 1) := by decide +kernel
theorem dd_Model_checkArray_90 : decode prog_14_method_97_code 90 = .ok (.iload_n 1, 1) := by decide +kernel
theorem dd_Model_checkArray_91 : decode prog_14_method_97_code 91 = .ok (.iadd, 1) := by decide +kernel
theorem dd_Model_checkArray_92 : decode prog_14_method_97_code 92 = .ok (.iconst 1, 1) := by decide +kernel
theorem dd_Model_checkArray_93 : decode prog_14_method_97_code 93 = .ok (.invokestatic 203, 3) := by decide +kernel
theorem dd_Model_checkArray_96 : decode prog_14_method_97_code 96 = .ok (.invokevirtual 504, 3) := by decide +kernel
theorem dd_Model_checkArray_99 : decode prog_14_method_97_code 99 = .ok (.return_, 1) := by decide +kernel
theorem dd_Model_checkArray_100 : decode prog_14_method_97_code 100 = .ok (.aload_n 0, 1) := by decide +kernel
theorem dd_Model_checkArray_101 : decode prog_14_method_97_code 101 = .ok (.iload_n 1, 1) := by decide +kernel
theorem dd_Model_checkArray_102 : decode prog_14_method_97_code 102 = .ok (.aload_n 0, 1) := by decide +kernel
theorem dd_Model_checkArray_103 : decode prog_14_method_97_code 103 = .ok (.getfield 36, 3) := by decide +kernel
theorem dd_Model_checkArray_106 : decode prog_14_method_97_code 106 = .ok (.bipush 32, 2) := by decide +kernel
theorem dd_Model_checkArray_108 : decode prog_14_method_97_code 108 = .ok (.iload_n 1, 1) := by decide +kernel
theorem dd_Model_checkArray_109 : decode prog_14_method_97_code 109 = .ok (.imul, 1) := by decide +kernel
theorem dd_Model_checkArray_110 : decode prog_14_method_97_code 110 = .ok (.iaload, 1) := by decide +kernel
theorem dd_Model_checkArray_111 : decode prog_14_method_97_code 111 = .ok (.aload_n 0, 1) := by decide +kernel
theorem dd_Model_checkArray_112 : decode prog_14_method_97_code 112 = .ok (.getfield 270, 3) := by decide +kernel
theorem dd_Model_checkArray_115 : decode prog_14_method_97_code 115 = .ok (.bipush 14, 2) := by decide +kernel
theorem dd_Model_checkArray_117 : decode prog_14_method_97_code 117 = .ok (.if_icmp .ne 7, 3) := by decide +kernel
theorem dd_Model_checkArray_120 : decode prog_14_method_97_code 120 = .ok (.iconst 1, 1) := by decide +kernel
theorem dd_Model_checkArray_121 : decode prog_14_method_97_code 121 = .ok (.goto 4, 3) := by decide +kernel
theorem dd_Model_checkArray_124 : decode prog_14_method_97_code 124 = .ok (.iconst 0, 1) := by decide +kernel
theorem dd_Model_checkArray_125 : decode prog_14_method_97_code 125 = .ok (.aload_n 0, 1) := by decide +kernel
theorem dd_Model_checkArray_126 : decode prog_14_method_97_code 126 = .ok (.getfield 270, 3) := by decide +kernel
theorem dd_Model_checkArray_129 : decode prog_14_method_97_code 129 = .ok (.bipush 11, 2) := by decide +kernel
theorem dd_Model_checkArray_131 : decode prog_14_method_97_code 131 = .ok (.isub, 1) := by decide +kernel
theorem dd_Model_checkArray_132 : decode prog_14_method_97_code 132 = .ok (.iload_n 2, 1) := by decide +kernel
theorem dd_Model_checkArray_133 : decode prog_14_method_97_code 133 = .ok (.iconst 1, 1) := by decide +kernel
theorem dd_Model_checkArray_134 : decode prog_14_method_97_code 134 = .ok (.invokevirtual 645, 3) := by decide +kernel
theorem dd_Model_checkArray_137 : decode prog_14_method_97_code 137 = .ok (.return_, 1) := by decide +kernel
theorem dd_Model_hasDefault_0 : decode prog_14_method_91_code 0 = .ok (.iload_n 0, 1) := by decide +kernel
theorem dd_Model_hasDefault_1 : decode prog_14_method_91_code 1 = .ok (.invokestatic 384, 3) := by decide +kernel
theorem dd_Model_hasDefault_4 : decode prog_14_method_91_code 4 = .ok (.ifCond .eq 10, 3) := by decide +kernel
theorem dd_Model_hasDefault_7 : decode prog_14_method_91_code 7 = .ok (.iload_n 0, 1) := by decide +kernel
theorem dd_Model_hasDefault_8 : decode prog_14_method_91_code 8 = .ok (.iconst 1, 1) := by decide +kernel
theorem dd_Model_hasDefault_9 : decode prog_14_method_91_code 9 = .ok (.iand, 1) := by decide +kernel
theorem dd_Model_hasDefault_10 : decode prog_14_method_91_code 10 = .ok (.iconst 1, 1) := by decide +kernel
theorem dd_Model_hasDefault_11 : decode prog_14_method_91_code 11 = .ok (.if_icmp .ne 7, 3) := by decide +kernel
theorem dd_Model_hasDefault_14 : decode prog_14_method_91_code 14 = .ok (.iconst 1, 1) := by decide +kernel
theorem dd_Model_hasDefault_15 : decode prog_14_method_91_code 15 = .ok (.goto 4, 3) := by decide +kernel
theorem dd_Model_hasDefault_18 : decode prog_14_method_91_code 18 = .ok (.iconst 0, 1) := by decide +kernel
theorem dd_Model_hasDefault_19 : decode prog_14_method_91_code 19 = .ok (.ireturn, 1) := by decide +kernel
theorem dd_Model_checkNewArray_0 : decode prog_14_method_96_code 0 = .ok (.aload_n 0, 1) := by decide +kernel
theorem dd_Model_checkNewArray_1 : decode prog_14_method_96_code 1 = .ok (.iconst 2, 1) := by decide +kernel
theorem dd_Model_checkNewArray_2 : decode prog_14_method_96_code 2 = .ok (.invokevirtual 636, 3) := by decide +kernel
theorem dd_Model_checkNewArray_5 : decode prog_14_method_96_code 5 = .ok (.istore_n 1, 1) := by decide +kernel
theorem dd_Model_checkNewArray_6 : decode prog_14_method_96_code 6 = .ok (.iload_n 1, 1) := by decide +kernel
theorem dd_Model_checkNewArray_7 : decode prog_14_method_96_code 7 = .ok (.ifCond .ge 4, 3) := by decide +kernel
theorem dd_Model_checkNewArray_10 : decode prog_14_method_96_code 10 = .ok (.return_, 1) := by decide +kernel
theorem dd_Model_checkNewArray_11 : decode prog_14_method_96_code 11 = .ok (.aload_n 0, 1) := by decide +kernel
theorem dd_Model_checkNewArray_12 : decode prog_14_method_96_code 12 = .ok (.getfield 36, 3) := by decide +kernel
theorem dd_Model_checkNewArray_15 : decode prog_14_method_96_code 15 = .ok (.bipush 32, 2) := by decide +kernel
theorem dd_Model_checkNewArray_17 : decode prog_14_method_96_code 17 = .ok (.iload_n 1, 1) := by decide +kernel
theorem dd_Model_checkNewArray_18 : decode prog_14_method_96_code 18 = .ok (.imul, 1) := by decide +kernel
theorem dd_Model_checkNewArray_19 : decode prog_14_method_96_code 19 = .ok (.iaload, 1) := by decide +kernel
theorem dd_Model_checkNewArray_20 : decode prog_14_method_96_code 20 = .ok (.istore_n 2, 1) := by decide +kernel
theorem dd_Model_checkNewArray_21 : decode prog_14_method_96_code 21 = .ok (.aload_n 0, 1) := by decide +kernel
theorem dd_Model_checkNewArray_22 : decode prog_14_method_96_code 22 = .ok (.getfield 270, 3) := by decide +kernel
theorem dd_Model_checkNewArray_25 : decode prog_14_method_96_code 25 = .ok (.bipush 8, 2) := by decide +kernel
theorem dd_Model_checkNewArray_27 : decode prog_14_method_96_code 27 = .ok (.if_icmp .ne 66, 3) := by decide +kernel
theorem dd_Model_checkNewArray_30 : decode prog_14_method_96_code 30 = .ok (.aload_n 0, 1) := by decide +kernel
theorem dd_Model_checkNewArray_31 : decode prog_14_method_96_code 31 = .ok (.aload_n 0, 1) := by decide +kernel
theorem dd_Model_checkNewArray_32 : decode prog_14_method_96_code 32 = .ok (.getfield 398, 3) := by decide +kernel
theorem dd_Model_checkNewArray_35 : decode prog_14_method_96_code 35 = .ok (.ifCond .ne 14, 3) := by decide +kernel
theorem dd_Model_checkNewArray_38 : decode prog_14_method_96_code 38 = .ok (.aload_n 0, 1) := by decide +kernel
theorem dd_Model_checkNewArray_39 : decode prog_14_method_96_code 39 = .ok (.getfield 277, 3) := by decide +kernel
theorem dd_Model_checkNewArray_42 : decode prog_14_method_96_code 42 = .ok (.ldc2_w 197, 3) := by decide +kernel
theorem dd_Model_checkNewArray_45 : decode prog_14_method_96_code 45 = .ok (.lcmp, 1) := by decide +kernel
theorem dd_Model_checkNewArray_46 : decode prog_14_method_96_code 46 = .ok (.ifCond .le 7, 3) := by decide +kernel
theorem dd_Model_checkNewArray_49 : decode prog_14_method_96_code 49 = .ok (.iconst 1, 1) := by decide +kernel
theorem dd_Model_checkNewArray_50 : decode prog_14_method_96_code 50 = .ok (.goto 4, 3) := by decide +kernel
theorem dd_Model_checkNewArray_53 : decode prog_14_method_96_code 53 = .ok (.iconst 0, 1) := by decide +kernel
theorem dd_Model_checkNewArray_54 : decode prog_14_method_96_code 54 = .ok (.putfield 398, 3) := by decide +kernel
theorem dd_Model_checkNewArray_57 : decode prog_14_method_96_code 57 = .ok (.lconst 0, 1) := by decide +kernel
theorem dd_Model_checkNewArray_58 : decode prog_14_method_96_code 58 = .ok (.lstore_n 3, 1) := by decide +kernel
theorem dd_Model_checkNewArray_59 : decode prog_14_method_96_code 59 = .ok (.lload_n 3, 1) := by decide +kernel
theorem dd_Model_checkNewArray_60 : decode prog_14_method_96_code 60 = .ok (.aload_n 0, 1) := by decide +kernel
theorem dd_Model_checkNewArray_61 : decode prog_14_method_96_code 61 = .ok (.getfield 277, 3) := by decide +kernel
theorem dd_Model_checkNewArray_64 : decode prog_14_method_96_code 64 = .ok (.lcmp, 1) := by decide +kernel
theorem dd_Model_checkNewArray_65 : decode prog_14_method_96_code 65 = .ok (.ifCond .ge 25, 3) := by decide +kernel
theorem dd_Model_checkNewArray_68 : decode prog_14_method_96_code 68 = .ok (.aload_n 0, 1) := by decide +kernel
theorem dd_Model_checkNewArray_69 : decode prog_14_method_96_code 69 = .ok (.getfield 398, 3) := by decide +kernel
theorem dd_Model_checkNewArray_72 : decode prog_14_method_96_code 72 = .ok (.ifCond .ne 18, 3) := by decide +kernel
theorem dd_Model_checkNewArray_75 : decode prog_14_method_96_code 75 = .ok (.aload_n 0, 1) := by decide +kernel
theorem dd_Model_checkNewArray_76 : decode prog_14_method_96_code 76 = .ok (.iload_n 2, 1) := by decide +kernel
theorem dd_Model_checkNewArray_77 : decode prog_14_method_96_code 77 = .ok (.invokestatic 639, 3) := by decide +kernel
theorem dd_Model_checkNewArray_80 : decode prog_14_method_96_code 80 = .ok (.invokevirtual 504, 3) := by decide +kernel
theorem dd_Model_checkNewArray_83 : decode prog_14_method_96_code 83 = .ok (.lload_n 3, 1) := by decide +kernel
theorem dd_Model_checkNewArray_84 : decode prog_14_method_96_code 84 = .ok (.lconst 1, 1) := by decide +kernel
theorem dd_Model_checkNewArray_85 : decode prog_14_method_96_code 85 = .ok (.ladd, 1) := by decide +kernel
theorem dd_Model_checkNewArray_86 : decode prog_14_method_96_code 86 = .ok (.lstore_n 3, 1) := by decide +kernel
theorem dd_Model_checkNewArray_87 : decode prog_14_method_96_code 87 = .ok (.goto (-28), 3) := by decide +kernel
theorem dd_Model_checkNewArray_90 : decode prog_14_method_96_code 90 = .ok (.goto 51, 3) := by decide +kernel
theorem dd_Model_checkNewArray_93 : decode prog_14_method_96_code 93 = .ok (.aload_n 0, 1) := by decide +kernel
theorem dd_Model_checkNewArray_94 : decode prog_14_method_96_code 94 = .ok (.iconst 1, 1) := by decide +kernel
theorem dd_Model_checkNewArray_95 : decode prog_14_method_96_code 95 = .ok (.invokevirtual 504, 3) := by decide +kernel
theorem dd_Model_checkNewArray_98 : decode prog_14_method_96_code 98 = .ok (.aload_n 0, 1) := by decide +kernel
theorem dd_Model_checkNewArray_99 : decode prog_14_method_96_code 99 = .ok (.getfield 270, 3) := by decide +kernel
theorem dd_Model_checkNewArray_102 : decode prog_14_method_96_code 102 = .ok (.bipush 6, 2) := by decide +kernel
theorem dd_Model_checkNewArray_104 : decode prog_14_method_96_code 104 = .ok (.if_icmp .ne 14, 3) := by decide +kernel
theorem dd_Model_checkNewArray_107 : decode prog_14_method_96_code 107 = .ok (.aload_n 0, 1) := by decide +kernel
theorem dd_Model_checkNewArray_108 : decode prog_14_method_96_code 108 = .ok (.iload_n 2, 1) := by decide +kernel
theorem dd_Model_checkNewArray_109 : decode prog_14_method_96_code 109 = .ok (.invokestatic 639, 3) := by decide +kernel
theorem dd_Model_checkNewArray_112 : decode prog_14_method_96_code 112 = .ok (.invokevirtual 504, 3) := by decide +kernel
theorem dd_Model_checkNewArray_115 : decode prog_14_method_96_code 115 = .ok (.goto 26, 3) := by decide +kernel
theorem dd_Model_checkNewArray_118 : decode prog_14_method_96_code 118 = .ok (.aload_n 0, 1) := by decide +kernel
theorem dd_Model_checkNewArray_119 : decode prog_14_method_96_code 119 = .ok (.aload_n 0, 1) := by decide +kernel
theorem dd_Model_checkNewArray_120 : decode prog_14_method_96_code 120 = .ok (.getfield 398, 3) := by decide +kernel
theorem dd_Model_checkNewArray_123 : decode prog_14_method_96_code 123 = .ok (.ifCond .ne 10, 3) := by decide +kernel
theorem dd_Model_checkNewArray_126 : decode prog_14_method_96_code 126 = .ok (.iload_n 2, 1) := by decide +kernel
theorem dd_Model_checkNewArray_127 : decode prog_14_method_96_code 127 = .ok (.invokestatic 642, 3) := by decide +kernel
theorem dd_Model_checkNewArray_130 : decode prog_14_method_96_code 130 = .ok (.ifCond .ne 7, 3) := by decide +kernel
theorem dd_Model_checkNewArray_133 : decode prog_14_method_96_code 133 = .ok (.iconst 1, 1) := by decide +kernel
theorem dd_Model_checkNewArray_134 : decode prog_14_method_96_code 134 = .ok (.goto 4, 3) := by decide +kernel
theorem dd_Model_checkNewArray_137 : decode prog_14_method_96_code 137 = .ok (.iconst 0, 1) := by decide +kernel
theorem dd_Model_checkNewArray_138 : decode prog_14_method_96_code 138 = .ok (.putfield 398, 3) := by decide +kernel
theorem dd_Model_checkNewArray_141 : decode prog_14_method_96_code 141 = .ok (.aload_n 0, 1) := by decide +kernel
theorem dd_Model_checkNewArray_142 : decode prog_14_method_96_code 142 = .ok (.iconst 2, 1) := by decide +kernel
theorem dd_Model_checkNewArray_143 : decode prog_14_method_96_code 143 = .ok (.iload_n 1, 1) := by decide +kernel
theorem dd_Model_checkNewArray_144 : decode prog_14_method_96_code 144 = .ok (.iadd, 1) := by decide +kernel
theorem dd_Model_checkNewArray_145 : decode prog_14_method_96_code 145 = .ok (.iconst 0, 1) := by decide +kernel
theorem dd_Model_checkNewArray_146 : decode prog_14_method_96_code 146 = .ok (.invokestatic 203, 3) := by decide +kernel
theorem dd_Model_checkNewArray_149 : decode prog_14_method_96_code 149 = .ok (.invokevirtual 507, 3) := by decide +kernel
theorem dd_Model_checkNewArray_152 : decode prog_14_method_96_code 152 = .ok (.return_, 1) := by decide +kernel
