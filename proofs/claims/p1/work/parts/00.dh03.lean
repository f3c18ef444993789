theorem dd_Numbers_holds_0 : decode prog_7_method_2_code 0 = .ok (.iload_n 0, 1) := by decide +kernel
theorem dd_Numbers_holds_1 : decode prog_7_method_2_code 1 = .ok (.tableswitch 167 0 8 #[51, 65, 79, 93, 101, 115, 123, 137, 153], 51) := by decide +kernel
theorem dd_Numbers_holds_52 : decode prog_7_method_2_code 52 = .ok (.lload_n 1, 1) := by decide +kernel
theorem dd_Numbers_holds_53 : decode prog_7_method_2_code 53 = .ok (.lload_n 3, 1) := by decide +kernel
theorem dd_Numbers_holds_54 : decode prog_7_method_2_code 54 = .ok (.lcmp, 1) := by decide +kernel
theorem dd_Numbers_holds_55 : decode prog_7_method_2_code 55 = .ok (.ifCond .ne 7, 3) := by decide +kernel
theorem dd_Numbers_holds_58 : decode prog_7_method_2_code 58 = .ok (.iconst 1, 1) := by decide +kernel
theorem dd_Numbers_holds_59 : decode prog_7_method_2_code 59 = .ok (.goto 122, 3) := by decide +kernel
theorem dd_Numbers_holds_62 : decode prog_7_method_2_code 62 = .ok (.iconst 0, 1) := by decide +kernel
theorem dd_Numbers_holds_63 : decode prog_7_method_2_code 63 = .ok (.goto 118, 3) := by decide +kernel
theorem dd_Numbers_holds_66 : decode prog_7_method_2_code 66 = .ok (.lload_n 1, 1) := by decide +kernel
theorem dd_Numbers_holds_67 : decode prog_7_method_2_code 67 = .ok (.lload_n 3, 1) := by decide +kernel
theorem dd_Numbers_holds_68 : decode prog_7_method_2_code 68 = .ok (.lcmp, 1) := by decide +kernel
theorem dd_Numbers_holds_69 : decode prog_7_method_2_code 69 = .ok (.ifCond .eq 7, 3) := by decide +kernel
theorem dd_Numbers_holds_72 : decode prog_7_method_2_code 72 = .ok (.iconst 1, 1) := by decide +kernel
theorem dd_Numbers_holds_73 : decode prog_7_method_2_code 73 = .ok (.goto 108, 3) := by decide +kernel
theorem dd_Numbers_holds_76 : decode prog_7_method_2_code 76 = .ok (.iconst 0, 1) := by decide +kernel
theorem dd_Numbers_holds_77 : decode prog_7_method_2_code 77 = .ok (.goto 104, 3) := by decide +kernel
theorem dd_Numbers_holds_80 : decode prog_7_method_2_code 80 = .ok (.lload_n 1, 1) := by decide +kernel
theorem dd_Numbers_holds_81 : decode prog_7_method_2_code 81 = .ok (.lload_n 3, 1) := by decide +kernel
theorem dd_Numbers_holds_82 : decode prog_7_method_2_code 82 = .ok (.lcmp, 1) := by decide +kernel
theorem dd_Numbers_holds_83 : decode prog_7_method_2_code 83 = .ok (.ifCond .ge 7, 3) := by decide +kernel
theorem dd_Numbers_holds_86 : decode prog_7_method_2_code 86 = .ok (.iconst 1, 1) := by decide +kernel
theorem dd_Numbers_holds_87 : decode prog_7_method_2_code 87 = .ok (.goto 94, 3) := by decide +kernel
theorem dd_Numbers_holds_90 : decode prog_7_method_2_code 90 = .ok (.iconst 0, 1) := by decide +kernel
theorem dd_Numbers_holds_91 : decode prog_7_method_2_code 91 = .ok (.goto 90, 3) := by decide +kernel
theorem dd_Numbers_holds_94 : decode prog_7_method_2_code 94 = .ok (.lload_n 1, 1) := by decide +kernel
theorem dd_Numbers_holds_95 : decode prog_7_method_2_code 95 = .ok (.lload_n 3, 1) := by decide +kernel
theorem dd_Numbers_holds_96 : decode prog_7_method_2_code 96 = .ok (.invokestatic 9, 3) := by decide +kernel
theorem dd_Numbers_holds_99 : decode prog_7_method_2_code 99 = .ok (.goto 82, 3) := by decide +kernel
theorem dd_Numbers_holds_102 : decode prog_7_method_2_code 102 = .ok (.lload_n 1, 1) := by decide +kernel
theorem dd_Numbers_holds_103 : decode prog_7_method_2_code 103 = .ok (.lload_n 3, 1) := by decide +kernel
theorem dd_Numbers_holds_104 : decode prog_7_method_2_code 104 = .ok (.lcmp, 1) := by decide +kernel
theorem dd_Numbers_holds_105 : decode prog_7_method_2_code 105 = .ok (.ifCond .le 7, 3) := by decide +kernel
theorem dd_Numbers_holds_108 : decode prog_7_method_2_code 108 = .ok (.iconst 1, 1) := by decide +kernel
theorem dd_Numbers_holds_109 : decode prog_7_method_2_code 109 = .ok (.goto 72, 3) := by decide +kernel
theorem dd_Numbers_holds_112 : decode prog_7_method_2_code 112 = .ok (.iconst 0, 1) := by decide +kernel
theorem dd_Numbers_holds_113 : decode prog_7_method_2_code 113 = .ok (.goto 68, 3) := by decide +kernel
theorem dd_Numbers_holds_116 : decode prog_7_method_2_code 116 = .ok (.lload_n 3, 1) := by decide +kernel
theorem dd_Numbers_holds_117 : decode prog_7_method_2_code 117 = .ok (.lload_n 1, 1) := by decide +kernel
theorem dd_Numbers_holds_118 : decode prog_7_method_2_code 118 = .ok (.invokestatic 9, 3) := by decide +kernel
theorem dd_Numbers_holds_121 : decode prog_7_method_2_code 121 = .ok (.goto 60, 3) := by decide +kernel
theorem dd_Numbers_holds_124 : decode prog_7_method_2_code 124 = .ok (.lload_n 1, 1) := by decide +kernel
theorem dd_Numbers_holds_125 : decode prog_7_method_2_code 125 = .ok (.lload_n 3, 1) := by decide +kernel
theorem dd_Numbers_holds_126 : decode prog_7_method_2_code 126 = .ok (.lcmp, 1) := by decide +kernel
theorem dd_Numbers_holds_127 : decode prog_7_method_2_code 127 = .ok (.ifCond .gt 7, 3) := by decide +kernel
theorem dd_Numbers_holds_130 : decode prog_7_method_2_code 130 = .ok (.iconst 1, 1) := by decide +kernel
theorem dd_Numbers_holds_131 : decode prog_7_method_2_code 131 = .ok (.goto 50, 3) := by decide +kernel
theorem dd_Numbers_holds_134 : decode prog_7_method_2_code 134 = .ok (.iconst 0, 1) := by decide +kernel
theorem dd_Numbers_holds_135 : decode prog_7_method_2_code 135 = .ok (.goto 46, 3) := by decide +kernel
theorem dd_Numbers_holds_138 : decode prog_7_method_2_code 138 = .ok (.lload_n 3, 1) := by decide +kernel
theorem dd_Numbers_holds_139 : decode prog_7_method_2_code 139 = .ok (.lload_n 1, 1) := by decide +kernel
theorem dd_Numbers_holds_140 : decode prog_7_method_2_code 140 = .ok (.invokestatic 9, 3) := by decide +kernel
theorem dd_Numbers_holds_143 : decode prog_7_method_2_code 143 = .ok (.ifCond .ne 7, 3) := by decide +kernel
theorem dd_Numbers_holds_146 : decode prog_7_method_2_code 146 = .ok (.iconst 1, 1) := by decide +kernel
theorem dd_Numbers_holds_147 : decode prog_7_method_2_code 147 = .ok (.goto 34, 3) := by decide +kernel
theorem dd_Numbers_holds_150 : decode prog_7_method_2_code 150 = .ok (.iconst 0, 1) := by decide +kernel
theorem dd_Numbers_holds_151 : decode prog_7_method_2_code 151 = .ok (.goto 30, 3) := by decide +kernel
theorem dd_Numbers_holds_154 : decode prog_7_method_2_code 154 = .ok (.lload_n 1, 1) := by decide +kernel
theorem dd_Numbers_holds_155 : decode prog_7_method_2_code 155 = .ok (.lload_n 3, 1) := by decide +kernel
theorem dd_Numbers_holds_156 : decode prog_7_method_2_code 156 = .ok (.lcmp, 1) := by decide +kernel
theorem dd_Numbers_holds_157 : decode prog_7_method_2_code 157 = .ok (.ifCond .lt 7, 3) := by decide +kernel
theorem dd_Numbers_holds_160 : decode prog_7_method_2_code 160 = .ok (.iconst 1, 1) := by decide +kernel
theorem dd_Numbers_holds_161 : decode prog_7_method_2_code 161 = .ok (.goto 20, 3) := by decide +kernel
theorem dd_Numbers_holds_164 : decode prog_7_method_2_code 164 = .ok (.iconst 0, 1) := by decide +kernel
theorem dd_Numbers_holds_165 : decode prog_7_method_2_code 165 = .ok (.goto 16, 3) := by decide +kernel
theorem dd_Numbers_holds_168 : decode prog_7_method_2_code 168 = .ok (.lload_n 1, 1) := by decide +kernel
theorem dd_Numbers_holds_169 : decode prog_7_method_2_code 169 = .ok (.lload_n 3, 1) := by decide +kernel
theorem dd_Numbers_holds_170 : decode prog_7_method_2_code 170 = .ok (.invokestatic 9, 3) := by decide +kernel
theorem dd_Numbers_holds_173 : decode prog_7_method_2_code 173 = .ok (.ifCond .ne 7, 3) := by decide +kernel
theorem dd_Numbers_holds_176 : decode prog_7_method_2_code 176 = .ok (.iconst 1, 1) := by decide +kernel
theorem dd_Numbers_holds_177 : decode prog_7_method_2_code 177 = .ok (.goto 4, 3) := by decide +kernel
theorem dd_Numbers_holds_180 : decode prog_7_method_2_code 180 = .ok (.iconst 0, 1) := by decide +kernel
theorem dd_Numbers_holds_181 : decode prog_7_method_2_code 181 = .ok (.ireturn, 1) := by decide +kernel
theorem dd_Machine_doNumeric_0 : decode prog_5_method_16_code 0 = .ok (.iload_n 1, 1) := by decide +kernel
theorem dd_Machine_doNumeric_1 : decode prog_5_method_16_code 1 = .ok (.bipush 69, 2) := by decide +kernel
theorem dd_Machine_doNumeric_3 : decode prog_5_method_16_code 3 = .ok (.if_icmp .eq 9, 3) := by decide +kernel
theorem dd_Machine_doNumeric_6 : decode prog_5_method_16_code 6 = .ok (.iload_n 1, 1) := by decide +kernel
theorem dd_Machine_doNumeric_7 : decode prog_5_method_16_code 7 = .ok (.bipush 80, 2) := by decide +kernel
theorem dd_Machine_doNumeric_9 : decode prog_5_method_16_code 9 = .ok (.if_icmp .ne 30, 3) := by decide +kernel
theorem dd_Machine_doNumeric_12 : decode prog_5_method_16_code 12 = .ok (.aload_n 0, 1) := by decide +kernel
theorem dd_Machine_doNumeric_13 : decode prog_5_method_16_code 13 = .ok (.getfield 14, 3) := by decide +kernel
theorem dd_Machine_doNumeric_16 : decode prog_5_method_16_code 16 = .ok (.aload_n 0, 1) := by decide +kernel
theorem dd_Machine_doNumeric_17 : decode prog_5_method_16_code 17 = .ok (.getfield 14, 3) := by decide +kernel
theorem dd_Machine_doNumeric_20 : decode prog_5_method_16_code 20 = .ok (.invokevirtual 245, 3) := by decide +kernel
theorem dd_Machine_doNumeric_23 : decode prog_5_method_16_code 23 = .ok (.lconst 0, 1) := by decide +kernel
theorem dd_Machine_doNumeric_24 : decode prog_5_method_16_code 24 = .ok (.lcmp, 1) := by decide +kernel
theorem dd_Machine_doNumeric_25 : decode prog_5_method_16_code 25 = .ok (.ifCond .ne 7, 3) := by decide +kernel
theorem dd_Machine_doNumeric_28 : decode prog_5_method_16_code 28 = .ok (.iconst 1, 1) := by decide +kernel
theorem dd_Machine_doNumeric_29 : decode prog_5_method_16_code 29 = .ok (.goto 4, 3) := by decide +kernel
theorem dd_Machine_doNumeric_32 : decode prog_5_method_16_code 32 = .ok (.iconst 0, 1) := by decide +kernel
theorem dd_Machine_doNumeric_33 : decode prog_5_method_16_code 33 = .ok (.invokevirtual 301, 3) := by decide +kernel
theorem dd_Machine_doNumeric_36 : decode prog_5_method_16_code 36 = .ok (.goto 152, 3) := by decide +kernel
theorem dd_Machine_doNumeric_39 : decode prog_5_method_16_code 39 = .ok (.iload_n 1, 1) := by decide +kernel
theorem dd_Machine_doNumeric_40 : decode prog_5_method_16_code 40 = .ok (.bipush 90, 2) := by decide +kernel
theorem dd_Machine_doNumeric_42 : decode prog_5_method_16_code 42 = .ok (.if_icmp .gt 49, 3) := by decide +kernel
theorem dd_Machine_doNumeric_45 : decode prog_5_method_16_code 45 = .ok (.aload_n 0, 1) := by decide +kernel
theorem dd_Machine_doNumeric_46 : decode prog_5_method_16_code 46 = .ok (.getfield 14, 3) := by decide +kernel
theorem dd_Machine_doNumeric_49 : decode prog_5_method_16_code 49 = .ok (.invokevirtual 245, 3) := by decide +kernel
theorem dd_Machine_doNumeric_52 : decode prog_5_method_16_code 52 = .ok (.lstore_n 2, 1) := by decide +kernel
theorem dd_Machine_doNumeric_53 : decode prog_5_method_16_code 53 = .ok (.aload_n 0, 1) := by decide +kernel
theorem dd_Machine_doNumeric_54 : decode prog_5_method_16_code 54 = .ok (.getfield 14, 3) := by decide +kernel
theorem dd_Machine_doNumeric_57 : decode prog_5_method_16_code 57 = .ok (.iload_n 1, 1) := by decide +kernel
theorem dd_Machine_doNumeric_58 : decode prog_5_method_16_code 58 = .ok (.bipush 80, 2) := by decide +kernel
theorem dd_Machine_doNumeric_60 : decode prog_5_method_16_code 60 = .ok (.if_icmp .ge 10, 3) := by decide +kernel
theorem dd_Machine_doNumeric_63 : decode prog_5_method_16_code 63 = .ok (.iload_n 1, 1) := by decide +kernel
theorem dd_Machine_doNumeric_64 : decode prog_5_method_16_code 64 = .ok (.bipush 70, 2) := by decide +kernel
theorem dd_Machine_doNumeric_66 : decode prog_5_method_16_code 66 = .ok (.isub, 1) := by decide +kernel
theorem dd_Machine_doNumeric_67 : decode prog_5_method_16_code 67 = .ok (.goto 7, 3) := by decide +kernel
theorem dd_Machine_doNumeric_70 : decode prog_5_method_16_code 70 = .ok (.iload_n 1, 1) := by decide +kernel
theorem dd_Machine_doNumeric_71 : decode prog_5_method_16_code 71 = .ok (.bipush 81, 2) := by decide +kernel
theorem dd_Machine_doNumeric_73 : decode prog_5_method_16_code 73 = .ok (.isub, 1) := by decide +kernel
theorem dd_Machine_doNumeric_74 : decode prog_5_method_16_code 74 = .ok (.aload_n 0, 1) := by decide +kernel
theorem dd_Machine_doNumeric_75 : decode prog_5_method_16_code 75 = .ok (.getfield 14, 3) := by decide +kernel
theorem dd_Machine_doNumeric_78 : decode prog_5_method_16_code 78 = .ok (.invokevirtual 245, 3) := by decide +kernel
theorem dd_Machine_doNumeric_81 : decode prog_5_method_16_code 81 = .ok (.lload_n 2, 1) := by decide +kernel
theorem dd_Machine_doNumeric_82 : decode prog_5_method_16_code 82 = .ok (.invokestatic 305, 3) := by decide +kernel
theorem dd_Machine_doNumeric_85 : decode prog_5_method_16_code 85 = .ok (.invokevirtual 301, 3) := by decide +kernel
theorem dd_Machine_doNumeric_88 : decode prog_5_method_16_code 88 = .ok (.goto 100, 3) := by decide +kernel
theorem dd_Machine_doNumeric_91 : decode prog_5_method_16_code 91 = .ok (.iload_n 1, 1) := by decide +kernel
theorem dd_Machine_doNumeric_92 : decode prog_5_method_16_code 92 = .ok (.bipush 105, 2) := by decide +kernel
theorem dd_Machine_doNumeric_94 : decode prog_5_method_16_code 94 = .ok (.if_icmp .gt 26, 3) := by decide +kernel
theorem dd_Machine_doNumeric_97 : decode prog_5_method_16_code 97 = .ok (.aload_n 0, 1) := by decide +kernel
theorem dd_Machine_doNumeric_98 : decode prog_5_method_16_code 98 = .ok (.getfield 14, 3) := by decide +kernel
theorem dd_Machine_doNumeric_101 : decode prog_5_method_16_code 101 = .ok (.iload_n 1, 1) := by decide +kernel
theorem dd_Machine_doNumeric_102 : decode prog_5_method_16_code 102 = .ok (.aload_n 0, 1) := by decide +kernel
theorem dd_Machine_doNumeric_103 : decode prog_5_method_16_code 103 = .ok (.getfield 14, 3) := by decide +kernel
theorem dd_Machine_doNumeric_106 : decode prog_5_method_16_code 106 = .ok (.invokevirtual 245, 3) := by decide +kernel
theorem dd_Machine_doNumeric_109 : decode prog_5_method_16_code 109 = .ok (.l2i, 1) := by decide +kernel
theorem dd_Machine_doNumeric_110 : decode prog_5_method_16_code 110 = .ok (.invokestatic 308, 3) := by decide +kernel
theorem dd_Machine_doNumeric_113 : decode prog_5_method_16_code 113 = .ok (.i2l, 1) := by decide +kernel
theorem dd_Machine_doNumeric_114 : decode prog_5_method_16_code 114 = .ok (.invokevirtual 99, 3) := by decide +kernel
theorem dd_Machine_doNumeric_117 : decode prog_5_method_16_code 117 = .ok (.goto 71, 3) := by decide +kernel
theorem dd_Machine_doNumeric_120 : decode prog_5_method_16_code 120 = .ok (.iload_n 1, 1) := by decide +kernel
theorem dd_Machine_doNumeric_121 : decode prog_5_method_16_code 121 = .ok (.bipush 120, 2) := by decide +kernel
theorem dd_Machine_doNumeric_123 : decode prog_5_method_16_code 123 = .ok (.if_icmp .gt 14, 3) := by decide +kernel
theorem dd_Machine_doNumeric_126 : decode prog_5_method_16_code 126 = .ok (.aload_n 0, 1) := by decide +kernel
theorem dd_Machine_doNumeric_127 : decode prog_5_method_16_code 127 = .ok (.iload_n 1, 1) := by decide +kernel
theorem dd_Machine_doNumeric_128 : decode prog_5_method_16_code 128 = .ok (.bipush 106, 2) := by decide +kernel
theorem dd_Machine_doNumeric_130 : decode prog_5_method_16_code 130 = .ok (.isub, 1) := by decide +kernel
theorem dd_Machine_doNumeric_131 : decode prog_5_method_16_code 131 = .ok (.invokevirtual 312, 3) := by decide +kernel
theorem dd_Machine_doNumeric_134 : decode prog_5_method_16_code 134 = .ok (.goto 54, 3) := by decide +kernel
theorem dd_Machine_doNumeric_137 : decode prog_5_method_16_code 137 = .ok (.iload_n 1, 1) := by decide +kernel
theorem dd_Machine_doNumeric_138 : decode prog_5_method_16_code 138 = .ok (.bipush 123, 2) := by decide +kernel
theorem dd_Machine_doNumeric_140 : decode prog_5_method_16_code 140 = .ok (.if_icmp .gt 25, 3) := by decide +kernel
theorem dd_Machine_doNumeric_143 : decode prog_5_method_16_code 143 = .ok (.aload_n 0, 1) := by decide +kernel
theorem dd_Machine_doNumeric_144 : decode prog_5_method_16_code 144 = .ok (.getfield 14, 3) := by decide +kernel
theorem dd_Machine_doNumeric_147 : decode prog_5_method_16_code 147 = .ok (.iload_n 1, 1) := by decide +kernel
theorem dd_Machine_doNumeric_148 : decode prog_5_method_16_code 148 = .ok (.aload_n 0, 1) := by decide +kernel
theorem dd_Machine_doNumeric_149 : decode prog_5_method_16_code 149 = .ok (.getfield 14, 3) := by decide +kernel
theorem dd_Machine_doNumeric_152 : decode prog_5_method_16_code 152 = .ok (.invokevirtual 245, 3) := by decide +kernel
theorem dd_Machine_doNumeric_155 : decode prog_5_method_16_code 155 = .ok (.invokestatic 315, 3) := by decide +kernel
theorem dd_Machine_doNumeric_158 : decode prog_5_method_16_code 158 = .ok (.i2l, 1) := by decide +kernel
theorem dd_Machine_doNumeric_159 : decode prog_5_method_16_code 159 = .ok (.invokevirtual 99, 3) := by decide +kernel
theorem dd_Machine_doNumeric_162 : decode prog_5_method_16_code 162 = .ok (.goto 26, 3) := by decide +kernel
theorem dd_Machine_doNumeric_165 : decode prog_5_method_16_code 165 = .ok (.iload_n 1, 1) := by decide +kernel
theorem dd_Machine_doNumeric_166 : decode prog_5_method_16_code 166 = .ok (.sipush 138, 3) := by decide +kernel
theorem dd_Machine_doNumeric_169 : decode prog_5_method_16_code 169 = .ok (.if_icmp .gt 14, 3) := by decide +kernel
theorem dd_Machine_doNumeric_172 : decode prog_5_method_16_code 172 = .ok (.aload_n 0, 1) := by decide +kernel
theorem dd_Machine_doNumeric_173 : decode prog_5_method_16_code 173 = .ok (.iload_n 1, 1) := by decide +kernel
theorem dd_Machine_doNumeric_174 : decode prog_5_method_16_code 174 = .ok (.bipush 124, 2) := by decide +kernel
theorem dd_Machine_doNumeric_176 : decode prog_5_method_16_code 176 = .ok (.isub, 1) := by decide +kernel
theorem dd_Machine_doNumeric_177 : decode prog_5_method_16_code 177 = .ok (.invokevirtual 319, 3) := by decide +kernel
theorem dd_Machine_doNumeric_180 : decode prog_5_method_16_code 180 = .ok (.goto 8, 3) := by decide +kernel
theorem dd_Machine_doNumeric_183 : decode prog_5_method_16_code 183 = .ok (.aload_n 0, 1) := by decide +kernel
theorem dd_Machine_doNumeric_184 : decode prog_5_method_16_code 184 = .ok (.iload_n 1, 1) := by decide +kernel
theorem dd_Machine_doNumeric_185 : decode prog_5_method_16_code 185 = .ok (.invokevirtual 322, 3) := by decide +kernel
theorem dd_Machine_doNumeric_188 : decode prog_5_method_16_code 188 = .ok (.return_, 1) := by decide +kernel
theorem dd_Memory_width_0 : decode prog_6_method_2_code 0 = .ok (.getstatic 16, 3) := by decide +kernel
theorem dd_Memory_width_3 : decode prog_6_method_2_code 3 = .ok (.iload_n 0, 1) := by decide +kernel
theorem dd_Memory_width_4 : decode prog_6_method_2_code 4 = .ok (.bipush 40, 2) := by decide +kernel
theorem dd_Memory_width_6 : decode prog_6_method_2_code 6 = .ok (.isub, 1) := by decide +kernel
theorem dd_Memory_width_7 : decode prog_6_method_2_code 7 = .ok (.iaload, 1) := by decide +kernel
theorem dd_Memory_width_8 : decode prog_6_method_2_code 8 = .ok (.ireturn, 1) := by decide +kernel
theorem dd_Memory_holds_0 : decode prog_6_method_6_code 0 = .ok (.lload_n 1, 1) := by decide +kernel
theorem dd_Memory_holds_1 : decode prog_6_method_6_code 1 = .ok (.lload_n 3, 1) := by decide +kernel
theorem dd_Memory_holds_2 : decode prog_6_method_6_code 2 = .ok (.ladd, 1) := by decide +kernel
theorem dd_Memory_holds_3 : decode prog_6_method_6_code 3 = .ok (.ldc2_w 39, 3) := by decide +kernel
theorem dd_Memory_holds_6 : decode prog_6_method_6_code 6 = .ok (.aload_n 0, 1) := by decide +kernel
theorem dd_Memory_holds_7 : decode prog_6_method_6_code 7 = .ok (.getfield 20, 3) := by decide +kernel
theorem dd_Memory_holds_10 : decode prog_6_method_6_code 10 = .ok (.i2l, 1) := by decide +kernel
theorem dd_Memory_holds_11 : decode prog_6_method_6_code 11 = .ok (.lmul, 1) := by decide +kernel
theorem dd_Memory_holds_12 : decode prog_6_method_6_code 12 = .ok (.lcmp, 1) := by decide +kernel
theorem dd_Memory_holds_13 : decode prog_6_method_6_code 13 = .ok (.ifCond .gt 7, 3) := by decide +kernel
theorem dd_Memory_holds_16 : decode prog_6_method_6_code 16 = .ok (.iconst 1, 1) := by decide +kernel
theorem dd_Memory_holds_17 : decode prog_6_method_6_code 17 = .ok (.goto 4, 3) := by decide +kernel
theorem dd_Memory_holds_20 : decode prog_6_method_6_code 20 = .ok (.iconst 0, 1) := by decide +kernel
theorem dd_Memory_holds_21 : decode prog_6_method_6_code 21 = .ok (.ireturn, 1) := by decide +kernel
theorem dd_Memory_taken_0 : decode prog_6_method_7_code 0 = .ok (.lconst 0, 1) := by decide +kernel
theorem dd_Memory_taken_1 : decode prog_6_method_7_code 1 = .ok (.lstore_n 3, 1) := by decide +kernel
theorem dd_Memory_taken_2 : decode prog_6_method_7_code 2 = .ok (.iconst 0, 1) := by decide +kernel
theorem dd_Memory_taken_3 : decode prog_6_method_7_code 3 = .ok (.istore 5, 2) := by decide +kernel
theorem dd_Memory_taken_5 : decode prog_6_method_7_code 5 = .ok (.iload 5, 2) := by decide +kernel
theorem dd_Memory_taken_7 : decode prog_6_method_7_code 7 = .ok (.iload_n 2, 1) := by decide +kernel
theorem dd_Memory_taken_8 : decode prog_6_method_7_code 8 = .ok (.if_icmp .ge 32, 3) := by decide +kernel
theorem dd_Memory_taken_11 : decode prog_6_method_7_code 11 = .ok (.lload_n 3, 1) := by decide +kernel
theorem dd_Memory_taken_12 : decode prog_6_method_7_code 12 = .ok (.aload_n 0, 1) := by decide +kernel
theorem dd_Memory_taken_13 : decode prog_6_method_7_code 13 = .ok (.getfield 10, 3) := by decide +kernel
theorem dd_Memory_taken_16 : decode prog_6_method_7_code 16 = .ok (.iload_n 1, 1) := by decide +kernel
theorem dd_Memory_taken_17 : decode prog_6_method_7_code 17 = .ok (.iload 5, 2) := by decide +kernel
theorem dd_Memory_taken_19 : decode prog_6_method_7_code 19 = .ok (.iadd, 1) := by decide +kernel
theorem dd_Memory_taken_20 : decode prog_6_method_7_code 20 = .ok (.baload, 1) := by decide +kernel
theorem dd_Memory_taken_21 : decode prog_6_method_7_code 21 = .ok (.i2l, 1) := by decide +kernel
theorem dd_Memory_taken_22 : decode prog_6_method_7_code 22 = .ok (.ldc2_w 41, 3) := by decide +kernel
theorem dd_Memory_taken_25 : decode prog_6_method_7_code 25 = .ok (.land, 1) := by decide +kernel
theorem dd_Memory_taken_26 : decode prog_6_method_7_code 26 = .ok (.bipush 8, 2) := by decide +kernel
theorem dd_Memory_taken_28 : decode prog_6_method_7_code 28 = .ok (.iload 5, 2) := by decide +kernel
theorem dd_Memory_taken_30 : decode prog_6_method_7_code 30 = .ok (.imul, 1) := by decide +kernel
theorem dd_Memory_taken_31 : decode prog_6_method_7_code 31 = .ok (.lshl, 1) := by decide +kernel
theorem dd_Memory_taken_32 : decode prog_6_method_7_code 32 = .ok (.lor, 1) := by decide +kernel
theorem dd_Memory_taken_33 : decode prog_6_method_7_code 33 = .ok (.lstore_n 3, 1) := by decide +kernel
theorem dd_Memory_taken_34 : decode prog_6_method_7_code 34 = .ok (.iinc 5 1, 3) := by decide +kernel
theorem dd_Memory_taken_37 : decode prog_6_method_7_code 37 = .ok (.goto (-32), 3) := by decide +kernel
theorem dd_Memory_taken_40 : decode prog_6_method_7_code 40 = .ok (.lload_n 3, 1) := by decide +kernel
theorem dd_Memory_taken_41 : decode prog_6_method_7_code 41 = .ok (.lreturn, 1) := by decide +kernel
theorem dd_Memory_put_0 : decode prog_6_method_8_code 0 = .ok (.iconst 0, 1) := by decide +kernel
theorem dd_Memory_put_1 : decode prog_6_method_8_code 1 = .ok (.istore 5, 2) := by decide +kernel
theorem dd_Memory_put_3 : decode prog_6_method_8_code 3 = .ok (.iload 5, 2) := by decide +kernel
theorem dd_Memory_put_5 : decode prog_6_method_8_code 5 = .ok (.iload_n 2, 1) := by decide +kernel
theorem dd_Memory_put_6 : decode prog_6_method_8_code 6 = .ok (.if_icmp .ge 27, 3) := by decide +kernel
theorem dd_Memory_put_9 : decode prog_6_method_8_code 9 = .ok (.aload_n 0, 1) := by decide +kernel
theorem dd_Memory_put_10 : decode prog_6_method_8_code 10 = .ok (.getfield 10, 3) := by decide +kernel
theorem dd_Memory_put_13 : decode prog_6_method_8_code 13 = .ok (.iload_n 1, 1) := by decide +kernel
theorem dd_Memory_put_14 : decode prog_6_method_8_code 14 = .ok (.iload 5, 2) := by decide +kernel
theorem dd_Memory_put_16 : decode prog_6_method_8_code 16 = .ok (.iadd, 1) := by decide +kernel
theorem dd_Memory_put_17 : decode prog_6_method_8_code 17 = .ok (.lload_n 3, 1) := by decide +kernel
theorem dd_Memory_put_18 : decode prog_6_method_8_code 18 = .ok (.bipush 8, 2) := by decide +kernel
theorem dd_Memory_put_20 : decode prog_6_method_8_code 20 = .ok (.iload 5, 2) := by decide +kernel
theorem dd_Memory_put_22 : decode prog_6_method_8_code 22 = .ok (.imul, 1) := by decide +kernel
theorem dd_Memory_put_23 : decode prog_6_method_8_code 23 = .ok (.lushr, 1) := by decide +kernel
theorem dd_Memory_put_24 : decode prog_6_method_8_code 24 = .ok (.l2i, 1) := by decide +kernel
theorem dd_Memory_put_25 : decode prog_6_method_8_code 25 = .ok (.i2b, 1) := by decide +kernel
theorem dd_Memory_put_26 : decode prog_6_method_8_code 26 = .ok (.bastore, 1) := by decide +kernel
theorem dd_Memory_put_27 : decode prog_6_method_8_code 27 = .ok (.iinc 5 1, 3) := by decide +kernel
theorem dd_Memory_put_30 : decode prog_6_method_8_code 30 = .ok (.goto (-27), 3) := by decide +kernel
theorem dd_Memory_put_33 : decode prog_6_method_8_code 33 = .ok (.return_, 1) := by decide +kernel
theorem dd_Memory_grow_0 : decode prog_6_method_10_code 0 = .ok (.aload_n 0, 1) := by decide +kernel
theorem dd_Memory_grow_1 : decode prog_6_method_10_code 1 = .ok (.getfield 20, 3) := by decide +kernel
theorem dd_Memory_grow_4 : decode prog_6_method_10_code 4 = .ok (.i2l, 1) := by decide +kernel
theorem dd_Memory_grow_5 : decode prog_6_method_10_code 5 = .ok (.lload_n 1, 1) := by decide +kernel
theorem dd_Memory_grow_6 : decode prog_6_method_10_code 6 = .ok (.ladd, 1) := by decide +kernel
theorem dd_Memory_grow_7 : decode prog_6_method_10_code 7 = .ok (.aload_n 0, 1) := by decide +kernel
theorem dd_Memory_grow_8 : decode prog_6_method_10_code 8 = .ok (.getfield 30, 3) := by decide +kernel
theorem dd_Memory_grow_11 : decode prog_6_method_10_code 11 = .ok (.i2l, 1) := by decide +kernel
theorem dd_Memory_grow_12 : decode prog_6_method_10_code 12 = .ok (.lcmp, 1) := by decide +kernel
theorem dd_Memory_grow_13 : decode prog_6_method_10_code 13 = .ok (.ifCond .le 5, 3) := by decide +kernel
theorem dd_Memory_grow_16 : decode prog_6_method_10_code 16 = .ok (.iconst (-1), 1) := by decide +kernel
theorem dd_Memory_grow_17 : decode prog_6_method_10_code 17 = .ok (.ireturn, 1) := by decide +kernel
theorem dd_Memory_grow_18 : decode prog_6_method_10_code 18 = .ok (.aload_n 0, 1) := by decide +kernel
theorem dd_Memory_grow_19 : decode prog_6_method_10_code 19 = .ok (.getfield 20, 3) := by decide +kernel
theorem dd_Memory_grow_22 : decode prog_6_method_10_code 22 = .ok (.istore_n 3, 1) := by decide +kernel
theorem dd_Memory_grow_23 : decode prog_6_method_10_code 23 = .ok (.aload_n 0, 1) := by decide +kernel
theorem dd_Memory_grow_24 : decode prog_6_method_10_code 24 = .ok (.dup, 1) := by decide +kernel
theorem dd_Memory_grow_25 : decode prog_6_method_10_code 25 = .ok (.getfield 20, 3) := by decide +kernel
theorem dd_Memory_grow_28 : decode prog_6_method_10_code 28 = .ok (.lload_n 1, 1) := by decide +kernel
theorem dd_Memory_grow_29 : decode prog_6_method_10_code 29 = .ok (.l2i, 1) := by decide +kernel
theorem dd_Memory_grow_30 : decode prog_6_method_10_code 30 = .ok (.iadd, 1) := by decide +kernel
theorem dd_Memory_grow_31 : decode prog_6_method_10_code 31 = .ok (.putfield 20, 3) := by decide +kernel
theorem dd_Memory_grow_34 : decode prog_6_method_10_code 34 = .ok (.iload_n 3, 1) := by decide +kernel
theorem dd_Memory_grow_35 : decode prog_6_method_10_code 35 = .ok (.ireturn, 1) := by decide +kernel
theorem dd_Machine_doMemory_0 : decode prog_5_method_15_code 0 = .ok (.iload_n 1, 1) := by decide +kernel
theorem dd_Machine_doMemory_1 : decode prog_5_method_15_code 1 = .ok (.bipush 63, 2) := by decide +kernel
theorem dd_Machine_doMemory_3 : decode prog_5_method_15_code 3 = .ok (.if_icmp .ne 19, 3) := by decide +kernel
theorem dd_Machine_doMemory_6 : decode prog_5_method_15_code 6 = .ok (.aload_n 0, 1) := by decide +kernel
theorem dd_Machine_doMemory_7 : decode prog_5_method_15_code 7 = .ok (.getfield 14, 3) := by decide +kernel
theorem dd_Machine_doMemory_10 : decode prog_5_method_15_code 10 = .ok (.aload_n 0, 1) := by decide +kernel
theorem dd_Machine_doMemory_11 : decode prog_5_method_15_code 11 = .ok (.getfield 33, 3) := by decide +kernel
theorem dd_Machine_doMemory_14 : decode prog_5_method_15_code 14 = .ok (.getfield 277, 3) := by decide +kernel
theorem dd_Machine_doMemory_17 : decode prog_5_method_15_code 17 = .ok (.i2l, 1) := by decide +kernel
theorem dd_Machine_doMemory_18 : decode prog_5_method_15_code 18 = .ok (.invokevirtual 99, 3) := by decide +kernel
theorem dd_Machine_doMemory_21 : decode prog_5_method_15_code 21 = .ok (.return_, 1) := by decide +kernel
theorem dd_Machine_doMemory_22 : decode prog_5_method_15_code 22 = .ok (.iload_n 1, 1) := by decide +kernel
theorem dd_Machine_doMemory_23 : decode prog_5_method_15_code 23 = .ok (.bipush 64, 2) := by decide +kernel
theorem dd_Machine_doMemory_25 : decode prog_5_method_15_code 25 = .ok (.if_icmp .ne 30, 3) := by decide +kernel
theorem dd_Machine_doMemory_28 : decode prog_5_method_15_code 28 = .ok (.aload_n 0, 1) := by decide +kernel
theorem dd_Machine_doMemory_29 : decode prog_5_method_15_code 29 = .ok (.getfield 14, 3) := by decide +kernel
theorem dd_Machine_doMemory_32 : decode prog_5_method_15_code 32 = .ok (.aload_n 0, 1) := by decide +kernel
theorem dd_Machine_doMemory_33 : decode prog_5_method_15_code 33 = .ok (.getfield 33, 3) := by decide +kernel
theorem dd_Machine_doMemory_36 : decode prog_5_method_15_code 36 = .ok (.aload_n 0, 1) := by decide +kernel
theorem dd_Machine_doMemory_37 : decode prog_5_method_15_code 37 = .ok (.getfield 14, 3) := by decide +kernel
theorem dd_Machine_doMemory_40 : decode prog_5_method_15_code 40 = .ok (.invokevirtual 245, 3) := by decide +kernel
theorem dd_Machine_doMemory_43 : decode prog_5_method_15_code 43 = .ok (.ldc2_w 255, 3) := by decide +kernel
theorem dd_Machine_doMemory_46 : decode prog_5_method_15_code 46 = .ok (.land, 1) := by decide +kernel
theorem dd_Machine_doMemory_47 : decode prog_5_method_15_code 47 = .ok (.invokevirtual 280, 3) := by decide +kernel
theorem dd_Machine_doMemory_50 : decode prog_5_method_15_code 50 = .ok (.i2l, 1) := by decide +kernel
theorem dd_Machine_doMemory_51 : decode prog_5_method_15_code 51 = .ok (.invokevirtual 99, 3) := by decide +kernel
theorem dd_Machine_doMemory_54 : decode prog_5_method_15_code 54 = .ok (.return_, 1) := by decide +kernel
theorem dd_Machine_doMemory_55 : decode prog_5_method_15_code 55 = .ok (.iload_n 1, 1) := by decide +kernel
theorem dd_Machine_doMemory_56 : decode prog_5_method_15_code 56 = .ok (.bipush 54, 2) := by decide +kernel
theorem dd_Machine_doMemory_58 : decode prog_5_method_15_code 58 = .ok (.if_icmp .lt 7, 3) := by decide +kernel
theorem dd_Machine_doMemory_61 : decode prog_5_method_15_code 61 = .ok (.iconst 1, 1) := by decide +kernel
theorem dd_Machine_doMemory_62 : decode prog_5_method_15_code 62 = .ok (.goto 4, 3) := by decide +kernel
theorem dd_Machine_doMemory_65 : decode prog_5_method_15_code 65 = .ok (.iconst 0, 1) := by decide +kernel
theorem dd_Machine_doMemory_66 : decode prog_5_method_15_code 66 = .ok (.istore 4, 2) := by decide +kernel
theorem dd_Machine_doMemory_68 : decode prog_5_method_15_code 68 = .ok (.iload_n 1, 1) := by decide +kernel
theorem dd_Machine_doMemory_69 : decode prog_5_method_15_code 69 = .ok (.invokestatic 284, 3) := by decide +kernel
theorem dd_Machine_doMemory_72 : decode prog_5_method_15_code 72 = .ok (.istore 5, 2) := by decide +kernel
theorem dd_Machine_doMemory_74 : decode prog_5_method_15_code 74 = .ok (.iload 4, 2) := by decide +kernel
theorem dd_Machine_doMemory_76 : decode prog_5_method_15_code 76 = .ok (.ifCond .eq 13, 3) := by decide +kernel
theorem dd_Machine_doMemory_79 : decode prog_5_method_15_code 79 = .ok (.aload_n 0, 1) := by decide +kernel
theorem dd_Machine_doMemory_80 : decode prog_5_method_15_code 80 = .ok (.getfield 14, 3) := by decide +kernel
theorem dd_Machine_doMemory_83 : decode prog_5_method_15_code 83 = .ok (.invokevirtual 245, 3) := by decide +kernel
theorem dd_Machine_doMemory_86 : decode prog_5_method_15_code 86 = .ok (.goto 4, 3) := by decide +kernel
theorem dd_Machine_doMemory_89 : decode prog_5_method_15_code 89 = .ok (.lconst 0, 1) := by decide +kernel
theorem dd_Machine_doMemory_90 : decode prog_5_method_15_code 90 = .ok (.lstore 6, 2) := by decide +kernel
theorem dd_Machine_doMemory_92 : decode prog_5_method_15_code 92 = .ok (.aload_n 0, 1) := by decide +kernel
theorem dd_Machine_doMemory_93 : decode prog_5_method_15_code 93 = .ok (.getfield 14, 3) := by decide +kernel
theorem dd_Machine_doMemory_96 : decode prog_5_method_15_code 96 = .ok (.invokevirtual 245, 3) := by decide +kernel
theorem dd_Machine_doMemory_99 : decode prog_5_method_15_code 99 = .ok (.ldc2_w 255, 3) := by decide +kernel
theorem dd_Machine_doMemory_102 : decode prog_5_method_15_code 102 = .ok (.land, 1) := by decide +kernel
theorem dd_Machine_doMemory_103 : decode prog_5_method_15_code 103 = .ok (.lload_n 2, 1) := by decide +kernel
theorem dd_Machine_doMemory_104 : decode prog_5_method_15_code 104 = .ok (.ladd, 1) := by decide +kernel
theorem dd_Machine_doMemory_105 : decode prog_5_method_15_code 105 = .ok (.lstore 8, 2) := by decide +kernel
theorem dd_Machine_doMemory_107 : decode prog_5_method_15_code 107 = .ok (.aload_n 0, 1) := by decide +kernel
theorem dd_Machine_doMemory_108 : decode prog_5_method_15_code 108 = .ok (.getfield 33, 3) := by decide +kernel
theorem dd_Machine_doMemory_111 : decode prog_5_method_15_code 111 = .ok (.lload 8, 2) := by decide +kernel
theorem dd_Machine_doMemory_113 : decode prog_5_method_15_code 113 = .ok (.iload 5, 2) := by decide +kernel
theorem dd_Machine_doMemory_115 : decode prog_5_method_15_code 115 = .ok (.i2l, 1) := by decide +kernel
theorem dd_Machine_doMemory_116 : decode prog_5_method_15_code 116 = .ok (.invokevirtual 148, 3) := by decide +kernel
theorem dd_Machine_doMemory_119 : decode prog_5_method_15_code 119 = .ok (.ifCond .ne 11, 3) := by decide +kernel
theorem dd_Machine_doMemory_122 : decode prog_5_method_15_code 122 = .ok (.aload_n 0, 1) := by decide +kernel
theorem dd_Machine_doMemory_123 : decode prog_5_method_15_code 123 = .ok (.iconst 2, 1) := by decide +kernel
theorem dd_Machine_doMemory_124 : decode prog_5_method_15_code 124 = .ok (.putfield 163, 3) := by decide +kernel
theorem dd_Machine_doMemory_127 : decode prog_5_method_15_code 127 = .ok (.goto 67, 3) := by decide +kernel
theorem dd_Machine_doMemory_130 : decode prog_5_method_15_code 130 = .ok (.iload 4, 2) := by decide +kernel
theorem dd_Machine_doMemory_132 : decode prog_5_method_15_code 132 = .ok (.ifCond .eq 20, 3) := by decide +kernel
theorem dd_Machine_doMemory_135 : decode prog_5_method_15_code 135 = .ok (.aload_n 0, 1) := by decide +kernel
theorem dd_Machine_doMemory_136 : decode prog_5_method_15_code 136 = .ok (.getfield 33, 3) := by decide +kernel
theorem dd_Machine_doMemory_139 : decode prog_5_method_15_code 139 = .ok (.lload 8, 2) := by decide +kernel
theorem dd_Machine_doMemory_141 : decode prog_5_method_15_code 141 = .ok (.l2i, 1) := by decide +kernel
theorem dd_Machine_doMemory_142 : decode prog_5_method_15_code 142 = .ok (.iload 5, 2) := by decide +kernel
theorem dd_Machine_doMemory_144 : decode prog_5_method_15_code 144 = .ok (.lload 6, 2) := by decide +kernel
theorem dd_Machine_doMemory_146 : decode prog_5_method_15_code 146 = .ok (.invokevirtual 287, 3) := by decide +kernel
theorem dd_Machine_doMemory_149 : decode prog_5_method_15_code 149 = .ok (.goto 45, 3) := by decide +kernel
theorem dd_Machine_doMemory_152 : decode prog_5_method_15_code 152 = .ok (.aload_n 0, 1) := by decide +kernel
theorem dd_Machine_doMemory_153 : decode prog_5_method_15_code 153 = .ok (.getfield 33, 3) := by decide +kernel
theorem dd_Machine_doMemory_156 : decode prog_5_method_15_code 156 = .ok (.lload 8, 2) := by decide +kernel
theorem dd_Machine_doMemory_158 : decode prog_5_method_15_code 158 = .ok (.l2i, 1) := by decide +kernel
theorem dd_Machine_doMemory_159 : decode prog_5_method_15_code 159 = .ok (.iload 5, 2) := by decide +kernel
theorem dd_Machine_doMemory_161 : decode prog_5_method_15_code 161 = .ok (.invokevirtual 291, 3) := by decide +kernel
theorem dd_Machine_doMemory_164 : decode prog_5_method_15_code 164 = .ok (.lstore 6, 2) := by decide +kernel
theorem dd_Machine_doMemory_166 : decode prog_5_method_15_code 166 = .ok (.aload_n 0, 1) := by decide +kernel
theorem dd_Machine_doMemory_167 : decode prog_5_method_15_code 167 = .ok (.getfield 14, 3) := by decide +kernel
theorem dd_Machine_doMemory_170 : decode prog_5_method_15_code 170 = .ok (.iload_n 1, 1) := by decide +kernel
theorem dd_Machine_doMemory_171 : decode prog_5_method_15_code 171 = .ok (.iconst 1, 1) := by decide +kernel
theorem dd_Machine_doMemory_172 : decode prog_5_method_15_code 172 = .ok (.iand, 1) := by decide +kernel
theorem dd_Machine_doMemory_173 : decode prog_5_method_15_code 173 = .ok (.ifCond .ne 16, 3) := by decide +kernel
theorem dd_Machine_doMemory_176 : decode prog_5_method_15_code 176 = .ok (.lload 6, 2) := by decide +kernel
theorem dd_Machine_doMemory_178 : decode prog_5_method_15_code 178 = .ok (.bipush 8, 2) := by decide +kernel
theorem dd_Machine_doMemory_180 : decode prog_5_method_15_code 180 = .ok (.iload 5, 2) := by decide +kernel
theorem dd_Machine_doMemory_182 : decode prog_5_method_15_code 182 = .ok (.imul, 1) := by decide +kernel
theorem dd_Machine_doMemory_183 : decode prog_5_method_15_code 183 = .ok (.invokestatic 295, 3) := by decide +kernel
theorem dd_Machine_doMemory_186 : decode prog_5_method_15_code 186 = .ok (.goto 5, 3) := by decide +kernel
theorem dd_Machine_doMemory_189 : decode prog_5_method_15_code 189 = .ok (.lload 6, 2) := by decide +kernel
theorem dd_Machine_doMemory_191 : decode prog_5_method_15_code 191 = .ok (.invokevirtual 99, 3) := by decide +kernel
theorem dd_Machine_doMemory_194 : decode prog_5_method_15_code 194 = .ok (.return_, 1) := by decide +kernel
theorem dd_Mod_tablePlaces_0 : decode prog_8_method_3_code 0 = .ok (.aload_n 0, 1) := by decide +kernel
theorem dd_Mod_tablePlaces_1 : decode prog_8_method_3_code 1 = .ok (.getfield 36, 3) := by decide +kernel
theorem dd_Mod_tablePlaces_4 : decode prog_8_method_3_code 4 = .ok (.getfield 64, 3) := by decide +kernel
theorem dd_Mod_tablePlaces_7 : decode prog_8_method_3_code 7 = .ok (.ifCond .ne 7, 3) := by decide +kernel
theorem dd_Mod_tablePlaces_10 : decode prog_8_method_3_code 10 = .ok (.iconst 0, 1) := by decide +kernel
theorem dd_Mod_tablePlaces_11 : decode prog_8_method_3_code 11 = .ok (.goto 12, 3) := by decide +kernel
theorem dd_Mod_tablePlaces_14 : decode prog_8_method_3_code 14 = .ok (.aload_n 0, 1) := by decide +kernel
theorem dd_Mod_tablePlaces_15 : decode prog_8_method_3_code 15 = .ok (.getfield 36, 3) := by decide +kernel
theorem dd_Mod_tablePlaces_18 : decode prog_8_method_3_code 18 = .ok (.getfield 71, 3) := by decide +kernel
theorem dd_Mod_tablePlaces_21 : decode prog_8_method_3_code 21 = .ok (.iconst 0, 1) := by decide +kernel
theorem dd_Mod_tablePlaces_22 : decode prog_8_method_3_code 22 = .ok (.iaload, 1) := by decide +kernel
theorem dd_Mod_tablePlaces_23 : decode prog_8_method_3_code 23 = .ok (.ireturn, 1) := by decide +kernel
theorem dd_Machine_enterByTable_0 : decode prog_5_method_14_code 0 = .ok (.aload_n 0, 1) := by decide +kernel
theorem dd_Machine_enterByTable_1 : decode prog_5_method_14_code 1 = .ok (.getfield 14, 3) := by decide +kernel
theorem dd_Machine_enterByTable_4 : decode prog_5_method_14_code 4 = .ok (.invokevirtual 245, 3) := by decide +kernel
theorem dd_Machine_enterByTable_7 : decode prog_5_method_14_code 7 = .ok (.ldc2_w 255, 3) := by decide +kernel
theorem dd_Machine_enterByTable_10 : decode prog_5_method_14_code 10 = .ok (.land, 1) := by decide +kernel
theorem dd_Machine_enterByTable_11 : decode prog_5_method_14_code 11 = .ok (.lstore_n 2, 1) := by decide +kernel
theorem dd_Machine_enterByTable_12 : decode prog_5_method_14_code 12 = .ok (.lload_n 2, 1) := by decide +kernel
theorem dd_Machine_enterByTable_13 : decode prog_5_method_14_code 13 = .ok (.aload_n 0, 1) := by decide +kernel
theorem dd_Machine_enterByTable_14 : decode prog_5_method_14_code 14 = .ok (.getfield 50, 3) := by decide +kernel
theorem dd_Machine_enterByTable_17 : decode prog_5_method_14_code 17 = .ok (.invokevirtual 131, 3) := by decide +kernel
theorem dd_Machine_enterByTable_20 : decode prog_5_method_14_code 20 = .ok (.i2l, 1) := by decide +kernel
theorem dd_Machine_enterByTable_21 : decode prog_5_method_14_code 21 = .ok (.lcmp, 1) := by decide +kernel
theorem dd_Machine_enterByTable_22 : decode prog_5_method_14_code 22 = .ok (.ifCond .lt 9, 3) := by decide +kernel
theorem dd_Machine_enterByTable_25 : decode prog_5_method_14_code 25 = .ok (.aload_n 0, 1) := by decide +kernel
theorem dd_Machine_enterByTable_26 : decode prog_5_method_14_code 26 = .ok (.iconst 5, 1) := by decide +kernel
theorem dd_Machine_enterByTable_27 : decode prog_5_method_14_code 27 = .ok (.putfield 163, 3) := by decide +kernel
theorem dd_Machine_enterByTable_30 : decode prog_5_method_14_code 30 = .ok (.return_, 1) := by decide +kernel
theorem dd_Machine_enterByTable_31 : decode prog_5_method_14_code 31 = .ok (.aload_n 0, 1) := by decide +kernel
theorem dd_Machine_enterByTable_32 : decode prog_5_method_14_code 32 = .ok (.getfield 37, 3) := by decide +kernel
theorem dd_Machine_enterByTable_35 : decode prog_5_method_14_code 35 = .ok (.lload_n 2, 1) := by decide +kernel
theorem dd_Machine_enterByTable_36 : decode prog_5_method_14_code 36 = .ok (.l2i, 1) := by decide +kernel
theorem dd_Machine_enterByTable_37 : decode prog_5_method_14_code 37 = .ok (.iaload, 1) := by decide +kernel
theorem dd_Machine_enterByTable_38 : decode prog_5_method_14_code 38 = .ok (.istore 4, 2) := by decide +kernel
theorem dd_Machine_enterByTable_40 : decode prog_5_method_14_code 40 = .ok (.iload 4, 2) := by decide +kernel
theorem dd_Machine_enterByTable_42 : decode prog_5_method_14_code 42 = .ok (.iconst (-1), 1) := by decide +kernel
theorem dd_Machine_enterByTable_43 : decode prog_5_method_14_code 43 = .ok (.if_icmp .ne 12, 3) := by decide +kernel
theorem dd_Machine_enterByTable_46 : decode prog_5_method_14_code 46 = .ok (.aload_n 0, 1) := by decide +kernel
theorem dd_Machine_enterByTable_47 : decode prog_5_method_14_code 47 = .ok (.bipush 6, 2) := by decide +kernel
theorem dd_Machine_enterByTable_49 : decode prog_5_method_14_code 49 = .ok (.putfield 163, 3) := by decide +kernel
theorem dd_Machine_enterByTable_52 : decode prog_5_method_14_code 52 = .ok (.goto 51, 3) := by decide +kernel
theorem dd_Machine_enterByTable_55 : decode prog_5_method_14_code 55 = .ok (.aload_n 0, 1) := by decide +kernel
theorem dd_Machine_enterByTable_56 : decode prog_5_method_14_code 56 = .ok (.getfield 60, 3) := by decide +kernel
theorem dd_Machine_enterByTable_59 : decode prog_5_method_14_code 59 = .ok (.getfield 274, 3) := by decide +kernel
theorem dd_Machine_enterByTable_62 : decode prog_5_method_14_code 62 = .ok (.aload_n 0, 1) := by decide +kernel
theorem dd_Machine_enterByTable_63 : decode prog_5_method_14_code 63 = .ok (.getfield 50, 3) := by decide +kernel
theorem dd_Machine_enterByTable_66 : decode prog_5_method_14_code 66 = .ok (.getfield 220, 3) := by decide +kernel
theorem dd_Machine_enterByTable_69 : decode prog_5_method_14_code 69 = .ok (.getfield 82, 3) := by decide +kernel
theorem dd_Machine_enterByTable_72 : decode prog_5_method_14_code 72 = .ok (.iload 4, 2) := by decide +kernel
theorem dd_Machine_enterByTable_74 : decode prog_5_method_14_code 74 = .ok (.iaload, 1) := by decide +kernel
theorem dd_Machine_enterByTable_75 : decode prog_5_method_14_code 75 = .ok (.iaload, 1) := by decide +kernel
theorem dd_Machine_enterByTable_76 : decode prog_5_method_14_code 76 = .ok (.aload_n 0, 1) := by decide +kernel
theorem dd_Machine_enterByTable_77 : decode prog_5_method_14_code 77 = .ok (.getfield 60, 3) := by decide +kernel
theorem dd_Machine_enterByTable_80 : decode prog_5_method_14_code 80 = .ok (.getfield 274, 3) := by decide +kernel
theorem dd_Machine_enterByTable_83 : decode prog_5_method_14_code 83 = .ok (.iload_n 1, 1) := by decide +kernel
theorem dd_Machine_enterByTable_84 : decode prog_5_method_14_code 84 = .ok (.iaload, 1) := by decide +kernel
theorem dd_Machine_enterByTable_85 : decode prog_5_method_14_code 85 = .ok (.if_icmp .eq 12, 3) := by decide +kernel
theorem dd_Machine_enterByTable_88 : decode prog_5_method_14_code 88 = .ok (.aload_n 0, 1) := by decide +kernel
theorem dd_Machine_enterByTable_89 : decode prog_5_method_14_code 89 = .ok (.bipush 7, 2) := by decide +kernel
theorem dd_Machine_enterByTable_91 : decode prog_5_method_14_code 91 = .ok (.putfield 163, 3) := by decide +kernel
theorem dd_Machine_enterByTable_94 : decode prog_5_method_14_code 94 = .ok (.goto 9, 3) := by decide +kernel
theorem dd_Machine_enterByTable_97 : decode prog_5_method_14_code 97 = .ok (.aload_n 0, 1) := by decide +kernel
theorem dd_Machine_enterByTable_98 : decode prog_5_method_14_code 98 = .ok (.iload 4, 2) := by decide +kernel
theorem dd_Machine_enterByTable_100 : decode prog_5_method_14_code 100 = .ok (.invokevirtual 169, 3) := by decide +kernel
theorem dd_Machine_enterByTable_103 : decode prog_5_method_14_code 103 = .ok (.return_, 1) := by decide +kernel
theorem dd_Machine_doSimple_0 : decode prog_5_method_13_code 0 = .ok (.iload_n 1, 1) := by decide +kernel
theorem dd_Machine_doSimple_1 : decode prog_5_method_13_code 1 = .ok (.tableswitch 266 16 35 #[95, 103, 266, 266, 266, 266, 266, 266, 266, 266, 111, 122, 266, 266, 266, 266, 165, 192, 192, 251], 95) := by decide +kernel
theorem dd_Machine_doSimple_96 : decode prog_5_method_13_code 96 = .ok (.aload_n 0, 1) := by decide +kernel
theorem dd_Machine_doSimple_97 : decode prog_5_method_13_code 97 = .ok (.iload_n 2, 1) := by decide +kernel
theorem dd_Machine_doSimple_98 : decode prog_5_method_13_code 98 = .ok (.invokevirtual 169, 3) := by decide +kernel
theorem dd_Machine_doSimple_101 : decode prog_5_method_13_code 101 = .ok (.goto 200, 3) := by decide +kernel
theorem dd_Machine_doSimple_104 : decode prog_5_method_13_code 104 = .ok (.aload_n 0, 1) := by decide +kernel
theorem dd_Machine_doSimple_105 : decode prog_5_method_13_code 105 = .ok (.iload_n 2, 1) := by decide +kernel
theorem dd_Machine_doSimple_106 : decode prog_5_method_13_code 106 = .ok (.invokevirtual 263, 3) := by decide +kernel
theorem dd_Machine_doSimple_109 : decode prog_5_method_13_code 109 = .ok (.goto 192, 3) := by decide +kernel
theorem dd_Machine_doSimple_112 : decode prog_5_method_13_code 112 = .ok (.aload_n 0, 1) := by decide +kernel
theorem dd_Machine_doSimple_113 : decode prog_5_method_13_code 113 = .ok (.getfield 14, 3) := by decide +kernel
theorem dd_Machine_doSimple_116 : decode prog_5_method_13_code 116 = .ok (.invokevirtual 245, 3) := by decide +kernel
theorem dd_Machine_doSimple_119 : decode prog_5_method_13_code 119 = .ok (.pop2, 1) := by decide +kernel
theorem dd_Machine_doSimple_120 : decode prog_5_method_13_code 120 = .ok (.goto 181, 3) := by decide +kernel
theorem dd_Machine_doSimple_123 : decode prog_5_method_13_code 123 = .ok (.aload_n 0, 1) := by decide +kernel
theorem dd_Machine_doSimple_124 : decode prog_5_method_13_code 124 = .ok (.getfield 14, 3) := by decide +kernel
theorem dd_Machine_doSimple_127 : decode prog_5_method_13_code 127 = .ok (.invokevirtual 245, 3) := by decide +kernel
theorem dd_Machine_doSimple_130 : decode prog_5_method_13_code 130 = .ok (.lstore_n 3, 1) := by decide +kernel
theorem dd_Machine_doSimple_131 : decode prog_5_method_13_code 131 = .ok (.aload_n 0, 1) := by decide +kernel
theorem dd_Machine_doSimple_132 : decode prog_5_method_13_code 132 = .ok (.getfield 14, 3) := by decide +kernel
theorem dd_Machine_doSimple_135 : decode prog_5_method_13_code 135 = .ok (.invokevirtual 245, 3) := by decide +kernel
theorem dd_Machine_doSimple_138 : decode prog_5_method_13_code 138 = .ok (.lstore 5, 2) := by decide +kernel
theorem dd_Machine_doSimple_140 : decode prog_5_method_13_code 140 = .ok (.lload_n 3, 1) := by decide +kernel
theorem dd_Machine_doSimple_141 : decode prog_5_method_13_code 141 = .ok (.lconst 0, 1) := by decide +kernel
theorem dd_Machine_doSimple_142 : decode prog_5_method_13_code 142 = .ok (.lcmp, 1) := by decide +kernel
theorem dd_Machine_doSimple_143 : decode prog_5_method_13_code 143 = .ok (.ifCond .ne 20, 3) := by decide +kernel
theorem dd_Machine_doSimple_146 : decode prog_5_method_13_code 146 = .ok (.aload_n 0, 1) := by decide +kernel
theorem dd_Machine_doSimple_147 : decode prog_5_method_13_code 147 = .ok (.getfield 14, 3) := by decide +kernel
theorem dd_Machine_doSimple_150 : decode prog_5_method_13_code 150 = .ok (.invokevirtual 245, 3) := by decide +kernel
theorem dd_Machine_doSimple_153 : decode prog_5_method_13_code 153 = .ok (.pop2, 1) := by decide +kernel
theorem dd_Machine_doSimple_154 : decode prog_5_method_13_code 154 = .ok (.aload_n 0, 1) := by decide +kernel
theorem dd_Machine_doSimple_155 : decode prog_5_method_13_code 155 = .ok (.getfield 14, 3) := by decide +kernel
theorem dd_Machine_doSimple_158 : decode prog_5_method_13_code 158 = .ok (.lload 5, 2) := by decide +kernel
theorem dd_Machine_doSimple_160 : decode prog_5_method_13_code 160 = .ok (.invokevirtual 99, 3) := by decide +kernel
theorem dd_Machine_doSimple_163 : decode prog_5_method_13_code 163 = .ok (.goto 138, 3) := by decide +kernel
theorem dd_Machine_doSimple_166 : decode prog_5_method_13_code 166 = .ok (.aload_n 0, 1) := by decide +kernel
theorem dd_Machine_doSimple_167 : decode prog_5_method_13_code 167 = .ok (.getfield 14, 3) := by decide +kernel
theorem dd_Machine_doSimple_170 : decode prog_5_method_13_code 170 = .ok (.aload_n 0, 1) := by decide +kernel
theorem dd_Machine_doSimple_171 : decode prog_5_method_13_code 171 = .ok (.getfield 14, 3) := by decide +kernel
theorem dd_Machine_doSimple_174 : decode prog_5_method_13_code 174 = .ok (.aload_n 0, 1) := by decide +kernel
theorem dd_Machine_doSimple_175 : decode prog_5_method_13_code 175 = .ok (.getfield 44, 3) := by decide +kernel
theorem dd_Machine_doSimple_178 : decode prog_5_method_13_code 178 = .ok (.aload_n 0, 1) := by decide +kernel
theorem dd_Machine_doSimple_179 : decode prog_5_method_13_code 179 = .ok (.getfield 166, 3) := by decide +kernel
theorem dd_Machine_doSimple_182 : decode prog_5_method_13_code 182 = .ok (.iconst 1, 1) := by decide +kernel
theorem dd_Machine_doSimple_183 : decode prog_5_method_13_code 183 = .ok (.isub, 1) := by decide +kernel
theorem dd_Machine_doSimple_184 : decode prog_5_method_13_code 184 = .ok (.iaload, 1) := by decide +kernel
theorem dd_Machine_doSimple_185 : decode prog_5_method_13_code 185 = .ok (.iload_n 2, 1) := by decide +kernel
theorem dd_Machine_doSimple_186 : decode prog_5_method_13_code 186 = .ok (.iadd, 1) := by decide +kernel
theorem dd_Machine_doSimple_187 : decode prog_5_method_13_code 187 = .ok (.invokevirtual 266, 3) := by decide +kernel
theorem dd_Machine_doSimple_190 : decode prog_5_method_13_code 190 = .ok (.goto 111, 3) := by decide +kernel
theorem dd_Machine_doSimple_193 : decode prog_5_method_13_code 193 = .ok (.aload_n 0, 1) := by decide +kernel
theorem dd_Machine_doSimple_194 : decode prog_5_method_13_code 194 = .ok (.getfield 14, 3) := by decide +kernel
theorem dd_Machine_doSimple_197 : decode prog_5_method_13_code 197 = .ok (.aload_n 0, 1) := by decide +kernel
theorem dd_Machine_doSimple_198 : decode prog_5_method_13_code 198 = .ok (.getfield 14, 3) := by decide +kernel
theorem dd_Machine_doSimple_201 : decode prog_5_method_13_code 201 = .ok (.aload_n 0, 1) := by decide +kernel
theorem dd_Machine_doSimple_202 : decode prog_5_method_13_code 202 = .ok (.getfield 14, 3) := by decide +kernel
theorem dd_Machine_doSimple_205 : decode prog_5_method_13_code 205 = .ok (.getfield 66, 3) := by decide +kernel
theorem dd_Machine_doSimple_208 : decode prog_5_method_13_code 208 = .ok (.iconst 1, 1) := by decide +kernel
theorem dd_Machine_doSimple_209 : decode prog_5_method_13_code 209 = .ok (.isub, 1) := by decide +kernel
theorem dd_Machine_doSimple_210 : decode prog_5_method_13_code 210 = .ok (.aload_n 0, 1) := by decide +kernel
theorem dd_Machine_doSimple_211 : decode prog_5_method_13_code 211 = .ok (.getfield 44, 3) := by decide +kernel
theorem dd_Machine_doSimple_214 : decode prog_5_method_13_code 214 = .ok (.aload_n 0, 1) := by decide +kernel
theorem dd_Machine_doSimple_215 : decode prog_5_method_13_code 215 = .ok (.getfield 166, 3) := by decide +kernel
theorem dd_Machine_doSimple_218 : decode prog_5_method_13_code 218 = .ok (.iconst 1, 1) := by decide +kernel
theorem dd_Machine_doSimple_219 : decode prog_5_method_13_code 219 = .ok (.isub, 1) := by decide +kernel
theorem dd_Machine_doSimple_220 : decode prog_5_method_13_code 220 = .ok (.iaload, 1) := by decide +kernel
theorem dd_Machine_doSimple_221 : decode prog_5_method_13_code 221 = .ok (.iload_n 2, 1) := by decide +kernel
theorem dd_Machine_doSimple_222 : decode prog_5_method_13_code 222 = .ok (.iadd, 1) := by decide +kernel
theorem dd_Machine_doSimple_223 : decode prog_5_method_13_code 223 = .ok (.invokevirtual 270, 3) := by decide +kernel
theorem dd_Machine_doSimple_226 : decode prog_5_method_13_code 226 = .ok (.aload_n 0, 1) := by decide +kernel
theorem dd_Machine_doSimple_227 : decode prog_5_method_13_code 227 = .ok (.getfield 14, 3) := by decide +kernel
theorem dd_Machine_doSimple_230 : decode prog_5_method_13_code 230 = .ok (.dup, 1) := by decide +kernel
theorem dd_Machine_doSimple_231 : decode prog_5_method_13_code 231 = .ok (.getfield 66, 3) := by decide +kernel
theorem dd_Machine_doSimple_234 : decode prog_5_method_13_code 234 = .ok (.iload_n 1, 1) := by decide +kernel
theorem dd_Machine_doSimple_235 : decode prog_5_method_13_code 235 = .ok (.bipush 33, 2) := by decide +kernel
theorem dd_Machine_doSimple_237 : decode prog_5_method_13_code 237 = .ok (.if_icmp .ne 7, 3) := by decide +kernel
theorem dd_Machine_doSimple_240 : decode prog_5_method_13_code 240 = .ok (.iconst 1, 1) := by decide +kernel
theorem dd_Machine_doSimple_241 : decode prog_5_method_13_code 241 = .ok (.goto 4, 3) := by decide +kernel
theorem dd_Machine_doSimple_244 : decode prog_5_method_13_code 244 = .ok (.iconst 0, 1) := by decide +kernel
theorem dd_Machine_doSimple_245 : decode prog_5_method_13_code 245 = .ok (.isub, 1) := by decide +kernel
theorem dd_Machine_doSimple_246 : decode prog_5_method_13_code 246 = .ok (.putfield 66, 3) := by decide +kernel
theorem dd_Machine_doSimple_249 : decode prog_5_method_13_code 249 = .ok (.goto 52, 3) := by decide +kernel
theorem dd_Machine_doSimple_252 : decode prog_5_method_13_code 252 = .ok (.aload_n 0, 1) := by decide +kernel
theorem dd_Machine_doSimple_253 : decode prog_5_method_13_code 253 = .ok (.getfield 14, 3) := by decide +kernel
theorem dd_Machine_doSimple_256 : decode prog_5_method_13_code 256 = .ok (.aload_n 0, 1) := by decide +kernel
theorem dd_Machine_doSimple_257 : decode prog_5_method_13_code 257 = .ok (.getfield 20, 3) := by decide +kernel
theorem dd_Machine_doSimple_260 : decode prog_5_method_13_code 260 = .ok (.iload_n 2, 1) := by decide +kernel
theorem dd_Machine_doSimple_261 : decode prog_5_method_13_code 261 = .ok (.invokevirtual 266, 3) := by decide +kernel
theorem dd_Machine_doSimple_264 : decode prog_5_method_13_code 264 = .ok (.goto 37, 3) := by decide +kernel
theorem dd_Machine_doSimple_267 : decode prog_5_method_13_code 267 = .ok (.aload_n 0, 1) := by decide +kernel
theorem dd_Machine_doSimple_268 : decode prog_5_method_13_code 268 = .ok (.getfield 20, 3) := by decide +kernel
theorem dd_Machine_doSimple_271 : decode prog_5_method_13_code 271 = .ok (.aload_n 0, 1) := by decide +kernel
theorem dd_Machine_doSimple_272 : decode prog_5_method_13_code 272 = .ok (.getfield 14, 3) := by decide +kernel
theorem dd_Machine_doSimple_275 : decode prog_5_method_13_code 275 = .ok (.aload_n 0, 1) := by decide +kernel
theorem dd_Machine_doSimple_276 : decode prog_5_method_13_code 276 = .ok (.getfield 14, 3) := by decide +kernel
theorem dd_Machine_doSimple_279 : decode prog_5_method_13_code 279 = .ok (.getfield 66, 3) := by decide +kernel
theorem dd_Machine_doSimple_282 : decode prog_5_method_13_code 282 = .ok (.iconst 1, 1) := by decide +kernel
theorem dd_Machine_doSimple_283 : decode prog_5_method_13_code 283 = .ok (.isub, 1) := by decide +kernel
theorem dd_Machine_doSimple_284 : decode prog_5_method_13_code 284 = .ok (.iload_n 2, 1) := by decide +kernel
theorem dd_Machine_doSimple_285 : decode prog_5_method_13_code 285 = .ok (.invokevirtual 270, 3) := by decide +kernel
theorem dd_Machine_doSimple_288 : decode prog_5_method_13_code 288 = .ok (.aload_n 0, 1) := by decide +kernel
theorem dd_Machine_doSimple_289 : decode prog_5_method_13_code 289 = .ok (.getfield 14, 3) := by decide +kernel
theorem dd_Machine_doSimple_292 : decode prog_5_method_13_code 292 = .ok (.dup, 1) := by decide +kernel
theorem dd_Machine_doSimple_293 : decode prog_5_method_13_code 293 = .ok (.getfield 66, 3) := by decide +kernel
theorem dd_Machine_doSimple_296 : decode prog_5_method_13_code 296 = .ok (.iconst 1, 1) := by decide +kernel
theorem dd_Machine_doSimple_297 : decode prog_5_method_13_code 297 = .ok (.isub, 1) := by decide +kernel
theorem dd_Machine_doSimple_298 : decode prog_5_method_13_code 298 = .ok (.putfield 66, 3) := by decide +kernel
theorem dd_Machine_doSimple_301 : decode prog_5_method_13_code 301 = .ok (.return_, 1) := by decide +kernel
theorem dd_Machine_doControl_0 : decode prog_5_method_12_code 0 = .ok (.iload_n 1, 1) := by decide +kernel
theorem dd_Machine_doControl_1 : decode prog_5_method_12_code 1 = .ok (.tableswitch 256 0 15 #[79, 256, 256, 256, 106, 136, 256, 154, 87, 256, 256, 256, 161, 177, 205, 154], 79) := by decide +kernel
theorem dd_Machine_doControl_80 : decode prog_5_method_12_code 80 = .ok (.aload_n 0, 1) := by decide +kernel
theorem dd_Machine_doControl_81 : decode prog_5_method_12_code 81 = .ok (.iconst 1, 1) := by decide +kernel
theorem dd_Machine_doControl_82 : decode prog_5_method_12_code 82 = .ok (.putfield 163, 3) := by decide +kernel
theorem dd_Machine_doControl_85 : decode prog_5_method_12_code 85 = .ok (.goto 172, 3) := by decide +kernel
theorem dd_Machine_doControl_88 : decode prog_5_method_12_code 88 = .ok (.aload_n 0, 1) := by decide +kernel
theorem dd_Machine_doControl_89 : decode prog_5_method_12_code 89 = .ok (.getfield 14, 3) := by decide +kernel
theorem dd_Machine_doControl_92 : decode prog_5_method_12_code 92 = .ok (.aload_n 0, 1) := by decide +kernel
theorem dd_Machine_doControl_93 : decode prog_5_method_12_code 93 = .ok (.getfield 65, 3) := by decide +kernel
theorem dd_Machine_doControl_96 : decode prog_5_method_12_code 96 = .ok (.getfield 187, 3) := by decide +kernel
theorem dd_Machine_doControl_99 : decode prog_5_method_12_code 99 = .ok (.iload_n 2, 1) := by decide +kernel
theorem dd_Machine_doControl_100 : decode prog_5_method_12_code 100 = .ok (.iaload, 1) := by decide +kernel
theorem dd_Machine_doControl_101 : decode prog_5_method_12_code 101 = .ok (.invokevirtual 242, 3) := by decide +kernel
theorem dd_Machine_doControl_104 : decode prog_5_method_12_code 104 = .ok (.goto 153, 3) := by decide +kernel
theorem dd_Machine_doControl_107 : decode prog_5_method_12_code 107 = .ok (.aload_n 0, 1) := by decide +kernel
theorem dd_Machine_doControl_108 : decode prog_5_method_12_code 108 = .ok (.getfield 14, 3) := by decide +kernel
theorem dd_Machine_doControl_111 : decode prog_5_method_12_code 111 = .ok (.invokevirtual 245, 3) := by decide +kernel
theorem dd_Machine_doControl_114 : decode prog_5_method_12_code 114 = .ok (.lconst 0, 1) := by decide +kernel
theorem dd_Machine_doControl_115 : decode prog_5_method_12_code 115 = .ok (.lcmp, 1) := by decide +kernel
theorem dd_Machine_doControl_116 : decode prog_5_method_12_code 116 = .ok (.ifCond .ne 141, 3) := by decide +kernel
theorem dd_Machine_doControl_119 : decode prog_5_method_12_code 119 = .ok (.aload_n 0, 1) := by decide +kernel
theorem dd_Machine_doControl_120 : decode prog_5_method_12_code 120 = .ok (.aload_n 0, 1) := by decide +kernel
theorem dd_Machine_doControl_121 : decode prog_5_method_12_code 121 = .ok (.getfield 65, 3) := by decide +kernel
theorem dd_Machine_doControl_124 : decode prog_5_method_12_code 124 = .ok (.getfield 249, 3) := by decide +kernel
theorem dd_Machine_doControl_127 : decode prog_5_method_12_code 127 = .ok (.iload_n 2, 1) := by decide +kernel
theorem dd_Machine_doControl_128 : decode prog_5_method_12_code 128 = .ok (.iaload, 1) := by decide +kernel
theorem dd_Machine_doControl_129 : decode prog_5_method_12_code 129 = .ok (.iconst 1, 1) := by decide +kernel
theorem dd_Machine_doControl_130 : decode prog_5_method_12_code 130 = .ok (.iadd, 1) := by decide +kernel
theorem dd_Machine_doControl_131 : decode prog_5_method_12_code 131 = .ok (.putfield 174, 3) := by decide +kernel
theorem dd_Machine_doControl_134 : decode prog_5_method_12_code 134 = .ok (.goto 123, 3) := by decide +kernel
theorem dd_Machine_doControl_137 : decode prog_5_method_12_code 137 = .ok (.aload_n 0, 1) := by decide +kernel
theorem dd_Machine_doControl_138 : decode prog_5_method_12_code 138 = .ok (.aload_n 0, 1) := by decide +kernel
theorem dd_Machine_doControl_139 : decode prog_5_method_12_code 139 = .ok (.getfield 65, 3) := by decide +kernel
theorem dd_Machine_doControl_142 : decode prog_5_method_12_code 142 = .ok (.getfield 249, 3) := by decide +kernel
theorem dd_Machine_doControl_145 : decode prog_5_method_12_code 145 = .ok (.iload_n 2, 1) := by decide +kernel
theorem dd_Machine_doControl_146 : decode prog_5_method_12_code 146 = .ok (.iaload, 1) := by decide +kernel
theorem dd_Machine_doControl_147 : decode prog_5_method_12_code 147 = .ok (.iconst 1, 1) := by decide +kernel
theorem dd_Machine_doControl_148 : decode prog_5_method_12_code 148 = .ok (.iadd, 1) := by decide +kernel
theorem dd_Machine_doControl_149 : decode prog_5_method_12_code 149 = .ok (.putfield 174, 3) := by decide +kernel
theorem dd_Machine_doControl_152 : decode prog_5_method_12_code 152 = .ok (.goto 105, 3) := by decide +kernel
theorem dd_Machine_doControl_155 : decode prog_5_method_12_code 155 = .ok (.aload_n 0, 1) := by decide +kernel
theorem dd_Machine_doControl_156 : decode prog_5_method_12_code 156 = .ok (.invokevirtual 232, 3) := by decide +kernel
theorem dd_Machine_doControl_159 : decode prog_5_method_12_code 159 = .ok (.goto 98, 3) := by decide +kernel
theorem dd_Machine_doControl_162 : decode prog_5_method_12_code 162 = .ok (.aload_n 0, 1) := by decide +kernel
theorem dd_Machine_doControl_163 : decode prog_5_method_12_code 163 = .ok (.aload_n 0, 1) := by decide +kernel
theorem dd_Machine_doControl_164 : decode prog_5_method_12_code 164 = .ok (.getfield 65, 3) := by decide +kernel
theorem dd_Machine_doControl_167 : decode prog_5_method_12_code 167 = .ok (.getfield 249, 3) := by decide +kernel
theorem dd_Machine_doControl_170 : decode prog_5_method_12_code 170 = .ok (.iload_n 2, 1) := by decide +kernel
theorem dd_Machine_doControl_171 : decode prog_5_method_12_code 171 = .ok (.iaload, 1) := by decide +kernel
theorem dd_Machine_doControl_172 : decode prog_5_method_12_code 172 = .ok (.invokevirtual 252, 3) := by decide +kernel
theorem dd_Machine_doControl_175 : decode prog_5_method_12_code 175 = .ok (.goto 82, 3) := by decide +kernel
theorem dd_Machine_doControl_178 : decode prog_5_method_12_code 178 = .ok (.aload_n 0, 1) := by decide +kernel
theorem dd_Machine_doControl_179 : decode prog_5_method_12_code 179 = .ok (.getfield 14, 3) := by decide +kernel
theorem dd_Machine_doControl_182 : decode prog_5_method_12_code 182 = .ok (.invokevirtual 245, 3) := by decide +kernel
theorem dd_Machine_doControl_185 : decode prog_5_method_12_code 185 = .ok (.lconst 0, 1) := by decide +kernel
theorem dd_Machine_doControl_186 : decode prog_5_method_12_code 186 = .ok (.lcmp, 1) := by decide +kernel
theorem dd_Machine_doControl_187 : decode prog_5_method_12_code 187 = .ok (.ifCond .eq 70, 3) := by decide +kernel
theorem dd_Machine_doControl_190 : decode prog_5_method_12_code 190 = .ok (.aload_n 0, 1) := by decide +kernel
theorem dd_Machine_doControl_191 : decode prog_5_method_12_code 191 = .ok (.aload_n 0, 1) := by decide +kernel
theorem dd_Machine_doControl_192 : decode prog_5_method_12_code 192 = .ok (.getfield 65, 3) := by decide +kernel
theorem dd_Machine_doControl_195 : decode prog_5_method_12_code 195 = .ok (.getfield 249, 3) := by decide +kernel
theorem dd_Machine_doControl_198 : decode prog_5_method_12_code 198 = .ok (.iload_n 2, 1) := by decide +kernel
theorem dd_Machine_doControl_199 : decode prog_5_method_12_code 199 = .ok (.iaload, 1) := by decide +kernel
theorem dd_Machine_doControl_200 : decode prog_5_method_12_code 200 = .ok (.invokevirtual 252, 3) := by decide +kernel
theorem dd_Machine_doControl_203 : decode prog_5_method_12_code 203 = .ok (.goto 54, 3) := by decide +kernel
theorem dd_Machine_doControl_206 : decode prog_5_method_12_code 206 = .ok (.aload_n 0, 1) := by decide +kernel
theorem dd_Machine_doControl_207 : decode prog_5_method_12_code 207 = .ok (.getfield 14, 3) := by decide +kernel
theorem dd_Machine_doControl_210 : decode prog_5_method_12_code 210 = .ok (.invokevirtual 245, 3) := by decide +kernel
theorem dd_Machine_doControl_213 : decode prog_5_method_12_code 213 = .ok (.ldc2_w 255, 3) := by decide +kernel
theorem dd_Machine_doControl_216 : decode prog_5_method_12_code 216 = .ok (.land, 1) := by decide +kernel
theorem dd_Machine_doControl_217 : decode prog_5_method_12_code 217 = .ok (.aload_n 0, 1) := by decide +kernel
theorem dd_Machine_doControl_218 : decode prog_5_method_12_code 218 = .ok (.getfield 65, 3) := by decide +kernel
theorem dd_Machine_doControl_221 : decode prog_5_method_12_code 221 = .ok (.getfield 191, 3) := by decide +kernel
theorem dd_Machine_doControl_224 : decode prog_5_method_12_code 224 = .ok (.iload_n 2, 1) := by decide +kernel
theorem dd_Machine_doControl_225 : decode prog_5_method_12_code 225 = .ok (.laload, 1) := by decide +kernel
theorem dd_Machine_doControl_226 : decode prog_5_method_12_code 226 = .ok (.invokestatic 257, 3) := by decide +kernel
theorem dd_Machine_doControl_229 : decode prog_5_method_12_code 229 = .ok (.lstore_n 3, 1) := by decide +kernel
theorem dd_Machine_doControl_230 : decode prog_5_method_12_code 230 = .ok (.aload_n 0, 1) := by decide +kernel
theorem dd_Machine_doControl_231 : decode prog_5_method_12_code 231 = .ok (.aload_n 0, 1) := by decide +kernel
theorem dd_Machine_doControl_232 : decode prog_5_method_12_code 232 = .ok (.getfield 65, 3) := by decide +kernel
theorem dd_Machine_doControl_235 : decode prog_5_method_12_code 235 = .ok (.getfield 134, 3) := by decide +kernel
theorem dd_Machine_doControl_238 : decode prog_5_method_12_code 238 = .ok (.aload_n 0, 1) := by decide +kernel
theorem dd_Machine_doControl_239 : decode prog_5_method_12_code 239 = .ok (.getfield 65, 3) := by decide +kernel
theorem dd_Machine_doControl_242 : decode prog_5_method_12_code 242 = .ok (.getfield 187, 3) := by decide +kernel
theorem dd_Machine_doControl_245 : decode prog_5_method_12_code 245 = .ok (.iload_n 2, 1) := by decide +kernel
theorem dd_Machine_doControl_246 : decode prog_5_method_12_code 246 = .ok (.iaload, 1) := by decide +kernel
theorem dd_Machine_doControl_247 : decode prog_5_method_12_code 247 = .ok (.lload_n 3, 1) := by decide +kernel
theorem dd_Machine_doControl_248 : decode prog_5_method_12_code 248 = .ok (.l2i, 1) := by decide +kernel
theorem dd_Machine_doControl_249 : decode prog_5_method_12_code 249 = .ok (.iadd, 1) := by decide +kernel
theorem dd_Machine_doControl_250 : decode prog_5_method_12_code 250 = .ok (.iaload, 1) := by decide +kernel
theorem dd_Machine_doControl_251 : decode prog_5_method_12_code 251 = .ok (.invokevirtual 252, 3) := by decide +kernel
theorem dd_Machine_doControl_254 : decode prog_5_method_12_code 254 = .ok (.goto 3, 3) := by decide +kernel
theorem dd_Machine_doControl_257 : decode prog_5_method_12_code 257 = .ok (.return_, 1) := by decide +kernel
theorem dd_Machine_step_0 : decode prog_5_method_7_code 0 = .ok (.iload_n 1, 1) := by decide +kernel
theorem dd_Machine_step_1 : decode prog_5_method_7_code 1 = .ok (.bipush 16, 2) := by decide +kernel
theorem dd_Machine_step_3 : decode prog_5_method_7_code 3 = .ok (.if_icmp .ge 12, 3) := by decide +kernel
theorem dd_Machine_step_6 : decode prog_5_method_7_code 6 = .ok (.aload_n 0, 1) := by decide +kernel
theorem dd_Machine_step_7 : decode prog_5_method_7_code 7 = .ok (.iload_n 1, 1) := by decide +kernel
theorem dd_Machine_step_8 : decode prog_5_method_7_code 8 = .ok (.iload_n 2, 1) := by decide +kernel
theorem dd_Machine_step_9 : decode prog_5_method_7_code 9 = .ok (.invokevirtual 184, 3) := by decide +kernel
theorem dd_Machine_step_12 : decode prog_5_method_7_code 12 = .ok (.goto 199, 3) := by decide +kernel
theorem dd_Machine_step_15 : decode prog_5_method_7_code 15 = .ok (.iload_n 1, 1) := by decide +kernel
theorem dd_Machine_step_16 : decode prog_5_method_7_code 16 = .ok (.bipush 40, 2) := by decide +kernel
theorem dd_Machine_step_18 : decode prog_5_method_7_code 18 = .ok (.if_icmp .ge 20, 3) := by decide +kernel
theorem dd_Machine_step_21 : decode prog_5_method_7_code 21 = .ok (.aload_n 0, 1) := by decide +kernel
theorem dd_Machine_step_22 : decode prog_5_method_7_code 22 = .ok (.iload_n 1, 1) := by decide +kernel
theorem dd_Machine_step_23 : decode prog_5_method_7_code 23 = .ok (.aload_n 0, 1) := by decide +kernel
theorem dd_Machine_step_24 : decode prog_5_method_7_code 24 = .ok (.getfield 65, 3) := by decide +kernel
theorem dd_Machine_step_27 : decode prog_5_method_7_code 27 = .ok (.getfield 187, 3) := by decide +kernel
theorem dd_Machine_step_30 : decode prog_5_method_7_code 30 = .ok (.iload_n 2, 1) := by decide +kernel
theorem dd_Machine_step_31 : decode prog_5_method_7_code 31 = .ok (.iaload, 1) := by decide +kernel
theorem dd_Machine_step_32 : decode prog_5_method_7_code 32 = .ok (.invokevirtual 188, 3) := by decide +kernel
theorem dd_Machine_step_35 : decode prog_5_method_7_code 35 = .ok (.goto 176, 3) := by decide +kernel
theorem dd_Machine_step_38 : decode prog_5_method_7_code 38 = .ok (.iload_n 1, 1) := by decide +kernel
theorem dd_Machine_step_39 : decode prog_5_method_7_code 39 = .ok (.bipush 64, 2) := by decide +kernel
theorem dd_Machine_step_41 : decode prog_5_method_7_code 41 = .ok (.if_icmp .gt 20, 3) := by decide +kernel
theorem dd_Machine_step_44 : decode prog_5_method_7_code 44 = .ok (.aload_n 0, 1) := by decide +kernel
theorem dd_Machine_step_45 : decode prog_5_method_7_code 45 = .ok (.iload_n 1, 1) := by decide +kernel
theorem dd_Machine_step_46 : decode prog_5_method_7_code 46 = .ok (.aload_n 0, 1) := by decide +kernel
theorem dd_Machine_step_47 : decode prog_5_method_7_code 47 = .ok (.getfield 65, 3) := by decide +kernel
theorem dd_Machine_step_50 : decode prog_5_method_7_code 50 = .ok (.getfield 191, 3) := by decide +kernel
theorem dd_Machine_step_53 : decode prog_5_method_7_code 53 = .ok (.iload_n 2, 1) := by decide +kernel
theorem dd_Machine_step_54 : decode prog_5_method_7_code 54 = .ok (.laload, 1) := by decide +kernel
theorem dd_Machine_step_55 : decode prog_5_method_7_code 55 = .ok (.invokevirtual 193, 3) := by decide +kernel
theorem dd_Machine_step_58 : decode prog_5_method_7_code 58 = .ok (.goto 153, 3) := by decide +kernel
theorem dd_Machine_step_61 : decode prog_5_method_7_code 61 = .ok (.iload_n 1, 1) := by decide +kernel
theorem dd_Machine_step_62 : decode prog_5_method_7_code 62 = .ok (.bipush 66, 2) := by decide +kernel
theorem dd_Machine_step_64 : decode prog_5_method_7_code 64 = .ok (.if_icmp .gt 22, 3) := by decide +kernel
theorem dd_Machine_step_67 : decode prog_5_method_7_code 67 = .ok (.aload_n 0, 1) := by decide +kernel
theorem dd_Machine_step_68 : decode prog_5_method_7_code 68 = .ok (.getfield 14, 3) := by decide +kernel
theorem dd_Machine_step_71 : decode prog_5_method_7_code 71 = .ok (.aload_n 0, 1) := by decide +kernel
theorem dd_Machine_step_72 : decode prog_5_method_7_code 72 = .ok (.getfield 65, 3) := by decide +kernel
theorem dd_Machine_step_75 : decode prog_5_method_7_code 75 = .ok (.getfield 191, 3) := by decide +kernel
theorem dd_Machine_step_78 : decode prog_5_method_7_code 78 = .ok (.iload_n 2, 1) := by decide +kernel
theorem dd_Machine_step_79 : decode prog_5_method_7_code 79 = .ok (.laload, 1) := by decide +kernel
theorem dd_Machine_step_80 : decode prog_5_method_7_code 80 = .ok (.invokevirtual 99, 3) := by decide +kernel
theorem dd_Machine_step_83 : decode prog_5_method_7_code 83 = .ok (.goto 128, 3) := by decide +kernel
theorem dd_Machine_step_86 : decode prog_5_method_7_code 86 = .ok (.iload_n 1, 1) := by decide +kernel
theorem dd_Machine_step_87 : decode prog_5_method_7_code 87 = .ok (.sipush 208, 3) := by decide +kernel
theorem dd_Machine_step_90 : decode prog_5_method_7_code 90 = .ok (.if_icmp .ge 11, 3) := by decide +kernel
theorem dd_Machine_step_93 : decode prog_5_method_7_code 93 = .ok (.aload_n 0, 1) := by decide +kernel
theorem dd_Machine_step_94 : decode prog_5_method_7_code 94 = .ok (.iload_n 1, 1) := by decide +kernel
theorem dd_Machine_step_95 : decode prog_5_method_7_code 95 = .ok (.invokevirtual 197, 3) := by decide +kernel
theorem dd_Machine_step_98 : decode prog_5_method_7_code 98 = .ok (.goto 113, 3) := by decide +kernel
theorem dd_Machine_step_101 : decode prog_5_method_7_code 101 = .ok (.iload_n 1, 1) := by decide +kernel
theorem dd_Machine_step_102 : decode prog_5_method_7_code 102 = .ok (.sipush 256, 3) := by decide +kernel
theorem dd_Machine_step_105 : decode prog_5_method_7_code 105 = .ok (.if_icmp .ge 12, 3) := by decide +kernel
theorem dd_Machine_step_108 : decode prog_5_method_7_code 108 = .ok (.aload_n 0, 1) := by decide +kernel
theorem dd_Machine_step_109 : decode prog_5_method_7_code 109 = .ok (.iload_n 1, 1) := by decide +kernel
theorem dd_Machine_step_110 : decode prog_5_method_7_code 110 = .ok (.iload_n 2, 1) := by decide +kernel
theorem dd_Machine_step_111 : decode prog_5_method_7_code 111 = .ok (.invokevirtual 200, 3) := by decide +kernel
theorem dd_Machine_step_114 : decode prog_5_method_7_code 114 = .ok (.goto 97, 3) := by decide +kernel
theorem dd_Machine_step_117 : decode prog_5_method_7_code 117 = .ok (.iload_n 1, 1) := by decide +kernel
theorem dd_Machine_step_118 : decode prog_5_method_7_code 118 = .ok (.sipush 262, 3) := by decide +kernel
theorem dd_Machine_step_121 : decode prog_5_method_7_code 121 = .ok (.if_icmp .ge 34, 3) := by decide +kernel
theorem dd_Machine_step_124 : decode prog_5_method_7_code 124 = .ok (.aload_n 0, 1) := by decide +kernel
theorem dd_Machine_step_125 : decode prog_5_method_7_code 125 = .ok (.iload_n 1, 1) := by decide +kernel
theorem dd_Machine_step_126 : decode prog_5_method_7_code 126 = .ok (.sipush 256, 3) := by decide +kernel
theorem dd_Machine_step_129 : decode prog_5_method_7_code 129 = .ok (.isub, 1) := by decide +kernel
theorem dd_Machine_step_130 : decode prog_5_method_7_code 130 = .ok (.aload_n 0, 1) := by decide +kernel
theorem dd_Machine_step_131 : decode prog_5_method_7_code 131 = .ok (.getfield 65, 3) := by decide +kernel
theorem dd_Machine_step_134 : decode prog_5_method_7_code 134 = .ok (.getfield 187, 3) := by decide +kernel
theorem dd_Machine_step_137 : decode prog_5_method_7_code 137 = .ok (.iload_n 2, 1) := by decide +kernel
theorem dd_Machine_step_138 : decode prog_5_method_7_code 138 = .ok (.iaload, 1) := by decide +kernel
theorem dd_Machine_step_139 : decode prog_5_method_7_code 139 = .ok (.aload_n 0, 1) := by decide +kernel
theorem dd_Machine_step_140 : decode prog_5_method_7_code 140 = .ok (.getfield 65, 3) := by decide +kernel
theorem dd_Machine_step_143 : decode prog_5_method_7_code 143 = .ok (.getfield 191, 3) := by decide +kernel
theorem dd_Machine_step_146 : decode prog_5_method_7_code 146 = .ok (.iload_n 2, 1) := by decide +kernel
theorem dd_Machine_step_147 : decode prog_5_method_7_code 147 = .ok (.laload, 1) := by decide +kernel
theorem dd_Machine_step_148 : decode prog_5_method_7_code 148 = .ok (.l2i, 1) := by decide +kernel
theorem dd_Machine_step_149 : decode prog_5_method_7_code 149 = .ok (.invokevirtual 203, 3) := by decide +kernel
theorem dd_Machine_step_152 : decode prog_5_method_7_code 152 = .ok (.goto 59, 3) := by decide +kernel
theorem dd_Machine_step_155 : decode prog_5_method_7_code 155 = .ok (.iload_n 1, 1) := by decide +kernel
theorem dd_Machine_step_156 : decode prog_5_method_7_code 156 = .ok (.sipush 276, 3) := by decide +kernel
theorem dd_Machine_step_159 : decode prog_5_method_7_code 159 = .ok (.if_icmp .ge 34, 3) := by decide +kernel
theorem dd_Machine_step_162 : decode prog_5_method_7_code 162 = .ok (.aload_n 0, 1) := by decide +kernel
theorem dd_Machine_step_163 : decode prog_5_method_7_code 163 = .ok (.iload_n 1, 1) := by decide +kernel
theorem dd_Machine_step_164 : decode prog_5_method_7_code 164 = .ok (.sipush 256, 3) := by decide +kernel
theorem dd_Machine_step_167 : decode prog_5_method_7_code 167 = .ok (.isub, 1) := by decide +kernel
theorem dd_Machine_step_168 : decode prog_5_method_7_code 168 = .ok (.aload_n 0, 1) := by decide +kernel
theorem dd_Machine_step_169 : decode prog_5_method_7_code 169 = .ok (.getfield 65, 3) := by decide +kernel
theorem dd_Machine_step_172 : decode prog_5_method_7_code 172 = .ok (.getfield 187, 3) := by decide +kernel
theorem dd_Machine_step_175 : decode prog_5_method_7_code 175 = .ok (.iload_n 2, 1) := by decide +kernel
theorem dd_Machine_step_176 : decode prog_5_method_7_code 176 = .ok (.iaload, 1) := by decide +kernel
theorem dd_Machine_step_177 : decode prog_5_method_7_code 177 = .ok (.aload_n 0, 1) := by decide +kernel
theorem dd_Machine_step_178 : decode prog_5_method_7_code 178 = .ok (.getfield 65, 3) := by decide +kernel
theorem dd_Machine_step_181 : decode prog_5_method_7_code 181 = .ok (.getfield 191, 3) := by decide +kernel
theorem dd_Machine_step_184 : decode prog_5_method_7_code 184 = .ok (.iload_n 2, 1) := by decide +kernel
theorem dd_Machine_step_185 : decode prog_5_method_7_code 185 = .ok (.laload, 1) := by decide +kernel
theorem dd_Machine_step_186 : decode prog_5_method_7_code 186 = .ok (.l2i, 1) := by decide +kernel
theorem dd_Machine_step_187 : decode prog_5_method_7_code 187 = .ok (.invokevirtual 207, 3) := by decide +kernel
theorem dd_Machine_step_190 : decode prog_5_method_7_code 190 = .ok (.goto 21, 3) := by decide +kernel
theorem dd_Machine_step_193 : decode prog_5_method_7_code 193 = .ok (.aload_n 0, 1) := by decide +kernel
theorem dd_Machine_step_194 : decode prog_5_method_7_code 194 = .ok (.iload_n 1, 1) := by decide +kernel
theorem dd_Machine_step_195 : decode prog_5_method_7_code 195 = .ok (.sipush 256, 3) := by decide +kernel
theorem dd_Machine_step_198 : decode prog_5_method_7_code 198 = .ok (.isub, 1) := by decide +kernel
theorem dd_Machine_step_199 : decode prog_5_method_7_code 199 = .ok (.aload_n 0, 1) := by decide +kernel
theorem dd_Machine_step_200 : decode prog_5_method_7_code 200 = .ok (.getfield 65, 3) := by decide +kernel
theorem dd_Machine_step_203 : decode prog_5_method_7_code 203 = .ok (.getfield 187, 3) := by decide +kernel
theorem dd_Machine_step_206 : decode prog_5_method_7_code 206 = .ok (.iload_n 2, 1) := by decide +kernel
theorem dd_Machine_step_207 : decode prog_5_method_7_code 207 = .ok (.iaload, 1) := by decide +kernel
theorem dd_Machine_step_208 : decode prog_5_method_7_code 208 = .ok (.invokevirtual 210, 3) := by decide +kernel
theorem dd_Machine_step_211 : decode prog_5_method_7_code 211 = .ok (.return_, 1) := by decide +kernel
theorem dd_Machine_run_0 : decode prog_5_method_6_code 0 = .ok (.aload_n 0, 1) := by decide +kernel
theorem dd_Machine_run_1 : decode prog_5_method_6_code 1 = .ok (.iload_n 2, 1) := by decide +kernel
theorem dd_Machine_run_2 : decode prog_5_method_6_code 2 = .ok (.putfield 160, 3) := by decide +kernel
theorem dd_Machine_run_5 : decode prog_5_method_6_code 5 = .ok (.aload_n 0, 1) := by decide +kernel
theorem dd_Machine_run_6 : decode prog_5_method_6_code 6 = .ok (.iconst 0, 1) := by decide +kernel
theorem dd_Machine_run_7 : decode prog_5_method_6_code 7 = .ok (.putfield 163, 3) := by decide +kernel
theorem dd_Machine_run_10 : decode prog_5_method_6_code 10 = .ok (.aload_n 0, 1) := by decide +kernel
theorem dd_Machine_run_11 : decode prog_5_method_6_code 11 = .ok (.iconst 0, 1) := by decide +kernel
theorem dd_Machine_run_12 : decode prog_5_method_6_code 12 = .ok (.putfield 166, 3) := by decide +kernel
theorem dd_Machine_run_15 : decode prog_5_method_6_code 15 = .ok (.aload_n 0, 1) := by decide +kernel
theorem dd_Machine_run_16 : decode prog_5_method_6_code 16 = .ok (.iload_n 1, 1) := by decide +kernel
theorem dd_Machine_run_17 : decode prog_5_method_6_code 17 = .ok (.invokevirtual 169, 3) := by decide +kernel
theorem dd_Machine_run_20 : decode prog_5_method_6_code 20 = .ok (.iload_n 2, 1) := by decide +kernel
theorem dd_Machine_run_21 : decode prog_5_method_6_code 21 = .ok (.i2l, 1) := by decide +kernel
theorem dd_Machine_run_22 : decode prog_5_method_6_code 22 = .ok (.lconst 1, 1) := by decide +kernel
theorem dd_Machine_run_23 : decode prog_5_method_6_code 23 = .ok (.ladd, 1) := by decide +kernel
theorem dd_Machine_run_24 : decode prog_5_method_6_code 24 = .ok (.ldc2_w 172, 3) := by decide +kernel
theorem dd_Machine_run_27 : decode prog_5_method_6_code 27 = .ok (.lmul, 1) := by decide +kernel
theorem dd_Machine_run_28 : decode prog_5_method_6_code 28 = .ok (.lstore_n 3, 1) := by decide +kernel
theorem dd_Machine_run_29 : decode prog_5_method_6_code 29 = .ok (.lload_n 3, 1) := by decide +kernel
theorem dd_Machine_run_30 : decode prog_5_method_6_code 30 = .ok (.lconst 0, 1) := by decide +kernel
theorem dd_Machine_run_31 : decode prog_5_method_6_code 31 = .ok (.lcmp, 1) := by decide +kernel
theorem dd_Machine_run_32 : decode prog_5_method_6_code 32 = .ok (.ifCond .le 56, 3) := by decide +kernel
theorem dd_Machine_run_35 : decode prog_5_method_6_code 35 = .ok (.aload_n 0, 1) := by decide +kernel
theorem dd_Machine_run_36 : decode prog_5_method_6_code 36 = .ok (.getfield 163, 3) := by decide +kernel
theorem dd_Machine_run_39 : decode prog_5_method_6_code 39 = .ok (.ifCond .ne 49, 3) := by decide +kernel
theorem dd_Machine_run_42 : decode prog_5_method_6_code 42 = .ok (.aload_n 0, 1) := by decide +kernel
theorem dd_Machine_run_43 : decode prog_5_method_6_code 43 = .ok (.getfield 166, 3) := by decide +kernel
theorem dd_Machine_run_46 : decode prog_5_method_6_code 46 = .ok (.ifCond .le 42, 3) := by decide +kernel
theorem dd_Machine_run_49 : decode prog_5_method_6_code 49 = .ok (.aload_n 0, 1) := by decide +kernel
theorem dd_Machine_run_50 : decode prog_5_method_6_code 50 = .ok (.getfield 174, 3) := by decide +kernel
theorem dd_Machine_run_53 : decode prog_5_method_6_code 53 = .ok (.istore 5, 2) := by decide +kernel
theorem dd_Machine_run_55 : decode prog_5_method_6_code 55 = .ok (.aload_n 0, 1) := by decide +kernel
theorem dd_Machine_run_56 : decode prog_5_method_6_code 56 = .ok (.dup, 1) := by decide +kernel
theorem dd_Machine_run_57 : decode prog_5_method_6_code 57 = .ok (.getfield 174, 3) := by decide +kernel
theorem dd_Machine_run_60 : decode prog_5_method_6_code 60 = .ok (.iconst 1, 1) := by decide +kernel
theorem dd_Machine_run_61 : decode prog_5_method_6_code 61 = .ok (.iadd, 1) := by decide +kernel
theorem dd_Machine_run_62 : decode prog_5_method_6_code 62 = .ok (.putfield 174, 3) := by decide +kernel
theorem dd_Machine_run_65 : decode prog_5_method_6_code 65 = .ok (.aload_n 0, 1) := by decide +kernel
theorem dd_Machine_run_66 : decode prog_5_method_6_code 66 = .ok (.aload_n 0, 1) := by decide +kernel
theorem dd_Machine_run_67 : decode prog_5_method_6_code 67 = .ok (.getfield 65, 3) := by decide +kernel
theorem dd_Machine_run_70 : decode prog_5_method_6_code 70 = .ok (.getfield 177, 3) := by decide +kernel
theorem dd_Machine_run_73 : decode prog_5_method_6_code 73 = .ok (.iload 5, 2) := by decide +kernel
theorem dd_Machine_run_75 : decode prog_5_method_6_code 75 = .ok (.saload, 1) := by decide +kernel
theorem dd_Machine_run_76 : decode prog_5_method_6_code 76 = .ok (.iload 5, 2) := by decide +kernel
theorem dd_Machine_run_78 : decode prog_5_method_6_code 78 = .ok (.invokevirtual 181, 3) := by decide +kernel
theorem dd_Machine_run_81 : decode prog_5_method_6_code 81 = .ok (.lload_n 3, 1) := by decide +kernel
theorem dd_Machine_run_82 : decode prog_5_method_6_code 82 = .ok (.lconst 1, 1) := by decide +kernel
theorem dd_Machine_run_83 : decode prog_5_method_6_code 83 = .ok (.lsub, 1) := by decide +kernel
theorem dd_Machine_run_84 : decode prog_5_method_6_code 84 = .ok (.lstore_n 3, 1) := by decide +kernel
theorem dd_Machine_run_85 : decode prog_5_method_6_code 85 = .ok (.goto (-56), 3) := by decide +kernel
theorem dd_Machine_run_88 : decode prog_5_method_6_code 88 = .ok (.aload_n 0, 1) := by decide +kernel
theorem dd_Machine_run_89 : decode prog_5_method_6_code 89 = .ok (.getfield 163, 3) := by decide +kernel
theorem dd_Machine_run_92 : decode prog_5_method_6_code 92 = .ok (.ireturn, 1) := by decide +kernel
theorem dd_House_shown_0 : decode prog_1_method_11_code 0 = .ok (.aload_n 0, 1) := by decide +kernel
theorem dd_House_shown_1 : decode prog_1_method_11_code 1 = .ok (.getfield 185, 3) := by decide +kernel
theorem dd_House_shown_4 : decode prog_1_method_11_code 4 = .ok (.iload_n 1, 1) := by decide +kernel
theorem dd_House_shown_5 : decode prog_1_method_11_code 5 = .ok (.baload, 1) := by decide +kernel
theorem dd_House_shown_6 : decode prog_1_method_11_code 6 = .ok (.ifCond .ne 10, 3) := by decide +kernel
theorem dd_House_shown_9 : decode prog_1_method_11_code 9 = .ok (.aload_n 0, 1) := by decide +kernel
theorem dd_House_shown_10 : decode prog_1_method_11_code 10 = .ok (.getfield 189, 3) := by decide +kernel
theorem dd_House_shown_13 : decode prog_1_method_11_code 13 = .ok (.iload_n 1, 1) := by decide +kernel
theorem dd_House_shown_14 : decode prog_1_method_11_code 14 = .ok (.laload, 1) := by decide +kernel
theorem dd_House_shown_15 : decode prog_1_method_11_code 15 = .ok (.lreturn, 1) := by decide +kernel
theorem dd_House_shown_16 : decode prog_1_method_11_code 16 = .ok (.aload_n 0, 1) := by decide +kernel
theorem dd_House_shown_17 : decode prog_1_method_11_code 17 = .ok (.getfield 189, 3) := by decide +kernel
theorem dd_House_shown_20 : decode prog_1_method_11_code 20 = .ok (.iload_n 1, 1) := by decide +kernel
theorem dd_House_shown_21 : decode prog_1_method_11_code 21 = .ok (.laload, 1) := by decide +kernel
theorem dd_House_shown_22 : decode prog_1_method_11_code 22 = .ok (.lconst 0, 1) := by decide +kernel
theorem dd_House_shown_23 : decode prog_1_method_11_code 23 = .ok (.lcmp, 1) := by decide +kernel
theorem dd_House_shown_24 : decode prog_1_method_11_code 24 = .ok (.ifCond .ne 7, 3) := by decide +kernel
theorem dd_House_shown_27 : decode prog_1_method_11_code 27 = .ok (.lconst 0, 1) := by decide +kernel
theorem dd_House_shown_28 : decode prog_1_method_11_code 28 = .ok (.goto 4, 3) := by decide +kernel
theorem dd_House_shown_31 : decode prog_1_method_11_code 31 = .ok (.lconst 1, 1) := by decide +kernel
theorem dd_House_shown_32 : decode prog_1_method_11_code 32 = .ok (.lreturn, 1) := by decide +kernel
theorem dd_House_keepResults_0 : decode prog_1_method_10_code 0 = .ok (.aload_n 0, 1) := by decide +kernel
theorem dd_House_keepResults_1 : decode prog_1_method_10_code 1 = .ok (.aload_n 0, 1) := by decide +kernel
theorem dd_House_keepResults_2 : decode prog_1_method_10_code 2 = .ok (.getfield 23, 3) := by decide +kernel
theorem dd_House_keepResults_5 : decode prog_1_method_10_code 5 = .ok (.getfield 159, 3) := by decide +kernel
theorem dd_House_keepResults_8 : decode prog_1_method_10_code 8 = .ok (.getfield 179, 3) := by decide +kernel
theorem dd_House_keepResults_11 : decode prog_1_method_10_code 11 = .ok (.iload_n 1, 1) := by decide +kernel
theorem dd_House_keepResults_12 : decode prog_1_method_10_code 12 = .ok (.iaload, 1) := by decide +kernel
theorem dd_House_keepResults_13 : decode prog_1_method_10_code 13 = .ok (.putfield 64, 3) := by decide +kernel
theorem dd_House_keepResults_16 : decode prog_1_method_10_code 16 = .ok (.iconst 0, 1) := by decide +kernel
theorem dd_House_keepResults_17 : decode prog_1_method_10_code 17 = .ok (.istore_n 2, 1) := by decide +kernel
theorem dd_House_keepResults_18 : decode prog_1_method_10_code 18 = .ok (.iload_n 2, 1) := by decide +kernel
theorem dd_House_keepResults_19 : decode prog_1_method_10_code 19 = .ok (.aload_n 0, 1) := by decide +kernel
theorem dd_House_keepResults_20 : decode prog_1_method_10_code 20 = .ok (.getfield 64, 3) := by decide +kernel
theorem dd_House_keepResults_23 : decode prog_1_method_10_code 23 = .ok (.if_icmp .ge 26, 3) := by decide +kernel
theorem dd_House_keepResults_26 : decode prog_1_method_10_code 26 = .ok (.aload_n 0, 1) := by decide +kernel
theorem dd_House_keepResults_27 : decode prog_1_method_10_code 27 = .ok (.getfield 17, 3) := by decide +kernel
theorem dd_House_keepResults_30 : decode prog_1_method_10_code 30 = .ok (.iload_n 2, 1) := by decide +kernel
theorem dd_House_keepResults_31 : decode prog_1_method_10_code 31 = .ok (.aload_n 0, 1) := by decide +kernel
theorem dd_House_keepResults_32 : decode prog_1_method_10_code 32 = .ok (.getfield 46, 3) := by decide +kernel
theorem dd_House_keepResults_35 : decode prog_1_method_10_code 35 = .ok (.getfield 110, 3) := by decide +kernel
theorem dd_House_keepResults_38 : decode prog_1_method_10_code 38 = .ok (.iload_n 2, 1) := by decide +kernel
theorem dd_House_keepResults_39 : decode prog_1_method_10_code 39 = .ok (.invokestatic 181, 3) := by decide +kernel
theorem dd_House_keepResults_42 : decode prog_1_method_10_code 42 = .ok (.lastore, 1) := by decide +kernel
theorem dd_House_keepResults_43 : decode prog_1_method_10_code 43 = .ok (.iinc 2 1, 3) := by decide +kernel
theorem dd_House_keepResults_46 : decode prog_1_method_10_code 46 = .ok (.goto (-28), 3) := by decide +kernel
theorem dd_House_keepResults_49 : decode prog_1_method_10_code 49 = .ok (.return_, 1) := by decide +kernel
theorem dd_House_call_0 : decode prog_1_method_5_code 0 = .ok (.iload_n 1, 1) := by decide +kernel
theorem dd_House_call_1 : decode prog_1_method_5_code 1 = .ok (.ifCond .ge 11, 3) := by decide +kernel
theorem dd_House_call_4 : decode prog_1_method_5_code 4 = .ok (.new 54, 3) := by decide +kernel
theorem dd_House_call_7 : decode prog_1_method_5_code 7 = .ok (.dup, 1) := by decide +kernel
theorem dd_House_call_8 : decode prog_1_method_5_code 8 = .ok (.invokespecial 56, 3) := by decide +kernel
theorem dd_House_call_11 : decode prog_1_method_5_code 11 = .ok (.athrow, 1) := by decide +kernel
theorem dd_House_call_12 : decode prog_1_method_5_code 12 = .ok (.aload_n 0, 1) := by decide +kernel
theorem dd_House_call_13 : decode prog_1_method_5_code 13 = .ok (.getfield 57, 3) := by decide +kernel
theorem dd_House_call_16 : decode prog_1_method_5_code 16 = .ok (.istore_n 2, 1) := by decide +kernel
theorem dd_House_call_17 : decode prog_1_method_5_code 17 = .ok (.aload_n 0, 1) := by decide +kernel
theorem dd_House_call_18 : decode prog_1_method_5_code 18 = .ok (.getfield 119, 3) := by decide +kernel
theorem dd_House_call_21 : decode prog_1_method_5_code 21 = .ok (.istore_n 3, 1) := by decide +kernel
theorem dd_House_call_22 : decode prog_1_method_5_code 22 = .ok (.aload_n 0, 1) := by decide +kernel
theorem dd_House_call_23 : decode prog_1_method_5_code 23 = .ok (.iconst 0, 1) := by decide +kernel
theorem dd_House_call_24 : decode prog_1_method_5_code 24 = .ok (.putfield 57, 3) := by decide +kernel
theorem dd_House_call_27 : decode prog_1_method_5_code 27 = .ok (.aload_n 0, 1) := by decide +kernel
theorem dd_House_call_28 : decode prog_1_method_5_code 28 = .ok (.iconst 0, 1) := by decide +kernel
theorem dd_House_call_29 : decode prog_1_method_5_code 29 = .ok (.putfield 119, 3) := by decide +kernel
theorem dd_House_call_32 : decode prog_1_method_5_code 32 = .ok (.aload_n 0, 1) := by decide +kernel
theorem dd_House_call_33 : decode prog_1_method_5_code 33 = .ok (.iconst 0, 1) := by decide +kernel
theorem dd_House_call_34 : decode prog_1_method_5_code 34 = .ok (.putfield 64, 3) := by decide +kernel
theorem dd_House_call_37 : decode prog_1_method_5_code 37 = .ok (.aload_n 0, 1) := by decide +kernel
theorem dd_House_call_38 : decode prog_1_method_5_code 38 = .ok (.getfield 50, 3) := by decide +kernel
theorem dd_House_call_41 : decode prog_1_method_5_code 41 = .ok (.ifCond .ne 5, 3) := by decide +kernel
theorem dd_House_call_44 : decode prog_1_method_5_code 44 = .ok (.iconst (-1), 1) := by decide +kernel
theorem dd_House_call_45 : decode prog_1_method_5_code 45 = .ok (.ireturn, 1) := by decide +kernel
theorem dd_House_call_46 : decode prog_1_method_5_code 46 = .ok (.aload_n 0, 1) := by decide +kernel
theorem dd_House_call_47 : decode prog_1_method_5_code 47 = .ok (.iload_n 2, 1) := by decide +kernel
theorem dd_House_call_48 : decode prog_1_method_5_code 48 = .ok (.invokevirtual 122, 3) := by decide +kernel
theorem dd_House_call_51 : decode prog_1_method_5_code 51 = .ok (.istore 4, 2) := by decide +kernel
theorem dd_House_call_53 : decode prog_1_method_5_code 53 = .ok (.iload 4, 2) := by decide +kernel
theorem dd_House_call_55 : decode prog_1_method_5_code 55 = .ok (.iconst (-1), 1) := by decide +kernel
theorem dd_House_call_56 : decode prog_1_method_5_code 56 = .ok (.if_icmp .ne 6, 3) := by decide +kernel
theorem dd_House_call_59 : decode prog_1_method_5_code 59 = .ok (.bipush (-2), 2) := by decide +kernel
theorem dd_House_call_61 : decode prog_1_method_5_code 61 = .ok (.ireturn, 1) := by decide +kernel
theorem dd_House_call_62 : decode prog_1_method_5_code 62 = .ok (.aload_n 0, 1) := by decide +kernel
theorem dd_House_call_63 : decode prog_1_method_5_code 63 = .ok (.getfield 23, 3) := by decide +kernel
theorem dd_House_call_66 : decode prog_1_method_5_code 66 = .ok (.getfield 83, 3) := by decide +kernel
theorem dd_House_call_69 : decode prog_1_method_5_code 69 = .ok (.getfield 126, 3) := by decide +kernel
theorem dd_House_call_72 : decode prog_1_method_5_code 72 = .ok (.iload 4, 2) := by decide +kernel
theorem dd_House_call_74 : decode prog_1_method_5_code 74 = .ok (.iaload, 1) := by decide +kernel
theorem dd_House_call_75 : decode prog_1_method_5_code 75 = .ok (.istore 5, 2) := by decide +kernel
theorem dd_House_call_77 : decode prog_1_method_5_code 77 = .ok (.aload_n 0, 1) := by decide +kernel
theorem dd_House_call_78 : decode prog_1_method_5_code 78 = .ok (.iload 5, 2) := by decide +kernel
theorem dd_House_call_80 : decode prog_1_method_5_code 80 = .ok (.iload_n 3, 1) := by decide +kernel
theorem dd_House_call_81 : decode prog_1_method_5_code 81 = .ok (.invokevirtual 130, 3) := by decide +kernel
theorem dd_House_call_84 : decode prog_1_method_5_code 84 = .ok (.ifCond .ne 6, 3) := by decide +kernel
theorem dd_House_call_87 : decode prog_1_method_5_code 87 = .ok (.bipush (-3), 2) := by decide +kernel
theorem dd_House_call_89 : decode prog_1_method_5_code 89 = .ok (.ireturn, 1) := by decide +kernel
theorem dd_House_call_90 : decode prog_1_method_5_code 90 = .ok (.aload_n 0, 1) := by decide +kernel
theorem dd_House_call_91 : decode prog_1_method_5_code 91 = .ok (.iload 5, 2) := by decide +kernel
theorem dd_House_call_93 : decode prog_1_method_5_code 93 = .ok (.iload_n 3, 1) := by decide +kernel
theorem dd_House_call_94 : decode prog_1_method_5_code 94 = .ok (.invokevirtual 134, 3) := by decide +kernel
theorem dd_House_call_97 : decode prog_1_method_5_code 97 = .ok (.aload_n 0, 1) := by decide +kernel
theorem dd_House_call_98 : decode prog_1_method_5_code 98 = .ok (.getfield 46, 3) := by decide +kernel
theorem dd_House_call_101 : decode prog_1_method_5_code 101 = .ok (.iload 4, 2) := by decide +kernel
theorem dd_House_call_103 : decode prog_1_method_5_code 103 = .ok (.iload_n 1, 1) := by decide +kernel
theorem dd_House_call_104 : decode prog_1_method_5_code 104 = .ok (.invokevirtual 103, 3) := by decide +kernel
theorem dd_House_call_107 : decode prog_1_method_5_code 107 = .ok (.istore 6, 2) := by decide +kernel
theorem dd_House_call_109 : decode prog_1_method_5_code 109 = .ok (.aload_n 0, 1) := by decide +kernel
theorem dd_House_call_110 : decode prog_1_method_5_code 110 = .ok (.aload_n 0, 1) := by decide +kernel
theorem dd_House_call_111 : decode prog_1_method_5_code 111 = .ok (.getfield 46, 3) := by decide +kernel
theorem dd_House_call_114 : decode prog_1_method_5_code 114 = .ok (.getfield 107, 3) := by decide +kernel
theorem dd_House_call_117 : decode prog_1_method_5_code 117 = .ok (.putfield 67, 3) := by decide +kernel
theorem dd_House_call_120 : decode prog_1_method_5_code 120 = .ok (.iload 6, 2) := by decide +kernel
theorem dd_House_call_122 : decode prog_1_method_5_code 122 = .ok (.ifCond .ne 9, 3) := by decide +kernel
theorem dd_House_call_125 : decode prog_1_method_5_code 125 = .ok (.aload_n 0, 1) := by decide +kernel
theorem dd_House_call_126 : decode prog_1_method_5_code 126 = .ok (.iload 5, 2) := by decide +kernel
theorem dd_House_call_128 : decode prog_1_method_5_code 128 = .ok (.invokevirtual 138, 3) := by decide +kernel
theorem dd_House_call_131 : decode prog_1_method_5_code 131 = .ok (.aload_n 0, 1) := by decide +kernel
theorem dd_House_call_132 : decode prog_1_method_5_code 132 = .ok (.getfield 46, 3) := by decide +kernel
theorem dd_House_call_135 : decode prog_1_method_5_code 135 = .ok (.getfield 110, 3) := by decide +kernel
theorem dd_House_call_138 : decode prog_1_method_5_code 138 = .ok (.iconst 0, 1) := by decide +kernel
theorem dd_House_call_139 : decode prog_1_method_5_code 139 = .ok (.putfield 114, 3) := by decide +kernel
theorem dd_House_call_142 : decode prog_1_method_5_code 142 = .ok (.iload 6, 2) := by decide +kernel
theorem dd_House_call_144 : decode prog_1_method_5_code 144 = .ok (.ireturn, 1) := by decide +kernel
theorem dd_House_result_0 : decode prog_1_method_12_code 0 = .ok (.iload_n 1, 1) := by decide +kernel
theorem dd_House_result_1 : decode prog_1_method_12_code 1 = .ok (.ifCond .lt 11, 3) := by decide +kernel
theorem dd_House_result_4 : decode prog_1_method_12_code 4 = .ok (.iload_n 1, 1) := by decide +kernel
theorem dd_House_result_5 : decode prog_1_method_12_code 5 = .ok (.aload_n 0, 1) := by decide +kernel
theorem dd_House_result_6 : decode prog_1_method_12_code 6 = .ok (.getfield 64, 3) := by decide +kernel
theorem dd_House_result_9 : decode prog_1_method_12_code 9 = .ok (.if_icmp .lt 11, 3) := by decide +kernel
theorem dd_House_result_12 : decode prog_1_method_12_code 12 = .ok (.new 192, 3) := by decide +kernel
theorem dd_House_result_15 : decode prog_1_method_12_code 15 = .ok (.dup, 1) := by decide +kernel
theorem dd_House_result_16 : decode prog_1_method_12_code 16 = .ok (.invokespecial 194, 3) := by decide +kernel
theorem dd_House_result_19 : decode prog_1_method_12_code 19 = .ok (.athrow, 1) := by decide +kernel
theorem dd_House_result_20 : decode prog_1_method_12_code 20 = .ok (.aload_n 0, 1) := by decide +kernel
theorem dd_House_result_21 : decode prog_1_method_12_code 21 = .ok (.getfield 17, 3) := by decide +kernel
theorem dd_House_result_24 : decode prog_1_method_12_code 24 = .ok (.iload_n 1, 1) := by decide +kernel
theorem dd_House_result_25 : decode prog_1_method_12_code 25 = .ok (.laload, 1) := by decide +kernel
theorem dd_House_result_26 : decode prog_1_method_12_code 26 = .ok (.lreturn, 1) := by decide +kernel
theorem dd_House_global_0 : decode prog_1_method_13_code 0 = .ok (.aload_n 0, 1) := by decide +kernel
theorem dd_House_global_1 : decode prog_1_method_13_code 1 = .ok (.getfield 50, 3) := by decide +kernel
theorem dd_House_global_4 : decode prog_1_method_13_code 4 = .ok (.ifCond .eq 37, 3) := by decide +kernel
theorem dd_House_global_7 : decode prog_1_method_13_code 7 = .ok (.iload_n 1, 1) := by decide +kernel
theorem dd_House_global_8 : decode prog_1_method_13_code 8 = .ok (.ifCond .lt 33, 3) := by decide +kernel
theorem dd_House_global_11 : decode prog_1_method_13_code 11 = .ok (.iload_n 1, 1) := by decide +kernel
theorem dd_House_global_12 : decode prog_1_method_13_code 12 = .ok (.aload_n 0, 1) := by decide +kernel
theorem dd_House_global_13 : decode prog_1_method_13_code 13 = .ok (.getfield 23, 3) := by decide +kernel
theorem dd_House_global_16 : decode prog_1_method_13_code 16 = .ok (.getfield 141, 3) := by decide +kernel
theorem dd_House_global_19 : decode prog_1_method_13_code 19 = .ok (.getfield 87, 3) := by decide +kernel
theorem dd_House_global_22 : decode prog_1_method_13_code 22 = .ok (.if_icmp .ge 19, 3) := by decide +kernel
theorem dd_House_global_25 : decode prog_1_method_13_code 25 = .ok (.aload_n 0, 1) := by decide +kernel
theorem dd_House_global_26 : decode prog_1_method_13_code 26 = .ok (.getfield 23, 3) := by decide +kernel
theorem dd_House_global_29 : decode prog_1_method_13_code 29 = .ok (.getfield 141, 3) := by decide +kernel
theorem dd_House_global_32 : decode prog_1_method_13_code 32 = .ok (.getfield 126, 3) := by decide +kernel
theorem dd_House_global_35 : decode prog_1_method_13_code 35 = .ok (.iload_n 1, 1) := by decide +kernel
theorem dd_House_global_36 : decode prog_1_method_13_code 36 = .ok (.iaload, 1) := by decide +kernel
theorem dd_House_global_37 : decode prog_1_method_13_code 37 = .ok (.iconst 3, 1) := by decide +kernel
theorem dd_House_global_38 : decode prog_1_method_13_code 38 = .ok (.if_icmp .eq 11, 3) := by decide +kernel
theorem dd_House_global_41 : decode prog_1_method_13_code 41 = .ok (.new 192, 3) := by decide +kernel
theorem dd_House_global_44 : decode prog_1_method_13_code 44 = .ok (.dup, 1) := by decide +kernel
theorem dd_House_global_45 : decode prog_1_method_13_code 45 = .ok (.invokespecial 194, 3) := by decide +kernel
theorem dd_House_global_48 : decode prog_1_method_13_code 48 = .ok (.athrow, 1) := by decide +kernel
theorem dd_House_global_49 : decode prog_1_method_13_code 49 = .ok (.aload_n 0, 1) := by decide +kernel
theorem dd_House_global_50 : decode prog_1_method_13_code 50 = .ok (.getfield 46, 3) := by decide +kernel
theorem dd_House_global_53 : decode prog_1_method_13_code 53 = .ok (.getfield 195, 3) := by decide +kernel
theorem dd_House_global_56 : decode prog_1_method_13_code 56 = .ok (.aload_n 0, 1) := by decide +kernel
theorem dd_House_global_57 : decode prog_1_method_13_code 57 = .ok (.getfield 23, 3) := by decide +kernel
theorem dd_House_global_60 : decode prog_1_method_13_code 60 = .ok (.getfield 141, 3) := by decide +kernel
theorem dd_House_global_63 : decode prog_1_method_13_code 63 = .ok (.getfield 153, 3) := by decide +kernel
theorem dd_House_global_66 : decode prog_1_method_13_code 66 = .ok (.iload_n 1, 1) := by decide +kernel
theorem dd_House_global_67 : decode prog_1_method_13_code 67 = .ok (.laload, 1) := by decide +kernel
theorem dd_House_global_68 : decode prog_1_method_13_code 68 = .ok (.l2i, 1) := by decide +kernel
theorem dd_House_global_69 : decode prog_1_method_13_code 69 = .ok (.invokestatic 181, 3) := by decide +kernel
theorem dd_House_global_72 : decode prog_1_method_13_code 72 = .ok (.lreturn, 1) := by decide +kernel
theorem dd_House_at_0 : decode prog_1_method_14_code 0 = .ok (.aload_n 0, 1) := by decide +kernel
theorem dd_House_at_1 : decode prog_1_method_14_code 1 = .ok (.getfield 50, 3) := by decide +kernel
theorem dd_House_at_4 : decode prog_1_method_14_code 4 = .ok (.ifCond .eq 23, 3) := by decide +kernel
theorem dd_House_at_7 : decode prog_1_method_14_code 7 = .ok (.iload_n 1, 1) := by decide +kernel
theorem dd_House_at_8 : decode prog_1_method_14_code 8 = .ok (.ifCond .lt 19, 3) := by decide +kernel
theorem dd_House_at_11 : decode prog_1_method_14_code 11 = .ok (.aload_n 0, 1) := by decide +kernel
theorem dd_House_at_12 : decode prog_1_method_14_code 12 = .ok (.getfield 46, 3) := by decide +kernel
theorem dd_House_at_15 : decode prog_1_method_14_code 15 = .ok (.getfield 198, 3) := by decide +kernel
theorem dd_House_at_18 : decode prog_1_method_14_code 18 = .ok (.iload_n 1, 1) := by decide +kernel
theorem dd_House_at_19 : decode prog_1_method_14_code 19 = .ok (.i2l, 1) := by decide +kernel
theorem dd_House_at_20 : decode prog_1_method_14_code 20 = .ok (.lconst 1, 1) := by decide +kernel
theorem dd_House_at_21 : decode prog_1_method_14_code 21 = .ok (.invokevirtual 202, 3) := by decide +kernel
theorem dd_House_at_24 : decode prog_1_method_14_code 24 = .ok (.ifCond .ne 11, 3) := by decide +kernel
theorem dd_House_at_27 : decode prog_1_method_14_code 27 = .ok (.new 192, 3) := by decide +kernel
theorem dd_House_at_30 : decode prog_1_method_14_code 30 = .ok (.dup, 1) := by decide +kernel
theorem dd_House_at_31 : decode prog_1_method_14_code 31 = .ok (.invokespecial 194, 3) := by decide +kernel
theorem dd_House_at_34 : decode prog_1_method_14_code 34 = .ok (.athrow, 1) := by decide +kernel
theorem dd_House_at_35 : decode prog_1_method_14_code 35 = .ok (.aload_n 0, 1) := by decide +kernel
theorem dd_House_at_36 : decode prog_1_method_14_code 36 = .ok (.getfield 46, 3) := by decide +kernel
theorem dd_House_at_39 : decode prog_1_method_14_code 39 = .ok (.getfield 198, 3) := by decide +kernel
theorem dd_House_at_42 : decode prog_1_method_14_code 42 = .ok (.iload_n 1, 1) := by decide +kernel
theorem dd_House_at_43 : decode prog_1_method_14_code 43 = .ok (.iconst 1, 1) := by decide +kernel
theorem dd_House_at_44 : decode prog_1_method_14_code 44 = .ok (.invokevirtual 208, 3) := by decide +kernel
theorem dd_House_at_47 : decode prog_1_method_14_code 47 = .ok (.l2i, 1) := by decide +kernel
theorem dd_House_at_48 : decode prog_1_method_14_code 48 = .ok (.ireturn, 1) := by decide +kernel
theorem dd_House_look_0 : decode prog_1_method_15_code 0 = .ok (.iload_n 1, 1) := by decide +kernel
theorem dd_House_look_1 : decode prog_1_method_15_code 1 = .ok (.ifCond .lt 9, 3) := by decide +kernel
theorem dd_House_look_4 : decode prog_1_method_15_code 4 = .ok (.iload_n 1, 1) := by decide +kernel
theorem dd_House_look_5 : decode prog_1_method_15_code 5 = .ok (.bipush 10, 2) := by decide +kernel
theorem dd_House_look_7 : decode prog_1_method_15_code 7 = .ok (.if_icmp .le 11, 3) := by decide +kernel
theorem dd_House_look_10 : decode prog_1_method_15_code 10 = .ok (.new 54, 3) := by decide +kernel
theorem dd_House_look_13 : decode prog_1_method_15_code 13 = .ok (.dup, 1) := by decide +kernel
theorem dd_House_look_14 : decode prog_1_method_15_code 14 = .ok (.invokespecial 56, 3) := by decide +kernel
theorem dd_House_look_17 : decode prog_1_method_15_code 17 = .ok (.athrow, 1) := by decide +kernel
theorem dd_House_look_18 : decode prog_1_method_15_code 18 = .ok (.iload_n 1, 1) := by decide +kernel
theorem dd_House_look_19 : decode prog_1_method_15_code 19 = .ok (.bipush 8, 2) := by decide +kernel
theorem dd_House_look_21 : decode prog_1_method_15_code 21 = .ok (.if_icmp .ne 8, 3) := by decide +kernel
theorem dd_House_look_24 : decode prog_1_method_15_code 24 = .ok (.aload_n 0, 1) := by decide +kernel
theorem dd_House_look_25 : decode prog_1_method_15_code 25 = .ok (.getfield 57, 3) := by decide +kernel
theorem dd_House_look_28 : decode prog_1_method_15_code 28 = .ok (.ireturn, 1) := by decide +kernel
theorem dd_House_look_29 : decode prog_1_method_15_code 29 = .ok (.iload_n 1, 1) := by decide +kernel
theorem dd_House_look_30 : decode prog_1_method_15_code 30 = .ok (.bipush 9, 2) := by decide +kernel
theorem dd_House_look_32 : decode prog_1_method_15_code 32 = .ok (.if_icmp .ne 8, 3) := by decide +kernel
theorem dd_House_look_35 : decode prog_1_method_15_code 35 = .ok (.aload_n 0, 1) := by decide +kernel
theorem dd_House_look_36 : decode prog_1_method_15_code 36 = .ok (.getfield 119, 3) := by decide +kernel
theorem dd_House_look_39 : decode prog_1_method_15_code 39 = .ok (.ireturn, 1) := by decide +kernel
theorem dd_House_look_40 : decode prog_1_method_15_code 40 = .ok (.aload_n 0, 1) := by decide +kernel
theorem dd_House_look_41 : decode prog_1_method_15_code 41 = .ok (.getfield 50, 3) := by decide +kernel
theorem dd_House_look_44 : decode prog_1_method_15_code 44 = .ok (.ifCond .ne 5, 3) := by decide +kernel
theorem dd_House_look_47 : decode prog_1_method_15_code 47 = .ok (.iconst 0, 1) := by decide +kernel
theorem dd_House_look_48 : decode prog_1_method_15_code 48 = .ok (.ireturn, 1) := by decide +kernel
theorem dd_House_look_49 : decode prog_1_method_15_code 49 = .ok (.iload_n 1, 1) := by decide +kernel
theorem dd_House_look_50 : decode prog_1_method_15_code 50 = .ok (.tableswitch 140 0 7 #[46, 50, 63, 76, 89, 99, 106, 113], 46) := by decide +kernel
theorem dd_House_look_96 : decode prog_1_method_15_code 96 = .ok (.iconst 1, 1) := by decide +kernel
theorem dd_House_look_97 : decode prog_1_method_15_code 97 = .ok (.goto 103, 3) := by decide +kernel
theorem dd_House_look_100 : decode prog_1_method_15_code 100 = .ok (.aload_n 0, 1) := by decide +kernel
theorem dd_House_look_101 : decode prog_1_method_15_code 101 = .ok (.getfield 23, 3) := by decide +kernel
theorem dd_House_look_104 : decode prog_1_method_15_code 104 = .ok (.getfield 83, 3) := by decide +kernel
theorem dd_House_look_107 : decode prog_1_method_15_code 107 = .ok (.getfield 87, 3) := by decide +kernel
theorem dd_House_look_110 : decode prog_1_method_15_code 110 = .ok (.goto 90, 3) := by decide +kernel
theorem dd_House_look_113 : decode prog_1_method_15_code 113 = .ok (.aload_n 0, 1) := by decide +kernel
theorem dd_House_look_114 : decode prog_1_method_15_code 114 = .ok (.getfield 23, 3) := by decide +kernel
theorem dd_House_look_117 : decode prog_1_method_15_code 117 = .ok (.getfield 141, 3) := by decide +kernel
theorem dd_House_look_120 : decode prog_1_method_15_code 120 = .ok (.getfield 87, 3) := by decide +kernel
theorem dd_House_look_123 : decode prog_1_method_15_code 123 = .ok (.goto 77, 3) := by decide +kernel
theorem dd_House_look_126 : decode prog_1_method_15_code 126 = .ok (.aload_n 0, 1) := by decide +kernel
theorem dd_House_look_127 : decode prog_1_method_15_code 127 = .ok (.getfield 46, 3) := by decide +kernel
theorem dd_House_look_130 : decode prog_1_method_15_code 130 = .ok (.getfield 198, 3) := by decide +kernel
theorem dd_House_look_133 : decode prog_1_method_15_code 133 = .ok (.getfield 212, 3) := by decide +kernel
theorem dd_House_look_136 : decode prog_1_method_15_code 136 = .ok (.goto 64, 3) := by decide +kernel
theorem dd_House_look_139 : decode prog_1_method_15_code 139 = .ok (.aload_n 0, 1) := by decide +kernel
theorem dd_House_look_140 : decode prog_1_method_15_code 140 = .ok (.getfield 23, 3) := by decide +kernel
theorem dd_House_look_143 : decode prog_1_method_15_code 143 = .ok (.invokevirtual 215, 3) := by decide +kernel
theorem dd_House_look_146 : decode prog_1_method_15_code 146 = .ok (.goto 54, 3) := by decide +kernel
theorem dd_House_look_149 : decode prog_1_method_15_code 149 = .ok (.aload_n 0, 1) := by decide +kernel
theorem dd_House_look_150 : decode prog_1_method_15_code 150 = .ok (.getfield 64, 3) := by decide +kernel
theorem dd_House_look_153 : decode prog_1_method_15_code 153 = .ok (.goto 47, 3) := by decide +kernel
theorem dd_House_look_156 : decode prog_1_method_15_code 156 = .ok (.aload_n 0, 1) := by decide +kernel
theorem dd_House_look_157 : decode prog_1_method_15_code 157 = .ok (.getfield 67, 3) := by decide +kernel
theorem dd_House_look_160 : decode prog_1_method_15_code 160 = .ok (.goto 40, 3) := by decide +kernel
theorem dd_House_look_163 : decode prog_1_method_15_code 163 = .ok (.aload_n 0, 1) := by decide +kernel
theorem dd_House_look_164 : decode prog_1_method_15_code 164 = .ok (.getfield 46, 3) := by decide +kernel
theorem dd_House_look_167 : decode prog_1_method_15_code 167 = .ok (.getfield 218, 3) := by decide +kernel
theorem dd_House_look_170 : decode prog_1_method_15_code 170 = .ok (.aload_n 0, 1) := by decide +kernel
theorem dd_House_look_171 : decode prog_1_method_15_code 171 = .ok (.getfield 46, 3) := by decide +kernel
theorem dd_House_look_174 : decode prog_1_method_15_code 174 = .ok (.getfield 110, 3) := by decide +kernel
theorem dd_House_look_177 : decode prog_1_method_15_code 177 = .ok (.aload_n 0, 1) := by decide +kernel
theorem dd_House_look_178 : decode prog_1_method_15_code 178 = .ok (.getfield 46, 3) := by decide +kernel
theorem dd_House_look_181 : decode prog_1_method_15_code 181 = .ok (.getfield 195, 3) := by decide +kernel
theorem dd_House_look_184 : decode prog_1_method_15_code 184 = .ok (.invokevirtual 222, 3) := by decide +kernel
theorem dd_House_look_187 : decode prog_1_method_15_code 187 = .ok (.goto 13, 3) := by decide +kernel
theorem dd_House_look_190 : decode prog_1_method_15_code 190 = .ok (.aload_n 0, 1) := by decide +kernel
theorem dd_House_look_191 : decode prog_1_method_15_code 191 = .ok (.getfield 23, 3) := by decide +kernel
theorem dd_House_look_194 : decode prog_1_method_15_code 194 = .ok (.getfield 159, 3) := by decide +kernel
theorem dd_House_look_197 : decode prog_1_method_15_code 197 = .ok (.getfield 228, 3) := by decide +kernel
theorem dd_House_look_200 : decode prog_1_method_15_code 200 = .ok (.ireturn, 1) := by decide +kernel
