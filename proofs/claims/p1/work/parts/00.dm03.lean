theorem dd_Model_checkStructure_0 : decode prog_14_method_94_code 0 = .ok (.aload_n 0, 1) := by decide +kernel
theorem dd_Model_checkStructure_1 : decode prog_14_method_94_code 1 = .ok (.iconst 1, 1) := by decide +kernel
theorem dd_Model_checkStructure_2 : decode prog_14_method_94_code 2 = .ok (.invokevirtual 636, 3) := by decide +kernel
theorem dd_Model_checkStructure_5 : decode prog_14_method_94_code 5 = .ok (.istore_n 1, 1) := by decide +kernel
theorem dd_Model_checkStructure_6 : decode prog_14_method_94_code 6 = .ok (.iload_n 1, 1) := by decide +kernel
theorem dd_Model_checkStructure_7 : decode prog_14_method_94_code 7 = .ok (.ifCond .ge 4, 3) := by decide +kernel
theorem dd_Model_checkStructure_10 : decode prog_14_method_94_code 10 = .ok (.return_, 1) := by decide +kernel
theorem dd_Model_checkStructure_11 : decode prog_14_method_94_code 11 = .ok (.aload_n 0, 1) := by decide +kernel
theorem dd_Model_checkStructure_12 : decode prog_14_method_94_code 12 = .ok (.getfield 30, 3) := by decide +kernel
theorem dd_Model_checkStructure_15 : decode prog_14_method_94_code 15 = .ok (.iload_n 1, 1) := by decide +kernel
theorem dd_Model_checkStructure_16 : decode prog_14_method_94_code 16 = .ok (.iaload, 1) := by decide +kernel
theorem dd_Model_checkStructure_17 : decode prog_14_method_94_code 17 = .ok (.istore_n 2, 1) := by decide +kernel
theorem dd_Model_checkStructure_18 : decode prog_14_method_94_code 18 = .ok (.aload_n 0, 1) := by decide +kernel
theorem dd_Model_checkStructure_19 : decode prog_14_method_94_code 19 = .ok (.getfield 270, 3) := by decide +kernel
theorem dd_Model_checkStructure_22 : decode prog_14_method_94_code 22 = .ok (.iconst 2, 1) := by decide +kernel
theorem dd_Model_checkStructure_23 : decode prog_14_method_94_code 23 = .ok (.if_icmp .ge 90, 3) := by decide +kernel
theorem dd_Model_checkStructure_26 : decode prog_14_method_94_code 26 = .ok (.iload_n 2, 1) := by decide +kernel
theorem dd_Model_checkStructure_27 : decode prog_14_method_94_code 27 = .ok (.iconst 1, 1) := by decide +kernel
theorem dd_Model_checkStructure_28 : decode prog_14_method_94_code 28 = .ok (.isub, 1) := by decide +kernel
theorem dd_Model_checkStructure_29 : decode prog_14_method_94_code 29 = .ok (.istore_n 3, 1) := by decide +kernel
theorem dd_Model_checkStructure_30 : decode prog_14_method_94_code 30 = .ok (.iload_n 3, 1) := by decide +kernel
theorem dd_Model_checkStructure_31 : decode prog_14_method_94_code 31 = .ok (.ifCond .lt 70, 3) := by decide +kernel
theorem dd_Model_checkStructure_34 : decode prog_14_method_94_code 34 = .ok (.aload_n 0, 1) := by decide +kernel
theorem dd_Model_checkStructure_35 : decode prog_14_method_94_code 35 = .ok (.getfield 270, 3) := by decide +kernel
theorem dd_Model_checkStructure_38 : decode prog_14_method_94_code 38 = .ok (.ifCond .ne 24, 3) := by decide +kernel
theorem dd_Model_checkStructure_41 : decode prog_14_method_94_code 41 = .ok (.aload_n 0, 1) := by decide +kernel
theorem dd_Model_checkStructure_42 : decode prog_14_method_94_code 42 = .ok (.aload_n 0, 1) := by decide +kernel
theorem dd_Model_checkStructure_43 : decode prog_14_method_94_code 43 = .ok (.getfield 36, 3) := by decide +kernel
theorem dd_Model_checkStructure_46 : decode prog_14_method_94_code 46 = .ok (.bipush 32, 2) := by decide +kernel
theorem dd_Model_checkStructure_48 : decode prog_14_method_94_code 48 = .ok (.iload_n 1, 1) := by decide +kernel
theorem dd_Model_checkStructure_49 : decode prog_14_method_94_code 49 = .ok (.imul, 1) := by decide +kernel
theorem dd_Model_checkStructure_50 : decode prog_14_method_94_code 50 = .ok (.iload_n 3, 1) := by decide +kernel
theorem dd_Model_checkStructure_51 : decode prog_14_method_94_code 51 = .ok (.iadd, 1) := by decide +kernel
theorem dd_Model_checkStructure_52 : decode prog_14_method_94_code 52 = .ok (.iaload, 1) := by decide +kernel
theorem dd_Model_checkStructure_53 : decode prog_14_method_94_code 53 = .ok (.invokestatic 639, 3) := by decide +kernel
theorem dd_Model_checkStructure_56 : decode prog_14_method_94_code 56 = .ok (.invokevirtual 504, 3) := by decide +kernel
theorem dd_Model_checkStructure_59 : decode prog_14_method_94_code 59 = .ok (.goto 36, 3) := by decide +kernel
theorem dd_Model_checkStructure_62 : decode prog_14_method_94_code 62 = .ok (.aload_n 0, 1) := by decide +kernel
theorem dd_Model_checkStructure_63 : decode prog_14_method_94_code 63 = .ok (.aload_n 0, 1) := by decide +kernel
theorem dd_Model_checkStructure_64 : decode prog_14_method_94_code 64 = .ok (.getfield 398, 3) := by decide +kernel
theorem dd_Model_checkStructure_67 : decode prog_14_method_94_code 67 = .ok (.ifCond .ne 20, 3) := by decide +kernel
theorem dd_Model_checkStructure_70 : decode prog_14_method_94_code 70 = .ok (.aload_n 0, 1) := by decide +kernel
theorem dd_Model_checkStructure_71 : decode prog_14_method_94_code 71 = .ok (.getfield 36, 3) := by decide +kernel
theorem dd_Model_checkStructure_74 : decode prog_14_method_94_code 74 = .ok (.bipush 32, 2) := by decide +kernel
theorem dd_Model_checkStructure_76 : decode prog_14_method_94_code 76 = .ok (.iload_n 1, 1) := by decide +kernel
theorem dd_Model_checkStructure_77 : decode prog_14_method_94_code 77 = .ok (.imul, 1) := by decide +kernel
theorem dd_Model_checkStructure_78 : decode prog_14_method_94_code 78 = .ok (.iload_n 3, 1) := by decide +kernel
theorem dd_Model_checkStructure_79 : decode prog_14_method_94_code 79 = .ok (.iadd, 1) := by decide +kernel
theorem dd_Model_checkStructure_80 : decode prog_14_method_94_code 80 = .ok (.iaload, 1) := by decide +kernel
theorem dd_Model_checkStructure_81 : decode prog_14_method_94_code 81 = .ok (.invokestatic 642, 3) := by decide +kernel
theorem dd_Model_checkStructure_84 : decode prog_14_method_94_code 84 = .ok (.ifCond .ne 7, 3) := by decide +kernel
theorem dd_Model_checkStructure_87 : decode prog_14_method_94_code 87 = .ok (.iconst 1, 1) := by decide +kernel
theorem dd_Model_checkStructure_88 : decode prog_14_method_94_code 88 = .ok (.goto 4, 3) := by decide +kernel
theorem dd_Model_checkStructure_91 : decode prog_14_method_94_code 91 = .ok (.iconst 0, 1) := by decide +kernel
theorem dd_Model_checkStructure_92 : decode prog_14_method_94_code 92 = .ok (.putfield 398, 3) := by decide +kernel
theorem dd_Model_checkStructure_95 : decode prog_14_method_94_code 95 = .ok (.iinc 3 (-1), 3) := by decide +kernel
theorem dd_Model_checkStructure_98 : decode prog_14_method_94_code 98 = .ok (.goto (-68), 3) := by decide +kernel
theorem dd_Model_checkStructure_101 : decode prog_14_method_94_code 101 = .ok (.aload_n 0, 1) := by decide +kernel
theorem dd_Model_checkStructure_102 : decode prog_14_method_94_code 102 = .ok (.iconst 2, 1) := by decide +kernel
theorem dd_Model_checkStructure_103 : decode prog_14_method_94_code 103 = .ok (.iload_n 1, 1) := by decide +kernel
theorem dd_Model_checkStructure_104 : decode prog_14_method_94_code 104 = .ok (.iadd, 1) := by decide +kernel
theorem dd_Model_checkStructure_105 : decode prog_14_method_94_code 105 = .ok (.iconst 0, 1) := by decide +kernel
theorem dd_Model_checkStructure_106 : decode prog_14_method_94_code 106 = .ok (.invokestatic 203, 3) := by decide +kernel
theorem dd_Model_checkStructure_109 : decode prog_14_method_94_code 109 = .ok (.invokevirtual 507, 3) := by decide +kernel
theorem dd_Model_checkStructure_112 : decode prog_14_method_94_code 112 = .ok (.return_, 1) := by decide +kernel
theorem dd_Model_checkStructure_113 : decode prog_14_method_94_code 113 = .ok (.aload_n 0, 1) := by decide +kernel
theorem dd_Model_checkStructure_114 : decode prog_14_method_94_code 114 = .ok (.getfield 277, 3) := by decide +kernel
theorem dd_Model_checkStructure_117 : decode prog_14_method_94_code 117 = .ok (.iload_n 2, 1) := by decide +kernel
theorem dd_Model_checkStructure_118 : decode prog_14_method_94_code 118 = .ok (.i2l, 1) := by decide +kernel
theorem dd_Model_checkStructure_119 : decode prog_14_method_94_code 119 = .ok (.lcmp, 1) := by decide +kernel
theorem dd_Model_checkStructure_120 : decode prog_14_method_94_code 120 = .ok (.ifCond .lt 9, 3) := by decide +kernel
theorem dd_Model_checkStructure_123 : decode prog_14_method_94_code 123 = .ok (.aload_n 0, 1) := by decide +kernel
theorem dd_Model_checkStructure_124 : decode prog_14_method_94_code 124 = .ok (.iconst 1, 1) := by decide +kernel
theorem dd_Model_checkStructure_125 : decode prog_14_method_94_code 125 = .ok (.putfield 398, 3) := by decide +kernel
theorem dd_Model_checkStructure_128 : decode prog_14_method_94_code 128 = .ok (.return_, 1) := by decide +kernel
theorem dd_Model_checkStructure_129 : decode prog_14_method_94_code 129 = .ok (.aload_n 0, 1) := by decide +kernel
theorem dd_Model_checkStructure_130 : decode prog_14_method_94_code 130 = .ok (.getfield 36, 3) := by decide +kernel
theorem dd_Model_checkStructure_133 : decode prog_14_method_94_code 133 = .ok (.bipush 32, 2) := by decide +kernel
theorem dd_Model_checkStructure_135 : decode prog_14_method_94_code 135 = .ok (.iload_n 1, 1) := by decide +kernel
theorem dd_Model_checkStructure_136 : decode prog_14_method_94_code 136 = .ok (.imul, 1) := by decide +kernel
theorem dd_Model_checkStructure_137 : decode prog_14_method_94_code 137 = .ok (.aload_n 0, 1) := by decide +kernel
theorem dd_Model_checkStructure_138 : decode prog_14_method_94_code 138 = .ok (.getfield 277, 3) := by decide +kernel
theorem dd_Model_checkStructure_141 : decode prog_14_method_94_code 141 = .ok (.l2i, 1) := by decide +kernel
theorem dd_Model_checkStructure_142 : decode prog_14_method_94_code 142 = .ok (.iadd, 1) := by decide +kernel
theorem dd_Model_checkStructure_143 : decode prog_14_method_94_code 143 = .ok (.iaload, 1) := by decide +kernel
theorem dd_Model_checkStructure_144 : decode prog_14_method_94_code 144 = .ok (.istore_n 3, 1) := by decide +kernel
theorem dd_Model_checkStructure_145 : decode prog_14_method_94_code 145 = .ok (.aload_n 0, 1) := by decide +kernel
theorem dd_Model_checkStructure_146 : decode prog_14_method_94_code 146 = .ok (.iload_n 1, 1) := by decide +kernel
theorem dd_Model_checkStructure_147 : decode prog_14_method_94_code 147 = .ok (.iload_n 3, 1) := by decide +kernel
theorem dd_Model_checkStructure_148 : decode prog_14_method_94_code 148 = .ok (.aload_n 0, 1) := by decide +kernel
theorem dd_Model_checkStructure_149 : decode prog_14_method_94_code 149 = .ok (.getfield 270, 3) := by decide +kernel
theorem dd_Model_checkStructure_152 : decode prog_14_method_94_code 152 = .ok (.iconst 5, 1) := by decide +kernel
theorem dd_Model_checkStructure_153 : decode prog_14_method_94_code 153 = .ok (.if_icmp .ne 7, 3) := by decide +kernel
theorem dd_Model_checkStructure_156 : decode prog_14_method_94_code 156 = .ok (.iconst 1, 1) := by decide +kernel
theorem dd_Model_checkStructure_157 : decode prog_14_method_94_code 157 = .ok (.goto 4, 3) := by decide +kernel
theorem dd_Model_checkStructure_160 : decode prog_14_method_94_code 160 = .ok (.iconst 0, 1) := by decide +kernel
theorem dd_Model_checkStructure_161 : decode prog_14_method_94_code 161 = .ok (.aload_n 0, 1) := by decide +kernel
theorem dd_Model_checkStructure_162 : decode prog_14_method_94_code 162 = .ok (.getfield 270, 3) := by decide +kernel
theorem dd_Model_checkStructure_165 : decode prog_14_method_94_code 165 = .ok (.iconst 2, 1) := by decide +kernel
theorem dd_Model_checkStructure_166 : decode prog_14_method_94_code 166 = .ok (.isub, 1) := by decide +kernel
theorem dd_Model_checkStructure_167 : decode prog_14_method_94_code 167 = .ok (.aload_n 0, 1) := by decide +kernel
theorem dd_Model_checkStructure_168 : decode prog_14_method_94_code 168 = .ok (.getfield 36, 3) := by decide +kernel
theorem dd_Model_checkStructure_171 : decode prog_14_method_94_code 171 = .ok (.bipush 32, 2) := by decide +kernel
theorem dd_Model_checkStructure_173 : decode prog_14_method_94_code 173 = .ok (.iload_n 1, 1) := by decide +kernel
theorem dd_Model_checkStructure_174 : decode prog_14_method_94_code 174 = .ok (.imul, 1) := by decide +kernel
theorem dd_Model_checkStructure_175 : decode prog_14_method_94_code 175 = .ok (.bipush 16, 2) := by decide +kernel
theorem dd_Model_checkStructure_177 : decode prog_14_method_94_code 177 = .ok (.iadd, 1) := by decide +kernel
theorem dd_Model_checkStructure_178 : decode prog_14_method_94_code 178 = .ok (.aload_n 0, 1) := by decide +kernel
theorem dd_Model_checkStructure_179 : decode prog_14_method_94_code 179 = .ok (.getfield 277, 3) := by decide +kernel
theorem dd_Model_checkStructure_182 : decode prog_14_method_94_code 182 = .ok (.l2i, 1) := by decide +kernel
theorem dd_Model_checkStructure_183 : decode prog_14_method_94_code 183 = .ok (.iadd, 1) := by decide +kernel
theorem dd_Model_checkStructure_184 : decode prog_14_method_94_code 184 = .ok (.iaload, 1) := by decide +kernel
theorem dd_Model_checkStructure_185 : decode prog_14_method_94_code 185 = .ok (.iconst 1, 1) := by decide +kernel
theorem dd_Model_checkStructure_186 : decode prog_14_method_94_code 186 = .ok (.if_icmp .ne 7, 3) := by decide +kernel
theorem dd_Model_checkStructure_189 : decode prog_14_method_94_code 189 = .ok (.iconst 1, 1) := by decide +kernel
theorem dd_Model_checkStructure_190 : decode prog_14_method_94_code 190 = .ok (.goto 4, 3) := by decide +kernel
theorem dd_Model_checkStructure_193 : decode prog_14_method_94_code 193 = .ok (.iconst 0, 1) := by decide +kernel
theorem dd_Model_checkStructure_194 : decode prog_14_method_94_code 194 = .ok (.iconst 0, 1) := by decide +kernel
theorem dd_Model_checkStructure_195 : decode prog_14_method_94_code 195 = .ok (.invokevirtual 645, 3) := by decide +kernel
theorem dd_Model_checkStructure_198 : decode prog_14_method_94_code 198 = .ok (.return_, 1) := by decide +kernel
theorem dd_Model_checkObjects_0 : decode prog_14_method_93_code 0 = .ok (.aload_n 0, 1) := by decide +kernel
theorem dd_Model_checkObjects_1 : decode prog_14_method_93_code 1 = .ok (.getfield 270, 3) := by decide +kernel
theorem dd_Model_checkObjects_4 : decode prog_14_method_93_code 4 = .ok (.bipush 6, 2) := by decide +kernel
theorem dd_Model_checkObjects_6 : decode prog_14_method_93_code 6 = .ok (.if_icmp .ge 10, 3) := by decide +kernel
theorem dd_Model_checkObjects_9 : decode prog_14_method_93_code 9 = .ok (.aload_n 0, 1) := by decide +kernel
theorem dd_Model_checkObjects_10 : decode prog_14_method_93_code 10 = .ok (.invokevirtual 627, 3) := by decide +kernel
theorem dd_Model_checkObjects_13 : decode prog_14_method_93_code 13 = .ok (.goto 233, 3) := by decide +kernel
theorem dd_Model_checkObjects_16 : decode prog_14_method_93_code 16 = .ok (.aload_n 0, 1) := by decide +kernel
theorem dd_Model_checkObjects_17 : decode prog_14_method_93_code 17 = .ok (.getfield 270, 3) := by decide +kernel
theorem dd_Model_checkObjects_20 : decode prog_14_method_93_code 20 = .ok (.bipush 9, 2) := by decide +kernel
theorem dd_Model_checkObjects_22 : decode prog_14_method_93_code 22 = .ok (.if_icmp .ge 10, 3) := by decide +kernel
theorem dd_Model_checkObjects_25 : decode prog_14_method_93_code 25 = .ok (.aload_n 0, 1) := by decide +kernel
theorem dd_Model_checkObjects_26 : decode prog_14_method_93_code 26 = .ok (.invokevirtual 630, 3) := by decide +kernel
theorem dd_Model_checkObjects_29 : decode prog_14_method_93_code 29 = .ok (.goto 217, 3) := by decide +kernel
theorem dd_Model_checkObjects_32 : decode prog_14_method_93_code 32 = .ok (.aload_n 0, 1) := by decide +kernel
theorem dd_Model_checkObjects_33 : decode prog_14_method_93_code 33 = .ok (.getfield 270, 3) := by decide +kernel
theorem dd_Model_checkObjects_36 : decode prog_14_method_93_code 36 = .ok (.bipush 15, 2) := by decide +kernel
theorem dd_Model_checkObjects_38 : decode prog_14_method_93_code 38 = .ok (.if_icmp .ne 71, 3) := by decide +kernel
theorem dd_Model_checkObjects_41 : decode prog_14_method_93_code 41 = .ok (.aload_n 0, 1) := by decide +kernel
theorem dd_Model_checkObjects_42 : decode prog_14_method_93_code 42 = .ok (.invokevirtual 621, 3) := by decide +kernel
theorem dd_Model_checkObjects_45 : decode prog_14_method_93_code 45 = .ok (.istore_n 1, 1) := by decide +kernel
theorem dd_Model_checkObjects_46 : decode prog_14_method_93_code 46 = .ok (.iload_n 1, 1) := by decide +kernel
theorem dd_Model_checkObjects_47 : decode prog_14_method_93_code 47 = .ok (.ifCond .ne 9, 3) := by decide +kernel
theorem dd_Model_checkObjects_50 : decode prog_14_method_93_code 50 = .ok (.sipush 400, 3) := by decide +kernel
theorem dd_Model_checkObjects_53 : decode prog_14_method_93_code 53 = .ok (.goto 7, 3) := by decide +kernel
theorem dd_Model_checkObjects_56 : decode prog_14_method_93_code 56 = .ok (.iload_n 1, 1) := by decide +kernel
theorem dd_Model_checkObjects_57 : decode prog_14_method_93_code 57 = .ok (.invokestatic 387, 3) := by decide +kernel
theorem dd_Model_checkObjects_60 : decode prog_14_method_93_code 60 = .ok (.istore_n 2, 1) := by decide +kernel
theorem dd_Model_checkObjects_61 : decode prog_14_method_93_code 61 = .ok (.aload_n 0, 1) := by decide +kernel
theorem dd_Model_checkObjects_62 : decode prog_14_method_93_code 62 = .ok (.aload_n 0, 1) := by decide +kernel
theorem dd_Model_checkObjects_63 : decode prog_14_method_93_code 63 = .ok (.getfield 398, 3) := by decide +kernel
theorem dd_Model_checkObjects_66 : decode prog_14_method_93_code 66 = .ok (.ifCond .ne 27, 3) := by decide +kernel
theorem dd_Model_checkObjects_69 : decode prog_14_method_93_code 69 = .ok (.iload_n 2, 1) := by decide +kernel
theorem dd_Model_checkObjects_70 : decode prog_14_method_93_code 70 = .ok (.sipush 400, 3) := by decide +kernel
theorem dd_Model_checkObjects_73 : decode prog_14_method_93_code 73 = .ok (.if_icmp .eq 24, 3) := by decide +kernel
theorem dd_Model_checkObjects_76 : decode prog_14_method_93_code 76 = .ok (.iload_n 2, 1) := by decide +kernel
theorem dd_Model_checkObjects_77 : decode prog_14_method_93_code 77 = .ok (.iconst 2, 1) := by decide +kernel
theorem dd_Model_checkObjects_78 : decode prog_14_method_93_code 78 = .ok (.if_icmp .lt 15, 3) := by decide +kernel
theorem dd_Model_checkObjects_81 : decode prog_14_method_93_code 81 = .ok (.aload_n 0, 1) := by decide +kernel
theorem dd_Model_checkObjects_82 : decode prog_14_method_93_code 82 = .ok (.getfield 27, 3) := by decide +kernel
theorem dd_Model_checkObjects_85 : decode prog_14_method_93_code 85 = .ok (.iload_n 2, 1) := by decide +kernel
theorem dd_Model_checkObjects_86 : decode prog_14_method_93_code 86 = .ok (.iconst 2, 1) := by decide +kernel
theorem dd_Model_checkObjects_87 : decode prog_14_method_93_code 87 = .ok (.isub, 1) := by decide +kernel
theorem dd_Model_checkObjects_88 : decode prog_14_method_93_code 88 = .ok (.iaload, 1) := by decide +kernel
theorem dd_Model_checkObjects_89 : decode prog_14_method_93_code 89 = .ok (.iconst 2, 1) := by decide +kernel
theorem dd_Model_checkObjects_90 : decode prog_14_method_93_code 90 = .ok (.if_icmp .eq 7, 3) := by decide +kernel
theorem dd_Model_checkObjects_93 : decode prog_14_method_93_code 93 = .ok (.iconst 1, 1) := by decide +kernel
theorem dd_Model_checkObjects_94 : decode prog_14_method_93_code 94 = .ok (.goto 4, 3) := by decide +kernel
theorem dd_Model_checkObjects_97 : decode prog_14_method_93_code 97 = .ok (.iconst 0, 1) := by decide +kernel
theorem dd_Model_checkObjects_98 : decode prog_14_method_93_code 98 = .ok (.putfield 398, 3) := by decide +kernel
theorem dd_Model_checkObjects_101 : decode prog_14_method_93_code 101 = .ok (.aload_n 0, 1) := by decide +kernel
theorem dd_Model_checkObjects_102 : decode prog_14_method_93_code 102 = .ok (.iconst 1, 1) := by decide +kernel
theorem dd_Model_checkObjects_103 : decode prog_14_method_93_code 103 = .ok (.invokevirtual 507, 3) := by decide +kernel
theorem dd_Model_checkObjects_106 : decode prog_14_method_93_code 106 = .ok (.goto 140, 3) := by decide +kernel
theorem dd_Model_checkObjects_109 : decode prog_14_method_93_code 109 = .ok (.aload_n 0, 1) := by decide +kernel
theorem dd_Model_checkObjects_110 : decode prog_14_method_93_code 110 = .ok (.getfield 270, 3) := by decide +kernel
theorem dd_Model_checkObjects_113 : decode prog_14_method_93_code 113 = .ok (.bipush 17, 2) := by decide +kernel
theorem dd_Model_checkObjects_115 : decode prog_14_method_93_code 115 = .ok (.if_icmp .ge 10, 3) := by decide +kernel
theorem dd_Model_checkObjects_118 : decode prog_14_method_93_code 118 = .ok (.aload_n 0, 1) := by decide +kernel
theorem dd_Model_checkObjects_119 : decode prog_14_method_93_code 119 = .ok (.invokevirtual 633, 3) := by decide +kernel
theorem dd_Model_checkObjects_122 : decode prog_14_method_93_code 122 = .ok (.goto 124, 3) := by decide +kernel
theorem dd_Model_checkObjects_125 : decode prog_14_method_93_code 125 = .ok (.aload_n 0, 1) := by decide +kernel
theorem dd_Model_checkObjects_126 : decode prog_14_method_93_code 126 = .ok (.getfield 270, 3) := by decide +kernel
theorem dd_Model_checkObjects_129 : decode prog_14_method_93_code 129 = .ok (.bipush 24, 2) := by decide +kernel
theorem dd_Model_checkObjects_131 : decode prog_14_method_93_code 131 = .ok (.if_icmp .ge 75, 3) := by decide +kernel
theorem dd_Model_checkObjects_134 : decode prog_14_method_93_code 134 = .ok (.aload_n 0, 1) := by decide +kernel
theorem dd_Model_checkObjects_135 : decode prog_14_method_93_code 135 = .ok (.aload_n 0, 1) := by decide +kernel
theorem dd_Model_checkObjects_136 : decode prog_14_method_93_code 136 = .ok (.aload_n 0, 1) := by decide +kernel
theorem dd_Model_checkObjects_137 : decode prog_14_method_93_code 137 = .ok (.getfield 273, 3) := by decide +kernel
theorem dd_Model_checkObjects_140 : decode prog_14_method_93_code 140 = .ok (.l2i, 1) := by decide +kernel
theorem dd_Model_checkObjects_141 : decode prog_14_method_93_code 141 = .ok (.aload_n 0, 1) := by decide +kernel
theorem dd_Model_checkObjects_142 : decode prog_14_method_93_code 142 = .ok (.getfield 414, 3) := by decide +kernel
theorem dd_Model_checkObjects_145 : decode prog_14_method_93_code 145 = .ok (.invokevirtual 390, 3) := by decide +kernel
theorem dd_Model_checkObjects_148 : decode prog_14_method_93_code 148 = .ok (.ifCond .ne 7, 3) := by decide +kernel
theorem dd_Model_checkObjects_151 : decode prog_14_method_93_code 151 = .ok (.iconst 1, 1) := by decide +kernel
theorem dd_Model_checkObjects_152 : decode prog_14_method_93_code 152 = .ok (.goto 4, 3) := by decide +kernel
theorem dd_Model_checkObjects_155 : decode prog_14_method_93_code 155 = .ok (.iconst 0, 1) := by decide +kernel
theorem dd_Model_checkObjects_156 : decode prog_14_method_93_code 156 = .ok (.putfield 398, 3) := by decide +kernel
theorem dd_Model_checkObjects_159 : decode prog_14_method_93_code 159 = .ok (.aload_n 0, 1) := by decide +kernel
theorem dd_Model_checkObjects_160 : decode prog_14_method_93_code 160 = .ok (.invokevirtual 621, 3) := by decide +kernel
theorem dd_Model_checkObjects_163 : decode prog_14_method_93_code 163 = .ok (.istore_n 1, 1) := by decide +kernel
theorem dd_Model_checkObjects_164 : decode prog_14_method_93_code 164 = .ok (.aload_n 0, 1) := by decide +kernel
theorem dd_Model_checkObjects_165 : decode prog_14_method_93_code 165 = .ok (.aload_n 0, 1) := by decide +kernel
theorem dd_Model_checkObjects_166 : decode prog_14_method_93_code 166 = .ok (.getfield 270, 3) := by decide +kernel
theorem dd_Model_checkObjects_169 : decode prog_14_method_93_code 169 = .ok (.bipush 22, 2) := by decide +kernel
theorem dd_Model_checkObjects_171 : decode prog_14_method_93_code 171 = .ok (.if_icmp .ge 7, 3) := by decide +kernel
theorem dd_Model_checkObjects_174 : decode prog_14_method_93_code 174 = .ok (.iconst 1, 1) := by decide +kernel
theorem dd_Model_checkObjects_175 : decode prog_14_method_93_code 175 = .ok (.goto 25, 3) := by decide +kernel
theorem dd_Model_checkObjects_178 : decode prog_14_method_93_code 178 = .ok (.aload_n 0, 1) := by decide +kernel
theorem dd_Model_checkObjects_179 : decode prog_14_method_93_code 179 = .ok (.getfield 273, 3) := by decide +kernel
theorem dd_Model_checkObjects_182 : decode prog_14_method_93_code 182 = .ok (.l2i, 1) := by decide +kernel
theorem dd_Model_checkObjects_183 : decode prog_14_method_93_code 183 = .ok (.aload_n 0, 1) := by decide +kernel
theorem dd_Model_checkObjects_184 : decode prog_14_method_93_code 184 = .ok (.getfield 270, 3) := by decide +kernel
theorem dd_Model_checkObjects_187 : decode prog_14_method_93_code 187 = .ok (.bipush 23, 2) := by decide +kernel
theorem dd_Model_checkObjects_189 : decode prog_14_method_93_code 189 = .ok (.if_icmp .ne 7, 3) := by decide +kernel
theorem dd_Model_checkObjects_192 : decode prog_14_method_93_code 192 = .ok (.iconst 1, 1) := by decide +kernel
theorem dd_Model_checkObjects_193 : decode prog_14_method_93_code 193 = .ok (.goto 4, 3) := by decide +kernel
theorem dd_Model_checkObjects_196 : decode prog_14_method_93_code 196 = .ok (.iconst 0, 1) := by decide +kernel
theorem dd_Model_checkObjects_197 : decode prog_14_method_93_code 197 = .ok (.invokestatic 203, 3) := by decide +kernel
theorem dd_Model_checkObjects_200 : decode prog_14_method_93_code 200 = .ok (.invokevirtual 507, 3) := by decide +kernel
theorem dd_Model_checkObjects_203 : decode prog_14_method_93_code 203 = .ok (.goto 43, 3) := by decide +kernel
theorem dd_Model_checkObjects_206 : decode prog_14_method_93_code 206 = .ok (.aload_n 0, 1) := by decide +kernel
theorem dd_Model_checkObjects_207 : decode prog_14_method_93_code 207 = .ok (.getfield 270, 3) := by decide +kernel
theorem dd_Model_checkObjects_210 : decode prog_14_method_93_code 210 = .ok (.bipush 28, 2) := by decide +kernel
theorem dd_Model_checkObjects_212 : decode prog_14_method_93_code 212 = .ok (.if_icmp .ne 20, 3) := by decide +kernel
theorem dd_Model_checkObjects_215 : decode prog_14_method_93_code 215 = .ok (.aload_n 0, 1) := by decide +kernel
theorem dd_Model_checkObjects_216 : decode prog_14_method_93_code 216 = .ok (.iconst 1, 1) := by decide +kernel
theorem dd_Model_checkObjects_217 : decode prog_14_method_93_code 217 = .ok (.invokevirtual 504, 3) := by decide +kernel
theorem dd_Model_checkObjects_220 : decode prog_14_method_93_code 220 = .ok (.aload_n 0, 1) := by decide +kernel
theorem dd_Model_checkObjects_221 : decode prog_14_method_93_code 221 = .ok (.iconst 1, 1) := by decide +kernel
theorem dd_Model_checkObjects_222 : decode prog_14_method_93_code 222 = .ok (.iconst 0, 1) := by decide +kernel
theorem dd_Model_checkObjects_223 : decode prog_14_method_93_code 223 = .ok (.invokestatic 203, 3) := by decide +kernel
theorem dd_Model_checkObjects_226 : decode prog_14_method_93_code 226 = .ok (.invokevirtual 507, 3) := by decide +kernel
theorem dd_Model_checkObjects_229 : decode prog_14_method_93_code 229 = .ok (.goto 17, 3) := by decide +kernel
theorem dd_Model_checkObjects_232 : decode prog_14_method_93_code 232 = .ok (.aload_n 0, 1) := by decide +kernel
theorem dd_Model_checkObjects_233 : decode prog_14_method_93_code 233 = .ok (.iconst 1, 1) := by decide +kernel
theorem dd_Model_checkObjects_234 : decode prog_14_method_93_code 234 = .ok (.iconst 1, 1) := by decide +kernel
theorem dd_Model_checkObjects_235 : decode prog_14_method_93_code 235 = .ok (.invokestatic 203, 3) := by decide +kernel
theorem dd_Model_checkObjects_238 : decode prog_14_method_93_code 238 = .ok (.invokevirtual 504, 3) := by decide +kernel
theorem dd_Model_checkObjects_241 : decode prog_14_method_93_code 241 = .ok (.aload_n 0, 1) := by decide +kernel
theorem dd_Model_checkObjects_242 : decode prog_14_method_93_code 242 = .ok (.iconst 1, 1) := by decide +kernel
theorem dd_Model_checkObjects_243 : decode prog_14_method_93_code 243 = .ok (.invokevirtual 507, 3) := by decide +kernel
theorem dd_Model_checkObjects_246 : decode prog_14_method_93_code 246 = .ok (.return_, 1) := by decide +kernel
theorem dd_Model_out_0 : decode prog_14_method_69_code 0 = .ok (.lload_n 1, 1) := by decide +kernel
theorem dd_Model_out_1 : decode prog_14_method_69_code 1 = .ok (.aload_n 0, 1) := by decide +kernel
theorem dd_Model_out_2 : decode prog_14_method_69_code 2 = .ok (.getfield 490, 3) := by decide +kernel
theorem dd_Model_out_5 : decode prog_14_method_69_code 5 = .ok (.i2l, 1) := by decide +kernel
theorem dd_Model_out_6 : decode prog_14_method_69_code 6 = .ok (.lcmp, 1) := by decide +kernel
theorem dd_Model_out_7 : decode prog_14_method_69_code 7 = .ok (.ifCond .lt 10, 3) := by decide +kernel
theorem dd_Model_out_10 : decode prog_14_method_69_code 10 = .ok (.aload_n 0, 1) := by decide +kernel
theorem dd_Model_out_11 : decode prog_14_method_69_code 11 = .ok (.iconst 1, 1) := by decide +kernel
theorem dd_Model_out_12 : decode prog_14_method_69_code 12 = .ok (.putfield 398, 3) := by decide +kernel
theorem dd_Model_out_15 : decode prog_14_method_69_code 15 = .ok (.iconst (-1), 1) := by decide +kernel
theorem dd_Model_out_16 : decode prog_14_method_69_code 16 = .ok (.ireturn, 1) := by decide +kernel
theorem dd_Model_out_17 : decode prog_14_method_69_code 17 = .ok (.aload_n 0, 1) := by decide +kernel
theorem dd_Model_out_18 : decode prog_14_method_69_code 18 = .ok (.getfield 490, 3) := by decide +kernel
theorem dd_Model_out_21 : decode prog_14_method_69_code 21 = .ok (.iconst 1, 1) := by decide +kernel
theorem dd_Model_out_22 : decode prog_14_method_69_code 22 = .ok (.isub, 1) := by decide +kernel
theorem dd_Model_out_23 : decode prog_14_method_69_code 23 = .ok (.lload_n 1, 1) := by decide +kernel
theorem dd_Model_out_24 : decode prog_14_method_69_code 24 = .ok (.l2i, 1) := by decide +kernel
theorem dd_Model_out_25 : decode prog_14_method_69_code 25 = .ok (.isub, 1) := by decide +kernel
theorem dd_Model_out_26 : decode prog_14_method_69_code 26 = .ok (.ireturn, 1) := by decide +kernel
theorem dd_Model_leadsToResults_0 : decode prog_14_method_70_code 0 = .ok (.aload_n 0, 1) := by decide +kernel
theorem dd_Model_leadsToResults_1 : decode prog_14_method_70_code 1 = .ok (.getfield 88, 3) := by decide +kernel
theorem dd_Model_leadsToResults_4 : decode prog_14_method_70_code 4 = .ok (.iload_n 1, 1) := by decide +kernel
theorem dd_Model_leadsToResults_5 : decode prog_14_method_70_code 5 = .ok (.iaload, 1) := by decide +kernel
theorem dd_Model_leadsToResults_6 : decode prog_14_method_70_code 6 = .ok (.iconst 3, 1) := by decide +kernel
theorem dd_Model_leadsToResults_7 : decode prog_14_method_70_code 7 = .ok (.if_icmp .eq 7, 3) := by decide +kernel
theorem dd_Model_leadsToResults_10 : decode prog_14_method_70_code 10 = .ok (.iconst 1, 1) := by decide +kernel
theorem dd_Model_leadsToResults_11 : decode prog_14_method_70_code 11 = .ok (.goto 4, 3) := by decide +kernel
theorem dd_Model_leadsToResults_14 : decode prog_14_method_70_code 14 = .ok (.iconst 0, 1) := by decide +kernel
theorem dd_Model_leadsToResults_15 : decode prog_14_method_70_code 15 = .ok (.ireturn, 1) := by decide +kernel
theorem dd_Model_countOf_0 : decode prog_14_method_63_code 0 = .ok (.lload_n 1, 1) := by decide +kernel
theorem dd_Model_countOf_1 : decode prog_14_method_63_code 1 = .ok (.lconst 0, 1) := by decide +kernel
theorem dd_Model_countOf_2 : decode prog_14_method_63_code 2 = .ok (.lcmp, 1) := by decide +kernel
theorem dd_Model_countOf_3 : decode prog_14_method_63_code 3 = .ok (.ifCond .ge 21, 3) := by decide +kernel
theorem dd_Model_countOf_6 : decode prog_14_method_63_code 6 = .ok (.iload_n 3, 1) := by decide +kernel
theorem dd_Model_countOf_7 : decode prog_14_method_63_code 7 = .ok (.ifCond .eq 15, 3) := by decide +kernel
theorem dd_Model_countOf_10 : decode prog_14_method_63_code 10 = .ok (.lload_n 1, 1) := by decide +kernel
theorem dd_Model_countOf_11 : decode prog_14_method_63_code 11 = .ok (.ldc2_w 184, 3) := by decide +kernel
theorem dd_Model_countOf_14 : decode prog_14_method_63_code 14 = .ok (.lcmp, 1) := by decide +kernel
theorem dd_Model_countOf_15 : decode prog_14_method_63_code 15 = .ok (.ifCond .ge 7, 3) := by decide +kernel
theorem dd_Model_countOf_18 : decode prog_14_method_63_code 18 = .ok (.iconst 1, 1) := by decide +kernel
theorem dd_Model_countOf_19 : decode prog_14_method_63_code 19 = .ok (.goto 4, 3) := by decide +kernel
theorem dd_Model_countOf_22 : decode prog_14_method_63_code 22 = .ok (.iconst 0, 1) := by decide +kernel
theorem dd_Model_countOf_23 : decode prog_14_method_63_code 23 = .ok (.ireturn, 1) := by decide +kernel
theorem dd_Model_countOf_24 : decode prog_14_method_63_code 24 = .ok (.iload_n 3, 1) := by decide +kernel
theorem dd_Model_countOf_25 : decode prog_14_method_63_code 25 = .ok (.ifCond .eq 13, 3) := by decide +kernel
theorem dd_Model_countOf_28 : decode prog_14_method_63_code 28 = .ok (.aload_n 0, 1) := by decide +kernel
theorem dd_Model_countOf_29 : decode prog_14_method_63_code 29 = .ok (.getfield 33, 3) := by decide +kernel
theorem dd_Model_countOf_32 : decode prog_14_method_63_code 32 = .ok (.lload_n 1, 1) := by decide +kernel
theorem dd_Model_countOf_33 : decode prog_14_method_63_code 33 = .ok (.l2i, 1) := by decide +kernel
theorem dd_Model_countOf_34 : decode prog_14_method_63_code 34 = .ok (.iaload, 1) := by decide +kernel
theorem dd_Model_countOf_35 : decode prog_14_method_63_code 35 = .ok (.goto 10, 3) := by decide +kernel
theorem dd_Model_countOf_38 : decode prog_14_method_63_code 38 = .ok (.aload_n 0, 1) := by decide +kernel
theorem dd_Model_countOf_39 : decode prog_14_method_63_code 39 = .ok (.getfield 30, 3) := by decide +kernel
theorem dd_Model_countOf_42 : decode prog_14_method_63_code 42 = .ok (.lload_n 1, 1) := by decide +kernel
theorem dd_Model_countOf_43 : decode prog_14_method_63_code 43 = .ok (.l2i, 1) := by decide +kernel
theorem dd_Model_countOf_44 : decode prog_14_method_63_code 44 = .ok (.iaload, 1) := by decide +kernel
theorem dd_Model_countOf_45 : decode prog_14_method_63_code 45 = .ok (.ireturn, 1) := by decide +kernel
theorem dd_Model_typeOf_0 : decode prog_14_method_64_code 0 = .ok (.lload_n 1, 1) := by decide +kernel
theorem dd_Model_typeOf_1 : decode prog_14_method_64_code 1 = .ok (.lconst 0, 1) := by decide +kernel
theorem dd_Model_typeOf_2 : decode prog_14_method_64_code 2 = .ok (.lcmp, 1) := by decide +kernel
theorem dd_Model_typeOf_3 : decode prog_14_method_64_code 3 = .ok (.ifCond .ge 10, 3) := by decide +kernel
theorem dd_Model_typeOf_6 : decode prog_14_method_64_code 6 = .ok (.ldc2_w 213, 3) := by decide +kernel
theorem dd_Model_typeOf_9 : decode prog_14_method_64_code 9 = .ok (.lload_n 1, 1) := by decide +kernel
theorem dd_Model_typeOf_10 : decode prog_14_method_64_code 10 = .ok (.lsub, 1) := by decide +kernel
theorem dd_Model_typeOf_11 : decode prog_14_method_64_code 11 = .ok (.l2i, 1) := by decide +kernel
theorem dd_Model_typeOf_12 : decode prog_14_method_64_code 12 = .ok (.ireturn, 1) := by decide +kernel
theorem dd_Model_typeOf_13 : decode prog_14_method_64_code 13 = .ok (.aload_n 0, 1) := by decide +kernel
theorem dd_Model_typeOf_14 : decode prog_14_method_64_code 14 = .ok (.getfield 36, 3) := by decide +kernel
theorem dd_Model_typeOf_17 : decode prog_14_method_64_code 17 = .ok (.bipush 32, 2) := by decide +kernel
theorem dd_Model_typeOf_19 : decode prog_14_method_64_code 19 = .ok (.lload_n 1, 1) := by decide +kernel
theorem dd_Model_typeOf_20 : decode prog_14_method_64_code 20 = .ok (.l2i, 1) := by decide +kernel
theorem dd_Model_typeOf_21 : decode prog_14_method_64_code 21 = .ok (.imul, 1) := by decide +kernel
theorem dd_Model_typeOf_22 : decode prog_14_method_64_code 22 = .ok (.iload_n 3, 1) := by decide +kernel
theorem dd_Model_typeOf_23 : decode prog_14_method_64_code 23 = .ok (.ifCond .eq 8, 3) := by decide +kernel
theorem dd_Model_typeOf_26 : decode prog_14_method_64_code 26 = .ok (.bipush 16, 2) := by decide +kernel
theorem dd_Model_typeOf_28 : decode prog_14_method_64_code 28 = .ok (.goto 4, 3) := by decide +kernel
theorem dd_Model_typeOf_31 : decode prog_14_method_64_code 31 = .ok (.iconst 0, 1) := by decide +kernel
theorem dd_Model_typeOf_32 : decode prog_14_method_64_code 32 = .ok (.iadd, 1) := by decide +kernel
theorem dd_Model_typeOf_33 : decode prog_14_method_64_code 33 = .ok (.iload 4, 2) := by decide +kernel
theorem dd_Model_typeOf_35 : decode prog_14_method_64_code 35 = .ok (.iadd, 1) := by decide +kernel
theorem dd_Model_typeOf_36 : decode prog_14_method_64_code 36 = .ok (.iaload, 1) := by decide +kernel
theorem dd_Model_typeOf_37 : decode prog_14_method_64_code 37 = .ok (.ireturn, 1) := by decide +kernel
theorem dd_Model_notNull_0 : decode prog_14_method_62_code 0 = .ok (.iload_n 0, 1) := by decide +kernel
theorem dd_Model_notNull_1 : decode prog_14_method_62_code 1 = .ok (.ifCond .ne 13, 3) := by decide +kernel
theorem dd_Model_notNull_4 : decode prog_14_method_62_code 4 = .ok (.sipush 400, 3) := by decide +kernel
theorem dd_Model_notNull_7 : decode prog_14_method_62_code 7 = .ok (.iconst 0, 1) := by decide +kernel
theorem dd_Model_notNull_8 : decode prog_14_method_62_code 8 = .ok (.invokestatic 203, 3) := by decide +kernel
theorem dd_Model_notNull_11 : decode prog_14_method_62_code 11 = .ok (.goto 7, 3) := by decide +kernel
theorem dd_Model_notNull_14 : decode prog_14_method_62_code 14 = .ok (.iload_n 0, 1) := by decide +kernel
theorem dd_Model_notNull_15 : decode prog_14_method_62_code 15 = .ok (.bipush (-2), 2) := by decide +kernel
theorem dd_Model_notNull_17 : decode prog_14_method_62_code 17 = .ok (.iand, 1) := by decide +kernel
theorem dd_Model_notNull_18 : decode prog_14_method_62_code 18 = .ok (.ireturn, 1) := by decide +kernel
theorem dd_Model_takeAll_0 : decode prog_14_method_65_code 0 = .ok (.aload_n 0, 1) := by decide +kernel
theorem dd_Model_takeAll_1 : decode prog_14_method_65_code 1 = .ok (.lload_n 1, 1) := by decide +kernel
theorem dd_Model_takeAll_2 : decode prog_14_method_65_code 2 = .ok (.iload_n 3, 1) := by decide +kernel
theorem dd_Model_takeAll_3 : decode prog_14_method_65_code 3 = .ok (.invokevirtual 496, 3) := by decide +kernel
theorem dd_Model_takeAll_6 : decode prog_14_method_65_code 6 = .ok (.iconst 1, 1) := by decide +kernel
theorem dd_Model_takeAll_7 : decode prog_14_method_65_code 7 = .ok (.isub, 1) := by decide +kernel
theorem dd_Model_takeAll_8 : decode prog_14_method_65_code 8 = .ok (.istore 4, 2) := by decide +kernel
theorem dd_Model_takeAll_10 : decode prog_14_method_65_code 10 = .ok (.iload 4, 2) := by decide +kernel
theorem dd_Model_takeAll_12 : decode prog_14_method_65_code 12 = .ok (.ifCond .lt 21, 3) := by decide +kernel
theorem dd_Model_takeAll_15 : decode prog_14_method_65_code 15 = .ok (.aload_n 0, 1) := by decide +kernel
theorem dd_Model_takeAll_16 : decode prog_14_method_65_code 16 = .ok (.aload_n 0, 1) := by decide +kernel
theorem dd_Model_takeAll_17 : decode prog_14_method_65_code 17 = .ok (.lload_n 1, 1) := by decide +kernel
theorem dd_Model_takeAll_18 : decode prog_14_method_65_code 18 = .ok (.iload_n 3, 1) := by decide +kernel
theorem dd_Model_takeAll_19 : decode prog_14_method_65_code 19 = .ok (.iload 4, 2) := by decide +kernel
theorem dd_Model_takeAll_21 : decode prog_14_method_65_code 21 = .ok (.invokevirtual 500, 3) := by decide +kernel
theorem dd_Model_takeAll_24 : decode prog_14_method_65_code 24 = .ok (.invokevirtual 504, 3) := by decide +kernel
theorem dd_Model_takeAll_27 : decode prog_14_method_65_code 27 = .ok (.iinc 4 (-1), 3) := by decide +kernel
theorem dd_Model_takeAll_30 : decode prog_14_method_65_code 30 = .ok (.goto (-20), 3) := by decide +kernel
theorem dd_Model_takeAll_33 : decode prog_14_method_65_code 33 = .ok (.return_, 1) := by decide +kernel
theorem dd_Model_takeEnd_0 : decode prog_14_method_71_code 0 = .ok (.aload_n 0, 1) := by decide +kernel
theorem dd_Model_takeEnd_1 : decode prog_14_method_71_code 1 = .ok (.aload_n 0, 1) := by decide +kernel
theorem dd_Model_takeEnd_2 : decode prog_14_method_71_code 2 = .ok (.getfield 91, 3) := by decide +kernel
theorem dd_Model_takeEnd_5 : decode prog_14_method_71_code 5 = .ok (.iload_n 1, 1) := by decide +kernel
theorem dd_Model_takeEnd_6 : decode prog_14_method_71_code 6 = .ok (.laload, 1) := by decide +kernel
theorem dd_Model_takeEnd_7 : decode prog_14_method_71_code 7 = .ok (.aload_n 0, 1) := by decide +kernel
theorem dd_Model_takeEnd_8 : decode prog_14_method_71_code 8 = .ok (.iload_n 1, 1) := by decide +kernel
theorem dd_Model_takeEnd_9 : decode prog_14_method_71_code 9 = .ok (.invokevirtual 513, 3) := by decide +kernel
theorem dd_Model_takeEnd_12 : decode prog_14_method_71_code 12 = .ok (.invokevirtual 516, 3) := by decide +kernel
theorem dd_Model_takeEnd_15 : decode prog_14_method_71_code 15 = .ok (.return_, 1) := by decide +kernel
theorem dd_Model_bring_0 : decode prog_14_method_66_code 0 = .ok (.iconst 0, 1) := by decide +kernel
theorem dd_Model_bring_1 : decode prog_14_method_66_code 1 = .ok (.istore 4, 2) := by decide +kernel
theorem dd_Model_bring_3 : decode prog_14_method_66_code 3 = .ok (.iload 4, 2) := by decide +kernel
theorem dd_Model_bring_5 : decode prog_14_method_66_code 5 = .ok (.aload_n 0, 1) := by decide +kernel
theorem dd_Model_bring_6 : decode prog_14_method_66_code 6 = .ok (.lload_n 1, 1) := by decide +kernel
theorem dd_Model_bring_7 : decode prog_14_method_66_code 7 = .ok (.iload_n 3, 1) := by decide +kernel
theorem dd_Model_bring_8 : decode prog_14_method_66_code 8 = .ok (.invokevirtual 496, 3) := by decide +kernel
theorem dd_Model_bring_11 : decode prog_14_method_66_code 11 = .ok (.if_icmp .ge 21, 3) := by decide +kernel
theorem dd_Model_bring_14 : decode prog_14_method_66_code 14 = .ok (.aload_n 0, 1) := by decide +kernel
theorem dd_Model_bring_15 : decode prog_14_method_66_code 15 = .ok (.aload_n 0, 1) := by decide +kernel
theorem dd_Model_bring_16 : decode prog_14_method_66_code 16 = .ok (.lload_n 1, 1) := by decide +kernel
theorem dd_Model_bring_17 : decode prog_14_method_66_code 17 = .ok (.iload_n 3, 1) := by decide +kernel
theorem dd_Model_bring_18 : decode prog_14_method_66_code 18 = .ok (.iload 4, 2) := by decide +kernel
theorem dd_Model_bring_20 : decode prog_14_method_66_code 20 = .ok (.invokevirtual 500, 3) := by decide +kernel
theorem dd_Model_bring_23 : decode prog_14_method_66_code 23 = .ok (.invokevirtual 507, 3) := by decide +kernel
theorem dd_Model_bring_26 : decode prog_14_method_66_code 26 = .ok (.iinc 4 1, 3) := by decide +kernel
theorem dd_Model_bring_29 : decode prog_14_method_66_code 29 = .ok (.goto (-26), 3) := by decide +kernel
theorem dd_Model_bring_32 : decode prog_14_method_66_code 32 = .ok (.return_, 1) := by decide +kernel
theorem dd_Model_bringEnd_0 : decode prog_14_method_72_code 0 = .ok (.aload_n 0, 1) := by decide +kernel
theorem dd_Model_bringEnd_1 : decode prog_14_method_72_code 1 = .ok (.aload_n 0, 1) := by decide +kernel
theorem dd_Model_bringEnd_2 : decode prog_14_method_72_code 2 = .ok (.getfield 91, 3) := by decide +kernel
theorem dd_Model_bringEnd_5 : decode prog_14_method_72_code 5 = .ok (.iload_n 1, 1) := by decide +kernel
theorem dd_Model_bringEnd_6 : decode prog_14_method_72_code 6 = .ok (.laload, 1) := by decide +kernel
theorem dd_Model_bringEnd_7 : decode prog_14_method_72_code 7 = .ok (.aload_n 0, 1) := by decide +kernel
theorem dd_Model_bringEnd_8 : decode prog_14_method_72_code 8 = .ok (.iload_n 1, 1) := by decide +kernel
theorem dd_Model_bringEnd_9 : decode prog_14_method_72_code 9 = .ok (.invokevirtual 513, 3) := by decide +kernel
theorem dd_Model_bringEnd_12 : decode prog_14_method_72_code 12 = .ok (.invokevirtual 520, 3) := by decide +kernel
theorem dd_Model_bringEnd_15 : decode prog_14_method_72_code 15 = .ok (.return_, 1) := by decide +kernel
theorem dd_Model_checkReferences_0 : decode prog_14_method_89_code 0 = .ok (.aload_n 0, 1) := by decide +kernel
theorem dd_Model_checkReferences_1 : decode prog_14_method_89_code 1 = .ok (.getfield 267, 3) := by decide +kernel
theorem dd_Model_checkReferences_4 : decode prog_14_method_89_code 4 = .ok (.sipush 208, 3) := by decide +kernel
theorem dd_Model_checkReferences_7 : decode prog_14_method_89_code 7 = .ok (.if_icmp .ne 42, 3) := by decide +kernel
theorem dd_Model_checkReferences_10 : decode prog_14_method_89_code 10 = .ok (.aload_n 0, 1) := by decide +kernel
theorem dd_Model_checkReferences_11 : decode prog_14_method_89_code 11 = .ok (.aload_n 0, 1) := by decide +kernel
theorem dd_Model_checkReferences_12 : decode prog_14_method_89_code 12 = .ok (.aload_n 0, 1) := by decide +kernel
theorem dd_Model_checkReferences_13 : decode prog_14_method_89_code 13 = .ok (.getfield 273, 3) := by decide +kernel
theorem dd_Model_checkReferences_16 : decode prog_14_method_89_code 16 = .ok (.l2i, 1) := by decide +kernel
theorem dd_Model_checkReferences_17 : decode prog_14_method_89_code 17 = .ok (.aload_n 0, 1) := by decide +kernel
theorem dd_Model_checkReferences_18 : decode prog_14_method_89_code 18 = .ok (.getfield 414, 3) := by decide +kernel
theorem dd_Model_checkReferences_21 : decode prog_14_method_89_code 21 = .ok (.invokevirtual 390, 3) := by decide +kernel
theorem dd_Model_checkReferences_24 : decode prog_14_method_89_code 24 = .ok (.ifCond .ne 7, 3) := by decide +kernel
theorem dd_Model_checkReferences_27 : decode prog_14_method_89_code 27 = .ok (.iconst 1, 1) := by decide +kernel
theorem dd_Model_checkReferences_28 : decode prog_14_method_89_code 28 = .ok (.goto 4, 3) := by decide +kernel
theorem dd_Model_checkReferences_31 : decode prog_14_method_89_code 31 = .ok (.iconst 0, 1) := by decide +kernel
theorem dd_Model_checkReferences_32 : decode prog_14_method_89_code 32 = .ok (.putfield 398, 3) := by decide +kernel
theorem dd_Model_checkReferences_35 : decode prog_14_method_89_code 35 = .ok (.aload_n 0, 1) := by decide +kernel
theorem dd_Model_checkReferences_36 : decode prog_14_method_89_code 36 = .ok (.aload_n 0, 1) := by decide +kernel
theorem dd_Model_checkReferences_37 : decode prog_14_method_89_code 37 = .ok (.getfield 273, 3) := by decide +kernel
theorem dd_Model_checkReferences_40 : decode prog_14_method_89_code 40 = .ok (.l2i, 1) := by decide +kernel
theorem dd_Model_checkReferences_41 : decode prog_14_method_89_code 41 = .ok (.iconst 1, 1) := by decide +kernel
theorem dd_Model_checkReferences_42 : decode prog_14_method_89_code 42 = .ok (.invokestatic 203, 3) := by decide +kernel
theorem dd_Model_checkReferences_45 : decode prog_14_method_89_code 45 = .ok (.invokevirtual 507, 3) := by decide +kernel
theorem dd_Model_checkReferences_48 : decode prog_14_method_89_code 48 = .ok (.return_, 1) := by decide +kernel
theorem dd_Model_checkReferences_49 : decode prog_14_method_89_code 49 = .ok (.aload_n 0, 1) := by decide +kernel
theorem dd_Model_checkReferences_50 : decode prog_14_method_89_code 50 = .ok (.invokevirtual 621, 3) := by decide +kernel
theorem dd_Model_checkReferences_53 : decode prog_14_method_89_code 53 = .ok (.istore_n 1, 1) := by decide +kernel
theorem dd_Model_checkReferences_54 : decode prog_14_method_89_code 54 = .ok (.aload_n 0, 1) := by decide +kernel
theorem dd_Model_checkReferences_55 : decode prog_14_method_89_code 55 = .ok (.getfield 267, 3) := by decide +kernel
theorem dd_Model_checkReferences_58 : decode prog_14_method_89_code 58 = .ok (.sipush 209, 3) := by decide +kernel
theorem dd_Model_checkReferences_61 : decode prog_14_method_89_code 61 = .ok (.if_icmp .eq 13, 3) := by decide +kernel
theorem dd_Model_checkReferences_64 : decode prog_14_method_89_code 64 = .ok (.aload_n 0, 1) := by decide +kernel
theorem dd_Model_checkReferences_65 : decode prog_14_method_89_code 65 = .ok (.getfield 267, 3) := by decide +kernel
theorem dd_Model_checkReferences_68 : decode prog_14_method_89_code 68 = .ok (.sipush 211, 3) := by decide +kernel
theorem dd_Model_checkReferences_71 : decode prog_14_method_89_code 71 = .ok (.if_icmp .ne 24, 3) := by decide +kernel
theorem dd_Model_checkReferences_74 : decode prog_14_method_89_code 74 = .ok (.aload_n 0, 1) := by decide +kernel
theorem dd_Model_checkReferences_75 : decode prog_14_method_89_code 75 = .ok (.getfield 267, 3) := by decide +kernel
theorem dd_Model_checkReferences_78 : decode prog_14_method_89_code 78 = .ok (.sipush 211, 3) := by decide +kernel
theorem dd_Model_checkReferences_81 : decode prog_14_method_89_code 81 = .ok (.if_icmp .ne 8, 3) := by decide +kernel
theorem dd_Model_checkReferences_84 : decode prog_14_method_89_code 84 = .ok (.aload_n 0, 1) := by decide +kernel
theorem dd_Model_checkReferences_85 : decode prog_14_method_89_code 85 = .ok (.invokevirtual 621, 3) := by decide +kernel
theorem dd_Model_checkReferences_88 : decode prog_14_method_89_code 88 = .ok (.istore_n 1, 1) := by decide +kernel
theorem dd_Model_checkReferences_89 : decode prog_14_method_89_code 89 = .ok (.aload_n 0, 1) := by decide +kernel
theorem dd_Model_checkReferences_90 : decode prog_14_method_89_code 90 = .ok (.iconst 1, 1) := by decide +kernel
theorem dd_Model_checkReferences_91 : decode prog_14_method_89_code 91 = .ok (.invokevirtual 507, 3) := by decide +kernel
theorem dd_Model_checkReferences_94 : decode prog_14_method_89_code 94 = .ok (.return_, 1) := by decide +kernel
theorem dd_Model_checkReferences_95 : decode prog_14_method_89_code 95 = .ok (.aload_n 0, 1) := by decide +kernel
theorem dd_Model_checkReferences_96 : decode prog_14_method_89_code 96 = .ok (.getfield 267, 3) := by decide +kernel
theorem dd_Model_checkReferences_99 : decode prog_14_method_89_code 99 = .ok (.sipush 212, 3) := by decide +kernel
theorem dd_Model_checkReferences_102 : decode prog_14_method_89_code 102 = .ok (.if_icmp .ne 12, 3) := by decide +kernel
theorem dd_Model_checkReferences_105 : decode prog_14_method_89_code 105 = .ok (.aload_n 0, 1) := by decide +kernel
theorem dd_Model_checkReferences_106 : decode prog_14_method_89_code 106 = .ok (.iload_n 1, 1) := by decide +kernel
theorem dd_Model_checkReferences_107 : decode prog_14_method_89_code 107 = .ok (.invokestatic 624, 3) := by decide +kernel
theorem dd_Model_checkReferences_110 : decode prog_14_method_89_code 110 = .ok (.invokevirtual 507, 3) := by decide +kernel
theorem dd_Model_checkReferences_113 : decode prog_14_method_89_code 113 = .ok (.return_, 1) := by decide +kernel
theorem dd_Model_checkReferences_114 : decode prog_14_method_89_code 114 = .ok (.aload_n 0, 1) := by decide +kernel
theorem dd_Model_checkReferences_115 : decode prog_14_method_89_code 115 = .ok (.aload_n 0, 1) := by decide +kernel
theorem dd_Model_checkReferences_116 : decode prog_14_method_89_code 116 = .ok (.getfield 273, 3) := by decide +kernel
theorem dd_Model_checkReferences_119 : decode prog_14_method_89_code 119 = .ok (.invokevirtual 554, 3) := by decide +kernel
theorem dd_Model_checkReferences_122 : decode prog_14_method_89_code 122 = .ok (.istore_n 2, 1) := by decide +kernel
theorem dd_Model_checkReferences_123 : decode prog_14_method_89_code 123 = .ok (.iload_n 2, 1) := by decide +kernel
theorem dd_Model_checkReferences_124 : decode prog_14_method_89_code 124 = .ok (.ifCond .ge 4, 3) := by decide +kernel
theorem dd_Model_checkReferences_127 : decode prog_14_method_89_code 127 = .ok (.return_, 1) := by decide +kernel
theorem dd_Model_checkReferences_128 : decode prog_14_method_89_code 128 = .ok (.aload_n 0, 1) := by decide +kernel
theorem dd_Model_checkReferences_129 : decode prog_14_method_89_code 129 = .ok (.getfield 267, 3) := by decide +kernel
theorem dd_Model_checkReferences_132 : decode prog_14_method_89_code 132 = .ok (.sipush 213, 3) := by decide +kernel
theorem dd_Model_checkReferences_135 : decode prog_14_method_89_code 135 = .ok (.if_icmp .ne 22, 3) := by decide +kernel
theorem dd_Model_checkReferences_138 : decode prog_14_method_89_code 138 = .ok (.aload_n 0, 1) := by decide +kernel
theorem dd_Model_checkReferences_139 : decode prog_14_method_89_code 139 = .ok (.iload_n 2, 1) := by decide +kernel
theorem dd_Model_checkReferences_140 : decode prog_14_method_89_code 140 = .ok (.invokevirtual 562, 3) := by decide +kernel
theorem dd_Model_checkReferences_143 : decode prog_14_method_89_code 143 = .ok (.aload_n 0, 1) := by decide +kernel
theorem dd_Model_checkReferences_144 : decode prog_14_method_89_code 144 = .ok (.iload_n 2, 1) := by decide +kernel
theorem dd_Model_checkReferences_145 : decode prog_14_method_89_code 145 = .ok (.invokevirtual 577, 3) := by decide +kernel
theorem dd_Model_checkReferences_148 : decode prog_14_method_89_code 148 = .ok (.aload_n 0, 1) := by decide +kernel
theorem dd_Model_checkReferences_149 : decode prog_14_method_89_code 149 = .ok (.iload_n 1, 1) := by decide +kernel
theorem dd_Model_checkReferences_150 : decode prog_14_method_89_code 150 = .ok (.invokestatic 624, 3) := by decide +kernel
theorem dd_Model_checkReferences_153 : decode prog_14_method_89_code 153 = .ok (.invokevirtual 507, 3) := by decide +kernel
theorem dd_Model_checkReferences_156 : decode prog_14_method_89_code 156 = .ok (.return_, 1) := by decide +kernel
theorem dd_Model_checkReferences_157 : decode prog_14_method_89_code 157 = .ok (.aload_n 0, 1) := by decide +kernel
theorem dd_Model_checkReferences_158 : decode prog_14_method_89_code 158 = .ok (.getfield 91, 3) := by decide +kernel
theorem dd_Model_checkReferences_161 : decode prog_14_method_89_code 161 = .ok (.iload_n 2, 1) := by decide +kernel
theorem dd_Model_checkReferences_162 : decode prog_14_method_89_code 162 = .ok (.laload, 1) := by decide +kernel
theorem dd_Model_checkReferences_163 : decode prog_14_method_89_code 163 = .ok (.lstore_n 3, 1) := by decide +kernel
theorem dd_Model_checkReferences_164 : decode prog_14_method_89_code 164 = .ok (.aload_n 0, 1) := by decide +kernel
theorem dd_Model_checkReferences_165 : decode prog_14_method_89_code 165 = .ok (.iload_n 2, 1) := by decide +kernel
theorem dd_Model_checkReferences_166 : decode prog_14_method_89_code 166 = .ok (.invokevirtual 513, 3) := by decide +kernel
theorem dd_Model_checkReferences_169 : decode prog_14_method_89_code 169 = .ok (.istore 5, 2) := by decide +kernel
theorem dd_Model_checkReferences_171 : decode prog_14_method_89_code 171 = .ok (.aload_n 0, 1) := by decide +kernel
theorem dd_Model_checkReferences_172 : decode prog_14_method_89_code 172 = .ok (.lload_n 3, 1) := by decide +kernel
theorem dd_Model_checkReferences_173 : decode prog_14_method_89_code 173 = .ok (.iload 5, 2) := by decide +kernel
theorem dd_Model_checkReferences_175 : decode prog_14_method_89_code 175 = .ok (.invokevirtual 496, 3) := by decide +kernel
theorem dd_Model_checkReferences_178 : decode prog_14_method_89_code 178 = .ok (.istore 6, 2) := by decide +kernel
theorem dd_Model_checkReferences_180 : decode prog_14_method_89_code 180 = .ok (.aload_n 0, 1) := by decide +kernel
theorem dd_Model_checkReferences_181 : decode prog_14_method_89_code 181 = .ok (.aload_n 0, 1) := by decide +kernel
theorem dd_Model_checkReferences_182 : decode prog_14_method_89_code 182 = .ok (.getfield 398, 3) := by decide +kernel
theorem dd_Model_checkReferences_185 : decode prog_14_method_89_code 185 = .ok (.ifCond .ne 30, 3) := by decide +kernel
theorem dd_Model_checkReferences_188 : decode prog_14_method_89_code 188 = .ok (.iload 6, 2) := by decide +kernel
theorem dd_Model_checkReferences_190 : decode prog_14_method_89_code 190 = .ok (.ifCond .eq 25, 3) := by decide +kernel
theorem dd_Model_checkReferences_193 : decode prog_14_method_89_code 193 = .ok (.aload_n 0, 1) := by decide +kernel
theorem dd_Model_checkReferences_194 : decode prog_14_method_89_code 194 = .ok (.iload_n 1, 1) := by decide +kernel
theorem dd_Model_checkReferences_195 : decode prog_14_method_89_code 195 = .ok (.invokestatic 624, 3) := by decide +kernel
theorem dd_Model_checkReferences_198 : decode prog_14_method_89_code 198 = .ok (.aload_n 0, 1) := by decide +kernel
theorem dd_Model_checkReferences_199 : decode prog_14_method_89_code 199 = .ok (.lload_n 3, 1) := by decide +kernel
theorem dd_Model_checkReferences_200 : decode prog_14_method_89_code 200 = .ok (.iload 5, 2) := by decide +kernel
theorem dd_Model_checkReferences_202 : decode prog_14_method_89_code 202 = .ok (.iload 6, 2) := by decide +kernel
theorem dd_Model_checkReferences_204 : decode prog_14_method_89_code 204 = .ok (.iconst 1, 1) := by decide +kernel
theorem dd_Model_checkReferences_205 : decode prog_14_method_89_code 205 = .ok (.isub, 1) := by decide +kernel
theorem dd_Model_checkReferences_206 : decode prog_14_method_89_code 206 = .ok (.invokevirtual 500, 3) := by decide +kernel
theorem dd_Model_checkReferences_209 : decode prog_14_method_89_code 209 = .ok (.invokevirtual 469, 3) := by decide +kernel
theorem dd_Model_checkReferences_212 : decode prog_14_method_89_code 212 = .ok (.ifCond .ne 7, 3) := by decide +kernel
theorem dd_Model_checkReferences_215 : decode prog_14_method_89_code 215 = .ok (.iconst 1, 1) := by decide +kernel
theorem dd_Model_checkReferences_216 : decode prog_14_method_89_code 216 = .ok (.goto 4, 3) := by decide +kernel
theorem dd_Model_checkReferences_219 : decode prog_14_method_89_code 219 = .ok (.iconst 0, 1) := by decide +kernel
theorem dd_Model_checkReferences_220 : decode prog_14_method_89_code 220 = .ok (.putfield 398, 3) := by decide +kernel
theorem dd_Model_checkReferences_223 : decode prog_14_method_89_code 223 = .ok (.iload 6, 2) := by decide +kernel
theorem dd_Model_checkReferences_225 : decode prog_14_method_89_code 225 = .ok (.iconst 2, 1) := by decide +kernel
theorem dd_Model_checkReferences_226 : decode prog_14_method_89_code 226 = .ok (.isub, 1) := by decide +kernel
theorem dd_Model_checkReferences_227 : decode prog_14_method_89_code 227 = .ok (.istore 7, 2) := by decide +kernel
theorem dd_Model_checkReferences_229 : decode prog_14_method_89_code 229 = .ok (.iload 7, 2) := by decide +kernel
theorem dd_Model_checkReferences_231 : decode prog_14_method_89_code 231 = .ok (.ifCond .lt 29, 3) := by decide +kernel
theorem dd_Model_checkReferences_234 : decode prog_14_method_89_code 234 = .ok (.aload_n 0, 1) := by decide +kernel
theorem dd_Model_checkReferences_235 : decode prog_14_method_89_code 235 = .ok (.getfield 398, 3) := by decide +kernel
theorem dd_Model_checkReferences_238 : decode prog_14_method_89_code 238 = .ok (.ifCond .ne 22, 3) := by decide +kernel
theorem dd_Model_checkReferences_241 : decode prog_14_method_89_code 241 = .ok (.aload_n 0, 1) := by decide +kernel
theorem dd_Model_checkReferences_242 : decode prog_14_method_89_code 242 = .ok (.aload_n 0, 1) := by decide +kernel
theorem dd_Model_checkReferences_243 : decode prog_14_method_89_code 243 = .ok (.lload_n 3, 1) := by decide +kernel
theorem dd_Model_checkReferences_244 : decode prog_14_method_89_code 244 = .ok (.iload 5, 2) := by decide +kernel
theorem dd_Model_checkReferences_246 : decode prog_14_method_89_code 246 = .ok (.iload 7, 2) := by decide +kernel
theorem dd_Model_checkReferences_248 : decode prog_14_method_89_code 248 = .ok (.invokevirtual 500, 3) := by decide +kernel
theorem dd_Model_checkReferences_251 : decode prog_14_method_89_code 251 = .ok (.invokevirtual 504, 3) := by decide +kernel
theorem dd_Model_checkReferences_254 : decode prog_14_method_89_code 254 = .ok (.iinc 7 (-1), 3) := by decide +kernel
theorem dd_Model_checkReferences_257 : decode prog_14_method_89_code 257 = .ok (.goto (-28), 3) := by decide +kernel
theorem dd_Model_checkReferences_260 : decode prog_14_method_89_code 260 = .ok (.iconst 0, 1) := by decide +kernel
theorem dd_Model_checkReferences_261 : decode prog_14_method_89_code 261 = .ok (.istore 7, 2) := by decide +kernel
theorem dd_Model_checkReferences_263 : decode prog_14_method_89_code 263 = .ok (.iload 7, 2) := by decide +kernel
theorem dd_Model_checkReferences_265 : decode prog_14_method_89_code 265 = .ok (.iload 6, 2) := by decide +kernel
theorem dd_Model_checkReferences_267 : decode prog_14_method_89_code 267 = .ok (.iconst 1, 1) := by decide +kernel
theorem dd_Model_checkReferences_268 : decode prog_14_method_89_code 268 = .ok (.isub, 1) := by decide +kernel
theorem dd_Model_checkReferences_269 : decode prog_14_method_89_code 269 = .ok (.if_icmp .ge 29, 3) := by decide +kernel
theorem dd_Model_checkReferences_272 : decode prog_14_method_89_code 272 = .ok (.aload_n 0, 1) := by decide +kernel
theorem dd_Model_checkReferences_273 : decode prog_14_method_89_code 273 = .ok (.getfield 398, 3) := by decide +kernel
theorem dd_Model_checkReferences_276 : decode prog_14_method_89_code 276 = .ok (.ifCond .ne 22, 3) := by decide +kernel
theorem dd_Model_checkReferences_279 : decode prog_14_method_89_code 279 = .ok (.aload_n 0, 1) := by decide +kernel
theorem dd_Model_checkReferences_280 : decode prog_14_method_89_code 280 = .ok (.aload_n 0, 1) := by decide +kernel
theorem dd_Model_checkReferences_281 : decode prog_14_method_89_code 281 = .ok (.lload_n 3, 1) := by decide +kernel
theorem dd_Model_checkReferences_282 : decode prog_14_method_89_code 282 = .ok (.iload 5, 2) := by decide +kernel
theorem dd_Model_checkReferences_284 : decode prog_14_method_89_code 284 = .ok (.iload 7, 2) := by decide +kernel
theorem dd_Model_checkReferences_286 : decode prog_14_method_89_code 286 = .ok (.invokevirtual 500, 3) := by decide +kernel
theorem dd_Model_checkReferences_289 : decode prog_14_method_89_code 289 = .ok (.invokevirtual 507, 3) := by decide +kernel
theorem dd_Model_checkReferences_292 : decode prog_14_method_89_code 292 = .ok (.iinc 7 1, 3) := by decide +kernel
theorem dd_Model_checkReferences_295 : decode prog_14_method_89_code 295 = .ok (.goto (-32), 3) := by decide +kernel
theorem dd_Model_checkReferences_298 : decode prog_14_method_89_code 298 = .ok (.return_, 1) := by decide +kernel
theorem dd_Model_checkNumbers_0 : decode prog_14_method_88_code 0 = .ok (.aload_n 0, 1) := by decide +kernel
theorem dd_Model_checkNumbers_1 : decode prog_14_method_88_code 1 = .ok (.getfield 267, 3) := by decide +kernel
theorem dd_Model_checkNumbers_4 : decode prog_14_method_88_code 4 = .ok (.bipush 65, 2) := by decide +kernel
theorem dd_Model_checkNumbers_6 : decode prog_14_method_88_code 6 = .ok (.if_icmp .eq 12, 3) := by decide +kernel
theorem dd_Model_checkNumbers_9 : decode prog_14_method_88_code 9 = .ok (.aload_n 0, 1) := by decide +kernel
theorem dd_Model_checkNumbers_10 : decode prog_14_method_88_code 10 = .ok (.getfield 267, 3) := by decide +kernel
theorem dd_Model_checkNumbers_13 : decode prog_14_method_88_code 13 = .ok (.bipush 66, 2) := by decide +kernel
theorem dd_Model_checkNumbers_15 : decode prog_14_method_88_code 15 = .ok (.if_icmp .ne 22, 3) := by decide +kernel
theorem dd_Model_checkNumbers_18 : decode prog_14_method_88_code 18 = .ok (.aload_n 0, 1) := by decide +kernel
theorem dd_Model_checkNumbers_19 : decode prog_14_method_88_code 19 = .ok (.aload_n 0, 1) := by decide +kernel
theorem dd_Model_checkNumbers_20 : decode prog_14_method_88_code 20 = .ok (.getfield 267, 3) := by decide +kernel
theorem dd_Model_checkNumbers_23 : decode prog_14_method_88_code 23 = .ok (.bipush 65, 2) := by decide +kernel
theorem dd_Model_checkNumbers_25 : decode prog_14_method_88_code 25 = .ok (.if_icmp .ne 7, 3) := by decide +kernel
theorem dd_Model_checkNumbers_28 : decode prog_14_method_88_code 28 = .ok (.iconst 1, 1) := by decide +kernel
theorem dd_Model_checkNumbers_29 : decode prog_14_method_88_code 29 = .ok (.goto 4, 3) := by decide +kernel
theorem dd_Model_checkNumbers_32 : decode prog_14_method_88_code 32 = .ok (.iconst 2, 1) := by decide +kernel
theorem dd_Model_checkNumbers_33 : decode prog_14_method_88_code 33 = .ok (.invokevirtual 507, 3) := by decide +kernel
theorem dd_Model_checkNumbers_36 : decode prog_14_method_88_code 36 = .ok (.return_, 1) := by decide +kernel
theorem dd_Model_checkNumbers_37 : decode prog_14_method_88_code 37 = .ok (.aload_n 0, 1) := by decide +kernel
theorem dd_Model_checkNumbers_38 : decode prog_14_method_88_code 38 = .ok (.getfield 267, 3) := by decide +kernel
theorem dd_Model_checkNumbers_41 : decode prog_14_method_88_code 41 = .ok (.i2l, 1) := by decide +kernel
theorem dd_Model_checkNumbers_42 : decode prog_14_method_88_code 42 = .ok (.ldc2_w 603, 3) := by decide +kernel
theorem dd_Model_checkNumbers_45 : decode prog_14_method_88_code 45 = .ok (.ldc2_w 257, 3) := by decide +kernel
theorem dd_Model_checkNumbers_48 : decode prog_14_method_88_code 48 = .ok (.invokestatic 219, 3) := by decide +kernel
theorem dd_Model_checkNumbers_51 : decode prog_14_method_88_code 51 = .ok (.ifCond .ne 47, 3) := by decide +kernel
theorem dd_Model_checkNumbers_54 : decode prog_14_method_88_code 54 = .ok (.aload_n 0, 1) := by decide +kernel
theorem dd_Model_checkNumbers_55 : decode prog_14_method_88_code 55 = .ok (.getfield 267, 3) := by decide +kernel
theorem dd_Model_checkNumbers_58 : decode prog_14_method_88_code 58 = .ok (.i2l, 1) := by decide +kernel
theorem dd_Model_checkNumbers_59 : decode prog_14_method_88_code 59 = .ok (.ldc2_w 605, 3) := by decide +kernel
theorem dd_Model_checkNumbers_62 : decode prog_14_method_88_code 62 = .ok (.ldc2_w 261, 3) := by decide +kernel
theorem dd_Model_checkNumbers_65 : decode prog_14_method_88_code 65 = .ok (.invokestatic 219, 3) := by decide +kernel
theorem dd_Model_checkNumbers_68 : decode prog_14_method_88_code 68 = .ok (.ifCond .ne 30, 3) := by decide +kernel
theorem dd_Model_checkNumbers_71 : decode prog_14_method_88_code 71 = .ok (.aload_n 0, 1) := by decide +kernel
theorem dd_Model_checkNumbers_72 : decode prog_14_method_88_code 72 = .ok (.getfield 267, 3) := by decide +kernel
theorem dd_Model_checkNumbers_75 : decode prog_14_method_88_code 75 = .ok (.sipush 167, 3) := by decide +kernel
theorem dd_Model_checkNumbers_78 : decode prog_14_method_88_code 78 = .ok (.if_icmp .eq 20, 3) := by decide +kernel
theorem dd_Model_checkNumbers_81 : decode prog_14_method_88_code 81 = .ok (.aload_n 0, 1) := by decide +kernel
theorem dd_Model_checkNumbers_82 : decode prog_14_method_88_code 82 = .ok (.getfield 267, 3) := by decide +kernel
theorem dd_Model_checkNumbers_85 : decode prog_14_method_88_code 85 = .ok (.i2l, 1) := by decide +kernel
theorem dd_Model_checkNumbers_86 : decode prog_14_method_88_code 86 = .ok (.ldc2_w 607, 3) := by decide +kernel
theorem dd_Model_checkNumbers_89 : decode prog_14_method_88_code 89 = .ok (.ldc2_w 265, 3) := by decide +kernel
theorem dd_Model_checkNumbers_92 : decode prog_14_method_88_code 92 = .ok (.invokestatic 219, 3) := by decide +kernel
theorem dd_Model_checkNumbers_95 : decode prog_14_method_88_code 95 = .ok (.ifCond .eq 7, 3) := by decide +kernel
theorem dd_Model_checkNumbers_98 : decode prog_14_method_88_code 98 = .ok (.iconst 1, 1) := by decide +kernel
theorem dd_Model_checkNumbers_99 : decode prog_14_method_88_code 99 = .ok (.goto 4, 3) := by decide +kernel
theorem dd_Model_checkNumbers_102 : decode prog_14_method_88_code 102 = .ok (.iconst 0, 1) := by decide +kernel
theorem dd_Model_checkNumbers_103 : decode prog_14_method_88_code 103 = .ok (.istore_n 1, 1) := by decide +kernel
theorem dd_Model_checkNumbers_104 : decode prog_14_method_88_code 104 = .ok (.aload_n 0, 1) := by decide +kernel
theorem dd_Model_checkNumbers_105 : decode prog_14_method_88_code 105 = .ok (.getfield 267, 3) := by decide +kernel
theorem dd_Model_checkNumbers_108 : decode prog_14_method_88_code 108 = .ok (.i2l, 1) := by decide +kernel
theorem dd_Model_checkNumbers_109 : decode prog_14_method_88_code 109 = .ok (.ldc2_w 609, 3) := by decide +kernel
theorem dd_Model_checkNumbers_112 : decode prog_14_method_88_code 112 = .ok (.ldc2_w 611, 3) := by decide +kernel
theorem dd_Model_checkNumbers_115 : decode prog_14_method_88_code 115 = .ok (.invokestatic 219, 3) := by decide +kernel
theorem dd_Model_checkNumbers_118 : decode prog_14_method_88_code 118 = .ok (.ifCond .ne 54, 3) := by decide +kernel
theorem dd_Model_checkNumbers_121 : decode prog_14_method_88_code 121 = .ok (.aload_n 0, 1) := by decide +kernel
theorem dd_Model_checkNumbers_122 : decode prog_14_method_88_code 122 = .ok (.getfield 267, 3) := by decide +kernel
theorem dd_Model_checkNumbers_125 : decode prog_14_method_88_code 125 = .ok (.i2l, 1) := by decide +kernel
theorem dd_Model_checkNumbers_126 : decode prog_14_method_88_code 126 = .ok (.ldc2_w 613, 3) := by decide +kernel
theorem dd_Model_checkNumbers_129 : decode prog_14_method_88_code 129 = .ok (.ldc2_w 257, 3) := by decide +kernel
theorem dd_Model_checkNumbers_132 : decode prog_14_method_88_code 132 = .ok (.invokestatic 219, 3) := by decide +kernel
theorem dd_Model_checkNumbers_135 : decode prog_14_method_88_code 135 = .ok (.ifCond .ne 37, 3) := by decide +kernel
theorem dd_Model_checkNumbers_138 : decode prog_14_method_88_code 138 = .ok (.aload_n 0, 1) := by decide +kernel
theorem dd_Model_checkNumbers_139 : decode prog_14_method_88_code 139 = .ok (.getfield 267, 3) := by decide +kernel
theorem dd_Model_checkNumbers_142 : decode prog_14_method_88_code 142 = .ok (.i2l, 1) := by decide +kernel
theorem dd_Model_checkNumbers_143 : decode prog_14_method_88_code 143 = .ok (.ldc2_w 615, 3) := by decide +kernel
theorem dd_Model_checkNumbers_146 : decode prog_14_method_88_code 146 = .ok (.ldc2_w 617, 3) := by decide +kernel
theorem dd_Model_checkNumbers_149 : decode prog_14_method_88_code 149 = .ok (.invokestatic 219, 3) := by decide +kernel
theorem dd_Model_checkNumbers_152 : decode prog_14_method_88_code 152 = .ok (.ifCond .ne 20, 3) := by decide +kernel
theorem dd_Model_checkNumbers_155 : decode prog_14_method_88_code 155 = .ok (.aload_n 0, 1) := by decide +kernel
theorem dd_Model_checkNumbers_156 : decode prog_14_method_88_code 156 = .ok (.getfield 267, 3) := by decide +kernel
theorem dd_Model_checkNumbers_159 : decode prog_14_method_88_code 159 = .ok (.i2l, 1) := by decide +kernel
theorem dd_Model_checkNumbers_160 : decode prog_14_method_88_code 160 = .ok (.ldc2_w 619, 3) := by decide +kernel
theorem dd_Model_checkNumbers_163 : decode prog_14_method_88_code 163 = .ok (.ldc2_w 261, 3) := by decide +kernel
theorem dd_Model_checkNumbers_166 : decode prog_14_method_88_code 166 = .ok (.invokestatic 219, 3) := by decide +kernel
theorem dd_Model_checkNumbers_169 : decode prog_14_method_88_code 169 = .ok (.ifCond .eq 7, 3) := by decide +kernel
theorem dd_Model_checkNumbers_172 : decode prog_14_method_88_code 172 = .ok (.iconst 1, 1) := by decide +kernel
theorem dd_Model_checkNumbers_173 : decode prog_14_method_88_code 173 = .ok (.goto 4, 3) := by decide +kernel
theorem dd_Model_checkNumbers_176 : decode prog_14_method_88_code 176 = .ok (.iconst 0, 1) := by decide +kernel
theorem dd_Model_checkNumbers_177 : decode prog_14_method_88_code 177 = .ok (.istore_n 2, 1) := by decide +kernel
theorem dd_Model_checkNumbers_178 : decode prog_14_method_88_code 178 = .ok (.aload_n 0, 1) := by decide +kernel
theorem dd_Model_checkNumbers_179 : decode prog_14_method_88_code 179 = .ok (.getfield 267, 3) := by decide +kernel
theorem dd_Model_checkNumbers_182 : decode prog_14_method_88_code 182 = .ok (.i2l, 1) := by decide +kernel
theorem dd_Model_checkNumbers_183 : decode prog_14_method_88_code 183 = .ok (.ldc2_w 605, 3) := by decide +kernel
theorem dd_Model_checkNumbers_186 : decode prog_14_method_88_code 186 = .ok (.ldc2_w 261, 3) := by decide +kernel
theorem dd_Model_checkNumbers_189 : decode prog_14_method_88_code 189 = .ok (.invokestatic 219, 3) := by decide +kernel
theorem dd_Model_checkNumbers_192 : decode prog_14_method_88_code 192 = .ok (.ifCond .ne 40, 3) := by decide +kernel
theorem dd_Model_checkNumbers_195 : decode prog_14_method_88_code 195 = .ok (.aload_n 0, 1) := by decide +kernel
theorem dd_Model_checkNumbers_196 : decode prog_14_method_88_code 196 = .ok (.getfield 267, 3) := by decide +kernel
theorem dd_Model_checkNumbers_199 : decode prog_14_method_88_code 199 = .ok (.sipush 172, 3) := by decide +kernel
theorem dd_Model_checkNumbers_202 : decode prog_14_method_88_code 202 = .ok (.if_icmp .eq 30, 3) := by decide +kernel
theorem dd_Model_checkNumbers_205 : decode prog_14_method_88_code 205 = .ok (.aload_n 0, 1) := by decide +kernel
theorem dd_Model_checkNumbers_206 : decode prog_14_method_88_code 206 = .ok (.getfield 267, 3) := by decide +kernel
theorem dd_Model_checkNumbers_209 : decode prog_14_method_88_code 209 = .ok (.sipush 173, 3) := by decide +kernel
theorem dd_Model_checkNumbers_212 : decode prog_14_method_88_code 212 = .ok (.if_icmp .eq 20, 3) := by decide +kernel
theorem dd_Model_checkNumbers_215 : decode prog_14_method_88_code 215 = .ok (.aload_n 0, 1) := by decide +kernel
theorem dd_Model_checkNumbers_216 : decode prog_14_method_88_code 216 = .ok (.getfield 267, 3) := by decide +kernel
theorem dd_Model_checkNumbers_219 : decode prog_14_method_88_code 219 = .ok (.i2l, 1) := by decide +kernel
theorem dd_Model_checkNumbers_220 : decode prog_14_method_88_code 220 = .ok (.ldc2_w 607, 3) := by decide +kernel
theorem dd_Model_checkNumbers_223 : decode prog_14_method_88_code 223 = .ok (.ldc2_w 265, 3) := by decide +kernel
theorem dd_Model_checkNumbers_226 : decode prog_14_method_88_code 226 = .ok (.invokestatic 219, 3) := by decide +kernel
theorem dd_Model_checkNumbers_229 : decode prog_14_method_88_code 229 = .ok (.ifCond .eq 7, 3) := by decide +kernel
theorem dd_Model_checkNumbers_232 : decode prog_14_method_88_code 232 = .ok (.iconst 1, 1) := by decide +kernel
theorem dd_Model_checkNumbers_233 : decode prog_14_method_88_code 233 = .ok (.goto 4, 3) := by decide +kernel
theorem dd_Model_checkNumbers_236 : decode prog_14_method_88_code 236 = .ok (.iconst 0, 1) := by decide +kernel
theorem dd_Model_checkNumbers_237 : decode prog_14_method_88_code 237 = .ok (.istore_n 3, 1) := by decide +kernel
theorem dd_Model_checkNumbers_238 : decode prog_14_method_88_code 238 = .ok (.aload_n 0, 1) := by decide +kernel
theorem dd_Model_checkNumbers_239 : decode prog_14_method_88_code 239 = .ok (.iload_n 1, 1) := by decide +kernel
theorem dd_Model_checkNumbers_240 : decode prog_14_method_88_code 240 = .ok (.ifCond .eq 7, 3) := by decide +kernel
theorem dd_Model_checkNumbers_243 : decode prog_14_method_88_code 243 = .ok (.iconst 2, 1) := by decide +kernel
theorem dd_Model_checkNumbers_244 : decode prog_14_method_88_code 244 = .ok (.goto 4, 3) := by decide +kernel
theorem dd_Model_checkNumbers_247 : decode prog_14_method_88_code 247 = .ok (.iconst 1, 1) := by decide +kernel
theorem dd_Model_checkNumbers_248 : decode prog_14_method_88_code 248 = .ok (.invokevirtual 504, 3) := by decide +kernel
theorem dd_Model_checkNumbers_251 : decode prog_14_method_88_code 251 = .ok (.iload_n 2, 1) := by decide +kernel
theorem dd_Model_checkNumbers_252 : decode prog_14_method_88_code 252 = .ok (.ifCond .eq 16, 3) := by decide +kernel
theorem dd_Model_checkNumbers_255 : decode prog_14_method_88_code 255 = .ok (.aload_n 0, 1) := by decide +kernel
theorem dd_Model_checkNumbers_256 : decode prog_14_method_88_code 256 = .ok (.iload_n 1, 1) := by decide +kernel
theorem dd_Model_checkNumbers_257 : decode prog_14_method_88_code 257 = .ok (.ifCond .eq 7, 3) := by decide +kernel
theorem dd_Model_checkNumbers_260 : decode prog_14_method_88_code 260 = .ok (.iconst 2, 1) := by decide +kernel
theorem dd_Model_checkNumbers_261 : decode prog_14_method_88_code 261 = .ok (.goto 4, 3) := by decide +kernel
theorem dd_Model_checkNumbers_264 : decode prog_14_method_88_code 264 = .ok (.iconst 1, 1) := by decide +kernel
theorem dd_Model_checkNumbers_265 : decode prog_14_method_88_code 265 = .ok (.invokevirtual 504, 3) := by decide +kernel
theorem dd_Model_checkNumbers_268 : decode prog_14_method_88_code 268 = .ok (.aload_n 0, 1) := by decide +kernel
theorem dd_Model_checkNumbers_269 : decode prog_14_method_88_code 269 = .ok (.iload_n 3, 1) := by decide +kernel
theorem dd_Model_checkNumbers_270 : decode prog_14_method_88_code 270 = .ok (.ifCond .eq 7, 3) := by decide +kernel
theorem dd_Model_checkNumbers_273 : decode prog_14_method_88_code 273 = .ok (.iconst 2, 1) := by decide +kernel
theorem dd_Model_checkNumbers_274 : decode prog_14_method_88_code 274 = .ok (.goto 4, 3) := by decide +kernel
theorem dd_Model_checkNumbers_277 : decode prog_14_method_88_code 277 = .ok (.iconst 1, 1) := by decide +kernel
theorem dd_Model_checkNumbers_278 : decode prog_14_method_88_code 278 = .ok (.invokevirtual 507, 3) := by decide +kernel
theorem dd_Model_checkNumbers_281 : decode prog_14_method_88_code 281 = .ok (.return_, 1) := by decide +kernel
theorem dd_Model_isLong_0 : decode prog_14_method_85_code 0 = .ok (.iload_n 0, 1) := by decide +kernel
theorem dd_Model_isLong_1 : decode prog_14_method_85_code 1 = .ok (.bipush 41, 2) := by decide +kernel
theorem dd_Model_isLong_3 : decode prog_14_method_85_code 3 = .ok (.if_icmp .eq 37, 3) := by decide +kernel
theorem dd_Model_isLong_6 : decode prog_14_method_85_code 6 = .ok (.iload_n 0, 1) := by decide +kernel
theorem dd_Model_isLong_7 : decode prog_14_method_85_code 7 = .ok (.bipush 55, 2) := by decide +kernel
theorem dd_Model_isLong_9 : decode prog_14_method_85_code 9 = .ok (.if_icmp .eq 31, 3) := by decide +kernel
theorem dd_Model_isLong_12 : decode prog_14_method_85_code 12 = .ok (.iload_n 0, 1) := by decide +kernel
theorem dd_Model_isLong_13 : decode prog_14_method_85_code 13 = .ok (.i2l, 1) := by decide +kernel
theorem dd_Model_isLong_14 : decode prog_14_method_85_code 14 = .ok (.ldc2_w 589, 3) := by decide +kernel
theorem dd_Model_isLong_17 : decode prog_14_method_85_code 17 = .ok (.ldc2_w 591, 3) := by decide +kernel
theorem dd_Model_isLong_20 : decode prog_14_method_85_code 20 = .ok (.invokestatic 219, 3) := by decide +kernel
theorem dd_Model_isLong_23 : decode prog_14_method_85_code 23 = .ok (.ifCond .ne 17, 3) := by decide +kernel
theorem dd_Model_isLong_26 : decode prog_14_method_85_code 26 = .ok (.iload_n 0, 1) := by decide +kernel
theorem dd_Model_isLong_27 : decode prog_14_method_85_code 27 = .ok (.i2l, 1) := by decide +kernel
theorem dd_Model_isLong_28 : decode prog_14_method_85_code 28 = .ok (.ldc2_w 593, 3) := by decide +kernel
theorem dd_Model_isLong_31 : decode prog_14_method_85_code 31 = .ok (.ldc2_w 303, 3) := by decide +kernel
theorem dd_Model_isLong_34 : decode prog_14_method_85_code 34 = .ok (.invokestatic 219, 3) := by decide +kernel
theorem dd_Model_isLong_37 : decode prog_14_method_85_code 37 = .ok (.ifCond .eq 7, 3) := by decide +kernel
theorem dd_Model_isLong_40 : decode prog_14_method_85_code 40 = .ok (.iconst 1, 1) := by decide +kernel
theorem dd_Model_isLong_41 : decode prog_14_method_85_code 41 = .ok (.goto 4, 3) := by decide +kernel
theorem dd_Model_isLong_44 : decode prog_14_method_85_code 44 = .ok (.iconst 0, 1) := by decide +kernel
theorem dd_Model_isLong_45 : decode prog_14_method_85_code 45 = .ok (.ireturn, 1) := by decide +kernel
theorem dd_Model_widthOf_0 : decode prog_14_method_86_code 0 = .ok (.iload_n 0, 1) := by decide +kernel
theorem dd_Model_widthOf_1 : decode prog_14_method_86_code 1 = .ok (.tableswitch 114 40 62 #[110, 107, 114, 114, 114, 114, 112, 112, 114, 114, 112, 112, 110, 110, 110, 107, 114, 114, 114, 112, 114, 112, 110], 107) := by decide +kernel
theorem dd_Model_widthOf_108 : decode prog_14_method_86_code 108 = .ok (.bipush 8, 2) := by decide +kernel
theorem dd_Model_widthOf_110 : decode prog_14_method_86_code 110 = .ok (.ireturn, 1) := by decide +kernel
theorem dd_Model_widthOf_111 : decode prog_14_method_86_code 111 = .ok (.iconst 4, 1) := by decide +kernel
theorem dd_Model_widthOf_112 : decode prog_14_method_86_code 112 = .ok (.ireturn, 1) := by decide +kernel
theorem dd_Model_widthOf_113 : decode prog_14_method_86_code 113 = .ok (.iconst 2, 1) := by decide +kernel
theorem dd_Model_widthOf_114 : decode prog_14_method_86_code 114 = .ok (.ireturn, 1) := by decide +kernel
theorem dd_Model_widthOf_115 : decode prog_14_method_86_code 115 = .ok (.iconst 1, 1) := by decide +kernel
theorem dd_Model_widthOf_116 : decode prog_14_method_86_code 116 = .ok (.ireturn, 1) := by decide +kernel
theorem dd_Model_checkMemory_0 : decode prog_14_method_87_code 0 = .ok (.aload_n 0, 1) := by decide +kernel
theorem dd_Model_checkMemory_1 : decode prog_14_method_87_code 1 = .ok (.aload_n 0, 1) := by decide +kernel
theorem dd_Model_checkMemory_2 : decode prog_14_method_87_code 2 = .ok (.getfield 457, 3) := by decide +kernel
theorem dd_Model_checkMemory_5 : decode prog_14_method_87_code 5 = .ok (.ifCond .ne 7, 3) := by decide +kernel
theorem dd_Model_checkMemory_8 : decode prog_14_method_87_code 8 = .ok (.iconst 1, 1) := by decide +kernel
theorem dd_Model_checkMemory_9 : decode prog_14_method_87_code 9 = .ok (.goto 4, 3) := by decide +kernel
theorem dd_Model_checkMemory_12 : decode prog_14_method_87_code 12 = .ok (.iconst 0, 1) := by decide +kernel
theorem dd_Model_checkMemory_13 : decode prog_14_method_87_code 13 = .ok (.putfield 398, 3) := by decide +kernel
theorem dd_Model_checkMemory_16 : decode prog_14_method_87_code 16 = .ok (.aload_n 0, 1) := by decide +kernel
theorem dd_Model_checkMemory_17 : decode prog_14_method_87_code 17 = .ok (.getfield 267, 3) := by decide +kernel
theorem dd_Model_checkMemory_20 : decode prog_14_method_87_code 20 = .ok (.bipush 62, 2) := by decide +kernel
theorem dd_Model_checkMemory_22 : decode prog_14_method_87_code 22 = .ok (.if_icmp .le 23, 3) := by decide +kernel
theorem dd_Model_checkMemory_25 : decode prog_14_method_87_code 25 = .ok (.aload_n 0, 1) := by decide +kernel
theorem dd_Model_checkMemory_26 : decode prog_14_method_87_code 26 = .ok (.getfield 267, 3) := by decide +kernel
theorem dd_Model_checkMemory_29 : decode prog_14_method_87_code 29 = .ok (.bipush 64, 2) := by decide +kernel
theorem dd_Model_checkMemory_31 : decode prog_14_method_87_code 31 = .ok (.if_icmp .ne 8, 3) := by decide +kernel
theorem dd_Model_checkMemory_34 : decode prog_14_method_87_code 34 = .ok (.aload_n 0, 1) := by decide +kernel
theorem dd_Model_checkMemory_35 : decode prog_14_method_87_code 35 = .ok (.iconst 1, 1) := by decide +kernel
theorem dd_Model_checkMemory_36 : decode prog_14_method_87_code 36 = .ok (.invokevirtual 504, 3) := by decide +kernel
theorem dd_Model_checkMemory_39 : decode prog_14_method_87_code 39 = .ok (.aload_n 0, 1) := by decide +kernel
theorem dd_Model_checkMemory_40 : decode prog_14_method_87_code 40 = .ok (.iconst 1, 1) := by decide +kernel
theorem dd_Model_checkMemory_41 : decode prog_14_method_87_code 41 = .ok (.invokevirtual 507, 3) := by decide +kernel
theorem dd_Model_checkMemory_44 : decode prog_14_method_87_code 44 = .ok (.return_, 1) := by decide +kernel
theorem dd_Model_checkMemory_45 : decode prog_14_method_87_code 45 = .ok (.aload_n 0, 1) := by decide +kernel
theorem dd_Model_checkMemory_46 : decode prog_14_method_87_code 46 = .ok (.aload_n 0, 1) := by decide +kernel
theorem dd_Model_checkMemory_47 : decode prog_14_method_87_code 47 = .ok (.getfield 398, 3) := by decide +kernel
theorem dd_Model_checkMemory_50 : decode prog_14_method_87_code 50 = .ok (.ifCond .ne 35, 3) := by decide +kernel
theorem dd_Model_checkMemory_53 : decode prog_14_method_87_code 53 = .ok (.aload_n 0, 1) := by decide +kernel
theorem dd_Model_checkMemory_54 : decode prog_14_method_87_code 54 = .ok (.getfield 273, 3) := by decide +kernel
theorem dd_Model_checkMemory_57 : decode prog_14_method_87_code 57 = .ok (.ldc2_w 595, 3) := by decide +kernel
theorem dd_Model_checkMemory_60 : decode prog_14_method_87_code 60 = .ok (.lcmp, 1) := by decide +kernel
theorem dd_Model_checkMemory_61 : decode prog_14_method_87_code 61 = .ok (.ifCond .gt 24, 3) := by decide +kernel
theorem dd_Model_checkMemory_64 : decode prog_14_method_87_code 64 = .ok (.iconst 1, 1) := by decide +kernel
theorem dd_Model_checkMemory_65 : decode prog_14_method_87_code 65 = .ok (.aload_n 0, 1) := by decide +kernel
theorem dd_Model_checkMemory_66 : decode prog_14_method_87_code 66 = .ok (.getfield 273, 3) := by decide +kernel
theorem dd_Model_checkMemory_69 : decode prog_14_method_87_code 69 = .ok (.ldc2_w 595, 3) := by decide +kernel
theorem dd_Model_checkMemory_72 : decode prog_14_method_87_code 72 = .ok (.land, 1) := by decide +kernel
theorem dd_Model_checkMemory_73 : decode prog_14_method_87_code 73 = .ok (.l2i, 1) := by decide +kernel
theorem dd_Model_checkMemory_74 : decode prog_14_method_87_code 74 = .ok (.ishl, 1) := by decide +kernel
theorem dd_Model_checkMemory_75 : decode prog_14_method_87_code 75 = .ok (.aload_n 0, 1) := by decide +kernel
theorem dd_Model_checkMemory_76 : decode prog_14_method_87_code 76 = .ok (.getfield 267, 3) := by decide +kernel
theorem dd_Model_checkMemory_79 : decode prog_14_method_87_code 79 = .ok (.invokestatic 597, 3) := by decide +kernel
theorem dd_Model_checkMemory_82 : decode prog_14_method_87_code 82 = .ok (.if_icmp .le 7, 3) := by decide +kernel
theorem dd_Model_checkMemory_85 : decode prog_14_method_87_code 85 = .ok (.iconst 1, 1) := by decide +kernel
theorem dd_Model_checkMemory_86 : decode prog_14_method_87_code 86 = .ok (.goto 4, 3) := by decide +kernel
theorem dd_Model_checkMemory_89 : decode prog_14_method_87_code 89 = .ok (.iconst 0, 1) := by decide +kernel
theorem dd_Model_checkMemory_90 : decode prog_14_method_87_code 90 = .ok (.putfield 398, 3) := by decide +kernel
theorem dd_Model_checkMemory_93 : decode prog_14_method_87_code 93 = .ok (.aload_n 0, 1) := by decide +kernel
theorem dd_Model_checkMemory_94 : decode prog_14_method_87_code 94 = .ok (.getfield 267, 3) := by decide +kernel
theorem dd_Model_checkMemory_97 : decode prog_14_method_87_code 97 = .ok (.invokestatic 600, 3) := by decide +kernel
theorem dd_Model_checkMemory_100 : decode prog_14_method_87_code 100 = .ok (.ifCond .eq 7, 3) := by decide +kernel
theorem dd_Model_checkMemory_103 : decode prog_14_method_87_code 103 = .ok (.iconst 2, 1) := by decide +kernel
theorem dd_Model_checkMemory_104 : decode prog_14_method_87_code 104 = .ok (.goto 4, 3) := by decide +kernel
theorem dd_Model_checkMemory_107 : decode prog_14_method_87_code 107 = .ok (.iconst 1, 1) := by decide +kernel
theorem dd_Model_checkMemory_108 : decode prog_14_method_87_code 108 = .ok (.istore_n 1, 1) := by decide +kernel
theorem dd_Model_checkMemory_109 : decode prog_14_method_87_code 109 = .ok (.aload_n 0, 1) := by decide +kernel
theorem dd_Model_checkMemory_110 : decode prog_14_method_87_code 110 = .ok (.getfield 267, 3) := by decide +kernel
theorem dd_Model_checkMemory_113 : decode prog_14_method_87_code 113 = .ok (.bipush 53, 2) := by decide +kernel
theorem dd_Model_checkMemory_115 : decode prog_14_method_87_code 115 = .ok (.if_icmp .le 8, 3) := by decide +kernel
theorem dd_Model_checkMemory_118 : decode prog_14_method_87_code 118 = .ok (.aload_n 0, 1) := by decide +kernel
theorem dd_Model_checkMemory_119 : decode prog_14_method_87_code 119 = .ok (.iload_n 1, 1) := by decide +kernel
theorem dd_Model_checkMemory_120 : decode prog_14_method_87_code 120 = .ok (.invokevirtual 504, 3) := by decide +kernel
theorem dd_Model_checkMemory_123 : decode prog_14_method_87_code 123 = .ok (.aload_n 0, 1) := by decide +kernel
theorem dd_Model_checkMemory_124 : decode prog_14_method_87_code 124 = .ok (.iconst 1, 1) := by decide +kernel
theorem dd_Model_checkMemory_125 : decode prog_14_method_87_code 125 = .ok (.invokevirtual 504, 3) := by decide +kernel
theorem dd_Model_checkMemory_128 : decode prog_14_method_87_code 128 = .ok (.aload_n 0, 1) := by decide +kernel
theorem dd_Model_checkMemory_129 : decode prog_14_method_87_code 129 = .ok (.getfield 267, 3) := by decide +kernel
theorem dd_Model_checkMemory_132 : decode prog_14_method_87_code 132 = .ok (.bipush 54, 2) := by decide +kernel
theorem dd_Model_checkMemory_134 : decode prog_14_method_87_code 134 = .ok (.if_icmp .ge 8, 3) := by decide +kernel
theorem dd_Model_checkMemory_137 : decode prog_14_method_87_code 137 = .ok (.aload_n 0, 1) := by decide +kernel
theorem dd_Model_checkMemory_138 : decode prog_14_method_87_code 138 = .ok (.iload_n 1, 1) := by decide +kernel
theorem dd_Model_checkMemory_139 : decode prog_14_method_87_code 139 = .ok (.invokevirtual 507, 3) := by decide +kernel
theorem dd_Model_checkMemory_142 : decode prog_14_method_87_code 142 = .ok (.return_, 1) := by decide +kernel
theorem dd_Model_checkNames_0 : decode prog_14_method_84_code 0 = .ok (.aload_n 0, 1) := by decide +kernel
theorem dd_Model_checkNames_1 : decode prog_14_method_84_code 1 = .ok (.getfield 273, 3) := by decide +kernel
theorem dd_Model_checkNames_4 : decode prog_14_method_84_code 4 = .ok (.aload_n 0, 1) := by decide +kernel
theorem dd_Model_checkNames_5 : decode prog_14_method_84_code 5 = .ok (.getfield 267, 3) := by decide +kernel
theorem dd_Model_checkNames_8 : decode prog_14_method_84_code 8 = .ok (.bipush 35, 2) := by decide +kernel
theorem dd_Model_checkNames_10 : decode prog_14_method_84_code 10 = .ok (.if_icmp .ge 12, 3) := by decide +kernel
theorem dd_Model_checkNames_13 : decode prog_14_method_84_code 13 = .ok (.aload_n 0, 1) := by decide +kernel
theorem dd_Model_checkNames_14 : decode prog_14_method_84_code 14 = .ok (.getfield 51, 3) := by decide +kernel
theorem dd_Model_checkNames_17 : decode prog_14_method_84_code 17 = .ok (.iload_n 1, 1) := by decide +kernel
theorem dd_Model_checkNames_18 : decode prog_14_method_84_code 18 = .ok (.iaload, 1) := by decide +kernel
theorem dd_Model_checkNames_19 : decode prog_14_method_84_code 19 = .ok (.goto 7, 3) := by decide +kernel
theorem dd_Model_checkNames_22 : decode prog_14_method_84_code 22 = .ok (.aload_n 0, 1) := by decide +kernel
theorem dd_Model_checkNames_23 : decode prog_14_method_84_code 23 = .ok (.getfield 466, 3) := by decide +kernel
theorem dd_Model_checkNames_26 : decode prog_14_method_84_code 26 = .ok (.i2l, 1) := by decide +kernel
theorem dd_Model_checkNames_27 : decode prog_14_method_84_code 27 = .ok (.lcmp, 1) := by decide +kernel
theorem dd_Model_checkNames_28 : decode prog_14_method_84_code 28 = .ok (.ifCond .lt 9, 3) := by decide +kernel
theorem dd_Model_checkNames_31 : decode prog_14_method_84_code 31 = .ok (.aload_n 0, 1) := by decide +kernel
theorem dd_Model_checkNames_32 : decode prog_14_method_84_code 32 = .ok (.iconst 1, 1) := by decide +kernel
theorem dd_Model_checkNames_33 : decode prog_14_method_84_code 33 = .ok (.putfield 398, 3) := by decide +kernel
theorem dd_Model_checkNames_36 : decode prog_14_method_84_code 36 = .ok (.return_, 1) := by decide +kernel
theorem dd_Model_checkNames_37 : decode prog_14_method_84_code 37 = .ok (.aload_n 0, 1) := by decide +kernel
theorem dd_Model_checkNames_38 : decode prog_14_method_84_code 38 = .ok (.getfield 267, 3) := by decide +kernel
theorem dd_Model_checkNames_41 : decode prog_14_method_84_code 41 = .ok (.bipush 35, 2) := by decide +kernel
theorem dd_Model_checkNames_43 : decode prog_14_method_84_code 43 = .ok (.if_icmp .ge 22, 3) := by decide +kernel
theorem dd_Model_checkNames_46 : decode prog_14_method_84_code 46 = .ok (.aload_n 0, 1) := by decide +kernel
theorem dd_Model_checkNames_47 : decode prog_14_method_84_code 47 = .ok (.getfield 54, 3) := by decide +kernel
theorem dd_Model_checkNames_50 : decode prog_14_method_84_code 50 = .ok (.sipush 200, 3) := by decide +kernel
theorem dd_Model_checkNames_53 : decode prog_14_method_84_code 53 = .ok (.iload_n 1, 1) := by decide +kernel
theorem dd_Model_checkNames_54 : decode prog_14_method_84_code 54 = .ok (.imul, 1) := by decide +kernel
theorem dd_Model_checkNames_55 : decode prog_14_method_84_code 55 = .ok (.aload_n 0, 1) := by decide +kernel
theorem dd_Model_checkNames_56 : decode prog_14_method_84_code 56 = .ok (.getfield 273, 3) := by decide +kernel
theorem dd_Model_checkNames_59 : decode prog_14_method_84_code 59 = .ok (.l2i, 1) := by decide +kernel
theorem dd_Model_checkNames_60 : decode prog_14_method_84_code 60 = .ok (.iadd, 1) := by decide +kernel
theorem dd_Model_checkNames_61 : decode prog_14_method_84_code 61 = .ok (.iaload, 1) := by decide +kernel
theorem dd_Model_checkNames_62 : decode prog_14_method_84_code 62 = .ok (.goto 13, 3) := by decide +kernel
theorem dd_Model_checkNames_65 : decode prog_14_method_84_code 65 = .ok (.aload_n 0, 1) := by decide +kernel
theorem dd_Model_checkNames_66 : decode prog_14_method_84_code 66 = .ok (.getfield 57, 3) := by decide +kernel
theorem dd_Model_checkNames_69 : decode prog_14_method_84_code 69 = .ok (.aload_n 0, 1) := by decide +kernel
theorem dd_Model_checkNames_70 : decode prog_14_method_84_code 70 = .ok (.getfield 273, 3) := by decide +kernel
theorem dd_Model_checkNames_73 : decode prog_14_method_84_code 73 = .ok (.l2i, 1) := by decide +kernel
theorem dd_Model_checkNames_74 : decode prog_14_method_84_code 74 = .ok (.iaload, 1) := by decide +kernel
theorem dd_Model_checkNames_75 : decode prog_14_method_84_code 75 = .ok (.istore_n 2, 1) := by decide +kernel
theorem dd_Model_checkNames_76 : decode prog_14_method_84_code 76 = .ok (.aload_n 0, 1) := by decide +kernel
theorem dd_Model_checkNames_77 : decode prog_14_method_84_code 77 = .ok (.getfield 267, 3) := by decide +kernel
theorem dd_Model_checkNames_80 : decode prog_14_method_84_code 80 = .ok (.bipush 36, 2) := by decide +kernel
theorem dd_Model_checkNames_82 : decode prog_14_method_84_code 82 = .ok (.if_icmp .ne 25, 3) := by decide +kernel
theorem dd_Model_checkNames_85 : decode prog_14_method_84_code 85 = .ok (.aload_n 0, 1) := by decide +kernel
theorem dd_Model_checkNames_86 : decode prog_14_method_84_code 86 = .ok (.aload_n 0, 1) := by decide +kernel
theorem dd_Model_checkNames_87 : decode prog_14_method_84_code 87 = .ok (.getfield 60, 3) := by decide +kernel
theorem dd_Model_checkNames_90 : decode prog_14_method_84_code 90 = .ok (.aload_n 0, 1) := by decide +kernel
theorem dd_Model_checkNames_91 : decode prog_14_method_84_code 91 = .ok (.getfield 273, 3) := by decide +kernel
theorem dd_Model_checkNames_94 : decode prog_14_method_84_code 94 = .ok (.l2i, 1) := by decide +kernel
theorem dd_Model_checkNames_95 : decode prog_14_method_84_code 95 = .ok (.baload, 1) := by decide +kernel
theorem dd_Model_checkNames_96 : decode prog_14_method_84_code 96 = .ok (.ifCond .ne 7, 3) := by decide +kernel
theorem dd_Model_checkNames_99 : decode prog_14_method_84_code 99 = .ok (.iconst 1, 1) := by decide +kernel
theorem dd_Model_checkNames_100 : decode prog_14_method_84_code 100 = .ok (.goto 4, 3) := by decide +kernel
theorem dd_Model_checkNames_103 : decode prog_14_method_84_code 103 = .ok (.iconst 0, 1) := by decide +kernel
theorem dd_Model_checkNames_104 : decode prog_14_method_84_code 104 = .ok (.putfield 398, 3) := by decide +kernel
theorem dd_Model_checkNames_107 : decode prog_14_method_84_code 107 = .ok (.aload_n 0, 1) := by decide +kernel
theorem dd_Model_checkNames_108 : decode prog_14_method_84_code 108 = .ok (.getfield 267, 3) := by decide +kernel
theorem dd_Model_checkNames_111 : decode prog_14_method_84_code 111 = .ok (.bipush 33, 2) := by decide +kernel
theorem dd_Model_checkNames_113 : decode prog_14_method_84_code 113 = .ok (.if_icmp .eq 21, 3) := by decide +kernel
theorem dd_Model_checkNames_116 : decode prog_14_method_84_code 116 = .ok (.aload_n 0, 1) := by decide +kernel
theorem dd_Model_checkNames_117 : decode prog_14_method_84_code 117 = .ok (.getfield 267, 3) := by decide +kernel
theorem dd_Model_checkNames_120 : decode prog_14_method_84_code 120 = .ok (.bipush 34, 2) := by decide +kernel
theorem dd_Model_checkNames_122 : decode prog_14_method_84_code 122 = .ok (.if_icmp .eq 12, 3) := by decide +kernel
theorem dd_Model_checkNames_125 : decode prog_14_method_84_code 125 = .ok (.aload_n 0, 1) := by decide +kernel
theorem dd_Model_checkNames_126 : decode prog_14_method_84_code 126 = .ok (.getfield 267, 3) := by decide +kernel
theorem dd_Model_checkNames_129 : decode prog_14_method_84_code 129 = .ok (.bipush 36, 2) := by decide +kernel
theorem dd_Model_checkNames_131 : decode prog_14_method_84_code 131 = .ok (.if_icmp .ne 8, 3) := by decide +kernel
theorem dd_Model_checkNames_134 : decode prog_14_method_84_code 134 = .ok (.aload_n 0, 1) := by decide +kernel
theorem dd_Model_checkNames_135 : decode prog_14_method_84_code 135 = .ok (.iload_n 2, 1) := by decide +kernel
theorem dd_Model_checkNames_136 : decode prog_14_method_84_code 136 = .ok (.invokevirtual 504, 3) := by decide +kernel
theorem dd_Model_checkNames_139 : decode prog_14_method_84_code 139 = .ok (.aload_n 0, 1) := by decide +kernel
theorem dd_Model_checkNames_140 : decode prog_14_method_84_code 140 = .ok (.getfield 267, 3) := by decide +kernel
theorem dd_Model_checkNames_143 : decode prog_14_method_84_code 143 = .ok (.bipush 32, 2) := by decide +kernel
theorem dd_Model_checkNames_145 : decode prog_14_method_84_code 145 = .ok (.if_icmp .eq 21, 3) := by decide +kernel
theorem dd_Model_checkNames_148 : decode prog_14_method_84_code 148 = .ok (.aload_n 0, 1) := by decide +kernel
theorem dd_Model_checkNames_149 : decode prog_14_method_84_code 149 = .ok (.getfield 267, 3) := by decide +kernel
theorem dd_Model_checkNames_152 : decode prog_14_method_84_code 152 = .ok (.bipush 34, 2) := by decide +kernel
theorem dd_Model_checkNames_154 : decode prog_14_method_84_code 154 = .ok (.if_icmp .eq 12, 3) := by decide +kernel
theorem dd_Model_checkNames_157 : decode prog_14_method_84_code 157 = .ok (.aload_n 0, 1) := by decide +kernel
theorem dd_Model_checkNames_158 : decode prog_14_method_84_code 158 = .ok (.getfield 267, 3) := by decide +kernel
theorem dd_Model_checkNames_161 : decode prog_14_method_84_code 161 = .ok (.bipush 35, 2) := by decide +kernel
theorem dd_Model_checkNames_163 : decode prog_14_method_84_code 163 = .ok (.if_icmp .ne 8, 3) := by decide +kernel
theorem dd_Model_checkNames_166 : decode prog_14_method_84_code 166 = .ok (.aload_n 0, 1) := by decide +kernel
theorem dd_Model_checkNames_167 : decode prog_14_method_84_code 167 = .ok (.iload_n 2, 1) := by decide +kernel
theorem dd_Model_checkNames_168 : decode prog_14_method_84_code 168 = .ok (.invokevirtual 507, 3) := by decide +kernel
theorem dd_Model_checkNames_171 : decode prog_14_method_84_code 171 = .ok (.return_, 1) := by decide +kernel
theorem dd_Model_unreachable_0 : decode prog_14_method_68_code 0 = .ok (.aload_n 0, 1) := by decide +kernel
theorem dd_Model_unreachable_1 : decode prog_14_method_68_code 1 = .ok (.aload_n 0, 1) := by decide +kernel
theorem dd_Model_unreachable_2 : decode prog_14_method_68_code 2 = .ok (.getfield 94, 3) := by decide +kernel
theorem dd_Model_unreachable_5 : decode prog_14_method_68_code 5 = .ok (.aload_n 0, 1) := by decide +kernel
theorem dd_Model_unreachable_6 : decode prog_14_method_68_code 6 = .ok (.getfield 490, 3) := by decide +kernel
theorem dd_Model_unreachable_9 : decode prog_14_method_68_code 9 = .ok (.iconst 1, 1) := by decide +kernel
theorem dd_Model_unreachable_10 : decode prog_14_method_68_code 10 = .ok (.isub, 1) := by decide +kernel
theorem dd_Model_unreachable_11 : decode prog_14_method_68_code 11 = .ok (.iaload, 1) := by decide +kernel
theorem dd_Model_unreachable_12 : decode prog_14_method_68_code 12 = .ok (.putfield 487, 3) := by decide +kernel
theorem dd_Model_unreachable_15 : decode prog_14_method_68_code 15 = .ok (.aload_n 0, 1) := by decide +kernel
theorem dd_Model_unreachable_16 : decode prog_14_method_68_code 16 = .ok (.getfield 97, 3) := by decide +kernel
theorem dd_Model_unreachable_19 : decode prog_14_method_68_code 19 = .ok (.aload_n 0, 1) := by decide +kernel
theorem dd_Model_unreachable_20 : decode prog_14_method_68_code 20 = .ok (.getfield 490, 3) := by decide +kernel
theorem dd_Model_unreachable_23 : decode prog_14_method_68_code 23 = .ok (.iconst 1, 1) := by decide +kernel
theorem dd_Model_unreachable_24 : decode prog_14_method_68_code 24 = .ok (.isub, 1) := by decide +kernel
theorem dd_Model_unreachable_25 : decode prog_14_method_68_code 25 = .ok (.iconst 1, 1) := by decide +kernel
theorem dd_Model_unreachable_26 : decode prog_14_method_68_code 26 = .ok (.bastore, 1) := by decide +kernel
theorem dd_Model_unreachable_27 : decode prog_14_method_68_code 27 = .ok (.return_, 1) := by decide +kernel
theorem dd_Model_isFunctionType_0 : decode prog_14_method_47_code 0 = .ok (.lload_n 1, 1) := by decide +kernel
theorem dd_Model_isFunctionType_1 : decode prog_14_method_47_code 1 = .ok (.aload_n 0, 1) := by decide +kernel
theorem dd_Model_isFunctionType_2 : decode prog_14_method_47_code 2 = .ok (.getfield 414, 3) := by decide +kernel
theorem dd_Model_isFunctionType_5 : decode prog_14_method_47_code 5 = .ok (.i2l, 1) := by decide +kernel
theorem dd_Model_isFunctionType_6 : decode prog_14_method_47_code 6 = .ok (.lcmp, 1) := by decide +kernel
theorem dd_Model_isFunctionType_7 : decode prog_14_method_47_code 7 = .ok (.ifCond .ge 17, 3) := by decide +kernel
theorem dd_Model_isFunctionType_10 : decode prog_14_method_47_code 10 = .ok (.aload_n 0, 1) := by decide +kernel
theorem dd_Model_isFunctionType_11 : decode prog_14_method_47_code 11 = .ok (.getfield 27, 3) := by decide +kernel
theorem dd_Model_isFunctionType_14 : decode prog_14_method_47_code 14 = .ok (.lload_n 1, 1) := by decide +kernel
theorem dd_Model_isFunctionType_15 : decode prog_14_method_47_code 15 = .ok (.l2i, 1) := by decide +kernel
theorem dd_Model_isFunctionType_16 : decode prog_14_method_47_code 16 = .ok (.iaload, 1) := by decide +kernel
theorem dd_Model_isFunctionType_17 : decode prog_14_method_47_code 17 = .ok (.ifCond .ne 7, 3) := by decide +kernel
theorem dd_Model_isFunctionType_20 : decode prog_14_method_47_code 20 = .ok (.iconst 1, 1) := by decide +kernel
theorem dd_Model_isFunctionType_21 : decode prog_14_method_47_code 21 = .ok (.goto 4, 3) := by decide +kernel
theorem dd_Model_isFunctionType_24 : decode prog_14_method_47_code 24 = .ok (.iconst 0, 1) := by decide +kernel
theorem dd_Model_isFunctionType_25 : decode prog_14_method_47_code 25 = .ok (.ireturn, 1) := by decide +kernel
theorem dd_Model_isBlockType_0 : decode prog_14_method_74_code 0 = .ok (.lload_n 1, 1) := by decide +kernel
theorem dd_Model_isBlockType_1 : decode prog_14_method_74_code 1 = .ok (.lconst 0, 1) := by decide +kernel
theorem dd_Model_isBlockType_2 : decode prog_14_method_74_code 2 = .ok (.lcmp, 1) := by decide +kernel
theorem dd_Model_isBlockType_3 : decode prog_14_method_74_code 3 = .ok (.ifCond .ge 34, 3) := by decide +kernel
theorem dd_Model_isBlockType_6 : decode prog_14_method_74_code 6 = .ok (.lload_n 1, 1) := by decide +kernel
theorem dd_Model_isBlockType_7 : decode prog_14_method_74_code 7 = .ok (.ldc2_w 184, 3) := by decide +kernel
theorem dd_Model_isBlockType_10 : decode prog_14_method_74_code 10 = .ok (.lcmp, 1) := by decide +kernel
theorem dd_Model_isBlockType_11 : decode prog_14_method_74_code 11 = .ok (.ifCond .eq 20, 3) := by decide +kernel
theorem dd_Model_isBlockType_14 : decode prog_14_method_74_code 14 = .ok (.aload_n 0, 1) := by decide +kernel
theorem dd_Model_isBlockType_15 : decode prog_14_method_74_code 15 = .ok (.ldc2_w 213, 3) := by decide +kernel
theorem dd_Model_isBlockType_18 : decode prog_14_method_74_code 18 = .ok (.lload_n 1, 1) := by decide +kernel
theorem dd_Model_isBlockType_19 : decode prog_14_method_74_code 19 = .ok (.lsub, 1) := by decide +kernel
theorem dd_Model_isBlockType_20 : decode prog_14_method_74_code 20 = .ok (.l2i, 1) := by decide +kernel
theorem dd_Model_isBlockType_21 : decode prog_14_method_74_code 21 = .ok (.aload_n 0, 1) := by decide +kernel
theorem dd_Model_isBlockType_22 : decode prog_14_method_74_code 22 = .ok (.getfield 414, 3) := by decide +kernel
theorem dd_Model_isBlockType_25 : decode prog_14_method_74_code 25 = .ok (.invokevirtual 404, 3) := by decide +kernel
theorem dd_Model_isBlockType_28 : decode prog_14_method_74_code 28 = .ok (.ifCond .eq 7, 3) := by decide +kernel
theorem dd_Model_isBlockType_31 : decode prog_14_method_74_code 31 = .ok (.iconst 1, 1) := by decide +kernel
theorem dd_Model_isBlockType_32 : decode prog_14_method_74_code 32 = .ok (.goto 4, 3) := by decide +kernel
theorem dd_Model_isBlockType_35 : decode prog_14_method_74_code 35 = .ok (.iconst 0, 1) := by decide +kernel
theorem dd_Model_isBlockType_36 : decode prog_14_method_74_code 36 = .ok (.ireturn, 1) := by decide +kernel
theorem dd_Model_isBlockType_37 : decode prog_14_method_74_code 37 = .ok (.aload_n 0, 1) := by decide +kernel
theorem dd_Model_isBlockType_38 : decode prog_14_method_74_code 38 = .ok (.lload_n 1, 1) := by decide +kernel
theorem dd_Model_isBlockType_39 : decode prog_14_method_74_code 39 = .ok (.invokevirtual 426, 3) := by decide +kernel
theorem dd_Model_isBlockType_42 : decode prog_14_method_74_code 42 = .ok (.ireturn, 1) := by decide +kernel
theorem dd_Model_checkBlock_0 : decode prog_14_method_75_code 0 = .ok (.aload_n 0, 1) := by decide +kernel
theorem dd_Model_checkBlock_1 : decode prog_14_method_75_code 1 = .ok (.aload_n 0, 1) := by decide +kernel
theorem dd_Model_checkBlock_2 : decode prog_14_method_75_code 2 = .ok (.getfield 273, 3) := by decide +kernel
theorem dd_Model_checkBlock_5 : decode prog_14_method_75_code 5 = .ok (.invokevirtual 545, 3) := by decide +kernel
theorem dd_Model_checkBlock_8 : decode prog_14_method_75_code 8 = .ok (.ifCond .ne 9, 3) := by decide +kernel
theorem dd_Model_checkBlock_11 : decode prog_14_method_75_code 11 = .ok (.aload_n 0, 1) := by decide +kernel
theorem dd_Model_checkBlock_12 : decode prog_14_method_75_code 12 = .ok (.iconst 1, 1) := by decide +kernel
theorem dd_Model_checkBlock_13 : decode prog_14_method_75_code 13 = .ok (.putfield 398, 3) := by decide +kernel
theorem dd_Model_checkBlock_16 : decode prog_14_method_75_code 16 = .ok (.return_, 1) := by decide +kernel
theorem dd_Model_checkBlock_17 : decode prog_14_method_75_code 17 = .ok (.aload_n 0, 1) := by decide +kernel
theorem dd_Model_checkBlock_18 : decode prog_14_method_75_code 18 = .ok (.getfield 267, 3) := by decide +kernel
theorem dd_Model_checkBlock_21 : decode prog_14_method_75_code 21 = .ok (.iconst 4, 1) := by decide +kernel
theorem dd_Model_checkBlock_22 : decode prog_14_method_75_code 22 = .ok (.if_icmp .ne 8, 3) := by decide +kernel
theorem dd_Model_checkBlock_25 : decode prog_14_method_75_code 25 = .ok (.aload_n 0, 1) := by decide +kernel
theorem dd_Model_checkBlock_26 : decode prog_14_method_75_code 26 = .ok (.iconst 1, 1) := by decide +kernel
theorem dd_Model_checkBlock_27 : decode prog_14_method_75_code 27 = .ok (.invokevirtual 504, 3) := by decide +kernel
theorem dd_Model_checkBlock_30 : decode prog_14_method_75_code 30 = .ok (.aload_n 0, 1) := by decide +kernel
theorem dd_Model_checkBlock_31 : decode prog_14_method_75_code 31 = .ok (.aload_n 0, 1) := by decide +kernel
theorem dd_Model_checkBlock_32 : decode prog_14_method_75_code 32 = .ok (.getfield 273, 3) := by decide +kernel
theorem dd_Model_checkBlock_35 : decode prog_14_method_75_code 35 = .ok (.iconst 0, 1) := by decide +kernel
theorem dd_Model_checkBlock_36 : decode prog_14_method_75_code 36 = .ok (.invokevirtual 516, 3) := by decide +kernel
theorem dd_Model_checkBlock_39 : decode prog_14_method_75_code 39 = .ok (.aload_n 0, 1) := by decide +kernel
theorem dd_Model_checkBlock_40 : decode prog_14_method_75_code 40 = .ok (.aload_n 0, 1) := by decide +kernel
theorem dd_Model_checkBlock_41 : decode prog_14_method_75_code 41 = .ok (.getfield 267, 3) := by decide +kernel
theorem dd_Model_checkBlock_44 : decode prog_14_method_75_code 44 = .ok (.aload_n 0, 1) := by decide +kernel
theorem dd_Model_checkBlock_45 : decode prog_14_method_75_code 45 = .ok (.getfield 273, 3) := by decide +kernel
theorem dd_Model_checkBlock_48 : decode prog_14_method_75_code 48 = .ok (.invokevirtual 523, 3) := by decide +kernel
theorem dd_Model_checkBlock_51 : decode prog_14_method_75_code 51 = .ok (.aload_n 0, 1) := by decide +kernel
theorem dd_Model_checkBlock_52 : decode prog_14_method_75_code 52 = .ok (.aload_n 0, 1) := by decide +kernel
theorem dd_Model_checkBlock_53 : decode prog_14_method_75_code 53 = .ok (.getfield 273, 3) := by decide +kernel
theorem dd_Model_checkBlock_56 : decode prog_14_method_75_code 56 = .ok (.iconst 0, 1) := by decide +kernel
theorem dd_Model_checkBlock_57 : decode prog_14_method_75_code 57 = .ok (.invokevirtual 520, 3) := by decide +kernel
theorem dd_Model_checkBlock_60 : decode prog_14_method_75_code 60 = .ok (.aload_n 0, 1) := by decide +kernel
theorem dd_Model_checkBlock_61 : decode prog_14_method_75_code 61 = .ok (.getfield 76, 3) := by decide +kernel
theorem dd_Model_checkBlock_64 : decode prog_14_method_75_code 64 = .ok (.aload_n 0, 1) := by decide +kernel
theorem dd_Model_checkBlock_65 : decode prog_14_method_75_code 65 = .ok (.getfield 510, 3) := by decide +kernel
theorem dd_Model_checkBlock_68 : decode prog_14_method_75_code 68 = .ok (.iconst 0, 1) := by decide +kernel
theorem dd_Model_checkBlock_69 : decode prog_14_method_75_code 69 = .ok (.iastore, 1) := by decide +kernel
theorem dd_Model_checkBlock_70 : decode prog_14_method_75_code 70 = .ok (.aload_n 0, 1) := by decide +kernel
theorem dd_Model_checkBlock_71 : decode prog_14_method_75_code 71 = .ok (.getfield 79, 3) := by decide +kernel
theorem dd_Model_checkBlock_74 : decode prog_14_method_75_code 74 = .ok (.aload_n 0, 1) := by decide +kernel
theorem dd_Model_checkBlock_75 : decode prog_14_method_75_code 75 = .ok (.getfield 510, 3) := by decide +kernel
theorem dd_Model_checkBlock_78 : decode prog_14_method_75_code 78 = .ok (.iconst 0, 1) := by decide +kernel
theorem dd_Model_checkBlock_79 : decode prog_14_method_75_code 79 = .ok (.iastore, 1) := by decide +kernel
theorem dd_Model_checkBlock_80 : decode prog_14_method_75_code 80 = .ok (.return_, 1) := by decide +kernel
theorem dd_Model_isOver_0 : decode prog_14_method_76_code 0 = .ok (.aload_n 0, 1) := by decide +kernel
theorem dd_Model_isOver_1 : decode prog_14_method_76_code 1 = .ok (.getfield 490, 3) := by decide +kernel
theorem dd_Model_isOver_4 : decode prog_14_method_76_code 4 = .ok (.iconst 1, 1) := by decide +kernel
theorem dd_Model_isOver_5 : decode prog_14_method_76_code 5 = .ok (.isub, 1) := by decide +kernel
theorem dd_Model_isOver_6 : decode prog_14_method_76_code 6 = .ok (.istore_n 1, 1) := by decide +kernel
theorem dd_Model_isOver_7 : decode prog_14_method_76_code 7 = .ok (.aload_n 0, 1) := by decide +kernel
theorem dd_Model_isOver_8 : decode prog_14_method_76_code 8 = .ok (.aload_n 0, 1) := by decide +kernel
theorem dd_Model_isOver_9 : decode prog_14_method_76_code 9 = .ok (.getfield 91, 3) := by decide +kernel
theorem dd_Model_isOver_12 : decode prog_14_method_76_code 12 = .ok (.iload_n 1, 1) := by decide +kernel
theorem dd_Model_isOver_13 : decode prog_14_method_76_code 13 = .ok (.laload, 1) := by decide +kernel
theorem dd_Model_isOver_14 : decode prog_14_method_76_code 14 = .ok (.iconst 1, 1) := by decide +kernel
theorem dd_Model_isOver_15 : decode prog_14_method_76_code 15 = .ok (.invokevirtual 516, 3) := by decide +kernel
theorem dd_Model_isOver_18 : decode prog_14_method_76_code 18 = .ok (.aload_n 0, 1) := by decide +kernel
theorem dd_Model_isOver_19 : decode prog_14_method_76_code 19 = .ok (.aload_n 0, 1) := by decide +kernel
theorem dd_Model_isOver_20 : decode prog_14_method_76_code 20 = .ok (.getfield 398, 3) := by decide +kernel
theorem dd_Model_isOver_23 : decode prog_14_method_76_code 23 = .ok (.ifCond .ne 16, 3) := by decide +kernel
theorem dd_Model_isOver_26 : decode prog_14_method_76_code 26 = .ok (.aload_n 0, 1) := by decide +kernel
theorem dd_Model_isOver_27 : decode prog_14_method_76_code 27 = .ok (.getfield 487, 3) := by decide +kernel
theorem dd_Model_isOver_30 : decode prog_14_method_76_code 30 = .ok (.aload_n 0, 1) := by decide +kernel
theorem dd_Model_isOver_31 : decode prog_14_method_76_code 31 = .ok (.getfield 94, 3) := by decide +kernel
theorem dd_Model_isOver_34 : decode prog_14_method_76_code 34 = .ok (.iload_n 1, 1) := by decide +kernel
theorem dd_Model_isOver_35 : decode prog_14_method_76_code 35 = .ok (.iaload, 1) := by decide +kernel
theorem dd_Model_isOver_36 : decode prog_14_method_76_code 36 = .ok (.if_icmp .eq 7, 3) := by decide +kernel
theorem dd_Model_isOver_39 : decode prog_14_method_76_code 39 = .ok (.iconst 1, 1) := by decide +kernel
theorem dd_Model_isOver_40 : decode prog_14_method_76_code 40 = .ok (.goto 4, 3) := by decide +kernel
theorem dd_Model_isOver_43 : decode prog_14_method_76_code 43 = .ok (.iconst 0, 1) := by decide +kernel
theorem dd_Model_isOver_44 : decode prog_14_method_76_code 44 = .ok (.putfield 398, 3) := by decide +kernel
theorem dd_Model_isOver_47 : decode prog_14_method_76_code 47 = .ok (.return_, 1) := by decide +kernel
theorem dd_Model_checkElse_0 : decode prog_14_method_77_code 0 = .ok (.aload_n 0, 1) := by decide +kernel
theorem dd_Model_checkElse_1 : decode prog_14_method_77_code 1 = .ok (.invokevirtual 548, 3) := by decide +kernel
theorem dd_Model_checkElse_4 : decode prog_14_method_77_code 4 = .ok (.aload_n 0, 1) := by decide +kernel
theorem dd_Model_checkElse_5 : decode prog_14_method_77_code 5 = .ok (.getfield 490, 3) := by decide +kernel
theorem dd_Model_checkElse_8 : decode prog_14_method_77_code 8 = .ok (.iconst 1, 1) := by decide +kernel
theorem dd_Model_checkElse_9 : decode prog_14_method_77_code 9 = .ok (.isub, 1) := by decide +kernel
theorem dd_Model_checkElse_10 : decode prog_14_method_77_code 10 = .ok (.istore_n 1, 1) := by decide +kernel
theorem dd_Model_checkElse_11 : decode prog_14_method_77_code 11 = .ok (.aload_n 0, 1) := by decide +kernel
theorem dd_Model_checkElse_12 : decode prog_14_method_77_code 12 = .ok (.getfield 88, 3) := by decide +kernel
theorem dd_Model_checkElse_15 : decode prog_14_method_77_code 15 = .ok (.iload_n 1, 1) := by decide +kernel
theorem dd_Model_checkElse_16 : decode prog_14_method_77_code 16 = .ok (.iconst 5, 1) := by decide +kernel
theorem dd_Model_checkElse_17 : decode prog_14_method_77_code 17 = .ok (.iastore, 1) := by decide +kernel
theorem dd_Model_checkElse_18 : decode prog_14_method_77_code 18 = .ok (.aload_n 0, 1) := by decide +kernel
theorem dd_Model_checkElse_19 : decode prog_14_method_77_code 19 = .ok (.getfield 97, 3) := by decide +kernel
theorem dd_Model_checkElse_22 : decode prog_14_method_77_code 22 = .ok (.iload_n 1, 1) := by decide +kernel
theorem dd_Model_checkElse_23 : decode prog_14_method_77_code 23 = .ok (.iconst 0, 1) := by decide +kernel
theorem dd_Model_checkElse_24 : decode prog_14_method_77_code 24 = .ok (.bastore, 1) := by decide +kernel
theorem dd_Model_checkElse_25 : decode prog_14_method_77_code 25 = .ok (.aload_n 0, 1) := by decide +kernel
theorem dd_Model_checkElse_26 : decode prog_14_method_77_code 26 = .ok (.getfield 79, 3) := by decide +kernel
theorem dd_Model_checkElse_29 : decode prog_14_method_77_code 29 = .ok (.aload_n 0, 1) := by decide +kernel
theorem dd_Model_checkElse_30 : decode prog_14_method_77_code 30 = .ok (.getfield 85, 3) := by decide +kernel
theorem dd_Model_checkElse_33 : decode prog_14_method_77_code 33 = .ok (.iload_n 1, 1) := by decide +kernel
theorem dd_Model_checkElse_34 : decode prog_14_method_77_code 34 = .ok (.iaload, 1) := by decide +kernel
theorem dd_Model_checkElse_35 : decode prog_14_method_77_code 35 = .ok (.aload_n 0, 1) := by decide +kernel
theorem dd_Model_checkElse_36 : decode prog_14_method_77_code 36 = .ok (.getfield 168, 3) := by decide +kernel
theorem dd_Model_checkElse_39 : decode prog_14_method_77_code 39 = .ok (.iastore, 1) := by decide +kernel
theorem dd_Model_checkElse_40 : decode prog_14_method_77_code 40 = .ok (.aload_n 0, 1) := by decide +kernel
theorem dd_Model_checkElse_41 : decode prog_14_method_77_code 41 = .ok (.aload_n 0, 1) := by decide +kernel
theorem dd_Model_checkElse_42 : decode prog_14_method_77_code 42 = .ok (.getfield 91, 3) := by decide +kernel
theorem dd_Model_checkElse_45 : decode prog_14_method_77_code 45 = .ok (.iload_n 1, 1) := by decide +kernel
theorem dd_Model_checkElse_46 : decode prog_14_method_77_code 46 = .ok (.laload, 1) := by decide +kernel
theorem dd_Model_checkElse_47 : decode prog_14_method_77_code 47 = .ok (.iconst 0, 1) := by decide +kernel
theorem dd_Model_checkElse_48 : decode prog_14_method_77_code 48 = .ok (.invokevirtual 520, 3) := by decide +kernel
theorem dd_Model_checkElse_51 : decode prog_14_method_77_code 51 = .ok (.return_, 1) := by decide +kernel
theorem dd_Model_isSame_0 : decode prog_14_method_41_code 0 = .ok (.iload_n 1, 1) := by decide +kernel
theorem dd_Model_isSame_1 : decode prog_14_method_41_code 1 = .ok (.invokestatic 384, 3) := by decide +kernel
theorem dd_Model_isSame_4 : decode prog_14_method_41_code 4 = .ok (.ifCond .eq 10, 3) := by decide +kernel
theorem dd_Model_isSame_7 : decode prog_14_method_41_code 7 = .ok (.iload_n 2, 1) := by decide +kernel
theorem dd_Model_isSame_8 : decode prog_14_method_41_code 8 = .ok (.invokestatic 384, 3) := by decide +kernel
theorem dd_Model_isSame_11 : decode prog_14_method_41_code 11 = .ok (.ifCond .ne 14, 3) := by decide +kernel
theorem dd_Model_isSame_14 : decode prog_14_method_41_code 14 = .ok (.iload_n 1, 1) := by decide +kernel
theorem dd_Model_isSame_15 : decode prog_14_method_41_code 15 = .ok (.iload_n 2, 1) := by decide +kernel
theorem dd_Model_isSame_16 : decode prog_14_method_41_code 16 = .ok (.if_icmp .ne 7, 3) := by decide +kernel
theorem dd_Model_isSame_19 : decode prog_14_method_41_code 19 = .ok (.iconst 1, 1) := by decide +kernel
theorem dd_Model_isSame_20 : decode prog_14_method_41_code 20 = .ok (.goto 4, 3) := by decide +kernel
theorem dd_Model_isSame_23 : decode prog_14_method_41_code 23 = .ok (.iconst 0, 1) := by decide +kernel
theorem dd_Model_isSame_24 : decode prog_14_method_41_code 24 = .ok (.ireturn, 1) := by decide +kernel
theorem dd_Model_isSame_25 : decode prog_14_method_41_code 25 = .ok (.iload_n 1, 1) := by decide +kernel
theorem dd_Model_isSame_26 : decode prog_14_method_41_code 26 = .ok (.invokestatic 387, 3) := by decide +kernel
theorem dd_Model_isSame_29 : decode prog_14_method_41_code 29 = .ok (.istore_n 3, 1) := by decide +kernel
theorem dd_Model_isSame_30 : decode prog_14_method_41_code 30 = .ok (.iload_n 2, 1) := by decide +kernel
theorem dd_Model_isSame_31 : decode prog_14_method_41_code 31 = .ok (.invokestatic 387, 3) := by decide +kernel
theorem dd_Model_isSame_34 : decode prog_14_method_41_code 34 = .ok (.istore 4, 2) := by decide +kernel
theorem dd_Model_isSame_36 : decode prog_14_method_41_code 36 = .ok (.iload_n 1, 1) := by decide +kernel
theorem dd_Model_isSame_37 : decode prog_14_method_41_code 37 = .ok (.iconst 1, 1) := by decide +kernel
theorem dd_Model_isSame_38 : decode prog_14_method_41_code 38 = .ok (.iand, 1) := by decide +kernel
theorem dd_Model_isSame_39 : decode prog_14_method_41_code 39 = .ok (.iload_n 2, 1) := by decide +kernel
theorem dd_Model_isSame_40 : decode prog_14_method_41_code 40 = .ok (.iconst 1, 1) := by decide +kernel
theorem dd_Model_isSame_41 : decode prog_14_method_41_code 41 = .ok (.iand, 1) := by decide +kernel
theorem dd_Model_isSame_42 : decode prog_14_method_41_code 42 = .ok (.if_icmp .ne 44, 3) := by decide +kernel
theorem dd_Model_isSame_45 : decode prog_14_method_41_code 45 = .ok (.iload_n 3, 1) := by decide +kernel
theorem dd_Model_isSame_46 : decode prog_14_method_41_code 46 = .ok (.iload 4, 2) := by decide +kernel
theorem dd_Model_isSame_48 : decode prog_14_method_41_code 48 = .ok (.if_icmp .eq 34, 3) := by decide +kernel
theorem dd_Model_isSame_51 : decode prog_14_method_41_code 51 = .ok (.iload_n 3, 1) := by decide +kernel
theorem dd_Model_isSame_52 : decode prog_14_method_41_code 52 = .ok (.iconst 2, 1) := by decide +kernel
theorem dd_Model_isSame_53 : decode prog_14_method_41_code 53 = .ok (.if_icmp .lt 33, 3) := by decide +kernel
theorem dd_Model_isSame_56 : decode prog_14_method_41_code 56 = .ok (.iload 4, 2) := by decide +kernel
theorem dd_Model_isSame_58 : decode prog_14_method_41_code 58 = .ok (.iconst 2, 1) := by decide +kernel
theorem dd_Model_isSame_59 : decode prog_14_method_41_code 59 = .ok (.if_icmp .lt 27, 3) := by decide +kernel
theorem dd_Model_isSame_62 : decode prog_14_method_41_code 62 = .ok (.aload_n 0, 1) := by decide +kernel
theorem dd_Model_isSame_63 : decode prog_14_method_41_code 63 = .ok (.getfield 39, 3) := by decide +kernel
theorem dd_Model_isSame_66 : decode prog_14_method_41_code 66 = .ok (.iload_n 3, 1) := by decide +kernel
theorem dd_Model_isSame_67 : decode prog_14_method_41_code 67 = .ok (.iconst 2, 1) := by decide +kernel
theorem dd_Model_isSame_68 : decode prog_14_method_41_code 68 = .ok (.isub, 1) := by decide +kernel
theorem dd_Model_isSame_69 : decode prog_14_method_41_code 69 = .ok (.iaload, 1) := by decide +kernel
theorem dd_Model_isSame_70 : decode prog_14_method_41_code 70 = .ok (.aload_n 0, 1) := by decide +kernel
theorem dd_Model_isSame_71 : decode prog_14_method_41_code 71 = .ok (.getfield 39, 3) := by decide +kernel
theorem dd_Model_isSame_74 : decode prog_14_method_41_code 74 = .ok (.iload 4, 2) := by decide +kernel
theorem dd_Model_isSame_76 : decode prog_14_method_41_code 76 = .ok (.iconst 2, 1) := by decide +kernel
theorem dd_Model_isSame_77 : decode prog_14_method_41_code 77 = .ok (.isub, 1) := by decide +kernel
theorem dd_Model_isSame_78 : decode prog_14_method_41_code 78 = .ok (.iaload, 1) := by decide +kernel
theorem dd_Model_isSame_79 : decode prog_14_method_41_code 79 = .ok (.if_icmp .ne 7, 3) := by decide +kernel
theorem dd_Model_isSame_82 : decode prog_14_method_41_code 82 = .ok (.iconst 1, 1) := by decide +kernel
theorem dd_Model_isSame_83 : decode prog_14_method_41_code 83 = .ok (.goto 4, 3) := by decide +kernel
theorem dd_Model_isSame_86 : decode prog_14_method_41_code 86 = .ok (.iconst 0, 1) := by decide +kernel
theorem dd_Model_isSame_87 : decode prog_14_method_41_code 87 = .ok (.ireturn, 1) := by decide +kernel
