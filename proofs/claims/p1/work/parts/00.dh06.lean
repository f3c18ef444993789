theorem dd_Checker_checkExports_0 : decode prog_2_method_9_code 0 = .ok (.aload_n 0, 1) := by decide +kernel
theorem dd_Checker_checkExports_1 : decode prog_2_method_9_code 1 = .ok (.getfield 27, 3) := by decide +kernel
theorem dd_Checker_checkExports_4 : decode prog_2_method_9_code 4 = .ok (.getfield 64, 3) := by decide +kernel
theorem dd_Checker_checkExports_7 : decode prog_2_method_9_code 7 = .ok (.astore_n 1, 1) := by decide +kernel
theorem dd_Checker_checkExports_8 : decode prog_2_method_9_code 8 = .ok (.iconst 0, 1) := by decide +kernel
theorem dd_Checker_checkExports_9 : decode prog_2_method_9_code 9 = .ok (.istore_n 2, 1) := by decide +kernel
theorem dd_Checker_checkExports_10 : decode prog_2_method_9_code 10 = .ok (.iload_n 2, 1) := by decide +kernel
theorem dd_Checker_checkExports_11 : decode prog_2_method_9_code 11 = .ok (.aload_n 1, 1) := by decide +kernel
theorem dd_Checker_checkExports_12 : decode prog_2_method_9_code 12 = .ok (.getfield 54, 3) := by decide +kernel
theorem dd_Checker_checkExports_15 : decode prog_2_method_9_code 15 = .ok (.if_icmp .ge 162, 3) := by decide +kernel
theorem dd_Checker_checkExports_18 : decode prog_2_method_9_code 18 = .ok (.aload_n 1, 1) := by decide +kernel
theorem dd_Checker_checkExports_19 : decode prog_2_method_9_code 19 = .ok (.getfield 132, 3) := by decide +kernel
theorem dd_Checker_checkExports_22 : decode prog_2_method_9_code 22 = .ok (.iload_n 2, 1) := by decide +kernel
theorem dd_Checker_checkExports_23 : decode prog_2_method_9_code 23 = .ok (.iaload, 1) := by decide +kernel
theorem dd_Checker_checkExports_24 : decode prog_2_method_9_code 24 = .ok (.tableswitch 67 0 2 #[28, 41, 54], 28) := by decide +kernel
theorem dd_Checker_checkExports_52 : decode prog_2_method_9_code 52 = .ok (.aload_n 0, 1) := by decide +kernel
theorem dd_Checker_checkExports_53 : decode prog_2_method_9_code 53 = .ok (.getfield 27, 3) := by decide +kernel
theorem dd_Checker_checkExports_56 : decode prog_2_method_9_code 56 = .ok (.getfield 50, 3) := by decide +kernel
theorem dd_Checker_checkExports_59 : decode prog_2_method_9_code 59 = .ok (.getfield 54, 3) := by decide +kernel
theorem dd_Checker_checkExports_62 : decode prog_2_method_9_code 62 = .ok (.goto 39, 3) := by decide +kernel
theorem dd_Checker_checkExports_65 : decode prog_2_method_9_code 65 = .ok (.aload_n 0, 1) := by decide +kernel
theorem dd_Checker_checkExports_66 : decode prog_2_method_9_code 66 = .ok (.getfield 27, 3) := by decide +kernel
theorem dd_Checker_checkExports_69 : decode prog_2_method_9_code 69 = .ok (.getfield 82, 3) := by decide +kernel
theorem dd_Checker_checkExports_72 : decode prog_2_method_9_code 72 = .ok (.getfield 54, 3) := by decide +kernel
theorem dd_Checker_checkExports_75 : decode prog_2_method_9_code 75 = .ok (.goto 26, 3) := by decide +kernel
theorem dd_Checker_checkExports_78 : decode prog_2_method_9_code 78 = .ok (.aload_n 0, 1) := by decide +kernel
theorem dd_Checker_checkExports_79 : decode prog_2_method_9_code 79 = .ok (.getfield 27, 3) := by decide +kernel
theorem dd_Checker_checkExports_82 : decode prog_2_method_9_code 82 = .ok (.getfield 89, 3) := by decide +kernel
theorem dd_Checker_checkExports_85 : decode prog_2_method_9_code 85 = .ok (.getfield 54, 3) := by decide +kernel
theorem dd_Checker_checkExports_88 : decode prog_2_method_9_code 88 = .ok (.goto 13, 3) := by decide +kernel
theorem dd_Checker_checkExports_91 : decode prog_2_method_9_code 91 = .ok (.aload_n 0, 1) := by decide +kernel
theorem dd_Checker_checkExports_92 : decode prog_2_method_9_code 92 = .ok (.getfield 27, 3) := by decide +kernel
theorem dd_Checker_checkExports_95 : decode prog_2_method_9_code 95 = .ok (.getfield 57, 3) := by decide +kernel
theorem dd_Checker_checkExports_98 : decode prog_2_method_9_code 98 = .ok (.getfield 54, 3) := by decide +kernel
theorem dd_Checker_checkExports_101 : decode prog_2_method_9_code 101 = .ok (.istore_n 3, 1) := by decide +kernel
theorem dd_Checker_checkExports_102 : decode prog_2_method_9_code 102 = .ok (.aload_n 1, 1) := by decide +kernel
theorem dd_Checker_checkExports_103 : decode prog_2_method_9_code 103 = .ok (.getfield 151, 3) := by decide +kernel
theorem dd_Checker_checkExports_106 : decode prog_2_method_9_code 106 = .ok (.iload_n 2, 1) := by decide +kernel
theorem dd_Checker_checkExports_107 : decode prog_2_method_9_code 107 = .ok (.laload, 1) := by decide +kernel
theorem dd_Checker_checkExports_108 : decode prog_2_method_9_code 108 = .ok (.iload_n 3, 1) := by decide +kernel
theorem dd_Checker_checkExports_109 : decode prog_2_method_9_code 109 = .ok (.i2l, 1) := by decide +kernel
theorem dd_Checker_checkExports_110 : decode prog_2_method_9_code 110 = .ok (.lcmp, 1) := by decide +kernel
theorem dd_Checker_checkExports_111 : decode prog_2_method_9_code 111 = .ok (.ifCond .ge 7, 3) := by decide +kernel
theorem dd_Checker_checkExports_114 : decode prog_2_method_9_code 114 = .ok (.iconst 1, 1) := by decide +kernel
theorem dd_Checker_checkExports_115 : decode prog_2_method_9_code 115 = .ok (.goto 4, 3) := by decide +kernel
theorem dd_Checker_checkExports_118 : decode prog_2_method_9_code 118 = .ok (.iconst 0, 1) := by decide +kernel
theorem dd_Checker_checkExports_119 : decode prog_2_method_9_code 119 = .ok (.invokestatic 60, 3) := by decide +kernel
theorem dd_Checker_checkExports_122 : decode prog_2_method_9_code 122 = .ok (.iconst 0, 1) := by decide +kernel
theorem dd_Checker_checkExports_123 : decode prog_2_method_9_code 123 = .ok (.istore 4, 2) := by decide +kernel
theorem dd_Checker_checkExports_125 : decode prog_2_method_9_code 125 = .ok (.iload 4, 2) := by decide +kernel
theorem dd_Checker_checkExports_127 : decode prog_2_method_9_code 127 = .ok (.iload_n 2, 1) := by decide +kernel
theorem dd_Checker_checkExports_128 : decode prog_2_method_9_code 128 = .ok (.if_icmp .ge 43, 3) := by decide +kernel
theorem dd_Checker_checkExports_131 : decode prog_2_method_9_code 131 = .ok (.aload_n 1, 1) := by decide +kernel
theorem dd_Checker_checkExports_132 : decode prog_2_method_9_code 132 = .ok (.getfield 145, 3) := by decide +kernel
theorem dd_Checker_checkExports_135 : decode prog_2_method_9_code 135 = .ok (.iload_n 2, 1) := by decide +kernel
theorem dd_Checker_checkExports_136 : decode prog_2_method_9_code 136 = .ok (.iaload, 1) := by decide +kernel
theorem dd_Checker_checkExports_137 : decode prog_2_method_9_code 137 = .ok (.aload_n 1, 1) := by decide +kernel
theorem dd_Checker_checkExports_138 : decode prog_2_method_9_code 138 = .ok (.getfield 145, 3) := by decide +kernel
theorem dd_Checker_checkExports_141 : decode prog_2_method_9_code 141 = .ok (.iload 4, 2) := by decide +kernel
theorem dd_Checker_checkExports_143 : decode prog_2_method_9_code 143 = .ok (.iaload, 1) := by decide +kernel
theorem dd_Checker_checkExports_144 : decode prog_2_method_9_code 144 = .ok (.if_icmp .ne 13, 3) := by decide +kernel
theorem dd_Checker_checkExports_147 : decode prog_2_method_9_code 147 = .ok (.aload_n 0, 1) := by decide +kernel
theorem dd_Checker_checkExports_148 : decode prog_2_method_9_code 148 = .ok (.iload_n 2, 1) := by decide +kernel
theorem dd_Checker_checkExports_149 : decode prog_2_method_9_code 149 = .ok (.iload 4, 2) := by decide +kernel
theorem dd_Checker_checkExports_151 : decode prog_2_method_9_code 151 = .ok (.invokevirtual 155, 3) := by decide +kernel
theorem dd_Checker_checkExports_154 : decode prog_2_method_9_code 154 = .ok (.ifCond .ne 7, 3) := by decide +kernel
theorem dd_Checker_checkExports_157 : decode prog_2_method_9_code 157 = .ok (.iconst 1, 1) := by decide +kernel
theorem dd_Checker_checkExports_158 : decode prog_2_method_9_code 158 = .ok (.goto 4, 3) := by decide +kernel
theorem dd_Checker_checkExports_161 : decode prog_2_method_9_code 161 = .ok (.iconst 0, 1) := by decide +kernel
theorem dd_Checker_checkExports_162 : decode prog_2_method_9_code 162 = .ok (.invokestatic 60, 3) := by decide +kernel
theorem dd_Checker_checkExports_165 : decode prog_2_method_9_code 165 = .ok (.iinc 4 1, 3) := by decide +kernel
theorem dd_Checker_checkExports_168 : decode prog_2_method_9_code 168 = .ok (.goto (-43), 3) := by decide +kernel
theorem dd_Checker_checkExports_171 : decode prog_2_method_9_code 171 = .ok (.iinc 2 1, 3) := by decide +kernel
theorem dd_Checker_checkExports_174 : decode prog_2_method_9_code 174 = .ok (.goto (-164), 3) := by decide +kernel
theorem dd_Checker_checkExports_177 : decode prog_2_method_9_code 177 = .ok (.return_, 1) := by decide +kernel
theorem dd_Checker_checkSegments_0 : decode prog_2_method_11_code 0 = .ok (.aload_n 0, 1) := by decide +kernel
theorem dd_Checker_checkSegments_1 : decode prog_2_method_11_code 1 = .ok (.getfield 27, 3) := by decide +kernel
theorem dd_Checker_checkSegments_4 : decode prog_2_method_11_code 4 = .ok (.getfield 67, 3) := by decide +kernel
theorem dd_Checker_checkSegments_7 : decode prog_2_method_11_code 7 = .ok (.getfield 54, 3) := by decide +kernel
theorem dd_Checker_checkSegments_10 : decode prog_2_method_11_code 10 = .ok (.ifCond .eq 17, 3) := by decide +kernel
theorem dd_Checker_checkSegments_13 : decode prog_2_method_11_code 13 = .ok (.aload_n 0, 1) := by decide +kernel
theorem dd_Checker_checkSegments_14 : decode prog_2_method_11_code 14 = .ok (.getfield 27, 3) := by decide +kernel
theorem dd_Checker_checkSegments_17 : decode prog_2_method_11_code 17 = .ok (.getfield 82, 3) := by decide +kernel
theorem dd_Checker_checkSegments_20 : decode prog_2_method_11_code 20 = .ok (.getfield 54, 3) := by decide +kernel
theorem dd_Checker_checkSegments_23 : decode prog_2_method_11_code 23 = .ok (.iconst 1, 1) := by decide +kernel
theorem dd_Checker_checkSegments_24 : decode prog_2_method_11_code 24 = .ok (.if_icmp .ne 7, 3) := by decide +kernel
theorem dd_Checker_checkSegments_27 : decode prog_2_method_11_code 27 = .ok (.iconst 1, 1) := by decide +kernel
theorem dd_Checker_checkSegments_28 : decode prog_2_method_11_code 28 = .ok (.goto 4, 3) := by decide +kernel
theorem dd_Checker_checkSegments_31 : decode prog_2_method_11_code 31 = .ok (.iconst 0, 1) := by decide +kernel
theorem dd_Checker_checkSegments_32 : decode prog_2_method_11_code 32 = .ok (.invokestatic 60, 3) := by decide +kernel
theorem dd_Checker_checkSegments_35 : decode prog_2_method_11_code 35 = .ok (.aload_n 0, 1) := by decide +kernel
theorem dd_Checker_checkSegments_36 : decode prog_2_method_11_code 36 = .ok (.getfield 27, 3) := by decide +kernel
theorem dd_Checker_checkSegments_39 : decode prog_2_method_11_code 39 = .ok (.getfield 70, 3) := by decide +kernel
theorem dd_Checker_checkSegments_42 : decode prog_2_method_11_code 42 = .ok (.getfield 54, 3) := by decide +kernel
theorem dd_Checker_checkSegments_45 : decode prog_2_method_11_code 45 = .ok (.ifCond .eq 17, 3) := by decide +kernel
theorem dd_Checker_checkSegments_48 : decode prog_2_method_11_code 48 = .ok (.aload_n 0, 1) := by decide +kernel
theorem dd_Checker_checkSegments_49 : decode prog_2_method_11_code 49 = .ok (.getfield 27, 3) := by decide +kernel
theorem dd_Checker_checkSegments_52 : decode prog_2_method_11_code 52 = .ok (.getfield 89, 3) := by decide +kernel
theorem dd_Checker_checkSegments_55 : decode prog_2_method_11_code 55 = .ok (.getfield 54, 3) := by decide +kernel
theorem dd_Checker_checkSegments_58 : decode prog_2_method_11_code 58 = .ok (.iconst 1, 1) := by decide +kernel
theorem dd_Checker_checkSegments_59 : decode prog_2_method_11_code 59 = .ok (.if_icmp .ne 7, 3) := by decide +kernel
theorem dd_Checker_checkSegments_62 : decode prog_2_method_11_code 62 = .ok (.iconst 1, 1) := by decide +kernel
theorem dd_Checker_checkSegments_63 : decode prog_2_method_11_code 63 = .ok (.goto 4, 3) := by decide +kernel
theorem dd_Checker_checkSegments_66 : decode prog_2_method_11_code 66 = .ok (.iconst 0, 1) := by decide +kernel
theorem dd_Checker_checkSegments_67 : decode prog_2_method_11_code 67 = .ok (.invokestatic 60, 3) := by decide +kernel
theorem dd_Checker_checkSegments_70 : decode prog_2_method_11_code 70 = .ok (.iconst 0, 1) := by decide +kernel
theorem dd_Checker_checkSegments_71 : decode prog_2_method_11_code 71 = .ok (.istore_n 1, 1) := by decide +kernel
theorem dd_Checker_checkSegments_72 : decode prog_2_method_11_code 72 = .ok (.iload_n 1, 1) := by decide +kernel
theorem dd_Checker_checkSegments_73 : decode prog_2_method_11_code 73 = .ok (.aload_n 0, 1) := by decide +kernel
theorem dd_Checker_checkSegments_74 : decode prog_2_method_11_code 74 = .ok (.getfield 27, 3) := by decide +kernel
theorem dd_Checker_checkSegments_77 : decode prog_2_method_11_code 77 = .ok (.getfield 67, 3) := by decide +kernel
theorem dd_Checker_checkSegments_80 : decode prog_2_method_11_code 80 = .ok (.getfield 54, 3) := by decide +kernel
theorem dd_Checker_checkSegments_83 : decode prog_2_method_11_code 83 = .ok (.if_icmp .ge 78, 3) := by decide +kernel
theorem dd_Checker_checkSegments_86 : decode prog_2_method_11_code 86 = .ok (.aload_n 0, 1) := by decide +kernel
theorem dd_Checker_checkSegments_87 : decode prog_2_method_11_code 87 = .ok (.getfield 27, 3) := by decide +kernel
theorem dd_Checker_checkSegments_90 : decode prog_2_method_11_code 90 = .ok (.getfield 67, 3) := by decide +kernel
theorem dd_Checker_checkSegments_93 : decode prog_2_method_11_code 93 = .ok (.getfield 142, 3) := by decide +kernel
theorem dd_Checker_checkSegments_96 : decode prog_2_method_11_code 96 = .ok (.iload_n 1, 1) := by decide +kernel
theorem dd_Checker_checkSegments_97 : decode prog_2_method_11_code 97 = .ok (.iaload, 1) := by decide +kernel
theorem dd_Checker_checkSegments_98 : decode prog_2_method_11_code 98 = .ok (.istore_n 2, 1) := by decide +kernel
theorem dd_Checker_checkSegments_99 : decode prog_2_method_11_code 99 = .ok (.iload_n 2, 1) := by decide +kernel
theorem dd_Checker_checkSegments_100 : decode prog_2_method_11_code 100 = .ok (.istore_n 3, 1) := by decide +kernel
theorem dd_Checker_checkSegments_101 : decode prog_2_method_11_code 101 = .ok (.iload_n 3, 1) := by decide +kernel
theorem dd_Checker_checkSegments_102 : decode prog_2_method_11_code 102 = .ok (.iload_n 2, 1) := by decide +kernel
theorem dd_Checker_checkSegments_103 : decode prog_2_method_11_code 103 = .ok (.aload_n 0, 1) := by decide +kernel
theorem dd_Checker_checkSegments_104 : decode prog_2_method_11_code 104 = .ok (.getfield 27, 3) := by decide +kernel
theorem dd_Checker_checkSegments_107 : decode prog_2_method_11_code 107 = .ok (.getfield 67, 3) := by decide +kernel
theorem dd_Checker_checkSegments_110 : decode prog_2_method_11_code 110 = .ok (.getfield 145, 3) := by decide +kernel
theorem dd_Checker_checkSegments_113 : decode prog_2_method_11_code 113 = .ok (.iload_n 1, 1) := by decide +kernel
theorem dd_Checker_checkSegments_114 : decode prog_2_method_11_code 114 = .ok (.iaload, 1) := by decide +kernel
theorem dd_Checker_checkSegments_115 : decode prog_2_method_11_code 115 = .ok (.iadd, 1) := by decide +kernel
theorem dd_Checker_checkSegments_116 : decode prog_2_method_11_code 116 = .ok (.if_icmp .ge 39, 3) := by decide +kernel
theorem dd_Checker_checkSegments_119 : decode prog_2_method_11_code 119 = .ok (.aload_n 0, 1) := by decide +kernel
theorem dd_Checker_checkSegments_120 : decode prog_2_method_11_code 120 = .ok (.getfield 42, 3) := by decide +kernel
theorem dd_Checker_checkSegments_123 : decode prog_2_method_11_code 123 = .ok (.getfield 162, 3) := by decide +kernel
theorem dd_Checker_checkSegments_126 : decode prog_2_method_11_code 126 = .ok (.iload_n 3, 1) := by decide +kernel
theorem dd_Checker_checkSegments_127 : decode prog_2_method_11_code 127 = .ok (.iaload, 1) := by decide +kernel
theorem dd_Checker_checkSegments_128 : decode prog_2_method_11_code 128 = .ok (.aload_n 0, 1) := by decide +kernel
theorem dd_Checker_checkSegments_129 : decode prog_2_method_11_code 129 = .ok (.getfield 27, 3) := by decide +kernel
theorem dd_Checker_checkSegments_132 : decode prog_2_method_11_code 132 = .ok (.getfield 50, 3) := by decide +kernel
theorem dd_Checker_checkSegments_135 : decode prog_2_method_11_code 135 = .ok (.getfield 54, 3) := by decide +kernel
theorem dd_Checker_checkSegments_138 : decode prog_2_method_11_code 138 = .ok (.if_icmp .ge 7, 3) := by decide +kernel
theorem dd_Checker_checkSegments_141 : decode prog_2_method_11_code 141 = .ok (.iconst 1, 1) := by decide +kernel
theorem dd_Checker_checkSegments_142 : decode prog_2_method_11_code 142 = .ok (.goto 4, 3) := by decide +kernel
theorem dd_Checker_checkSegments_145 : decode prog_2_method_11_code 145 = .ok (.iconst 0, 1) := by decide +kernel
theorem dd_Checker_checkSegments_146 : decode prog_2_method_11_code 146 = .ok (.invokestatic 60, 3) := by decide +kernel
theorem dd_Checker_checkSegments_149 : decode prog_2_method_11_code 149 = .ok (.iinc 3 1, 3) := by decide +kernel
theorem dd_Checker_checkSegments_152 : decode prog_2_method_11_code 152 = .ok (.goto (-51), 3) := by decide +kernel
theorem dd_Checker_checkSegments_155 : decode prog_2_method_11_code 155 = .ok (.iinc 1 1, 3) := by decide +kernel
theorem dd_Checker_checkSegments_158 : decode prog_2_method_11_code 158 = .ok (.goto (-86), 3) := by decide +kernel
theorem dd_Checker_checkSegments_161 : decode prog_2_method_11_code 161 = .ok (.return_, 1) := by decide +kernel
theorem dd_Checker_checkParts_0 : decode prog_2_method_3_code 0 = .ok (.aload_n 0, 1) := by decide +kernel
theorem dd_Checker_checkParts_1 : decode prog_2_method_3_code 1 = .ok (.getfield 37, 3) := by decide +kernel
theorem dd_Checker_checkParts_4 : decode prog_2_method_3_code 4 = .ok (.getfield 46, 3) := by decide +kernel
theorem dd_Checker_checkParts_7 : decode prog_2_method_3_code 7 = .ok (.bipush 64, 2) := by decide +kernel
theorem dd_Checker_checkParts_9 : decode prog_2_method_3_code 9 = .ok (.if_icmp .gt 37, 3) := by decide +kernel
theorem dd_Checker_checkParts_12 : decode prog_2_method_3_code 12 = .ok (.aload_n 0, 1) := by decide +kernel
theorem dd_Checker_checkParts_13 : decode prog_2_method_3_code 13 = .ok (.getfield 27, 3) := by decide +kernel
theorem dd_Checker_checkParts_16 : decode prog_2_method_3_code 16 = .ok (.getfield 50, 3) := by decide +kernel
theorem dd_Checker_checkParts_19 : decode prog_2_method_3_code 19 = .ok (.getfield 54, 3) := by decide +kernel
theorem dd_Checker_checkParts_22 : decode prog_2_method_3_code 22 = .ok (.bipush 64, 2) := by decide +kernel
theorem dd_Checker_checkParts_24 : decode prog_2_method_3_code 24 = .ok (.if_icmp .gt 22, 3) := by decide +kernel
theorem dd_Checker_checkParts_27 : decode prog_2_method_3_code 27 = .ok (.aload_n 0, 1) := by decide +kernel
theorem dd_Checker_checkParts_28 : decode prog_2_method_3_code 28 = .ok (.getfield 27, 3) := by decide +kernel
theorem dd_Checker_checkParts_31 : decode prog_2_method_3_code 31 = .ok (.getfield 57, 3) := by decide +kernel
theorem dd_Checker_checkParts_34 : decode prog_2_method_3_code 34 = .ok (.getfield 54, 3) := by decide +kernel
theorem dd_Checker_checkParts_37 : decode prog_2_method_3_code 37 = .ok (.bipush 64, 2) := by decide +kernel
theorem dd_Checker_checkParts_39 : decode prog_2_method_3_code 39 = .ok (.if_icmp .gt 7, 3) := by decide +kernel
theorem dd_Checker_checkParts_42 : decode prog_2_method_3_code 42 = .ok (.iconst 1, 1) := by decide +kernel
theorem dd_Checker_checkParts_43 : decode prog_2_method_3_code 43 = .ok (.goto 4, 3) := by decide +kernel
theorem dd_Checker_checkParts_46 : decode prog_2_method_3_code 46 = .ok (.iconst 0, 1) := by decide +kernel
theorem dd_Checker_checkParts_47 : decode prog_2_method_3_code 47 = .ok (.invokestatic 60, 3) := by decide +kernel
theorem dd_Checker_checkParts_50 : decode prog_2_method_3_code 50 = .ok (.aload_n 0, 1) := by decide +kernel
theorem dd_Checker_checkParts_51 : decode prog_2_method_3_code 51 = .ok (.getfield 27, 3) := by decide +kernel
theorem dd_Checker_checkParts_54 : decode prog_2_method_3_code 54 = .ok (.getfield 64, 3) := by decide +kernel
theorem dd_Checker_checkParts_57 : decode prog_2_method_3_code 57 = .ok (.getfield 54, 3) := by decide +kernel
theorem dd_Checker_checkParts_60 : decode prog_2_method_3_code 60 = .ok (.bipush 64, 2) := by decide +kernel
theorem dd_Checker_checkParts_62 : decode prog_2_method_3_code 62 = .ok (.if_icmp .gt 37, 3) := by decide +kernel
theorem dd_Checker_checkParts_65 : decode prog_2_method_3_code 65 = .ok (.aload_n 0, 1) := by decide +kernel
theorem dd_Checker_checkParts_66 : decode prog_2_method_3_code 66 = .ok (.getfield 27, 3) := by decide +kernel
theorem dd_Checker_checkParts_69 : decode prog_2_method_3_code 69 = .ok (.getfield 67, 3) := by decide +kernel
theorem dd_Checker_checkParts_72 : decode prog_2_method_3_code 72 = .ok (.getfield 54, 3) := by decide +kernel
theorem dd_Checker_checkParts_75 : decode prog_2_method_3_code 75 = .ok (.bipush 64, 2) := by decide +kernel
theorem dd_Checker_checkParts_77 : decode prog_2_method_3_code 77 = .ok (.if_icmp .gt 22, 3) := by decide +kernel
theorem dd_Checker_checkParts_80 : decode prog_2_method_3_code 80 = .ok (.aload_n 0, 1) := by decide +kernel
theorem dd_Checker_checkParts_81 : decode prog_2_method_3_code 81 = .ok (.getfield 27, 3) := by decide +kernel
theorem dd_Checker_checkParts_84 : decode prog_2_method_3_code 84 = .ok (.getfield 70, 3) := by decide +kernel
theorem dd_Checker_checkParts_87 : decode prog_2_method_3_code 87 = .ok (.getfield 54, 3) := by decide +kernel
theorem dd_Checker_checkParts_90 : decode prog_2_method_3_code 90 = .ok (.bipush 64, 2) := by decide +kernel
theorem dd_Checker_checkParts_92 : decode prog_2_method_3_code 92 = .ok (.if_icmp .gt 7, 3) := by decide +kernel
theorem dd_Checker_checkParts_95 : decode prog_2_method_3_code 95 = .ok (.iconst 1, 1) := by decide +kernel
theorem dd_Checker_checkParts_96 : decode prog_2_method_3_code 96 = .ok (.goto 4, 3) := by decide +kernel
theorem dd_Checker_checkParts_99 : decode prog_2_method_3_code 99 = .ok (.iconst 0, 1) := by decide +kernel
theorem dd_Checker_checkParts_100 : decode prog_2_method_3_code 100 = .ok (.invokestatic 60, 3) := by decide +kernel
theorem dd_Checker_checkParts_103 : decode prog_2_method_3_code 103 = .ok (.aload_n 0, 1) := by decide +kernel
theorem dd_Checker_checkParts_104 : decode prog_2_method_3_code 104 = .ok (.getfield 27, 3) := by decide +kernel
theorem dd_Checker_checkParts_107 : decode prog_2_method_3_code 107 = .ok (.getfield 73, 3) := by decide +kernel
theorem dd_Checker_checkParts_110 : decode prog_2_method_3_code 110 = .ok (.aload_n 0, 1) := by decide +kernel
theorem dd_Checker_checkParts_111 : decode prog_2_method_3_code 111 = .ok (.getfield 27, 3) := by decide +kernel
theorem dd_Checker_checkParts_114 : decode prog_2_method_3_code 114 = .ok (.getfield 50, 3) := by decide +kernel
theorem dd_Checker_checkParts_117 : decode prog_2_method_3_code 117 = .ok (.getfield 54, 3) := by decide +kernel
theorem dd_Checker_checkParts_120 : decode prog_2_method_3_code 120 = .ok (.if_icmp .ne 7, 3) := by decide +kernel
theorem dd_Checker_checkParts_123 : decode prog_2_method_3_code 123 = .ok (.iconst 1, 1) := by decide +kernel
theorem dd_Checker_checkParts_124 : decode prog_2_method_3_code 124 = .ok (.goto 4, 3) := by decide +kernel
theorem dd_Checker_checkParts_127 : decode prog_2_method_3_code 127 = .ok (.iconst 0, 1) := by decide +kernel
theorem dd_Checker_checkParts_128 : decode prog_2_method_3_code 128 = .ok (.invokestatic 60, 3) := by decide +kernel
theorem dd_Checker_checkParts_131 : decode prog_2_method_3_code 131 = .ok (.aload_n 0, 1) := by decide +kernel
theorem dd_Checker_checkParts_132 : decode prog_2_method_3_code 132 = .ok (.invokevirtual 76, 3) := by decide +kernel
theorem dd_Checker_checkParts_135 : decode prog_2_method_3_code 135 = .ok (.aload_n 0, 1) := by decide +kernel
theorem dd_Checker_checkParts_136 : decode prog_2_method_3_code 136 = .ok (.invokevirtual 79, 3) := by decide +kernel
theorem dd_Checker_checkParts_139 : decode prog_2_method_3_code 139 = .ok (.aload_n 0, 1) := by decide +kernel
theorem dd_Checker_checkParts_140 : decode prog_2_method_3_code 140 = .ok (.aload_n 0, 1) := by decide +kernel
theorem dd_Checker_checkParts_141 : decode prog_2_method_3_code 141 = .ok (.getfield 27, 3) := by decide +kernel
theorem dd_Checker_checkParts_144 : decode prog_2_method_3_code 144 = .ok (.getfield 82, 3) := by decide +kernel
theorem dd_Checker_checkParts_147 : decode prog_2_method_3_code 147 = .ok (.bipush 64, 2) := by decide +kernel
theorem dd_Checker_checkParts_149 : decode prog_2_method_3_code 149 = .ok (.invokevirtual 85, 3) := by decide +kernel
theorem dd_Checker_checkParts_152 : decode prog_2_method_3_code 152 = .ok (.aload_n 0, 1) := by decide +kernel
theorem dd_Checker_checkParts_153 : decode prog_2_method_3_code 153 = .ok (.aload_n 0, 1) := by decide +kernel
theorem dd_Checker_checkParts_154 : decode prog_2_method_3_code 154 = .ok (.getfield 27, 3) := by decide +kernel
theorem dd_Checker_checkParts_157 : decode prog_2_method_3_code 157 = .ok (.getfield 89, 3) := by decide +kernel
theorem dd_Checker_checkParts_160 : decode prog_2_method_3_code 160 = .ok (.bipush 16, 2) := by decide +kernel
theorem dd_Checker_checkParts_162 : decode prog_2_method_3_code 162 = .ok (.invokevirtual 85, 3) := by decide +kernel
theorem dd_Checker_checkParts_165 : decode prog_2_method_3_code 165 = .ok (.aload_n 0, 1) := by decide +kernel
theorem dd_Checker_checkParts_166 : decode prog_2_method_3_code 166 = .ok (.invokevirtual 92, 3) := by decide +kernel
theorem dd_Checker_checkParts_169 : decode prog_2_method_3_code 169 = .ok (.aload_n 0, 1) := by decide +kernel
theorem dd_Checker_checkParts_170 : decode prog_2_method_3_code 170 = .ok (.invokevirtual 95, 3) := by decide +kernel
theorem dd_Checker_checkParts_173 : decode prog_2_method_3_code 173 = .ok (.aload_n 0, 1) := by decide +kernel
theorem dd_Checker_checkParts_174 : decode prog_2_method_3_code 174 = .ok (.invokevirtual 98, 3) := by decide +kernel
theorem dd_Checker_checkParts_177 : decode prog_2_method_3_code 177 = .ok (.return_, 1) := by decide +kernel
theorem dd_Checker_resultCount_0 : decode prog_2_method_20_code 0 = .ok (.aload_n 0, 1) := by decide +kernel
theorem dd_Checker_resultCount_1 : decode prog_2_method_20_code 1 = .ok (.getfield 42, 3) := by decide +kernel
theorem dd_Checker_resultCount_4 : decode prog_2_method_20_code 4 = .ok (.getfield 176, 3) := by decide +kernel
theorem dd_Checker_resultCount_7 : decode prog_2_method_20_code 7 = .ok (.iload_n 1, 1) := by decide +kernel
theorem dd_Checker_resultCount_8 : decode prog_2_method_20_code 8 = .ok (.iaload, 1) := by decide +kernel
theorem dd_Checker_resultCount_9 : decode prog_2_method_20_code 9 = .ok (.istore_n 2, 1) := by decide +kernel
theorem dd_Checker_resultCount_10 : decode prog_2_method_20_code 10 = .ok (.iload_n 2, 1) := by decide +kernel
theorem dd_Checker_resultCount_11 : decode prog_2_method_20_code 11 = .ok (.sipush 1024, 3) := by decide +kernel
theorem dd_Checker_resultCount_14 : decode prog_2_method_20_code 14 = .ok (.if_icmp .ge 13, 3) := by decide +kernel
theorem dd_Checker_resultCount_17 : decode prog_2_method_20_code 17 = .ok (.iload_n 2, 1) := by decide +kernel
theorem dd_Checker_resultCount_18 : decode prog_2_method_20_code 18 = .ok (.ifCond .ne 7, 3) := by decide +kernel
theorem dd_Checker_resultCount_21 : decode prog_2_method_20_code 21 = .ok (.iconst 0, 1) := by decide +kernel
theorem dd_Checker_resultCount_22 : decode prog_2_method_20_code 22 = .ok (.goto 4, 3) := by decide +kernel
theorem dd_Checker_resultCount_25 : decode prog_2_method_20_code 25 = .ok (.iconst 1, 1) := by decide +kernel
theorem dd_Checker_resultCount_26 : decode prog_2_method_20_code 26 = .ok (.ireturn, 1) := by decide +kernel
theorem dd_Checker_resultCount_27 : decode prog_2_method_20_code 27 = .ok (.aload_n 0, 1) := by decide +kernel
theorem dd_Checker_resultCount_28 : decode prog_2_method_20_code 28 = .ok (.getfield 37, 3) := by decide +kernel
theorem dd_Checker_resultCount_31 : decode prog_2_method_20_code 31 = .ok (.getfield 104, 3) := by decide +kernel
theorem dd_Checker_resultCount_34 : decode prog_2_method_20_code 34 = .ok (.iload_n 2, 1) := by decide +kernel
theorem dd_Checker_resultCount_35 : decode prog_2_method_20_code 35 = .ok (.sipush 1024, 3) := by decide +kernel
theorem dd_Checker_resultCount_38 : decode prog_2_method_20_code 38 = .ok (.isub, 1) := by decide +kernel
theorem dd_Checker_resultCount_39 : decode prog_2_method_20_code 39 = .ok (.iaload, 1) := by decide +kernel
theorem dd_Checker_resultCount_40 : decode prog_2_method_20_code 40 = .ok (.ireturn, 1) := by decide +kernel
theorem dd_Checker_parameterCount_0 : decode prog_2_method_19_code 0 = .ok (.aload_n 0, 1) := by decide +kernel
theorem dd_Checker_parameterCount_1 : decode prog_2_method_19_code 1 = .ok (.getfield 42, 3) := by decide +kernel
theorem dd_Checker_parameterCount_4 : decode prog_2_method_19_code 4 = .ok (.getfield 176, 3) := by decide +kernel
theorem dd_Checker_parameterCount_7 : decode prog_2_method_19_code 7 = .ok (.iload_n 1, 1) := by decide +kernel
theorem dd_Checker_parameterCount_8 : decode prog_2_method_19_code 8 = .ok (.iaload, 1) := by decide +kernel
theorem dd_Checker_parameterCount_9 : decode prog_2_method_19_code 9 = .ok (.istore_n 2, 1) := by decide +kernel
theorem dd_Checker_parameterCount_10 : decode prog_2_method_19_code 10 = .ok (.iload_n 2, 1) := by decide +kernel
theorem dd_Checker_parameterCount_11 : decode prog_2_method_19_code 11 = .ok (.sipush 1024, 3) := by decide +kernel
theorem dd_Checker_parameterCount_14 : decode prog_2_method_19_code 14 = .ok (.if_icmp .ge 7, 3) := by decide +kernel
theorem dd_Checker_parameterCount_17 : decode prog_2_method_19_code 17 = .ok (.iconst 0, 1) := by decide +kernel
theorem dd_Checker_parameterCount_18 : decode prog_2_method_19_code 18 = .ok (.goto 16, 3) := by decide +kernel
theorem dd_Checker_parameterCount_21 : decode prog_2_method_19_code 21 = .ok (.aload_n 0, 1) := by decide +kernel
theorem dd_Checker_parameterCount_22 : decode prog_2_method_19_code 22 = .ok (.getfield 37, 3) := by decide +kernel
theorem dd_Checker_parameterCount_25 : decode prog_2_method_19_code 25 = .ok (.getfield 101, 3) := by decide +kernel
theorem dd_Checker_parameterCount_28 : decode prog_2_method_19_code 28 = .ok (.iload_n 2, 1) := by decide +kernel
theorem dd_Checker_parameterCount_29 : decode prog_2_method_19_code 29 = .ok (.sipush 1024, 3) := by decide +kernel
theorem dd_Checker_parameterCount_32 : decode prog_2_method_19_code 32 = .ok (.isub, 1) := by decide +kernel
theorem dd_Checker_parameterCount_33 : decode prog_2_method_19_code 33 = .ok (.iaload, 1) := by decide +kernel
theorem dd_Checker_parameterCount_34 : decode prog_2_method_19_code 34 = .ok (.ireturn, 1) := by decide +kernel
theorem dd_Checker_openPart_0 : decode prog_2_method_31_code 0 = .ok (.aload_n 0, 1) := by decide +kernel
theorem dd_Checker_openPart_1 : decode prog_2_method_31_code 1 = .ok (.getfield 173, 3) := by decide +kernel
theorem dd_Checker_openPart_4 : decode prog_2_method_31_code 4 = .ok (.bipush 100, 2) := by decide +kernel
theorem dd_Checker_openPart_6 : decode prog_2_method_31_code 6 = .ok (.if_icmp .ge 7, 3) := by decide +kernel
theorem dd_Checker_openPart_9 : decode prog_2_method_31_code 9 = .ok (.iconst 1, 1) := by decide +kernel
theorem dd_Checker_openPart_10 : decode prog_2_method_31_code 10 = .ok (.goto 4, 3) := by decide +kernel
theorem dd_Checker_openPart_13 : decode prog_2_method_31_code 13 = .ok (.iconst 0, 1) := by decide +kernel
theorem dd_Checker_openPart_14 : decode prog_2_method_31_code 14 = .ok (.invokestatic 60, 3) := by decide +kernel
theorem dd_Checker_openPart_17 : decode prog_2_method_31_code 17 = .ok (.aload_n 0, 1) := by decide +kernel
theorem dd_Checker_openPart_18 : decode prog_2_method_31_code 18 = .ok (.getfield 42, 3) := by decide +kernel
theorem dd_Checker_openPart_21 : decode prog_2_method_31_code 21 = .ok (.getfield 285, 3) := by decide +kernel
theorem dd_Checker_openPart_24 : decode prog_2_method_31_code 24 = .ok (.iload_n 1, 1) := by decide +kernel
theorem dd_Checker_openPart_25 : decode prog_2_method_31_code 25 = .ok (.aload_n 0, 1) := by decide +kernel
theorem dd_Checker_openPart_26 : decode prog_2_method_31_code 26 = .ok (.getfield 170, 3) := by decide +kernel
theorem dd_Checker_openPart_29 : decode prog_2_method_31_code 29 = .ok (.iastore, 1) := by decide +kernel
theorem dd_Checker_openPart_30 : decode prog_2_method_31_code 30 = .ok (.aload_n 0, 1) := by decide +kernel
theorem dd_Checker_openPart_31 : decode prog_2_method_31_code 31 = .ok (.getfield 42, 3) := by decide +kernel
theorem dd_Checker_openPart_34 : decode prog_2_method_31_code 34 = .ok (.getfield 212, 3) := by decide +kernel
theorem dd_Checker_openPart_37 : decode prog_2_method_31_code 37 = .ok (.iload_n 1, 1) := by decide +kernel
theorem dd_Checker_openPart_38 : decode prog_2_method_31_code 38 = .ok (.aload_n 0, 1) := by decide +kernel
theorem dd_Checker_openPart_39 : decode prog_2_method_31_code 39 = .ok (.getfield 42, 3) := by decide +kernel
theorem dd_Checker_openPart_42 : decode prog_2_method_31_code 42 = .ok (.getfield 187, 3) := by decide +kernel
theorem dd_Checker_openPart_45 : decode prog_2_method_31_code 45 = .ok (.iload_n 1, 1) := by decide +kernel
theorem dd_Checker_openPart_46 : decode prog_2_method_31_code 46 = .ok (.saload, 1) := by decide +kernel
theorem dd_Checker_openPart_47 : decode prog_2_method_31_code 47 = .ok (.iconst 3, 1) := by decide +kernel
theorem dd_Checker_openPart_48 : decode prog_2_method_31_code 48 = .ok (.if_icmp .ne 12, 3) := by decide +kernel
theorem dd_Checker_openPart_51 : decode prog_2_method_31_code 51 = .ok (.aload_n 0, 1) := by decide +kernel
theorem dd_Checker_openPart_52 : decode prog_2_method_31_code 52 = .ok (.iload_n 1, 1) := by decide +kernel
theorem dd_Checker_openPart_53 : decode prog_2_method_31_code 53 = .ok (.invokevirtual 287, 3) := by decide +kernel
theorem dd_Checker_openPart_56 : decode prog_2_method_31_code 56 = .ok (.i2l, 1) := by decide +kernel
theorem dd_Checker_openPart_57 : decode prog_2_method_31_code 57 = .ok (.goto 9, 3) := by decide +kernel
theorem dd_Checker_openPart_60 : decode prog_2_method_31_code 60 = .ok (.aload_n 0, 1) := by decide +kernel
theorem dd_Checker_openPart_61 : decode prog_2_method_31_code 61 = .ok (.iload_n 1, 1) := by decide +kernel
theorem dd_Checker_openPart_62 : decode prog_2_method_31_code 62 = .ok (.invokevirtual 290, 3) := by decide +kernel
theorem dd_Checker_openPart_65 : decode prog_2_method_31_code 65 = .ok (.i2l, 1) := by decide +kernel
theorem dd_Checker_openPart_66 : decode prog_2_method_31_code 66 = .ok (.lastore, 1) := by decide +kernel
theorem dd_Checker_openPart_67 : decode prog_2_method_31_code 67 = .ok (.aload_n 0, 1) := by decide +kernel
theorem dd_Checker_openPart_68 : decode prog_2_method_31_code 68 = .ok (.getfield 17, 3) := by decide +kernel
theorem dd_Checker_openPart_71 : decode prog_2_method_31_code 71 = .ok (.aload_n 0, 1) := by decide +kernel
theorem dd_Checker_openPart_72 : decode prog_2_method_31_code 72 = .ok (.getfield 173, 3) := by decide +kernel
theorem dd_Checker_openPart_75 : decode prog_2_method_31_code 75 = .ok (.iload_n 1, 1) := by decide +kernel
theorem dd_Checker_openPart_76 : decode prog_2_method_31_code 76 = .ok (.iastore, 1) := by decide +kernel
theorem dd_Checker_openPart_77 : decode prog_2_method_31_code 77 = .ok (.aload_n 0, 1) := by decide +kernel
theorem dd_Checker_openPart_78 : decode prog_2_method_31_code 78 = .ok (.getfield 20, 3) := by decide +kernel
theorem dd_Checker_openPart_81 : decode prog_2_method_31_code 81 = .ok (.aload_n 0, 1) := by decide +kernel
theorem dd_Checker_openPart_82 : decode prog_2_method_31_code 82 = .ok (.getfield 173, 3) := by decide +kernel
theorem dd_Checker_openPart_85 : decode prog_2_method_31_code 85 = .ok (.iconst 0, 1) := by decide +kernel
theorem dd_Checker_openPart_86 : decode prog_2_method_31_code 86 = .ok (.bastore, 1) := by decide +kernel
theorem dd_Checker_openPart_87 : decode prog_2_method_31_code 87 = .ok (.aload_n 0, 1) := by decide +kernel
theorem dd_Checker_openPart_88 : decode prog_2_method_31_code 88 = .ok (.aload_n 0, 1) := by decide +kernel
theorem dd_Checker_openPart_89 : decode prog_2_method_31_code 89 = .ok (.getfield 170, 3) := by decide +kernel
theorem dd_Checker_openPart_92 : decode prog_2_method_31_code 92 = .ok (.putfield 224, 3) := by decide +kernel
theorem dd_Checker_openPart_95 : decode prog_2_method_31_code 95 = .ok (.aload_n 0, 1) := by decide +kernel
theorem dd_Checker_openPart_96 : decode prog_2_method_31_code 96 = .ok (.dup, 1) := by decide +kernel
theorem dd_Checker_openPart_97 : decode prog_2_method_31_code 97 = .ok (.getfield 173, 3) := by decide +kernel
theorem dd_Checker_openPart_100 : decode prog_2_method_31_code 100 = .ok (.iconst 1, 1) := by decide +kernel
theorem dd_Checker_openPart_101 : decode prog_2_method_31_code 101 = .ok (.iadd, 1) := by decide +kernel
theorem dd_Checker_openPart_102 : decode prog_2_method_31_code 102 = .ok (.putfield 173, 3) := by decide +kernel
theorem dd_Checker_openPart_105 : decode prog_2_method_31_code 105 = .ok (.return_, 1) := by decide +kernel
theorem dd_Checker_pop__0 : decode prog_2_method_15_code 0 = .ok (.aload_n 0, 1) := by decide +kernel
theorem dd_Checker_pop__1 : decode prog_2_method_15_code 1 = .ok (.getfield 170, 3) := by decide +kernel
theorem dd_Checker_pop__4 : decode prog_2_method_15_code 4 = .ok (.aload_n 0, 1) := by decide +kernel
theorem dd_Checker_pop__5 : decode prog_2_method_15_code 5 = .ok (.getfield 224, 3) := by decide +kernel
theorem dd_Checker_pop__8 : decode prog_2_method_15_code 8 = .ok (.if_icmp .le 23, 3) := by decide +kernel
theorem dd_Checker_pop__11 : decode prog_2_method_15_code 11 = .ok (.aload_n 0, 1) := by decide +kernel
theorem dd_Checker_pop__12 : decode prog_2_method_15_code 12 = .ok (.dup, 1) := by decide +kernel
theorem dd_Checker_pop__13 : decode prog_2_method_15_code 13 = .ok (.getfield 170, 3) := by decide +kernel
theorem dd_Checker_pop__16 : decode prog_2_method_15_code 16 = .ok (.iconst 1, 1) := by decide +kernel
theorem dd_Checker_pop__17 : decode prog_2_method_15_code 17 = .ok (.isub, 1) := by decide +kernel
theorem dd_Checker_pop__18 : decode prog_2_method_15_code 18 = .ok (.putfield 170, 3) := by decide +kernel
theorem dd_Checker_pop__21 : decode prog_2_method_15_code 21 = .ok (.aload_n 0, 1) := by decide +kernel
theorem dd_Checker_pop__22 : decode prog_2_method_15_code 22 = .ok (.getfield 11, 3) := by decide +kernel
theorem dd_Checker_pop__25 : decode prog_2_method_15_code 25 = .ok (.aload_n 0, 1) := by decide +kernel
theorem dd_Checker_pop__26 : decode prog_2_method_15_code 26 = .ok (.getfield 170, 3) := by decide +kernel
theorem dd_Checker_pop__29 : decode prog_2_method_15_code 29 = .ok (.iaload, 1) := by decide +kernel
theorem dd_Checker_pop__30 : decode prog_2_method_15_code 30 = .ok (.ireturn, 1) := by decide +kernel
theorem dd_Checker_pop__31 : decode prog_2_method_15_code 31 = .ok (.aload_n 0, 1) := by decide +kernel
theorem dd_Checker_pop__32 : decode prog_2_method_15_code 32 = .ok (.getfield 20, 3) := by decide +kernel
theorem dd_Checker_pop__35 : decode prog_2_method_15_code 35 = .ok (.aload_n 0, 1) := by decide +kernel
theorem dd_Checker_pop__36 : decode prog_2_method_15_code 36 = .ok (.getfield 173, 3) := by decide +kernel
theorem dd_Checker_pop__39 : decode prog_2_method_15_code 39 = .ok (.iconst 1, 1) := by decide +kernel
theorem dd_Checker_pop__40 : decode prog_2_method_15_code 40 = .ok (.isub, 1) := by decide +kernel
theorem dd_Checker_pop__41 : decode prog_2_method_15_code 41 = .ok (.baload, 1) := by decide +kernel
theorem dd_Checker_pop__42 : decode prog_2_method_15_code 42 = .ok (.ifCond .ne 11, 3) := by decide +kernel
theorem dd_Checker_pop__45 : decode prog_2_method_15_code 45 = .ok (.new 43, 3) := by decide +kernel
theorem dd_Checker_pop__48 : decode prog_2_method_15_code 48 = .ok (.dup, 1) := by decide +kernel
theorem dd_Checker_pop__49 : decode prog_2_method_15_code 49 = .ok (.invokespecial 45, 3) := by decide +kernel
theorem dd_Checker_pop__52 : decode prog_2_method_15_code 52 = .ok (.athrow, 1) := by decide +kernel
theorem dd_Checker_pop__53 : decode prog_2_method_15_code 53 = .ok (.iconst 0, 1) := by decide +kernel
theorem dd_Checker_pop__54 : decode prog_2_method_15_code 54 = .ok (.ireturn, 1) := by decide +kernel
theorem dd_Checker_pop_I_0 : decode prog_2_method_16_code 0 = .ok (.aload_n 0, 1) := by decide +kernel
theorem dd_Checker_pop_I_1 : decode prog_2_method_16_code 1 = .ok (.getfield 37, 3) := by decide +kernel
theorem dd_Checker_pop_I_4 : decode prog_2_method_16_code 4 = .ok (.aload_n 0, 1) := by decide +kernel
theorem dd_Checker_pop_I_5 : decode prog_2_method_16_code 5 = .ok (.invokevirtual 227, 3) := by decide +kernel
theorem dd_Checker_pop_I_8 : decode prog_2_method_16_code 8 = .ok (.iload_n 1, 1) := by decide +kernel
theorem dd_Checker_pop_I_9 : decode prog_2_method_16_code 9 = .ok (.invokevirtual 148, 3) := by decide +kernel
theorem dd_Checker_pop_I_12 : decode prog_2_method_16_code 12 = .ok (.invokestatic 60, 3) := by decide +kernel
theorem dd_Checker_pop_I_15 : decode prog_2_method_16_code 15 = .ok (.return_, 1) := by decide +kernel
theorem dd_Checker_push_0 : decode prog_2_method_14_code 0 = .ok (.aload_n 0, 1) := by decide +kernel
theorem dd_Checker_push_1 : decode prog_2_method_14_code 1 = .ok (.getfield 170, 3) := by decide +kernel
theorem dd_Checker_push_4 : decode prog_2_method_14_code 4 = .ok (.bipush 100, 2) := by decide +kernel
theorem dd_Checker_push_6 : decode prog_2_method_14_code 6 = .ok (.if_icmp .ge 7, 3) := by decide +kernel
theorem dd_Checker_push_9 : decode prog_2_method_14_code 9 = .ok (.iconst 1, 1) := by decide +kernel
theorem dd_Checker_push_10 : decode prog_2_method_14_code 10 = .ok (.goto 4, 3) := by decide +kernel
theorem dd_Checker_push_13 : decode prog_2_method_14_code 13 = .ok (.iconst 0, 1) := by decide +kernel
theorem dd_Checker_push_14 : decode prog_2_method_14_code 14 = .ok (.invokestatic 60, 3) := by decide +kernel
theorem dd_Checker_push_17 : decode prog_2_method_14_code 17 = .ok (.aload_n 0, 1) := by decide +kernel
theorem dd_Checker_push_18 : decode prog_2_method_14_code 18 = .ok (.getfield 11, 3) := by decide +kernel
theorem dd_Checker_push_21 : decode prog_2_method_14_code 21 = .ok (.aload_n 0, 1) := by decide +kernel
theorem dd_Checker_push_22 : decode prog_2_method_14_code 22 = .ok (.getfield 170, 3) := by decide +kernel
theorem dd_Checker_push_25 : decode prog_2_method_14_code 25 = .ok (.iload_n 1, 1) := by decide +kernel
theorem dd_Checker_push_26 : decode prog_2_method_14_code 26 = .ok (.iastore, 1) := by decide +kernel
theorem dd_Checker_push_27 : decode prog_2_method_14_code 27 = .ok (.aload_n 0, 1) := by decide +kernel
theorem dd_Checker_push_28 : decode prog_2_method_14_code 28 = .ok (.dup, 1) := by decide +kernel
theorem dd_Checker_push_29 : decode prog_2_method_14_code 29 = .ok (.getfield 170, 3) := by decide +kernel
theorem dd_Checker_push_32 : decode prog_2_method_14_code 32 = .ok (.iconst 1, 1) := by decide +kernel
theorem dd_Checker_push_33 : decode prog_2_method_14_code 33 = .ok (.iadd, 1) := by decide +kernel
theorem dd_Checker_push_34 : decode prog_2_method_14_code 34 = .ok (.putfield 170, 3) := by decide +kernel
theorem dd_Checker_push_37 : decode prog_2_method_14_code 37 = .ok (.return_, 1) := by decide +kernel
theorem dd_Types_notNull_0 : decode prog_11_method_7_code 0 = .ok (.iload_n 0, 1) := by decide +kernel
theorem dd_Types_notNull_1 : decode prog_11_method_7_code 1 = .ok (.bipush (-2), 2) := by decide +kernel
theorem dd_Types_notNull_3 : decode prog_11_method_7_code 3 = .ok (.iand, 1) := by decide +kernel
theorem dd_Types_notNull_4 : decode prog_11_method_7_code 4 = .ok (.ireturn, 1) := by decide +kernel
theorem dd_Checker_checkKind_0 : decode prog_2_method_52_code 0 = .ok (.iload_n 1, 1) := by decide +kernel
theorem dd_Checker_checkKind_1 : decode prog_2_method_52_code 1 = .ok (.bipush 28, 2) := by decide +kernel
theorem dd_Checker_checkKind_3 : decode prog_2_method_52_code 3 = .ok (.if_icmp .ne 20, 3) := by decide +kernel
theorem dd_Checker_checkKind_6 : decode prog_2_method_52_code 6 = .ok (.aload_n 0, 1) := by decide +kernel
theorem dd_Checker_checkKind_7 : decode prog_2_method_52_code 7 = .ok (.iconst 1, 1) := by decide +kernel
theorem dd_Checker_checkKind_8 : decode prog_2_method_52_code 8 = .ok (.invokevirtual 238, 3) := by decide +kernel
theorem dd_Checker_checkKind_11 : decode prog_2_method_52_code 11 = .ok (.aload_n 0, 1) := by decide +kernel
theorem dd_Checker_checkKind_12 : decode prog_2_method_52_code 12 = .ok (.bipush 19, 2) := by decide +kernel
theorem dd_Checker_checkKind_14 : decode prog_2_method_52_code 14 = .ok (.invokestatic 343, 3) := by decide +kernel
theorem dd_Checker_checkKind_17 : decode prog_2_method_52_code 17 = .ok (.invokevirtual 203, 3) := by decide +kernel
theorem dd_Checker_checkKind_20 : decode prog_2_method_52_code 20 = .ok (.goto 69, 3) := by decide +kernel
theorem dd_Checker_checkKind_23 : decode prog_2_method_52_code 23 = .ok (.iload_n 1, 1) := by decide +kernel
theorem dd_Checker_checkKind_24 : decode prog_2_method_52_code 24 = .ok (.bipush 28, 2) := by decide +kernel
theorem dd_Checker_checkKind_26 : decode prog_2_method_52_code 26 = .ok (.if_icmp .le 17, 3) := by decide +kernel
theorem dd_Checker_checkKind_29 : decode prog_2_method_52_code 29 = .ok (.aload_n 0, 1) := by decide +kernel
theorem dd_Checker_checkKind_30 : decode prog_2_method_52_code 30 = .ok (.bipush 19, 2) := by decide +kernel
theorem dd_Checker_checkKind_32 : decode prog_2_method_52_code 32 = .ok (.invokevirtual 238, 3) := by decide +kernel
theorem dd_Checker_checkKind_35 : decode prog_2_method_52_code 35 = .ok (.aload_n 0, 1) := by decide +kernel
theorem dd_Checker_checkKind_36 : decode prog_2_method_52_code 36 = .ok (.iconst 1, 1) := by decide +kernel
theorem dd_Checker_checkKind_37 : decode prog_2_method_52_code 37 = .ok (.invokevirtual 203, 3) := by decide +kernel
theorem dd_Checker_checkKind_40 : decode prog_2_method_52_code 40 = .ok (.goto 49, 3) := by decide +kernel
theorem dd_Checker_checkKind_43 : decode prog_2_method_52_code 43 = .ok (.aload_n 0, 1) := by decide +kernel
theorem dd_Checker_checkKind_44 : decode prog_2_method_52_code 44 = .ok (.getfield 37, 3) := by decide +kernel
theorem dd_Checker_checkKind_47 : decode prog_2_method_52_code 47 = .ok (.iload_n 2, 1) := by decide +kernel
theorem dd_Checker_checkKind_48 : decode prog_2_method_52_code 48 = .ok (.invokevirtual 337, 3) := by decide +kernel
theorem dd_Checker_checkKind_51 : decode prog_2_method_52_code 51 = .ok (.invokestatic 60, 3) := by decide +kernel
theorem dd_Checker_checkKind_54 : decode prog_2_method_52_code 54 = .ok (.aload_n 0, 1) := by decide +kernel
theorem dd_Checker_checkKind_55 : decode prog_2_method_52_code 55 = .ok (.bipush 17, 2) := by decide +kernel
theorem dd_Checker_checkKind_57 : decode prog_2_method_52_code 57 = .ok (.invokevirtual 238, 3) := by decide +kernel
theorem dd_Checker_checkKind_60 : decode prog_2_method_52_code 60 = .ok (.aload_n 0, 1) := by decide +kernel
theorem dd_Checker_checkKind_61 : decode prog_2_method_52_code 61 = .ok (.iload_n 1, 1) := by decide +kernel
theorem dd_Checker_checkKind_62 : decode prog_2_method_52_code 62 = .ok (.bipush 22, 2) := by decide +kernel
theorem dd_Checker_checkKind_64 : decode prog_2_method_52_code 64 = .ok (.if_icmp .ge 7, 3) := by decide +kernel
theorem dd_Checker_checkKind_67 : decode prog_2_method_52_code 67 = .ok (.iconst 1, 1) := by decide +kernel
theorem dd_Checker_checkKind_68 : decode prog_2_method_52_code 68 = .ok (.goto 18, 3) := by decide +kernel
theorem dd_Checker_checkKind_71 : decode prog_2_method_52_code 71 = .ok (.iload_n 2, 1) := by decide +kernel
theorem dd_Checker_checkKind_72 : decode prog_2_method_52_code 72 = .ok (.iload_n 1, 1) := by decide +kernel
theorem dd_Checker_checkKind_73 : decode prog_2_method_52_code 73 = .ok (.bipush 23, 2) := by decide +kernel
theorem dd_Checker_checkKind_75 : decode prog_2_method_52_code 75 = .ok (.if_icmp .ne 7, 3) := by decide +kernel
theorem dd_Checker_checkKind_78 : decode prog_2_method_52_code 78 = .ok (.iconst 1, 1) := by decide +kernel
theorem dd_Checker_checkKind_79 : decode prog_2_method_52_code 79 = .ok (.goto 4, 3) := by decide +kernel
theorem dd_Checker_checkKind_82 : decode prog_2_method_52_code 82 = .ok (.iconst 0, 1) := by decide +kernel
theorem dd_Checker_checkKind_83 : decode prog_2_method_52_code 83 = .ok (.invokestatic 231, 3) := by decide +kernel
theorem dd_Checker_checkKind_86 : decode prog_2_method_52_code 86 = .ok (.invokevirtual 203, 3) := by decide +kernel
theorem dd_Checker_checkKind_89 : decode prog_2_method_52_code 89 = .ok (.return_, 1) := by decide +kernel
theorem dd_Types_isPacked_0 : decode prog_11_method_8_code 0 = .ok (.iload_n 0, 1) := by decide +kernel
theorem dd_Types_isPacked_1 : decode prog_11_method_8_code 1 = .ok (.iconst 3, 1) := by decide +kernel
theorem dd_Types_isPacked_2 : decode prog_11_method_8_code 2 = .ok (.if_icmp .eq 8, 3) := by decide +kernel
theorem dd_Types_isPacked_5 : decode prog_11_method_8_code 5 = .ok (.iload_n 0, 1) := by decide +kernel
theorem dd_Types_isPacked_6 : decode prog_11_method_8_code 6 = .ok (.iconst 4, 1) := by decide +kernel
theorem dd_Types_isPacked_7 : decode prog_11_method_8_code 7 = .ok (.if_icmp .ne 7, 3) := by decide +kernel
theorem dd_Types_isPacked_10 : decode prog_11_method_8_code 10 = .ok (.iconst 1, 1) := by decide +kernel
theorem dd_Types_isPacked_11 : decode prog_11_method_8_code 11 = .ok (.goto 4, 3) := by decide +kernel
theorem dd_Types_isPacked_14 : decode prog_11_method_8_code 14 = .ok (.iconst 0, 1) := by decide +kernel
theorem dd_Types_isPacked_15 : decode prog_11_method_8_code 15 = .ok (.ireturn, 1) := by decide +kernel
theorem dd_Types_unpacked_0 : decode prog_11_method_9_code 0 = .ok (.iload_n 0, 1) := by decide +kernel
theorem dd_Types_unpacked_1 : decode prog_11_method_9_code 1 = .ok (.invokestatic 34, 3) := by decide +kernel
theorem dd_Types_unpacked_4 : decode prog_11_method_9_code 4 = .ok (.ifCond .eq 7, 3) := by decide +kernel
theorem dd_Types_unpacked_7 : decode prog_11_method_9_code 7 = .ok (.iconst 1, 1) := by decide +kernel
theorem dd_Types_unpacked_8 : decode prog_11_method_9_code 8 = .ok (.goto 4, 3) := by decide +kernel
theorem dd_Types_unpacked_11 : decode prog_11_method_9_code 11 = .ok (.iload_n 0, 1) := by decide +kernel
theorem dd_Types_unpacked_12 : decode prog_11_method_9_code 12 = .ok (.ireturn, 1) := by decide +kernel
theorem dd_Types_canBeSet_0 : decode prog_11_method_12_code 0 = .ok (.aload_n 0, 1) := by decide +kernel
theorem dd_Types_canBeSet_1 : decode prog_11_method_12_code 1 = .ok (.iload_n 1, 1) := by decide +kernel
theorem dd_Types_canBeSet_2 : decode prog_11_method_12_code 2 = .ok (.iload_n 2, 1) := by decide +kernel
theorem dd_Types_canBeSet_3 : decode prog_11_method_12_code 3 = .ok (.invokevirtual 37, 3) := by decide +kernel
theorem dd_Types_canBeSet_6 : decode prog_11_method_12_code 6 = .ok (.iconst 1, 1) := by decide +kernel
theorem dd_Types_canBeSet_7 : decode prog_11_method_12_code 7 = .ok (.if_icmp .ne 7, 3) := by decide +kernel
theorem dd_Types_canBeSet_10 : decode prog_11_method_12_code 10 = .ok (.iconst 1, 1) := by decide +kernel
theorem dd_Types_canBeSet_11 : decode prog_11_method_12_code 11 = .ok (.goto 4, 3) := by decide +kernel
theorem dd_Types_canBeSet_14 : decode prog_11_method_12_code 14 = .ok (.iconst 0, 1) := by decide +kernel
theorem dd_Types_canBeSet_15 : decode prog_11_method_12_code 15 = .ok (.ireturn, 1) := by decide +kernel
theorem dd_Types_hasDefault_0 : decode prog_11_method_6_code 0 = .ok (.iload_n 0, 1) := by decide +kernel
theorem dd_Types_hasDefault_1 : decode prog_11_method_6_code 1 = .ok (.invokestatic 27, 3) := by decide +kernel
theorem dd_Types_hasDefault_4 : decode prog_11_method_6_code 4 = .ok (.ifCond .eq 10, 3) := by decide +kernel
theorem dd_Types_hasDefault_7 : decode prog_11_method_6_code 7 = .ok (.iload_n 0, 1) := by decide +kernel
theorem dd_Types_hasDefault_8 : decode prog_11_method_6_code 8 = .ok (.invokestatic 31, 3) := by decide +kernel
theorem dd_Types_hasDefault_11 : decode prog_11_method_6_code 11 = .ok (.ifCond .eq 7, 3) := by decide +kernel
theorem dd_Types_hasDefault_14 : decode prog_11_method_6_code 14 = .ok (.iconst 1, 1) := by decide +kernel
theorem dd_Types_hasDefault_15 : decode prog_11_method_6_code 15 = .ok (.goto 4, 3) := by decide +kernel
theorem dd_Types_hasDefault_18 : decode prog_11_method_6_code 18 = .ok (.iconst 0, 1) := by decide +kernel
theorem dd_Types_hasDefault_19 : decode prog_11_method_6_code 19 = .ok (.ireturn, 1) := by decide +kernel
theorem dd_Checker_checkNewArray_0 : decode prog_2_method_50_code 0 = .ok (.iload_n 1, 1) := by decide +kernel
theorem dd_Checker_checkNewArray_1 : decode prog_2_method_50_code 1 = .ok (.bipush 8, 2) := by decide +kernel
theorem dd_Checker_checkNewArray_3 : decode prog_2_method_50_code 3 = .ok (.if_icmp .ne 45, 3) := by decide +kernel
theorem dd_Checker_checkNewArray_6 : decode prog_2_method_50_code 6 = .ok (.lload_n 3, 1) := by decide +kernel
theorem dd_Checker_checkNewArray_7 : decode prog_2_method_50_code 7 = .ok (.ldc2_w 361, 3) := by decide +kernel
theorem dd_Checker_checkNewArray_10 : decode prog_2_method_50_code 10 = .ok (.lcmp, 1) := by decide +kernel
theorem dd_Checker_checkNewArray_11 : decode prog_2_method_50_code 11 = .ok (.ifCond .gt 7, 3) := by decide +kernel
theorem dd_Checker_checkNewArray_14 : decode prog_2_method_50_code 14 = .ok (.iconst 1, 1) := by decide +kernel
theorem dd_Checker_checkNewArray_15 : decode prog_2_method_50_code 15 = .ok (.goto 4, 3) := by decide +kernel
theorem dd_Checker_checkNewArray_18 : decode prog_2_method_50_code 18 = .ok (.iconst 0, 1) := by decide +kernel
theorem dd_Checker_checkNewArray_19 : decode prog_2_method_50_code 19 = .ok (.invokestatic 60, 3) := by decide +kernel
theorem dd_Checker_checkNewArray_22 : decode prog_2_method_50_code 22 = .ok (.iconst 0, 1) := by decide +kernel
theorem dd_Checker_checkNewArray_23 : decode prog_2_method_50_code 23 = .ok (.istore 5, 2) := by decide +kernel
theorem dd_Checker_checkNewArray_25 : decode prog_2_method_50_code 25 = .ok (.iload 5, 2) := by decide +kernel
theorem dd_Checker_checkNewArray_27 : decode prog_2_method_50_code 27 = .ok (.i2l, 1) := by decide +kernel
theorem dd_Checker_checkNewArray_28 : decode prog_2_method_50_code 28 = .ok (.lload_n 3, 1) := by decide +kernel
theorem dd_Checker_checkNewArray_29 : decode prog_2_method_50_code 29 = .ok (.lcmp, 1) := by decide +kernel
theorem dd_Checker_checkNewArray_30 : decode prog_2_method_50_code 30 = .ok (.ifCond .ge 17, 3) := by decide +kernel
theorem dd_Checker_checkNewArray_33 : decode prog_2_method_50_code 33 = .ok (.aload_n 0, 1) := by decide +kernel
theorem dd_Checker_checkNewArray_34 : decode prog_2_method_50_code 34 = .ok (.iload_n 2, 1) := by decide +kernel
theorem dd_Checker_checkNewArray_35 : decode prog_2_method_50_code 35 = .ok (.invokestatic 346, 3) := by decide +kernel
theorem dd_Checker_checkNewArray_38 : decode prog_2_method_50_code 38 = .ok (.invokevirtual 238, 3) := by decide +kernel
theorem dd_Checker_checkNewArray_41 : decode prog_2_method_50_code 41 = .ok (.iinc 5 1, 3) := by decide +kernel
theorem dd_Checker_checkNewArray_44 : decode prog_2_method_50_code 44 = .ok (.goto (-19), 3) := by decide +kernel
theorem dd_Checker_checkNewArray_47 : decode prog_2_method_50_code 47 = .ok (.return_, 1) := by decide +kernel
theorem dd_Checker_checkNewArray_48 : decode prog_2_method_50_code 48 = .ok (.aload_n 0, 1) := by decide +kernel
theorem dd_Checker_checkNewArray_49 : decode prog_2_method_50_code 49 = .ok (.iconst 1, 1) := by decide +kernel
theorem dd_Checker_checkNewArray_50 : decode prog_2_method_50_code 50 = .ok (.invokevirtual 238, 3) := by decide +kernel
theorem dd_Checker_checkNewArray_53 : decode prog_2_method_50_code 53 = .ok (.iload_n 1, 1) := by decide +kernel
theorem dd_Checker_checkNewArray_54 : decode prog_2_method_50_code 54 = .ok (.bipush 6, 2) := by decide +kernel
theorem dd_Checker_checkNewArray_56 : decode prog_2_method_50_code 56 = .ok (.if_icmp .ne 14, 3) := by decide +kernel
theorem dd_Checker_checkNewArray_59 : decode prog_2_method_50_code 59 = .ok (.aload_n 0, 1) := by decide +kernel
theorem dd_Checker_checkNewArray_60 : decode prog_2_method_50_code 60 = .ok (.iload_n 2, 1) := by decide +kernel
theorem dd_Checker_checkNewArray_61 : decode prog_2_method_50_code 61 = .ok (.invokestatic 346, 3) := by decide +kernel
theorem dd_Checker_checkNewArray_64 : decode prog_2_method_50_code 64 = .ok (.invokevirtual 238, 3) := by decide +kernel
theorem dd_Checker_checkNewArray_67 : decode prog_2_method_50_code 67 = .ok (.goto 10, 3) := by decide +kernel
theorem dd_Checker_checkNewArray_70 : decode prog_2_method_50_code 70 = .ok (.iload_n 2, 1) := by decide +kernel
theorem dd_Checker_checkNewArray_71 : decode prog_2_method_50_code 71 = .ok (.invokestatic 276, 3) := by decide +kernel
theorem dd_Checker_checkNewArray_74 : decode prog_2_method_50_code 74 = .ok (.invokestatic 60, 3) := by decide +kernel
theorem dd_Checker_checkNewArray_77 : decode prog_2_method_50_code 77 = .ok (.return_, 1) := by decide +kernel
theorem dd_Checker_popReference_0 : decode prog_2_method_17_code 0 = .ok (.aload_n 0, 1) := by decide +kernel
theorem dd_Checker_popReference_1 : decode prog_2_method_17_code 1 = .ok (.invokevirtual 227, 3) := by decide +kernel
theorem dd_Checker_popReference_4 : decode prog_2_method_17_code 4 = .ok (.istore_n 1, 1) := by decide +kernel
theorem dd_Checker_popReference_5 : decode prog_2_method_17_code 5 = .ok (.iload_n 1, 1) := by decide +kernel
theorem dd_Checker_popReference_6 : decode prog_2_method_17_code 6 = .ok (.ifCond .ne 9, 3) := by decide +kernel
theorem dd_Checker_popReference_9 : decode prog_2_method_17_code 9 = .ok (.iconst 2, 1) := by decide +kernel
theorem dd_Checker_popReference_10 : decode prog_2_method_17_code 10 = .ok (.iconst 0, 1) := by decide +kernel
theorem dd_Checker_popReference_11 : decode prog_2_method_17_code 11 = .ok (.invokestatic 231, 3) := by decide +kernel
theorem dd_Checker_popReference_14 : decode prog_2_method_17_code 14 = .ok (.ireturn, 1) := by decide +kernel
theorem dd_Checker_popReference_15 : decode prog_2_method_17_code 15 = .ok (.iload_n 1, 1) := by decide +kernel
theorem dd_Checker_popReference_16 : decode prog_2_method_17_code 16 = .ok (.invokestatic 125, 3) := by decide +kernel
theorem dd_Checker_popReference_19 : decode prog_2_method_17_code 19 = .ok (.invokestatic 60, 3) := by decide +kernel
theorem dd_Checker_popReference_22 : decode prog_2_method_17_code 22 = .ok (.iload_n 1, 1) := by decide +kernel
theorem dd_Checker_popReference_23 : decode prog_2_method_17_code 23 = .ok (.ireturn, 1) := by decide +kernel
theorem dd_Checker_checkLength_0 : decode prog_2_method_51_code 0 = .ok (.aload_n 0, 1) := by decide +kernel
theorem dd_Checker_checkLength_1 : decode prog_2_method_51_code 1 = .ok (.invokevirtual 340, 3) := by decide +kernel
theorem dd_Checker_checkLength_4 : decode prog_2_method_51_code 4 = .ok (.invokestatic 128, 3) := by decide +kernel
theorem dd_Checker_checkLength_7 : decode prog_2_method_51_code 7 = .ok (.istore_n 1, 1) := by decide +kernel
theorem dd_Checker_checkLength_8 : decode prog_2_method_51_code 8 = .ok (.iload_n 1, 1) := by decide +kernel
theorem dd_Checker_checkLength_9 : decode prog_2_method_51_code 9 = .ok (.iconst 2, 1) := by decide +kernel
theorem dd_Checker_checkLength_10 : decode prog_2_method_51_code 10 = .ok (.if_icmp .eq 23, 3) := by decide +kernel
theorem dd_Checker_checkLength_13 : decode prog_2_method_51_code 13 = .ok (.iload_n 1, 1) := by decide +kernel
theorem dd_Checker_checkLength_14 : decode prog_2_method_51_code 14 = .ok (.iconst 3, 1) := by decide +kernel
theorem dd_Checker_checkLength_15 : decode prog_2_method_51_code 15 = .ok (.if_icmp .lt 22, 3) := by decide +kernel
theorem dd_Checker_checkLength_18 : decode prog_2_method_51_code 18 = .ok (.aload_n 0, 1) := by decide +kernel
theorem dd_Checker_checkLength_19 : decode prog_2_method_51_code 19 = .ok (.getfield 37, 3) := by decide +kernel
theorem dd_Checker_checkLength_22 : decode prog_2_method_51_code 22 = .ok (.iload_n 1, 1) := by decide +kernel
theorem dd_Checker_checkLength_23 : decode prog_2_method_51_code 23 = .ok (.iconst 3, 1) := by decide +kernel
theorem dd_Checker_checkLength_24 : decode prog_2_method_51_code 24 = .ok (.isub, 1) := by decide +kernel
theorem dd_Checker_checkLength_25 : decode prog_2_method_51_code 25 = .ok (.bipush 94, 2) := by decide +kernel
theorem dd_Checker_checkLength_27 : decode prog_2_method_51_code 27 = .ok (.invokevirtual 135, 3) := by decide +kernel
theorem dd_Checker_checkLength_30 : decode prog_2_method_51_code 30 = .ok (.ifCond .eq 7, 3) := by decide +kernel
theorem dd_Checker_checkLength_33 : decode prog_2_method_51_code 33 = .ok (.iconst 1, 1) := by decide +kernel
theorem dd_Checker_checkLength_34 : decode prog_2_method_51_code 34 = .ok (.goto 4, 3) := by decide +kernel
theorem dd_Checker_checkLength_37 : decode prog_2_method_51_code 37 = .ok (.iconst 0, 1) := by decide +kernel
theorem dd_Checker_checkLength_38 : decode prog_2_method_51_code 38 = .ok (.invokestatic 60, 3) := by decide +kernel
theorem dd_Checker_checkLength_41 : decode prog_2_method_51_code 41 = .ok (.aload_n 0, 1) := by decide +kernel
theorem dd_Checker_checkLength_42 : decode prog_2_method_51_code 42 = .ok (.iconst 1, 1) := by decide +kernel
theorem dd_Checker_checkLength_43 : decode prog_2_method_51_code 43 = .ok (.invokevirtual 203, 3) := by decide +kernel
theorem dd_Checker_checkLength_46 : decode prog_2_method_51_code 46 = .ok (.return_, 1) := by decide +kernel
theorem dd_Checker_checkArray_0 : decode prog_2_method_49_code 0 = .ok (.iload_n 1, 1) := by decide +kernel
theorem dd_Checker_checkArray_1 : decode prog_2_method_49_code 1 = .ok (.bipush 15, 2) := by decide +kernel
theorem dd_Checker_checkArray_3 : decode prog_2_method_49_code 3 = .ok (.if_icmp .ne 8, 3) := by decide +kernel
theorem dd_Checker_checkArray_6 : decode prog_2_method_49_code 6 = .ok (.aload_n 0, 1) := by decide +kernel
theorem dd_Checker_checkArray_7 : decode prog_2_method_49_code 7 = .ok (.invokevirtual 355, 3) := by decide +kernel
theorem dd_Checker_checkArray_10 : decode prog_2_method_49_code 10 = .ok (.return_, 1) := by decide +kernel
theorem dd_Checker_checkArray_11 : decode prog_2_method_49_code 11 = .ok (.aload_n 0, 1) := by decide +kernel
theorem dd_Checker_checkArray_12 : decode prog_2_method_49_code 12 = .ok (.getfield 37, 3) := by decide +kernel
theorem dd_Checker_checkArray_15 : decode prog_2_method_49_code 15 = .ok (.iload_n 2, 1) := by decide +kernel
theorem dd_Checker_checkArray_16 : decode prog_2_method_49_code 16 = .ok (.bipush 94, 2) := by decide +kernel
theorem dd_Checker_checkArray_18 : decode prog_2_method_49_code 18 = .ok (.invokevirtual 135, 3) := by decide +kernel
theorem dd_Checker_checkArray_21 : decode prog_2_method_49_code 21 = .ok (.invokestatic 60, 3) := by decide +kernel
theorem dd_Checker_checkArray_24 : decode prog_2_method_49_code 24 = .ok (.aload_n 0, 1) := by decide +kernel
theorem dd_Checker_checkArray_25 : decode prog_2_method_49_code 25 = .ok (.getfield 37, 3) := by decide +kernel
theorem dd_Checker_checkArray_28 : decode prog_2_method_49_code 28 = .ok (.iload_n 2, 1) := by decide +kernel
theorem dd_Checker_checkArray_29 : decode prog_2_method_49_code 29 = .ok (.iconst 0, 1) := by decide +kernel
theorem dd_Checker_checkArray_30 : decode prog_2_method_49_code 30 = .ok (.invokevirtual 107, 3) := by decide +kernel
theorem dd_Checker_checkArray_33 : decode prog_2_method_49_code 33 = .ok (.istore 5, 2) := by decide +kernel
theorem dd_Checker_checkArray_35 : decode prog_2_method_49_code 35 = .ok (.iload_n 1, 1) := by decide +kernel
theorem dd_Checker_checkArray_36 : decode prog_2_method_49_code 36 = .ok (.bipush 8, 2) := by decide +kernel
theorem dd_Checker_checkArray_38 : decode prog_2_method_49_code 38 = .ok (.if_icmp .gt 23, 3) := by decide +kernel
theorem dd_Checker_checkArray_41 : decode prog_2_method_49_code 41 = .ok (.aload_n 0, 1) := by decide +kernel
theorem dd_Checker_checkArray_42 : decode prog_2_method_49_code 42 = .ok (.iload_n 1, 1) := by decide +kernel
theorem dd_Checker_checkArray_43 : decode prog_2_method_49_code 43 = .ok (.iload 5, 2) := by decide +kernel
theorem dd_Checker_checkArray_45 : decode prog_2_method_49_code 45 = .ok (.lload_n 3, 1) := by decide +kernel
theorem dd_Checker_checkArray_46 : decode prog_2_method_49_code 46 = .ok (.invokevirtual 358, 3) := by decide +kernel
theorem dd_Checker_checkArray_49 : decode prog_2_method_49_code 49 = .ok (.aload_n 0, 1) := by decide +kernel
theorem dd_Checker_checkArray_50 : decode prog_2_method_49_code 50 = .ok (.iconst 3, 1) := by decide +kernel
theorem dd_Checker_checkArray_51 : decode prog_2_method_49_code 51 = .ok (.iload_n 2, 1) := by decide +kernel
theorem dd_Checker_checkArray_52 : decode prog_2_method_49_code 52 = .ok (.iadd, 1) := by decide +kernel
theorem dd_Checker_checkArray_53 : decode prog_2_method_49_code 53 = .ok (.iconst 0, 1) := by decide +kernel
theorem dd_Checker_checkArray_54 : decode prog_2_method_49_code 54 = .ok (.invokestatic 231, 3) := by decide +kernel
theorem dd_Checker_checkArray_57 : decode prog_2_method_49_code 57 = .ok (.invokevirtual 203, 3) := by decide +kernel
theorem dd_Checker_checkArray_60 : decode prog_2_method_49_code 60 = .ok (.return_, 1) := by decide +kernel
theorem dd_Checker_checkArray_61 : decode prog_2_method_49_code 61 = .ok (.iload_n 1, 1) := by decide +kernel
theorem dd_Checker_checkArray_62 : decode prog_2_method_49_code 62 = .ok (.bipush 16, 2) := by decide +kernel
theorem dd_Checker_checkArray_64 : decode prog_2_method_49_code 64 = .ok (.if_icmp .ne 8, 3) := by decide +kernel
theorem dd_Checker_checkArray_67 : decode prog_2_method_49_code 67 = .ok (.aload_n 0, 1) := by decide +kernel
theorem dd_Checker_checkArray_68 : decode prog_2_method_49_code 68 = .ok (.iconst 1, 1) := by decide +kernel
theorem dd_Checker_checkArray_69 : decode prog_2_method_49_code 69 = .ok (.invokevirtual 238, 3) := by decide +kernel
theorem dd_Checker_checkArray_72 : decode prog_2_method_49_code 72 = .ok (.iload_n 1, 1) := by decide +kernel
theorem dd_Checker_checkArray_73 : decode prog_2_method_49_code 73 = .ok (.bipush 14, 2) := by decide +kernel
theorem dd_Checker_checkArray_75 : decode prog_2_method_49_code 75 = .ok (.if_icmp .lt 24, 3) := by decide +kernel
theorem dd_Checker_checkArray_78 : decode prog_2_method_49_code 78 = .ok (.aload_n 0, 1) := by decide +kernel
theorem dd_Checker_checkArray_79 : decode prog_2_method_49_code 79 = .ok (.getfield 37, 3) := by decide +kernel
theorem dd_Checker_checkArray_82 : decode prog_2_method_49_code 82 = .ok (.iload_n 2, 1) := by decide +kernel
theorem dd_Checker_checkArray_83 : decode prog_2_method_49_code 83 = .ok (.iconst 0, 1) := by decide +kernel
theorem dd_Checker_checkArray_84 : decode prog_2_method_49_code 84 = .ok (.invokevirtual 349, 3) := by decide +kernel
theorem dd_Checker_checkArray_87 : decode prog_2_method_49_code 87 = .ok (.invokestatic 60, 3) := by decide +kernel
theorem dd_Checker_checkArray_90 : decode prog_2_method_49_code 90 = .ok (.aload_n 0, 1) := by decide +kernel
theorem dd_Checker_checkArray_91 : decode prog_2_method_49_code 91 = .ok (.iload 5, 2) := by decide +kernel
theorem dd_Checker_checkArray_93 : decode prog_2_method_49_code 93 = .ok (.invokestatic 346, 3) := by decide +kernel
theorem dd_Checker_checkArray_96 : decode prog_2_method_49_code 96 = .ok (.invokevirtual 238, 3) := by decide +kernel
theorem dd_Checker_checkArray_99 : decode prog_2_method_49_code 99 = .ok (.aload_n 0, 1) := by decide +kernel
theorem dd_Checker_checkArray_100 : decode prog_2_method_49_code 100 = .ok (.iconst 1, 1) := by decide +kernel
theorem dd_Checker_checkArray_101 : decode prog_2_method_49_code 101 = .ok (.invokevirtual 238, 3) := by decide +kernel
theorem dd_Checker_checkArray_104 : decode prog_2_method_49_code 104 = .ok (.aload_n 0, 1) := by decide +kernel
theorem dd_Checker_checkArray_105 : decode prog_2_method_49_code 105 = .ok (.iconst 3, 1) := by decide +kernel
theorem dd_Checker_checkArray_106 : decode prog_2_method_49_code 106 = .ok (.iload_n 2, 1) := by decide +kernel
theorem dd_Checker_checkArray_107 : decode prog_2_method_49_code 107 = .ok (.iadd, 1) := by decide +kernel
theorem dd_Checker_checkArray_108 : decode prog_2_method_49_code 108 = .ok (.iconst 1, 1) := by decide +kernel
theorem dd_Checker_checkArray_109 : decode prog_2_method_49_code 109 = .ok (.invokestatic 231, 3) := by decide +kernel
theorem dd_Checker_checkArray_112 : decode prog_2_method_49_code 112 = .ok (.invokevirtual 238, 3) := by decide +kernel
theorem dd_Checker_checkArray_115 : decode prog_2_method_49_code 115 = .ok (.iload_n 1, 1) := by decide +kernel
theorem dd_Checker_checkArray_116 : decode prog_2_method_49_code 116 = .ok (.bipush 13, 2) := by decide +kernel
theorem dd_Checker_checkArray_118 : decode prog_2_method_49_code 118 = .ok (.if_icmp .gt 39, 3) := by decide +kernel
theorem dd_Checker_checkArray_121 : decode prog_2_method_49_code 121 = .ok (.iload 5, 2) := by decide +kernel
theorem dd_Checker_checkArray_123 : decode prog_2_method_49_code 123 = .ok (.invokestatic 352, 3) := by decide +kernel
theorem dd_Checker_checkArray_126 : decode prog_2_method_49_code 126 = .ok (.iload_n 1, 1) := by decide +kernel
theorem dd_Checker_checkArray_127 : decode prog_2_method_49_code 127 = .ok (.bipush 11, 2) := by decide +kernel
theorem dd_Checker_checkArray_129 : decode prog_2_method_49_code 129 = .ok (.if_icmp .le 7, 3) := by decide +kernel
theorem dd_Checker_checkArray_132 : decode prog_2_method_49_code 132 = .ok (.iconst 1, 1) := by decide +kernel
theorem dd_Checker_checkArray_133 : decode prog_2_method_49_code 133 = .ok (.goto 4, 3) := by decide +kernel
theorem dd_Checker_checkArray_136 : decode prog_2_method_49_code 136 = .ok (.iconst 0, 1) := by decide +kernel
theorem dd_Checker_checkArray_137 : decode prog_2_method_49_code 137 = .ok (.if_icmp .ne 7, 3) := by decide +kernel
theorem dd_Checker_checkArray_140 : decode prog_2_method_49_code 140 = .ok (.iconst 1, 1) := by decide +kernel
theorem dd_Checker_checkArray_141 : decode prog_2_method_49_code 141 = .ok (.goto 4, 3) := by decide +kernel
theorem dd_Checker_checkArray_144 : decode prog_2_method_49_code 144 = .ok (.iconst 0, 1) := by decide +kernel
theorem dd_Checker_checkArray_145 : decode prog_2_method_49_code 145 = .ok (.invokestatic 60, 3) := by decide +kernel
theorem dd_Checker_checkArray_148 : decode prog_2_method_49_code 148 = .ok (.aload_n 0, 1) := by decide +kernel
theorem dd_Checker_checkArray_149 : decode prog_2_method_49_code 149 = .ok (.iload 5, 2) := by decide +kernel
theorem dd_Checker_checkArray_151 : decode prog_2_method_49_code 151 = .ok (.invokestatic 346, 3) := by decide +kernel
theorem dd_Checker_checkArray_154 : decode prog_2_method_49_code 154 = .ok (.invokevirtual 203, 3) := by decide +kernel
theorem dd_Checker_checkArray_157 : decode prog_2_method_49_code 157 = .ok (.return_, 1) := by decide +kernel
theorem dd_Checker_checkStructure_0 : decode prog_2_method_48_code 0 = .ok (.aload_n 0, 1) := by decide +kernel
theorem dd_Checker_checkStructure_1 : decode prog_2_method_48_code 1 = .ok (.getfield 37, 3) := by decide +kernel
theorem dd_Checker_checkStructure_4 : decode prog_2_method_48_code 4 = .ok (.iload_n 2, 1) := by decide +kernel
theorem dd_Checker_checkStructure_5 : decode prog_2_method_48_code 5 = .ok (.bipush 95, 2) := by decide +kernel
theorem dd_Checker_checkStructure_7 : decode prog_2_method_48_code 7 = .ok (.invokevirtual 135, 3) := by decide +kernel
theorem dd_Checker_checkStructure_10 : decode prog_2_method_48_code 10 = .ok (.invokestatic 60, 3) := by decide +kernel
theorem dd_Checker_checkStructure_13 : decode prog_2_method_48_code 13 = .ok (.aload_n 0, 1) := by decide +kernel
theorem dd_Checker_checkStructure_14 : decode prog_2_method_48_code 14 = .ok (.getfield 37, 3) := by decide +kernel
theorem dd_Checker_checkStructure_17 : decode prog_2_method_48_code 17 = .ok (.getfield 101, 3) := by decide +kernel
theorem dd_Checker_checkStructure_20 : decode prog_2_method_48_code 20 = .ok (.iload_n 2, 1) := by decide +kernel
theorem dd_Checker_checkStructure_21 : decode prog_2_method_48_code 21 = .ok (.iaload, 1) := by decide +kernel
theorem dd_Checker_checkStructure_22 : decode prog_2_method_48_code 22 = .ok (.istore 5, 2) := by decide +kernel
theorem dd_Checker_checkStructure_24 : decode prog_2_method_48_code 24 = .ok (.iload_n 1, 1) := by decide +kernel
theorem dd_Checker_checkStructure_25 : decode prog_2_method_48_code 25 = .ok (.iconst 1, 1) := by decide +kernel
theorem dd_Checker_checkStructure_26 : decode prog_2_method_48_code 26 = .ok (.if_icmp .gt 81, 3) := by decide +kernel
theorem dd_Checker_checkStructure_29 : decode prog_2_method_48_code 29 = .ok (.iload 5, 2) := by decide +kernel
theorem dd_Checker_checkStructure_31 : decode prog_2_method_48_code 31 = .ok (.iconst 1, 1) := by decide +kernel
theorem dd_Checker_checkStructure_32 : decode prog_2_method_48_code 32 = .ok (.isub, 1) := by decide +kernel
theorem dd_Checker_checkStructure_33 : decode prog_2_method_48_code 33 = .ok (.istore 6, 2) := by decide +kernel
theorem dd_Checker_checkStructure_35 : decode prog_2_method_48_code 35 = .ok (.iload 6, 2) := by decide +kernel
theorem dd_Checker_checkStructure_37 : decode prog_2_method_48_code 37 = .ok (.ifCond .lt 58, 3) := by decide +kernel
theorem dd_Checker_checkStructure_40 : decode prog_2_method_48_code 40 = .ok (.iload_n 1, 1) := by decide +kernel
theorem dd_Checker_checkStructure_41 : decode prog_2_method_48_code 41 = .ok (.ifCond .eq 19, 3) := by decide +kernel
theorem dd_Checker_checkStructure_44 : decode prog_2_method_48_code 44 = .ok (.aload_n 0, 1) := by decide +kernel
theorem dd_Checker_checkStructure_45 : decode prog_2_method_48_code 45 = .ok (.getfield 37, 3) := by decide +kernel
theorem dd_Checker_checkStructure_48 : decode prog_2_method_48_code 48 = .ok (.iload_n 2, 1) := by decide +kernel
theorem dd_Checker_checkStructure_49 : decode prog_2_method_48_code 49 = .ok (.iload 6, 2) := by decide +kernel
theorem dd_Checker_checkStructure_51 : decode prog_2_method_48_code 51 = .ok (.invokevirtual 107, 3) := by decide +kernel
theorem dd_Checker_checkStructure_54 : decode prog_2_method_48_code 54 = .ok (.invokestatic 276, 3) := by decide +kernel
theorem dd_Checker_checkStructure_57 : decode prog_2_method_48_code 57 = .ok (.ifCond .eq 7, 3) := by decide +kernel
theorem dd_Checker_checkStructure_60 : decode prog_2_method_48_code 60 = .ok (.iconst 1, 1) := by decide +kernel
theorem dd_Checker_checkStructure_61 : decode prog_2_method_48_code 61 = .ok (.goto 4, 3) := by decide +kernel
theorem dd_Checker_checkStructure_64 : decode prog_2_method_48_code 64 = .ok (.iconst 0, 1) := by decide +kernel
theorem dd_Checker_checkStructure_65 : decode prog_2_method_48_code 65 = .ok (.invokestatic 60, 3) := by decide +kernel
theorem dd_Checker_checkStructure_68 : decode prog_2_method_48_code 68 = .ok (.iload_n 1, 1) := by decide +kernel
theorem dd_Checker_checkStructure_69 : decode prog_2_method_48_code 69 = .ok (.ifCond .ne 20, 3) := by decide +kernel
theorem dd_Checker_checkStructure_72 : decode prog_2_method_48_code 72 = .ok (.aload_n 0, 1) := by decide +kernel
theorem dd_Checker_checkStructure_73 : decode prog_2_method_48_code 73 = .ok (.aload_n 0, 1) := by decide +kernel
theorem dd_Checker_checkStructure_74 : decode prog_2_method_48_code 74 = .ok (.getfield 37, 3) := by decide +kernel
theorem dd_Checker_checkStructure_77 : decode prog_2_method_48_code 77 = .ok (.iload_n 2, 1) := by decide +kernel
theorem dd_Checker_checkStructure_78 : decode prog_2_method_48_code 78 = .ok (.iload 6, 2) := by decide +kernel
theorem dd_Checker_checkStructure_80 : decode prog_2_method_48_code 80 = .ok (.invokevirtual 107, 3) := by decide +kernel
theorem dd_Checker_checkStructure_83 : decode prog_2_method_48_code 83 = .ok (.invokestatic 346, 3) := by decide +kernel
theorem dd_Checker_checkStructure_86 : decode prog_2_method_48_code 86 = .ok (.invokevirtual 238, 3) := by decide +kernel
theorem dd_Checker_checkStructure_89 : decode prog_2_method_48_code 89 = .ok (.iinc 6 (-1), 3) := by decide +kernel
theorem dd_Checker_checkStructure_92 : decode prog_2_method_48_code 92 = .ok (.goto (-57), 3) := by decide +kernel
theorem dd_Checker_checkStructure_95 : decode prog_2_method_48_code 95 = .ok (.aload_n 0, 1) := by decide +kernel
theorem dd_Checker_checkStructure_96 : decode prog_2_method_48_code 96 = .ok (.iconst 3, 1) := by decide +kernel
theorem dd_Checker_checkStructure_97 : decode prog_2_method_48_code 97 = .ok (.iload_n 2, 1) := by decide +kernel
theorem dd_Checker_checkStructure_98 : decode prog_2_method_48_code 98 = .ok (.iadd, 1) := by decide +kernel
theorem dd_Checker_checkStructure_99 : decode prog_2_method_48_code 99 = .ok (.iconst 0, 1) := by decide +kernel
theorem dd_Checker_checkStructure_100 : decode prog_2_method_48_code 100 = .ok (.invokestatic 231, 3) := by decide +kernel
theorem dd_Checker_checkStructure_103 : decode prog_2_method_48_code 103 = .ok (.invokevirtual 203, 3) := by decide +kernel
theorem dd_Checker_checkStructure_106 : decode prog_2_method_48_code 106 = .ok (.return_, 1) := by decide +kernel
theorem dd_Checker_checkStructure_107 : decode prog_2_method_48_code 107 = .ok (.lload_n 3, 1) := by decide +kernel
theorem dd_Checker_checkStructure_108 : decode prog_2_method_48_code 108 = .ok (.iload 5, 2) := by decide +kernel
theorem dd_Checker_checkStructure_110 : decode prog_2_method_48_code 110 = .ok (.i2l, 1) := by decide +kernel
theorem dd_Checker_checkStructure_111 : decode prog_2_method_48_code 111 = .ok (.lcmp, 1) := by decide +kernel
theorem dd_Checker_checkStructure_112 : decode prog_2_method_48_code 112 = .ok (.ifCond .ge 7, 3) := by decide +kernel
theorem dd_Checker_checkStructure_115 : decode prog_2_method_48_code 115 = .ok (.iconst 1, 1) := by decide +kernel
theorem dd_Checker_checkStructure_116 : decode prog_2_method_48_code 116 = .ok (.goto 4, 3) := by decide +kernel
theorem dd_Checker_checkStructure_119 : decode prog_2_method_48_code 119 = .ok (.iconst 0, 1) := by decide +kernel
theorem dd_Checker_checkStructure_120 : decode prog_2_method_48_code 120 = .ok (.invokestatic 60, 3) := by decide +kernel
theorem dd_Checker_checkStructure_123 : decode prog_2_method_48_code 123 = .ok (.aload_n 0, 1) := by decide +kernel
theorem dd_Checker_checkStructure_124 : decode prog_2_method_48_code 124 = .ok (.getfield 37, 3) := by decide +kernel
theorem dd_Checker_checkStructure_127 : decode prog_2_method_48_code 127 = .ok (.iload_n 2, 1) := by decide +kernel
theorem dd_Checker_checkStructure_128 : decode prog_2_method_48_code 128 = .ok (.lload_n 3, 1) := by decide +kernel
theorem dd_Checker_checkStructure_129 : decode prog_2_method_48_code 129 = .ok (.l2i, 1) := by decide +kernel
theorem dd_Checker_checkStructure_130 : decode prog_2_method_48_code 130 = .ok (.invokevirtual 107, 3) := by decide +kernel
theorem dd_Checker_checkStructure_133 : decode prog_2_method_48_code 133 = .ok (.istore 6, 2) := by decide +kernel
theorem dd_Checker_checkStructure_135 : decode prog_2_method_48_code 135 = .ok (.iload_n 1, 1) := by decide +kernel
theorem dd_Checker_checkStructure_136 : decode prog_2_method_48_code 136 = .ok (.iconst 5, 1) := by decide +kernel
theorem dd_Checker_checkStructure_137 : decode prog_2_method_48_code 137 = .ok (.if_icmp .ne 39, 3) := by decide +kernel
theorem dd_Checker_checkStructure_140 : decode prog_2_method_48_code 140 = .ok (.aload_n 0, 1) := by decide +kernel
theorem dd_Checker_checkStructure_141 : decode prog_2_method_48_code 141 = .ok (.getfield 37, 3) := by decide +kernel
theorem dd_Checker_checkStructure_144 : decode prog_2_method_48_code 144 = .ok (.iload_n 2, 1) := by decide +kernel
theorem dd_Checker_checkStructure_145 : decode prog_2_method_48_code 145 = .ok (.lload_n 3, 1) := by decide +kernel
theorem dd_Checker_checkStructure_146 : decode prog_2_method_48_code 146 = .ok (.l2i, 1) := by decide +kernel
theorem dd_Checker_checkStructure_147 : decode prog_2_method_48_code 147 = .ok (.invokevirtual 349, 3) := by decide +kernel
theorem dd_Checker_checkStructure_150 : decode prog_2_method_48_code 150 = .ok (.invokestatic 60, 3) := by decide +kernel
theorem dd_Checker_checkStructure_153 : decode prog_2_method_48_code 153 = .ok (.aload_n 0, 1) := by decide +kernel
theorem dd_Checker_checkStructure_154 : decode prog_2_method_48_code 154 = .ok (.iload 6, 2) := by decide +kernel
theorem dd_Checker_checkStructure_156 : decode prog_2_method_48_code 156 = .ok (.invokestatic 346, 3) := by decide +kernel
theorem dd_Checker_checkStructure_159 : decode prog_2_method_48_code 159 = .ok (.invokevirtual 238, 3) := by decide +kernel
theorem dd_Checker_checkStructure_162 : decode prog_2_method_48_code 162 = .ok (.aload_n 0, 1) := by decide +kernel
theorem dd_Checker_checkStructure_163 : decode prog_2_method_48_code 163 = .ok (.iconst 3, 1) := by decide +kernel
theorem dd_Checker_checkStructure_164 : decode prog_2_method_48_code 164 = .ok (.iload_n 2, 1) := by decide +kernel
theorem dd_Checker_checkStructure_165 : decode prog_2_method_48_code 165 = .ok (.iadd, 1) := by decide +kernel
theorem dd_Checker_checkStructure_166 : decode prog_2_method_48_code 166 = .ok (.iconst 1, 1) := by decide +kernel
theorem dd_Checker_checkStructure_167 : decode prog_2_method_48_code 167 = .ok (.invokestatic 231, 3) := by decide +kernel
theorem dd_Checker_checkStructure_170 : decode prog_2_method_48_code 170 = .ok (.invokevirtual 238, 3) := by decide +kernel
theorem dd_Checker_checkStructure_173 : decode prog_2_method_48_code 173 = .ok (.goto 49, 3) := by decide +kernel
theorem dd_Checker_checkStructure_176 : decode prog_2_method_48_code 176 = .ok (.iload 6, 2) := by decide +kernel
theorem dd_Checker_checkStructure_178 : decode prog_2_method_48_code 178 = .ok (.invokestatic 352, 3) := by decide +kernel
theorem dd_Checker_checkStructure_181 : decode prog_2_method_48_code 181 = .ok (.iload_n 1, 1) := by decide +kernel
theorem dd_Checker_checkStructure_182 : decode prog_2_method_48_code 182 = .ok (.iconst 2, 1) := by decide +kernel
theorem dd_Checker_checkStructure_183 : decode prog_2_method_48_code 183 = .ok (.if_icmp .le 7, 3) := by decide +kernel
theorem dd_Checker_checkStructure_186 : decode prog_2_method_48_code 186 = .ok (.iconst 1, 1) := by decide +kernel
theorem dd_Checker_checkStructure_187 : decode prog_2_method_48_code 187 = .ok (.goto 4, 3) := by decide +kernel
theorem dd_Checker_checkStructure_190 : decode prog_2_method_48_code 190 = .ok (.iconst 0, 1) := by decide +kernel
theorem dd_Checker_checkStructure_191 : decode prog_2_method_48_code 191 = .ok (.if_icmp .ne 7, 3) := by decide +kernel
theorem dd_Checker_checkStructure_194 : decode prog_2_method_48_code 194 = .ok (.iconst 1, 1) := by decide +kernel
theorem dd_Checker_checkStructure_195 : decode prog_2_method_48_code 195 = .ok (.goto 4, 3) := by decide +kernel
theorem dd_Checker_checkStructure_198 : decode prog_2_method_48_code 198 = .ok (.iconst 0, 1) := by decide +kernel
theorem dd_Checker_checkStructure_199 : decode prog_2_method_48_code 199 = .ok (.invokestatic 60, 3) := by decide +kernel
theorem dd_Checker_checkStructure_202 : decode prog_2_method_48_code 202 = .ok (.aload_n 0, 1) := by decide +kernel
theorem dd_Checker_checkStructure_203 : decode prog_2_method_48_code 203 = .ok (.iconst 3, 1) := by decide +kernel
theorem dd_Checker_checkStructure_204 : decode prog_2_method_48_code 204 = .ok (.iload_n 2, 1) := by decide +kernel
theorem dd_Checker_checkStructure_205 : decode prog_2_method_48_code 205 = .ok (.iadd, 1) := by decide +kernel
theorem dd_Checker_checkStructure_206 : decode prog_2_method_48_code 206 = .ok (.iconst 1, 1) := by decide +kernel
theorem dd_Checker_checkStructure_207 : decode prog_2_method_48_code 207 = .ok (.invokestatic 231, 3) := by decide +kernel
theorem dd_Checker_checkStructure_210 : decode prog_2_method_48_code 210 = .ok (.invokevirtual 238, 3) := by decide +kernel
theorem dd_Checker_checkStructure_213 : decode prog_2_method_48_code 213 = .ok (.aload_n 0, 1) := by decide +kernel
theorem dd_Checker_checkStructure_214 : decode prog_2_method_48_code 214 = .ok (.iload 6, 2) := by decide +kernel
theorem dd_Checker_checkStructure_216 : decode prog_2_method_48_code 216 = .ok (.invokestatic 346, 3) := by decide +kernel
theorem dd_Checker_checkStructure_219 : decode prog_2_method_48_code 219 = .ok (.invokevirtual 203, 3) := by decide +kernel
theorem dd_Checker_checkStructure_222 : decode prog_2_method_48_code 222 = .ok (.return_, 1) := by decide +kernel
theorem dd_Checker_blockAt_0 : decode prog_2_method_24_code 0 = .ok (.iload_n 1, 1) := by decide +kernel
theorem dd_Checker_blockAt_1 : decode prog_2_method_24_code 1 = .ok (.aload_n 0, 1) := by decide +kernel
theorem dd_Checker_blockAt_2 : decode prog_2_method_24_code 2 = .ok (.getfield 173, 3) := by decide +kernel
theorem dd_Checker_blockAt_5 : decode prog_2_method_24_code 5 = .ok (.if_icmp .ge 7, 3) := by decide +kernel
theorem dd_Checker_blockAt_8 : decode prog_2_method_24_code 8 = .ok (.iconst 1, 1) := by decide +kernel
theorem dd_Checker_blockAt_9 : decode prog_2_method_24_code 9 = .ok (.goto 4, 3) := by decide +kernel
theorem dd_Checker_blockAt_12 : decode prog_2_method_24_code 12 = .ok (.iconst 0, 1) := by decide +kernel
theorem dd_Checker_blockAt_13 : decode prog_2_method_24_code 13 = .ok (.invokestatic 60, 3) := by decide +kernel
theorem dd_Checker_blockAt_16 : decode prog_2_method_24_code 16 = .ok (.aload_n 0, 1) := by decide +kernel
theorem dd_Checker_blockAt_17 : decode prog_2_method_24_code 17 = .ok (.getfield 17, 3) := by decide +kernel
theorem dd_Checker_blockAt_20 : decode prog_2_method_24_code 20 = .ok (.aload_n 0, 1) := by decide +kernel
theorem dd_Checker_blockAt_21 : decode prog_2_method_24_code 21 = .ok (.getfield 173, 3) := by decide +kernel
theorem dd_Checker_blockAt_24 : decode prog_2_method_24_code 24 = .ok (.iconst 1, 1) := by decide +kernel
theorem dd_Checker_blockAt_25 : decode prog_2_method_24_code 25 = .ok (.isub, 1) := by decide +kernel
theorem dd_Checker_blockAt_26 : decode prog_2_method_24_code 26 = .ok (.iload_n 1, 1) := by decide +kernel
theorem dd_Checker_blockAt_27 : decode prog_2_method_24_code 27 = .ok (.isub, 1) := by decide +kernel
theorem dd_Checker_blockAt_28 : decode prog_2_method_24_code 28 = .ok (.iaload, 1) := by decide +kernel
theorem dd_Checker_blockAt_29 : decode prog_2_method_24_code 29 = .ok (.ireturn, 1) := by decide +kernel
theorem dd_Checker_branch_0 : decode prog_2_method_29_code 0 = .ok (.aload_n 0, 1) := by decide +kernel
theorem dd_Checker_branch_1 : decode prog_2_method_29_code 1 = .ok (.aload_n 0, 1) := by decide +kernel
theorem dd_Checker_branch_2 : decode prog_2_method_29_code 2 = .ok (.getfield 42, 3) := by decide +kernel
theorem dd_Checker_branch_5 : decode prog_2_method_29_code 5 = .ok (.getfield 176, 3) := by decide +kernel
theorem dd_Checker_branch_8 : decode prog_2_method_29_code 8 = .ok (.iload_n 1, 1) := by decide +kernel
theorem dd_Checker_branch_9 : decode prog_2_method_29_code 9 = .ok (.iaload, 1) := by decide +kernel
theorem dd_Checker_branch_10 : decode prog_2_method_29_code 10 = .ok (.invokevirtual 270, 3) := by decide +kernel
theorem dd_Checker_branch_13 : decode prog_2_method_29_code 13 = .ok (.istore_n 2, 1) := by decide +kernel
theorem dd_Checker_branch_14 : decode prog_2_method_29_code 14 = .ok (.aload_n 0, 1) := by decide +kernel
theorem dd_Checker_branch_15 : decode prog_2_method_29_code 15 = .ok (.getfield 42, 3) := by decide +kernel
theorem dd_Checker_branch_18 : decode prog_2_method_29_code 18 = .ok (.getfield 273, 3) := by decide +kernel
theorem dd_Checker_branch_21 : decode prog_2_method_29_code 21 = .ok (.iload_n 1, 1) := by decide +kernel
theorem dd_Checker_branch_22 : decode prog_2_method_29_code 22 = .ok (.iload_n 2, 1) := by decide +kernel
theorem dd_Checker_branch_23 : decode prog_2_method_29_code 23 = .ok (.iastore, 1) := by decide +kernel
theorem dd_Checker_branch_24 : decode prog_2_method_29_code 24 = .ok (.iload_n 2, 1) := by decide +kernel
theorem dd_Checker_branch_25 : decode prog_2_method_29_code 25 = .ok (.ireturn, 1) := by decide +kernel
theorem dd_Checker_wayCount_0 : decode prog_2_method_27_code 0 = .ok (.aload_n 0, 1) := by decide +kernel
theorem dd_Checker_wayCount_1 : decode prog_2_method_27_code 1 = .ok (.getfield 42, 3) := by decide +kernel
theorem dd_Checker_wayCount_4 : decode prog_2_method_27_code 4 = .ok (.getfield 212, 3) := by decide +kernel
theorem dd_Checker_wayCount_7 : decode prog_2_method_27_code 7 = .ok (.iload_n 1, 1) := by decide +kernel
theorem dd_Checker_wayCount_8 : decode prog_2_method_27_code 8 = .ok (.laload, 1) := by decide +kernel
theorem dd_Checker_wayCount_9 : decode prog_2_method_27_code 9 = .ok (.l2i, 1) := by decide +kernel
theorem dd_Checker_wayCount_10 : decode prog_2_method_27_code 10 = .ok (.ireturn, 1) := by decide +kernel
theorem dd_Checker_wayType_0 : decode prog_2_method_23_code 0 = .ok (.aload_n 0, 1) := by decide +kernel
theorem dd_Checker_wayType_1 : decode prog_2_method_23_code 1 = .ok (.getfield 42, 3) := by decide +kernel
theorem dd_Checker_wayType_4 : decode prog_2_method_23_code 4 = .ok (.getfield 176, 3) := by decide +kernel
theorem dd_Checker_wayType_7 : decode prog_2_method_23_code 7 = .ok (.iload_n 1, 1) := by decide +kernel
theorem dd_Checker_wayType_8 : decode prog_2_method_23_code 8 = .ok (.iaload, 1) := by decide +kernel
theorem dd_Checker_wayType_9 : decode prog_2_method_23_code 9 = .ok (.istore_n 3, 1) := by decide +kernel
theorem dd_Checker_wayType_10 : decode prog_2_method_23_code 10 = .ok (.iload_n 3, 1) := by decide +kernel
theorem dd_Checker_wayType_11 : decode prog_2_method_23_code 11 = .ok (.sipush 1024, 3) := by decide +kernel
theorem dd_Checker_wayType_14 : decode prog_2_method_23_code 14 = .ok (.if_icmp .ge 5, 3) := by decide +kernel
theorem dd_Checker_wayType_17 : decode prog_2_method_23_code 17 = .ok (.iload_n 3, 1) := by decide +kernel
theorem dd_Checker_wayType_18 : decode prog_2_method_23_code 18 = .ok (.ireturn, 1) := by decide +kernel
theorem dd_Checker_wayType_19 : decode prog_2_method_23_code 19 = .ok (.iload_n 3, 1) := by decide +kernel
theorem dd_Checker_wayType_20 : decode prog_2_method_23_code 20 = .ok (.sipush 1024, 3) := by decide +kernel
theorem dd_Checker_wayType_23 : decode prog_2_method_23_code 23 = .ok (.isub, 1) := by decide +kernel
theorem dd_Checker_wayType_24 : decode prog_2_method_23_code 24 = .ok (.istore 4, 2) := by decide +kernel
theorem dd_Checker_wayType_26 : decode prog_2_method_23_code 26 = .ok (.aload_n 0, 1) := by decide +kernel
theorem dd_Checker_wayType_27 : decode prog_2_method_23_code 27 = .ok (.getfield 42, 3) := by decide +kernel
theorem dd_Checker_wayType_30 : decode prog_2_method_23_code 30 = .ok (.getfield 187, 3) := by decide +kernel
theorem dd_Checker_wayType_33 : decode prog_2_method_23_code 33 = .ok (.iload_n 1, 1) := by decide +kernel
theorem dd_Checker_wayType_34 : decode prog_2_method_23_code 34 = .ok (.saload, 1) := by decide +kernel
theorem dd_Checker_wayType_35 : decode prog_2_method_23_code 35 = .ok (.iconst 3, 1) := by decide +kernel
theorem dd_Checker_wayType_36 : decode prog_2_method_23_code 36 = .ok (.if_icmp .ne 16, 3) := by decide +kernel
theorem dd_Checker_wayType_39 : decode prog_2_method_23_code 39 = .ok (.aload_n 0, 1) := by decide +kernel
theorem dd_Checker_wayType_40 : decode prog_2_method_23_code 40 = .ok (.getfield 37, 3) := by decide +kernel
theorem dd_Checker_wayType_43 : decode prog_2_method_23_code 43 = .ok (.iload 4, 2) := by decide +kernel
theorem dd_Checker_wayType_45 : decode prog_2_method_23_code 45 = .ok (.iload_n 2, 1) := by decide +kernel
theorem dd_Checker_wayType_46 : decode prog_2_method_23_code 46 = .ok (.invokevirtual 107, 3) := by decide +kernel
theorem dd_Checker_wayType_49 : decode prog_2_method_23_code 49 = .ok (.goto 13, 3) := by decide +kernel
theorem dd_Checker_wayType_52 : decode prog_2_method_23_code 52 = .ok (.aload_n 0, 1) := by decide +kernel
theorem dd_Checker_wayType_53 : decode prog_2_method_23_code 53 = .ok (.getfield 37, 3) := by decide +kernel
theorem dd_Checker_wayType_56 : decode prog_2_method_23_code 56 = .ok (.iload 4, 2) := by decide +kernel
theorem dd_Checker_wayType_58 : decode prog_2_method_23_code 58 = .ok (.iload_n 2, 1) := by decide +kernel
theorem dd_Checker_wayType_59 : decode prog_2_method_23_code 59 = .ok (.invokevirtual 115, 3) := by decide +kernel
theorem dd_Checker_wayType_62 : decode prog_2_method_23_code 62 = .ok (.ireturn, 1) := by decide +kernel
theorem dd_Checker_popWay_0 : decode prog_2_method_25_code 0 = .ok (.iload_n 2, 1) := by decide +kernel
theorem dd_Checker_popWay_1 : decode prog_2_method_25_code 1 = .ok (.iconst 1, 1) := by decide +kernel
theorem dd_Checker_popWay_2 : decode prog_2_method_25_code 2 = .ok (.isub, 1) := by decide +kernel
theorem dd_Checker_popWay_3 : decode prog_2_method_25_code 3 = .ok (.istore_n 3, 1) := by decide +kernel
theorem dd_Checker_popWay_4 : decode prog_2_method_25_code 4 = .ok (.iload_n 3, 1) := by decide +kernel
theorem dd_Checker_popWay_5 : decode prog_2_method_25_code 5 = .ok (.ifCond .lt 19, 3) := by decide +kernel
theorem dd_Checker_popWay_8 : decode prog_2_method_25_code 8 = .ok (.aload_n 0, 1) := by decide +kernel
theorem dd_Checker_popWay_9 : decode prog_2_method_25_code 9 = .ok (.aload_n 0, 1) := by decide +kernel
theorem dd_Checker_popWay_10 : decode prog_2_method_25_code 10 = .ok (.iload_n 1, 1) := by decide +kernel
theorem dd_Checker_popWay_11 : decode prog_2_method_25_code 11 = .ok (.iload_n 3, 1) := by decide +kernel
theorem dd_Checker_popWay_12 : decode prog_2_method_25_code 12 = .ok (.invokevirtual 235, 3) := by decide +kernel
theorem dd_Checker_popWay_15 : decode prog_2_method_25_code 15 = .ok (.invokevirtual 238, 3) := by decide +kernel
theorem dd_Checker_popWay_18 : decode prog_2_method_25_code 18 = .ok (.iinc 3 (-1), 3) := by decide +kernel
theorem dd_Checker_popWay_21 : decode prog_2_method_25_code 21 = .ok (.goto (-17), 3) := by decide +kernel
theorem dd_Checker_popWay_24 : decode prog_2_method_25_code 24 = .ok (.return_, 1) := by decide +kernel
theorem dd_Checker_pushWay_0 : decode prog_2_method_26_code 0 = .ok (.iconst 0, 1) := by decide +kernel
theorem dd_Checker_pushWay_1 : decode prog_2_method_26_code 1 = .ok (.istore_n 3, 1) := by decide +kernel
theorem dd_Checker_pushWay_2 : decode prog_2_method_26_code 2 = .ok (.iload_n 3, 1) := by decide +kernel
theorem dd_Checker_pushWay_3 : decode prog_2_method_26_code 3 = .ok (.iload_n 2, 1) := by decide +kernel
theorem dd_Checker_pushWay_4 : decode prog_2_method_26_code 4 = .ok (.if_icmp .ge 19, 3) := by decide +kernel
theorem dd_Checker_pushWay_7 : decode prog_2_method_26_code 7 = .ok (.aload_n 0, 1) := by decide +kernel
theorem dd_Checker_pushWay_8 : decode prog_2_method_26_code 8 = .ok (.aload_n 0, 1) := by decide +kernel
theorem dd_Checker_pushWay_9 : decode prog_2_method_26_code 9 = .ok (.iload_n 1, 1) := by decide +kernel
theorem dd_Checker_pushWay_10 : decode prog_2_method_26_code 10 = .ok (.iload_n 3, 1) := by decide +kernel
theorem dd_Checker_pushWay_11 : decode prog_2_method_26_code 11 = .ok (.invokevirtual 235, 3) := by decide +kernel
theorem dd_Checker_pushWay_14 : decode prog_2_method_26_code 14 = .ok (.invokevirtual 203, 3) := by decide +kernel
theorem dd_Checker_pushWay_17 : decode prog_2_method_26_code 17 = .ok (.iinc 3 1, 3) := by decide +kernel
theorem dd_Checker_pushWay_20 : decode prog_2_method_26_code 20 = .ok (.goto (-18), 3) := by decide +kernel
theorem dd_Checker_pushWay_23 : decode prog_2_method_26_code 23 = .ok (.return_, 1) := by decide +kernel
theorem dd_Checker_compute_0 : decode prog_2_method_46_code 0 = .ok (.iconst 0, 1) := by decide +kernel
theorem dd_Checker_compute_1 : decode prog_2_method_46_code 1 = .ok (.istore 4, 2) := by decide +kernel
theorem dd_Checker_compute_3 : decode prog_2_method_46_code 3 = .ok (.iload 4, 2) := by decide +kernel
theorem dd_Checker_compute_5 : decode prog_2_method_46_code 5 = .ok (.iload_n 1, 1) := by decide +kernel
theorem dd_Checker_compute_6 : decode prog_2_method_46_code 6 = .ok (.if_icmp .ge 14, 3) := by decide +kernel
theorem dd_Checker_compute_9 : decode prog_2_method_46_code 9 = .ok (.aload_n 0, 1) := by decide +kernel
theorem dd_Checker_compute_10 : decode prog_2_method_46_code 10 = .ok (.iload_n 2, 1) := by decide +kernel
theorem dd_Checker_compute_11 : decode prog_2_method_46_code 11 = .ok (.invokevirtual 238, 3) := by decide +kernel
theorem dd_Checker_compute_14 : decode prog_2_method_46_code 14 = .ok (.iinc 4 1, 3) := by decide +kernel
theorem dd_Checker_compute_17 : decode prog_2_method_46_code 17 = .ok (.goto (-14), 3) := by decide +kernel
theorem dd_Checker_compute_20 : decode prog_2_method_46_code 20 = .ok (.aload_n 0, 1) := by decide +kernel
theorem dd_Checker_compute_21 : decode prog_2_method_46_code 21 = .ok (.iload_n 3, 1) := by decide +kernel
theorem dd_Checker_compute_22 : decode prog_2_method_46_code 22 = .ok (.invokevirtual 203, 3) := by decide +kernel
theorem dd_Checker_compute_25 : decode prog_2_method_46_code 25 = .ok (.return_, 1) := by decide +kernel
theorem dd_Checker_checkReference_0 : decode prog_2_method_47_code 0 = .ok (.iload_n 1, 1) := by decide +kernel
theorem dd_Checker_checkReference_1 : decode prog_2_method_47_code 1 = .ok (.tableswitch 163 208 213 #[39, 78, 163, 91, 102, 116], 39) := by decide +kernel
theorem dd_Checker_checkReference_40 : decode prog_2_method_47_code 40 = .ok (.aload_n 0, 1) := by decide +kernel
theorem dd_Checker_checkReference_41 : decode prog_2_method_47_code 41 = .ok (.getfield 37, 3) := by decide +kernel
theorem dd_Checker_checkReference_44 : decode prog_2_method_47_code 44 = .ok (.aload_n 0, 1) := by decide +kernel
theorem dd_Checker_checkReference_45 : decode prog_2_method_47_code 45 = .ok (.getfield 42, 3) := by decide +kernel
theorem dd_Checker_checkReference_48 : decode prog_2_method_47_code 48 = .ok (.getfield 176, 3) := by decide +kernel
theorem dd_Checker_checkReference_51 : decode prog_2_method_47_code 51 = .ok (.iload_n 2, 1) := by decide +kernel
theorem dd_Checker_checkReference_52 : decode prog_2_method_47_code 52 = .ok (.iaload, 1) := by decide +kernel
theorem dd_Checker_checkReference_53 : decode prog_2_method_47_code 53 = .ok (.invokevirtual 337, 3) := by decide +kernel
theorem dd_Checker_checkReference_56 : decode prog_2_method_47_code 56 = .ok (.invokestatic 60, 3) := by decide +kernel
theorem dd_Checker_checkReference_59 : decode prog_2_method_47_code 59 = .ok (.aload_n 0, 1) := by decide +kernel
theorem dd_Checker_checkReference_60 : decode prog_2_method_47_code 60 = .ok (.aload_n 0, 1) := by decide +kernel
theorem dd_Checker_checkReference_61 : decode prog_2_method_47_code 61 = .ok (.getfield 42, 3) := by decide +kernel
theorem dd_Checker_checkReference_64 : decode prog_2_method_47_code 64 = .ok (.getfield 176, 3) := by decide +kernel
theorem dd_Checker_checkReference_67 : decode prog_2_method_47_code 67 = .ok (.iload_n 2, 1) := by decide +kernel
theorem dd_Checker_checkReference_68 : decode prog_2_method_47_code 68 = .ok (.iaload, 1) := by decide +kernel
theorem dd_Checker_checkReference_69 : decode prog_2_method_47_code 69 = .ok (.iconst 1, 1) := by decide +kernel
theorem dd_Checker_checkReference_70 : decode prog_2_method_47_code 70 = .ok (.invokestatic 231, 3) := by decide +kernel
theorem dd_Checker_checkReference_73 : decode prog_2_method_47_code 73 = .ok (.invokevirtual 203, 3) := by decide +kernel
theorem dd_Checker_checkReference_76 : decode prog_2_method_47_code 76 = .ok (.goto 161, 3) := by decide +kernel
theorem dd_Checker_checkReference_79 : decode prog_2_method_47_code 79 = .ok (.aload_n 0, 1) := by decide +kernel
theorem dd_Checker_checkReference_80 : decode prog_2_method_47_code 80 = .ok (.invokevirtual 340, 3) := by decide +kernel
theorem dd_Checker_checkReference_83 : decode prog_2_method_47_code 83 = .ok (.pop, 1) := by decide +kernel
theorem dd_Checker_checkReference_84 : decode prog_2_method_47_code 84 = .ok (.aload_n 0, 1) := by decide +kernel
theorem dd_Checker_checkReference_85 : decode prog_2_method_47_code 85 = .ok (.iconst 1, 1) := by decide +kernel
theorem dd_Checker_checkReference_86 : decode prog_2_method_47_code 86 = .ok (.invokevirtual 203, 3) := by decide +kernel
theorem dd_Checker_checkReference_89 : decode prog_2_method_47_code 89 = .ok (.goto 148, 3) := by decide +kernel
theorem dd_Checker_checkReference_92 : decode prog_2_method_47_code 92 = .ok (.aload_n 0, 1) := by decide +kernel
theorem dd_Checker_checkReference_93 : decode prog_2_method_47_code 93 = .ok (.iconst 2, 1) := by decide +kernel
theorem dd_Checker_checkReference_94 : decode prog_2_method_47_code 94 = .ok (.bipush 17, 2) := by decide +kernel
theorem dd_Checker_checkReference_96 : decode prog_2_method_47_code 96 = .ok (.iconst 1, 1) := by decide +kernel
theorem dd_Checker_checkReference_97 : decode prog_2_method_47_code 97 = .ok (.invokevirtual 334, 3) := by decide +kernel
theorem dd_Checker_checkReference_100 : decode prog_2_method_47_code 100 = .ok (.goto 137, 3) := by decide +kernel
theorem dd_Checker_checkReference_103 : decode prog_2_method_47_code 103 = .ok (.aload_n 0, 1) := by decide +kernel
theorem dd_Checker_checkReference_104 : decode prog_2_method_47_code 104 = .ok (.aload_n 0, 1) := by decide +kernel
theorem dd_Checker_checkReference_105 : decode prog_2_method_47_code 105 = .ok (.invokevirtual 340, 3) := by decide +kernel
theorem dd_Checker_checkReference_108 : decode prog_2_method_47_code 108 = .ok (.invokestatic 343, 3) := by decide +kernel
theorem dd_Checker_checkReference_111 : decode prog_2_method_47_code 111 = .ok (.invokevirtual 203, 3) := by decide +kernel
theorem dd_Checker_checkReference_114 : decode prog_2_method_47_code 114 = .ok (.goto 123, 3) := by decide +kernel
theorem dd_Checker_checkReference_117 : decode prog_2_method_47_code 117 = .ok (.aload_n 0, 1) := by decide +kernel
theorem dd_Checker_checkReference_118 : decode prog_2_method_47_code 118 = .ok (.invokevirtual 340, 3) := by decide +kernel
theorem dd_Checker_checkReference_121 : decode prog_2_method_47_code 121 = .ok (.invokestatic 343, 3) := by decide +kernel
theorem dd_Checker_checkReference_124 : decode prog_2_method_47_code 124 = .ok (.istore_n 3, 1) := by decide +kernel
theorem dd_Checker_checkReference_125 : decode prog_2_method_47_code 125 = .ok (.aload_n 0, 1) := by decide +kernel
theorem dd_Checker_checkReference_126 : decode prog_2_method_47_code 126 = .ok (.iload_n 2, 1) := by decide +kernel
theorem dd_Checker_checkReference_127 : decode prog_2_method_47_code 127 = .ok (.invokevirtual 255, 3) := by decide +kernel
theorem dd_Checker_checkReference_130 : decode prog_2_method_47_code 130 = .ok (.istore 4, 2) := by decide +kernel
theorem dd_Checker_checkReference_132 : decode prog_2_method_47_code 132 = .ok (.aload_n 0, 1) := by decide +kernel
theorem dd_Checker_checkReference_133 : decode prog_2_method_47_code 133 = .ok (.iload 4, 2) := by decide +kernel
theorem dd_Checker_checkReference_135 : decode prog_2_method_47_code 135 = .ok (.aload_n 0, 1) := by decide +kernel
theorem dd_Checker_checkReference_136 : decode prog_2_method_47_code 136 = .ok (.iload 4, 2) := by decide +kernel
theorem dd_Checker_checkReference_138 : decode prog_2_method_47_code 138 = .ok (.invokevirtual 258, 3) := by decide +kernel
theorem dd_Checker_checkReference_141 : decode prog_2_method_47_code 141 = .ok (.invokevirtual 261, 3) := by decide +kernel
theorem dd_Checker_checkReference_144 : decode prog_2_method_47_code 144 = .ok (.aload_n 0, 1) := by decide +kernel
theorem dd_Checker_checkReference_145 : decode prog_2_method_47_code 145 = .ok (.iload 4, 2) := by decide +kernel
theorem dd_Checker_checkReference_147 : decode prog_2_method_47_code 147 = .ok (.aload_n 0, 1) := by decide +kernel
theorem dd_Checker_checkReference_148 : decode prog_2_method_47_code 148 = .ok (.iload 4, 2) := by decide +kernel
theorem dd_Checker_checkReference_150 : decode prog_2_method_47_code 150 = .ok (.invokevirtual 258, 3) := by decide +kernel
theorem dd_Checker_checkReference_153 : decode prog_2_method_47_code 153 = .ok (.invokevirtual 264, 3) := by decide +kernel
theorem dd_Checker_checkReference_156 : decode prog_2_method_47_code 156 = .ok (.aload_n 0, 1) := by decide +kernel
theorem dd_Checker_checkReference_157 : decode prog_2_method_47_code 157 = .ok (.iload_n 3, 1) := by decide +kernel
theorem dd_Checker_checkReference_158 : decode prog_2_method_47_code 158 = .ok (.invokevirtual 203, 3) := by decide +kernel
theorem dd_Checker_checkReference_161 : decode prog_2_method_47_code 161 = .ok (.goto 76, 3) := by decide +kernel
theorem dd_Checker_checkReference_164 : decode prog_2_method_47_code 164 = .ok (.aload_n 0, 1) := by decide +kernel
theorem dd_Checker_checkReference_165 : decode prog_2_method_47_code 165 = .ok (.invokevirtual 340, 3) := by decide +kernel
theorem dd_Checker_checkReference_168 : decode prog_2_method_47_code 168 = .ok (.invokestatic 343, 3) := by decide +kernel
theorem dd_Checker_checkReference_171 : decode prog_2_method_47_code 171 = .ok (.istore_n 3, 1) := by decide +kernel
theorem dd_Checker_checkReference_172 : decode prog_2_method_47_code 172 = .ok (.aload_n 0, 1) := by decide +kernel
theorem dd_Checker_checkReference_173 : decode prog_2_method_47_code 173 = .ok (.iload_n 2, 1) := by decide +kernel
theorem dd_Checker_checkReference_174 : decode prog_2_method_47_code 174 = .ok (.invokevirtual 255, 3) := by decide +kernel
theorem dd_Checker_checkReference_177 : decode prog_2_method_47_code 177 = .ok (.istore 4, 2) := by decide +kernel
theorem dd_Checker_checkReference_179 : decode prog_2_method_47_code 179 = .ok (.aload_n 0, 1) := by decide +kernel
theorem dd_Checker_checkReference_180 : decode prog_2_method_47_code 180 = .ok (.iload 4, 2) := by decide +kernel
theorem dd_Checker_checkReference_182 : decode prog_2_method_47_code 182 = .ok (.invokevirtual 258, 3) := by decide +kernel
theorem dd_Checker_checkReference_185 : decode prog_2_method_47_code 185 = .ok (.iconst 1, 1) := by decide +kernel
theorem dd_Checker_checkReference_186 : decode prog_2_method_47_code 186 = .ok (.isub, 1) := by decide +kernel
theorem dd_Checker_checkReference_187 : decode prog_2_method_47_code 187 = .ok (.istore 5, 2) := by decide +kernel
theorem dd_Checker_checkReference_189 : decode prog_2_method_47_code 189 = .ok (.iload 5, 2) := by decide +kernel
theorem dd_Checker_checkReference_191 : decode prog_2_method_47_code 191 = .ok (.ifCond .lt 26, 3) := by decide +kernel
theorem dd_Checker_checkReference_194 : decode prog_2_method_47_code 194 = .ok (.aload_n 0, 1) := by decide +kernel
theorem dd_Checker_checkReference_195 : decode prog_2_method_47_code 195 = .ok (.getfield 37, 3) := by decide +kernel
theorem dd_Checker_checkReference_198 : decode prog_2_method_47_code 198 = .ok (.iload_n 3, 1) := by decide +kernel
theorem dd_Checker_checkReference_199 : decode prog_2_method_47_code 199 = .ok (.aload_n 0, 1) := by decide +kernel
theorem dd_Checker_checkReference_200 : decode prog_2_method_47_code 200 = .ok (.iload 4, 2) := by decide +kernel
theorem dd_Checker_checkReference_202 : decode prog_2_method_47_code 202 = .ok (.iload 5, 2) := by decide +kernel
theorem dd_Checker_checkReference_204 : decode prog_2_method_47_code 204 = .ok (.invokevirtual 235, 3) := by decide +kernel
theorem dd_Checker_checkReference_207 : decode prog_2_method_47_code 207 = .ok (.invokevirtual 148, 3) := by decide +kernel
theorem dd_Checker_checkReference_210 : decode prog_2_method_47_code 210 = .ok (.ifCond .eq 7, 3) := by decide +kernel
theorem dd_Checker_checkReference_213 : decode prog_2_method_47_code 213 = .ok (.iconst 1, 1) := by decide +kernel
theorem dd_Checker_checkReference_214 : decode prog_2_method_47_code 214 = .ok (.goto 4, 3) := by decide +kernel
theorem dd_Checker_checkReference_217 : decode prog_2_method_47_code 217 = .ok (.iconst 0, 1) := by decide +kernel
theorem dd_Checker_checkReference_218 : decode prog_2_method_47_code 218 = .ok (.invokestatic 60, 3) := by decide +kernel
theorem dd_Checker_checkReference_221 : decode prog_2_method_47_code 221 = .ok (.aload_n 0, 1) := by decide +kernel
theorem dd_Checker_checkReference_222 : decode prog_2_method_47_code 222 = .ok (.iload 4, 2) := by decide +kernel
theorem dd_Checker_checkReference_224 : decode prog_2_method_47_code 224 = .ok (.iload 5, 2) := by decide +kernel
theorem dd_Checker_checkReference_226 : decode prog_2_method_47_code 226 = .ok (.invokevirtual 261, 3) := by decide +kernel
theorem dd_Checker_checkReference_229 : decode prog_2_method_47_code 229 = .ok (.aload_n 0, 1) := by decide +kernel
theorem dd_Checker_checkReference_230 : decode prog_2_method_47_code 230 = .ok (.iload 4, 2) := by decide +kernel
theorem dd_Checker_checkReference_232 : decode prog_2_method_47_code 232 = .ok (.iload 5, 2) := by decide +kernel
theorem dd_Checker_checkReference_234 : decode prog_2_method_47_code 234 = .ok (.invokevirtual 264, 3) := by decide +kernel
theorem dd_Checker_checkReference_237 : decode prog_2_method_47_code 237 = .ok (.return_, 1) := by decide +kernel
theorem dd_Checker_checkNumeric_0 : decode prog_2_method_45_code 0 = .ok (.iload_n 1, 1) := by decide +kernel
theorem dd_Checker_checkNumeric_1 : decode prog_2_method_45_code 1 = .ok (.bipush 79, 2) := by decide +kernel
theorem dd_Checker_checkNumeric_3 : decode prog_2_method_45_code 3 = .ok (.if_icmp .gt 23, 3) := by decide +kernel
theorem dd_Checker_checkNumeric_6 : decode prog_2_method_45_code 6 = .ok (.aload_n 0, 1) := by decide +kernel
theorem dd_Checker_checkNumeric_7 : decode prog_2_method_45_code 7 = .ok (.iload_n 1, 1) := by decide +kernel
theorem dd_Checker_checkNumeric_8 : decode prog_2_method_45_code 8 = .ok (.bipush 69, 2) := by decide +kernel
theorem dd_Checker_checkNumeric_10 : decode prog_2_method_45_code 10 = .ok (.if_icmp .ne 7, 3) := by decide +kernel
theorem dd_Checker_checkNumeric_13 : decode prog_2_method_45_code 13 = .ok (.iconst 1, 1) := by decide +kernel
theorem dd_Checker_checkNumeric_14 : decode prog_2_method_45_code 14 = .ok (.goto 4, 3) := by decide +kernel
theorem dd_Checker_checkNumeric_17 : decode prog_2_method_45_code 17 = .ok (.iconst 2, 1) := by decide +kernel
theorem dd_Checker_checkNumeric_18 : decode prog_2_method_45_code 18 = .ok (.iconst 1, 1) := by decide +kernel
theorem dd_Checker_checkNumeric_19 : decode prog_2_method_45_code 19 = .ok (.iconst 1, 1) := by decide +kernel
theorem dd_Checker_checkNumeric_20 : decode prog_2_method_45_code 20 = .ok (.invokevirtual 334, 3) := by decide +kernel
theorem dd_Checker_checkNumeric_23 : decode prog_2_method_45_code 23 = .ok (.goto 140, 3) := by decide +kernel
theorem dd_Checker_checkNumeric_26 : decode prog_2_method_45_code 26 = .ok (.iload_n 1, 1) := by decide +kernel
theorem dd_Checker_checkNumeric_27 : decode prog_2_method_45_code 27 = .ok (.bipush 90, 2) := by decide +kernel
theorem dd_Checker_checkNumeric_29 : decode prog_2_method_45_code 29 = .ok (.if_icmp .gt 23, 3) := by decide +kernel
theorem dd_Checker_checkNumeric_32 : decode prog_2_method_45_code 32 = .ok (.aload_n 0, 1) := by decide +kernel
theorem dd_Checker_checkNumeric_33 : decode prog_2_method_45_code 33 = .ok (.iload_n 1, 1) := by decide +kernel
theorem dd_Checker_checkNumeric_34 : decode prog_2_method_45_code 34 = .ok (.bipush 80, 2) := by decide +kernel
theorem dd_Checker_checkNumeric_36 : decode prog_2_method_45_code 36 = .ok (.if_icmp .ne 7, 3) := by decide +kernel
theorem dd_Checker_checkNumeric_39 : decode prog_2_method_45_code 39 = .ok (.iconst 1, 1) := by decide +kernel
theorem dd_Checker_checkNumeric_40 : decode prog_2_method_45_code 40 = .ok (.goto 4, 3) := by decide +kernel
theorem dd_Checker_checkNumeric_43 : decode prog_2_method_45_code 43 = .ok (.iconst 2, 1) := by decide +kernel
theorem dd_Checker_checkNumeric_44 : decode prog_2_method_45_code 44 = .ok (.iconst 2, 1) := by decide +kernel
theorem dd_Checker_checkNumeric_45 : decode prog_2_method_45_code 45 = .ok (.iconst 1, 1) := by decide +kernel
theorem dd_Checker_checkNumeric_46 : decode prog_2_method_45_code 46 = .ok (.invokevirtual 334, 3) := by decide +kernel
theorem dd_Checker_checkNumeric_49 : decode prog_2_method_45_code 49 = .ok (.goto 114, 3) := by decide +kernel
theorem dd_Checker_checkNumeric_52 : decode prog_2_method_45_code 52 = .ok (.iload_n 1, 1) := by decide +kernel
theorem dd_Checker_checkNumeric_53 : decode prog_2_method_45_code 53 = .ok (.bipush 120, 2) := by decide +kernel
theorem dd_Checker_checkNumeric_55 : decode prog_2_method_45_code 55 = .ok (.if_icmp .gt 23, 3) := by decide +kernel
theorem dd_Checker_checkNumeric_58 : decode prog_2_method_45_code 58 = .ok (.aload_n 0, 1) := by decide +kernel
theorem dd_Checker_checkNumeric_59 : decode prog_2_method_45_code 59 = .ok (.iload_n 1, 1) := by decide +kernel
theorem dd_Checker_checkNumeric_60 : decode prog_2_method_45_code 60 = .ok (.bipush 105, 2) := by decide +kernel
theorem dd_Checker_checkNumeric_62 : decode prog_2_method_45_code 62 = .ok (.if_icmp .gt 7, 3) := by decide +kernel
theorem dd_Checker_checkNumeric_65 : decode prog_2_method_45_code 65 = .ok (.iconst 1, 1) := by decide +kernel
theorem dd_Checker_checkNumeric_66 : decode prog_2_method_45_code 66 = .ok (.goto 4, 3) := by decide +kernel
theorem dd_Checker_checkNumeric_69 : decode prog_2_method_45_code 69 = .ok (.iconst 2, 1) := by decide +kernel
theorem dd_Checker_checkNumeric_70 : decode prog_2_method_45_code 70 = .ok (.iconst 1, 1) := by decide +kernel
theorem dd_Checker_checkNumeric_71 : decode prog_2_method_45_code 71 = .ok (.iconst 1, 1) := by decide +kernel
theorem dd_Checker_checkNumeric_72 : decode prog_2_method_45_code 72 = .ok (.invokevirtual 334, 3) := by decide +kernel
theorem dd_Checker_checkNumeric_75 : decode prog_2_method_45_code 75 = .ok (.goto 88, 3) := by decide +kernel
theorem dd_Checker_checkNumeric_78 : decode prog_2_method_45_code 78 = .ok (.iload_n 1, 1) := by decide +kernel
theorem dd_Checker_checkNumeric_79 : decode prog_2_method_45_code 79 = .ok (.sipush 138, 3) := by decide +kernel
theorem dd_Checker_checkNumeric_82 : decode prog_2_method_45_code 82 = .ok (.if_icmp .gt 23, 3) := by decide +kernel
theorem dd_Checker_checkNumeric_85 : decode prog_2_method_45_code 85 = .ok (.aload_n 0, 1) := by decide +kernel
theorem dd_Checker_checkNumeric_86 : decode prog_2_method_45_code 86 = .ok (.iload_n 1, 1) := by decide +kernel
theorem dd_Checker_checkNumeric_87 : decode prog_2_method_45_code 87 = .ok (.bipush 123, 2) := by decide +kernel
theorem dd_Checker_checkNumeric_89 : decode prog_2_method_45_code 89 = .ok (.if_icmp .gt 7, 3) := by decide +kernel
theorem dd_Checker_checkNumeric_92 : decode prog_2_method_45_code 92 = .ok (.iconst 1, 1) := by decide +kernel
theorem dd_Checker_checkNumeric_93 : decode prog_2_method_45_code 93 = .ok (.goto 4, 3) := by decide +kernel
theorem dd_Checker_checkNumeric_96 : decode prog_2_method_45_code 96 = .ok (.iconst 2, 1) := by decide +kernel
theorem dd_Checker_checkNumeric_97 : decode prog_2_method_45_code 97 = .ok (.iconst 2, 1) := by decide +kernel
theorem dd_Checker_checkNumeric_98 : decode prog_2_method_45_code 98 = .ok (.iconst 2, 1) := by decide +kernel
theorem dd_Checker_checkNumeric_99 : decode prog_2_method_45_code 99 = .ok (.invokevirtual 334, 3) := by decide +kernel
theorem dd_Checker_checkNumeric_102 : decode prog_2_method_45_code 102 = .ok (.goto 61, 3) := by decide +kernel
theorem dd_Checker_checkNumeric_105 : decode prog_2_method_45_code 105 = .ok (.iload_n 1, 1) := by decide +kernel
theorem dd_Checker_checkNumeric_106 : decode prog_2_method_45_code 106 = .ok (.sipush 167, 3) := by decide +kernel
theorem dd_Checker_checkNumeric_109 : decode prog_2_method_45_code 109 = .ok (.if_icmp .ne 13, 3) := by decide +kernel
theorem dd_Checker_checkNumeric_112 : decode prog_2_method_45_code 112 = .ok (.aload_n 0, 1) := by decide +kernel
theorem dd_Checker_checkNumeric_113 : decode prog_2_method_45_code 113 = .ok (.iconst 1, 1) := by decide +kernel
theorem dd_Checker_checkNumeric_114 : decode prog_2_method_45_code 114 = .ok (.iconst 2, 1) := by decide +kernel
theorem dd_Checker_checkNumeric_115 : decode prog_2_method_45_code 115 = .ok (.iconst 1, 1) := by decide +kernel
theorem dd_Checker_checkNumeric_116 : decode prog_2_method_45_code 116 = .ok (.invokevirtual 334, 3) := by decide +kernel
theorem dd_Checker_checkNumeric_119 : decode prog_2_method_45_code 119 = .ok (.goto 44, 3) := by decide +kernel
theorem dd_Checker_checkNumeric_122 : decode prog_2_method_45_code 122 = .ok (.iload_n 1, 1) := by decide +kernel
theorem dd_Checker_checkNumeric_123 : decode prog_2_method_45_code 123 = .ok (.sipush 173, 3) := by decide +kernel
theorem dd_Checker_checkNumeric_126 : decode prog_2_method_45_code 126 = .ok (.if_icmp .gt 13, 3) := by decide +kernel
theorem dd_Checker_checkNumeric_129 : decode prog_2_method_45_code 129 = .ok (.aload_n 0, 1) := by decide +kernel
theorem dd_Checker_checkNumeric_130 : decode prog_2_method_45_code 130 = .ok (.iconst 1, 1) := by decide +kernel
theorem dd_Checker_checkNumeric_131 : decode prog_2_method_45_code 131 = .ok (.iconst 1, 1) := by decide +kernel
theorem dd_Checker_checkNumeric_132 : decode prog_2_method_45_code 132 = .ok (.iconst 2, 1) := by decide +kernel
theorem dd_Checker_checkNumeric_133 : decode prog_2_method_45_code 133 = .ok (.invokevirtual 334, 3) := by decide +kernel
theorem dd_Checker_checkNumeric_136 : decode prog_2_method_45_code 136 = .ok (.goto 27, 3) := by decide +kernel
theorem dd_Checker_checkNumeric_139 : decode prog_2_method_45_code 139 = .ok (.iload_n 1, 1) := by decide +kernel
theorem dd_Checker_checkNumeric_140 : decode prog_2_method_45_code 140 = .ok (.sipush 193, 3) := by decide +kernel
theorem dd_Checker_checkNumeric_143 : decode prog_2_method_45_code 143 = .ok (.if_icmp .gt 13, 3) := by decide +kernel
theorem dd_Checker_checkNumeric_146 : decode prog_2_method_45_code 146 = .ok (.aload_n 0, 1) := by decide +kernel
theorem dd_Checker_checkNumeric_147 : decode prog_2_method_45_code 147 = .ok (.iconst 1, 1) := by decide +kernel
theorem dd_Checker_checkNumeric_148 : decode prog_2_method_45_code 148 = .ok (.iconst 1, 1) := by decide +kernel
theorem dd_Checker_checkNumeric_149 : decode prog_2_method_45_code 149 = .ok (.iconst 1, 1) := by decide +kernel
theorem dd_Checker_checkNumeric_150 : decode prog_2_method_45_code 150 = .ok (.invokevirtual 334, 3) := by decide +kernel
theorem dd_Checker_checkNumeric_153 : decode prog_2_method_45_code 153 = .ok (.goto 10, 3) := by decide +kernel
theorem dd_Checker_checkNumeric_156 : decode prog_2_method_45_code 156 = .ok (.aload_n 0, 1) := by decide +kernel
theorem dd_Checker_checkNumeric_157 : decode prog_2_method_45_code 157 = .ok (.iconst 1, 1) := by decide +kernel
theorem dd_Checker_checkNumeric_158 : decode prog_2_method_45_code 158 = .ok (.iconst 2, 1) := by decide +kernel
theorem dd_Checker_checkNumeric_159 : decode prog_2_method_45_code 159 = .ok (.iconst 2, 1) := by decide +kernel
theorem dd_Checker_checkNumeric_160 : decode prog_2_method_45_code 160 = .ok (.invokevirtual 334, 3) := by decide +kernel
theorem dd_Checker_checkNumeric_163 : decode prog_2_method_45_code 163 = .ok (.return_, 1) := by decide +kernel
theorem dd_Memory_isWide_0 : decode prog_6_method_3_code 0 = .ok (.iload_n 0, 1) := by decide +kernel
theorem dd_Memory_isWide_1 : decode prog_6_method_3_code 1 = .ok (.bipush 41, 2) := by decide +kernel
theorem dd_Memory_isWide_3 : decode prog_6_method_3_code 3 = .ok (.if_icmp .eq 27, 3) := by decide +kernel
theorem dd_Memory_isWide_6 : decode prog_6_method_3_code 6 = .ok (.iload_n 0, 1) := by decide +kernel
theorem dd_Memory_isWide_7 : decode prog_6_method_3_code 7 = .ok (.bipush 48, 2) := by decide +kernel
theorem dd_Memory_isWide_9 : decode prog_6_method_3_code 9 = .ok (.if_icmp .lt 9, 3) := by decide +kernel
theorem dd_Memory_isWide_12 : decode prog_6_method_3_code 12 = .ok (.iload_n 0, 1) := by decide +kernel
theorem dd_Memory_isWide_13 : decode prog_6_method_3_code 13 = .ok (.bipush 53, 2) := by decide +kernel
theorem dd_Memory_isWide_15 : decode prog_6_method_3_code 15 = .ok (.if_icmp .le 15, 3) := by decide +kernel
theorem dd_Memory_isWide_18 : decode prog_6_method_3_code 18 = .ok (.iload_n 0, 1) := by decide +kernel
theorem dd_Memory_isWide_19 : decode prog_6_method_3_code 19 = .ok (.bipush 55, 2) := by decide +kernel
theorem dd_Memory_isWide_21 : decode prog_6_method_3_code 21 = .ok (.if_icmp .eq 9, 3) := by decide +kernel
theorem dd_Memory_isWide_24 : decode prog_6_method_3_code 24 = .ok (.iload_n 0, 1) := by decide +kernel
theorem dd_Memory_isWide_25 : decode prog_6_method_3_code 25 = .ok (.bipush 60, 2) := by decide +kernel
theorem dd_Memory_isWide_27 : decode prog_6_method_3_code 27 = .ok (.if_icmp .lt 7, 3) := by decide +kernel
theorem dd_Memory_isWide_30 : decode prog_6_method_3_code 30 = .ok (.iconst 1, 1) := by decide +kernel
theorem dd_Memory_isWide_31 : decode prog_6_method_3_code 31 = .ok (.goto 4, 3) := by decide +kernel
theorem dd_Memory_isWide_34 : decode prog_6_method_3_code 34 = .ok (.iconst 0, 1) := by decide +kernel
theorem dd_Memory_isWide_35 : decode prog_6_method_3_code 35 = .ok (.ireturn, 1) := by decide +kernel
