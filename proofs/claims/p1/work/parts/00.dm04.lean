theorem dd_Model_checkEnd_0 : decode prog_14_method_78_code 0 = .ok (.aload_n 0, 1) := by decide +kernel
theorem dd_Model_checkEnd_1 : decode prog_14_method_78_code 1 = .ok (.invokevirtual 548, 3) := by decide +kernel
theorem dd_Model_checkEnd_4 : decode prog_14_method_78_code 4 = .ok (.aload_n 0, 1) := by decide +kernel
theorem dd_Model_checkEnd_5 : decode prog_14_method_78_code 5 = .ok (.getfield 490, 3) := by decide +kernel
theorem dd_Model_checkEnd_8 : decode prog_14_method_78_code 8 = .ok (.iconst 1, 1) := by decide +kernel
theorem dd_Model_checkEnd_9 : decode prog_14_method_78_code 9 = .ok (.isub, 1) := by decide +kernel
theorem dd_Model_checkEnd_10 : decode prog_14_method_78_code 10 = .ok (.istore_n 1, 1) := by decide +kernel
theorem dd_Model_checkEnd_11 : decode prog_14_method_78_code 11 = .ok (.aload_n 0, 1) := by decide +kernel
theorem dd_Model_checkEnd_12 : decode prog_14_method_78_code 12 = .ok (.getfield 91, 3) := by decide +kernel
theorem dd_Model_checkEnd_15 : decode prog_14_method_78_code 15 = .ok (.iload_n 1, 1) := by decide +kernel
theorem dd_Model_checkEnd_16 : decode prog_14_method_78_code 16 = .ok (.laload, 1) := by decide +kernel
theorem dd_Model_checkEnd_17 : decode prog_14_method_78_code 17 = .ok (.lstore_n 2, 1) := by decide +kernel
theorem dd_Model_checkEnd_18 : decode prog_14_method_78_code 18 = .ok (.aload_n 0, 1) := by decide +kernel
theorem dd_Model_checkEnd_19 : decode prog_14_method_78_code 19 = .ok (.getfield 88, 3) := by decide +kernel
theorem dd_Model_checkEnd_22 : decode prog_14_method_78_code 22 = .ok (.iload_n 1, 1) := by decide +kernel
theorem dd_Model_checkEnd_23 : decode prog_14_method_78_code 23 = .ok (.iaload, 1) := by decide +kernel
theorem dd_Model_checkEnd_24 : decode prog_14_method_78_code 24 = .ok (.iconst 4, 1) := by decide +kernel
theorem dd_Model_checkEnd_25 : decode prog_14_method_78_code 25 = .ok (.if_icmp .ne 93, 3) := by decide +kernel
theorem dd_Model_checkEnd_28 : decode prog_14_method_78_code 28 = .ok (.aload_n 0, 1) := by decide +kernel
theorem dd_Model_checkEnd_29 : decode prog_14_method_78_code 29 = .ok (.aload_n 0, 1) := by decide +kernel
theorem dd_Model_checkEnd_30 : decode prog_14_method_78_code 30 = .ok (.getfield 398, 3) := by decide +kernel
theorem dd_Model_checkEnd_33 : decode prog_14_method_78_code 33 = .ok (.ifCond .ne 18, 3) := by decide +kernel
theorem dd_Model_checkEnd_36 : decode prog_14_method_78_code 36 = .ok (.aload_n 0, 1) := by decide +kernel
theorem dd_Model_checkEnd_37 : decode prog_14_method_78_code 37 = .ok (.lload_n 2, 1) := by decide +kernel
theorem dd_Model_checkEnd_38 : decode prog_14_method_78_code 38 = .ok (.iconst 0, 1) := by decide +kernel
theorem dd_Model_checkEnd_39 : decode prog_14_method_78_code 39 = .ok (.invokevirtual 496, 3) := by decide +kernel
theorem dd_Model_checkEnd_42 : decode prog_14_method_78_code 42 = .ok (.aload_n 0, 1) := by decide +kernel
theorem dd_Model_checkEnd_43 : decode prog_14_method_78_code 43 = .ok (.lload_n 2, 1) := by decide +kernel
theorem dd_Model_checkEnd_44 : decode prog_14_method_78_code 44 = .ok (.iconst 1, 1) := by decide +kernel
theorem dd_Model_checkEnd_45 : decode prog_14_method_78_code 45 = .ok (.invokevirtual 496, 3) := by decide +kernel
theorem dd_Model_checkEnd_48 : decode prog_14_method_78_code 48 = .ok (.if_icmp .eq 7, 3) := by decide +kernel
theorem dd_Model_checkEnd_51 : decode prog_14_method_78_code 51 = .ok (.iconst 1, 1) := by decide +kernel
theorem dd_Model_checkEnd_52 : decode prog_14_method_78_code 52 = .ok (.goto 4, 3) := by decide +kernel
theorem dd_Model_checkEnd_55 : decode prog_14_method_78_code 55 = .ok (.iconst 0, 1) := by decide +kernel
theorem dd_Model_checkEnd_56 : decode prog_14_method_78_code 56 = .ok (.putfield 398, 3) := by decide +kernel
theorem dd_Model_checkEnd_59 : decode prog_14_method_78_code 59 = .ok (.iconst 0, 1) := by decide +kernel
theorem dd_Model_checkEnd_60 : decode prog_14_method_78_code 60 = .ok (.istore 4, 2) := by decide +kernel
theorem dd_Model_checkEnd_62 : decode prog_14_method_78_code 62 = .ok (.iload 4, 2) := by decide +kernel
theorem dd_Model_checkEnd_64 : decode prog_14_method_78_code 64 = .ok (.aload_n 0, 1) := by decide +kernel
theorem dd_Model_checkEnd_65 : decode prog_14_method_78_code 65 = .ok (.lload_n 2, 1) := by decide +kernel
theorem dd_Model_checkEnd_66 : decode prog_14_method_78_code 66 = .ok (.iconst 0, 1) := by decide +kernel
theorem dd_Model_checkEnd_67 : decode prog_14_method_78_code 67 = .ok (.invokevirtual 496, 3) := by decide +kernel
theorem dd_Model_checkEnd_70 : decode prog_14_method_78_code 70 = .ok (.if_icmp .ge 48, 3) := by decide +kernel
theorem dd_Model_checkEnd_73 : decode prog_14_method_78_code 73 = .ok (.aload_n 0, 1) := by decide +kernel
theorem dd_Model_checkEnd_74 : decode prog_14_method_78_code 74 = .ok (.getfield 398, 3) := by decide +kernel
theorem dd_Model_checkEnd_77 : decode prog_14_method_78_code 77 = .ok (.ifCond .ne 41, 3) := by decide +kernel
theorem dd_Model_checkEnd_80 : decode prog_14_method_78_code 80 = .ok (.aload_n 0, 1) := by decide +kernel
theorem dd_Model_checkEnd_81 : decode prog_14_method_78_code 81 = .ok (.aload_n 0, 1) := by decide +kernel
theorem dd_Model_checkEnd_82 : decode prog_14_method_78_code 82 = .ok (.aload_n 0, 1) := by decide +kernel
theorem dd_Model_checkEnd_83 : decode prog_14_method_78_code 83 = .ok (.lload_n 2, 1) := by decide +kernel
theorem dd_Model_checkEnd_84 : decode prog_14_method_78_code 84 = .ok (.iconst 0, 1) := by decide +kernel
theorem dd_Model_checkEnd_85 : decode prog_14_method_78_code 85 = .ok (.iload 4, 2) := by decide +kernel
theorem dd_Model_checkEnd_87 : decode prog_14_method_78_code 87 = .ok (.invokevirtual 500, 3) := by decide +kernel
theorem dd_Model_checkEnd_90 : decode prog_14_method_78_code 90 = .ok (.aload_n 0, 1) := by decide +kernel
theorem dd_Model_checkEnd_91 : decode prog_14_method_78_code 91 = .ok (.lload_n 2, 1) := by decide +kernel
theorem dd_Model_checkEnd_92 : decode prog_14_method_78_code 92 = .ok (.iconst 1, 1) := by decide +kernel
theorem dd_Model_checkEnd_93 : decode prog_14_method_78_code 93 = .ok (.iload 4, 2) := by decide +kernel
theorem dd_Model_checkEnd_95 : decode prog_14_method_78_code 95 = .ok (.invokevirtual 500, 3) := by decide +kernel
theorem dd_Model_checkEnd_98 : decode prog_14_method_78_code 98 = .ok (.invokevirtual 551, 3) := by decide +kernel
theorem dd_Model_checkEnd_101 : decode prog_14_method_78_code 101 = .ok (.ifCond .ne 7, 3) := by decide +kernel
theorem dd_Model_checkEnd_104 : decode prog_14_method_78_code 104 = .ok (.iconst 1, 1) := by decide +kernel
theorem dd_Model_checkEnd_105 : decode prog_14_method_78_code 105 = .ok (.goto 4, 3) := by decide +kernel
theorem dd_Model_checkEnd_108 : decode prog_14_method_78_code 108 = .ok (.iconst 0, 1) := by decide +kernel
theorem dd_Model_checkEnd_109 : decode prog_14_method_78_code 109 = .ok (.putfield 398, 3) := by decide +kernel
theorem dd_Model_checkEnd_112 : decode prog_14_method_78_code 112 = .ok (.iinc 4 1, 3) := by decide +kernel
theorem dd_Model_checkEnd_115 : decode prog_14_method_78_code 115 = .ok (.goto (-53), 3) := by decide +kernel
theorem dd_Model_checkEnd_118 : decode prog_14_method_78_code 118 = .ok (.aload_n 0, 1) := by decide +kernel
theorem dd_Model_checkEnd_119 : decode prog_14_method_78_code 119 = .ok (.getfield 76, 3) := by decide +kernel
theorem dd_Model_checkEnd_122 : decode prog_14_method_78_code 122 = .ok (.aload_n 0, 1) := by decide +kernel
theorem dd_Model_checkEnd_123 : decode prog_14_method_78_code 123 = .ok (.getfield 85, 3) := by decide +kernel
theorem dd_Model_checkEnd_126 : decode prog_14_method_78_code 126 = .ok (.iload_n 1, 1) := by decide +kernel
theorem dd_Model_checkEnd_127 : decode prog_14_method_78_code 127 = .ok (.iaload, 1) := by decide +kernel
theorem dd_Model_checkEnd_128 : decode prog_14_method_78_code 128 = .ok (.aload_n 0, 1) := by decide +kernel
theorem dd_Model_checkEnd_129 : decode prog_14_method_78_code 129 = .ok (.getfield 168, 3) := by decide +kernel
theorem dd_Model_checkEnd_132 : decode prog_14_method_78_code 132 = .ok (.iastore, 1) := by decide +kernel
theorem dd_Model_checkEnd_133 : decode prog_14_method_78_code 133 = .ok (.aload_n 0, 1) := by decide +kernel
theorem dd_Model_checkEnd_134 : decode prog_14_method_78_code 134 = .ok (.dup, 1) := by decide +kernel
theorem dd_Model_checkEnd_135 : decode prog_14_method_78_code 135 = .ok (.getfield 490, 3) := by decide +kernel
theorem dd_Model_checkEnd_138 : decode prog_14_method_78_code 138 = .ok (.iconst 1, 1) := by decide +kernel
theorem dd_Model_checkEnd_139 : decode prog_14_method_78_code 139 = .ok (.isub, 1) := by decide +kernel
theorem dd_Model_checkEnd_140 : decode prog_14_method_78_code 140 = .ok (.putfield 490, 3) := by decide +kernel
theorem dd_Model_checkEnd_143 : decode prog_14_method_78_code 143 = .ok (.aload_n 0, 1) := by decide +kernel
theorem dd_Model_checkEnd_144 : decode prog_14_method_78_code 144 = .ok (.getfield 490, 3) := by decide +kernel
theorem dd_Model_checkEnd_147 : decode prog_14_method_78_code 147 = .ok (.ifCond .le 9, 3) := by decide +kernel
theorem dd_Model_checkEnd_150 : decode prog_14_method_78_code 150 = .ok (.aload_n 0, 1) := by decide +kernel
theorem dd_Model_checkEnd_151 : decode prog_14_method_78_code 151 = .ok (.lload_n 2, 1) := by decide +kernel
theorem dd_Model_checkEnd_152 : decode prog_14_method_78_code 152 = .ok (.iconst 1, 1) := by decide +kernel
theorem dd_Model_checkEnd_153 : decode prog_14_method_78_code 153 = .ok (.invokevirtual 520, 3) := by decide +kernel
theorem dd_Model_checkEnd_156 : decode prog_14_method_78_code 156 = .ok (.return_, 1) := by decide +kernel
theorem dd_Model_checkWay_0 : decode prog_14_method_79_code 0 = .ok (.aload_n 0, 1) := by decide +kernel
theorem dd_Model_checkWay_1 : decode prog_14_method_79_code 1 = .ok (.lload_n 1, 1) := by decide +kernel
theorem dd_Model_checkWay_2 : decode prog_14_method_79_code 2 = .ok (.invokevirtual 554, 3) := by decide +kernel
theorem dd_Model_checkWay_5 : decode prog_14_method_79_code 5 = .ok (.istore 4, 2) := by decide +kernel
theorem dd_Model_checkWay_7 : decode prog_14_method_79_code 7 = .ok (.iload 4, 2) := by decide +kernel
theorem dd_Model_checkWay_9 : decode prog_14_method_79_code 9 = .ok (.ifCond .ge 4, 3) := by decide +kernel
theorem dd_Model_checkWay_12 : decode prog_14_method_79_code 12 = .ok (.return_, 1) := by decide +kernel
theorem dd_Model_checkWay_13 : decode prog_14_method_79_code 13 = .ok (.aload_n 0, 1) := by decide +kernel
theorem dd_Model_checkWay_14 : decode prog_14_method_79_code 14 = .ok (.iload 4, 2) := by decide +kernel
theorem dd_Model_checkWay_16 : decode prog_14_method_79_code 16 = .ok (.invokevirtual 513, 3) := by decide +kernel
theorem dd_Model_checkWay_19 : decode prog_14_method_79_code 19 = .ok (.istore 5, 2) := by decide +kernel
theorem dd_Model_checkWay_21 : decode prog_14_method_79_code 21 = .ok (.aload_n 0, 1) := by decide +kernel
theorem dd_Model_checkWay_22 : decode prog_14_method_79_code 22 = .ok (.aload_n 0, 1) := by decide +kernel
theorem dd_Model_checkWay_23 : decode prog_14_method_79_code 23 = .ok (.getfield 398, 3) := by decide +kernel
theorem dd_Model_checkWay_26 : decode prog_14_method_79_code 26 = .ok (.ifCond .ne 20, 3) := by decide +kernel
theorem dd_Model_checkWay_29 : decode prog_14_method_79_code 29 = .ok (.aload_n 0, 1) := by decide +kernel
theorem dd_Model_checkWay_30 : decode prog_14_method_79_code 30 = .ok (.aload_n 0, 1) := by decide +kernel
theorem dd_Model_checkWay_31 : decode prog_14_method_79_code 31 = .ok (.getfield 91, 3) := by decide +kernel
theorem dd_Model_checkWay_34 : decode prog_14_method_79_code 34 = .ok (.iload 4, 2) := by decide +kernel
theorem dd_Model_checkWay_36 : decode prog_14_method_79_code 36 = .ok (.laload, 1) := by decide +kernel
theorem dd_Model_checkWay_37 : decode prog_14_method_79_code 37 = .ok (.iload 5, 2) := by decide +kernel
theorem dd_Model_checkWay_39 : decode prog_14_method_79_code 39 = .ok (.invokevirtual 496, 3) := by decide +kernel
theorem dd_Model_checkWay_42 : decode prog_14_method_79_code 42 = .ok (.iload_n 3, 1) := by decide +kernel
theorem dd_Model_checkWay_43 : decode prog_14_method_79_code 43 = .ok (.if_icmp .eq 7, 3) := by decide +kernel
theorem dd_Model_checkWay_46 : decode prog_14_method_79_code 46 = .ok (.iconst 1, 1) := by decide +kernel
theorem dd_Model_checkWay_47 : decode prog_14_method_79_code 47 = .ok (.goto 4, 3) := by decide +kernel
theorem dd_Model_checkWay_50 : decode prog_14_method_79_code 50 = .ok (.iconst 0, 1) := by decide +kernel
theorem dd_Model_checkWay_51 : decode prog_14_method_79_code 51 = .ok (.putfield 398, 3) := by decide +kernel
theorem dd_Model_checkWay_54 : decode prog_14_method_79_code 54 = .ok (.iconst 0, 1) := by decide +kernel
theorem dd_Model_checkWay_55 : decode prog_14_method_79_code 55 = .ok (.istore 6, 2) := by decide +kernel
theorem dd_Model_checkWay_57 : decode prog_14_method_79_code 57 = .ok (.iload 6, 2) := by decide +kernel
theorem dd_Model_checkWay_59 : decode prog_14_method_79_code 59 = .ok (.iload_n 3, 1) := by decide +kernel
theorem dd_Model_checkWay_60 : decode prog_14_method_79_code 60 = .ok (.if_icmp .ge 115, 3) := by decide +kernel
theorem dd_Model_checkWay_63 : decode prog_14_method_79_code 63 = .ok (.aload_n 0, 1) := by decide +kernel
theorem dd_Model_checkWay_64 : decode prog_14_method_79_code 64 = .ok (.getfield 398, 3) := by decide +kernel
theorem dd_Model_checkWay_67 : decode prog_14_method_79_code 67 = .ok (.ifCond .ne 108, 3) := by decide +kernel
theorem dd_Model_checkWay_70 : decode prog_14_method_79_code 70 = .ok (.aload_n 0, 1) := by decide +kernel
theorem dd_Model_checkWay_71 : decode prog_14_method_79_code 71 = .ok (.getfield 487, 3) := by decide +kernel
theorem dd_Model_checkWay_74 : decode prog_14_method_79_code 74 = .ok (.iload_n 3, 1) := by decide +kernel
theorem dd_Model_checkWay_75 : decode prog_14_method_79_code 75 = .ok (.isub, 1) := by decide +kernel
theorem dd_Model_checkWay_76 : decode prog_14_method_79_code 76 = .ok (.iload 6, 2) := by decide +kernel
theorem dd_Model_checkWay_78 : decode prog_14_method_79_code 78 = .ok (.iadd, 1) := by decide +kernel
theorem dd_Model_checkWay_79 : decode prog_14_method_79_code 79 = .ok (.istore 7, 2) := by decide +kernel
theorem dd_Model_checkWay_81 : decode prog_14_method_79_code 81 = .ok (.iload 7, 2) := by decide +kernel
theorem dd_Model_checkWay_83 : decode prog_14_method_79_code 83 = .ok (.aload_n 0, 1) := by decide +kernel
theorem dd_Model_checkWay_84 : decode prog_14_method_79_code 84 = .ok (.getfield 94, 3) := by decide +kernel
theorem dd_Model_checkWay_87 : decode prog_14_method_79_code 87 = .ok (.aload_n 0, 1) := by decide +kernel
theorem dd_Model_checkWay_88 : decode prog_14_method_79_code 88 = .ok (.getfield 490, 3) := by decide +kernel
theorem dd_Model_checkWay_91 : decode prog_14_method_79_code 91 = .ok (.iconst 1, 1) := by decide +kernel
theorem dd_Model_checkWay_92 : decode prog_14_method_79_code 92 = .ok (.isub, 1) := by decide +kernel
theorem dd_Model_checkWay_93 : decode prog_14_method_79_code 93 = .ok (.iaload, 1) := by decide +kernel
theorem dd_Model_checkWay_94 : decode prog_14_method_79_code 94 = .ok (.if_icmp .lt 7, 3) := by decide +kernel
theorem dd_Model_checkWay_97 : decode prog_14_method_79_code 97 = .ok (.iconst 1, 1) := by decide +kernel
theorem dd_Model_checkWay_98 : decode prog_14_method_79_code 98 = .ok (.goto 4, 3) := by decide +kernel
theorem dd_Model_checkWay_101 : decode prog_14_method_79_code 101 = .ok (.iconst 0, 1) := by decide +kernel
theorem dd_Model_checkWay_102 : decode prog_14_method_79_code 102 = .ok (.istore 8, 2) := by decide +kernel
theorem dd_Model_checkWay_104 : decode prog_14_method_79_code 104 = .ok (.aload_n 0, 1) := by decide +kernel
theorem dd_Model_checkWay_105 : decode prog_14_method_79_code 105 = .ok (.iload 8, 2) := by decide +kernel
theorem dd_Model_checkWay_107 : decode prog_14_method_79_code 107 = .ok (.ifCond .eq 40, 3) := by decide +kernel
theorem dd_Model_checkWay_110 : decode prog_14_method_79_code 110 = .ok (.aload_n 0, 1) := by decide +kernel
theorem dd_Model_checkWay_111 : decode prog_14_method_79_code 111 = .ok (.aload_n 0, 1) := by decide +kernel
theorem dd_Model_checkWay_112 : decode prog_14_method_79_code 112 = .ok (.getfield 82, 3) := by decide +kernel
theorem dd_Model_checkWay_115 : decode prog_14_method_79_code 115 = .ok (.iload 7, 2) := by decide +kernel
theorem dd_Model_checkWay_117 : decode prog_14_method_79_code 117 = .ok (.iaload, 1) := by decide +kernel
theorem dd_Model_checkWay_118 : decode prog_14_method_79_code 118 = .ok (.aload_n 0, 1) := by decide +kernel
theorem dd_Model_checkWay_119 : decode prog_14_method_79_code 119 = .ok (.aload_n 0, 1) := by decide +kernel
theorem dd_Model_checkWay_120 : decode prog_14_method_79_code 120 = .ok (.getfield 91, 3) := by decide +kernel
theorem dd_Model_checkWay_123 : decode prog_14_method_79_code 123 = .ok (.iload 4, 2) := by decide +kernel
theorem dd_Model_checkWay_125 : decode prog_14_method_79_code 125 = .ok (.laload, 1) := by decide +kernel
theorem dd_Model_checkWay_126 : decode prog_14_method_79_code 126 = .ok (.iload 5, 2) := by decide +kernel
theorem dd_Model_checkWay_128 : decode prog_14_method_79_code 128 = .ok (.iload 6, 2) := by decide +kernel
theorem dd_Model_checkWay_130 : decode prog_14_method_79_code 130 = .ok (.invokevirtual 500, 3) := by decide +kernel
theorem dd_Model_checkWay_133 : decode prog_14_method_79_code 133 = .ok (.invokevirtual 469, 3) := by decide +kernel
theorem dd_Model_checkWay_136 : decode prog_14_method_79_code 136 = .ok (.ifCond .ne 7, 3) := by decide +kernel
theorem dd_Model_checkWay_139 : decode prog_14_method_79_code 139 = .ok (.iconst 1, 1) := by decide +kernel
theorem dd_Model_checkWay_140 : decode prog_14_method_79_code 140 = .ok (.goto 26, 3) := by decide +kernel
theorem dd_Model_checkWay_143 : decode prog_14_method_79_code 143 = .ok (.iconst 0, 1) := by decide +kernel
theorem dd_Model_checkWay_144 : decode prog_14_method_79_code 144 = .ok (.goto 22, 3) := by decide +kernel
theorem dd_Model_checkWay_147 : decode prog_14_method_79_code 147 = .ok (.aload_n 0, 1) := by decide +kernel
theorem dd_Model_checkWay_148 : decode prog_14_method_79_code 148 = .ok (.getfield 97, 3) := by decide +kernel
theorem dd_Model_checkWay_151 : decode prog_14_method_79_code 151 = .ok (.aload_n 0, 1) := by decide +kernel
theorem dd_Model_checkWay_152 : decode prog_14_method_79_code 152 = .ok (.getfield 490, 3) := by decide +kernel
theorem dd_Model_checkWay_155 : decode prog_14_method_79_code 155 = .ok (.iconst 1, 1) := by decide +kernel
theorem dd_Model_checkWay_156 : decode prog_14_method_79_code 156 = .ok (.isub, 1) := by decide +kernel
theorem dd_Model_checkWay_157 : decode prog_14_method_79_code 157 = .ok (.baload, 1) := by decide +kernel
theorem dd_Model_checkWay_158 : decode prog_14_method_79_code 158 = .ok (.ifCond .ne 7, 3) := by decide +kernel
theorem dd_Model_checkWay_161 : decode prog_14_method_79_code 161 = .ok (.iconst 1, 1) := by decide +kernel
theorem dd_Model_checkWay_162 : decode prog_14_method_79_code 162 = .ok (.goto 4, 3) := by decide +kernel
theorem dd_Model_checkWay_165 : decode prog_14_method_79_code 165 = .ok (.iconst 0, 1) := by decide +kernel
theorem dd_Model_checkWay_166 : decode prog_14_method_79_code 166 = .ok (.putfield 398, 3) := by decide +kernel
theorem dd_Model_checkWay_169 : decode prog_14_method_79_code 169 = .ok (.iinc 6 1, 3) := by decide +kernel
theorem dd_Model_checkWay_172 : decode prog_14_method_79_code 172 = .ok (.goto (-115), 3) := by decide +kernel
theorem dd_Model_checkWay_175 : decode prog_14_method_79_code 175 = .ok (.return_, 1) := by decide +kernel
theorem dd_Model_checkTable_0 : decode prog_14_method_80_code 0 = .ok (.aload_n 0, 1) := by decide +kernel
theorem dd_Model_checkTable_1 : decode prog_14_method_80_code 1 = .ok (.iconst 1, 1) := by decide +kernel
theorem dd_Model_checkTable_2 : decode prog_14_method_80_code 2 = .ok (.invokevirtual 504, 3) := by decide +kernel
theorem dd_Model_checkTable_5 : decode prog_14_method_80_code 5 = .ok (.aload_n 0, 1) := by decide +kernel
theorem dd_Model_checkTable_6 : decode prog_14_method_80_code 6 = .ok (.getfield 273, 3) := by decide +kernel
theorem dd_Model_checkTable_9 : decode prog_14_method_80_code 9 = .ok (.lstore_n 1, 1) := by decide +kernel
theorem dd_Model_checkTable_10 : decode prog_14_method_80_code 10 = .ok (.aload_n 0, 1) := by decide +kernel
theorem dd_Model_checkTable_11 : decode prog_14_method_80_code 11 = .ok (.lload_n 1, 1) := by decide +kernel
theorem dd_Model_checkTable_12 : decode prog_14_method_80_code 12 = .ok (.invokevirtual 554, 3) := by decide +kernel
theorem dd_Model_checkTable_15 : decode prog_14_method_80_code 15 = .ok (.istore_n 3, 1) := by decide +kernel
theorem dd_Model_checkTable_16 : decode prog_14_method_80_code 16 = .ok (.iload_n 3, 1) := by decide +kernel
theorem dd_Model_checkTable_17 : decode prog_14_method_80_code 17 = .ok (.ifCond .ge 4, 3) := by decide +kernel
theorem dd_Model_checkTable_20 : decode prog_14_method_80_code 20 = .ok (.return_, 1) := by decide +kernel
theorem dd_Model_checkTable_21 : decode prog_14_method_80_code 21 = .ok (.aload_n 0, 1) := by decide +kernel
theorem dd_Model_checkTable_22 : decode prog_14_method_80_code 22 = .ok (.aload_n 0, 1) := by decide +kernel
theorem dd_Model_checkTable_23 : decode prog_14_method_80_code 23 = .ok (.getfield 91, 3) := by decide +kernel
theorem dd_Model_checkTable_26 : decode prog_14_method_80_code 26 = .ok (.iload_n 3, 1) := by decide +kernel
theorem dd_Model_checkTable_27 : decode prog_14_method_80_code 27 = .ok (.laload, 1) := by decide +kernel
theorem dd_Model_checkTable_28 : decode prog_14_method_80_code 28 = .ok (.aload_n 0, 1) := by decide +kernel
theorem dd_Model_checkTable_29 : decode prog_14_method_80_code 29 = .ok (.iload_n 3, 1) := by decide +kernel
theorem dd_Model_checkTable_30 : decode prog_14_method_80_code 30 = .ok (.invokevirtual 513, 3) := by decide +kernel
theorem dd_Model_checkTable_33 : decode prog_14_method_80_code 33 = .ok (.invokevirtual 496, 3) := by decide +kernel
theorem dd_Model_checkTable_36 : decode prog_14_method_80_code 36 = .ok (.istore 4, 2) := by decide +kernel
theorem dd_Model_checkTable_38 : decode prog_14_method_80_code 38 = .ok (.aload_n 0, 1) := by decide +kernel
theorem dd_Model_checkTable_39 : decode prog_14_method_80_code 39 = .ok (.getfield 168, 3) := by decide +kernel
theorem dd_Model_checkTable_42 : decode prog_14_method_80_code 42 = .ok (.istore 5, 2) := by decide +kernel
theorem dd_Model_checkTable_44 : decode prog_14_method_80_code 44 = .ok (.aload_n 0, 1) := by decide +kernel
theorem dd_Model_checkTable_45 : decode prog_14_method_80_code 45 = .ok (.aload_n 0, 1) := by decide +kernel
theorem dd_Model_checkTable_46 : decode prog_14_method_80_code 46 = .ok (.getfield 317, 3) := by decide +kernel
theorem dd_Model_checkTable_49 : decode prog_14_method_80_code 49 = .ok (.putfield 168, 3) := by decide +kernel
theorem dd_Model_checkTable_52 : decode prog_14_method_80_code 52 = .ok (.iconst 0, 1) := by decide +kernel
theorem dd_Model_checkTable_53 : decode prog_14_method_80_code 53 = .ok (.istore 6, 2) := by decide +kernel
theorem dd_Model_checkTable_55 : decode prog_14_method_80_code 55 = .ok (.iload 6, 2) := by decide +kernel
theorem dd_Model_checkTable_57 : decode prog_14_method_80_code 57 = .ok (.aload_n 0, 1) := by decide +kernel
theorem dd_Model_checkTable_58 : decode prog_14_method_80_code 58 = .ok (.getfield 322, 3) := by decide +kernel
theorem dd_Model_checkTable_61 : decode prog_14_method_80_code 61 = .ok (.if_icmp .ge 26, 3) := by decide +kernel
theorem dd_Model_checkTable_64 : decode prog_14_method_80_code 64 = .ok (.aload_n 0, 1) := by decide +kernel
theorem dd_Model_checkTable_65 : decode prog_14_method_80_code 65 = .ok (.getfield 398, 3) := by decide +kernel
theorem dd_Model_checkTable_68 : decode prog_14_method_80_code 68 = .ok (.ifCond .ne 19, 3) := by decide +kernel
theorem dd_Model_checkTable_71 : decode prog_14_method_80_code 71 = .ok (.aload_n 0, 1) := by decide +kernel
theorem dd_Model_checkTable_72 : decode prog_14_method_80_code 72 = .ok (.aload_n 0, 1) := by decide +kernel
theorem dd_Model_checkTable_73 : decode prog_14_method_80_code 73 = .ok (.invokevirtual 295, 3) := by decide +kernel
theorem dd_Model_checkTable_76 : decode prog_14_method_80_code 76 = .ok (.iload 4, 2) := by decide +kernel
theorem dd_Model_checkTable_78 : decode prog_14_method_80_code 78 = .ok (.invokevirtual 558, 3) := by decide +kernel
theorem dd_Model_checkTable_81 : decode prog_14_method_80_code 81 = .ok (.iinc 6 1, 3) := by decide +kernel
theorem dd_Model_checkTable_84 : decode prog_14_method_80_code 84 = .ok (.goto (-29), 3) := by decide +kernel
theorem dd_Model_checkTable_87 : decode prog_14_method_80_code 87 = .ok (.aload_n 0, 1) := by decide +kernel
theorem dd_Model_checkTable_88 : decode prog_14_method_80_code 88 = .ok (.iload 5, 2) := by decide +kernel
theorem dd_Model_checkTable_90 : decode prog_14_method_80_code 90 = .ok (.putfield 168, 3) := by decide +kernel
theorem dd_Model_checkTable_93 : decode prog_14_method_80_code 93 = .ok (.aload_n 0, 1) := by decide +kernel
theorem dd_Model_checkTable_94 : decode prog_14_method_80_code 94 = .ok (.lload_n 1, 1) := by decide +kernel
theorem dd_Model_checkTable_95 : decode prog_14_method_80_code 95 = .ok (.iload 4, 2) := by decide +kernel
theorem dd_Model_checkTable_97 : decode prog_14_method_80_code 97 = .ok (.invokevirtual 558, 3) := by decide +kernel
theorem dd_Model_checkTable_100 : decode prog_14_method_80_code 100 = .ok (.aload_n 0, 1) := by decide +kernel
theorem dd_Model_checkTable_101 : decode prog_14_method_80_code 101 = .ok (.iload_n 3, 1) := by decide +kernel
theorem dd_Model_checkTable_102 : decode prog_14_method_80_code 102 = .ok (.invokevirtual 562, 3) := by decide +kernel
theorem dd_Model_checkTable_105 : decode prog_14_method_80_code 105 = .ok (.aload_n 0, 1) := by decide +kernel
theorem dd_Model_checkTable_106 : decode prog_14_method_80_code 106 = .ok (.invokevirtual 565, 3) := by decide +kernel
theorem dd_Model_checkTable_109 : decode prog_14_method_80_code 109 = .ok (.return_, 1) := by decide +kernel
theorem dd_Model_checkCall_0 : decode prog_14_method_82_code 0 = .ok (.aload_n 0, 1) := by decide +kernel
theorem dd_Model_checkCall_1 : decode prog_14_method_82_code 1 = .ok (.aload_n 0, 1) := by decide +kernel
theorem dd_Model_checkCall_2 : decode prog_14_method_82_code 2 = .ok (.getfield 267, 3) := by decide +kernel
theorem dd_Model_checkCall_5 : decode prog_14_method_82_code 5 = .ok (.bipush 16, 2) := by decide +kernel
theorem dd_Model_checkCall_7 : decode prog_14_method_82_code 7 = .ok (.if_icmp .ne 24, 3) := by decide +kernel
theorem dd_Model_checkCall_10 : decode prog_14_method_82_code 10 = .ok (.aload_n 0, 1) := by decide +kernel
theorem dd_Model_checkCall_11 : decode prog_14_method_82_code 11 = .ok (.getfield 273, 3) := by decide +kernel
theorem dd_Model_checkCall_14 : decode prog_14_method_82_code 14 = .ok (.aload_n 0, 1) := by decide +kernel
theorem dd_Model_checkCall_15 : decode prog_14_method_82_code 15 = .ok (.getfield 423, 3) := by decide +kernel
theorem dd_Model_checkCall_18 : decode prog_14_method_82_code 18 = .ok (.i2l, 1) := by decide +kernel
theorem dd_Model_checkCall_19 : decode prog_14_method_82_code 19 = .ok (.lcmp, 1) := by decide +kernel
theorem dd_Model_checkCall_20 : decode prog_14_method_82_code 20 = .ok (.ifCond .lt 7, 3) := by decide +kernel
theorem dd_Model_checkCall_23 : decode prog_14_method_82_code 23 = .ok (.iconst 1, 1) := by decide +kernel
theorem dd_Model_checkCall_24 : decode prog_14_method_82_code 24 = .ok (.goto 39, 3) := by decide +kernel
theorem dd_Model_checkCall_27 : decode prog_14_method_82_code 27 = .ok (.iconst 0, 1) := by decide +kernel
theorem dd_Model_checkCall_28 : decode prog_14_method_82_code 28 = .ok (.goto 35, 3) := by decide +kernel
theorem dd_Model_checkCall_31 : decode prog_14_method_82_code 31 = .ok (.aload_n 0, 1) := by decide +kernel
theorem dd_Model_checkCall_32 : decode prog_14_method_82_code 32 = .ok (.getfield 451, 3) := by decide +kernel
theorem dd_Model_checkCall_35 : decode prog_14_method_82_code 35 = .ok (.ifCond .eq 23, 3) := by decide +kernel
theorem dd_Model_checkCall_38 : decode prog_14_method_82_code 38 = .ok (.aload_n 0, 1) := by decide +kernel
theorem dd_Model_checkCall_39 : decode prog_14_method_82_code 39 = .ok (.getfield 277, 3) := by decide +kernel
theorem dd_Model_checkCall_42 : decode prog_14_method_82_code 42 = .ok (.lconst 0, 1) := by decide +kernel
theorem dd_Model_checkCall_43 : decode prog_14_method_82_code 43 = .ok (.lcmp, 1) := by decide +kernel
theorem dd_Model_checkCall_44 : decode prog_14_method_82_code 44 = .ok (.ifCond .ne 14, 3) := by decide +kernel
theorem dd_Model_checkCall_47 : decode prog_14_method_82_code 47 = .ok (.aload_n 0, 1) := by decide +kernel
theorem dd_Model_checkCall_48 : decode prog_14_method_82_code 48 = .ok (.aload_n 0, 1) := by decide +kernel
theorem dd_Model_checkCall_49 : decode prog_14_method_82_code 49 = .ok (.getfield 273, 3) := by decide +kernel
theorem dd_Model_checkCall_52 : decode prog_14_method_82_code 52 = .ok (.invokevirtual 426, 3) := by decide +kernel
theorem dd_Model_checkCall_55 : decode prog_14_method_82_code 55 = .ok (.ifCond .ne 7, 3) := by decide +kernel
theorem dd_Model_checkCall_58 : decode prog_14_method_82_code 58 = .ok (.iconst 1, 1) := by decide +kernel
theorem dd_Model_checkCall_59 : decode prog_14_method_82_code 59 = .ok (.goto 4, 3) := by decide +kernel
theorem dd_Model_checkCall_62 : decode prog_14_method_82_code 62 = .ok (.iconst 0, 1) := by decide +kernel
theorem dd_Model_checkCall_63 : decode prog_14_method_82_code 63 = .ok (.putfield 398, 3) := by decide +kernel
theorem dd_Model_checkCall_66 : decode prog_14_method_82_code 66 = .ok (.aload_n 0, 1) := by decide +kernel
theorem dd_Model_checkCall_67 : decode prog_14_method_82_code 67 = .ok (.getfield 398, 3) := by decide +kernel
theorem dd_Model_checkCall_70 : decode prog_14_method_82_code 70 = .ok (.ifCond .eq 4, 3) := by decide +kernel
theorem dd_Model_checkCall_73 : decode prog_14_method_82_code 73 = .ok (.return_, 1) := by decide +kernel
theorem dd_Model_checkCall_74 : decode prog_14_method_82_code 74 = .ok (.aload_n 0, 1) := by decide +kernel
theorem dd_Model_checkCall_75 : decode prog_14_method_82_code 75 = .ok (.getfield 267, 3) := by decide +kernel
theorem dd_Model_checkCall_78 : decode prog_14_method_82_code 78 = .ok (.bipush 17, 2) := by decide +kernel
theorem dd_Model_checkCall_80 : decode prog_14_method_82_code 80 = .ok (.if_icmp .ne 8, 3) := by decide +kernel
theorem dd_Model_checkCall_83 : decode prog_14_method_82_code 83 = .ok (.aload_n 0, 1) := by decide +kernel
theorem dd_Model_checkCall_84 : decode prog_14_method_82_code 84 = .ok (.iconst 1, 1) := by decide +kernel
theorem dd_Model_checkCall_85 : decode prog_14_method_82_code 85 = .ok (.invokevirtual 504, 3) := by decide +kernel
theorem dd_Model_checkCall_88 : decode prog_14_method_82_code 88 = .ok (.aload_n 0, 1) := by decide +kernel
theorem dd_Model_checkCall_89 : decode prog_14_method_82_code 89 = .ok (.getfield 267, 3) := by decide +kernel
theorem dd_Model_checkCall_92 : decode prog_14_method_82_code 92 = .ok (.bipush 16, 2) := by decide +kernel
theorem dd_Model_checkCall_94 : decode prog_14_method_82_code 94 = .ok (.if_icmp .ne 16, 3) := by decide +kernel
theorem dd_Model_checkCall_97 : decode prog_14_method_82_code 97 = .ok (.aload_n 0, 1) := by decide +kernel
theorem dd_Model_checkCall_98 : decode prog_14_method_82_code 98 = .ok (.getfield 42, 3) := by decide +kernel
theorem dd_Model_checkCall_101 : decode prog_14_method_82_code 101 = .ok (.aload_n 0, 1) := by decide +kernel
theorem dd_Model_checkCall_102 : decode prog_14_method_82_code 102 = .ok (.getfield 273, 3) := by decide +kernel
theorem dd_Model_checkCall_105 : decode prog_14_method_82_code 105 = .ok (.l2i, 1) := by decide +kernel
theorem dd_Model_checkCall_106 : decode prog_14_method_82_code 106 = .ok (.iaload, 1) := by decide +kernel
theorem dd_Model_checkCall_107 : decode prog_14_method_82_code 107 = .ok (.goto 8, 3) := by decide +kernel
theorem dd_Model_checkCall_110 : decode prog_14_method_82_code 110 = .ok (.aload_n 0, 1) := by decide +kernel
theorem dd_Model_checkCall_111 : decode prog_14_method_82_code 111 = .ok (.getfield 273, 3) := by decide +kernel
theorem dd_Model_checkCall_114 : decode prog_14_method_82_code 114 = .ok (.l2i, 1) := by decide +kernel
theorem dd_Model_checkCall_115 : decode prog_14_method_82_code 115 = .ok (.istore_n 1, 1) := by decide +kernel
theorem dd_Model_checkCall_116 : decode prog_14_method_82_code 116 = .ok (.aload_n 0, 1) := by decide +kernel
theorem dd_Model_checkCall_117 : decode prog_14_method_82_code 117 = .ok (.iload_n 1, 1) := by decide +kernel
theorem dd_Model_checkCall_118 : decode prog_14_method_82_code 118 = .ok (.i2l, 1) := by decide +kernel
theorem dd_Model_checkCall_119 : decode prog_14_method_82_code 119 = .ok (.iconst 0, 1) := by decide +kernel
theorem dd_Model_checkCall_120 : decode prog_14_method_82_code 120 = .ok (.invokevirtual 516, 3) := by decide +kernel
theorem dd_Model_checkCall_123 : decode prog_14_method_82_code 123 = .ok (.aload_n 0, 1) := by decide +kernel
theorem dd_Model_checkCall_124 : decode prog_14_method_82_code 124 = .ok (.iload_n 1, 1) := by decide +kernel
theorem dd_Model_checkCall_125 : decode prog_14_method_82_code 125 = .ok (.i2l, 1) := by decide +kernel
theorem dd_Model_checkCall_126 : decode prog_14_method_82_code 126 = .ok (.iconst 1, 1) := by decide +kernel
theorem dd_Model_checkCall_127 : decode prog_14_method_82_code 127 = .ok (.invokevirtual 520, 3) := by decide +kernel
theorem dd_Model_checkCall_130 : decode prog_14_method_82_code 130 = .ok (.return_, 1) := by decide +kernel
theorem dd_Model_checkChoice_0 : decode prog_14_method_83_code 0 = .ok (.aload_n 0, 1) := by decide +kernel
theorem dd_Model_checkChoice_1 : decode prog_14_method_83_code 1 = .ok (.iconst 1, 1) := by decide +kernel
theorem dd_Model_checkChoice_2 : decode prog_14_method_83_code 2 = .ok (.invokevirtual 504, 3) := by decide +kernel
theorem dd_Model_checkChoice_5 : decode prog_14_method_83_code 5 = .ok (.aload_n 0, 1) := by decide +kernel
theorem dd_Model_checkChoice_6 : decode prog_14_method_83_code 6 = .ok (.invokevirtual 493, 3) := by decide +kernel
theorem dd_Model_checkChoice_9 : decode prog_14_method_83_code 9 = .ok (.istore_n 1, 1) := by decide +kernel
theorem dd_Model_checkChoice_10 : decode prog_14_method_83_code 10 = .ok (.aload_n 0, 1) := by decide +kernel
theorem dd_Model_checkChoice_11 : decode prog_14_method_83_code 11 = .ok (.invokevirtual 493, 3) := by decide +kernel
theorem dd_Model_checkChoice_14 : decode prog_14_method_83_code 14 = .ok (.istore_n 2, 1) := by decide +kernel
theorem dd_Model_checkChoice_15 : decode prog_14_method_83_code 15 = .ok (.aload_n 0, 1) := by decide +kernel
theorem dd_Model_checkChoice_16 : decode prog_14_method_83_code 16 = .ok (.aload_n 0, 1) := by decide +kernel
theorem dd_Model_checkChoice_17 : decode prog_14_method_83_code 17 = .ok (.getfield 398, 3) := by decide +kernel
theorem dd_Model_checkChoice_20 : decode prog_14_method_83_code 20 = .ok (.ifCond .ne 26, 3) := by decide +kernel
theorem dd_Model_checkChoice_23 : decode prog_14_method_83_code 23 = .ok (.iload_n 1, 1) := by decide +kernel
theorem dd_Model_checkChoice_24 : decode prog_14_method_83_code 24 = .ok (.iconst 2, 1) := by decide +kernel
theorem dd_Model_checkChoice_25 : decode prog_14_method_83_code 25 = .ok (.if_icmp .gt 21, 3) := by decide +kernel
theorem dd_Model_checkChoice_28 : decode prog_14_method_83_code 28 = .ok (.iload_n 2, 1) := by decide +kernel
theorem dd_Model_checkChoice_29 : decode prog_14_method_83_code 29 = .ok (.iconst 2, 1) := by decide +kernel
theorem dd_Model_checkChoice_30 : decode prog_14_method_83_code 30 = .ok (.if_icmp .gt 16, 3) := by decide +kernel
theorem dd_Model_checkChoice_33 : decode prog_14_method_83_code 33 = .ok (.iload_n 1, 1) := by decide +kernel
theorem dd_Model_checkChoice_34 : decode prog_14_method_83_code 34 = .ok (.iload_n 2, 1) := by decide +kernel
theorem dd_Model_checkChoice_35 : decode prog_14_method_83_code 35 = .ok (.if_icmp .eq 15, 3) := by decide +kernel
theorem dd_Model_checkChoice_38 : decode prog_14_method_83_code 38 = .ok (.iload_n 1, 1) := by decide +kernel
theorem dd_Model_checkChoice_39 : decode prog_14_method_83_code 39 = .ok (.ifCond .eq 11, 3) := by decide +kernel
theorem dd_Model_checkChoice_42 : decode prog_14_method_83_code 42 = .ok (.iload_n 2, 1) := by decide +kernel
theorem dd_Model_checkChoice_43 : decode prog_14_method_83_code 43 = .ok (.ifCond .eq 7, 3) := by decide +kernel
theorem dd_Model_checkChoice_46 : decode prog_14_method_83_code 46 = .ok (.iconst 1, 1) := by decide +kernel
theorem dd_Model_checkChoice_47 : decode prog_14_method_83_code 47 = .ok (.goto 4, 3) := by decide +kernel
theorem dd_Model_checkChoice_50 : decode prog_14_method_83_code 50 = .ok (.iconst 0, 1) := by decide +kernel
theorem dd_Model_checkChoice_51 : decode prog_14_method_83_code 51 = .ok (.putfield 398, 3) := by decide +kernel
theorem dd_Model_checkChoice_54 : decode prog_14_method_83_code 54 = .ok (.aload_n 0, 1) := by decide +kernel
theorem dd_Model_checkChoice_55 : decode prog_14_method_83_code 55 = .ok (.iload_n 1, 1) := by decide +kernel
theorem dd_Model_checkChoice_56 : decode prog_14_method_83_code 56 = .ok (.ifCond .ne 7, 3) := by decide +kernel
theorem dd_Model_checkChoice_59 : decode prog_14_method_83_code 59 = .ok (.iload_n 2, 1) := by decide +kernel
theorem dd_Model_checkChoice_60 : decode prog_14_method_83_code 60 = .ok (.goto 4, 3) := by decide +kernel
theorem dd_Model_checkChoice_63 : decode prog_14_method_83_code 63 = .ok (.iload_n 1, 1) := by decide +kernel
theorem dd_Model_checkChoice_64 : decode prog_14_method_83_code 64 = .ok (.invokevirtual 507, 3) := by decide +kernel
theorem dd_Model_checkChoice_67 : decode prog_14_method_83_code 67 = .ok (.return_, 1) := by decide +kernel
theorem dd_Model_checkWays_0 : decode prog_14_method_81_code 0 = .ok (.aload_n 0, 1) := by decide +kernel
theorem dd_Model_checkWays_1 : decode prog_14_method_81_code 1 = .ok (.getfield 267, 3) := by decide +kernel
theorem dd_Model_checkWays_4 : decode prog_14_method_81_code 4 = .ok (.tableswitch 256 0 27 #[128, 256, 135, 135, 135, 142, 256, 256, 256, 256, 256, 149, 156, 156, 215, 222, 234, 234, 256, 256, 256, 256, 256, 256, 256, 256, 241, 249], 128) := by decide +kernel
theorem dd_Model_checkWays_132 : decode prog_14_method_81_code 132 = .ok (.aload_n 0, 1) := by decide +kernel
theorem dd_Model_checkWays_133 : decode prog_14_method_81_code 133 = .ok (.invokevirtual 565, 3) := by decide +kernel
theorem dd_Model_checkWays_136 : decode prog_14_method_81_code 136 = .ok (.goto 124, 3) := by decide +kernel
theorem dd_Model_checkWays_139 : decode prog_14_method_81_code 139 = .ok (.aload_n 0, 1) := by decide +kernel
theorem dd_Model_checkWays_140 : decode prog_14_method_81_code 140 = .ok (.invokevirtual 568, 3) := by decide +kernel
theorem dd_Model_checkWays_143 : decode prog_14_method_81_code 143 = .ok (.goto 117, 3) := by decide +kernel
theorem dd_Model_checkWays_146 : decode prog_14_method_81_code 146 = .ok (.aload_n 0, 1) := by decide +kernel
theorem dd_Model_checkWays_147 : decode prog_14_method_81_code 147 = .ok (.invokevirtual 571, 3) := by decide +kernel
theorem dd_Model_checkWays_150 : decode prog_14_method_81_code 150 = .ok (.goto 110, 3) := by decide +kernel
theorem dd_Model_checkWays_153 : decode prog_14_method_81_code 153 = .ok (.aload_n 0, 1) := by decide +kernel
theorem dd_Model_checkWays_154 : decode prog_14_method_81_code 154 = .ok (.invokevirtual 574, 3) := by decide +kernel
theorem dd_Model_checkWays_157 : decode prog_14_method_81_code 157 = .ok (.goto 103, 3) := by decide +kernel
theorem dd_Model_checkWays_160 : decode prog_14_method_81_code 160 = .ok (.aload_n 0, 1) := by decide +kernel
theorem dd_Model_checkWays_161 : decode prog_14_method_81_code 161 = .ok (.getfield 267, 3) := by decide +kernel
theorem dd_Model_checkWays_164 : decode prog_14_method_81_code 164 = .ok (.bipush 13, 2) := by decide +kernel
theorem dd_Model_checkWays_166 : decode prog_14_method_81_code 166 = .ok (.if_icmp .ne 8, 3) := by decide +kernel
theorem dd_Model_checkWays_169 : decode prog_14_method_81_code 169 = .ok (.aload_n 0, 1) := by decide +kernel
theorem dd_Model_checkWays_170 : decode prog_14_method_81_code 170 = .ok (.iconst 1, 1) := by decide +kernel
theorem dd_Model_checkWays_171 : decode prog_14_method_81_code 171 = .ok (.invokevirtual 504, 3) := by decide +kernel
theorem dd_Model_checkWays_174 : decode prog_14_method_81_code 174 = .ok (.aload_n 0, 1) := by decide +kernel
theorem dd_Model_checkWays_175 : decode prog_14_method_81_code 175 = .ok (.aload_n 0, 1) := by decide +kernel
theorem dd_Model_checkWays_176 : decode prog_14_method_81_code 176 = .ok (.getfield 273, 3) := by decide +kernel
theorem dd_Model_checkWays_179 : decode prog_14_method_81_code 179 = .ok (.invokevirtual 554, 3) := by decide +kernel
theorem dd_Model_checkWays_182 : decode prog_14_method_81_code 182 = .ok (.istore_n 1, 1) := by decide +kernel
theorem dd_Model_checkWays_183 : decode prog_14_method_81_code 183 = .ok (.iload_n 1, 1) := by decide +kernel
theorem dd_Model_checkWays_184 : decode prog_14_method_81_code 184 = .ok (.ifCond .ge 6, 3) := by decide +kernel
theorem dd_Model_checkWays_187 : decode prog_14_method_81_code 187 = .ok (.goto 73, 3) := by decide +kernel
theorem dd_Model_checkWays_190 : decode prog_14_method_81_code 190 = .ok (.aload_n 0, 1) := by decide +kernel
theorem dd_Model_checkWays_191 : decode prog_14_method_81_code 191 = .ok (.iload_n 1, 1) := by decide +kernel
theorem dd_Model_checkWays_192 : decode prog_14_method_81_code 192 = .ok (.invokevirtual 562, 3) := by decide +kernel
theorem dd_Model_checkWays_195 : decode prog_14_method_81_code 195 = .ok (.aload_n 0, 1) := by decide +kernel
theorem dd_Model_checkWays_196 : decode prog_14_method_81_code 196 = .ok (.getfield 267, 3) := by decide +kernel
theorem dd_Model_checkWays_199 : decode prog_14_method_81_code 199 = .ok (.bipush 12, 2) := by decide +kernel
theorem dd_Model_checkWays_201 : decode prog_14_method_81_code 201 = .ok (.if_icmp .ne 10, 3) := by decide +kernel
theorem dd_Model_checkWays_204 : decode prog_14_method_81_code 204 = .ok (.aload_n 0, 1) := by decide +kernel
theorem dd_Model_checkWays_205 : decode prog_14_method_81_code 205 = .ok (.invokevirtual 565, 3) := by decide +kernel
theorem dd_Model_checkWays_208 : decode prog_14_method_81_code 208 = .ok (.goto 52, 3) := by decide +kernel
theorem dd_Model_checkWays_211 : decode prog_14_method_81_code 211 = .ok (.aload_n 0, 1) := by decide +kernel
theorem dd_Model_checkWays_212 : decode prog_14_method_81_code 212 = .ok (.iload_n 1, 1) := by decide +kernel
theorem dd_Model_checkWays_213 : decode prog_14_method_81_code 213 = .ok (.invokevirtual 577, 3) := by decide +kernel
theorem dd_Model_checkWays_216 : decode prog_14_method_81_code 216 = .ok (.goto 44, 3) := by decide +kernel
theorem dd_Model_checkWays_219 : decode prog_14_method_81_code 219 = .ok (.aload_n 0, 1) := by decide +kernel
theorem dd_Model_checkWays_220 : decode prog_14_method_81_code 220 = .ok (.invokevirtual 580, 3) := by decide +kernel
theorem dd_Model_checkWays_223 : decode prog_14_method_81_code 223 = .ok (.goto 37, 3) := by decide +kernel
theorem dd_Model_checkWays_226 : decode prog_14_method_81_code 226 = .ok (.aload_n 0, 1) := by decide +kernel
theorem dd_Model_checkWays_227 : decode prog_14_method_81_code 227 = .ok (.iconst 0, 1) := by decide +kernel
theorem dd_Model_checkWays_228 : decode prog_14_method_81_code 228 = .ok (.invokevirtual 562, 3) := by decide +kernel
theorem dd_Model_checkWays_231 : decode prog_14_method_81_code 231 = .ok (.aload_n 0, 1) := by decide +kernel
theorem dd_Model_checkWays_232 : decode prog_14_method_81_code 232 = .ok (.invokevirtual 565, 3) := by decide +kernel
theorem dd_Model_checkWays_235 : decode prog_14_method_81_code 235 = .ok (.goto 25, 3) := by decide +kernel
theorem dd_Model_checkWays_238 : decode prog_14_method_81_code 238 = .ok (.aload_n 0, 1) := by decide +kernel
theorem dd_Model_checkWays_239 : decode prog_14_method_81_code 239 = .ok (.invokevirtual 583, 3) := by decide +kernel
theorem dd_Model_checkWays_242 : decode prog_14_method_81_code 242 = .ok (.goto 18, 3) := by decide +kernel
theorem dd_Model_checkWays_245 : decode prog_14_method_81_code 245 = .ok (.aload_n 0, 1) := by decide +kernel
theorem dd_Model_checkWays_246 : decode prog_14_method_81_code 246 = .ok (.invokevirtual 493, 3) := by decide +kernel
theorem dd_Model_checkWays_249 : decode prog_14_method_81_code 249 = .ok (.istore_n 2, 1) := by decide +kernel
theorem dd_Model_checkWays_250 : decode prog_14_method_81_code 250 = .ok (.goto 10, 3) := by decide +kernel
theorem dd_Model_checkWays_253 : decode prog_14_method_81_code 253 = .ok (.aload_n 0, 1) := by decide +kernel
theorem dd_Model_checkWays_254 : decode prog_14_method_81_code 254 = .ok (.invokevirtual 586, 3) := by decide +kernel
theorem dd_Model_checkWays_257 : decode prog_14_method_81_code 257 = .ok (.goto 3, 3) := by decide +kernel
theorem dd_Model_checkWays_260 : decode prog_14_method_81_code 260 = .ok (.return_, 1) := by decide +kernel
theorem dd_Model_check_0 : decode prog_14_method_73_code 0 = .ok (.aload_n 0, 1) := by decide +kernel
theorem dd_Model_check_1 : decode prog_14_method_73_code 1 = .ok (.iconst 0, 1) := by decide +kernel
theorem dd_Model_check_2 : decode prog_14_method_73_code 2 = .ok (.putfield 487, 3) := by decide +kernel
theorem dd_Model_check_5 : decode prog_14_method_73_code 5 = .ok (.aload_n 0, 1) := by decide +kernel
theorem dd_Model_check_6 : decode prog_14_method_73_code 6 = .ok (.iconst 0, 1) := by decide +kernel
theorem dd_Model_check_7 : decode prog_14_method_73_code 7 = .ok (.putfield 490, 3) := by decide +kernel
theorem dd_Model_check_10 : decode prog_14_method_73_code 10 = .ok (.aload_n 0, 1) := by decide +kernel
theorem dd_Model_check_11 : decode prog_14_method_73_code 11 = .ok (.iconst 0, 1) := by decide +kernel
theorem dd_Model_check_12 : decode prog_14_method_73_code 12 = .ok (.putfield 510, 3) := by decide +kernel
theorem dd_Model_check_15 : decode prog_14_method_73_code 15 = .ok (.aload_n 0, 1) := by decide +kernel
theorem dd_Model_check_16 : decode prog_14_method_73_code 16 = .ok (.aload_n 0, 1) := by decide +kernel
theorem dd_Model_check_17 : decode prog_14_method_73_code 17 = .ok (.getfield 48, 3) := by decide +kernel
theorem dd_Model_check_20 : decode prog_14_method_73_code 20 = .ok (.iload_n 1, 1) := by decide +kernel
theorem dd_Model_check_21 : decode prog_14_method_73_code 21 = .ok (.iaload, 1) := by decide +kernel
theorem dd_Model_check_22 : decode prog_14_method_73_code 22 = .ok (.putfield 171, 3) := by decide +kernel
theorem dd_Model_check_25 : decode prog_14_method_73_code 25 = .ok (.aload_n 0, 1) := by decide +kernel
theorem dd_Model_check_26 : decode prog_14_method_73_code 26 = .ok (.iconst 0, 1) := by decide +kernel
theorem dd_Model_check_27 : decode prog_14_method_73_code 27 = .ok (.aload_n 0, 1) := by decide +kernel
theorem dd_Model_check_28 : decode prog_14_method_73_code 28 = .ok (.getfield 42, 3) := by decide +kernel
theorem dd_Model_check_31 : decode prog_14_method_73_code 31 = .ok (.iload_n 1, 1) := by decide +kernel
theorem dd_Model_check_32 : decode prog_14_method_73_code 32 = .ok (.iaload, 1) := by decide +kernel
theorem dd_Model_check_33 : decode prog_14_method_73_code 33 = .ok (.i2l, 1) := by decide +kernel
theorem dd_Model_check_34 : decode prog_14_method_73_code 34 = .ok (.invokevirtual 523, 3) := by decide +kernel
theorem dd_Model_check_37 : decode prog_14_method_73_code 37 = .ok (.aload_n 0, 1) := by decide +kernel
theorem dd_Model_check_38 : decode prog_14_method_73_code 38 = .ok (.getfield 490, 3) := by decide +kernel
theorem dd_Model_check_41 : decode prog_14_method_73_code 41 = .ok (.ifCond .le 112, 3) := by decide +kernel
theorem dd_Model_check_44 : decode prog_14_method_73_code 44 = .ok (.aload_n 0, 1) := by decide +kernel
theorem dd_Model_check_45 : decode prog_14_method_73_code 45 = .ok (.getfield 398, 3) := by decide +kernel
theorem dd_Model_check_48 : decode prog_14_method_73_code 48 = .ok (.ifCond .ne 105, 3) := by decide +kernel
theorem dd_Model_check_51 : decode prog_14_method_73_code 51 = .ok (.aload_n 0, 1) := by decide +kernel
theorem dd_Model_check_52 : decode prog_14_method_73_code 52 = .ok (.aload_n 0, 1) := by decide +kernel
theorem dd_Model_check_53 : decode prog_14_method_73_code 53 = .ok (.getfield 168, 3) := by decide +kernel
theorem dd_Model_check_56 : decode prog_14_method_73_code 56 = .ok (.putfield 510, 3) := by decide +kernel
theorem dd_Model_check_59 : decode prog_14_method_73_code 59 = .ok (.aload_n 0, 1) := by decide +kernel
theorem dd_Model_check_60 : decode prog_14_method_73_code 60 = .ok (.invokevirtual 381, 3) := by decide +kernel
theorem dd_Model_check_63 : decode prog_14_method_73_code 63 = .ok (.aload_n 0, 1) := by decide +kernel
theorem dd_Model_check_64 : decode prog_14_method_73_code 64 = .ok (.getfield 267, 3) := by decide +kernel
theorem dd_Model_check_67 : decode prog_14_method_73_code 67 = .ok (.bipush 32, 2) := by decide +kernel
theorem dd_Model_check_69 : decode prog_14_method_73_code 69 = .ok (.if_icmp .ge 10, 3) := by decide +kernel
theorem dd_Model_check_72 : decode prog_14_method_73_code 72 = .ok (.aload_n 0, 1) := by decide +kernel
theorem dd_Model_check_73 : decode prog_14_method_73_code 73 = .ok (.invokevirtual 527, 3) := by decide +kernel
theorem dd_Model_check_76 : decode prog_14_method_73_code 76 = .ok (.goto (-39), 3) := by decide +kernel
theorem dd_Model_check_79 : decode prog_14_method_73_code 79 = .ok (.aload_n 0, 1) := by decide +kernel
theorem dd_Model_check_80 : decode prog_14_method_73_code 80 = .ok (.getfield 267, 3) := by decide +kernel
theorem dd_Model_check_83 : decode prog_14_method_73_code 83 = .ok (.bipush 40, 2) := by decide +kernel
theorem dd_Model_check_85 : decode prog_14_method_73_code 85 = .ok (.if_icmp .ge 11, 3) := by decide +kernel
theorem dd_Model_check_88 : decode prog_14_method_73_code 88 = .ok (.aload_n 0, 1) := by decide +kernel
theorem dd_Model_check_89 : decode prog_14_method_73_code 89 = .ok (.iload_n 1, 1) := by decide +kernel
theorem dd_Model_check_90 : decode prog_14_method_73_code 90 = .ok (.invokevirtual 530, 3) := by decide +kernel
theorem dd_Model_check_93 : decode prog_14_method_73_code 93 = .ok (.goto (-56), 3) := by decide +kernel
theorem dd_Model_check_96 : decode prog_14_method_73_code 96 = .ok (.aload_n 0, 1) := by decide +kernel
theorem dd_Model_check_97 : decode prog_14_method_73_code 97 = .ok (.getfield 267, 3) := by decide +kernel
theorem dd_Model_check_100 : decode prog_14_method_73_code 100 = .ok (.bipush 65, 2) := by decide +kernel
theorem dd_Model_check_102 : decode prog_14_method_73_code 102 = .ok (.if_icmp .ge 10, 3) := by decide +kernel
theorem dd_Model_check_105 : decode prog_14_method_73_code 105 = .ok (.aload_n 0, 1) := by decide +kernel
theorem dd_Model_check_106 : decode prog_14_method_73_code 106 = .ok (.invokevirtual 533, 3) := by decide +kernel
theorem dd_Model_check_109 : decode prog_14_method_73_code 109 = .ok (.goto (-72), 3) := by decide +kernel
theorem dd_Model_check_112 : decode prog_14_method_73_code 112 = .ok (.aload_n 0, 1) := by decide +kernel
theorem dd_Model_check_113 : decode prog_14_method_73_code 113 = .ok (.getfield 267, 3) := by decide +kernel
theorem dd_Model_check_116 : decode prog_14_method_73_code 116 = .ok (.sipush 208, 3) := by decide +kernel
theorem dd_Model_check_119 : decode prog_14_method_73_code 119 = .ok (.if_icmp .ge 10, 3) := by decide +kernel
theorem dd_Model_check_122 : decode prog_14_method_73_code 122 = .ok (.aload_n 0, 1) := by decide +kernel
theorem dd_Model_check_123 : decode prog_14_method_73_code 123 = .ok (.invokevirtual 536, 3) := by decide +kernel
theorem dd_Model_check_126 : decode prog_14_method_73_code 126 = .ok (.goto (-89), 3) := by decide +kernel
theorem dd_Model_check_129 : decode prog_14_method_73_code 129 = .ok (.aload_n 0, 1) := by decide +kernel
theorem dd_Model_check_130 : decode prog_14_method_73_code 130 = .ok (.getfield 267, 3) := by decide +kernel
theorem dd_Model_check_133 : decode prog_14_method_73_code 133 = .ok (.sipush 251, 3) := by decide +kernel
theorem dd_Model_check_136 : decode prog_14_method_73_code 136 = .ok (.if_icmp .ge 10, 3) := by decide +kernel
theorem dd_Model_check_139 : decode prog_14_method_73_code 139 = .ok (.aload_n 0, 1) := by decide +kernel
theorem dd_Model_check_140 : decode prog_14_method_73_code 140 = .ok (.invokevirtual 539, 3) := by decide +kernel
theorem dd_Model_check_143 : decode prog_14_method_73_code 143 = .ok (.goto (-106), 3) := by decide +kernel
theorem dd_Model_check_146 : decode prog_14_method_73_code 146 = .ok (.aload_n 0, 1) := by decide +kernel
theorem dd_Model_check_147 : decode prog_14_method_73_code 147 = .ok (.invokevirtual 542, 3) := by decide +kernel
theorem dd_Model_check_150 : decode prog_14_method_73_code 150 = .ok (.goto (-113), 3) := by decide +kernel
theorem dd_Model_check_153 : decode prog_14_method_73_code 153 = .ok (.aload_n 0, 1) := by decide +kernel
theorem dd_Model_check_154 : decode prog_14_method_73_code 154 = .ok (.aload_n 0, 1) := by decide +kernel
theorem dd_Model_check_155 : decode prog_14_method_73_code 155 = .ok (.getfield 341, 3) := by decide +kernel
theorem dd_Model_check_158 : decode prog_14_method_73_code 158 = .ok (.putfield 171, 3) := by decide +kernel
theorem dd_Model_check_161 : decode prog_14_method_73_code 161 = .ok (.return_, 1) := by decide +kernel
theorem dd_Model_bodyRow_0 : decode prog_14_method_56_code 0 = .ok (.lconst 0, 1) := by decide +kernel
theorem dd_Model_bodyRow_1 : decode prog_14_method_56_code 1 = .ok (.lstore_n 1, 1) := by decide +kernel
theorem dd_Model_bodyRow_2 : decode prog_14_method_56_code 2 = .ok (.aload_n 0, 1) := by decide +kernel
theorem dd_Model_bodyRow_3 : decode prog_14_method_56_code 3 = .ok (.getfield 20, 3) := by decide +kernel
theorem dd_Model_bodyRow_6 : decode prog_14_method_56_code 6 = .ok (.bipush 10, 2) := by decide +kernel
theorem dd_Model_bodyRow_8 : decode prog_14_method_56_code 8 = .ok (.iaload, 1) := by decide +kernel
theorem dd_Model_bodyRow_9 : decode prog_14_method_56_code 9 = .ok (.ifCond .lt 27, 3) := by decide +kernel
theorem dd_Model_bodyRow_12 : decode prog_14_method_56_code 12 = .ok (.aload_n 0, 1) := by decide +kernel
theorem dd_Model_bodyRow_13 : decode prog_14_method_56_code 13 = .ok (.aload_n 0, 1) := by decide +kernel
theorem dd_Model_bodyRow_14 : decode prog_14_method_56_code 14 = .ok (.getfield 20, 3) := by decide +kernel
theorem dd_Model_bodyRow_17 : decode prog_14_method_56_code 17 = .ok (.bipush 10, 2) := by decide +kernel
theorem dd_Model_bodyRow_19 : decode prog_14_method_56_code 19 = .ok (.iaload, 1) := by decide +kernel
theorem dd_Model_bodyRow_20 : decode prog_14_method_56_code 20 = .ok (.putfield 168, 3) := by decide +kernel
theorem dd_Model_bodyRow_23 : decode prog_14_method_56_code 23 = .ok (.aload_n 0, 1) := by decide +kernel
theorem dd_Model_bodyRow_24 : decode prog_14_method_56_code 24 = .ok (.aload_n 0, 1) := by decide +kernel
theorem dd_Model_bodyRow_25 : decode prog_14_method_56_code 25 = .ok (.getfield 341, 3) := by decide +kernel
theorem dd_Model_bodyRow_28 : decode prog_14_method_56_code 28 = .ok (.putfield 171, 3) := by decide +kernel
theorem dd_Model_bodyRow_31 : decode prog_14_method_56_code 31 = .ok (.aload_n 0, 1) := by decide +kernel
theorem dd_Model_bodyRow_32 : decode prog_14_method_56_code 32 = .ok (.invokevirtual 295, 3) := by decide +kernel
theorem dd_Model_bodyRow_35 : decode prog_14_method_56_code 35 = .ok (.lstore_n 1, 1) := by decide +kernel
theorem dd_Model_bodyRow_36 : decode prog_14_method_56_code 36 = .ok (.aload_n 0, 1) := by decide +kernel
theorem dd_Model_bodyRow_37 : decode prog_14_method_56_code 37 = .ok (.lload_n 1, 1) := by decide +kernel
theorem dd_Model_bodyRow_38 : decode prog_14_method_56_code 38 = .ok (.aload_n 0, 1) := by decide +kernel
theorem dd_Model_bodyRow_39 : decode prog_14_method_56_code 39 = .ok (.getfield 423, 3) := by decide +kernel
theorem dd_Model_bodyRow_42 : decode prog_14_method_56_code 42 = .ok (.i2l, 1) := by decide +kernel
theorem dd_Model_bodyRow_43 : decode prog_14_method_56_code 43 = .ok (.lcmp, 1) := by decide +kernel
theorem dd_Model_bodyRow_44 : decode prog_14_method_56_code 44 = .ok (.ifCond .eq 7, 3) := by decide +kernel
theorem dd_Model_bodyRow_47 : decode prog_14_method_56_code 47 = .ok (.iconst 1, 1) := by decide +kernel
theorem dd_Model_bodyRow_48 : decode prog_14_method_56_code 48 = .ok (.goto 4, 3) := by decide +kernel
theorem dd_Model_bodyRow_51 : decode prog_14_method_56_code 51 = .ok (.iconst 0, 1) := by decide +kernel
theorem dd_Model_bodyRow_52 : decode prog_14_method_56_code 52 = .ok (.putfield 398, 3) := by decide +kernel
theorem dd_Model_bodyRow_55 : decode prog_14_method_56_code 55 = .ok (.iconst 0, 1) := by decide +kernel
theorem dd_Model_bodyRow_56 : decode prog_14_method_56_code 56 = .ok (.istore_n 3, 1) := by decide +kernel
theorem dd_Model_bodyRow_57 : decode prog_14_method_56_code 57 = .ok (.iload_n 3, 1) := by decide +kernel
theorem dd_Model_bodyRow_58 : decode prog_14_method_56_code 58 = .ok (.aload_n 0, 1) := by decide +kernel
theorem dd_Model_bodyRow_59 : decode prog_14_method_56_code 59 = .ok (.getfield 423, 3) := by decide +kernel
theorem dd_Model_bodyRow_62 : decode prog_14_method_56_code 62 = .ok (.if_icmp .ge 73, 3) := by decide +kernel
theorem dd_Model_bodyRow_65 : decode prog_14_method_56_code 65 = .ok (.aload_n 0, 1) := by decide +kernel
theorem dd_Model_bodyRow_66 : decode prog_14_method_56_code 66 = .ok (.getfield 398, 3) := by decide +kernel
theorem dd_Model_bodyRow_69 : decode prog_14_method_56_code 69 = .ok (.ifCond .ne 66, 3) := by decide +kernel
theorem dd_Model_bodyRow_72 : decode prog_14_method_56_code 72 = .ok (.aload_n 0, 1) := by decide +kernel
theorem dd_Model_bodyRow_73 : decode prog_14_method_56_code 73 = .ok (.invokevirtual 295, 3) := by decide +kernel
theorem dd_Model_bodyRow_76 : decode prog_14_method_56_code 76 = .ok (.lstore 4, 2) := by decide +kernel
theorem dd_Model_bodyRow_78 : decode prog_14_method_56_code 78 = .ok (.aload_n 0, 1) := by decide +kernel
theorem dd_Model_bodyRow_79 : decode prog_14_method_56_code 79 = .ok (.getfield 168, 3) := by decide +kernel
theorem dd_Model_bodyRow_82 : decode prog_14_method_56_code 82 = .ok (.lload 4, 2) := by decide +kernel
theorem dd_Model_bodyRow_84 : decode prog_14_method_56_code 84 = .ok (.l2i, 1) := by decide +kernel
theorem dd_Model_bodyRow_85 : decode prog_14_method_56_code 85 = .ok (.iadd, 1) := by decide +kernel
theorem dd_Model_bodyRow_86 : decode prog_14_method_56_code 86 = .ok (.istore 6, 2) := by decide +kernel
theorem dd_Model_bodyRow_88 : decode prog_14_method_56_code 88 = .ok (.aload_n 0, 1) := by decide +kernel
theorem dd_Model_bodyRow_89 : decode prog_14_method_56_code 89 = .ok (.getfield 48, 3) := by decide +kernel
theorem dd_Model_bodyRow_92 : decode prog_14_method_56_code 92 = .ok (.iload_n 3, 1) := by decide +kernel
theorem dd_Model_bodyRow_93 : decode prog_14_method_56_code 93 = .ok (.iload 6, 2) := by decide +kernel
theorem dd_Model_bodyRow_95 : decode prog_14_method_56_code 95 = .ok (.iastore, 1) := by decide +kernel
theorem dd_Model_bodyRow_96 : decode prog_14_method_56_code 96 = .ok (.aload_n 0, 1) := by decide +kernel
theorem dd_Model_bodyRow_97 : decode prog_14_method_56_code 97 = .ok (.iload_n 3, 1) := by decide +kernel
theorem dd_Model_bodyRow_98 : decode prog_14_method_56_code 98 = .ok (.invokevirtual 481, 3) := by decide +kernel
theorem dd_Model_bodyRow_101 : decode prog_14_method_56_code 101 = .ok (.aload_n 0, 1) := by decide +kernel
theorem dd_Model_bodyRow_102 : decode prog_14_method_56_code 102 = .ok (.getfield 45, 3) := by decide +kernel
theorem dd_Model_bodyRow_105 : decode prog_14_method_56_code 105 = .ok (.iload_n 3, 1) := by decide +kernel
theorem dd_Model_bodyRow_106 : decode prog_14_method_56_code 106 = .ok (.aload_n 0, 1) := by decide +kernel
theorem dd_Model_bodyRow_107 : decode prog_14_method_56_code 107 = .ok (.getfield 168, 3) := by decide +kernel
theorem dd_Model_bodyRow_110 : decode prog_14_method_56_code 110 = .ok (.iastore, 1) := by decide +kernel
theorem dd_Model_bodyRow_111 : decode prog_14_method_56_code 111 = .ok (.aload_n 0, 1) := by decide +kernel
theorem dd_Model_bodyRow_112 : decode prog_14_method_56_code 112 = .ok (.getfield 398, 3) := by decide +kernel
theorem dd_Model_bodyRow_115 : decode prog_14_method_56_code 115 = .ok (.ifCond .ne 8, 3) := by decide +kernel
theorem dd_Model_bodyRow_118 : decode prog_14_method_56_code 118 = .ok (.aload_n 0, 1) := by decide +kernel
theorem dd_Model_bodyRow_119 : decode prog_14_method_56_code 119 = .ok (.iload_n 3, 1) := by decide +kernel
theorem dd_Model_bodyRow_120 : decode prog_14_method_56_code 120 = .ok (.invokevirtual 484, 3) := by decide +kernel
theorem dd_Model_bodyRow_123 : decode prog_14_method_56_code 123 = .ok (.aload_n 0, 1) := by decide +kernel
theorem dd_Model_bodyRow_124 : decode prog_14_method_56_code 124 = .ok (.iload 6, 2) := by decide +kernel
theorem dd_Model_bodyRow_126 : decode prog_14_method_56_code 126 = .ok (.putfield 168, 3) := by decide +kernel
theorem dd_Model_bodyRow_129 : decode prog_14_method_56_code 129 = .ok (.iinc 3 1, 3) := by decide +kernel
theorem dd_Model_bodyRow_132 : decode prog_14_method_56_code 132 = .ok (.goto (-75), 3) := by decide +kernel
theorem dd_Model_bodyRow_135 : decode prog_14_method_56_code 135 = .ok (.return_, 1) := by decide +kernel
theorem dd_Model_elementRow_0 : decode prog_14_method_54_code 0 = .ok (.aload_n 0, 1) := by decide +kernel
theorem dd_Model_elementRow_1 : decode prog_14_method_54_code 1 = .ok (.bipush 9, 2) := by decide +kernel
theorem dd_Model_elementRow_3 : decode prog_14_method_54_code 3 = .ok (.invokevirtual 417, 3) := by decide +kernel
theorem dd_Model_elementRow_6 : decode prog_14_method_54_code 6 = .ok (.istore_n 1, 1) := by decide +kernel
theorem dd_Model_elementRow_7 : decode prog_14_method_54_code 7 = .ok (.aload_n 0, 1) := by decide +kernel
theorem dd_Model_elementRow_8 : decode prog_14_method_54_code 8 = .ok (.aload_n 0, 1) := by decide +kernel
theorem dd_Model_elementRow_9 : decode prog_14_method_54_code 9 = .ok (.getfield 398, 3) := by decide +kernel
theorem dd_Model_elementRow_12 : decode prog_14_method_54_code 12 = .ok (.ifCond .ne 14, 3) := by decide +kernel
theorem dd_Model_elementRow_15 : decode prog_14_method_54_code 15 = .ok (.iload_n 1, 1) := by decide +kernel
theorem dd_Model_elementRow_16 : decode prog_14_method_54_code 16 = .ok (.ifCond .le 14, 3) := by decide +kernel
theorem dd_Model_elementRow_19 : decode prog_14_method_54_code 19 = .ok (.aload_n 0, 1) := by decide +kernel
theorem dd_Model_elementRow_20 : decode prog_14_method_54_code 20 = .ok (.getfield 451, 3) := by decide +kernel
theorem dd_Model_elementRow_23 : decode prog_14_method_54_code 23 = .ok (.ifCond .ne 7, 3) := by decide +kernel
theorem dd_Model_elementRow_26 : decode prog_14_method_54_code 26 = .ok (.iconst 1, 1) := by decide +kernel
theorem dd_Model_elementRow_27 : decode prog_14_method_54_code 27 = .ok (.goto 4, 3) := by decide +kernel
theorem dd_Model_elementRow_30 : decode prog_14_method_54_code 30 = .ok (.iconst 0, 1) := by decide +kernel
theorem dd_Model_elementRow_31 : decode prog_14_method_54_code 31 = .ok (.putfield 398, 3) := by decide +kernel
theorem dd_Model_elementRow_34 : decode prog_14_method_54_code 34 = .ok (.iconst 0, 1) := by decide +kernel
theorem dd_Model_elementRow_35 : decode prog_14_method_54_code 35 = .ok (.istore_n 2, 1) := by decide +kernel
theorem dd_Model_elementRow_36 : decode prog_14_method_54_code 36 = .ok (.iload_n 2, 1) := by decide +kernel
theorem dd_Model_elementRow_37 : decode prog_14_method_54_code 37 = .ok (.iload_n 1, 1) := by decide +kernel
theorem dd_Model_elementRow_38 : decode prog_14_method_54_code 38 = .ok (.if_icmp .ge 67, 3) := by decide +kernel
theorem dd_Model_elementRow_41 : decode prog_14_method_54_code 41 = .ok (.aload_n 0, 1) := by decide +kernel
theorem dd_Model_elementRow_42 : decode prog_14_method_54_code 42 = .ok (.getfield 398, 3) := by decide +kernel
theorem dd_Model_elementRow_45 : decode prog_14_method_54_code 45 = .ok (.ifCond .ne 60, 3) := by decide +kernel
theorem dd_Model_elementRow_48 : decode prog_14_method_54_code 48 = .ok (.aload_n 0, 1) := by decide +kernel
theorem dd_Model_elementRow_49 : decode prog_14_method_54_code 49 = .ok (.invokevirtual 366, 3) := by decide +kernel
theorem dd_Model_elementRow_52 : decode prog_14_method_54_code 52 = .ok (.aload_n 0, 1) := by decide +kernel
theorem dd_Model_elementRow_53 : decode prog_14_method_54_code 53 = .ok (.invokevirtual 295, 3) := by decide +kernel
theorem dd_Model_elementRow_56 : decode prog_14_method_54_code 56 = .ok (.lstore_n 3, 1) := by decide +kernel
theorem dd_Model_elementRow_57 : decode prog_14_method_54_code 57 = .ok (.lload_n 3, 1) := by decide +kernel
theorem dd_Model_elementRow_58 : decode prog_14_method_54_code 58 = .ok (.lconst 0, 1) := by decide +kernel
theorem dd_Model_elementRow_59 : decode prog_14_method_54_code 59 = .ok (.lcmp, 1) := by decide +kernel
theorem dd_Model_elementRow_60 : decode prog_14_method_54_code 60 = .ok (.ifCond .le 39, 3) := by decide +kernel
theorem dd_Model_elementRow_63 : decode prog_14_method_54_code 63 = .ok (.aload_n 0, 1) := by decide +kernel
theorem dd_Model_elementRow_64 : decode prog_14_method_54_code 64 = .ok (.aload_n 0, 1) := by decide +kernel
theorem dd_Model_elementRow_65 : decode prog_14_method_54_code 65 = .ok (.invokevirtual 295, 3) := by decide +kernel
theorem dd_Model_elementRow_68 : decode prog_14_method_54_code 68 = .ok (.aload_n 0, 1) := by decide +kernel
theorem dd_Model_elementRow_69 : decode prog_14_method_54_code 69 = .ok (.getfield 423, 3) := by decide +kernel
theorem dd_Model_elementRow_72 : decode prog_14_method_54_code 72 = .ok (.i2l, 1) := by decide +kernel
theorem dd_Model_elementRow_73 : decode prog_14_method_54_code 73 = .ok (.lcmp, 1) := by decide +kernel
theorem dd_Model_elementRow_74 : decode prog_14_method_54_code 74 = .ok (.ifCond .ge 10, 3) := by decide +kernel
theorem dd_Model_elementRow_77 : decode prog_14_method_54_code 77 = .ok (.aload_n 0, 1) := by decide +kernel
theorem dd_Model_elementRow_78 : decode prog_14_method_54_code 78 = .ok (.getfield 398, 3) := by decide +kernel
theorem dd_Model_elementRow_81 : decode prog_14_method_54_code 81 = .ok (.ifCond .eq 7, 3) := by decide +kernel
theorem dd_Model_elementRow_84 : decode prog_14_method_54_code 84 = .ok (.iconst 1, 1) := by decide +kernel
theorem dd_Model_elementRow_85 : decode prog_14_method_54_code 85 = .ok (.goto 4, 3) := by decide +kernel
theorem dd_Model_elementRow_88 : decode prog_14_method_54_code 88 = .ok (.iconst 0, 1) := by decide +kernel
theorem dd_Model_elementRow_89 : decode prog_14_method_54_code 89 = .ok (.putfield 398, 3) := by decide +kernel
theorem dd_Model_elementRow_92 : decode prog_14_method_54_code 92 = .ok (.lload_n 3, 1) := by decide +kernel
theorem dd_Model_elementRow_93 : decode prog_14_method_54_code 93 = .ok (.lconst 1, 1) := by decide +kernel
theorem dd_Model_elementRow_94 : decode prog_14_method_54_code 94 = .ok (.lsub, 1) := by decide +kernel
theorem dd_Model_elementRow_95 : decode prog_14_method_54_code 95 = .ok (.lstore_n 3, 1) := by decide +kernel
theorem dd_Model_elementRow_96 : decode prog_14_method_54_code 96 = .ok (.goto (-39), 3) := by decide +kernel
theorem dd_Model_elementRow_99 : decode prog_14_method_54_code 99 = .ok (.iinc 2 1, 3) := by decide +kernel
theorem dd_Model_elementRow_102 : decode prog_14_method_54_code 102 = .ok (.goto (-66), 3) := by decide +kernel
theorem dd_Model_elementRow_105 : decode prog_14_method_54_code 105 = .ok (.return_, 1) := by decide +kernel
theorem dd_Model_firstFunction_0 : decode prog_14_method_53_code 0 = .ok (.aload_n 0, 1) := by decide +kernel
theorem dd_Model_firstFunction_1 : decode prog_14_method_53_code 1 = .ok (.iconst (-1), 1) := by decide +kernel
theorem dd_Model_firstFunction_2 : decode prog_14_method_53_code 2 = .ok (.putfield 478, 3) := by decide +kernel
theorem dd_Model_firstFunction_5 : decode prog_14_method_53_code 5 = .ok (.aload_n 0, 1) := by decide +kernel
theorem dd_Model_firstFunction_6 : decode prog_14_method_53_code 6 = .ok (.getfield 20, 3) := by decide +kernel
theorem dd_Model_firstFunction_9 : decode prog_14_method_53_code 9 = .ok (.bipush 8, 2) := by decide +kernel
theorem dd_Model_firstFunction_11 : decode prog_14_method_53_code 11 = .ok (.iaload, 1) := by decide +kernel
theorem dd_Model_firstFunction_12 : decode prog_14_method_53_code 12 = .ok (.ifCond .ge 4, 3) := by decide +kernel
theorem dd_Model_firstFunction_15 : decode prog_14_method_53_code 15 = .ok (.return_, 1) := by decide +kernel
theorem dd_Model_firstFunction_16 : decode prog_14_method_53_code 16 = .ok (.aload_n 0, 1) := by decide +kernel
theorem dd_Model_firstFunction_17 : decode prog_14_method_53_code 17 = .ok (.aload_n 0, 1) := by decide +kernel
theorem dd_Model_firstFunction_18 : decode prog_14_method_53_code 18 = .ok (.getfield 20, 3) := by decide +kernel
theorem dd_Model_firstFunction_21 : decode prog_14_method_53_code 21 = .ok (.bipush 8, 2) := by decide +kernel
theorem dd_Model_firstFunction_23 : decode prog_14_method_53_code 23 = .ok (.iaload, 1) := by decide +kernel
theorem dd_Model_firstFunction_24 : decode prog_14_method_53_code 24 = .ok (.putfield 168, 3) := by decide +kernel
theorem dd_Model_firstFunction_27 : decode prog_14_method_53_code 27 = .ok (.aload_n 0, 1) := by decide +kernel
theorem dd_Model_firstFunction_28 : decode prog_14_method_53_code 28 = .ok (.aload_n 0, 1) := by decide +kernel
theorem dd_Model_firstFunction_29 : decode prog_14_method_53_code 29 = .ok (.getfield 341, 3) := by decide +kernel
theorem dd_Model_firstFunction_32 : decode prog_14_method_53_code 32 = .ok (.putfield 171, 3) := by decide +kernel
theorem dd_Model_firstFunction_35 : decode prog_14_method_53_code 35 = .ok (.aload_n 0, 1) := by decide +kernel
theorem dd_Model_firstFunction_36 : decode prog_14_method_53_code 36 = .ok (.invokevirtual 295, 3) := by decide +kernel
theorem dd_Model_firstFunction_39 : decode prog_14_method_53_code 39 = .ok (.lstore_n 1, 1) := by decide +kernel
theorem dd_Model_firstFunction_40 : decode prog_14_method_53_code 40 = .ok (.aload_n 0, 1) := by decide +kernel
theorem dd_Model_firstFunction_41 : decode prog_14_method_53_code 41 = .ok (.lload_n 1, 1) := by decide +kernel
theorem dd_Model_firstFunction_42 : decode prog_14_method_53_code 42 = .ok (.aload_n 0, 1) := by decide +kernel
theorem dd_Model_firstFunction_43 : decode prog_14_method_53_code 43 = .ok (.getfield 423, 3) := by decide +kernel
theorem dd_Model_firstFunction_46 : decode prog_14_method_53_code 46 = .ok (.i2l, 1) := by decide +kernel
theorem dd_Model_firstFunction_47 : decode prog_14_method_53_code 47 = .ok (.lcmp, 1) := by decide +kernel
theorem dd_Model_firstFunction_48 : decode prog_14_method_53_code 48 = .ok (.ifCond .lt 7, 3) := by decide +kernel
theorem dd_Model_firstFunction_51 : decode prog_14_method_53_code 51 = .ok (.iconst 1, 1) := by decide +kernel
theorem dd_Model_firstFunction_52 : decode prog_14_method_53_code 52 = .ok (.goto 4, 3) := by decide +kernel
theorem dd_Model_firstFunction_55 : decode prog_14_method_53_code 55 = .ok (.iconst 0, 1) := by decide +kernel
theorem dd_Model_firstFunction_56 : decode prog_14_method_53_code 56 = .ok (.putfield 398, 3) := by decide +kernel
theorem dd_Model_firstFunction_59 : decode prog_14_method_53_code 59 = .ok (.aload_n 0, 1) := by decide +kernel
theorem dd_Model_firstFunction_60 : decode prog_14_method_53_code 60 = .ok (.getfield 398, 3) := by decide +kernel
theorem dd_Model_firstFunction_63 : decode prog_14_method_53_code 63 = .ok (.ifCond .eq 4, 3) := by decide +kernel
theorem dd_Model_firstFunction_66 : decode prog_14_method_53_code 66 = .ok (.return_, 1) := by decide +kernel
theorem dd_Model_firstFunction_67 : decode prog_14_method_53_code 67 = .ok (.aload_n 0, 1) := by decide +kernel
theorem dd_Model_firstFunction_68 : decode prog_14_method_53_code 68 = .ok (.lload_n 1, 1) := by decide +kernel
theorem dd_Model_firstFunction_69 : decode prog_14_method_53_code 69 = .ok (.l2i, 1) := by decide +kernel
theorem dd_Model_firstFunction_70 : decode prog_14_method_53_code 70 = .ok (.putfield 478, 3) := by decide +kernel
theorem dd_Model_firstFunction_73 : decode prog_14_method_53_code 73 = .ok (.aload_n 0, 1) := by decide +kernel
theorem dd_Model_firstFunction_74 : decode prog_14_method_53_code 74 = .ok (.getfield 42, 3) := by decide +kernel
theorem dd_Model_firstFunction_77 : decode prog_14_method_53_code 77 = .ok (.aload_n 0, 1) := by decide +kernel
theorem dd_Model_firstFunction_78 : decode prog_14_method_53_code 78 = .ok (.getfield 478, 3) := by decide +kernel
theorem dd_Model_firstFunction_81 : decode prog_14_method_53_code 81 = .ok (.iaload, 1) := by decide +kernel
theorem dd_Model_firstFunction_82 : decode prog_14_method_53_code 82 = .ok (.istore_n 3, 1) := by decide +kernel
theorem dd_Model_firstFunction_83 : decode prog_14_method_53_code 83 = .ok (.aload_n 0, 1) := by decide +kernel
theorem dd_Model_firstFunction_84 : decode prog_14_method_53_code 84 = .ok (.aload_n 0, 1) := by decide +kernel
theorem dd_Model_firstFunction_85 : decode prog_14_method_53_code 85 = .ok (.getfield 30, 3) := by decide +kernel
theorem dd_Model_firstFunction_88 : decode prog_14_method_53_code 88 = .ok (.iload_n 3, 1) := by decide +kernel
theorem dd_Model_firstFunction_89 : decode prog_14_method_53_code 89 = .ok (.iaload, 1) := by decide +kernel
theorem dd_Model_firstFunction_90 : decode prog_14_method_53_code 90 = .ok (.ifCond .gt 12, 3) := by decide +kernel
theorem dd_Model_firstFunction_93 : decode prog_14_method_53_code 93 = .ok (.aload_n 0, 1) := by decide +kernel
theorem dd_Model_firstFunction_94 : decode prog_14_method_53_code 94 = .ok (.getfield 33, 3) := by decide +kernel
theorem dd_Model_firstFunction_97 : decode prog_14_method_53_code 97 = .ok (.iload_n 3, 1) := by decide +kernel
theorem dd_Model_firstFunction_98 : decode prog_14_method_53_code 98 = .ok (.iaload, 1) := by decide +kernel
theorem dd_Model_firstFunction_99 : decode prog_14_method_53_code 99 = .ok (.ifCond .le 7, 3) := by decide +kernel
theorem dd_Model_firstFunction_102 : decode prog_14_method_53_code 102 = .ok (.iconst 1, 1) := by decide +kernel
theorem dd_Model_firstFunction_103 : decode prog_14_method_53_code 103 = .ok (.goto 4, 3) := by decide +kernel
theorem dd_Model_firstFunction_106 : decode prog_14_method_53_code 106 = .ok (.iconst 0, 1) := by decide +kernel
theorem dd_Model_firstFunction_107 : decode prog_14_method_53_code 107 = .ok (.putfield 398, 3) := by decide +kernel
theorem dd_Model_firstFunction_110 : decode prog_14_method_53_code 110 = .ok (.return_, 1) := by decide +kernel
theorem dd_Model_isNameAgain_0 : decode prog_14_method_51_code 0 = .ok (.iconst 0, 1) := by decide +kernel
theorem dd_Model_isNameAgain_1 : decode prog_14_method_51_code 1 = .ok (.istore_n 2, 1) := by decide +kernel
theorem dd_Model_isNameAgain_2 : decode prog_14_method_51_code 2 = .ok (.iconst 0, 1) := by decide +kernel
theorem dd_Model_isNameAgain_3 : decode prog_14_method_51_code 3 = .ok (.istore_n 3, 1) := by decide +kernel
theorem dd_Model_isNameAgain_4 : decode prog_14_method_51_code 4 = .ok (.iload_n 3, 1) := by decide +kernel
theorem dd_Model_isNameAgain_5 : decode prog_14_method_51_code 5 = .ok (.iload_n 1, 1) := by decide +kernel
theorem dd_Model_isNameAgain_6 : decode prog_14_method_51_code 6 = .ok (.if_icmp .ge 95, 3) := by decide +kernel
theorem dd_Model_isNameAgain_9 : decode prog_14_method_51_code 9 = .ok (.iload_n 2, 1) := by decide +kernel
theorem dd_Model_isNameAgain_10 : decode prog_14_method_51_code 10 = .ok (.ifCond .ne 91, 3) := by decide +kernel
theorem dd_Model_isNameAgain_13 : decode prog_14_method_51_code 13 = .ok (.aload_n 0, 1) := by decide +kernel
theorem dd_Model_isNameAgain_14 : decode prog_14_method_51_code 14 = .ok (.getfield 67, 3) := by decide +kernel
theorem dd_Model_isNameAgain_17 : decode prog_14_method_51_code 17 = .ok (.iload_n 3, 1) := by decide +kernel
theorem dd_Model_isNameAgain_18 : decode prog_14_method_51_code 18 = .ok (.iaload, 1) := by decide +kernel
theorem dd_Model_isNameAgain_19 : decode prog_14_method_51_code 19 = .ok (.aload_n 0, 1) := by decide +kernel
theorem dd_Model_isNameAgain_20 : decode prog_14_method_51_code 20 = .ok (.getfield 67, 3) := by decide +kernel
theorem dd_Model_isNameAgain_23 : decode prog_14_method_51_code 23 = .ok (.iload_n 1, 1) := by decide +kernel
theorem dd_Model_isNameAgain_24 : decode prog_14_method_51_code 24 = .ok (.iaload, 1) := by decide +kernel
theorem dd_Model_isNameAgain_25 : decode prog_14_method_51_code 25 = .ok (.if_icmp .ne 7, 3) := by decide +kernel
theorem dd_Model_isNameAgain_28 : decode prog_14_method_51_code 28 = .ok (.iconst 1, 1) := by decide +kernel
theorem dd_Model_isNameAgain_29 : decode prog_14_method_51_code 29 = .ok (.goto 4, 3) := by decide +kernel
theorem dd_Model_isNameAgain_32 : decode prog_14_method_51_code 32 = .ok (.iconst 0, 1) := by decide +kernel
theorem dd_Model_isNameAgain_33 : decode prog_14_method_51_code 33 = .ok (.istore_n 2, 1) := by decide +kernel
theorem dd_Model_isNameAgain_34 : decode prog_14_method_51_code 34 = .ok (.iconst 0, 1) := by decide +kernel
theorem dd_Model_isNameAgain_35 : decode prog_14_method_51_code 35 = .ok (.istore 4, 2) := by decide +kernel
theorem dd_Model_isNameAgain_37 : decode prog_14_method_51_code 37 = .ok (.iload 4, 2) := by decide +kernel
theorem dd_Model_isNameAgain_39 : decode prog_14_method_51_code 39 = .ok (.aload_n 0, 1) := by decide +kernel
theorem dd_Model_isNameAgain_40 : decode prog_14_method_51_code 40 = .ok (.getfield 67, 3) := by decide +kernel
theorem dd_Model_isNameAgain_43 : decode prog_14_method_51_code 43 = .ok (.iload_n 1, 1) := by decide +kernel
theorem dd_Model_isNameAgain_44 : decode prog_14_method_51_code 44 = .ok (.iaload, 1) := by decide +kernel
theorem dd_Model_isNameAgain_45 : decode prog_14_method_51_code 45 = .ok (.if_icmp .ge 50, 3) := by decide +kernel
theorem dd_Model_isNameAgain_48 : decode prog_14_method_51_code 48 = .ok (.iload_n 2, 1) := by decide +kernel
theorem dd_Model_isNameAgain_49 : decode prog_14_method_51_code 49 = .ok (.ifCond .eq 46, 3) := by decide +kernel
theorem dd_Model_isNameAgain_52 : decode prog_14_method_51_code 52 = .ok (.aload_n 0, 1) := by decide +kernel
theorem dd_Model_isNameAgain_53 : decode prog_14_method_51_code 53 = .ok (.getfield 17, 3) := by decide +kernel
theorem dd_Model_isNameAgain_56 : decode prog_14_method_51_code 56 = .ok (.aload_n 0, 1) := by decide +kernel
theorem dd_Model_isNameAgain_57 : decode prog_14_method_51_code 57 = .ok (.getfield 64, 3) := by decide +kernel
theorem dd_Model_isNameAgain_60 : decode prog_14_method_51_code 60 = .ok (.iload_n 3, 1) := by decide +kernel
theorem dd_Model_isNameAgain_61 : decode prog_14_method_51_code 61 = .ok (.iaload, 1) := by decide +kernel
theorem dd_Model_isNameAgain_62 : decode prog_14_method_51_code 62 = .ok (.iload 4, 2) := by decide +kernel
theorem dd_Model_isNameAgain_64 : decode prog_14_method_51_code 64 = .ok (.iadd, 1) := by decide +kernel
theorem dd_Model_isNameAgain_65 : decode prog_14_method_51_code 65 = .ok (.baload, 1) := by decide +kernel
theorem dd_Model_isNameAgain_66 : decode prog_14_method_51_code 66 = .ok (.aload_n 0, 1) := by decide +kernel
theorem dd_Model_isNameAgain_67 : decode prog_14_method_51_code 67 = .ok (.getfield 17, 3) := by decide +kernel
theorem dd_Model_isNameAgain_70 : decode prog_14_method_51_code 70 = .ok (.aload_n 0, 1) := by decide +kernel
theorem dd_Model_isNameAgain_71 : decode prog_14_method_51_code 71 = .ok (.getfield 64, 3) := by decide +kernel
theorem dd_Model_isNameAgain_74 : decode prog_14_method_51_code 74 = .ok (.iload_n 1, 1) := by decide +kernel
theorem dd_Model_isNameAgain_75 : decode prog_14_method_51_code 75 = .ok (.iaload, 1) := by decide +kernel
theorem dd_Model_isNameAgain_76 : decode prog_14_method_51_code 76 = .ok (.iload 4, 2) := by decide +kernel
theorem dd_Model_isNameAgain_78 : decode prog_14_method_51_code 78 = .ok (.iadd, 1) := by decide +kernel
theorem dd_Model_isNameAgain_79 : decode prog_14_method_51_code 79 = .ok (.baload, 1) := by decide +kernel
theorem dd_Model_isNameAgain_80 : decode prog_14_method_51_code 80 = .ok (.if_icmp .ne 7, 3) := by decide +kernel
theorem dd_Model_isNameAgain_83 : decode prog_14_method_51_code 83 = .ok (.iconst 1, 1) := by decide +kernel
theorem dd_Model_isNameAgain_84 : decode prog_14_method_51_code 84 = .ok (.goto 4, 3) := by decide +kernel
theorem dd_Model_isNameAgain_87 : decode prog_14_method_51_code 87 = .ok (.iconst 0, 1) := by decide +kernel
theorem dd_Model_isNameAgain_88 : decode prog_14_method_51_code 88 = .ok (.istore_n 2, 1) := by decide +kernel
theorem dd_Model_isNameAgain_89 : decode prog_14_method_51_code 89 = .ok (.iinc 4 1, 3) := by decide +kernel
theorem dd_Model_isNameAgain_92 : decode prog_14_method_51_code 92 = .ok (.goto (-55), 3) := by decide +kernel
theorem dd_Model_isNameAgain_95 : decode prog_14_method_51_code 95 = .ok (.iinc 3 1, 3) := by decide +kernel
theorem dd_Model_isNameAgain_98 : decode prog_14_method_51_code 98 = .ok (.goto (-94), 3) := by decide +kernel
theorem dd_Model_isNameAgain_101 : decode prog_14_method_51_code 101 = .ok (.iload_n 2, 1) := by decide +kernel
theorem dd_Model_isNameAgain_102 : decode prog_14_method_51_code 102 = .ok (.ireturn, 1) := by decide +kernel
theorem dd_Model_exportRow_0 : decode prog_14_method_52_code 0 = .ok (.aload_n 0, 1) := by decide +kernel
theorem dd_Model_exportRow_1 : decode prog_14_method_52_code 1 = .ok (.iconst 0, 1) := by decide +kernel
theorem dd_Model_exportRow_2 : decode prog_14_method_52_code 2 = .ok (.putfield 472, 3) := by decide +kernel
theorem dd_Model_exportRow_5 : decode prog_14_method_52_code 5 = .ok (.aload_n 0, 1) := by decide +kernel
theorem dd_Model_exportRow_6 : decode prog_14_method_52_code 6 = .ok (.bipush 7, 2) := by decide +kernel
theorem dd_Model_exportRow_8 : decode prog_14_method_52_code 8 = .ok (.invokevirtual 417, 3) := by decide +kernel
theorem dd_Model_exportRow_11 : decode prog_14_method_52_code 11 = .ok (.istore_n 1, 1) := by decide +kernel
theorem dd_Model_exportRow_12 : decode prog_14_method_52_code 12 = .ok (.iconst 0, 1) := by decide +kernel
theorem dd_Model_exportRow_13 : decode prog_14_method_52_code 13 = .ok (.istore_n 2, 1) := by decide +kernel
theorem dd_Model_exportRow_14 : decode prog_14_method_52_code 14 = .ok (.iload_n 2, 1) := by decide +kernel
theorem dd_Model_exportRow_15 : decode prog_14_method_52_code 15 = .ok (.iload_n 1, 1) := by decide +kernel
theorem dd_Model_exportRow_16 : decode prog_14_method_52_code 16 = .ok (.if_icmp .ge 182, 3) := by decide +kernel
theorem dd_Model_exportRow_19 : decode prog_14_method_52_code 19 = .ok (.aload_n 0, 1) := by decide +kernel
theorem dd_Model_exportRow_20 : decode prog_14_method_52_code 20 = .ok (.getfield 398, 3) := by decide +kernel
theorem dd_Model_exportRow_23 : decode prog_14_method_52_code 23 = .ok (.ifCond .ne 175, 3) := by decide +kernel
theorem dd_Model_exportRow_26 : decode prog_14_method_52_code 26 = .ok (.aload_n 0, 1) := by decide +kernel
theorem dd_Model_exportRow_27 : decode prog_14_method_52_code 27 = .ok (.getfield 67, 3) := by decide +kernel
theorem dd_Model_exportRow_30 : decode prog_14_method_52_code 30 = .ok (.iload_n 2, 1) := by decide +kernel
theorem dd_Model_exportRow_31 : decode prog_14_method_52_code 31 = .ok (.aload_n 0, 1) := by decide +kernel
theorem dd_Model_exportRow_32 : decode prog_14_method_52_code 32 = .ok (.invokevirtual 295, 3) := by decide +kernel
theorem dd_Model_exportRow_35 : decode prog_14_method_52_code 35 = .ok (.l2i, 1) := by decide +kernel
theorem dd_Model_exportRow_36 : decode prog_14_method_52_code 36 = .ok (.iastore, 1) := by decide +kernel
theorem dd_Model_exportRow_37 : decode prog_14_method_52_code 37 = .ok (.aload_n 0, 1) := by decide +kernel
theorem dd_Model_exportRow_38 : decode prog_14_method_52_code 38 = .ok (.getfield 64, 3) := by decide +kernel
theorem dd_Model_exportRow_41 : decode prog_14_method_52_code 41 = .ok (.iload_n 2, 1) := by decide +kernel
theorem dd_Model_exportRow_42 : decode prog_14_method_52_code 42 = .ok (.aload_n 0, 1) := by decide +kernel
theorem dd_Model_exportRow_43 : decode prog_14_method_52_code 43 = .ok (.getfield 168, 3) := by decide +kernel
theorem dd_Model_exportRow_46 : decode prog_14_method_52_code 46 = .ok (.iastore, 1) := by decide +kernel
theorem dd_Model_exportRow_47 : decode prog_14_method_52_code 47 = .ok (.aload_n 0, 1) := by decide +kernel
theorem dd_Model_exportRow_48 : decode prog_14_method_52_code 48 = .ok (.dup, 1) := by decide +kernel
theorem dd_Model_exportRow_49 : decode prog_14_method_52_code 49 = .ok (.getfield 168, 3) := by decide +kernel
theorem dd_Model_exportRow_52 : decode prog_14_method_52_code 52 = .ok (.aload_n 0, 1) := by decide +kernel
theorem dd_Model_exportRow_53 : decode prog_14_method_52_code 53 = .ok (.getfield 67, 3) := by decide +kernel
theorem dd_Model_exportRow_56 : decode prog_14_method_52_code 56 = .ok (.iload_n 2, 1) := by decide +kernel
theorem dd_Model_exportRow_57 : decode prog_14_method_52_code 57 = .ok (.iaload, 1) := by decide +kernel
theorem dd_Model_exportRow_58 : decode prog_14_method_52_code 58 = .ok (.iadd, 1) := by decide +kernel
theorem dd_Model_exportRow_59 : decode prog_14_method_52_code 59 = .ok (.putfield 168, 3) := by decide +kernel
theorem dd_Model_exportRow_62 : decode prog_14_method_52_code 62 = .ok (.aload_n 0, 1) := by decide +kernel
theorem dd_Model_exportRow_63 : decode prog_14_method_52_code 63 = .ok (.getfield 70, 3) := by decide +kernel
theorem dd_Model_exportRow_66 : decode prog_14_method_52_code 66 = .ok (.iload_n 2, 1) := by decide +kernel
theorem dd_Model_exportRow_67 : decode prog_14_method_52_code 67 = .ok (.aload_n 0, 1) := by decide +kernel
theorem dd_Model_exportRow_68 : decode prog_14_method_52_code 68 = .ok (.invokevirtual 178, 3) := by decide +kernel
theorem dd_Model_exportRow_71 : decode prog_14_method_52_code 71 = .ok (.iastore, 1) := by decide +kernel
theorem dd_Model_exportRow_72 : decode prog_14_method_52_code 72 = .ok (.aload_n 0, 1) := by decide +kernel
theorem dd_Model_exportRow_73 : decode prog_14_method_52_code 73 = .ok (.invokevirtual 295, 3) := by decide +kernel
theorem dd_Model_exportRow_76 : decode prog_14_method_52_code 76 = .ok (.lstore_n 3, 1) := by decide +kernel
theorem dd_Model_exportRow_77 : decode prog_14_method_52_code 77 = .ok (.aload_n 0, 1) := by decide +kernel
theorem dd_Model_exportRow_78 : decode prog_14_method_52_code 78 = .ok (.getfield 70, 3) := by decide +kernel
theorem dd_Model_exportRow_81 : decode prog_14_method_52_code 81 = .ok (.iload_n 2, 1) := by decide +kernel
theorem dd_Model_exportRow_82 : decode prog_14_method_52_code 82 = .ok (.iaload, 1) := by decide +kernel
theorem dd_Model_exportRow_83 : decode prog_14_method_52_code 83 = .ok (.ifCond .ne 10, 3) := by decide +kernel
theorem dd_Model_exportRow_86 : decode prog_14_method_52_code 86 = .ok (.aload_n 0, 1) := by decide +kernel
theorem dd_Model_exportRow_87 : decode prog_14_method_52_code 87 = .ok (.getfield 423, 3) := by decide +kernel
theorem dd_Model_exportRow_90 : decode prog_14_method_52_code 90 = .ok (.goto 57, 3) := by decide +kernel
theorem dd_Model_exportRow_93 : decode prog_14_method_52_code 93 = .ok (.aload_n 0, 1) := by decide +kernel
theorem dd_Model_exportRow_94 : decode prog_14_method_52_code 94 = .ok (.getfield 70, 3) := by decide +kernel
theorem dd_Model_exportRow_97 : decode prog_14_method_52_code 97 = .ok (.iload_n 2, 1) := by decide +kernel
theorem dd_Model_exportRow_98 : decode prog_14_method_52_code 98 = .ok (.iaload, 1) := by decide +kernel
theorem dd_Model_exportRow_99 : decode prog_14_method_52_code 99 = .ok (.iconst 1, 1) := by decide +kernel
theorem dd_Model_exportRow_100 : decode prog_14_method_52_code 100 = .ok (.if_icmp .ne 18, 3) := by decide +kernel
theorem dd_Model_exportRow_103 : decode prog_14_method_52_code 103 = .ok (.aload_n 0, 1) := by decide +kernel
theorem dd_Model_exportRow_104 : decode prog_14_method_52_code 104 = .ok (.getfield 451, 3) := by decide +kernel
theorem dd_Model_exportRow_107 : decode prog_14_method_52_code 107 = .ok (.ifCond .eq 7, 3) := by decide +kernel
theorem dd_Model_exportRow_110 : decode prog_14_method_52_code 110 = .ok (.iconst 1, 1) := by decide +kernel
theorem dd_Model_exportRow_111 : decode prog_14_method_52_code 111 = .ok (.goto 36, 3) := by decide +kernel
theorem dd_Model_exportRow_114 : decode prog_14_method_52_code 114 = .ok (.iconst 0, 1) := by decide +kernel
theorem dd_Model_exportRow_115 : decode prog_14_method_52_code 115 = .ok (.goto 32, 3) := by decide +kernel
theorem dd_Model_exportRow_118 : decode prog_14_method_52_code 118 = .ok (.aload_n 0, 1) := by decide +kernel
theorem dd_Model_exportRow_119 : decode prog_14_method_52_code 119 = .ok (.getfield 70, 3) := by decide +kernel
theorem dd_Model_exportRow_122 : decode prog_14_method_52_code 122 = .ok (.iload_n 2, 1) := by decide +kernel
theorem dd_Model_exportRow_123 : decode prog_14_method_52_code 123 = .ok (.iaload, 1) := by decide +kernel
theorem dd_Model_exportRow_124 : decode prog_14_method_52_code 124 = .ok (.iconst 2, 1) := by decide +kernel
theorem dd_Model_exportRow_125 : decode prog_14_method_52_code 125 = .ok (.if_icmp .ne 18, 3) := by decide +kernel
theorem dd_Model_exportRow_128 : decode prog_14_method_52_code 128 = .ok (.aload_n 0, 1) := by decide +kernel
theorem dd_Model_exportRow_129 : decode prog_14_method_52_code 129 = .ok (.getfield 457, 3) := by decide +kernel
theorem dd_Model_exportRow_132 : decode prog_14_method_52_code 132 = .ok (.ifCond .eq 7, 3) := by decide +kernel
theorem dd_Model_exportRow_135 : decode prog_14_method_52_code 135 = .ok (.iconst 1, 1) := by decide +kernel
theorem dd_Model_exportRow_136 : decode prog_14_method_52_code 136 = .ok (.goto 11, 3) := by decide +kernel
theorem dd_Model_exportRow_139 : decode prog_14_method_52_code 139 = .ok (.iconst 0, 1) := by decide +kernel
theorem dd_Model_exportRow_140 : decode prog_14_method_52_code 140 = .ok (.goto 7, 3) := by decide +kernel
theorem dd_Model_exportRow_143 : decode prog_14_method_52_code 143 = .ok (.aload_n 0, 1) := by decide +kernel
theorem dd_Model_exportRow_144 : decode prog_14_method_52_code 144 = .ok (.getfield 466, 3) := by decide +kernel
theorem dd_Model_exportRow_147 : decode prog_14_method_52_code 147 = .ok (.istore 5, 2) := by decide +kernel
theorem dd_Model_exportRow_149 : decode prog_14_method_52_code 149 = .ok (.aload_n 0, 1) := by decide +kernel
theorem dd_Model_exportRow_150 : decode prog_14_method_52_code 150 = .ok (.lload_n 3, 1) := by decide +kernel
theorem dd_Model_exportRow_151 : decode prog_14_method_52_code 151 = .ok (.iload 5, 2) := by decide +kernel
theorem dd_Model_exportRow_153 : decode prog_14_method_52_code 153 = .ok (.i2l, 1) := by decide +kernel
theorem dd_Model_exportRow_154 : decode prog_14_method_52_code 154 = .ok (.lcmp, 1) := by decide +kernel
theorem dd_Model_exportRow_155 : decode prog_14_method_52_code 155 = .ok (.ifCond .ge 11, 3) := by decide +kernel
theorem dd_Model_exportRow_158 : decode prog_14_method_52_code 158 = .ok (.aload_n 0, 1) := by decide +kernel
theorem dd_Model_exportRow_159 : decode prog_14_method_52_code 159 = .ok (.iload_n 2, 1) := by decide +kernel
theorem dd_Model_exportRow_160 : decode prog_14_method_52_code 160 = .ok (.invokevirtual 475, 3) := by decide +kernel
theorem dd_Model_exportRow_163 : decode prog_14_method_52_code 163 = .ok (.ifCond .eq 7, 3) := by decide +kernel
theorem dd_Model_exportRow_166 : decode prog_14_method_52_code 166 = .ok (.iconst 1, 1) := by decide +kernel
theorem dd_Model_exportRow_167 : decode prog_14_method_52_code 167 = .ok (.goto 4, 3) := by decide +kernel
theorem dd_Model_exportRow_170 : decode prog_14_method_52_code 170 = .ok (.iconst 0, 1) := by decide +kernel
theorem dd_Model_exportRow_171 : decode prog_14_method_52_code 171 = .ok (.putfield 398, 3) := by decide +kernel
theorem dd_Model_exportRow_174 : decode prog_14_method_52_code 174 = .ok (.aload_n 0, 1) := by decide +kernel
theorem dd_Model_exportRow_175 : decode prog_14_method_52_code 175 = .ok (.getfield 73, 3) := by decide +kernel
theorem dd_Model_exportRow_178 : decode prog_14_method_52_code 178 = .ok (.iload_n 2, 1) := by decide +kernel
theorem dd_Model_exportRow_179 : decode prog_14_method_52_code 179 = .ok (.lload_n 3, 1) := by decide +kernel
theorem dd_Model_exportRow_180 : decode prog_14_method_52_code 180 = .ok (.l2i, 1) := by decide +kernel
theorem dd_Model_exportRow_181 : decode prog_14_method_52_code 181 = .ok (.iastore, 1) := by decide +kernel
theorem dd_Model_exportRow_182 : decode prog_14_method_52_code 182 = .ok (.aload_n 0, 1) := by decide +kernel
theorem dd_Model_exportRow_183 : decode prog_14_method_52_code 183 = .ok (.dup, 1) := by decide +kernel
theorem dd_Model_exportRow_184 : decode prog_14_method_52_code 184 = .ok (.getfield 472, 3) := by decide +kernel
theorem dd_Model_exportRow_187 : decode prog_14_method_52_code 187 = .ok (.iconst 1, 1) := by decide +kernel
theorem dd_Model_exportRow_188 : decode prog_14_method_52_code 188 = .ok (.iadd, 1) := by decide +kernel
theorem dd_Model_exportRow_189 : decode prog_14_method_52_code 189 = .ok (.putfield 472, 3) := by decide +kernel
theorem dd_Model_exportRow_192 : decode prog_14_method_52_code 192 = .ok (.iinc 2 1, 3) := by decide +kernel
theorem dd_Model_exportRow_195 : decode prog_14_method_52_code 195 = .ok (.goto (-181), 3) := by decide +kernel
theorem dd_Model_exportRow_198 : decode prog_14_method_52_code 198 = .ok (.return_, 1) := by decide +kernel
theorem dd_Model_globalRow_0 : decode prog_14_method_50_code 0 = .ok (.aload_n 0, 1) := by decide +kernel
theorem dd_Model_globalRow_1 : decode prog_14_method_50_code 1 = .ok (.iconst 0, 1) := by decide +kernel
theorem dd_Model_globalRow_2 : decode prog_14_method_50_code 2 = .ok (.putfield 466, 3) := by decide +kernel
theorem dd_Model_globalRow_5 : decode prog_14_method_50_code 5 = .ok (.aload_n 0, 1) := by decide +kernel
theorem dd_Model_globalRow_6 : decode prog_14_method_50_code 6 = .ok (.bipush 6, 2) := by decide +kernel
theorem dd_Model_globalRow_8 : decode prog_14_method_50_code 8 = .ok (.invokevirtual 417, 3) := by decide +kernel
theorem dd_Model_globalRow_11 : decode prog_14_method_50_code 11 = .ok (.istore_n 1, 1) := by decide +kernel
theorem dd_Model_globalRow_12 : decode prog_14_method_50_code 12 = .ok (.iconst 0, 1) := by decide +kernel
theorem dd_Model_globalRow_13 : decode prog_14_method_50_code 13 = .ok (.istore_n 2, 1) := by decide +kernel
theorem dd_Model_globalRow_14 : decode prog_14_method_50_code 14 = .ok (.iload_n 2, 1) := by decide +kernel
theorem dd_Model_globalRow_15 : decode prog_14_method_50_code 15 = .ok (.iload_n 1, 1) := by decide +kernel
theorem dd_Model_globalRow_16 : decode prog_14_method_50_code 16 = .ok (.if_icmp .ge 128, 3) := by decide +kernel
theorem dd_Model_globalRow_19 : decode prog_14_method_50_code 19 = .ok (.aload_n 0, 1) := by decide +kernel
theorem dd_Model_globalRow_20 : decode prog_14_method_50_code 20 = .ok (.getfield 398, 3) := by decide +kernel
theorem dd_Model_globalRow_23 : decode prog_14_method_50_code 23 = .ok (.ifCond .ne 121, 3) := by decide +kernel
theorem dd_Model_globalRow_26 : decode prog_14_method_50_code 26 = .ok (.aload_n 0, 1) := by decide +kernel
theorem dd_Model_globalRow_27 : decode prog_14_method_50_code 27 = .ok (.invokevirtual 210, 3) := by decide +kernel
theorem dd_Model_globalRow_30 : decode prog_14_method_50_code 30 = .ok (.istore_n 3, 1) := by decide +kernel
theorem dd_Model_globalRow_31 : decode prog_14_method_50_code 31 = .ok (.aload_n 0, 1) := by decide +kernel
theorem dd_Model_globalRow_32 : decode prog_14_method_50_code 32 = .ok (.getfield 57, 3) := by decide +kernel
theorem dd_Model_globalRow_35 : decode prog_14_method_50_code 35 = .ok (.iload_n 2, 1) := by decide +kernel
theorem dd_Model_globalRow_36 : decode prog_14_method_50_code 36 = .ok (.iload_n 3, 1) := by decide +kernel
theorem dd_Model_globalRow_37 : decode prog_14_method_50_code 37 = .ok (.iastore, 1) := by decide +kernel
theorem dd_Model_globalRow_38 : decode prog_14_method_50_code 38 = .ok (.aload_n 0, 1) := by decide +kernel
theorem dd_Model_globalRow_39 : decode prog_14_method_50_code 39 = .ok (.getfield 60, 3) := by decide +kernel
theorem dd_Model_globalRow_42 : decode prog_14_method_50_code 42 = .ok (.iload_n 2, 1) := by decide +kernel
theorem dd_Model_globalRow_43 : decode prog_14_method_50_code 43 = .ok (.aload_n 0, 1) := by decide +kernel
theorem dd_Model_globalRow_44 : decode prog_14_method_50_code 44 = .ok (.invokevirtual 357, 3) := by decide +kernel
theorem dd_Model_globalRow_47 : decode prog_14_method_50_code 47 = .ok (.iconst 1, 1) := by decide +kernel
theorem dd_Model_globalRow_48 : decode prog_14_method_50_code 48 = .ok (.if_icmp .ne 7, 3) := by decide +kernel
theorem dd_Model_globalRow_51 : decode prog_14_method_50_code 51 = .ok (.iconst 1, 1) := by decide +kernel
theorem dd_Model_globalRow_52 : decode prog_14_method_50_code 52 = .ok (.goto 4, 3) := by decide +kernel
theorem dd_Model_globalRow_55 : decode prog_14_method_50_code 55 = .ok (.iconst 0, 1) := by decide +kernel
theorem dd_Model_globalRow_56 : decode prog_14_method_50_code 56 = .ok (.bastore, 1) := by decide +kernel
theorem dd_Model_globalRow_57 : decode prog_14_method_50_code 57 = .ok (.aload_n 0, 1) := by decide +kernel
theorem dd_Model_globalRow_58 : decode prog_14_method_50_code 58 = .ok (.invokevirtual 360, 3) := by decide +kernel
theorem dd_Model_globalRow_61 : decode prog_14_method_50_code 61 = .ok (.istore 4, 2) := by decide +kernel
theorem dd_Model_globalRow_63 : decode prog_14_method_50_code 63 = .ok (.aload_n 0, 1) := by decide +kernel
theorem dd_Model_globalRow_64 : decode prog_14_method_50_code 64 = .ok (.aload_n 0, 1) := by decide +kernel
theorem dd_Model_globalRow_65 : decode prog_14_method_50_code 65 = .ok (.iload_n 3, 1) := by decide +kernel
theorem dd_Model_globalRow_66 : decode prog_14_method_50_code 66 = .ok (.aload_n 0, 1) := by decide +kernel
theorem dd_Model_globalRow_67 : decode prog_14_method_50_code 67 = .ok (.getfield 414, 3) := by decide +kernel
theorem dd_Model_globalRow_70 : decode prog_14_method_50_code 70 = .ok (.invokevirtual 404, 3) := by decide +kernel
theorem dd_Model_globalRow_73 : decode prog_14_method_50_code 73 = .ok (.ifCond .eq 26, 3) := by decide +kernel
theorem dd_Model_globalRow_76 : decode prog_14_method_50_code 76 = .ok (.aload_n 0, 1) := by decide +kernel
theorem dd_Model_globalRow_77 : decode prog_14_method_50_code 77 = .ok (.iload 4, 2) := by decide +kernel
theorem dd_Model_globalRow_79 : decode prog_14_method_50_code 79 = .ok (.aload_n 0, 1) := by decide +kernel
theorem dd_Model_globalRow_80 : decode prog_14_method_50_code 80 = .ok (.getfield 414, 3) := by decide +kernel
theorem dd_Model_globalRow_83 : decode prog_14_method_50_code 83 = .ok (.invokevirtual 404, 3) := by decide +kernel
theorem dd_Model_globalRow_86 : decode prog_14_method_50_code 86 = .ok (.ifCond .eq 13, 3) := by decide +kernel
theorem dd_Model_globalRow_89 : decode prog_14_method_50_code 89 = .ok (.aload_n 0, 1) := by decide +kernel
theorem dd_Model_globalRow_90 : decode prog_14_method_50_code 90 = .ok (.iload 4, 2) := by decide +kernel
theorem dd_Model_globalRow_92 : decode prog_14_method_50_code 92 = .ok (.iload_n 3, 1) := by decide +kernel
theorem dd_Model_globalRow_93 : decode prog_14_method_50_code 93 = .ok (.invokevirtual 469, 3) := by decide +kernel
theorem dd_Model_globalRow_96 : decode prog_14_method_50_code 96 = .ok (.ifCond .ne 7, 3) := by decide +kernel
theorem dd_Model_globalRow_99 : decode prog_14_method_50_code 99 = .ok (.iconst 1, 1) := by decide +kernel
theorem dd_Model_globalRow_100 : decode prog_14_method_50_code 100 = .ok (.goto 4, 3) := by decide +kernel
theorem dd_Model_globalRow_103 : decode prog_14_method_50_code 103 = .ok (.iconst 0, 1) := by decide +kernel
theorem dd_Model_globalRow_104 : decode prog_14_method_50_code 104 = .ok (.putfield 398, 3) := by decide +kernel
theorem dd_Model_globalRow_107 : decode prog_14_method_50_code 107 = .ok (.aload_n 0, 1) := by decide +kernel
theorem dd_Model_globalRow_108 : decode prog_14_method_50_code 108 = .ok (.getfield 100, 3) := by decide +kernel
theorem dd_Model_globalRow_111 : decode prog_14_method_50_code 111 = .ok (.iload_n 2, 1) := by decide +kernel
theorem dd_Model_globalRow_112 : decode prog_14_method_50_code 112 = .ok (.iload_n 3, 1) := by decide +kernel
theorem dd_Model_globalRow_113 : decode prog_14_method_50_code 113 = .ok (.invokestatic 384, 3) := by decide +kernel
theorem dd_Model_globalRow_116 : decode prog_14_method_50_code 116 = .ok (.ifCond .eq 7, 3) := by decide +kernel
theorem dd_Model_globalRow_119 : decode prog_14_method_50_code 119 = .ok (.lconst 0, 1) := by decide +kernel
theorem dd_Model_globalRow_120 : decode prog_14_method_50_code 120 = .ok (.goto 7, 3) := by decide +kernel
theorem dd_Model_globalRow_123 : decode prog_14_method_50_code 123 = .ok (.aload_n 0, 1) := by decide +kernel
theorem dd_Model_globalRow_124 : decode prog_14_method_50_code 124 = .ok (.getfield 273, 3) := by decide +kernel
theorem dd_Model_globalRow_127 : decode prog_14_method_50_code 127 = .ok (.lastore, 1) := by decide +kernel
theorem dd_Model_globalRow_128 : decode prog_14_method_50_code 128 = .ok (.aload_n 0, 1) := by decide +kernel
theorem dd_Model_globalRow_129 : decode prog_14_method_50_code 129 = .ok (.dup, 1) := by decide +kernel
theorem dd_Model_globalRow_130 : decode prog_14_method_50_code 130 = .ok (.getfield 466, 3) := by decide +kernel
theorem dd_Model_globalRow_133 : decode prog_14_method_50_code 133 = .ok (.iconst 1, 1) := by decide +kernel
theorem dd_Model_globalRow_134 : decode prog_14_method_50_code 134 = .ok (.iadd, 1) := by decide +kernel
theorem dd_Model_globalRow_135 : decode prog_14_method_50_code 135 = .ok (.putfield 466, 3) := by decide +kernel
theorem dd_Model_globalRow_138 : decode prog_14_method_50_code 138 = .ok (.iinc 2 1, 3) := by decide +kernel
theorem dd_Model_globalRow_141 : decode prog_14_method_50_code 141 = .ok (.goto (-127), 3) := by decide +kernel
theorem dd_Model_globalRow_144 : decode prog_14_method_50_code 144 = .ok (.return_, 1) := by decide +kernel
theorem dd_Model_tableAndMemory_0 : decode prog_14_method_49_code 0 = .ok (.aload_n 0, 1) := by decide +kernel
theorem dd_Model_tableAndMemory_1 : decode prog_14_method_49_code 1 = .ok (.aload_n 0, 1) := by decide +kernel
theorem dd_Model_tableAndMemory_2 : decode prog_14_method_49_code 2 = .ok (.iconst 4, 1) := by decide +kernel
theorem dd_Model_tableAndMemory_3 : decode prog_14_method_49_code 3 = .ok (.invokevirtual 417, 3) := by decide +kernel
theorem dd_Model_tableAndMemory_6 : decode prog_14_method_49_code 6 = .ok (.ifCond .le 7, 3) := by decide +kernel
theorem dd_Model_tableAndMemory_9 : decode prog_14_method_49_code 9 = .ok (.iconst 1, 1) := by decide +kernel
theorem dd_Model_tableAndMemory_10 : decode prog_14_method_49_code 10 = .ok (.goto 4, 3) := by decide +kernel
theorem dd_Model_tableAndMemory_13 : decode prog_14_method_49_code 13 = .ok (.iconst 0, 1) := by decide +kernel
theorem dd_Model_tableAndMemory_14 : decode prog_14_method_49_code 14 = .ok (.putfield 451, 3) := by decide +kernel
theorem dd_Model_tableAndMemory_17 : decode prog_14_method_49_code 17 = .ok (.aload_n 0, 1) := by decide +kernel
theorem dd_Model_tableAndMemory_18 : decode prog_14_method_49_code 18 = .ok (.iconst 0, 1) := by decide +kernel
theorem dd_Model_tableAndMemory_19 : decode prog_14_method_49_code 19 = .ok (.putfield 454, 3) := by decide +kernel
theorem dd_Model_tableAndMemory_22 : decode prog_14_method_49_code 22 = .ok (.aload_n 0, 1) := by decide +kernel
theorem dd_Model_tableAndMemory_23 : decode prog_14_method_49_code 23 = .ok (.getfield 451, 3) := by decide +kernel
theorem dd_Model_tableAndMemory_26 : decode prog_14_method_49_code 26 = .ok (.ifCond .eq 107, 3) := by decide +kernel
theorem dd_Model_tableAndMemory_29 : decode prog_14_method_49_code 29 = .ok (.aload_n 0, 1) := by decide +kernel
theorem dd_Model_tableAndMemory_30 : decode prog_14_method_49_code 30 = .ok (.aload_n 0, 1) := by decide +kernel
theorem dd_Model_tableAndMemory_31 : decode prog_14_method_49_code 31 = .ok (.getfield 20, 3) := by decide +kernel
theorem dd_Model_tableAndMemory_34 : decode prog_14_method_49_code 34 = .ok (.iconst 4, 1) := by decide +kernel
theorem dd_Model_tableAndMemory_35 : decode prog_14_method_49_code 35 = .ok (.iaload, 1) := by decide +kernel
theorem dd_Model_tableAndMemory_36 : decode prog_14_method_49_code 36 = .ok (.putfield 168, 3) := by decide +kernel
theorem dd_Model_tableAndMemory_39 : decode prog_14_method_49_code 39 = .ok (.aload_n 0, 1) := by decide +kernel
theorem dd_Model_tableAndMemory_40 : decode prog_14_method_49_code 40 = .ok (.aload_n 0, 1) := by decide +kernel
theorem dd_Model_tableAndMemory_41 : decode prog_14_method_49_code 41 = .ok (.getfield 398, 3) := by decide +kernel
theorem dd_Model_tableAndMemory_44 : decode prog_14_method_49_code 44 = .ok (.ifCond .ne 12, 3) := by decide +kernel
theorem dd_Model_tableAndMemory_47 : decode prog_14_method_49_code 47 = .ok (.aload_n 0, 1) := by decide +kernel
theorem dd_Model_tableAndMemory_48 : decode prog_14_method_49_code 48 = .ok (.invokevirtual 295, 3) := by decide +kernel
theorem dd_Model_tableAndMemory_51 : decode prog_14_method_49_code 51 = .ok (.lconst 1, 1) := by decide +kernel
theorem dd_Model_tableAndMemory_52 : decode prog_14_method_49_code 52 = .ok (.lcmp, 1) := by decide +kernel
theorem dd_Model_tableAndMemory_53 : decode prog_14_method_49_code 53 = .ok (.ifCond .le 7, 3) := by decide +kernel
theorem dd_Model_tableAndMemory_56 : decode prog_14_method_49_code 56 = .ok (.iconst 1, 1) := by decide +kernel
theorem dd_Model_tableAndMemory_57 : decode prog_14_method_49_code 57 = .ok (.goto 4, 3) := by decide +kernel
theorem dd_Model_tableAndMemory_60 : decode prog_14_method_49_code 60 = .ok (.iconst 0, 1) := by decide +kernel
theorem dd_Model_tableAndMemory_61 : decode prog_14_method_49_code 61 = .ok (.putfield 398, 3) := by decide +kernel
theorem dd_Model_tableAndMemory_64 : decode prog_14_method_49_code 64 = .ok (.aload_n 0, 1) := by decide +kernel
theorem dd_Model_tableAndMemory_65 : decode prog_14_method_49_code 65 = .ok (.bipush 112, 2) := by decide +kernel
theorem dd_Model_tableAndMemory_67 : decode prog_14_method_49_code 67 = .ok (.invokevirtual 308, 3) := by decide +kernel
theorem dd_Model_tableAndMemory_70 : decode prog_14_method_49_code 70 = .ok (.aload_n 0, 1) := by decide +kernel
theorem dd_Model_tableAndMemory_71 : decode prog_14_method_49_code 71 = .ok (.invokevirtual 354, 3) := by decide +kernel
theorem dd_Model_tableAndMemory_74 : decode prog_14_method_49_code 74 = .ok (.aload_n 0, 1) := by decide +kernel
theorem dd_Model_tableAndMemory_75 : decode prog_14_method_49_code 75 = .ok (.aload_n 0, 1) := by decide +kernel
theorem dd_Model_tableAndMemory_76 : decode prog_14_method_49_code 76 = .ok (.getfield 398, 3) := by decide +kernel
theorem dd_Model_tableAndMemory_79 : decode prog_14_method_49_code 79 = .ok (.ifCond .ne 37, 3) := by decide +kernel
theorem dd_Model_tableAndMemory_82 : decode prog_14_method_49_code 82 = .ok (.aload_n 0, 1) := by decide +kernel
theorem dd_Model_tableAndMemory_83 : decode prog_14_method_49_code 83 = .ok (.getfield 273, 3) := by decide +kernel
theorem dd_Model_tableAndMemory_86 : decode prog_14_method_49_code 86 = .ok (.ldc2_w 197, 3) := by decide +kernel
theorem dd_Model_tableAndMemory_89 : decode prog_14_method_49_code 89 = .ok (.lcmp, 1) := by decide +kernel
theorem dd_Model_tableAndMemory_90 : decode prog_14_method_49_code 90 = .ok (.ifCond .gt 26, 3) := by decide +kernel
theorem dd_Model_tableAndMemory_93 : decode prog_14_method_49_code 93 = .ok (.aload_n 0, 1) := by decide +kernel
theorem dd_Model_tableAndMemory_94 : decode prog_14_method_49_code 94 = .ok (.getfield 277, 3) := by decide +kernel
theorem dd_Model_tableAndMemory_97 : decode prog_14_method_49_code 97 = .ok (.ldc2_w 184, 3) := by decide +kernel
theorem dd_Model_tableAndMemory_100 : decode prog_14_method_49_code 100 = .ok (.lcmp, 1) := by decide +kernel
theorem dd_Model_tableAndMemory_101 : decode prog_14_method_49_code 101 = .ok (.ifCond .eq 19, 3) := by decide +kernel
theorem dd_Model_tableAndMemory_104 : decode prog_14_method_49_code 104 = .ok (.aload_n 0, 1) := by decide +kernel
theorem dd_Model_tableAndMemory_105 : decode prog_14_method_49_code 105 = .ok (.getfield 277, 3) := by decide +kernel
theorem dd_Model_tableAndMemory_108 : decode prog_14_method_49_code 108 = .ok (.aload_n 0, 1) := by decide +kernel
theorem dd_Model_tableAndMemory_109 : decode prog_14_method_49_code 109 = .ok (.getfield 273, 3) := by decide +kernel
theorem dd_Model_tableAndMemory_112 : decode prog_14_method_49_code 112 = .ok (.lcmp, 1) := by decide +kernel
theorem dd_Model_tableAndMemory_113 : decode prog_14_method_49_code 113 = .ok (.ifCond .ge 7, 3) := by decide +kernel
theorem dd_Model_tableAndMemory_116 : decode prog_14_method_49_code 116 = .ok (.iconst 1, 1) := by decide +kernel
theorem dd_Model_tableAndMemory_117 : decode prog_14_method_49_code 117 = .ok (.goto 4, 3) := by decide +kernel
theorem dd_Model_tableAndMemory_120 : decode prog_14_method_49_code 120 = .ok (.iconst 0, 1) := by decide +kernel
theorem dd_Model_tableAndMemory_121 : decode prog_14_method_49_code 121 = .ok (.putfield 398, 3) := by decide +kernel
theorem dd_Model_tableAndMemory_124 : decode prog_14_method_49_code 124 = .ok (.aload_n 0, 1) := by decide +kernel
theorem dd_Model_tableAndMemory_125 : decode prog_14_method_49_code 125 = .ok (.aload_n 0, 1) := by decide +kernel
theorem dd_Model_tableAndMemory_126 : decode prog_14_method_49_code 126 = .ok (.getfield 273, 3) := by decide +kernel
theorem dd_Model_tableAndMemory_129 : decode prog_14_method_49_code 129 = .ok (.l2i, 1) := by decide +kernel
theorem dd_Model_tableAndMemory_130 : decode prog_14_method_49_code 130 = .ok (.putfield 454, 3) := by decide +kernel
theorem dd_Model_tableAndMemory_133 : decode prog_14_method_49_code 133 = .ok (.aload_n 0, 1) := by decide +kernel
theorem dd_Model_tableAndMemory_134 : decode prog_14_method_49_code 134 = .ok (.getfield 398, 3) := by decide +kernel
theorem dd_Model_tableAndMemory_137 : decode prog_14_method_49_code 137 = .ok (.ifCond .eq 4, 3) := by decide +kernel
theorem dd_Model_tableAndMemory_140 : decode prog_14_method_49_code 140 = .ok (.return_, 1) := by decide +kernel
theorem dd_Model_tableAndMemory_141 : decode prog_14_method_49_code 141 = .ok (.aload_n 0, 1) := by decide +kernel
theorem dd_Model_tableAndMemory_142 : decode prog_14_method_49_code 142 = .ok (.aload_n 0, 1) := by decide +kernel
theorem dd_Model_tableAndMemory_143 : decode prog_14_method_49_code 143 = .ok (.iconst 5, 1) := by decide +kernel
theorem dd_Model_tableAndMemory_144 : decode prog_14_method_49_code 144 = .ok (.invokevirtual 417, 3) := by decide +kernel
theorem dd_Model_tableAndMemory_147 : decode prog_14_method_49_code 147 = .ok (.ifCond .le 7, 3) := by decide +kernel
theorem dd_Model_tableAndMemory_150 : decode prog_14_method_49_code 150 = .ok (.iconst 1, 1) := by decide +kernel
theorem dd_Model_tableAndMemory_151 : decode prog_14_method_49_code 151 = .ok (.goto 4, 3) := by decide +kernel
theorem dd_Model_tableAndMemory_154 : decode prog_14_method_49_code 154 = .ok (.iconst 0, 1) := by decide +kernel
theorem dd_Model_tableAndMemory_155 : decode prog_14_method_49_code 155 = .ok (.putfield 457, 3) := by decide +kernel
theorem dd_Model_tableAndMemory_158 : decode prog_14_method_49_code 158 = .ok (.aload_n 0, 1) := by decide +kernel
theorem dd_Model_tableAndMemory_159 : decode prog_14_method_49_code 159 = .ok (.iconst 0, 1) := by decide +kernel
theorem dd_Model_tableAndMemory_160 : decode prog_14_method_49_code 160 = .ok (.putfield 460, 3) := by decide +kernel
theorem dd_Model_tableAndMemory_163 : decode prog_14_method_49_code 163 = .ok (.aload_n 0, 1) := by decide +kernel
theorem dd_Model_tableAndMemory_164 : decode prog_14_method_49_code 164 = .ok (.iconst 0, 1) := by decide +kernel
theorem dd_Model_tableAndMemory_165 : decode prog_14_method_49_code 165 = .ok (.putfield 463, 3) := by decide +kernel
theorem dd_Model_tableAndMemory_168 : decode prog_14_method_49_code 168 = .ok (.aload_n 0, 1) := by decide +kernel
theorem dd_Model_tableAndMemory_169 : decode prog_14_method_49_code 169 = .ok (.getfield 457, 3) := by decide +kernel
theorem dd_Model_tableAndMemory_172 : decode prog_14_method_49_code 172 = .ok (.ifCond .eq 137, 3) := by decide +kernel
theorem dd_Model_tableAndMemory_175 : decode prog_14_method_49_code 175 = .ok (.aload_n 0, 1) := by decide +kernel
theorem dd_Model_tableAndMemory_176 : decode prog_14_method_49_code 176 = .ok (.aload_n 0, 1) := by decide +kernel
theorem dd_Model_tableAndMemory_177 : decode prog_14_method_49_code 177 = .ok (.getfield 20, 3) := by decide +kernel
theorem dd_Model_tableAndMemory_180 : decode prog_14_method_49_code 180 = .ok (.iconst 5, 1) := by decide +kernel
theorem dd_Model_tableAndMemory_181 : decode prog_14_method_49_code 181 = .ok (.iaload, 1) := by decide +kernel
theorem dd_Model_tableAndMemory_182 : decode prog_14_method_49_code 182 = .ok (.putfield 168, 3) := by decide +kernel
theorem dd_Model_tableAndMemory_185 : decode prog_14_method_49_code 185 = .ok (.aload_n 0, 1) := by decide +kernel
theorem dd_Model_tableAndMemory_186 : decode prog_14_method_49_code 186 = .ok (.aload_n 0, 1) := by decide +kernel
theorem dd_Model_tableAndMemory_187 : decode prog_14_method_49_code 187 = .ok (.getfield 398, 3) := by decide +kernel
theorem dd_Model_tableAndMemory_190 : decode prog_14_method_49_code 190 = .ok (.ifCond .ne 12, 3) := by decide +kernel
theorem dd_Model_tableAndMemory_193 : decode prog_14_method_49_code 193 = .ok (.aload_n 0, 1) := by decide +kernel
theorem dd_Model_tableAndMemory_194 : decode prog_14_method_49_code 194 = .ok (.invokevirtual 295, 3) := by decide +kernel
theorem dd_Model_tableAndMemory_197 : decode prog_14_method_49_code 197 = .ok (.lconst 1, 1) := by decide +kernel
theorem dd_Model_tableAndMemory_198 : decode prog_14_method_49_code 198 = .ok (.lcmp, 1) := by decide +kernel
theorem dd_Model_tableAndMemory_199 : decode prog_14_method_49_code 199 = .ok (.ifCond .le 7, 3) := by decide +kernel
theorem dd_Model_tableAndMemory_202 : decode prog_14_method_49_code 202 = .ok (.iconst 1, 1) := by decide +kernel
theorem dd_Model_tableAndMemory_203 : decode prog_14_method_49_code 203 = .ok (.goto 4, 3) := by decide +kernel
theorem dd_Model_tableAndMemory_206 : decode prog_14_method_49_code 206 = .ok (.iconst 0, 1) := by decide +kernel
theorem dd_Model_tableAndMemory_207 : decode prog_14_method_49_code 207 = .ok (.putfield 398, 3) := by decide +kernel
theorem dd_Model_tableAndMemory_210 : decode prog_14_method_49_code 210 = .ok (.aload_n 0, 1) := by decide +kernel
theorem dd_Model_tableAndMemory_211 : decode prog_14_method_49_code 211 = .ok (.invokevirtual 354, 3) := by decide +kernel
theorem dd_Model_tableAndMemory_214 : decode prog_14_method_49_code 214 = .ok (.aload_n 0, 1) := by decide +kernel
theorem dd_Model_tableAndMemory_215 : decode prog_14_method_49_code 215 = .ok (.aload_n 0, 1) := by decide +kernel
theorem dd_Model_tableAndMemory_216 : decode prog_14_method_49_code 216 = .ok (.getfield 398, 3) := by decide +kernel
theorem dd_Model_tableAndMemory_219 : decode prog_14_method_49_code 219 = .ok (.ifCond .ne 37, 3) := by decide +kernel
theorem dd_Model_tableAndMemory_222 : decode prog_14_method_49_code 222 = .ok (.aload_n 0, 1) := by decide +kernel
theorem dd_Model_tableAndMemory_223 : decode prog_14_method_49_code 223 = .ok (.getfield 273, 3) := by decide +kernel
theorem dd_Model_tableAndMemory_226 : decode prog_14_method_49_code 226 = .ok (.ldc2_w 402, 3) := by decide +kernel
theorem dd_Model_tableAndMemory_229 : decode prog_14_method_49_code 229 = .ok (.lcmp, 1) := by decide +kernel
theorem dd_Model_tableAndMemory_230 : decode prog_14_method_49_code 230 = .ok (.ifCond .gt 26, 3) := by decide +kernel
theorem dd_Model_tableAndMemory_233 : decode prog_14_method_49_code 233 = .ok (.aload_n 0, 1) := by decide +kernel
theorem dd_Model_tableAndMemory_234 : decode prog_14_method_49_code 234 = .ok (.getfield 277, 3) := by decide +kernel
theorem dd_Model_tableAndMemory_237 : decode prog_14_method_49_code 237 = .ok (.ldc2_w 184, 3) := by decide +kernel
theorem dd_Model_tableAndMemory_240 : decode prog_14_method_49_code 240 = .ok (.lcmp, 1) := by decide +kernel
theorem dd_Model_tableAndMemory_241 : decode prog_14_method_49_code 241 = .ok (.ifCond .eq 19, 3) := by decide +kernel
theorem dd_Model_tableAndMemory_244 : decode prog_14_method_49_code 244 = .ok (.aload_n 0, 1) := by decide +kernel
theorem dd_Model_tableAndMemory_245 : decode prog_14_method_49_code 245 = .ok (.getfield 277, 3) := by decide +kernel
theorem dd_Model_tableAndMemory_248 : decode prog_14_method_49_code 248 = .ok (.aload_n 0, 1) := by decide +kernel
theorem dd_Model_tableAndMemory_249 : decode prog_14_method_49_code 249 = .ok (.getfield 273, 3) := by decide +kernel
theorem dd_Model_tableAndMemory_252 : decode prog_14_method_49_code 252 = .ok (.lcmp, 1) := by decide +kernel
theorem dd_Model_tableAndMemory_253 : decode prog_14_method_49_code 253 = .ok (.ifCond .ge 7, 3) := by decide +kernel
theorem dd_Model_tableAndMemory_256 : decode prog_14_method_49_code 256 = .ok (.iconst 1, 1) := by decide +kernel
theorem dd_Model_tableAndMemory_257 : decode prog_14_method_49_code 257 = .ok (.goto 4, 3) := by decide +kernel
theorem dd_Model_tableAndMemory_260 : decode prog_14_method_49_code 260 = .ok (.iconst 0, 1) := by decide +kernel
theorem dd_Model_tableAndMemory_261 : decode prog_14_method_49_code 261 = .ok (.putfield 398, 3) := by decide +kernel
theorem dd_Model_tableAndMemory_264 : decode prog_14_method_49_code 264 = .ok (.aload_n 0, 1) := by decide +kernel
theorem dd_Model_tableAndMemory_265 : decode prog_14_method_49_code 265 = .ok (.aload_n 0, 1) := by decide +kernel
theorem dd_Model_tableAndMemory_266 : decode prog_14_method_49_code 266 = .ok (.getfield 273, 3) := by decide +kernel
theorem dd_Model_tableAndMemory_269 : decode prog_14_method_49_code 269 = .ok (.l2i, 1) := by decide +kernel
theorem dd_Model_tableAndMemory_270 : decode prog_14_method_49_code 270 = .ok (.putfield 460, 3) := by decide +kernel
theorem dd_Model_tableAndMemory_273 : decode prog_14_method_49_code 273 = .ok (.aload_n 0, 1) := by decide +kernel
theorem dd_Model_tableAndMemory_274 : decode prog_14_method_49_code 274 = .ok (.aload_n 0, 1) := by decide +kernel
theorem dd_Model_tableAndMemory_275 : decode prog_14_method_49_code 275 = .ok (.getfield 277, 3) := by decide +kernel
theorem dd_Model_tableAndMemory_278 : decode prog_14_method_49_code 278 = .ok (.ldc2_w 184, 3) := by decide +kernel
theorem dd_Model_tableAndMemory_281 : decode prog_14_method_49_code 281 = .ok (.lcmp, 1) := by decide +kernel
theorem dd_Model_tableAndMemory_282 : decode prog_14_method_49_code 282 = .ok (.ifCond .eq 14, 3) := by decide +kernel
theorem dd_Model_tableAndMemory_285 : decode prog_14_method_49_code 285 = .ok (.aload_n 0, 1) := by decide +kernel
theorem dd_Model_tableAndMemory_286 : decode prog_14_method_49_code 286 = .ok (.getfield 277, 3) := by decide +kernel
theorem dd_Model_tableAndMemory_289 : decode prog_14_method_49_code 289 = .ok (.ldc2_w 402, 3) := by decide +kernel
theorem dd_Model_tableAndMemory_292 : decode prog_14_method_49_code 292 = .ok (.lcmp, 1) := by decide +kernel
theorem dd_Model_tableAndMemory_293 : decode prog_14_method_49_code 293 = .ok (.ifCond .le 8, 3) := by decide +kernel
theorem dd_Model_tableAndMemory_296 : decode prog_14_method_49_code 296 = .ok (.bipush 16, 2) := by decide +kernel
theorem dd_Model_tableAndMemory_298 : decode prog_14_method_49_code 298 = .ok (.goto 8, 3) := by decide +kernel
theorem dd_Model_tableAndMemory_301 : decode prog_14_method_49_code 301 = .ok (.aload_n 0, 1) := by decide +kernel
theorem dd_Model_tableAndMemory_302 : decode prog_14_method_49_code 302 = .ok (.getfield 277, 3) := by decide +kernel
theorem dd_Model_tableAndMemory_305 : decode prog_14_method_49_code 305 = .ok (.l2i, 1) := by decide +kernel
theorem dd_Model_tableAndMemory_306 : decode prog_14_method_49_code 306 = .ok (.putfield 463, 3) := by decide +kernel
theorem dd_Model_tableAndMemory_309 : decode prog_14_method_49_code 309 = .ok (.return_, 1) := by decide +kernel
