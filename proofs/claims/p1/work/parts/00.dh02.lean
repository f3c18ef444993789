theorem dd_Numbers_signed_0 : decode prog_7_method_11_code 0 = .ok (.lload_n 0, 1) := by decide +kernel
theorem dd_Numbers_signed_1 : decode prog_7_method_11_code 1 = .ok (.bipush 64, 2) := by decide +kernel
theorem dd_Numbers_signed_3 : decode prog_7_method_11_code 3 = .ok (.iload_n 2, 1) := by decide +kernel
theorem dd_Numbers_signed_4 : decode prog_7_method_11_code 4 = .ok (.isub, 1) := by decide +kernel
theorem dd_Numbers_signed_5 : decode prog_7_method_11_code 5 = .ok (.lshl, 1) := by decide +kernel
theorem dd_Numbers_signed_6 : decode prog_7_method_11_code 6 = .ok (.bipush 64, 2) := by decide +kernel
theorem dd_Numbers_signed_8 : decode prog_7_method_11_code 8 = .ok (.iload_n 2, 1) := by decide +kernel
theorem dd_Numbers_signed_9 : decode prog_7_method_11_code 9 = .ok (.isub, 1) := by decide +kernel
theorem dd_Numbers_signed_10 : decode prog_7_method_11_code 10 = .ok (.lshr, 1) := by decide +kernel
theorem dd_Numbers_signed_11 : decode prog_7_method_11_code 11 = .ok (.lreturn, 1) := by decide +kernel
theorem dd_Machine_pushCell_0 : decode prog_5_method_22_code 0 = .ok (.aload_n 0, 1) := by decide +kernel
theorem dd_Machine_pushCell_1 : decode prog_5_method_22_code 1 = .ok (.getfield 14, 3) := by decide +kernel
theorem dd_Machine_pushCell_4 : decode prog_5_method_22_code 4 = .ok (.aload_n 0, 1) := by decide +kernel
theorem dd_Machine_pushCell_5 : decode prog_5_method_22_code 5 = .ok (.getfield 26, 3) := by decide +kernel
theorem dd_Machine_pushCell_8 : decode prog_5_method_22_code 8 = .ok (.getfield 344, 3) := by decide +kernel
theorem dd_Machine_pushCell_11 : decode prog_5_method_22_code 11 = .ok (.iload_n 1, 1) := by decide +kernel
theorem dd_Machine_pushCell_12 : decode prog_5_method_22_code 12 = .ok (.invokevirtual 266, 3) := by decide +kernel
theorem dd_Machine_pushCell_15 : decode prog_5_method_22_code 15 = .ok (.iload_n 3, 1) := by decide +kernel
theorem dd_Machine_pushCell_16 : decode prog_5_method_22_code 16 = .ok (.ifCond .eq 32, 3) := by decide +kernel
theorem dd_Machine_pushCell_19 : decode prog_5_method_22_code 19 = .ok (.aload_n 0, 1) := by decide +kernel
theorem dd_Machine_pushCell_20 : decode prog_5_method_22_code 20 = .ok (.getfield 14, 3) := by decide +kernel
theorem dd_Machine_pushCell_23 : decode prog_5_method_22_code 23 = .ok (.aload_n 0, 1) := by decide +kernel
theorem dd_Machine_pushCell_24 : decode prog_5_method_22_code 24 = .ok (.getfield 14, 3) := by decide +kernel
theorem dd_Machine_pushCell_27 : decode prog_5_method_22_code 27 = .ok (.invokevirtual 245, 3) := by decide +kernel
theorem dd_Machine_pushCell_30 : decode prog_5_method_22_code 30 = .ok (.iload_n 2, 1) := by decide +kernel
theorem dd_Machine_pushCell_31 : decode prog_5_method_22_code 31 = .ok (.iconst 3, 1) := by decide +kernel
theorem dd_Machine_pushCell_32 : decode prog_5_method_22_code 32 = .ok (.if_icmp .ne 8, 3) := by decide +kernel
theorem dd_Machine_pushCell_35 : decode prog_5_method_22_code 35 = .ok (.bipush 8, 2) := by decide +kernel
theorem dd_Machine_pushCell_37 : decode prog_5_method_22_code 37 = .ok (.goto 5, 3) := by decide +kernel
theorem dd_Machine_pushCell_40 : decode prog_5_method_22_code 40 = .ok (.bipush 16, 2) := by decide +kernel
theorem dd_Machine_pushCell_42 : decode prog_5_method_22_code 42 = .ok (.invokestatic 295, 3) := by decide +kernel
theorem dd_Machine_pushCell_45 : decode prog_5_method_22_code 45 = .ok (.invokevirtual 99, 3) := by decide +kernel
theorem dd_Machine_pushCell_48 : decode prog_5_method_22_code 48 = .ok (.return_, 1) := by decide +kernel
theorem dd_Machine_pushElement_0 : decode prog_5_method_30_code 0 = .ok (.aload_n 0, 1) := by decide +kernel
theorem dd_Machine_pushElement_1 : decode prog_5_method_30_code 1 = .ok (.getfield 14, 3) := by decide +kernel
theorem dd_Machine_pushElement_4 : decode prog_5_method_30_code 4 = .ok (.getfield 66, 3) := by decide +kernel
theorem dd_Machine_pushElement_7 : decode prog_5_method_30_code 7 = .ok (.iconst 2, 1) := by decide +kernel
theorem dd_Machine_pushElement_8 : decode prog_5_method_30_code 8 = .ok (.isub, 1) := by decide +kernel
theorem dd_Machine_pushElement_9 : decode prog_5_method_30_code 9 = .ok (.istore_n 3, 1) := by decide +kernel
theorem dd_Machine_pushElement_10 : decode prog_5_method_30_code 10 = .ok (.aload_n 0, 1) := by decide +kernel
theorem dd_Machine_pushElement_11 : decode prog_5_method_30_code 11 = .ok (.iload_n 3, 1) := by decide +kernel
theorem dd_Machine_pushElement_12 : decode prog_5_method_30_code 12 = .ok (.lconst 1, 1) := by decide +kernel
theorem dd_Machine_pushElement_13 : decode prog_5_method_30_code 13 = .ok (.invokevirtual 387, 3) := by decide +kernel
theorem dd_Machine_pushElement_16 : decode prog_5_method_30_code 16 = .ok (.ifCond .eq 58, 3) := by decide +kernel
theorem dd_Machine_pushElement_19 : decode prog_5_method_30_code 19 = .ok (.aload_n 0, 1) := by decide +kernel
theorem dd_Machine_pushElement_20 : decode prog_5_method_30_code 20 = .ok (.getfield 26, 3) := by decide +kernel
theorem dd_Machine_pushElement_23 : decode prog_5_method_30_code 23 = .ok (.aload_n 0, 1) := by decide +kernel
theorem dd_Machine_pushElement_24 : decode prog_5_method_30_code 24 = .ok (.getfield 14, 3) := by decide +kernel
theorem dd_Machine_pushElement_27 : decode prog_5_method_30_code 27 = .ok (.getfield 341, 3) := by decide +kernel
theorem dd_Machine_pushElement_30 : decode prog_5_method_30_code 30 = .ok (.iload_n 3, 1) := by decide +kernel
theorem dd_Machine_pushElement_31 : decode prog_5_method_30_code 31 = .ok (.laload, 1) := by decide +kernel
theorem dd_Machine_pushElement_32 : decode prog_5_method_30_code 32 = .ok (.l2i, 1) := by decide +kernel
theorem dd_Machine_pushElement_33 : decode prog_5_method_30_code 33 = .ok (.aload_n 0, 1) := by decide +kernel
theorem dd_Machine_pushElement_34 : decode prog_5_method_30_code 34 = .ok (.getfield 14, 3) := by decide +kernel
theorem dd_Machine_pushElement_37 : decode prog_5_method_30_code 37 = .ok (.getfield 341, 3) := by decide +kernel
theorem dd_Machine_pushElement_40 : decode prog_5_method_30_code 40 = .ok (.iload_n 3, 1) := by decide +kernel
theorem dd_Machine_pushElement_41 : decode prog_5_method_30_code 41 = .ok (.iconst 1, 1) := by decide +kernel
theorem dd_Machine_pushElement_42 : decode prog_5_method_30_code 42 = .ok (.iadd, 1) := by decide +kernel
theorem dd_Machine_pushElement_43 : decode prog_5_method_30_code 43 = .ok (.laload, 1) := by decide +kernel
theorem dd_Machine_pushElement_44 : decode prog_5_method_30_code 44 = .ok (.l2i, 1) := by decide +kernel
theorem dd_Machine_pushElement_45 : decode prog_5_method_30_code 45 = .ok (.invokevirtual 355, 3) := by decide +kernel
theorem dd_Machine_pushElement_48 : decode prog_5_method_30_code 48 = .ok (.istore 4, 2) := by decide +kernel
theorem dd_Machine_pushElement_50 : decode prog_5_method_30_code 50 = .ok (.aload_n 0, 1) := by decide +kernel
theorem dd_Machine_pushElement_51 : decode prog_5_method_30_code 51 = .ok (.getfield 14, 3) := by decide +kernel
theorem dd_Machine_pushElement_54 : decode prog_5_method_30_code 54 = .ok (.iload_n 3, 1) := by decide +kernel
theorem dd_Machine_pushElement_55 : decode prog_5_method_30_code 55 = .ok (.putfield 66, 3) := by decide +kernel
theorem dd_Machine_pushElement_58 : decode prog_5_method_30_code 58 = .ok (.aload_n 0, 1) := by decide +kernel
theorem dd_Machine_pushElement_59 : decode prog_5_method_30_code 59 = .ok (.iload 4, 2) := by decide +kernel
theorem dd_Machine_pushElement_61 : decode prog_5_method_30_code 61 = .ok (.aload_n 0, 1) := by decide +kernel
theorem dd_Machine_pushElement_62 : decode prog_5_method_30_code 62 = .ok (.getfield 60, 3) := by decide +kernel
theorem dd_Machine_pushElement_65 : decode prog_5_method_30_code 65 = .ok (.iload_n 1, 1) := by decide +kernel
theorem dd_Machine_pushElement_66 : decode prog_5_method_30_code 66 = .ok (.iconst 0, 1) := by decide +kernel
theorem dd_Machine_pushElement_67 : decode prog_5_method_30_code 67 = .ok (.invokevirtual 358, 3) := by decide +kernel
theorem dd_Machine_pushElement_70 : decode prog_5_method_30_code 70 = .ok (.iload_n 2, 1) := by decide +kernel
theorem dd_Machine_pushElement_71 : decode prog_5_method_30_code 71 = .ok (.invokevirtual 364, 3) := by decide +kernel
theorem dd_Machine_pushElement_74 : decode prog_5_method_30_code 74 = .ok (.return_, 1) := by decide +kernel
theorem dd_Machine_setElements_0 : decode prog_5_method_29_code 0 = .ok (.aload_n 0, 1) := by decide +kernel
theorem dd_Machine_setElements_1 : decode prog_5_method_29_code 1 = .ok (.iload_n 2, 1) := by decide +kernel
theorem dd_Machine_setElements_2 : decode prog_5_method_29_code 2 = .ok (.lload_n 3, 1) := by decide +kernel
theorem dd_Machine_setElements_3 : decode prog_5_method_29_code 3 = .ok (.invokevirtual 387, 3) := by decide +kernel
theorem dd_Machine_setElements_6 : decode prog_5_method_29_code 6 = .ok (.ifCond .eq 72, 3) := by decide +kernel
theorem dd_Machine_setElements_9 : decode prog_5_method_29_code 9 = .ok (.aload_n 0, 1) := by decide +kernel
theorem dd_Machine_setElements_10 : decode prog_5_method_29_code 10 = .ok (.getfield 26, 3) := by decide +kernel
theorem dd_Machine_setElements_13 : decode prog_5_method_29_code 13 = .ok (.aload_n 0, 1) := by decide +kernel
theorem dd_Machine_setElements_14 : decode prog_5_method_29_code 14 = .ok (.getfield 14, 3) := by decide +kernel
theorem dd_Machine_setElements_17 : decode prog_5_method_29_code 17 = .ok (.getfield 341, 3) := by decide +kernel
theorem dd_Machine_setElements_20 : decode prog_5_method_29_code 20 = .ok (.iload_n 2, 1) := by decide +kernel
theorem dd_Machine_setElements_21 : decode prog_5_method_29_code 21 = .ok (.laload, 1) := by decide +kernel
theorem dd_Machine_setElements_22 : decode prog_5_method_29_code 22 = .ok (.l2i, 1) := by decide +kernel
theorem dd_Machine_setElements_23 : decode prog_5_method_29_code 23 = .ok (.aload_n 0, 1) := by decide +kernel
theorem dd_Machine_setElements_24 : decode prog_5_method_29_code 24 = .ok (.getfield 14, 3) := by decide +kernel
theorem dd_Machine_setElements_27 : decode prog_5_method_29_code 27 = .ok (.getfield 341, 3) := by decide +kernel
theorem dd_Machine_setElements_30 : decode prog_5_method_29_code 30 = .ok (.iload_n 2, 1) := by decide +kernel
theorem dd_Machine_setElements_31 : decode prog_5_method_29_code 31 = .ok (.iconst 1, 1) := by decide +kernel
theorem dd_Machine_setElements_32 : decode prog_5_method_29_code 32 = .ok (.iadd, 1) := by decide +kernel
theorem dd_Machine_setElements_33 : decode prog_5_method_29_code 33 = .ok (.laload, 1) := by decide +kernel
theorem dd_Machine_setElements_34 : decode prog_5_method_29_code 34 = .ok (.l2i, 1) := by decide +kernel
theorem dd_Machine_setElements_35 : decode prog_5_method_29_code 35 = .ok (.invokevirtual 355, 3) := by decide +kernel
theorem dd_Machine_setElements_38 : decode prog_5_method_29_code 38 = .ok (.istore 5, 2) := by decide +kernel
theorem dd_Machine_setElements_40 : decode prog_5_method_29_code 40 = .ok (.iconst 0, 1) := by decide +kernel
theorem dd_Machine_setElements_41 : decode prog_5_method_29_code 41 = .ok (.istore 6, 2) := by decide +kernel
theorem dd_Machine_setElements_43 : decode prog_5_method_29_code 43 = .ok (.iload 6, 2) := by decide +kernel
theorem dd_Machine_setElements_45 : decode prog_5_method_29_code 45 = .ok (.i2l, 1) := by decide +kernel
theorem dd_Machine_setElements_46 : decode prog_5_method_29_code 46 = .ok (.lload_n 3, 1) := by decide +kernel
theorem dd_Machine_setElements_47 : decode prog_5_method_29_code 47 = .ok (.lcmp, 1) := by decide +kernel
theorem dd_Machine_setElements_48 : decode prog_5_method_29_code 48 = .ok (.ifCond .ge 30, 3) := by decide +kernel
theorem dd_Machine_setElements_51 : decode prog_5_method_29_code 51 = .ok (.aload_n 0, 1) := by decide +kernel
theorem dd_Machine_setElements_52 : decode prog_5_method_29_code 52 = .ok (.iload 5, 2) := by decide +kernel
theorem dd_Machine_setElements_54 : decode prog_5_method_29_code 54 = .ok (.iload 6, 2) := by decide +kernel
theorem dd_Machine_setElements_56 : decode prog_5_method_29_code 56 = .ok (.iadd, 1) := by decide +kernel
theorem dd_Machine_setElements_57 : decode prog_5_method_29_code 57 = .ok (.aload_n 0, 1) := by decide +kernel
theorem dd_Machine_setElements_58 : decode prog_5_method_29_code 58 = .ok (.getfield 60, 3) := by decide +kernel
theorem dd_Machine_setElements_61 : decode prog_5_method_29_code 61 = .ok (.iload_n 1, 1) := by decide +kernel
theorem dd_Machine_setElements_62 : decode prog_5_method_29_code 62 = .ok (.iconst 0, 1) := by decide +kernel
theorem dd_Machine_setElements_63 : decode prog_5_method_29_code 63 = .ok (.invokevirtual 358, 3) := by decide +kernel
theorem dd_Machine_setElements_66 : decode prog_5_method_29_code 66 = .ok (.iload_n 2, 1) := by decide +kernel
theorem dd_Machine_setElements_67 : decode prog_5_method_29_code 67 = .ok (.iconst 2, 1) := by decide +kernel
theorem dd_Machine_setElements_68 : decode prog_5_method_29_code 68 = .ok (.iadd, 1) := by decide +kernel
theorem dd_Machine_setElements_69 : decode prog_5_method_29_code 69 = .ok (.invokevirtual 361, 3) := by decide +kernel
theorem dd_Machine_setElements_72 : decode prog_5_method_29_code 72 = .ok (.iinc 6 1, 3) := by decide +kernel
theorem dd_Machine_setElements_75 : decode prog_5_method_29_code 75 = .ok (.goto (-32), 3) := by decide +kernel
theorem dd_Machine_setElements_78 : decode prog_5_method_29_code 78 = .ok (.aload_n 0, 1) := by decide +kernel
theorem dd_Machine_setElements_79 : decode prog_5_method_29_code 79 = .ok (.getfield 14, 3) := by decide +kernel
theorem dd_Machine_setElements_82 : decode prog_5_method_29_code 82 = .ok (.iload_n 2, 1) := by decide +kernel
theorem dd_Machine_setElements_83 : decode prog_5_method_29_code 83 = .ok (.putfield 66, 3) := by decide +kernel
theorem dd_Machine_setElements_86 : decode prog_5_method_29_code 86 = .ok (.return_, 1) := by decide +kernel
theorem dd_Machine_doArray_0 : decode prog_5_method_25_code 0 = .ok (.iload_n 1, 1) := by decide +kernel
theorem dd_Machine_doArray_1 : decode prog_5_method_25_code 1 = .ok (.tableswitch 188 6 16 #[59, 59, 78, 188, 188, 188, 188, 188, 170, 87, 132], 59) := by decide +kernel
theorem dd_Machine_doArray_60 : decode prog_5_method_25_code 60 = .ok (.aload_n 0, 1) := by decide +kernel
theorem dd_Machine_doArray_61 : decode prog_5_method_25_code 61 = .ok (.iload_n 2, 1) := by decide +kernel
theorem dd_Machine_doArray_62 : decode prog_5_method_25_code 62 = .ok (.iload_n 1, 1) := by decide +kernel
theorem dd_Machine_doArray_63 : decode prog_5_method_25_code 63 = .ok (.bipush 6, 2) := by decide +kernel
theorem dd_Machine_doArray_65 : decode prog_5_method_25_code 65 = .ok (.if_icmp .ne 7, 3) := by decide +kernel
theorem dd_Machine_doArray_68 : decode prog_5_method_25_code 68 = .ok (.iconst 1, 1) := by decide +kernel
theorem dd_Machine_doArray_69 : decode prog_5_method_25_code 69 = .ok (.goto 4, 3) := by decide +kernel
theorem dd_Machine_doArray_72 : decode prog_5_method_25_code 72 = .ok (.iconst 0, 1) := by decide +kernel
theorem dd_Machine_doArray_73 : decode prog_5_method_25_code 73 = .ok (.invokevirtual 371, 3) := by decide +kernel
theorem dd_Machine_doArray_76 : decode prog_5_method_25_code 76 = .ok (.goto 129, 3) := by decide +kernel
theorem dd_Machine_doArray_79 : decode prog_5_method_25_code 79 = .ok (.aload_n 0, 1) := by decide +kernel
theorem dd_Machine_doArray_80 : decode prog_5_method_25_code 80 = .ok (.iload_n 2, 1) := by decide +kernel
theorem dd_Machine_doArray_81 : decode prog_5_method_25_code 81 = .ok (.iload_n 3, 1) := by decide +kernel
theorem dd_Machine_doArray_82 : decode prog_5_method_25_code 82 = .ok (.invokevirtual 375, 3) := by decide +kernel
theorem dd_Machine_doArray_85 : decode prog_5_method_25_code 85 = .ok (.goto 120, 3) := by decide +kernel
theorem dd_Machine_doArray_88 : decode prog_5_method_25_code 88 = .ok (.aload_n 0, 1) := by decide +kernel
theorem dd_Machine_doArray_89 : decode prog_5_method_25_code 89 = .ok (.getfield 14, 3) := by decide +kernel
theorem dd_Machine_doArray_92 : decode prog_5_method_25_code 92 = .ok (.invokevirtual 245, 3) := by decide +kernel
theorem dd_Machine_doArray_95 : decode prog_5_method_25_code 95 = .ok (.l2i, 1) := by decide +kernel
theorem dd_Machine_doArray_96 : decode prog_5_method_25_code 96 = .ok (.istore 4, 2) := by decide +kernel
theorem dd_Machine_doArray_98 : decode prog_5_method_25_code 98 = .ok (.iload 4, 2) := by decide +kernel
theorem dd_Machine_doArray_100 : decode prog_5_method_25_code 100 = .ok (.ifCond .ne 12, 3) := by decide +kernel
theorem dd_Machine_doArray_103 : decode prog_5_method_25_code 103 = .ok (.aload_n 0, 1) := by decide +kernel
theorem dd_Machine_doArray_104 : decode prog_5_method_25_code 104 = .ok (.bipush 8, 2) := by decide +kernel
theorem dd_Machine_doArray_106 : decode prog_5_method_25_code 106 = .ok (.putfield 163, 3) := by decide +kernel
theorem dd_Machine_doArray_109 : decode prog_5_method_25_code 109 = .ok (.goto 21, 3) := by decide +kernel
theorem dd_Machine_doArray_112 : decode prog_5_method_25_code 112 = .ok (.aload_n 0, 1) := by decide +kernel
theorem dd_Machine_doArray_113 : decode prog_5_method_25_code 113 = .ok (.getfield 14, 3) := by decide +kernel
theorem dd_Machine_doArray_116 : decode prog_5_method_25_code 116 = .ok (.aload_n 0, 1) := by decide +kernel
theorem dd_Machine_doArray_117 : decode prog_5_method_25_code 117 = .ok (.getfield 26, 3) := by decide +kernel
theorem dd_Machine_doArray_120 : decode prog_5_method_25_code 120 = .ok (.getfield 378, 3) := by decide +kernel
theorem dd_Machine_doArray_123 : decode prog_5_method_25_code 123 = .ok (.iload 4, 2) := by decide +kernel
theorem dd_Machine_doArray_125 : decode prog_5_method_25_code 125 = .ok (.iaload, 1) := by decide +kernel
theorem dd_Machine_doArray_126 : decode prog_5_method_25_code 126 = .ok (.i2l, 1) := by decide +kernel
theorem dd_Machine_doArray_127 : decode prog_5_method_25_code 127 = .ok (.invokevirtual 99, 3) := by decide +kernel
theorem dd_Machine_doArray_130 : decode prog_5_method_25_code 130 = .ok (.goto 75, 3) := by decide +kernel
theorem dd_Machine_doArray_133 : decode prog_5_method_25_code 133 = .ok (.aload_n 0, 1) := by decide +kernel
theorem dd_Machine_doArray_134 : decode prog_5_method_25_code 134 = .ok (.iload_n 2, 1) := by decide +kernel
theorem dd_Machine_doArray_135 : decode prog_5_method_25_code 135 = .ok (.aload_n 0, 1) := by decide +kernel
theorem dd_Machine_doArray_136 : decode prog_5_method_25_code 136 = .ok (.getfield 14, 3) := by decide +kernel
theorem dd_Machine_doArray_139 : decode prog_5_method_25_code 139 = .ok (.getfield 66, 3) := by decide +kernel
theorem dd_Machine_doArray_142 : decode prog_5_method_25_code 142 = .ok (.iconst 4, 1) := by decide +kernel
theorem dd_Machine_doArray_143 : decode prog_5_method_25_code 143 = .ok (.isub, 1) := by decide +kernel
theorem dd_Machine_doArray_144 : decode prog_5_method_25_code 144 = .ok (.aload_n 0, 1) := by decide +kernel
theorem dd_Machine_doArray_145 : decode prog_5_method_25_code 145 = .ok (.getfield 14, 3) := by decide +kernel
theorem dd_Machine_doArray_148 : decode prog_5_method_25_code 148 = .ok (.getfield 341, 3) := by decide +kernel
theorem dd_Machine_doArray_151 : decode prog_5_method_25_code 151 = .ok (.aload_n 0, 1) := by decide +kernel
theorem dd_Machine_doArray_152 : decode prog_5_method_25_code 152 = .ok (.getfield 14, 3) := by decide +kernel
theorem dd_Machine_doArray_155 : decode prog_5_method_25_code 155 = .ok (.getfield 66, 3) := by decide +kernel
theorem dd_Machine_doArray_158 : decode prog_5_method_25_code 158 = .ok (.iconst 1, 1) := by decide +kernel
theorem dd_Machine_doArray_159 : decode prog_5_method_25_code 159 = .ok (.isub, 1) := by decide +kernel
theorem dd_Machine_doArray_160 : decode prog_5_method_25_code 160 = .ok (.laload, 1) := by decide +kernel
theorem dd_Machine_doArray_161 : decode prog_5_method_25_code 161 = .ok (.ldc2_w 255, 3) := by decide +kernel
theorem dd_Machine_doArray_164 : decode prog_5_method_25_code 164 = .ok (.land, 1) := by decide +kernel
theorem dd_Machine_doArray_165 : decode prog_5_method_25_code 165 = .ok (.invokevirtual 381, 3) := by decide +kernel
theorem dd_Machine_doArray_168 : decode prog_5_method_25_code 168 = .ok (.goto 37, 3) := by decide +kernel
theorem dd_Machine_doArray_171 : decode prog_5_method_25_code 171 = .ok (.aload_n 0, 1) := by decide +kernel
theorem dd_Machine_doArray_172 : decode prog_5_method_25_code 172 = .ok (.iload_n 2, 1) := by decide +kernel
theorem dd_Machine_doArray_173 : decode prog_5_method_25_code 173 = .ok (.aload_n 0, 1) := by decide +kernel
theorem dd_Machine_doArray_174 : decode prog_5_method_25_code 174 = .ok (.getfield 14, 3) := by decide +kernel
theorem dd_Machine_doArray_177 : decode prog_5_method_25_code 177 = .ok (.getfield 66, 3) := by decide +kernel
theorem dd_Machine_doArray_180 : decode prog_5_method_25_code 180 = .ok (.iconst 3, 1) := by decide +kernel
theorem dd_Machine_doArray_181 : decode prog_5_method_25_code 181 = .ok (.isub, 1) := by decide +kernel
theorem dd_Machine_doArray_182 : decode prog_5_method_25_code 182 = .ok (.lconst 1, 1) := by decide +kernel
theorem dd_Machine_doArray_183 : decode prog_5_method_25_code 183 = .ok (.invokevirtual 381, 3) := by decide +kernel
theorem dd_Machine_doArray_186 : decode prog_5_method_25_code 186 = .ok (.goto 19, 3) := by decide +kernel
theorem dd_Machine_doArray_189 : decode prog_5_method_25_code 189 = .ok (.aload_n 0, 1) := by decide +kernel
theorem dd_Machine_doArray_190 : decode prog_5_method_25_code 190 = .ok (.iload_n 2, 1) := by decide +kernel
theorem dd_Machine_doArray_191 : decode prog_5_method_25_code 191 = .ok (.iload_n 1, 1) := by decide +kernel
theorem dd_Machine_doArray_192 : decode prog_5_method_25_code 192 = .ok (.bipush 12, 2) := by decide +kernel
theorem dd_Machine_doArray_194 : decode prog_5_method_25_code 194 = .ok (.if_icmp .ne 7, 3) := by decide +kernel
theorem dd_Machine_doArray_197 : decode prog_5_method_25_code 197 = .ok (.iconst 1, 1) := by decide +kernel
theorem dd_Machine_doArray_198 : decode prog_5_method_25_code 198 = .ok (.goto 4, 3) := by decide +kernel
theorem dd_Machine_doArray_201 : decode prog_5_method_25_code 201 = .ok (.iconst 0, 1) := by decide +kernel
theorem dd_Machine_doArray_202 : decode prog_5_method_25_code 202 = .ok (.invokevirtual 384, 3) := by decide +kernel
theorem dd_Machine_doArray_205 : decode prog_5_method_25_code 205 = .ok (.return_, 1) := by decide +kernel
theorem dd_Machine_makeStructure_0 : decode prog_5_method_24_code 0 = .ok (.aload_n 0, 1) := by decide +kernel
theorem dd_Machine_makeStructure_1 : decode prog_5_method_24_code 1 = .ok (.getfield 26, 3) := by decide +kernel
theorem dd_Machine_makeStructure_4 : decode prog_5_method_24_code 4 = .ok (.aload_n 0, 1) := by decide +kernel
theorem dd_Machine_makeStructure_5 : decode prog_5_method_24_code 5 = .ok (.getfield 60, 3) := by decide +kernel
theorem dd_Machine_makeStructure_8 : decode prog_5_method_24_code 8 = .ok (.getfield 274, 3) := by decide +kernel
theorem dd_Machine_makeStructure_11 : decode prog_5_method_24_code 11 = .ok (.iload_n 1, 1) := by decide +kernel
theorem dd_Machine_makeStructure_12 : decode prog_5_method_24_code 12 = .ok (.iaload, 1) := by decide +kernel
theorem dd_Machine_makeStructure_13 : decode prog_5_method_24_code 13 = .ok (.iload_n 2, 1) := by decide +kernel
theorem dd_Machine_makeStructure_14 : decode prog_5_method_24_code 14 = .ok (.i2l, 1) := by decide +kernel
theorem dd_Machine_makeStructure_15 : decode prog_5_method_24_code 15 = .ok (.aload_n 0, 1) := by decide +kernel
theorem dd_Machine_makeStructure_16 : decode prog_5_method_24_code 16 = .ok (.getfield 14, 3) := by decide +kernel
theorem dd_Machine_makeStructure_19 : decode prog_5_method_24_code 19 = .ok (.aload_n 0, 1) := by decide +kernel
theorem dd_Machine_makeStructure_20 : decode prog_5_method_24_code 20 = .ok (.getfield 20, 3) := by decide +kernel
theorem dd_Machine_makeStructure_23 : decode prog_5_method_24_code 23 = .ok (.invokevirtual 367, 3) := by decide +kernel
theorem dd_Machine_makeStructure_26 : decode prog_5_method_24_code 26 = .ok (.istore 4, 2) := by decide +kernel
theorem dd_Machine_makeStructure_28 : decode prog_5_method_24_code 28 = .ok (.iload 4, 2) := by decide +kernel
theorem dd_Machine_makeStructure_30 : decode prog_5_method_24_code 30 = .ok (.ifCond .ne 10, 3) := by decide +kernel
theorem dd_Machine_makeStructure_33 : decode prog_5_method_24_code 33 = .ok (.aload_n 0, 1) := by decide +kernel
theorem dd_Machine_makeStructure_34 : decode prog_5_method_24_code 34 = .ok (.bipush 11, 2) := by decide +kernel
theorem dd_Machine_makeStructure_36 : decode prog_5_method_24_code 36 = .ok (.putfield 163, 3) := by decide +kernel
theorem dd_Machine_makeStructure_39 : decode prog_5_method_24_code 39 = .ok (.return_, 1) := by decide +kernel
theorem dd_Machine_makeStructure_40 : decode prog_5_method_24_code 40 = .ok (.iload_n 3, 1) := by decide +kernel
theorem dd_Machine_makeStructure_41 : decode prog_5_method_24_code 41 = .ok (.ifCond .eq 66, 3) := by decide +kernel
theorem dd_Machine_makeStructure_44 : decode prog_5_method_24_code 44 = .ok (.aload_n 0, 1) := by decide +kernel
theorem dd_Machine_makeStructure_45 : decode prog_5_method_24_code 45 = .ok (.getfield 14, 3) := by decide +kernel
theorem dd_Machine_makeStructure_48 : decode prog_5_method_24_code 48 = .ok (.dup, 1) := by decide +kernel
theorem dd_Machine_makeStructure_49 : decode prog_5_method_24_code 49 = .ok (.getfield 66, 3) := by decide +kernel
theorem dd_Machine_makeStructure_52 : decode prog_5_method_24_code 52 = .ok (.iload_n 2, 1) := by decide +kernel
theorem dd_Machine_makeStructure_53 : decode prog_5_method_24_code 53 = .ok (.isub, 1) := by decide +kernel
theorem dd_Machine_makeStructure_54 : decode prog_5_method_24_code 54 = .ok (.putfield 66, 3) := by decide +kernel
theorem dd_Machine_makeStructure_57 : decode prog_5_method_24_code 57 = .ok (.iconst 0, 1) := by decide +kernel
theorem dd_Machine_makeStructure_58 : decode prog_5_method_24_code 58 = .ok (.istore 5, 2) := by decide +kernel
theorem dd_Machine_makeStructure_60 : decode prog_5_method_24_code 60 = .ok (.iload 5, 2) := by decide +kernel
theorem dd_Machine_makeStructure_62 : decode prog_5_method_24_code 62 = .ok (.iload_n 2, 1) := by decide +kernel
theorem dd_Machine_makeStructure_63 : decode prog_5_method_24_code 63 = .ok (.if_icmp .ge 44, 3) := by decide +kernel
theorem dd_Machine_makeStructure_66 : decode prog_5_method_24_code 66 = .ok (.aload_n 0, 1) := by decide +kernel
theorem dd_Machine_makeStructure_67 : decode prog_5_method_24_code 67 = .ok (.aload_n 0, 1) := by decide +kernel
theorem dd_Machine_makeStructure_68 : decode prog_5_method_24_code 68 = .ok (.getfield 26, 3) := by decide +kernel
theorem dd_Machine_makeStructure_71 : decode prog_5_method_24_code 71 = .ok (.iload 4, 2) := by decide +kernel
theorem dd_Machine_makeStructure_73 : decode prog_5_method_24_code 73 = .ok (.iload 5, 2) := by decide +kernel
theorem dd_Machine_makeStructure_75 : decode prog_5_method_24_code 75 = .ok (.invokevirtual 355, 3) := by decide +kernel
theorem dd_Machine_makeStructure_78 : decode prog_5_method_24_code 78 = .ok (.aload_n 0, 1) := by decide +kernel
theorem dd_Machine_makeStructure_79 : decode prog_5_method_24_code 79 = .ok (.getfield 60, 3) := by decide +kernel
theorem dd_Machine_makeStructure_82 : decode prog_5_method_24_code 82 = .ok (.iload_n 1, 1) := by decide +kernel
theorem dd_Machine_makeStructure_83 : decode prog_5_method_24_code 83 = .ok (.iload 5, 2) := by decide +kernel
theorem dd_Machine_makeStructure_85 : decode prog_5_method_24_code 85 = .ok (.invokevirtual 358, 3) := by decide +kernel
theorem dd_Machine_makeStructure_88 : decode prog_5_method_24_code 88 = .ok (.aload_n 0, 1) := by decide +kernel
theorem dd_Machine_makeStructure_89 : decode prog_5_method_24_code 89 = .ok (.getfield 14, 3) := by decide +kernel
theorem dd_Machine_makeStructure_92 : decode prog_5_method_24_code 92 = .ok (.getfield 66, 3) := by decide +kernel
theorem dd_Machine_makeStructure_95 : decode prog_5_method_24_code 95 = .ok (.iload 5, 2) := by decide +kernel
theorem dd_Machine_makeStructure_97 : decode prog_5_method_24_code 97 = .ok (.iadd, 1) := by decide +kernel
theorem dd_Machine_makeStructure_98 : decode prog_5_method_24_code 98 = .ok (.invokevirtual 361, 3) := by decide +kernel
theorem dd_Machine_makeStructure_101 : decode prog_5_method_24_code 101 = .ok (.iinc 5 1, 3) := by decide +kernel
theorem dd_Machine_makeStructure_104 : decode prog_5_method_24_code 104 = .ok (.goto (-44), 3) := by decide +kernel
theorem dd_Machine_makeStructure_107 : decode prog_5_method_24_code 107 = .ok (.aload_n 0, 1) := by decide +kernel
theorem dd_Machine_makeStructure_108 : decode prog_5_method_24_code 108 = .ok (.getfield 14, 3) := by decide +kernel
theorem dd_Machine_makeStructure_111 : decode prog_5_method_24_code 111 = .ok (.iload 4, 2) := by decide +kernel
theorem dd_Machine_makeStructure_113 : decode prog_5_method_24_code 113 = .ok (.i2l, 1) := by decide +kernel
theorem dd_Machine_makeStructure_114 : decode prog_5_method_24_code 114 = .ok (.invokevirtual 91, 3) := by decide +kernel
theorem dd_Machine_makeStructure_117 : decode prog_5_method_24_code 117 = .ok (.return_, 1) := by decide +kernel
theorem dd_Machine_doStructure_0 : decode prog_5_method_23_code 0 = .ok (.iload_n 1, 1) := by decide +kernel
theorem dd_Machine_doStructure_1 : decode prog_5_method_23_code 1 = .ok (.iconst 1, 1) := by decide +kernel
theorem dd_Machine_doStructure_2 : decode prog_5_method_23_code 2 = .ok (.if_icmp .gt 27, 3) := by decide +kernel
theorem dd_Machine_doStructure_5 : decode prog_5_method_23_code 5 = .ok (.aload_n 0, 1) := by decide +kernel
theorem dd_Machine_doStructure_6 : decode prog_5_method_23_code 6 = .ok (.iload_n 2, 1) := by decide +kernel
theorem dd_Machine_doStructure_7 : decode prog_5_method_23_code 7 = .ok (.aload_n 0, 1) := by decide +kernel
theorem dd_Machine_doStructure_8 : decode prog_5_method_23_code 8 = .ok (.getfield 60, 3) := by decide +kernel
theorem dd_Machine_doStructure_11 : decode prog_5_method_23_code 11 = .ok (.getfield 217, 3) := by decide +kernel
theorem dd_Machine_doStructure_14 : decode prog_5_method_23_code 14 = .ok (.iload_n 2, 1) := by decide +kernel
theorem dd_Machine_doStructure_15 : decode prog_5_method_23_code 15 = .ok (.iaload, 1) := by decide +kernel
theorem dd_Machine_doStructure_16 : decode prog_5_method_23_code 16 = .ok (.iload_n 1, 1) := by decide +kernel
theorem dd_Machine_doStructure_17 : decode prog_5_method_23_code 17 = .ok (.ifCond .ne 7, 3) := by decide +kernel
theorem dd_Machine_doStructure_20 : decode prog_5_method_23_code 20 = .ok (.iconst 1, 1) := by decide +kernel
theorem dd_Machine_doStructure_21 : decode prog_5_method_23_code 21 = .ok (.goto 4, 3) := by decide +kernel
theorem dd_Machine_doStructure_24 : decode prog_5_method_23_code 24 = .ok (.iconst 0, 1) := by decide +kernel
theorem dd_Machine_doStructure_25 : decode prog_5_method_23_code 25 = .ok (.invokevirtual 351, 3) := by decide +kernel
theorem dd_Machine_doStructure_28 : decode prog_5_method_23_code 28 = .ok (.return_, 1) := by decide +kernel
theorem dd_Machine_doStructure_29 : decode prog_5_method_23_code 29 = .ok (.iload_n 1, 1) := by decide +kernel
theorem dd_Machine_doStructure_30 : decode prog_5_method_23_code 30 = .ok (.iconst 5, 1) := by decide +kernel
theorem dd_Machine_doStructure_31 : decode prog_5_method_23_code 31 = .ok (.if_icmp .ne 15, 3) := by decide +kernel
theorem dd_Machine_doStructure_34 : decode prog_5_method_23_code 34 = .ok (.aload_n 0, 1) := by decide +kernel
theorem dd_Machine_doStructure_35 : decode prog_5_method_23_code 35 = .ok (.getfield 14, 3) := by decide +kernel
theorem dd_Machine_doStructure_38 : decode prog_5_method_23_code 38 = .ok (.getfield 66, 3) := by decide +kernel
theorem dd_Machine_doStructure_41 : decode prog_5_method_23_code 41 = .ok (.iconst 2, 1) := by decide +kernel
theorem dd_Machine_doStructure_42 : decode prog_5_method_23_code 42 = .ok (.isub, 1) := by decide +kernel
theorem dd_Machine_doStructure_43 : decode prog_5_method_23_code 43 = .ok (.goto 12, 3) := by decide +kernel
theorem dd_Machine_doStructure_46 : decode prog_5_method_23_code 46 = .ok (.aload_n 0, 1) := by decide +kernel
theorem dd_Machine_doStructure_47 : decode prog_5_method_23_code 47 = .ok (.getfield 14, 3) := by decide +kernel
theorem dd_Machine_doStructure_50 : decode prog_5_method_23_code 50 = .ok (.getfield 66, 3) := by decide +kernel
theorem dd_Machine_doStructure_53 : decode prog_5_method_23_code 53 = .ok (.iconst 1, 1) := by decide +kernel
theorem dd_Machine_doStructure_54 : decode prog_5_method_23_code 54 = .ok (.isub, 1) := by decide +kernel
theorem dd_Machine_doStructure_55 : decode prog_5_method_23_code 55 = .ok (.istore 4, 2) := by decide +kernel
theorem dd_Machine_doStructure_57 : decode prog_5_method_23_code 57 = .ok (.aload_n 0, 1) := by decide +kernel
theorem dd_Machine_doStructure_58 : decode prog_5_method_23_code 58 = .ok (.getfield 14, 3) := by decide +kernel
theorem dd_Machine_doStructure_61 : decode prog_5_method_23_code 61 = .ok (.getfield 341, 3) := by decide +kernel
theorem dd_Machine_doStructure_64 : decode prog_5_method_23_code 64 = .ok (.iload 4, 2) := by decide +kernel
theorem dd_Machine_doStructure_66 : decode prog_5_method_23_code 66 = .ok (.laload, 1) := by decide +kernel
theorem dd_Machine_doStructure_67 : decode prog_5_method_23_code 67 = .ok (.l2i, 1) := by decide +kernel
theorem dd_Machine_doStructure_68 : decode prog_5_method_23_code 68 = .ok (.istore 5, 2) := by decide +kernel
theorem dd_Machine_doStructure_70 : decode prog_5_method_23_code 70 = .ok (.iload 5, 2) := by decide +kernel
theorem dd_Machine_doStructure_72 : decode prog_5_method_23_code 72 = .ok (.ifCond .ne 10, 3) := by decide +kernel
theorem dd_Machine_doStructure_75 : decode prog_5_method_23_code 75 = .ok (.aload_n 0, 1) := by decide +kernel
theorem dd_Machine_doStructure_76 : decode prog_5_method_23_code 76 = .ok (.bipush 8, 2) := by decide +kernel
theorem dd_Machine_doStructure_78 : decode prog_5_method_23_code 78 = .ok (.putfield 163, 3) := by decide +kernel
theorem dd_Machine_doStructure_81 : decode prog_5_method_23_code 81 = .ok (.return_, 1) := by decide +kernel
theorem dd_Machine_doStructure_82 : decode prog_5_method_23_code 82 = .ok (.aload_n 0, 1) := by decide +kernel
theorem dd_Machine_doStructure_83 : decode prog_5_method_23_code 83 = .ok (.getfield 26, 3) := by decide +kernel
theorem dd_Machine_doStructure_86 : decode prog_5_method_23_code 86 = .ok (.iload 5, 2) := by decide +kernel
theorem dd_Machine_doStructure_88 : decode prog_5_method_23_code 88 = .ok (.iload_n 3, 1) := by decide +kernel
theorem dd_Machine_doStructure_89 : decode prog_5_method_23_code 89 = .ok (.invokevirtual 355, 3) := by decide +kernel
theorem dd_Machine_doStructure_92 : decode prog_5_method_23_code 92 = .ok (.istore 6, 2) := by decide +kernel
theorem dd_Machine_doStructure_94 : decode prog_5_method_23_code 94 = .ok (.aload_n 0, 1) := by decide +kernel
theorem dd_Machine_doStructure_95 : decode prog_5_method_23_code 95 = .ok (.getfield 60, 3) := by decide +kernel
theorem dd_Machine_doStructure_98 : decode prog_5_method_23_code 98 = .ok (.iload_n 2, 1) := by decide +kernel
theorem dd_Machine_doStructure_99 : decode prog_5_method_23_code 99 = .ok (.iload_n 3, 1) := by decide +kernel
theorem dd_Machine_doStructure_100 : decode prog_5_method_23_code 100 = .ok (.invokevirtual 358, 3) := by decide +kernel
theorem dd_Machine_doStructure_103 : decode prog_5_method_23_code 103 = .ok (.istore 7, 2) := by decide +kernel
theorem dd_Machine_doStructure_105 : decode prog_5_method_23_code 105 = .ok (.iload_n 1, 1) := by decide +kernel
theorem dd_Machine_doStructure_106 : decode prog_5_method_23_code 106 = .ok (.iconst 5, 1) := by decide +kernel
theorem dd_Machine_doStructure_107 : decode prog_5_method_23_code 107 = .ok (.if_icmp .ne 15, 3) := by decide +kernel
theorem dd_Machine_doStructure_110 : decode prog_5_method_23_code 110 = .ok (.aload_n 0, 1) := by decide +kernel
theorem dd_Machine_doStructure_111 : decode prog_5_method_23_code 111 = .ok (.iload 6, 2) := by decide +kernel
theorem dd_Machine_doStructure_113 : decode prog_5_method_23_code 113 = .ok (.iload 7, 2) := by decide +kernel
theorem dd_Machine_doStructure_115 : decode prog_5_method_23_code 115 = .ok (.iload 4, 2) := by decide +kernel
theorem dd_Machine_doStructure_117 : decode prog_5_method_23_code 117 = .ok (.iconst 1, 1) := by decide +kernel
theorem dd_Machine_doStructure_118 : decode prog_5_method_23_code 118 = .ok (.iadd, 1) := by decide +kernel
theorem dd_Machine_doStructure_119 : decode prog_5_method_23_code 119 = .ok (.invokevirtual 361, 3) := by decide +kernel
theorem dd_Machine_doStructure_122 : decode prog_5_method_23_code 122 = .ok (.aload_n 0, 1) := by decide +kernel
theorem dd_Machine_doStructure_123 : decode prog_5_method_23_code 123 = .ok (.getfield 14, 3) := by decide +kernel
theorem dd_Machine_doStructure_126 : decode prog_5_method_23_code 126 = .ok (.iload 4, 2) := by decide +kernel
theorem dd_Machine_doStructure_128 : decode prog_5_method_23_code 128 = .ok (.putfield 66, 3) := by decide +kernel
theorem dd_Machine_doStructure_131 : decode prog_5_method_23_code 131 = .ok (.iload_n 1, 1) := by decide +kernel
theorem dd_Machine_doStructure_132 : decode prog_5_method_23_code 132 = .ok (.iconst 5, 1) := by decide +kernel
theorem dd_Machine_doStructure_133 : decode prog_5_method_23_code 133 = .ok (.if_icmp .eq 21, 3) := by decide +kernel
theorem dd_Machine_doStructure_136 : decode prog_5_method_23_code 136 = .ok (.aload_n 0, 1) := by decide +kernel
theorem dd_Machine_doStructure_137 : decode prog_5_method_23_code 137 = .ok (.iload 6, 2) := by decide +kernel
theorem dd_Machine_doStructure_139 : decode prog_5_method_23_code 139 = .ok (.iload 7, 2) := by decide +kernel
theorem dd_Machine_doStructure_141 : decode prog_5_method_23_code 141 = .ok (.iload_n 1, 1) := by decide +kernel
theorem dd_Machine_doStructure_142 : decode prog_5_method_23_code 142 = .ok (.iconst 3, 1) := by decide +kernel
theorem dd_Machine_doStructure_143 : decode prog_5_method_23_code 143 = .ok (.if_icmp .ne 7, 3) := by decide +kernel
theorem dd_Machine_doStructure_146 : decode prog_5_method_23_code 146 = .ok (.iconst 1, 1) := by decide +kernel
theorem dd_Machine_doStructure_147 : decode prog_5_method_23_code 147 = .ok (.goto 4, 3) := by decide +kernel
theorem dd_Machine_doStructure_150 : decode prog_5_method_23_code 150 = .ok (.iconst 0, 1) := by decide +kernel
theorem dd_Machine_doStructure_151 : decode prog_5_method_23_code 151 = .ok (.invokevirtual 364, 3) := by decide +kernel
theorem dd_Machine_doStructure_154 : decode prog_5_method_23_code 154 = .ok (.return_, 1) := by decide +kernel
theorem dd_Values_slide_0 : decode prog_12_method_9_code 0 = .ok (.aload_n 0, 1) := by decide +kernel
theorem dd_Values_slide_1 : decode prog_12_method_9_code 1 = .ok (.getfield 17, 3) := by decide +kernel
theorem dd_Values_slide_4 : decode prog_12_method_9_code 4 = .ok (.iload_n 1, 1) := by decide +kernel
theorem dd_Values_slide_5 : decode prog_12_method_9_code 5 = .ok (.isub, 1) := by decide +kernel
theorem dd_Values_slide_6 : decode prog_12_method_9_code 6 = .ok (.istore_n 3, 1) := by decide +kernel
theorem dd_Values_slide_7 : decode prog_12_method_9_code 7 = .ok (.iconst 0, 1) := by decide +kernel
theorem dd_Values_slide_8 : decode prog_12_method_9_code 8 = .ok (.istore 4, 2) := by decide +kernel
theorem dd_Values_slide_10 : decode prog_12_method_9_code 10 = .ok (.iload 4, 2) := by decide +kernel
theorem dd_Values_slide_12 : decode prog_12_method_9_code 12 = .ok (.iload_n 1, 1) := by decide +kernel
theorem dd_Values_slide_13 : decode prog_12_method_9_code 13 = .ok (.if_icmp .ge 27, 3) := by decide +kernel
theorem dd_Values_slide_16 : decode prog_12_method_9_code 16 = .ok (.iload_n 3, 1) := by decide +kernel
theorem dd_Values_slide_17 : decode prog_12_method_9_code 17 = .ok (.iload_n 2, 1) := by decide +kernel
theorem dd_Values_slide_18 : decode prog_12_method_9_code 18 = .ok (.if_icmp .eq 22, 3) := by decide +kernel
theorem dd_Values_slide_21 : decode prog_12_method_9_code 21 = .ok (.aload_n 0, 1) := by decide +kernel
theorem dd_Values_slide_22 : decode prog_12_method_9_code 22 = .ok (.aload_n 0, 1) := by decide +kernel
theorem dd_Values_slide_23 : decode prog_12_method_9_code 23 = .ok (.iload_n 3, 1) := by decide +kernel
theorem dd_Values_slide_24 : decode prog_12_method_9_code 24 = .ok (.iload 4, 2) := by decide +kernel
theorem dd_Values_slide_26 : decode prog_12_method_9_code 26 = .ok (.iadd, 1) := by decide +kernel
theorem dd_Values_slide_27 : decode prog_12_method_9_code 27 = .ok (.iload_n 2, 1) := by decide +kernel
theorem dd_Values_slide_28 : decode prog_12_method_9_code 28 = .ok (.iload 4, 2) := by decide +kernel
theorem dd_Values_slide_30 : decode prog_12_method_9_code 30 = .ok (.iadd, 1) := by decide +kernel
theorem dd_Values_slide_31 : decode prog_12_method_9_code 31 = .ok (.invokevirtual 25, 3) := by decide +kernel
theorem dd_Values_slide_34 : decode prog_12_method_9_code 34 = .ok (.iinc 4 1, 3) := by decide +kernel
theorem dd_Values_slide_37 : decode prog_12_method_9_code 37 = .ok (.goto (-27), 3) := by decide +kernel
theorem dd_Values_slide_40 : decode prog_12_method_9_code 40 = .ok (.aload_n 0, 1) := by decide +kernel
theorem dd_Values_slide_41 : decode prog_12_method_9_code 41 = .ok (.iload_n 2, 1) := by decide +kernel
theorem dd_Values_slide_42 : decode prog_12_method_9_code 42 = .ok (.iload_n 1, 1) := by decide +kernel
theorem dd_Values_slide_43 : decode prog_12_method_9_code 43 = .ok (.iadd, 1) := by decide +kernel
theorem dd_Values_slide_44 : decode prog_12_method_9_code 44 = .ok (.putfield 17, 3) := by decide +kernel
theorem dd_Values_slide_47 : decode prog_12_method_9_code 47 = .ok (.return_, 1) := by decide +kernel
theorem dd_Code_endOf_0 : decode prog_3_method_7_code 0 = .ok (.aload_n 0, 1) := by decide +kernel
theorem dd_Code_endOf_1 : decode prog_3_method_7_code 1 = .ok (.getfield 23, 3) := by decide +kernel
theorem dd_Code_endOf_4 : decode prog_3_method_7_code 4 = .ok (.iload_n 1, 1) := by decide +kernel
theorem dd_Code_endOf_5 : decode prog_3_method_7_code 5 = .ok (.iaload, 1) := by decide +kernel
theorem dd_Code_endOf_6 : decode prog_3_method_7_code 6 = .ok (.istore_n 2, 1) := by decide +kernel
theorem dd_Code_endOf_7 : decode prog_3_method_7_code 7 = .ok (.aload_n 0, 1) := by decide +kernel
theorem dd_Code_endOf_8 : decode prog_3_method_7_code 8 = .ok (.getfield 9, 3) := by decide +kernel
theorem dd_Code_endOf_11 : decode prog_3_method_7_code 11 = .ok (.iload_n 2, 1) := by decide +kernel
theorem dd_Code_endOf_12 : decode prog_3_method_7_code 12 = .ok (.saload, 1) := by decide +kernel
theorem dd_Code_endOf_13 : decode prog_3_method_7_code 13 = .ok (.iconst 5, 1) := by decide +kernel
theorem dd_Code_endOf_14 : decode prog_3_method_7_code 14 = .ok (.if_icmp .ne 12, 3) := by decide +kernel
theorem dd_Code_endOf_17 : decode prog_3_method_7_code 17 = .ok (.aload_n 0, 1) := by decide +kernel
theorem dd_Code_endOf_18 : decode prog_3_method_7_code 18 = .ok (.getfield 23, 3) := by decide +kernel
theorem dd_Code_endOf_21 : decode prog_3_method_7_code 21 = .ok (.iload_n 2, 1) := by decide +kernel
theorem dd_Code_endOf_22 : decode prog_3_method_7_code 22 = .ok (.iaload, 1) := by decide +kernel
theorem dd_Code_endOf_23 : decode prog_3_method_7_code 23 = .ok (.goto 4, 3) := by decide +kernel
theorem dd_Code_endOf_26 : decode prog_3_method_7_code 26 = .ok (.iload_n 2, 1) := by decide +kernel
theorem dd_Code_endOf_27 : decode prog_3_method_7_code 27 = .ok (.ireturn, 1) := by decide +kernel
theorem dd_Machine_leave_0 : decode prog_5_method_10_code 0 = .ok (.aload_n 0, 1) := by decide +kernel
theorem dd_Machine_leave_1 : decode prog_5_method_10_code 1 = .ok (.dup, 1) := by decide +kernel
theorem dd_Machine_leave_2 : decode prog_5_method_10_code 2 = .ok (.getfield 166, 3) := by decide +kernel
theorem dd_Machine_leave_5 : decode prog_5_method_10_code 5 = .ok (.iconst 1, 1) := by decide +kernel
theorem dd_Machine_leave_6 : decode prog_5_method_10_code 6 = .ok (.isub, 1) := by decide +kernel
theorem dd_Machine_leave_7 : decode prog_5_method_10_code 7 = .ok (.putfield 166, 3) := by decide +kernel
theorem dd_Machine_leave_10 : decode prog_5_method_10_code 10 = .ok (.aload_n 0, 1) := by decide +kernel
theorem dd_Machine_leave_11 : decode prog_5_method_10_code 11 = .ok (.getfield 14, 3) := by decide +kernel
theorem dd_Machine_leave_14 : decode prog_5_method_10_code 14 = .ok (.aload_n 0, 1) := by decide +kernel
theorem dd_Machine_leave_15 : decode prog_5_method_10_code 15 = .ok (.getfield 60, 3) := by decide +kernel
theorem dd_Machine_leave_18 : decode prog_5_method_10_code 18 = .ok (.getfield 226, 3) := by decide +kernel
theorem dd_Machine_leave_21 : decode prog_5_method_10_code 21 = .ok (.aload_n 0, 1) := by decide +kernel
theorem dd_Machine_leave_22 : decode prog_5_method_10_code 22 = .ok (.getfield 50, 3) := by decide +kernel
theorem dd_Machine_leave_25 : decode prog_5_method_10_code 25 = .ok (.getfield 220, 3) := by decide +kernel
theorem dd_Machine_leave_28 : decode prog_5_method_10_code 28 = .ok (.getfield 82, 3) := by decide +kernel
theorem dd_Machine_leave_31 : decode prog_5_method_10_code 31 = .ok (.aload_n 0, 1) := by decide +kernel
theorem dd_Machine_leave_32 : decode prog_5_method_10_code 32 = .ok (.getfield 41, 3) := by decide +kernel
theorem dd_Machine_leave_35 : decode prog_5_method_10_code 35 = .ok (.aload_n 0, 1) := by decide +kernel
theorem dd_Machine_leave_36 : decode prog_5_method_10_code 36 = .ok (.getfield 166, 3) := by decide +kernel
theorem dd_Machine_leave_39 : decode prog_5_method_10_code 39 = .ok (.iaload, 1) := by decide +kernel
theorem dd_Machine_leave_40 : decode prog_5_method_10_code 40 = .ok (.iaload, 1) := by decide +kernel
theorem dd_Machine_leave_41 : decode prog_5_method_10_code 41 = .ok (.iaload, 1) := by decide +kernel
theorem dd_Machine_leave_42 : decode prog_5_method_10_code 42 = .ok (.aload_n 0, 1) := by decide +kernel
theorem dd_Machine_leave_43 : decode prog_5_method_10_code 43 = .ok (.getfield 44, 3) := by decide +kernel
theorem dd_Machine_leave_46 : decode prog_5_method_10_code 46 = .ok (.aload_n 0, 1) := by decide +kernel
theorem dd_Machine_leave_47 : decode prog_5_method_10_code 47 = .ok (.getfield 166, 3) := by decide +kernel
theorem dd_Machine_leave_50 : decode prog_5_method_10_code 50 = .ok (.iaload, 1) := by decide +kernel
theorem dd_Machine_leave_51 : decode prog_5_method_10_code 51 = .ok (.invokevirtual 229, 3) := by decide +kernel
theorem dd_Machine_leave_54 : decode prog_5_method_10_code 54 = .ok (.aload_n 0, 1) := by decide +kernel
theorem dd_Machine_leave_55 : decode prog_5_method_10_code 55 = .ok (.aload_n 0, 1) := by decide +kernel
theorem dd_Machine_leave_56 : decode prog_5_method_10_code 56 = .ok (.getfield 47, 3) := by decide +kernel
theorem dd_Machine_leave_59 : decode prog_5_method_10_code 59 = .ok (.aload_n 0, 1) := by decide +kernel
theorem dd_Machine_leave_60 : decode prog_5_method_10_code 60 = .ok (.getfield 166, 3) := by decide +kernel
theorem dd_Machine_leave_63 : decode prog_5_method_10_code 63 = .ok (.iaload, 1) := by decide +kernel
theorem dd_Machine_leave_64 : decode prog_5_method_10_code 64 = .ok (.putfield 174, 3) := by decide +kernel
theorem dd_Machine_leave_67 : decode prog_5_method_10_code 67 = .ok (.aload_n 0, 1) := by decide +kernel
theorem dd_Machine_leave_68 : decode prog_5_method_10_code 68 = .ok (.getfield 166, 3) := by decide +kernel
theorem dd_Machine_leave_71 : decode prog_5_method_10_code 71 = .ok (.ifCond .le 41, 3) := by decide +kernel
theorem dd_Machine_leave_74 : decode prog_5_method_10_code 74 = .ok (.aload_n 0, 1) := by decide +kernel
theorem dd_Machine_leave_75 : decode prog_5_method_10_code 75 = .ok (.aload_n 0, 1) := by decide +kernel
theorem dd_Machine_leave_76 : decode prog_5_method_10_code 76 = .ok (.getfield 44, 3) := by decide +kernel
theorem dd_Machine_leave_79 : decode prog_5_method_10_code 79 = .ok (.aload_n 0, 1) := by decide +kernel
theorem dd_Machine_leave_80 : decode prog_5_method_10_code 80 = .ok (.getfield 166, 3) := by decide +kernel
theorem dd_Machine_leave_83 : decode prog_5_method_10_code 83 = .ok (.iconst 1, 1) := by decide +kernel
theorem dd_Machine_leave_84 : decode prog_5_method_10_code 84 = .ok (.isub, 1) := by decide +kernel
theorem dd_Machine_leave_85 : decode prog_5_method_10_code 85 = .ok (.iaload, 1) := by decide +kernel
theorem dd_Machine_leave_86 : decode prog_5_method_10_code 86 = .ok (.aload_n 0, 1) := by decide +kernel
theorem dd_Machine_leave_87 : decode prog_5_method_10_code 87 = .ok (.getfield 50, 3) := by decide +kernel
theorem dd_Machine_leave_90 : decode prog_5_method_10_code 90 = .ok (.getfield 220, 3) := by decide +kernel
theorem dd_Machine_leave_93 : decode prog_5_method_10_code 93 = .ok (.getfield 114, 3) := by decide +kernel
theorem dd_Machine_leave_96 : decode prog_5_method_10_code 96 = .ok (.aload_n 0, 1) := by decide +kernel
theorem dd_Machine_leave_97 : decode prog_5_method_10_code 97 = .ok (.getfield 41, 3) := by decide +kernel
theorem dd_Machine_leave_100 : decode prog_5_method_10_code 100 = .ok (.aload_n 0, 1) := by decide +kernel
theorem dd_Machine_leave_101 : decode prog_5_method_10_code 101 = .ok (.getfield 166, 3) := by decide +kernel
theorem dd_Machine_leave_104 : decode prog_5_method_10_code 104 = .ok (.iconst 1, 1) := by decide +kernel
theorem dd_Machine_leave_105 : decode prog_5_method_10_code 105 = .ok (.isub, 1) := by decide +kernel
theorem dd_Machine_leave_106 : decode prog_5_method_10_code 106 = .ok (.iaload, 1) := by decide +kernel
theorem dd_Machine_leave_107 : decode prog_5_method_10_code 107 = .ok (.iaload, 1) := by decide +kernel
theorem dd_Machine_leave_108 : decode prog_5_method_10_code 108 = .ok (.iadd, 1) := by decide +kernel
theorem dd_Machine_leave_109 : decode prog_5_method_10_code 109 = .ok (.putfield 223, 3) := by decide +kernel
theorem dd_Machine_leave_112 : decode prog_5_method_10_code 112 = .ok (.return_, 1) := by decide +kernel
theorem dd_Machine_branch_0 : decode prog_5_method_11_code 0 = .ok (.aload_n 0, 1) := by decide +kernel
theorem dd_Machine_branch_1 : decode prog_5_method_11_code 1 = .ok (.getfield 65, 3) := by decide +kernel
theorem dd_Machine_branch_4 : decode prog_5_method_11_code 4 = .ok (.getfield 177, 3) := by decide +kernel
theorem dd_Machine_branch_7 : decode prog_5_method_11_code 7 = .ok (.iload_n 1, 1) := by decide +kernel
theorem dd_Machine_branch_8 : decode prog_5_method_11_code 8 = .ok (.saload, 1) := by decide +kernel
theorem dd_Machine_branch_9 : decode prog_5_method_11_code 9 = .ok (.istore_n 2, 1) := by decide +kernel
theorem dd_Machine_branch_10 : decode prog_5_method_11_code 10 = .ok (.iload_n 2, 1) := by decide +kernel
theorem dd_Machine_branch_11 : decode prog_5_method_11_code 11 = .ok (.bipush 6, 2) := by decide +kernel
theorem dd_Machine_branch_13 : decode prog_5_method_11_code 13 = .ok (.if_icmp .ne 8, 3) := by decide +kernel
theorem dd_Machine_branch_16 : decode prog_5_method_11_code 16 = .ok (.aload_n 0, 1) := by decide +kernel
theorem dd_Machine_branch_17 : decode prog_5_method_11_code 17 = .ok (.invokevirtual 232, 3) := by decide +kernel
theorem dd_Machine_branch_20 : decode prog_5_method_11_code 20 = .ok (.return_, 1) := by decide +kernel
theorem dd_Machine_branch_21 : decode prog_5_method_11_code 21 = .ok (.iload_n 2, 1) := by decide +kernel
theorem dd_Machine_branch_22 : decode prog_5_method_11_code 22 = .ok (.iconst 3, 1) := by decide +kernel
theorem dd_Machine_branch_23 : decode prog_5_method_11_code 23 = .ok (.if_icmp .ne 11, 3) := by decide +kernel
theorem dd_Machine_branch_26 : decode prog_5_method_11_code 26 = .ok (.aload_n 0, 1) := by decide +kernel
theorem dd_Machine_branch_27 : decode prog_5_method_11_code 27 = .ok (.invokevirtual 213, 3) := by decide +kernel
theorem dd_Machine_branch_30 : decode prog_5_method_11_code 30 = .ok (.ifCond .ne 4, 3) := by decide +kernel
theorem dd_Machine_branch_33 : decode prog_5_method_11_code 33 = .ok (.return_, 1) := by decide +kernel
theorem dd_Machine_branch_34 : decode prog_5_method_11_code 34 = .ok (.aload_n 0, 1) := by decide +kernel
theorem dd_Machine_branch_35 : decode prog_5_method_11_code 35 = .ok (.getfield 14, 3) := by decide +kernel
theorem dd_Machine_branch_38 : decode prog_5_method_11_code 38 = .ok (.aload_n 0, 1) := by decide +kernel
theorem dd_Machine_branch_39 : decode prog_5_method_11_code 39 = .ok (.getfield 65, 3) := by decide +kernel
theorem dd_Machine_branch_42 : decode prog_5_method_11_code 42 = .ok (.getfield 191, 3) := by decide +kernel
theorem dd_Machine_branch_45 : decode prog_5_method_11_code 45 = .ok (.iload_n 1, 1) := by decide +kernel
theorem dd_Machine_branch_46 : decode prog_5_method_11_code 46 = .ok (.laload, 1) := by decide +kernel
theorem dd_Machine_branch_47 : decode prog_5_method_11_code 47 = .ok (.l2i, 1) := by decide +kernel
theorem dd_Machine_branch_48 : decode prog_5_method_11_code 48 = .ok (.aload_n 0, 1) := by decide +kernel
theorem dd_Machine_branch_49 : decode prog_5_method_11_code 49 = .ok (.getfield 223, 3) := by decide +kernel
theorem dd_Machine_branch_52 : decode prog_5_method_11_code 52 = .ok (.aload_n 0, 1) := by decide +kernel
theorem dd_Machine_branch_53 : decode prog_5_method_11_code 53 = .ok (.getfield 65, 3) := by decide +kernel
theorem dd_Machine_branch_56 : decode prog_5_method_11_code 56 = .ok (.getfield 235, 3) := by decide +kernel
theorem dd_Machine_branch_59 : decode prog_5_method_11_code 59 = .ok (.iload_n 1, 1) := by decide +kernel
theorem dd_Machine_branch_60 : decode prog_5_method_11_code 60 = .ok (.iaload, 1) := by decide +kernel
theorem dd_Machine_branch_61 : decode prog_5_method_11_code 61 = .ok (.iadd, 1) := by decide +kernel
theorem dd_Machine_branch_62 : decode prog_5_method_11_code 62 = .ok (.invokevirtual 229, 3) := by decide +kernel
theorem dd_Machine_branch_65 : decode prog_5_method_11_code 65 = .ok (.aload_n 0, 1) := by decide +kernel
theorem dd_Machine_branch_66 : decode prog_5_method_11_code 66 = .ok (.iconst 1, 1) := by decide +kernel
theorem dd_Machine_branch_67 : decode prog_5_method_11_code 67 = .ok (.iload_n 2, 1) := by decide +kernel
theorem dd_Machine_branch_68 : decode prog_5_method_11_code 68 = .ok (.iconst 3, 1) := by decide +kernel
theorem dd_Machine_branch_69 : decode prog_5_method_11_code 69 = .ok (.if_icmp .ne 7, 3) := by decide +kernel
theorem dd_Machine_branch_72 : decode prog_5_method_11_code 72 = .ok (.iload_n 1, 1) := by decide +kernel
theorem dd_Machine_branch_73 : decode prog_5_method_11_code 73 = .ok (.goto 11, 3) := by decide +kernel
theorem dd_Machine_branch_76 : decode prog_5_method_11_code 76 = .ok (.aload_n 0, 1) := by decide +kernel
theorem dd_Machine_branch_77 : decode prog_5_method_11_code 77 = .ok (.getfield 65, 3) := by decide +kernel
theorem dd_Machine_branch_80 : decode prog_5_method_11_code 80 = .ok (.iload_n 1, 1) := by decide +kernel
theorem dd_Machine_branch_81 : decode prog_5_method_11_code 81 = .ok (.invokevirtual 238, 3) := by decide +kernel
theorem dd_Machine_branch_84 : decode prog_5_method_11_code 84 = .ok (.iadd, 1) := by decide +kernel
theorem dd_Machine_branch_85 : decode prog_5_method_11_code 85 = .ok (.putfield 174, 3) := by decide +kernel
theorem dd_Machine_branch_88 : decode prog_5_method_11_code 88 = .ok (.return_, 1) := by decide +kernel
theorem dd_Machine_doReference_0 : decode prog_5_method_20_code 0 = .ok (.iload_n 1, 1) := by decide +kernel
theorem dd_Machine_doReference_1 : decode prog_5_method_20_code 1 = .ok (.tableswitch 187 208 213 #[39, 50, 187, 77, 110, 141], 39) := by decide +kernel
theorem dd_Machine_doReference_40 : decode prog_5_method_20_code 40 = .ok (.aload_n 0, 1) := by decide +kernel
theorem dd_Machine_doReference_41 : decode prog_5_method_20_code 41 = .ok (.getfield 14, 3) := by decide +kernel
theorem dd_Machine_doReference_44 : decode prog_5_method_20_code 44 = .ok (.lconst 0, 1) := by decide +kernel
theorem dd_Machine_doReference_45 : decode prog_5_method_20_code 45 = .ok (.invokevirtual 91, 3) := by decide +kernel
theorem dd_Machine_doReference_48 : decode prog_5_method_20_code 48 = .ok (.goto 186, 3) := by decide +kernel
theorem dd_Machine_doReference_51 : decode prog_5_method_20_code 51 = .ok (.aload_n 0, 1) := by decide +kernel
theorem dd_Machine_doReference_52 : decode prog_5_method_20_code 52 = .ok (.getfield 14, 3) := by decide +kernel
theorem dd_Machine_doReference_55 : decode prog_5_method_20_code 55 = .ok (.aload_n 0, 1) := by decide +kernel
theorem dd_Machine_doReference_56 : decode prog_5_method_20_code 56 = .ok (.getfield 14, 3) := by decide +kernel
theorem dd_Machine_doReference_59 : decode prog_5_method_20_code 59 = .ok (.invokevirtual 245, 3) := by decide +kernel
theorem dd_Machine_doReference_62 : decode prog_5_method_20_code 62 = .ok (.lconst 0, 1) := by decide +kernel
theorem dd_Machine_doReference_63 : decode prog_5_method_20_code 63 = .ok (.lcmp, 1) := by decide +kernel
theorem dd_Machine_doReference_64 : decode prog_5_method_20_code 64 = .ok (.ifCond .ne 7, 3) := by decide +kernel
theorem dd_Machine_doReference_67 : decode prog_5_method_20_code 67 = .ok (.iconst 1, 1) := by decide +kernel
theorem dd_Machine_doReference_68 : decode prog_5_method_20_code 68 = .ok (.goto 4, 3) := by decide +kernel
theorem dd_Machine_doReference_71 : decode prog_5_method_20_code 71 = .ok (.iconst 0, 1) := by decide +kernel
theorem dd_Machine_doReference_72 : decode prog_5_method_20_code 72 = .ok (.invokevirtual 301, 3) := by decide +kernel
theorem dd_Machine_doReference_75 : decode prog_5_method_20_code 75 = .ok (.goto 159, 3) := by decide +kernel
theorem dd_Machine_doReference_78 : decode prog_5_method_20_code 78 = .ok (.aload_n 0, 1) := by decide +kernel
theorem dd_Machine_doReference_79 : decode prog_5_method_20_code 79 = .ok (.getfield 14, 3) := by decide +kernel
theorem dd_Machine_doReference_82 : decode prog_5_method_20_code 82 = .ok (.aload_n 0, 1) := by decide +kernel
theorem dd_Machine_doReference_83 : decode prog_5_method_20_code 83 = .ok (.getfield 14, 3) := by decide +kernel
theorem dd_Machine_doReference_86 : decode prog_5_method_20_code 86 = .ok (.invokevirtual 245, 3) := by decide +kernel
theorem dd_Machine_doReference_89 : decode prog_5_method_20_code 89 = .ok (.aload_n 0, 1) := by decide +kernel
theorem dd_Machine_doReference_90 : decode prog_5_method_20_code 90 = .ok (.getfield 14, 3) := by decide +kernel
theorem dd_Machine_doReference_93 : decode prog_5_method_20_code 93 = .ok (.invokevirtual 245, 3) := by decide +kernel
theorem dd_Machine_doReference_96 : decode prog_5_method_20_code 96 = .ok (.lcmp, 1) := by decide +kernel
theorem dd_Machine_doReference_97 : decode prog_5_method_20_code 97 = .ok (.ifCond .ne 7, 3) := by decide +kernel
theorem dd_Machine_doReference_100 : decode prog_5_method_20_code 100 = .ok (.iconst 1, 1) := by decide +kernel
theorem dd_Machine_doReference_101 : decode prog_5_method_20_code 101 = .ok (.goto 4, 3) := by decide +kernel
theorem dd_Machine_doReference_104 : decode prog_5_method_20_code 104 = .ok (.iconst 0, 1) := by decide +kernel
theorem dd_Machine_doReference_105 : decode prog_5_method_20_code 105 = .ok (.invokevirtual 301, 3) := by decide +kernel
theorem dd_Machine_doReference_108 : decode prog_5_method_20_code 108 = .ok (.goto 126, 3) := by decide +kernel
theorem dd_Machine_doReference_111 : decode prog_5_method_20_code 111 = .ok (.aload_n 0, 1) := by decide +kernel
theorem dd_Machine_doReference_112 : decode prog_5_method_20_code 112 = .ok (.getfield 14, 3) := by decide +kernel
theorem dd_Machine_doReference_115 : decode prog_5_method_20_code 115 = .ok (.getfield 341, 3) := by decide +kernel
theorem dd_Machine_doReference_118 : decode prog_5_method_20_code 118 = .ok (.aload_n 0, 1) := by decide +kernel
theorem dd_Machine_doReference_119 : decode prog_5_method_20_code 119 = .ok (.getfield 14, 3) := by decide +kernel
theorem dd_Machine_doReference_122 : decode prog_5_method_20_code 122 = .ok (.getfield 66, 3) := by decide +kernel
theorem dd_Machine_doReference_125 : decode prog_5_method_20_code 125 = .ok (.iconst 1, 1) := by decide +kernel
theorem dd_Machine_doReference_126 : decode prog_5_method_20_code 126 = .ok (.isub, 1) := by decide +kernel
theorem dd_Machine_doReference_127 : decode prog_5_method_20_code 127 = .ok (.laload, 1) := by decide +kernel
theorem dd_Machine_doReference_128 : decode prog_5_method_20_code 128 = .ok (.lconst 0, 1) := by decide +kernel
theorem dd_Machine_doReference_129 : decode prog_5_method_20_code 129 = .ok (.lcmp, 1) := by decide +kernel
theorem dd_Machine_doReference_130 : decode prog_5_method_20_code 130 = .ok (.ifCond .ne 104, 3) := by decide +kernel
theorem dd_Machine_doReference_133 : decode prog_5_method_20_code 133 = .ok (.aload_n 0, 1) := by decide +kernel
theorem dd_Machine_doReference_134 : decode prog_5_method_20_code 134 = .ok (.bipush 8, 2) := by decide +kernel
theorem dd_Machine_doReference_136 : decode prog_5_method_20_code 136 = .ok (.putfield 163, 3) := by decide +kernel
theorem dd_Machine_doReference_139 : decode prog_5_method_20_code 139 = .ok (.goto 95, 3) := by decide +kernel
theorem dd_Machine_doReference_142 : decode prog_5_method_20_code 142 = .ok (.aload_n 0, 1) := by decide +kernel
theorem dd_Machine_doReference_143 : decode prog_5_method_20_code 143 = .ok (.getfield 14, 3) := by decide +kernel
theorem dd_Machine_doReference_146 : decode prog_5_method_20_code 146 = .ok (.getfield 341, 3) := by decide +kernel
theorem dd_Machine_doReference_149 : decode prog_5_method_20_code 149 = .ok (.aload_n 0, 1) := by decide +kernel
theorem dd_Machine_doReference_150 : decode prog_5_method_20_code 150 = .ok (.getfield 14, 3) := by decide +kernel
theorem dd_Machine_doReference_153 : decode prog_5_method_20_code 153 = .ok (.getfield 66, 3) := by decide +kernel
theorem dd_Machine_doReference_156 : decode prog_5_method_20_code 156 = .ok (.iconst 1, 1) := by decide +kernel
theorem dd_Machine_doReference_157 : decode prog_5_method_20_code 157 = .ok (.isub, 1) := by decide +kernel
theorem dd_Machine_doReference_158 : decode prog_5_method_20_code 158 = .ok (.laload, 1) := by decide +kernel
theorem dd_Machine_doReference_159 : decode prog_5_method_20_code 159 = .ok (.lconst 0, 1) := by decide +kernel
theorem dd_Machine_doReference_160 : decode prog_5_method_20_code 160 = .ok (.lcmp, 1) := by decide +kernel
theorem dd_Machine_doReference_161 : decode prog_5_method_20_code 161 = .ok (.ifCond .ne 73, 3) := by decide +kernel
theorem dd_Machine_doReference_164 : decode prog_5_method_20_code 164 = .ok (.aload_n 0, 1) := by decide +kernel
theorem dd_Machine_doReference_165 : decode prog_5_method_20_code 165 = .ok (.getfield 14, 3) := by decide +kernel
theorem dd_Machine_doReference_168 : decode prog_5_method_20_code 168 = .ok (.invokevirtual 245, 3) := by decide +kernel
theorem dd_Machine_doReference_171 : decode prog_5_method_20_code 171 = .ok (.pop2, 1) := by decide +kernel
theorem dd_Machine_doReference_172 : decode prog_5_method_20_code 172 = .ok (.aload_n 0, 1) := by decide +kernel
theorem dd_Machine_doReference_173 : decode prog_5_method_20_code 173 = .ok (.aload_n 0, 1) := by decide +kernel
theorem dd_Machine_doReference_174 : decode prog_5_method_20_code 174 = .ok (.getfield 65, 3) := by decide +kernel
theorem dd_Machine_doReference_177 : decode prog_5_method_20_code 177 = .ok (.getfield 249, 3) := by decide +kernel
theorem dd_Machine_doReference_180 : decode prog_5_method_20_code 180 = .ok (.iload_n 2, 1) := by decide +kernel
theorem dd_Machine_doReference_181 : decode prog_5_method_20_code 181 = .ok (.iaload, 1) := by decide +kernel
theorem dd_Machine_doReference_182 : decode prog_5_method_20_code 182 = .ok (.invokevirtual 252, 3) := by decide +kernel
theorem dd_Machine_doReference_185 : decode prog_5_method_20_code 185 = .ok (.goto 49, 3) := by decide +kernel
theorem dd_Machine_doReference_188 : decode prog_5_method_20_code 188 = .ok (.aload_n 0, 1) := by decide +kernel
theorem dd_Machine_doReference_189 : decode prog_5_method_20_code 189 = .ok (.getfield 14, 3) := by decide +kernel
theorem dd_Machine_doReference_192 : decode prog_5_method_20_code 192 = .ok (.getfield 341, 3) := by decide +kernel
theorem dd_Machine_doReference_195 : decode prog_5_method_20_code 195 = .ok (.aload_n 0, 1) := by decide +kernel
theorem dd_Machine_doReference_196 : decode prog_5_method_20_code 196 = .ok (.getfield 14, 3) := by decide +kernel
theorem dd_Machine_doReference_199 : decode prog_5_method_20_code 199 = .ok (.getfield 66, 3) := by decide +kernel
theorem dd_Machine_doReference_202 : decode prog_5_method_20_code 202 = .ok (.iconst 1, 1) := by decide +kernel
theorem dd_Machine_doReference_203 : decode prog_5_method_20_code 203 = .ok (.isub, 1) := by decide +kernel
theorem dd_Machine_doReference_204 : decode prog_5_method_20_code 204 = .ok (.laload, 1) := by decide +kernel
theorem dd_Machine_doReference_205 : decode prog_5_method_20_code 205 = .ok (.lconst 0, 1) := by decide +kernel
theorem dd_Machine_doReference_206 : decode prog_5_method_20_code 206 = .ok (.lcmp, 1) := by decide +kernel
theorem dd_Machine_doReference_207 : decode prog_5_method_20_code 207 = .ok (.ifCond .ne 14, 3) := by decide +kernel
theorem dd_Machine_doReference_210 : decode prog_5_method_20_code 210 = .ok (.aload_n 0, 1) := by decide +kernel
theorem dd_Machine_doReference_211 : decode prog_5_method_20_code 211 = .ok (.getfield 14, 3) := by decide +kernel
theorem dd_Machine_doReference_214 : decode prog_5_method_20_code 214 = .ok (.invokevirtual 245, 3) := by decide +kernel
theorem dd_Machine_doReference_217 : decode prog_5_method_20_code 217 = .ok (.pop2, 1) := by decide +kernel
theorem dd_Machine_doReference_218 : decode prog_5_method_20_code 218 = .ok (.goto 16, 3) := by decide +kernel
theorem dd_Machine_doReference_221 : decode prog_5_method_20_code 221 = .ok (.aload_n 0, 1) := by decide +kernel
theorem dd_Machine_doReference_222 : decode prog_5_method_20_code 222 = .ok (.aload_n 0, 1) := by decide +kernel
theorem dd_Machine_doReference_223 : decode prog_5_method_20_code 223 = .ok (.getfield 65, 3) := by decide +kernel
theorem dd_Machine_doReference_226 : decode prog_5_method_20_code 226 = .ok (.getfield 249, 3) := by decide +kernel
theorem dd_Machine_doReference_229 : decode prog_5_method_20_code 229 = .ok (.iload_n 2, 1) := by decide +kernel
theorem dd_Machine_doReference_230 : decode prog_5_method_20_code 230 = .ok (.iaload, 1) := by decide +kernel
theorem dd_Machine_doReference_231 : decode prog_5_method_20_code 231 = .ok (.invokevirtual 252, 3) := by decide +kernel
theorem dd_Machine_doReference_234 : decode prog_5_method_20_code 234 = .ok (.return_, 1) := by decide +kernel
theorem dd_Machine_convert_0 : decode prog_5_method_19_code 0 = .ok (.aload_n 0, 1) := by decide +kernel
theorem dd_Machine_convert_1 : decode prog_5_method_19_code 1 = .ok (.getfield 14, 3) := by decide +kernel
theorem dd_Machine_convert_4 : decode prog_5_method_19_code 4 = .ok (.invokevirtual 245, 3) := by decide +kernel
theorem dd_Machine_convert_7 : decode prog_5_method_19_code 7 = .ok (.lstore_n 2, 1) := by decide +kernel
theorem dd_Machine_convert_8 : decode prog_5_method_19_code 8 = .ok (.aload_n 0, 1) := by decide +kernel
theorem dd_Machine_convert_9 : decode prog_5_method_19_code 9 = .ok (.getfield 14, 3) := by decide +kernel
theorem dd_Machine_convert_12 : decode prog_5_method_19_code 12 = .ok (.iload_n 1, 1) := by decide +kernel
theorem dd_Machine_convert_13 : decode prog_5_method_19_code 13 = .ok (.lookupswitch 86 #[(167, 59), (172, 65), (173, 69), (192, 77), (194, 77), (196, 59)], 59) := by decide +kernel
theorem dd_Machine_convert_72 : decode prog_5_method_19_code 72 = .ok (.lload_n 2, 1) := by decide +kernel
theorem dd_Machine_convert_73 : decode prog_5_method_19_code 73 = .ok (.l2i, 1) := by decide +kernel
theorem dd_Machine_convert_74 : decode prog_5_method_19_code 74 = .ok (.i2l, 1) := by decide +kernel
theorem dd_Machine_convert_75 : decode prog_5_method_19_code 75 = .ok (.goto 30, 3) := by decide +kernel
theorem dd_Machine_convert_78 : decode prog_5_method_19_code 78 = .ok (.lload_n 2, 1) := by decide +kernel
theorem dd_Machine_convert_79 : decode prog_5_method_19_code 79 = .ok (.goto 26, 3) := by decide +kernel
theorem dd_Machine_convert_82 : decode prog_5_method_19_code 82 = .ok (.lload_n 2, 1) := by decide +kernel
theorem dd_Machine_convert_83 : decode prog_5_method_19_code 83 = .ok (.ldc2_w 255, 3) := by decide +kernel
theorem dd_Machine_convert_86 : decode prog_5_method_19_code 86 = .ok (.land, 1) := by decide +kernel
theorem dd_Machine_convert_87 : decode prog_5_method_19_code 87 = .ok (.goto 18, 3) := by decide +kernel
theorem dd_Machine_convert_90 : decode prog_5_method_19_code 90 = .ok (.lload_n 2, 1) := by decide +kernel
theorem dd_Machine_convert_91 : decode prog_5_method_19_code 91 = .ok (.bipush 8, 2) := by decide +kernel
theorem dd_Machine_convert_93 : decode prog_5_method_19_code 93 = .ok (.invokestatic 295, 3) := by decide +kernel
theorem dd_Machine_convert_96 : decode prog_5_method_19_code 96 = .ok (.goto 9, 3) := by decide +kernel
theorem dd_Machine_convert_99 : decode prog_5_method_19_code 99 = .ok (.lload_n 2, 1) := by decide +kernel
theorem dd_Machine_convert_100 : decode prog_5_method_19_code 100 = .ok (.bipush 16, 2) := by decide +kernel
theorem dd_Machine_convert_102 : decode prog_5_method_19_code 102 = .ok (.invokestatic 295, 3) := by decide +kernel
theorem dd_Machine_convert_105 : decode prog_5_method_19_code 105 = .ok (.invokevirtual 99, 3) := by decide +kernel
theorem dd_Machine_convert_108 : decode prog_5_method_19_code 108 = .ok (.return_, 1) := by decide +kernel
theorem dd_Numbers_trapOf_0 : decode prog_7_method_4_code 0 = .ok (.iload_n 0, 1) := by decide +kernel
theorem dd_Numbers_trapOf_1 : decode prog_7_method_4_code 1 = .ok (.iconst 3, 1) := by decide +kernel
theorem dd_Numbers_trapOf_2 : decode prog_7_method_4_code 2 = .ok (.if_icmp .lt 9, 3) := by decide +kernel
theorem dd_Numbers_trapOf_5 : decode prog_7_method_4_code 5 = .ok (.iload_n 0, 1) := by decide +kernel
theorem dd_Numbers_trapOf_6 : decode prog_7_method_4_code 6 = .ok (.bipush 6, 2) := by decide +kernel
theorem dd_Numbers_trapOf_8 : decode prog_7_method_4_code 8 = .ok (.if_icmp .le 5, 3) := by decide +kernel
theorem dd_Numbers_trapOf_11 : decode prog_7_method_4_code 11 = .ok (.iconst 0, 1) := by decide +kernel
theorem dd_Numbers_trapOf_12 : decode prog_7_method_4_code 12 = .ok (.ireturn, 1) := by decide +kernel
theorem dd_Numbers_trapOf_13 : decode prog_7_method_4_code 13 = .ok (.lload_n 3, 1) := by decide +kernel
theorem dd_Numbers_trapOf_14 : decode prog_7_method_4_code 14 = .ok (.lconst 0, 1) := by decide +kernel
theorem dd_Numbers_trapOf_15 : decode prog_7_method_4_code 15 = .ok (.lcmp, 1) := by decide +kernel
theorem dd_Numbers_trapOf_16 : decode prog_7_method_4_code 16 = .ok (.ifCond .ne 5, 3) := by decide +kernel
theorem dd_Numbers_trapOf_19 : decode prog_7_method_4_code 19 = .ok (.iconst 3, 1) := by decide +kernel
theorem dd_Numbers_trapOf_20 : decode prog_7_method_4_code 20 = .ok (.ireturn, 1) := by decide +kernel
theorem dd_Numbers_trapOf_21 : decode prog_7_method_4_code 21 = .ok (.iload_n 0, 1) := by decide +kernel
theorem dd_Numbers_trapOf_22 : decode prog_7_method_4_code 22 = .ok (.iconst 3, 1) := by decide +kernel
theorem dd_Numbers_trapOf_23 : decode prog_7_method_4_code 23 = .ok (.if_icmp .ne 22, 3) := by decide +kernel
theorem dd_Numbers_trapOf_26 : decode prog_7_method_4_code 26 = .ok (.lload_n 1, 1) := by decide +kernel
theorem dd_Numbers_trapOf_27 : decode prog_7_method_4_code 27 = .ok (.lload 5, 2) := by decide +kernel
theorem dd_Numbers_trapOf_29 : decode prog_7_method_4_code 29 = .ok (.lcmp, 1) := by decide +kernel
theorem dd_Numbers_trapOf_30 : decode prog_7_method_4_code 30 = .ok (.ifCond .ne 15, 3) := by decide +kernel
theorem dd_Numbers_trapOf_33 : decode prog_7_method_4_code 33 = .ok (.lload_n 3, 1) := by decide +kernel
theorem dd_Numbers_trapOf_34 : decode prog_7_method_4_code 34 = .ok (.ldc2_w 17, 3) := by decide +kernel
theorem dd_Numbers_trapOf_37 : decode prog_7_method_4_code 37 = .ok (.lcmp, 1) := by decide +kernel
theorem dd_Numbers_trapOf_38 : decode prog_7_method_4_code 38 = .ok (.ifCond .ne 7, 3) := by decide +kernel
theorem dd_Numbers_trapOf_41 : decode prog_7_method_4_code 41 = .ok (.iconst 4, 1) := by decide +kernel
theorem dd_Numbers_trapOf_42 : decode prog_7_method_4_code 42 = .ok (.goto 4, 3) := by decide +kernel
theorem dd_Numbers_trapOf_45 : decode prog_7_method_4_code 45 = .ok (.iconst 0, 1) := by decide +kernel
theorem dd_Numbers_trapOf_46 : decode prog_7_method_4_code 46 = .ok (.ireturn, 1) := by decide +kernel
theorem dd_Numbers_isBelow_0 : decode prog_7_method_3_code 0 = .ok (.lload_n 0, 1) := by decide +kernel
theorem dd_Numbers_isBelow_1 : decode prog_7_method_3_code 1 = .ok (.ldc2_w 15, 3) := by decide +kernel
theorem dd_Numbers_isBelow_4 : decode prog_7_method_3_code 4 = .ok (.ladd, 1) := by decide +kernel
theorem dd_Numbers_isBelow_5 : decode prog_7_method_3_code 5 = .ok (.lload_n 2, 1) := by decide +kernel
theorem dd_Numbers_isBelow_6 : decode prog_7_method_3_code 6 = .ok (.ldc2_w 15, 3) := by decide +kernel
theorem dd_Numbers_isBelow_9 : decode prog_7_method_3_code 9 = .ok (.ladd, 1) := by decide +kernel
theorem dd_Numbers_isBelow_10 : decode prog_7_method_3_code 10 = .ok (.lcmp, 1) := by decide +kernel
theorem dd_Numbers_isBelow_11 : decode prog_7_method_3_code 11 = .ok (.ifCond .ge 7, 3) := by decide +kernel
theorem dd_Numbers_isBelow_14 : decode prog_7_method_3_code 14 = .ok (.iconst 1, 1) := by decide +kernel
theorem dd_Numbers_isBelow_15 : decode prog_7_method_3_code 15 = .ok (.goto 4, 3) := by decide +kernel
theorem dd_Numbers_isBelow_18 : decode prog_7_method_3_code 18 = .ok (.iconst 0, 1) := by decide +kernel
theorem dd_Numbers_isBelow_19 : decode prog_7_method_3_code 19 = .ok (.ireturn, 1) := by decide +kernel
theorem dd_Numbers_quotient_0 : decode prog_7_method_10_code 0 = .ok (.lload_n 2, 1) := by decide +kernel
theorem dd_Numbers_quotient_1 : decode prog_7_method_10_code 1 = .ok (.lconst 0, 1) := by decide +kernel
theorem dd_Numbers_quotient_2 : decode prog_7_method_10_code 2 = .ok (.lcmp, 1) := by decide +kernel
theorem dd_Numbers_quotient_3 : decode prog_7_method_10_code 3 = .ok (.ifCond .ge 17, 3) := by decide +kernel
theorem dd_Numbers_quotient_6 : decode prog_7_method_10_code 6 = .ok (.lload_n 0, 1) := by decide +kernel
theorem dd_Numbers_quotient_7 : decode prog_7_method_10_code 7 = .ok (.lload_n 2, 1) := by decide +kernel
theorem dd_Numbers_quotient_8 : decode prog_7_method_10_code 8 = .ok (.invokestatic 9, 3) := by decide +kernel
theorem dd_Numbers_quotient_11 : decode prog_7_method_10_code 11 = .ok (.ifCond .eq 7, 3) := by decide +kernel
theorem dd_Numbers_quotient_14 : decode prog_7_method_10_code 14 = .ok (.lconst 0, 1) := by decide +kernel
theorem dd_Numbers_quotient_15 : decode prog_7_method_10_code 15 = .ok (.goto 4, 3) := by decide +kernel
theorem dd_Numbers_quotient_18 : decode prog_7_method_10_code 18 = .ok (.lconst 1, 1) := by decide +kernel
theorem dd_Numbers_quotient_19 : decode prog_7_method_10_code 19 = .ok (.lreturn, 1) := by decide +kernel
theorem dd_Numbers_quotient_20 : decode prog_7_method_10_code 20 = .ok (.lload_n 0, 1) := by decide +kernel
theorem dd_Numbers_quotient_21 : decode prog_7_method_10_code 21 = .ok (.iconst 1, 1) := by decide +kernel
theorem dd_Numbers_quotient_22 : decode prog_7_method_10_code 22 = .ok (.lushr, 1) := by decide +kernel
theorem dd_Numbers_quotient_23 : decode prog_7_method_10_code 23 = .ok (.lload_n 2, 1) := by decide +kernel
theorem dd_Numbers_quotient_24 : decode prog_7_method_10_code 24 = .ok (.ldiv, 1) := by decide +kernel
theorem dd_Numbers_quotient_25 : decode prog_7_method_10_code 25 = .ok (.iconst 1, 1) := by decide +kernel
theorem dd_Numbers_quotient_26 : decode prog_7_method_10_code 26 = .ok (.lshl, 1) := by decide +kernel
theorem dd_Numbers_quotient_27 : decode prog_7_method_10_code 27 = .ok (.lstore 4, 2) := by decide +kernel
theorem dd_Numbers_quotient_29 : decode prog_7_method_10_code 29 = .ok (.lload_n 0, 1) := by decide +kernel
theorem dd_Numbers_quotient_30 : decode prog_7_method_10_code 30 = .ok (.lload 4, 2) := by decide +kernel
theorem dd_Numbers_quotient_32 : decode prog_7_method_10_code 32 = .ok (.lload_n 2, 1) := by decide +kernel
theorem dd_Numbers_quotient_33 : decode prog_7_method_10_code 33 = .ok (.lmul, 1) := by decide +kernel
theorem dd_Numbers_quotient_34 : decode prog_7_method_10_code 34 = .ok (.lsub, 1) := by decide +kernel
theorem dd_Numbers_quotient_35 : decode prog_7_method_10_code 35 = .ok (.lload_n 2, 1) := by decide +kernel
theorem dd_Numbers_quotient_36 : decode prog_7_method_10_code 36 = .ok (.invokestatic 9, 3) := by decide +kernel
theorem dd_Numbers_quotient_39 : decode prog_7_method_10_code 39 = .ok (.ifCond .eq 8, 3) := by decide +kernel
theorem dd_Numbers_quotient_42 : decode prog_7_method_10_code 42 = .ok (.lload 4, 2) := by decide +kernel
theorem dd_Numbers_quotient_44 : decode prog_7_method_10_code 44 = .ok (.goto 7, 3) := by decide +kernel
theorem dd_Numbers_quotient_47 : decode prog_7_method_10_code 47 = .ok (.lload 4, 2) := by decide +kernel
theorem dd_Numbers_quotient_49 : decode prog_7_method_10_code 49 = .ok (.lconst 1, 1) := by decide +kernel
theorem dd_Numbers_quotient_50 : decode prog_7_method_10_code 50 = .ok (.ladd, 1) := by decide +kernel
theorem dd_Numbers_quotient_51 : decode prog_7_method_10_code 51 = .ok (.lreturn, 1) := by decide +kernel
theorem dd_Numbers_answer64_0 : decode prog_7_method_9_code 0 = .ok (.iload_n 0, 1) := by decide +kernel
theorem dd_Numbers_answer64_1 : decode prog_7_method_9_code 1 = .ok (.tableswitch 173 0 13 #[71, 77, 83, 89, 95, 103, 109, 121, 127, 133, 139, 146, 153, 160], 71) := by decide +kernel
theorem dd_Numbers_answer64_72 : decode prog_7_method_9_code 72 = .ok (.lload_n 1, 1) := by decide +kernel
theorem dd_Numbers_answer64_73 : decode prog_7_method_9_code 73 = .ok (.lload_n 3, 1) := by decide +kernel
theorem dd_Numbers_answer64_74 : decode prog_7_method_9_code 74 = .ok (.ladd, 1) := by decide +kernel
theorem dd_Numbers_answer64_75 : decode prog_7_method_9_code 75 = .ok (.goto 109, 3) := by decide +kernel
theorem dd_Numbers_answer64_78 : decode prog_7_method_9_code 78 = .ok (.lload_n 1, 1) := by decide +kernel
theorem dd_Numbers_answer64_79 : decode prog_7_method_9_code 79 = .ok (.lload_n 3, 1) := by decide +kernel
theorem dd_Numbers_answer64_80 : decode prog_7_method_9_code 80 = .ok (.lsub, 1) := by decide +kernel
theorem dd_Numbers_answer64_81 : decode prog_7_method_9_code 81 = .ok (.goto 103, 3) := by decide +kernel
theorem dd_Numbers_answer64_84 : decode prog_7_method_9_code 84 = .ok (.lload_n 1, 1) := by decide +kernel
theorem dd_Numbers_answer64_85 : decode prog_7_method_9_code 85 = .ok (.lload_n 3, 1) := by decide +kernel
theorem dd_Numbers_answer64_86 : decode prog_7_method_9_code 86 = .ok (.lmul, 1) := by decide +kernel
theorem dd_Numbers_answer64_87 : decode prog_7_method_9_code 87 = .ok (.goto 97, 3) := by decide +kernel
theorem dd_Numbers_answer64_90 : decode prog_7_method_9_code 90 = .ok (.lload_n 1, 1) := by decide +kernel
theorem dd_Numbers_answer64_91 : decode prog_7_method_9_code 91 = .ok (.lload_n 3, 1) := by decide +kernel
theorem dd_Numbers_answer64_92 : decode prog_7_method_9_code 92 = .ok (.ldiv, 1) := by decide +kernel
theorem dd_Numbers_answer64_93 : decode prog_7_method_9_code 93 = .ok (.goto 91, 3) := by decide +kernel
theorem dd_Numbers_answer64_96 : decode prog_7_method_9_code 96 = .ok (.lload_n 1, 1) := by decide +kernel
theorem dd_Numbers_answer64_97 : decode prog_7_method_9_code 97 = .ok (.lload_n 3, 1) := by decide +kernel
theorem dd_Numbers_answer64_98 : decode prog_7_method_9_code 98 = .ok (.invokestatic 35, 3) := by decide +kernel
theorem dd_Numbers_answer64_101 : decode prog_7_method_9_code 101 = .ok (.goto 83, 3) := by decide +kernel
theorem dd_Numbers_answer64_104 : decode prog_7_method_9_code 104 = .ok (.lload_n 1, 1) := by decide +kernel
theorem dd_Numbers_answer64_105 : decode prog_7_method_9_code 105 = .ok (.lload_n 3, 1) := by decide +kernel
theorem dd_Numbers_answer64_106 : decode prog_7_method_9_code 106 = .ok (.lrem, 1) := by decide +kernel
theorem dd_Numbers_answer64_107 : decode prog_7_method_9_code 107 = .ok (.goto 77, 3) := by decide +kernel
theorem dd_Numbers_answer64_110 : decode prog_7_method_9_code 110 = .ok (.lload_n 1, 1) := by decide +kernel
theorem dd_Numbers_answer64_111 : decode prog_7_method_9_code 111 = .ok (.lload_n 1, 1) := by decide +kernel
theorem dd_Numbers_answer64_112 : decode prog_7_method_9_code 112 = .ok (.lload_n 3, 1) := by decide +kernel
theorem dd_Numbers_answer64_113 : decode prog_7_method_9_code 113 = .ok (.invokestatic 35, 3) := by decide +kernel
theorem dd_Numbers_answer64_116 : decode prog_7_method_9_code 116 = .ok (.lload_n 3, 1) := by decide +kernel
theorem dd_Numbers_answer64_117 : decode prog_7_method_9_code 117 = .ok (.lmul, 1) := by decide +kernel
theorem dd_Numbers_answer64_118 : decode prog_7_method_9_code 118 = .ok (.lsub, 1) := by decide +kernel
theorem dd_Numbers_answer64_119 : decode prog_7_method_9_code 119 = .ok (.goto 65, 3) := by decide +kernel
theorem dd_Numbers_answer64_122 : decode prog_7_method_9_code 122 = .ok (.lload_n 1, 1) := by decide +kernel
theorem dd_Numbers_answer64_123 : decode prog_7_method_9_code 123 = .ok (.lload_n 3, 1) := by decide +kernel
theorem dd_Numbers_answer64_124 : decode prog_7_method_9_code 124 = .ok (.land, 1) := by decide +kernel
theorem dd_Numbers_answer64_125 : decode prog_7_method_9_code 125 = .ok (.goto 59, 3) := by decide +kernel
theorem dd_Numbers_answer64_128 : decode prog_7_method_9_code 128 = .ok (.lload_n 1, 1) := by decide +kernel
theorem dd_Numbers_answer64_129 : decode prog_7_method_9_code 129 = .ok (.lload_n 3, 1) := by decide +kernel
theorem dd_Numbers_answer64_130 : decode prog_7_method_9_code 130 = .ok (.lor, 1) := by decide +kernel
theorem dd_Numbers_answer64_131 : decode prog_7_method_9_code 131 = .ok (.goto 53, 3) := by decide +kernel
theorem dd_Numbers_answer64_134 : decode prog_7_method_9_code 134 = .ok (.lload_n 1, 1) := by decide +kernel
theorem dd_Numbers_answer64_135 : decode prog_7_method_9_code 135 = .ok (.lload_n 3, 1) := by decide +kernel
theorem dd_Numbers_answer64_136 : decode prog_7_method_9_code 136 = .ok (.lxor, 1) := by decide +kernel
theorem dd_Numbers_answer64_137 : decode prog_7_method_9_code 137 = .ok (.goto 47, 3) := by decide +kernel
theorem dd_Numbers_answer64_140 : decode prog_7_method_9_code 140 = .ok (.lload_n 1, 1) := by decide +kernel
theorem dd_Numbers_answer64_141 : decode prog_7_method_9_code 141 = .ok (.lload_n 3, 1) := by decide +kernel
theorem dd_Numbers_answer64_142 : decode prog_7_method_9_code 142 = .ok (.l2i, 1) := by decide +kernel
theorem dd_Numbers_answer64_143 : decode prog_7_method_9_code 143 = .ok (.lshl, 1) := by decide +kernel
theorem dd_Numbers_answer64_144 : decode prog_7_method_9_code 144 = .ok (.goto 40, 3) := by decide +kernel
theorem dd_Numbers_answer64_147 : decode prog_7_method_9_code 147 = .ok (.lload_n 1, 1) := by decide +kernel
theorem dd_Numbers_answer64_148 : decode prog_7_method_9_code 148 = .ok (.lload_n 3, 1) := by decide +kernel
theorem dd_Numbers_answer64_149 : decode prog_7_method_9_code 149 = .ok (.l2i, 1) := by decide +kernel
theorem dd_Numbers_answer64_150 : decode prog_7_method_9_code 150 = .ok (.lshr, 1) := by decide +kernel
theorem dd_Numbers_answer64_151 : decode prog_7_method_9_code 151 = .ok (.goto 33, 3) := by decide +kernel
theorem dd_Numbers_answer64_154 : decode prog_7_method_9_code 154 = .ok (.lload_n 1, 1) := by decide +kernel
theorem dd_Numbers_answer64_155 : decode prog_7_method_9_code 155 = .ok (.lload_n 3, 1) := by decide +kernel
theorem dd_Numbers_answer64_156 : decode prog_7_method_9_code 156 = .ok (.l2i, 1) := by decide +kernel
theorem dd_Numbers_answer64_157 : decode prog_7_method_9_code 157 = .ok (.lushr, 1) := by decide +kernel
theorem dd_Numbers_answer64_158 : decode prog_7_method_9_code 158 = .ok (.goto 26, 3) := by decide +kernel
theorem dd_Numbers_answer64_161 : decode prog_7_method_9_code 161 = .ok (.lload_n 1, 1) := by decide +kernel
theorem dd_Numbers_answer64_162 : decode prog_7_method_9_code 162 = .ok (.lload_n 3, 1) := by decide +kernel
theorem dd_Numbers_answer64_163 : decode prog_7_method_9_code 163 = .ok (.l2i, 1) := by decide +kernel
theorem dd_Numbers_answer64_164 : decode prog_7_method_9_code 164 = .ok (.lshl, 1) := by decide +kernel
theorem dd_Numbers_answer64_165 : decode prog_7_method_9_code 165 = .ok (.lload_n 1, 1) := by decide +kernel
theorem dd_Numbers_answer64_166 : decode prog_7_method_9_code 166 = .ok (.lload_n 3, 1) := by decide +kernel
theorem dd_Numbers_answer64_167 : decode prog_7_method_9_code 167 = .ok (.lneg, 1) := by decide +kernel
theorem dd_Numbers_answer64_168 : decode prog_7_method_9_code 168 = .ok (.l2i, 1) := by decide +kernel
theorem dd_Numbers_answer64_169 : decode prog_7_method_9_code 169 = .ok (.lushr, 1) := by decide +kernel
theorem dd_Numbers_answer64_170 : decode prog_7_method_9_code 170 = .ok (.lor, 1) := by decide +kernel
theorem dd_Numbers_answer64_171 : decode prog_7_method_9_code 171 = .ok (.goto 13, 3) := by decide +kernel
theorem dd_Numbers_answer64_174 : decode prog_7_method_9_code 174 = .ok (.lload_n 1, 1) := by decide +kernel
theorem dd_Numbers_answer64_175 : decode prog_7_method_9_code 175 = .ok (.lload_n 3, 1) := by decide +kernel
theorem dd_Numbers_answer64_176 : decode prog_7_method_9_code 176 = .ok (.l2i, 1) := by decide +kernel
theorem dd_Numbers_answer64_177 : decode prog_7_method_9_code 177 = .ok (.lushr, 1) := by decide +kernel
theorem dd_Numbers_answer64_178 : decode prog_7_method_9_code 178 = .ok (.lload_n 1, 1) := by decide +kernel
theorem dd_Numbers_answer64_179 : decode prog_7_method_9_code 179 = .ok (.lload_n 3, 1) := by decide +kernel
theorem dd_Numbers_answer64_180 : decode prog_7_method_9_code 180 = .ok (.lneg, 1) := by decide +kernel
theorem dd_Numbers_answer64_181 : decode prog_7_method_9_code 181 = .ok (.l2i, 1) := by decide +kernel
theorem dd_Numbers_answer64_182 : decode prog_7_method_9_code 182 = .ok (.lshl, 1) := by decide +kernel
theorem dd_Numbers_answer64_183 : decode prog_7_method_9_code 183 = .ok (.lor, 1) := by decide +kernel
theorem dd_Numbers_answer64_184 : decode prog_7_method_9_code 184 = .ok (.lreturn, 1) := by decide +kernel
theorem dd_Machine_compute64_0 : decode prog_5_method_18_code 0 = .ok (.aload_n 0, 1) := by decide +kernel
theorem dd_Machine_compute64_1 : decode prog_5_method_18_code 1 = .ok (.getfield 14, 3) := by decide +kernel
theorem dd_Machine_compute64_4 : decode prog_5_method_18_code 4 = .ok (.invokevirtual 245, 3) := by decide +kernel
theorem dd_Machine_compute64_7 : decode prog_5_method_18_code 7 = .ok (.lstore_n 2, 1) := by decide +kernel
theorem dd_Machine_compute64_8 : decode prog_5_method_18_code 8 = .ok (.aload_n 0, 1) := by decide +kernel
theorem dd_Machine_compute64_9 : decode prog_5_method_18_code 9 = .ok (.getfield 14, 3) := by decide +kernel
theorem dd_Machine_compute64_12 : decode prog_5_method_18_code 12 = .ok (.invokevirtual 245, 3) := by decide +kernel
theorem dd_Machine_compute64_15 : decode prog_5_method_18_code 15 = .ok (.lstore 4, 2) := by decide +kernel
theorem dd_Machine_compute64_17 : decode prog_5_method_18_code 17 = .ok (.aload_n 0, 1) := by decide +kernel
theorem dd_Machine_compute64_18 : decode prog_5_method_18_code 18 = .ok (.iload_n 1, 1) := by decide +kernel
theorem dd_Machine_compute64_19 : decode prog_5_method_18_code 19 = .ok (.lload 4, 2) := by decide +kernel
theorem dd_Machine_compute64_21 : decode prog_5_method_18_code 21 = .ok (.lload_n 2, 1) := by decide +kernel
theorem dd_Machine_compute64_22 : decode prog_5_method_18_code 22 = .ok (.ldc2_w 335, 3) := by decide +kernel
theorem dd_Machine_compute64_25 : decode prog_5_method_18_code 25 = .ok (.invokestatic 327, 3) := by decide +kernel
theorem dd_Machine_compute64_28 : decode prog_5_method_18_code 28 = .ok (.putfield 163, 3) := by decide +kernel
theorem dd_Machine_compute64_31 : decode prog_5_method_18_code 31 = .ok (.aload_n 0, 1) := by decide +kernel
theorem dd_Machine_compute64_32 : decode prog_5_method_18_code 32 = .ok (.getfield 163, 3) := by decide +kernel
theorem dd_Machine_compute64_35 : decode prog_5_method_18_code 35 = .ok (.ifCond .ne 17, 3) := by decide +kernel
theorem dd_Machine_compute64_38 : decode prog_5_method_18_code 38 = .ok (.aload_n 0, 1) := by decide +kernel
theorem dd_Machine_compute64_39 : decode prog_5_method_18_code 39 = .ok (.getfield 14, 3) := by decide +kernel
theorem dd_Machine_compute64_42 : decode prog_5_method_18_code 42 = .ok (.iload_n 1, 1) := by decide +kernel
theorem dd_Machine_compute64_43 : decode prog_5_method_18_code 43 = .ok (.lload 4, 2) := by decide +kernel
theorem dd_Machine_compute64_45 : decode prog_5_method_18_code 45 = .ok (.lload_n 2, 1) := by decide +kernel
theorem dd_Machine_compute64_46 : decode prog_5_method_18_code 46 = .ok (.invokestatic 337, 3) := by decide +kernel
theorem dd_Machine_compute64_49 : decode prog_5_method_18_code 49 = .ok (.invokevirtual 99, 3) := by decide +kernel
theorem dd_Machine_compute64_52 : decode prog_5_method_18_code 52 = .ok (.return_, 1) := by decide +kernel
theorem dd_Long_bitCount_0 : decode prog_21_method_50_code 0 = .ok (.lload_n 0, 1) := by decide +kernel
theorem dd_Long_bitCount_1 : decode prog_21_method_50_code 1 = .ok (.lload_n 0, 1) := by decide +kernel
theorem dd_Long_bitCount_2 : decode prog_21_method_50_code 2 = .ok (.iconst 1, 1) := by decide +kernel
theorem dd_Long_bitCount_3 : decode prog_21_method_50_code 3 = .ok (.lushr, 1) := by decide +kernel
theorem dd_Long_bitCount_4 : decode prog_21_method_50_code 4 = .ok (.ldc2_w 314, 3) := by decide +kernel
theorem dd_Long_bitCount_7 : decode prog_21_method_50_code 7 = .ok (.land, 1) := by decide +kernel
theorem dd_Long_bitCount_8 : decode prog_21_method_50_code 8 = .ok (.lsub, 1) := by decide +kernel
theorem dd_Long_bitCount_9 : decode prog_21_method_50_code 9 = .ok (.lstore_n 0, 1) := by decide +kernel
theorem dd_Long_bitCount_10 : decode prog_21_method_50_code 10 = .ok (.lload_n 0, 1) := by decide +kernel
theorem dd_Long_bitCount_11 : decode prog_21_method_50_code 11 = .ok (.ldc2_w 316, 3) := by decide +kernel
theorem dd_Long_bitCount_14 : decode prog_21_method_50_code 14 = .ok (.land, 1) := by decide +kernel
theorem dd_Long_bitCount_15 : decode prog_21_method_50_code 15 = .ok (.lload_n 0, 1) := by decide +kernel
theorem dd_Long_bitCount_16 : decode prog_21_method_50_code 16 = .ok (.iconst 2, 1) := by decide +kernel
theorem dd_Long_bitCount_17 : decode prog_21_method_50_code 17 = .ok (.lushr, 1) := by decide +kernel
theorem dd_Long_bitCount_18 : decode prog_21_method_50_code 18 = .ok (.ldc2_w 316, 3) := by decide +kernel
theorem dd_Long_bitCount_21 : decode prog_21_method_50_code 21 = .ok (.land, 1) := by decide +kernel
theorem dd_Long_bitCount_22 : decode prog_21_method_50_code 22 = .ok (.ladd, 1) := by decide +kernel
theorem dd_Long_bitCount_23 : decode prog_21_method_50_code 23 = .ok (.lstore_n 0, 1) := by decide +kernel
theorem dd_Long_bitCount_24 : decode prog_21_method_50_code 24 = .ok (.lload_n 0, 1) := by decide +kernel
theorem dd_Long_bitCount_25 : decode prog_21_method_50_code 25 = .ok (.lload_n 0, 1) := by decide +kernel
theorem dd_Long_bitCount_26 : decode prog_21_method_50_code 26 = .ok (.iconst 4, 1) := by decide +kernel
theorem dd_Long_bitCount_27 : decode prog_21_method_50_code 27 = .ok (.lushr, 1) := by decide +kernel
theorem dd_Long_bitCount_28 : decode prog_21_method_50_code 28 = .ok (.ladd, 1) := by decide +kernel
theorem dd_Long_bitCount_29 : decode prog_21_method_50_code 29 = .ok (.ldc2_w 318, 3) := by decide +kernel
theorem dd_Long_bitCount_32 : decode prog_21_method_50_code 32 = .ok (.land, 1) := by decide +kernel
theorem dd_Long_bitCount_33 : decode prog_21_method_50_code 33 = .ok (.lstore_n 0, 1) := by decide +kernel
theorem dd_Long_bitCount_34 : decode prog_21_method_50_code 34 = .ok (.lload_n 0, 1) := by decide +kernel
theorem dd_Long_bitCount_35 : decode prog_21_method_50_code 35 = .ok (.lload_n 0, 1) := by decide +kernel
theorem dd_Long_bitCount_36 : decode prog_21_method_50_code 36 = .ok (.bipush 8, 2) := by decide +kernel
theorem dd_Long_bitCount_38 : decode prog_21_method_50_code 38 = .ok (.lushr, 1) := by decide +kernel
theorem dd_Long_bitCount_39 : decode prog_21_method_50_code 39 = .ok (.ladd, 1) := by decide +kernel
theorem dd_Long_bitCount_40 : decode prog_21_method_50_code 40 = .ok (.lstore_n 0, 1) := by decide +kernel
theorem dd_Long_bitCount_41 : decode prog_21_method_50_code 41 = .ok (.lload_n 0, 1) := by decide +kernel
theorem dd_Long_bitCount_42 : decode prog_21_method_50_code 42 = .ok (.lload_n 0, 1) := by decide +kernel
theorem dd_Long_bitCount_43 : decode prog_21_method_50_code 43 = .ok (.bipush 16, 2) := by decide +kernel
theorem dd_Long_bitCount_45 : decode prog_21_method_50_code 45 = .ok (.lushr, 1) := by decide +kernel
theorem dd_Long_bitCount_46 : decode prog_21_method_50_code 46 = .ok (.ladd, 1) := by decide +kernel
theorem dd_Long_bitCount_47 : decode prog_21_method_50_code 47 = .ok (.lstore_n 0, 1) := by decide +kernel
theorem dd_Long_bitCount_48 : decode prog_21_method_50_code 48 = .ok (.lload_n 0, 1) := by decide +kernel
theorem dd_Long_bitCount_49 : decode prog_21_method_50_code 49 = .ok (.lload_n 0, 1) := by decide +kernel
theorem dd_Long_bitCount_50 : decode prog_21_method_50_code 50 = .ok (.bipush 32, 2) := by decide +kernel
theorem dd_Long_bitCount_52 : decode prog_21_method_50_code 52 = .ok (.lushr, 1) := by decide +kernel
theorem dd_Long_bitCount_53 : decode prog_21_method_50_code 53 = .ok (.ladd, 1) := by decide +kernel
theorem dd_Long_bitCount_54 : decode prog_21_method_50_code 54 = .ok (.lstore_n 0, 1) := by decide +kernel
theorem dd_Long_bitCount_55 : decode prog_21_method_50_code 55 = .ok (.lload_n 0, 1) := by decide +kernel
theorem dd_Long_bitCount_56 : decode prog_21_method_50_code 56 = .ok (.l2i, 1) := by decide +kernel
theorem dd_Long_bitCount_57 : decode prog_21_method_50_code 57 = .ok (.bipush 127, 2) := by decide +kernel
theorem dd_Long_bitCount_59 : decode prog_21_method_50_code 59 = .ok (.iand, 1) := by decide +kernel
theorem dd_Long_bitCount_60 : decode prog_21_method_50_code 60 = .ok (.ireturn, 1) := by decide +kernel
theorem dd_Numbers_leading_0 : decode prog_7_method_7_code 0 = .ok (.lload_n 0, 1) := by decide +kernel
theorem dd_Numbers_leading_1 : decode prog_7_method_7_code 1 = .ok (.lstore_n 2, 1) := by decide +kernel
theorem dd_Numbers_leading_2 : decode prog_7_method_7_code 2 = .ok (.iconst 1, 1) := by decide +kernel
theorem dd_Numbers_leading_3 : decode prog_7_method_7_code 3 = .ok (.istore 4, 2) := by decide +kernel
theorem dd_Numbers_leading_5 : decode prog_7_method_7_code 5 = .ok (.iload 4, 2) := by decide +kernel
theorem dd_Numbers_leading_7 : decode prog_7_method_7_code 7 = .ok (.bipush 32, 2) := by decide +kernel
theorem dd_Numbers_leading_9 : decode prog_7_method_7_code 9 = .ok (.if_icmp .gt 19, 3) := by decide +kernel
theorem dd_Numbers_leading_12 : decode prog_7_method_7_code 12 = .ok (.lload_n 2, 1) := by decide +kernel
theorem dd_Numbers_leading_13 : decode prog_7_method_7_code 13 = .ok (.lload_n 2, 1) := by decide +kernel
theorem dd_Numbers_leading_14 : decode prog_7_method_7_code 14 = .ok (.iload 4, 2) := by decide +kernel
theorem dd_Numbers_leading_16 : decode prog_7_method_7_code 16 = .ok (.lushr, 1) := by decide +kernel
theorem dd_Numbers_leading_17 : decode prog_7_method_7_code 17 = .ok (.lor, 1) := by decide +kernel
theorem dd_Numbers_leading_18 : decode prog_7_method_7_code 18 = .ok (.lstore_n 2, 1) := by decide +kernel
theorem dd_Numbers_leading_19 : decode prog_7_method_7_code 19 = .ok (.iload 4, 2) := by decide +kernel
theorem dd_Numbers_leading_21 : decode prog_7_method_7_code 21 = .ok (.iconst 2, 1) := by decide +kernel
theorem dd_Numbers_leading_22 : decode prog_7_method_7_code 22 = .ok (.imul, 1) := by decide +kernel
theorem dd_Numbers_leading_23 : decode prog_7_method_7_code 23 = .ok (.istore 4, 2) := by decide +kernel
theorem dd_Numbers_leading_25 : decode prog_7_method_7_code 25 = .ok (.goto (-20), 3) := by decide +kernel
theorem dd_Numbers_leading_28 : decode prog_7_method_7_code 28 = .ok (.lload_n 2, 1) := by decide +kernel
theorem dd_Numbers_leading_29 : decode prog_7_method_7_code 29 = .ok (.ldc2_w 17, 3) := by decide +kernel
theorem dd_Numbers_leading_32 : decode prog_7_method_7_code 32 = .ok (.lxor, 1) := by decide +kernel
theorem dd_Numbers_leading_33 : decode prog_7_method_7_code 33 = .ok (.invokestatic 31, 3) := by decide +kernel
theorem dd_Numbers_leading_36 : decode prog_7_method_7_code 36 = .ok (.ireturn, 1) := by decide +kernel
theorem dd_Numbers_counted64_0 : decode prog_7_method_6_code 0 = .ok (.iload_n 0, 1) := by decide +kernel
theorem dd_Numbers_counted64_1 : decode prog_7_method_6_code 1 = .ok (.lookupswitch 49 #[(121, 27), (122, 34)], 27) := by decide +kernel
theorem dd_Numbers_counted64_28 : decode prog_7_method_6_code 28 = .ok (.lload_n 1, 1) := by decide +kernel
theorem dd_Numbers_counted64_29 : decode prog_7_method_6_code 29 = .ok (.invokestatic 21, 3) := by decide +kernel
theorem dd_Numbers_counted64_32 : decode prog_7_method_6_code 32 = .ok (.goto 22, 3) := by decide +kernel
theorem dd_Numbers_counted64_35 : decode prog_7_method_6_code 35 = .ok (.lload_n 1, 1) := by decide +kernel
theorem dd_Numbers_counted64_36 : decode prog_7_method_6_code 36 = .ok (.lconst 1, 1) := by decide +kernel
theorem dd_Numbers_counted64_37 : decode prog_7_method_6_code 37 = .ok (.lsub, 1) := by decide +kernel
theorem dd_Numbers_counted64_38 : decode prog_7_method_6_code 38 = .ok (.lload_n 1, 1) := by decide +kernel
theorem dd_Numbers_counted64_39 : decode prog_7_method_6_code 39 = .ok (.ldc2_w 17, 3) := by decide +kernel
theorem dd_Numbers_counted64_42 : decode prog_7_method_6_code 42 = .ok (.lxor, 1) := by decide +kernel
theorem dd_Numbers_counted64_43 : decode prog_7_method_6_code 43 = .ok (.land, 1) := by decide +kernel
theorem dd_Numbers_counted64_44 : decode prog_7_method_6_code 44 = .ok (.invokestatic 31, 3) := by decide +kernel
theorem dd_Numbers_counted64_47 : decode prog_7_method_6_code 47 = .ok (.goto 7, 3) := by decide +kernel
theorem dd_Numbers_counted64_50 : decode prog_7_method_6_code 50 = .ok (.lload_n 1, 1) := by decide +kernel
theorem dd_Numbers_counted64_51 : decode prog_7_method_6_code 51 = .ok (.invokestatic 31, 3) := by decide +kernel
theorem dd_Numbers_counted64_54 : decode prog_7_method_6_code 54 = .ok (.ireturn, 1) := by decide +kernel
theorem dd_Numbers_answer32_0 : decode prog_7_method_8_code 0 = .ok (.iload_n 0, 1) := by decide +kernel
theorem dd_Numbers_answer32_1 : decode prog_7_method_8_code 1 = .ok (.tableswitch 182 0 13 #[71, 77, 83, 89, 95, 112, 118, 135, 141, 147, 153, 159, 165, 171], 71) := by decide +kernel
theorem dd_Numbers_answer32_72 : decode prog_7_method_8_code 72 = .ok (.iload_n 1, 1) := by decide +kernel
theorem dd_Numbers_answer32_73 : decode prog_7_method_8_code 73 = .ok (.iload_n 2, 1) := by decide +kernel
theorem dd_Numbers_answer32_74 : decode prog_7_method_8_code 74 = .ok (.iadd, 1) := by decide +kernel
theorem dd_Numbers_answer32_75 : decode prog_7_method_8_code 75 = .ok (.goto 116, 3) := by decide +kernel
theorem dd_Numbers_answer32_78 : decode prog_7_method_8_code 78 = .ok (.iload_n 1, 1) := by decide +kernel
theorem dd_Numbers_answer32_79 : decode prog_7_method_8_code 79 = .ok (.iload_n 2, 1) := by decide +kernel
theorem dd_Numbers_answer32_80 : decode prog_7_method_8_code 80 = .ok (.isub, 1) := by decide +kernel
theorem dd_Numbers_answer32_81 : decode prog_7_method_8_code 81 = .ok (.goto 110, 3) := by decide +kernel
theorem dd_Numbers_answer32_84 : decode prog_7_method_8_code 84 = .ok (.iload_n 1, 1) := by decide +kernel
theorem dd_Numbers_answer32_85 : decode prog_7_method_8_code 85 = .ok (.iload_n 2, 1) := by decide +kernel
theorem dd_Numbers_answer32_86 : decode prog_7_method_8_code 86 = .ok (.imul, 1) := by decide +kernel
theorem dd_Numbers_answer32_87 : decode prog_7_method_8_code 87 = .ok (.goto 104, 3) := by decide +kernel
theorem dd_Numbers_answer32_90 : decode prog_7_method_8_code 90 = .ok (.iload_n 1, 1) := by decide +kernel
theorem dd_Numbers_answer32_91 : decode prog_7_method_8_code 91 = .ok (.iload_n 2, 1) := by decide +kernel
theorem dd_Numbers_answer32_92 : decode prog_7_method_8_code 92 = .ok (.idiv, 1) := by decide +kernel
theorem dd_Numbers_answer32_93 : decode prog_7_method_8_code 93 = .ok (.goto 98, 3) := by decide +kernel
theorem dd_Numbers_answer32_96 : decode prog_7_method_8_code 96 = .ok (.iload_n 1, 1) := by decide +kernel
theorem dd_Numbers_answer32_97 : decode prog_7_method_8_code 97 = .ok (.i2l, 1) := by decide +kernel
theorem dd_Numbers_answer32_98 : decode prog_7_method_8_code 98 = .ok (.ldc2_w 19, 3) := by decide +kernel
theorem dd_Numbers_answer32_101 : decode prog_7_method_8_code 101 = .ok (.land, 1) := by decide +kernel
theorem dd_Numbers_answer32_102 : decode prog_7_method_8_code 102 = .ok (.iload_n 2, 1) := by decide +kernel
theorem dd_Numbers_answer32_103 : decode prog_7_method_8_code 103 = .ok (.i2l, 1) := by decide +kernel
theorem dd_Numbers_answer32_104 : decode prog_7_method_8_code 104 = .ok (.ldc2_w 19, 3) := by decide +kernel
theorem dd_Numbers_answer32_107 : decode prog_7_method_8_code 107 = .ok (.land, 1) := by decide +kernel
theorem dd_Numbers_answer32_108 : decode prog_7_method_8_code 108 = .ok (.ldiv, 1) := by decide +kernel
theorem dd_Numbers_answer32_109 : decode prog_7_method_8_code 109 = .ok (.l2i, 1) := by decide +kernel
theorem dd_Numbers_answer32_110 : decode prog_7_method_8_code 110 = .ok (.goto 81, 3) := by decide +kernel
theorem dd_Numbers_answer32_113 : decode prog_7_method_8_code 113 = .ok (.iload_n 1, 1) := by decide +kernel
theorem dd_Numbers_answer32_114 : decode prog_7_method_8_code 114 = .ok (.iload_n 2, 1) := by decide +kernel
theorem dd_Numbers_answer32_115 : decode prog_7_method_8_code 115 = .ok (.irem, 1) := by decide +kernel
theorem dd_Numbers_answer32_116 : decode prog_7_method_8_code 116 = .ok (.goto 75, 3) := by decide +kernel
theorem dd_Numbers_answer32_119 : decode prog_7_method_8_code 119 = .ok (.iload_n 1, 1) := by decide +kernel
theorem dd_Numbers_answer32_120 : decode prog_7_method_8_code 120 = .ok (.i2l, 1) := by decide +kernel
theorem dd_Numbers_answer32_121 : decode prog_7_method_8_code 121 = .ok (.ldc2_w 19, 3) := by decide +kernel
theorem dd_Numbers_answer32_124 : decode prog_7_method_8_code 124 = .ok (.land, 1) := by decide +kernel
theorem dd_Numbers_answer32_125 : decode prog_7_method_8_code 125 = .ok (.iload_n 2, 1) := by decide +kernel
theorem dd_Numbers_answer32_126 : decode prog_7_method_8_code 126 = .ok (.i2l, 1) := by decide +kernel
theorem dd_Numbers_answer32_127 : decode prog_7_method_8_code 127 = .ok (.ldc2_w 19, 3) := by decide +kernel
theorem dd_Numbers_answer32_130 : decode prog_7_method_8_code 130 = .ok (.land, 1) := by decide +kernel
theorem dd_Numbers_answer32_131 : decode prog_7_method_8_code 131 = .ok (.lrem, 1) := by decide +kernel
theorem dd_Numbers_answer32_132 : decode prog_7_method_8_code 132 = .ok (.l2i, 1) := by decide +kernel
theorem dd_Numbers_answer32_133 : decode prog_7_method_8_code 133 = .ok (.goto 58, 3) := by decide +kernel
theorem dd_Numbers_answer32_136 : decode prog_7_method_8_code 136 = .ok (.iload_n 1, 1) := by decide +kernel
theorem dd_Numbers_answer32_137 : decode prog_7_method_8_code 137 = .ok (.iload_n 2, 1) := by decide +kernel
theorem dd_Numbers_answer32_138 : decode prog_7_method_8_code 138 = .ok (.iand, 1) := by decide +kernel
theorem dd_Numbers_answer32_139 : decode prog_7_method_8_code 139 = .ok (.goto 52, 3) := by decide +kernel
theorem dd_Numbers_answer32_142 : decode prog_7_method_8_code 142 = .ok (.iload_n 1, 1) := by decide +kernel
theorem dd_Numbers_answer32_143 : decode prog_7_method_8_code 143 = .ok (.iload_n 2, 1) := by decide +kernel
theorem dd_Numbers_answer32_144 : decode prog_7_method_8_code 144 = .ok (.ior, 1) := by decide +kernel
theorem dd_Numbers_answer32_145 : decode prog_7_method_8_code 145 = .ok (.goto 46, 3) := by decide +kernel
theorem dd_Numbers_answer32_148 : decode prog_7_method_8_code 148 = .ok (.iload_n 1, 1) := by decide +kernel
theorem dd_Numbers_answer32_149 : decode prog_7_method_8_code 149 = .ok (.iload_n 2, 1) := by decide +kernel
theorem dd_Numbers_answer32_150 : decode prog_7_method_8_code 150 = .ok (.ixor, 1) := by decide +kernel
theorem dd_Numbers_answer32_151 : decode prog_7_method_8_code 151 = .ok (.goto 40, 3) := by decide +kernel
theorem dd_Numbers_answer32_154 : decode prog_7_method_8_code 154 = .ok (.iload_n 1, 1) := by decide +kernel
theorem dd_Numbers_answer32_155 : decode prog_7_method_8_code 155 = .ok (.iload_n 2, 1) := by decide +kernel
theorem dd_Numbers_answer32_156 : decode prog_7_method_8_code 156 = .ok (.ishl, 1) := by decide +kernel
theorem dd_Numbers_answer32_157 : decode prog_7_method_8_code 157 = .ok (.goto 34, 3) := by decide +kernel
theorem dd_Numbers_answer32_160 : decode prog_7_method_8_code 160 = .ok (.iload_n 1, 1) := by decide +kernel
theorem dd_Numbers_answer32_161 : decode prog_7_method_8_code 161 = .ok (.iload_n 2, 1) := by decide +kernel
theorem dd_Numbers_answer32_162 : decode prog_7_method_8_code 162 = .ok (.ishr, 1) := by decide +kernel
theorem dd_Numbers_answer32_163 : decode prog_7_method_8_code 163 = .ok (.goto 28, 3) := by decide +kernel
theorem dd_Numbers_answer32_166 : decode prog_7_method_8_code 166 = .ok (.iload_n 1, 1) := by decide +kernel
theorem dd_Numbers_answer32_167 : decode prog_7_method_8_code 167 = .ok (.iload_n 2, 1) := by decide +kernel
theorem dd_Numbers_answer32_168 : decode prog_7_method_8_code 168 = .ok (.iushr, 1) := by decide +kernel
theorem dd_Numbers_answer32_169 : decode prog_7_method_8_code 169 = .ok (.goto 22, 3) := by decide +kernel
theorem dd_Numbers_answer32_172 : decode prog_7_method_8_code 172 = .ok (.iload_n 1, 1) := by decide +kernel
theorem dd_Numbers_answer32_173 : decode prog_7_method_8_code 173 = .ok (.iload_n 2, 1) := by decide +kernel
theorem dd_Numbers_answer32_174 : decode prog_7_method_8_code 174 = .ok (.ishl, 1) := by decide +kernel
theorem dd_Numbers_answer32_175 : decode prog_7_method_8_code 175 = .ok (.iload_n 1, 1) := by decide +kernel
theorem dd_Numbers_answer32_176 : decode prog_7_method_8_code 176 = .ok (.iload_n 2, 1) := by decide +kernel
theorem dd_Numbers_answer32_177 : decode prog_7_method_8_code 177 = .ok (.ineg, 1) := by decide +kernel
theorem dd_Numbers_answer32_178 : decode prog_7_method_8_code 178 = .ok (.iushr, 1) := by decide +kernel
theorem dd_Numbers_answer32_179 : decode prog_7_method_8_code 179 = .ok (.ior, 1) := by decide +kernel
theorem dd_Numbers_answer32_180 : decode prog_7_method_8_code 180 = .ok (.goto 11, 3) := by decide +kernel
theorem dd_Numbers_answer32_183 : decode prog_7_method_8_code 183 = .ok (.iload_n 1, 1) := by decide +kernel
theorem dd_Numbers_answer32_184 : decode prog_7_method_8_code 184 = .ok (.iload_n 2, 1) := by decide +kernel
theorem dd_Numbers_answer32_185 : decode prog_7_method_8_code 185 = .ok (.iushr, 1) := by decide +kernel
theorem dd_Numbers_answer32_186 : decode prog_7_method_8_code 186 = .ok (.iload_n 1, 1) := by decide +kernel
theorem dd_Numbers_answer32_187 : decode prog_7_method_8_code 187 = .ok (.iload_n 2, 1) := by decide +kernel
theorem dd_Numbers_answer32_188 : decode prog_7_method_8_code 188 = .ok (.ineg, 1) := by decide +kernel
theorem dd_Numbers_answer32_189 : decode prog_7_method_8_code 189 = .ok (.ishl, 1) := by decide +kernel
theorem dd_Numbers_answer32_190 : decode prog_7_method_8_code 190 = .ok (.ior, 1) := by decide +kernel
theorem dd_Numbers_answer32_191 : decode prog_7_method_8_code 191 = .ok (.ireturn, 1) := by decide +kernel
theorem dd_Machine_compute32_0 : decode prog_5_method_17_code 0 = .ok (.aload_n 0, 1) := by decide +kernel
theorem dd_Machine_compute32_1 : decode prog_5_method_17_code 1 = .ok (.getfield 14, 3) := by decide +kernel
theorem dd_Machine_compute32_4 : decode prog_5_method_17_code 4 = .ok (.invokevirtual 245, 3) := by decide +kernel
theorem dd_Machine_compute32_7 : decode prog_5_method_17_code 7 = .ok (.l2i, 1) := by decide +kernel
theorem dd_Machine_compute32_8 : decode prog_5_method_17_code 8 = .ok (.istore_n 2, 1) := by decide +kernel
theorem dd_Machine_compute32_9 : decode prog_5_method_17_code 9 = .ok (.aload_n 0, 1) := by decide +kernel
theorem dd_Machine_compute32_10 : decode prog_5_method_17_code 10 = .ok (.getfield 14, 3) := by decide +kernel
theorem dd_Machine_compute32_13 : decode prog_5_method_17_code 13 = .ok (.invokevirtual 245, 3) := by decide +kernel
theorem dd_Machine_compute32_16 : decode prog_5_method_17_code 16 = .ok (.l2i, 1) := by decide +kernel
theorem dd_Machine_compute32_17 : decode prog_5_method_17_code 17 = .ok (.istore_n 3, 1) := by decide +kernel
theorem dd_Machine_compute32_18 : decode prog_5_method_17_code 18 = .ok (.aload_n 0, 1) := by decide +kernel
theorem dd_Machine_compute32_19 : decode prog_5_method_17_code 19 = .ok (.iload_n 1, 1) := by decide +kernel
theorem dd_Machine_compute32_20 : decode prog_5_method_17_code 20 = .ok (.iload_n 3, 1) := by decide +kernel
theorem dd_Machine_compute32_21 : decode prog_5_method_17_code 21 = .ok (.i2l, 1) := by decide +kernel
theorem dd_Machine_compute32_22 : decode prog_5_method_17_code 22 = .ok (.iload_n 2, 1) := by decide +kernel
theorem dd_Machine_compute32_23 : decode prog_5_method_17_code 23 = .ok (.i2l, 1) := by decide +kernel
theorem dd_Machine_compute32_24 : decode prog_5_method_17_code 24 = .ok (.ldc2_w 325, 3) := by decide +kernel
theorem dd_Machine_compute32_27 : decode prog_5_method_17_code 27 = .ok (.invokestatic 327, 3) := by decide +kernel
theorem dd_Machine_compute32_30 : decode prog_5_method_17_code 30 = .ok (.putfield 163, 3) := by decide +kernel
theorem dd_Machine_compute32_33 : decode prog_5_method_17_code 33 = .ok (.aload_n 0, 1) := by decide +kernel
theorem dd_Machine_compute32_34 : decode prog_5_method_17_code 34 = .ok (.getfield 163, 3) := by decide +kernel
theorem dd_Machine_compute32_37 : decode prog_5_method_17_code 37 = .ok (.ifCond .ne 17, 3) := by decide +kernel
theorem dd_Machine_compute32_40 : decode prog_5_method_17_code 40 = .ok (.aload_n 0, 1) := by decide +kernel
theorem dd_Machine_compute32_41 : decode prog_5_method_17_code 41 = .ok (.getfield 14, 3) := by decide +kernel
theorem dd_Machine_compute32_44 : decode prog_5_method_17_code 44 = .ok (.iload_n 1, 1) := by decide +kernel
theorem dd_Machine_compute32_45 : decode prog_5_method_17_code 45 = .ok (.iload_n 3, 1) := by decide +kernel
theorem dd_Machine_compute32_46 : decode prog_5_method_17_code 46 = .ok (.iload_n 2, 1) := by decide +kernel
theorem dd_Machine_compute32_47 : decode prog_5_method_17_code 47 = .ok (.invokestatic 331, 3) := by decide +kernel
theorem dd_Machine_compute32_50 : decode prog_5_method_17_code 50 = .ok (.i2l, 1) := by decide +kernel
theorem dd_Machine_compute32_51 : decode prog_5_method_17_code 51 = .ok (.invokevirtual 99, 3) := by decide +kernel
theorem dd_Machine_compute32_54 : decode prog_5_method_17_code 54 = .ok (.return_, 1) := by decide +kernel
theorem dd_Integer_bitCount_0 : decode prog_20_method_49_code 0 = .ok (.iload_n 0, 1) := by decide +kernel
theorem dd_Integer_bitCount_1 : decode prog_20_method_49_code 1 = .ok (.iload_n 0, 1) := by decide +kernel
theorem dd_Integer_bitCount_2 : decode prog_20_method_49_code 2 = .ok (.iconst 1, 1) := by decide +kernel
theorem dd_Integer_bitCount_3 : decode prog_20_method_49_code 3 = .ok (.iushr, 1) := by decide +kernel
theorem dd_Integer_bitCount_4 : decode prog_20_method_49_code 4 = .ok (.ldc_w 265, 3) := by decide +kernel
theorem dd_Integer_bitCount_7 : decode prog_20_method_49_code 7 = .ok (.iand, 1) := by decide +kernel
theorem dd_Integer_bitCount_8 : decode prog_20_method_49_code 8 = .ok (.isub, 1) := by decide +kernel
theorem dd_Integer_bitCount_9 : decode prog_20_method_49_code 9 = .ok (.istore_n 0, 1) := by decide +kernel
theorem dd_Integer_bitCount_10 : decode prog_20_method_49_code 10 = .ok (.iload_n 0, 1) := by decide +kernel
theorem dd_Integer_bitCount_11 : decode prog_20_method_49_code 11 = .ok (.ldc_w 266, 3) := by decide +kernel
theorem dd_Integer_bitCount_14 : decode prog_20_method_49_code 14 = .ok (.iand, 1) := by decide +kernel
theorem dd_Integer_bitCount_15 : decode prog_20_method_49_code 15 = .ok (.iload_n 0, 1) := by decide +kernel
theorem dd_Integer_bitCount_16 : decode prog_20_method_49_code 16 = .ok (.iconst 2, 1) := by decide +kernel
theorem dd_Integer_bitCount_17 : decode prog_20_method_49_code 17 = .ok (.iushr, 1) := by decide +kernel
theorem dd_Integer_bitCount_18 : decode prog_20_method_49_code 18 = .ok (.ldc_w 266, 3) := by decide +kernel
theorem dd_Integer_bitCount_21 : decode prog_20_method_49_code 21 = .ok (.iand, 1) := by decide +kernel
theorem dd_Integer_bitCount_22 : decode prog_20_method_49_code 22 = .ok (.iadd, 1) := by decide +kernel
theorem dd_Integer_bitCount_23 : decode prog_20_method_49_code 23 = .ok (.istore_n 0, 1) := by decide +kernel
theorem dd_Integer_bitCount_24 : decode prog_20_method_49_code 24 = .ok (.iload_n 0, 1) := by decide +kernel
theorem dd_Integer_bitCount_25 : decode prog_20_method_49_code 25 = .ok (.iload_n 0, 1) := by decide +kernel
theorem dd_Integer_bitCount_26 : decode prog_20_method_49_code 26 = .ok (.iconst 4, 1) := by decide +kernel
theorem dd_Integer_bitCount_27 : decode prog_20_method_49_code 27 = .ok (.iushr, 1) := by decide +kernel
theorem dd_Integer_bitCount_28 : decode prog_20_method_49_code 28 = .ok (.iadd, 1) := by decide +kernel
theorem dd_Integer_bitCount_29 : decode prog_20_method_49_code 29 = .ok (.ldc_w 267, 3) := by decide +kernel
theorem dd_Integer_bitCount_32 : decode prog_20_method_49_code 32 = .ok (.iand, 1) := by decide +kernel
theorem dd_Integer_bitCount_33 : decode prog_20_method_49_code 33 = .ok (.istore_n 0, 1) := by decide +kernel
theorem dd_Integer_bitCount_34 : decode prog_20_method_49_code 34 = .ok (.iload_n 0, 1) := by decide +kernel
theorem dd_Integer_bitCount_35 : decode prog_20_method_49_code 35 = .ok (.iload_n 0, 1) := by decide +kernel
theorem dd_Integer_bitCount_36 : decode prog_20_method_49_code 36 = .ok (.bipush 8, 2) := by decide +kernel
theorem dd_Integer_bitCount_38 : decode prog_20_method_49_code 38 = .ok (.iushr, 1) := by decide +kernel
theorem dd_Integer_bitCount_39 : decode prog_20_method_49_code 39 = .ok (.iadd, 1) := by decide +kernel
theorem dd_Integer_bitCount_40 : decode prog_20_method_49_code 40 = .ok (.istore_n 0, 1) := by decide +kernel
theorem dd_Integer_bitCount_41 : decode prog_20_method_49_code 41 = .ok (.iload_n 0, 1) := by decide +kernel
theorem dd_Integer_bitCount_42 : decode prog_20_method_49_code 42 = .ok (.iload_n 0, 1) := by decide +kernel
theorem dd_Integer_bitCount_43 : decode prog_20_method_49_code 43 = .ok (.bipush 16, 2) := by decide +kernel
theorem dd_Integer_bitCount_45 : decode prog_20_method_49_code 45 = .ok (.iushr, 1) := by decide +kernel
theorem dd_Integer_bitCount_46 : decode prog_20_method_49_code 46 = .ok (.iadd, 1) := by decide +kernel
theorem dd_Integer_bitCount_47 : decode prog_20_method_49_code 47 = .ok (.istore_n 0, 1) := by decide +kernel
theorem dd_Integer_bitCount_48 : decode prog_20_method_49_code 48 = .ok (.iload_n 0, 1) := by decide +kernel
theorem dd_Integer_bitCount_49 : decode prog_20_method_49_code 49 = .ok (.bipush 63, 2) := by decide +kernel
theorem dd_Integer_bitCount_51 : decode prog_20_method_49_code 51 = .ok (.iand, 1) := by decide +kernel
theorem dd_Integer_bitCount_52 : decode prog_20_method_49_code 52 = .ok (.ireturn, 1) := by decide +kernel
theorem dd_Numbers_counted32_0 : decode prog_7_method_5_code 0 = .ok (.iload_n 0, 1) := by decide +kernel
theorem dd_Numbers_counted32_1 : decode prog_7_method_5_code 1 = .ok (.lookupswitch 55 #[(103, 27), (104, 42)], 27) := by decide +kernel
theorem dd_Numbers_counted32_28 : decode prog_7_method_5_code 28 = .ok (.iload_n 1, 1) := by decide +kernel
theorem dd_Numbers_counted32_29 : decode prog_7_method_5_code 29 = .ok (.i2l, 1) := by decide +kernel
theorem dd_Numbers_counted32_30 : decode prog_7_method_5_code 30 = .ok (.ldc2_w 19, 3) := by decide +kernel
theorem dd_Numbers_counted32_33 : decode prog_7_method_5_code 33 = .ok (.land, 1) := by decide +kernel
theorem dd_Numbers_counted32_34 : decode prog_7_method_5_code 34 = .ok (.invokestatic 21, 3) := by decide +kernel
theorem dd_Numbers_counted32_37 : decode prog_7_method_5_code 37 = .ok (.bipush 32, 2) := by decide +kernel
theorem dd_Numbers_counted32_39 : decode prog_7_method_5_code 39 = .ok (.isub, 1) := by decide +kernel
theorem dd_Numbers_counted32_40 : decode prog_7_method_5_code 40 = .ok (.goto 20, 3) := by decide +kernel
theorem dd_Numbers_counted32_43 : decode prog_7_method_5_code 43 = .ok (.iload_n 1, 1) := by decide +kernel
theorem dd_Numbers_counted32_44 : decode prog_7_method_5_code 44 = .ok (.iconst 1, 1) := by decide +kernel
theorem dd_Numbers_counted32_45 : decode prog_7_method_5_code 45 = .ok (.isub, 1) := by decide +kernel
theorem dd_Numbers_counted32_46 : decode prog_7_method_5_code 46 = .ok (.iload_n 1, 1) := by decide +kernel
theorem dd_Numbers_counted32_47 : decode prog_7_method_5_code 47 = .ok (.iconst (-1), 1) := by decide +kernel
theorem dd_Numbers_counted32_48 : decode prog_7_method_5_code 48 = .ok (.ixor, 1) := by decide +kernel
theorem dd_Numbers_counted32_49 : decode prog_7_method_5_code 49 = .ok (.iand, 1) := by decide +kernel
theorem dd_Numbers_counted32_50 : decode prog_7_method_5_code 50 = .ok (.invokestatic 25, 3) := by decide +kernel
theorem dd_Numbers_counted32_53 : decode prog_7_method_5_code 53 = .ok (.goto 7, 3) := by decide +kernel
theorem dd_Numbers_counted32_56 : decode prog_7_method_5_code 56 = .ok (.iload_n 1, 1) := by decide +kernel
theorem dd_Numbers_counted32_57 : decode prog_7_method_5_code 57 = .ok (.invokestatic 25, 3) := by decide +kernel
theorem dd_Numbers_counted32_60 : decode prog_7_method_5_code 60 = .ok (.ireturn, 1) := by decide +kernel
