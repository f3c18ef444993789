theorem dd_Model_moved_0 : decode prog_14_method_121_code 0 = .ok (.lload_n 3, 1) := by decide +kernel
theorem dd_Model_moved_1 : decode prog_14_method_121_code 1 = .ok (.l2i, 1) := by decide +kernel
theorem dd_Model_moved_2 : decode prog_14_method_121_code 2 = .ok (.iload 5, 2) := by decide +kernel
theorem dd_Model_moved_4 : decode prog_14_method_121_code 4 = .ok (.iconst 1, 1) := by decide +kernel
theorem dd_Model_moved_5 : decode prog_14_method_121_code 5 = .ok (.isub, 1) := by decide +kernel
theorem dd_Model_moved_6 : decode prog_14_method_121_code 6 = .ok (.iand, 1) := by decide +kernel
theorem dd_Model_moved_7 : decode prog_14_method_121_code 7 = .ok (.istore 6, 2) := by decide +kernel
theorem dd_Model_moved_9 : decode prog_14_method_121_code 9 = .ok (.iload 5, 2) := by decide +kernel
theorem dd_Model_moved_11 : decode prog_14_method_121_code 11 = .ok (.bipush 32, 2) := by decide +kernel
theorem dd_Model_moved_13 : decode prog_14_method_121_code 13 = .ok (.if_icmp .ne 11, 3) := by decide +kernel
theorem dd_Model_moved_16 : decode prog_14_method_121_code 16 = .ok (.lload_n 1, 1) := by decide +kernel
theorem dd_Model_moved_17 : decode prog_14_method_121_code 17 = .ok (.ldc2_w 182, 3) := by decide +kernel
theorem dd_Model_moved_20 : decode prog_14_method_121_code 20 = .ok (.land, 1) := by decide +kernel
theorem dd_Model_moved_21 : decode prog_14_method_121_code 21 = .ok (.goto 4, 3) := by decide +kernel
theorem dd_Model_moved_24 : decode prog_14_method_121_code 24 = .ok (.lload_n 1, 1) := by decide +kernel
theorem dd_Model_moved_25 : decode prog_14_method_121_code 25 = .ok (.lstore 7, 2) := by decide +kernel
theorem dd_Model_moved_27 : decode prog_14_method_121_code 27 = .ok (.iload 5, 2) := by decide +kernel
theorem dd_Model_moved_29 : decode prog_14_method_121_code 29 = .ok (.iload 6, 2) := by decide +kernel
theorem dd_Model_moved_31 : decode prog_14_method_121_code 31 = .ok (.isub, 1) := by decide +kernel
theorem dd_Model_moved_32 : decode prog_14_method_121_code 32 = .ok (.iload 5, 2) := by decide +kernel
theorem dd_Model_moved_34 : decode prog_14_method_121_code 34 = .ok (.iconst 1, 1) := by decide +kernel
theorem dd_Model_moved_35 : decode prog_14_method_121_code 35 = .ok (.isub, 1) := by decide +kernel
theorem dd_Model_moved_36 : decode prog_14_method_121_code 36 = .ok (.iand, 1) := by decide +kernel
theorem dd_Model_moved_37 : decode prog_14_method_121_code 37 = .ok (.istore 9, 2) := by decide +kernel
theorem dd_Model_moved_39 : decode prog_14_method_121_code 39 = .ok (.iload_n 0, 1) := by decide +kernel
theorem dd_Model_moved_40 : decode prog_14_method_121_code 40 = .ok (.tableswitch 69 0 3 #[32, 37, 42, 48], 32) := by decide +kernel
theorem dd_Model_moved_72 : decode prog_14_method_121_code 72 = .ok (.lload_n 1, 1) := by decide +kernel
theorem dd_Model_moved_73 : decode prog_14_method_121_code 73 = .ok (.iload 6, 2) := by decide +kernel
theorem dd_Model_moved_75 : decode prog_14_method_121_code 75 = .ok (.lshl, 1) := by decide +kernel
theorem dd_Model_moved_76 : decode prog_14_method_121_code 76 = .ok (.lreturn, 1) := by decide +kernel
theorem dd_Model_moved_77 : decode prog_14_method_121_code 77 = .ok (.lload_n 1, 1) := by decide +kernel
theorem dd_Model_moved_78 : decode prog_14_method_121_code 78 = .ok (.iload 6, 2) := by decide +kernel
theorem dd_Model_moved_80 : decode prog_14_method_121_code 80 = .ok (.lshr, 1) := by decide +kernel
theorem dd_Model_moved_81 : decode prog_14_method_121_code 81 = .ok (.lreturn, 1) := by decide +kernel
theorem dd_Model_moved_82 : decode prog_14_method_121_code 82 = .ok (.lload 7, 2) := by decide +kernel
theorem dd_Model_moved_84 : decode prog_14_method_121_code 84 = .ok (.iload 6, 2) := by decide +kernel
theorem dd_Model_moved_86 : decode prog_14_method_121_code 86 = .ok (.lushr, 1) := by decide +kernel
theorem dd_Model_moved_87 : decode prog_14_method_121_code 87 = .ok (.lreturn, 1) := by decide +kernel
theorem dd_Model_moved_88 : decode prog_14_method_121_code 88 = .ok (.iload 6, 2) := by decide +kernel
theorem dd_Model_moved_90 : decode prog_14_method_121_code 90 = .ok (.ifCond .ne 7, 3) := by decide +kernel
theorem dd_Model_moved_93 : decode prog_14_method_121_code 93 = .ok (.lload_n 1, 1) := by decide +kernel
theorem dd_Model_moved_94 : decode prog_14_method_121_code 94 = .ok (.goto 14, 3) := by decide +kernel
theorem dd_Model_moved_97 : decode prog_14_method_121_code 97 = .ok (.lload 7, 2) := by decide +kernel
theorem dd_Model_moved_99 : decode prog_14_method_121_code 99 = .ok (.iload 6, 2) := by decide +kernel
theorem dd_Model_moved_101 : decode prog_14_method_121_code 101 = .ok (.lshl, 1) := by decide +kernel
theorem dd_Model_moved_102 : decode prog_14_method_121_code 102 = .ok (.lload 7, 2) := by decide +kernel
theorem dd_Model_moved_104 : decode prog_14_method_121_code 104 = .ok (.iload 9, 2) := by decide +kernel
theorem dd_Model_moved_106 : decode prog_14_method_121_code 106 = .ok (.lushr, 1) := by decide +kernel
theorem dd_Model_moved_107 : decode prog_14_method_121_code 107 = .ok (.lor, 1) := by decide +kernel
theorem dd_Model_moved_108 : decode prog_14_method_121_code 108 = .ok (.lreturn, 1) := by decide +kernel
theorem dd_Model_moved_109 : decode prog_14_method_121_code 109 = .ok (.iload 6, 2) := by decide +kernel
theorem dd_Model_moved_111 : decode prog_14_method_121_code 111 = .ok (.ifCond .ne 7, 3) := by decide +kernel
theorem dd_Model_moved_114 : decode prog_14_method_121_code 114 = .ok (.lload_n 1, 1) := by decide +kernel
theorem dd_Model_moved_115 : decode prog_14_method_121_code 115 = .ok (.goto 14, 3) := by decide +kernel
theorem dd_Model_moved_118 : decode prog_14_method_121_code 118 = .ok (.lload 7, 2) := by decide +kernel
theorem dd_Model_moved_120 : decode prog_14_method_121_code 120 = .ok (.iload 6, 2) := by decide +kernel
theorem dd_Model_moved_122 : decode prog_14_method_121_code 122 = .ok (.lushr, 1) := by decide +kernel
theorem dd_Model_moved_123 : decode prog_14_method_121_code 123 = .ok (.lload 7, 2) := by decide +kernel
theorem dd_Model_moved_125 : decode prog_14_method_121_code 125 = .ok (.iload 9, 2) := by decide +kernel
theorem dd_Model_moved_127 : decode prog_14_method_121_code 127 = .ok (.lshl, 1) := by decide +kernel
theorem dd_Model_moved_128 : decode prog_14_method_121_code 128 = .ok (.lor, 1) := by decide +kernel
theorem dd_Model_moved_129 : decode prog_14_method_121_code 129 = .ok (.lreturn, 1) := by decide +kernel
theorem dd_Model_reckoned_0 : decode prog_14_method_122_code 0 = .ok (.iload_n 1, 1) := by decide +kernel
theorem dd_Model_reckoned_1 : decode prog_14_method_122_code 1 = .ok (.tableswitch 99 3 12 #[55, 60, 65, 70, 70, 70, 70, 84, 89, 94], 55) := by decide +kernel
theorem dd_Model_reckoned_56 : decode prog_14_method_122_code 56 = .ok (.lload_n 2, 1) := by decide +kernel
theorem dd_Model_reckoned_57 : decode prog_14_method_122_code 57 = .ok (.lload 4, 2) := by decide +kernel
theorem dd_Model_reckoned_59 : decode prog_14_method_122_code 59 = .ok (.ladd, 1) := by decide +kernel
theorem dd_Model_reckoned_60 : decode prog_14_method_122_code 60 = .ok (.lreturn, 1) := by decide +kernel
theorem dd_Model_reckoned_61 : decode prog_14_method_122_code 61 = .ok (.lload_n 2, 1) := by decide +kernel
theorem dd_Model_reckoned_62 : decode prog_14_method_122_code 62 = .ok (.lload 4, 2) := by decide +kernel
theorem dd_Model_reckoned_64 : decode prog_14_method_122_code 64 = .ok (.lsub, 1) := by decide +kernel
theorem dd_Model_reckoned_65 : decode prog_14_method_122_code 65 = .ok (.lreturn, 1) := by decide +kernel
theorem dd_Model_reckoned_66 : decode prog_14_method_122_code 66 = .ok (.lload_n 2, 1) := by decide +kernel
theorem dd_Model_reckoned_67 : decode prog_14_method_122_code 67 = .ok (.lload 4, 2) := by decide +kernel
theorem dd_Model_reckoned_69 : decode prog_14_method_122_code 69 = .ok (.lmul, 1) := by decide +kernel
theorem dd_Model_reckoned_70 : decode prog_14_method_122_code 70 = .ok (.lreturn, 1) := by decide +kernel
theorem dd_Model_reckoned_71 : decode prog_14_method_122_code 71 = .ok (.aload_n 0, 1) := by decide +kernel
theorem dd_Model_reckoned_72 : decode prog_14_method_122_code 72 = .ok (.iload_n 1, 1) := by decide +kernel
theorem dd_Model_reckoned_73 : decode prog_14_method_122_code 73 = .ok (.bipush 6, 2) := by decide +kernel
theorem dd_Model_reckoned_75 : decode prog_14_method_122_code 75 = .ok (.isub, 1) := by decide +kernel
theorem dd_Model_reckoned_76 : decode prog_14_method_122_code 76 = .ok (.lload_n 2, 1) := by decide +kernel
theorem dd_Model_reckoned_77 : decode prog_14_method_122_code 77 = .ok (.lload 4, 2) := by decide +kernel
theorem dd_Model_reckoned_79 : decode prog_14_method_122_code 79 = .ok (.iload 6, 2) := by decide +kernel
theorem dd_Model_reckoned_81 : decode prog_14_method_122_code 81 = .ok (.invokevirtual 759, 3) := by decide +kernel
theorem dd_Model_reckoned_84 : decode prog_14_method_122_code 84 = .ok (.lreturn, 1) := by decide +kernel
theorem dd_Model_reckoned_85 : decode prog_14_method_122_code 85 = .ok (.lload_n 2, 1) := by decide +kernel
theorem dd_Model_reckoned_86 : decode prog_14_method_122_code 86 = .ok (.lload 4, 2) := by decide +kernel
theorem dd_Model_reckoned_88 : decode prog_14_method_122_code 88 = .ok (.land, 1) := by decide +kernel
theorem dd_Model_reckoned_89 : decode prog_14_method_122_code 89 = .ok (.lreturn, 1) := by decide +kernel
theorem dd_Model_reckoned_90 : decode prog_14_method_122_code 90 = .ok (.lload_n 2, 1) := by decide +kernel
theorem dd_Model_reckoned_91 : decode prog_14_method_122_code 91 = .ok (.lload 4, 2) := by decide +kernel
theorem dd_Model_reckoned_93 : decode prog_14_method_122_code 93 = .ok (.lor, 1) := by decide +kernel
theorem dd_Model_reckoned_94 : decode prog_14_method_122_code 94 = .ok (.lreturn, 1) := by decide +kernel
theorem dd_Model_reckoned_95 : decode prog_14_method_122_code 95 = .ok (.lload_n 2, 1) := by decide +kernel
theorem dd_Model_reckoned_96 : decode prog_14_method_122_code 96 = .ok (.lload 4, 2) := by decide +kernel
theorem dd_Model_reckoned_98 : decode prog_14_method_122_code 98 = .ok (.lxor, 1) := by decide +kernel
theorem dd_Model_reckoned_99 : decode prog_14_method_122_code 99 = .ok (.lreturn, 1) := by decide +kernel
theorem dd_Model_reckoned_100 : decode prog_14_method_122_code 100 = .ok (.iload_n 1, 1) := by decide +kernel
theorem dd_Model_reckoned_101 : decode prog_14_method_122_code 101 = .ok (.bipush 13, 2) := by decide +kernel
theorem dd_Model_reckoned_103 : decode prog_14_method_122_code 103 = .ok (.isub, 1) := by decide +kernel
theorem dd_Model_reckoned_104 : decode prog_14_method_122_code 104 = .ok (.lload_n 2, 1) := by decide +kernel
theorem dd_Model_reckoned_105 : decode prog_14_method_122_code 105 = .ok (.lload 4, 2) := by decide +kernel
theorem dd_Model_reckoned_107 : decode prog_14_method_122_code 107 = .ok (.iload 6, 2) := by decide +kernel
theorem dd_Model_reckoned_109 : decode prog_14_method_122_code 109 = .ok (.invokestatic 763, 3) := by decide +kernel
theorem dd_Model_reckoned_112 : decode prog_14_method_122_code 112 = .ok (.lreturn, 1) := by decide +kernel
theorem dd_Model_counted_0 : decode prog_14_method_119_code 0 = .ok (.iconst 0, 1) := by decide +kernel
theorem dd_Model_counted_1 : decode prog_14_method_119_code 1 = .ok (.istore 4, 2) := by decide +kernel
theorem dd_Model_counted_3 : decode prog_14_method_119_code 3 = .ok (.iconst 0, 1) := by decide +kernel
theorem dd_Model_counted_4 : decode prog_14_method_119_code 4 = .ok (.istore 5, 2) := by decide +kernel
theorem dd_Model_counted_6 : decode prog_14_method_119_code 6 = .ok (.iload 5, 2) := by decide +kernel
theorem dd_Model_counted_8 : decode prog_14_method_119_code 8 = .ok (.iload_n 3, 1) := by decide +kernel
theorem dd_Model_counted_9 : decode prog_14_method_119_code 9 = .ok (.if_icmp .ge 26, 3) := by decide +kernel
theorem dd_Model_counted_12 : decode prog_14_method_119_code 12 = .ok (.iload_n 0, 1) := by decide +kernel
theorem dd_Model_counted_13 : decode prog_14_method_119_code 13 = .ok (.iconst 2, 1) := by decide +kernel
theorem dd_Model_counted_14 : decode prog_14_method_119_code 14 = .ok (.if_icmp .ne 21, 3) := by decide +kernel
theorem dd_Model_counted_17 : decode prog_14_method_119_code 17 = .ok (.iload 4, 2) := by decide +kernel
theorem dd_Model_counted_19 : decode prog_14_method_119_code 19 = .ok (.lload_n 1, 1) := by decide +kernel
theorem dd_Model_counted_20 : decode prog_14_method_119_code 20 = .ok (.iload 5, 2) := by decide +kernel
theorem dd_Model_counted_22 : decode prog_14_method_119_code 22 = .ok (.lshr, 1) := by decide +kernel
theorem dd_Model_counted_23 : decode prog_14_method_119_code 23 = .ok (.lconst 1, 1) := by decide +kernel
theorem dd_Model_counted_24 : decode prog_14_method_119_code 24 = .ok (.land, 1) := by decide +kernel
theorem dd_Model_counted_25 : decode prog_14_method_119_code 25 = .ok (.l2i, 1) := by decide +kernel
theorem dd_Model_counted_26 : decode prog_14_method_119_code 26 = .ok (.iadd, 1) := by decide +kernel
theorem dd_Model_counted_27 : decode prog_14_method_119_code 27 = .ok (.istore 4, 2) := by decide +kernel
theorem dd_Model_counted_29 : decode prog_14_method_119_code 29 = .ok (.iinc 5 1, 3) := by decide +kernel
theorem dd_Model_counted_32 : decode prog_14_method_119_code 32 = .ok (.goto (-26), 3) := by decide +kernel
theorem dd_Model_counted_35 : decode prog_14_method_119_code 35 = .ok (.iload_n 0, 1) := by decide +kernel
theorem dd_Model_counted_36 : decode prog_14_method_119_code 36 = .ok (.ifCond .ne 30, 3) := by decide +kernel
theorem dd_Model_counted_39 : decode prog_14_method_119_code 39 = .ok (.iload 4, 2) := by decide +kernel
theorem dd_Model_counted_41 : decode prog_14_method_119_code 41 = .ok (.iload_n 3, 1) := by decide +kernel
theorem dd_Model_counted_42 : decode prog_14_method_119_code 42 = .ok (.if_icmp .ge 24, 3) := by decide +kernel
theorem dd_Model_counted_45 : decode prog_14_method_119_code 45 = .ok (.lload_n 1, 1) := by decide +kernel
theorem dd_Model_counted_46 : decode prog_14_method_119_code 46 = .ok (.iload_n 3, 1) := by decide +kernel
theorem dd_Model_counted_47 : decode prog_14_method_119_code 47 = .ok (.iconst 1, 1) := by decide +kernel
theorem dd_Model_counted_48 : decode prog_14_method_119_code 48 = .ok (.isub, 1) := by decide +kernel
theorem dd_Model_counted_49 : decode prog_14_method_119_code 49 = .ok (.iload 4, 2) := by decide +kernel
theorem dd_Model_counted_51 : decode prog_14_method_119_code 51 = .ok (.isub, 1) := by decide +kernel
theorem dd_Model_counted_52 : decode prog_14_method_119_code 52 = .ok (.lshr, 1) := by decide +kernel
theorem dd_Model_counted_53 : decode prog_14_method_119_code 53 = .ok (.lconst 1, 1) := by decide +kernel
theorem dd_Model_counted_54 : decode prog_14_method_119_code 54 = .ok (.land, 1) := by decide +kernel
theorem dd_Model_counted_55 : decode prog_14_method_119_code 55 = .ok (.lconst 0, 1) := by decide +kernel
theorem dd_Model_counted_56 : decode prog_14_method_119_code 56 = .ok (.lcmp, 1) := by decide +kernel
theorem dd_Model_counted_57 : decode prog_14_method_119_code 57 = .ok (.ifCond .ne 9, 3) := by decide +kernel
theorem dd_Model_counted_60 : decode prog_14_method_119_code 60 = .ok (.iinc 4 1, 3) := by decide +kernel
theorem dd_Model_counted_63 : decode prog_14_method_119_code 63 = .ok (.goto (-28), 3) := by decide +kernel
theorem dd_Model_counted_66 : decode prog_14_method_119_code 66 = .ok (.iload_n 0, 1) := by decide +kernel
theorem dd_Model_counted_67 : decode prog_14_method_119_code 67 = .ok (.iconst 1, 1) := by decide +kernel
theorem dd_Model_counted_68 : decode prog_14_method_119_code 68 = .ok (.if_icmp .ne 26, 3) := by decide +kernel
theorem dd_Model_counted_71 : decode prog_14_method_119_code 71 = .ok (.iload 4, 2) := by decide +kernel
theorem dd_Model_counted_73 : decode prog_14_method_119_code 73 = .ok (.iload_n 3, 1) := by decide +kernel
theorem dd_Model_counted_74 : decode prog_14_method_119_code 74 = .ok (.if_icmp .ge 20, 3) := by decide +kernel
theorem dd_Model_counted_77 : decode prog_14_method_119_code 77 = .ok (.lload_n 1, 1) := by decide +kernel
theorem dd_Model_counted_78 : decode prog_14_method_119_code 78 = .ok (.iload 4, 2) := by decide +kernel
theorem dd_Model_counted_80 : decode prog_14_method_119_code 80 = .ok (.lshr, 1) := by decide +kernel
theorem dd_Model_counted_81 : decode prog_14_method_119_code 81 = .ok (.lconst 1, 1) := by decide +kernel
theorem dd_Model_counted_82 : decode prog_14_method_119_code 82 = .ok (.land, 1) := by decide +kernel
theorem dd_Model_counted_83 : decode prog_14_method_119_code 83 = .ok (.lconst 0, 1) := by decide +kernel
theorem dd_Model_counted_84 : decode prog_14_method_119_code 84 = .ok (.lcmp, 1) := by decide +kernel
theorem dd_Model_counted_85 : decode prog_14_method_119_code 85 = .ok (.ifCond .ne 9, 3) := by decide +kernel
theorem dd_Model_counted_88 : decode prog_14_method_119_code 88 = .ok (.iinc 4 1, 3) := by decide +kernel
theorem dd_Model_counted_91 : decode prog_14_method_119_code 91 = .ok (.goto (-25), 3) := by decide +kernel
theorem dd_Model_counted_94 : decode prog_14_method_119_code 94 = .ok (.iload 4, 2) := by decide +kernel
theorem dd_Model_counted_96 : decode prog_14_method_119_code 96 = .ok (.i2l, 1) := by decide +kernel
theorem dd_Model_counted_97 : decode prog_14_method_119_code 97 = .ok (.lreturn, 1) := by decide +kernel
theorem dd_Model_isBelow_0 : decode prog_14_method_117_code 0 = .ok (.lload_n 0, 1) := by decide +kernel
theorem dd_Model_isBelow_1 : decode prog_14_method_117_code 1 = .ok (.ldc2_w 744, 3) := by decide +kernel
theorem dd_Model_isBelow_4 : decode prog_14_method_117_code 4 = .ok (.ladd, 1) := by decide +kernel
theorem dd_Model_isBelow_5 : decode prog_14_method_117_code 5 = .ok (.lload_n 2, 1) := by decide +kernel
theorem dd_Model_isBelow_6 : decode prog_14_method_117_code 6 = .ok (.ldc2_w 744, 3) := by decide +kernel
theorem dd_Model_isBelow_9 : decode prog_14_method_117_code 9 = .ok (.ladd, 1) := by decide +kernel
theorem dd_Model_isBelow_10 : decode prog_14_method_117_code 10 = .ok (.lcmp, 1) := by decide +kernel
theorem dd_Model_isBelow_11 : decode prog_14_method_117_code 11 = .ok (.ifCond .ge 7, 3) := by decide +kernel
theorem dd_Model_isBelow_14 : decode prog_14_method_117_code 14 = .ok (.iconst 1, 1) := by decide +kernel
theorem dd_Model_isBelow_15 : decode prog_14_method_117_code 15 = .ok (.goto 4, 3) := by decide +kernel
theorem dd_Model_isBelow_18 : decode prog_14_method_117_code 18 = .ok (.iconst 0, 1) := by decide +kernel
theorem dd_Model_isBelow_19 : decode prog_14_method_117_code 19 = .ok (.ireturn, 1) := by decide +kernel
theorem dd_Model_compares_0 : decode prog_14_method_118_code 0 = .ok (.iload_n 0, 1) := by decide +kernel
theorem dd_Model_compares_1 : decode prog_14_method_118_code 1 = .ok (.tableswitch 149 0 8 #[51, 63, 75, 87, 93, 105, 111, 123, 137], 51) := by decide +kernel
theorem dd_Model_compares_52 : decode prog_14_method_118_code 52 = .ok (.lload_n 1, 1) := by decide +kernel
theorem dd_Model_compares_53 : decode prog_14_method_118_code 53 = .ok (.lload_n 3, 1) := by decide +kernel
theorem dd_Model_compares_54 : decode prog_14_method_118_code 54 = .ok (.lcmp, 1) := by decide +kernel
theorem dd_Model_compares_55 : decode prog_14_method_118_code 55 = .ok (.ifCond .ne 7, 3) := by decide +kernel
theorem dd_Model_compares_58 : decode prog_14_method_118_code 58 = .ok (.iconst 1, 1) := by decide +kernel
theorem dd_Model_compares_59 : decode prog_14_method_118_code 59 = .ok (.goto 4, 3) := by decide +kernel
theorem dd_Model_compares_62 : decode prog_14_method_118_code 62 = .ok (.iconst 0, 1) := by decide +kernel
theorem dd_Model_compares_63 : decode prog_14_method_118_code 63 = .ok (.ireturn, 1) := by decide +kernel
theorem dd_Model_compares_64 : decode prog_14_method_118_code 64 = .ok (.lload_n 1, 1) := by decide +kernel
theorem dd_Model_compares_65 : decode prog_14_method_118_code 65 = .ok (.lload_n 3, 1) := by decide +kernel
theorem dd_Model_compares_66 : decode prog_14_method_118_code 66 = .ok (.lcmp, 1) := by decide +kernel
theorem dd_Model_compares_67 : decode prog_14_method_118_code 67 = .ok (.ifCond .eq 7, 3) := by decide +kernel
theorem dd_Model_compares_70 : decode prog_14_method_118_code 70 = .ok (.iconst 1, 1) := by decide +kernel
theorem dd_Model_compares_71 : decode prog_14_method_118_code 71 = .ok (.goto 4, 3) := by decide +kernel
theorem dd_Model_compares_74 : decode prog_14_method_118_code 74 = .ok (.iconst 0, 1) := by decide +kernel
theorem dd_Model_compares_75 : decode prog_14_method_118_code 75 = .ok (.ireturn, 1) := by decide +kernel
theorem dd_Model_compares_76 : decode prog_14_method_118_code 76 = .ok (.lload_n 1, 1) := by decide +kernel
theorem dd_Model_compares_77 : decode prog_14_method_118_code 77 = .ok (.lload_n 3, 1) := by decide +kernel
theorem dd_Model_compares_78 : decode prog_14_method_118_code 78 = .ok (.lcmp, 1) := by decide +kernel
theorem dd_Model_compares_79 : decode prog_14_method_118_code 79 = .ok (.ifCond .ge 7, 3) := by decide +kernel
theorem dd_Model_compares_82 : decode prog_14_method_118_code 82 = .ok (.iconst 1, 1) := by decide +kernel
theorem dd_Model_compares_83 : decode prog_14_method_118_code 83 = .ok (.goto 4, 3) := by decide +kernel
theorem dd_Model_compares_86 : decode prog_14_method_118_code 86 = .ok (.iconst 0, 1) := by decide +kernel
theorem dd_Model_compares_87 : decode prog_14_method_118_code 87 = .ok (.ireturn, 1) := by decide +kernel
theorem dd_Model_compares_88 : decode prog_14_method_118_code 88 = .ok (.lload_n 1, 1) := by decide +kernel
theorem dd_Model_compares_89 : decode prog_14_method_118_code 89 = .ok (.lload_n 3, 1) := by decide +kernel
theorem dd_Model_compares_90 : decode prog_14_method_118_code 90 = .ok (.invokestatic 746, 3) := by decide +kernel
theorem dd_Model_compares_93 : decode prog_14_method_118_code 93 = .ok (.ireturn, 1) := by decide +kernel
theorem dd_Model_compares_94 : decode prog_14_method_118_code 94 = .ok (.lload_n 1, 1) := by decide +kernel
theorem dd_Model_compares_95 : decode prog_14_method_118_code 95 = .ok (.lload_n 3, 1) := by decide +kernel
theorem dd_Model_compares_96 : decode prog_14_method_118_code 96 = .ok (.lcmp, 1) := by decide +kernel
theorem dd_Model_compares_97 : decode prog_14_method_118_code 97 = .ok (.ifCond .le 7, 3) := by decide +kernel
theorem dd_Model_compares_100 : decode prog_14_method_118_code 100 = .ok (.iconst 1, 1) := by decide +kernel
theorem dd_Model_compares_101 : decode prog_14_method_118_code 101 = .ok (.goto 4, 3) := by decide +kernel
theorem dd_Model_compares_104 : decode prog_14_method_118_code 104 = .ok (.iconst 0, 1) := by decide +kernel
theorem dd_Model_compares_105 : decode prog_14_method_118_code 105 = .ok (.ireturn, 1) := by decide +kernel
theorem dd_Model_compares_106 : decode prog_14_method_118_code 106 = .ok (.lload_n 3, 1) := by decide +kernel
theorem dd_Model_compares_107 : decode prog_14_method_118_code 107 = .ok (.lload_n 1, 1) := by decide +kernel
theorem dd_Model_compares_108 : decode prog_14_method_118_code 108 = .ok (.invokestatic 746, 3) := by decide +kernel
theorem dd_Model_compares_111 : decode prog_14_method_118_code 111 = .ok (.ireturn, 1) := by decide +kernel
theorem dd_Model_compares_112 : decode prog_14_method_118_code 112 = .ok (.lload_n 1, 1) := by decide +kernel
theorem dd_Model_compares_113 : decode prog_14_method_118_code 113 = .ok (.lload_n 3, 1) := by decide +kernel
theorem dd_Model_compares_114 : decode prog_14_method_118_code 114 = .ok (.lcmp, 1) := by decide +kernel
theorem dd_Model_compares_115 : decode prog_14_method_118_code 115 = .ok (.ifCond .gt 7, 3) := by decide +kernel
theorem dd_Model_compares_118 : decode prog_14_method_118_code 118 = .ok (.iconst 1, 1) := by decide +kernel
theorem dd_Model_compares_119 : decode prog_14_method_118_code 119 = .ok (.goto 4, 3) := by decide +kernel
theorem dd_Model_compares_122 : decode prog_14_method_118_code 122 = .ok (.iconst 0, 1) := by decide +kernel
theorem dd_Model_compares_123 : decode prog_14_method_118_code 123 = .ok (.ireturn, 1) := by decide +kernel
theorem dd_Model_compares_124 : decode prog_14_method_118_code 124 = .ok (.lload_n 3, 1) := by decide +kernel
theorem dd_Model_compares_125 : decode prog_14_method_118_code 125 = .ok (.lload_n 1, 1) := by decide +kernel
theorem dd_Model_compares_126 : decode prog_14_method_118_code 126 = .ok (.invokestatic 746, 3) := by decide +kernel
theorem dd_Model_compares_129 : decode prog_14_method_118_code 129 = .ok (.ifCond .ne 7, 3) := by decide +kernel
theorem dd_Model_compares_132 : decode prog_14_method_118_code 132 = .ok (.iconst 1, 1) := by decide +kernel
theorem dd_Model_compares_133 : decode prog_14_method_118_code 133 = .ok (.goto 4, 3) := by decide +kernel
theorem dd_Model_compares_136 : decode prog_14_method_118_code 136 = .ok (.iconst 0, 1) := by decide +kernel
theorem dd_Model_compares_137 : decode prog_14_method_118_code 137 = .ok (.ireturn, 1) := by decide +kernel
theorem dd_Model_compares_138 : decode prog_14_method_118_code 138 = .ok (.lload_n 1, 1) := by decide +kernel
theorem dd_Model_compares_139 : decode prog_14_method_118_code 139 = .ok (.lload_n 3, 1) := by decide +kernel
theorem dd_Model_compares_140 : decode prog_14_method_118_code 140 = .ok (.lcmp, 1) := by decide +kernel
theorem dd_Model_compares_141 : decode prog_14_method_118_code 141 = .ok (.ifCond .lt 7, 3) := by decide +kernel
theorem dd_Model_compares_144 : decode prog_14_method_118_code 144 = .ok (.iconst 1, 1) := by decide +kernel
theorem dd_Model_compares_145 : decode prog_14_method_118_code 145 = .ok (.goto 4, 3) := by decide +kernel
theorem dd_Model_compares_148 : decode prog_14_method_118_code 148 = .ok (.iconst 0, 1) := by decide +kernel
theorem dd_Model_compares_149 : decode prog_14_method_118_code 149 = .ok (.ireturn, 1) := by decide +kernel
theorem dd_Model_compares_150 : decode prog_14_method_118_code 150 = .ok (.lload_n 1, 1) := by decide +kernel
theorem dd_Model_compares_151 : decode prog_14_method_118_code 151 = .ok (.lload_n 3, 1) := by decide +kernel
theorem dd_Model_compares_152 : decode prog_14_method_118_code 152 = .ok (.invokestatic 746, 3) := by decide +kernel
theorem dd_Model_compares_155 : decode prog_14_method_118_code 155 = .ok (.ifCond .ne 7, 3) := by decide +kernel
theorem dd_Model_compares_158 : decode prog_14_method_118_code 158 = .ok (.iconst 1, 1) := by decide +kernel
theorem dd_Model_compares_159 : decode prog_14_method_118_code 159 = .ok (.goto 4, 3) := by decide +kernel
theorem dd_Model_compares_162 : decode prog_14_method_118_code 162 = .ok (.iconst 0, 1) := by decide +kernel
theorem dd_Model_compares_163 : decode prog_14_method_118_code 163 = .ok (.ireturn, 1) := by decide +kernel
theorem dd_Model_doNumbers_0 : decode prog_14_method_123_code 0 = .ok (.aload_n 0, 1) := by decide +kernel
theorem dd_Model_doNumbers_1 : decode prog_14_method_123_code 1 = .ok (.getfield 267, 3) := by decide +kernel
theorem dd_Model_doNumbers_4 : decode prog_14_method_123_code 4 = .ok (.bipush 67, 2) := by decide +kernel
theorem dd_Model_doNumbers_6 : decode prog_14_method_123_code 6 = .ok (.if_icmp .ge 12, 3) := by decide +kernel
theorem dd_Model_doNumbers_9 : decode prog_14_method_123_code 9 = .ok (.aload_n 0, 1) := by decide +kernel
theorem dd_Model_doNumbers_10 : decode prog_14_method_123_code 10 = .ok (.aload_n 0, 1) := by decide +kernel
theorem dd_Model_doNumbers_11 : decode prog_14_method_123_code 11 = .ok (.getfield 273, 3) := by decide +kernel
theorem dd_Model_doNumbers_14 : decode prog_14_method_123_code 14 = .ok (.invokevirtual 737, 3) := by decide +kernel
theorem dd_Model_doNumbers_17 : decode prog_14_method_123_code 17 = .ok (.return_, 1) := by decide +kernel
theorem dd_Model_doNumbers_18 : decode prog_14_method_123_code 18 = .ok (.aload_n 0, 1) := by decide +kernel
theorem dd_Model_doNumbers_19 : decode prog_14_method_123_code 19 = .ok (.invokevirtual 725, 3) := by decide +kernel
theorem dd_Model_doNumbers_22 : decode prog_14_method_123_code 22 = .ok (.lstore_n 1, 1) := by decide +kernel
theorem dd_Model_doNumbers_23 : decode prog_14_method_123_code 23 = .ok (.aload_n 0, 1) := by decide +kernel
theorem dd_Model_doNumbers_24 : decode prog_14_method_123_code 24 = .ok (.getfield 267, 3) := by decide +kernel
theorem dd_Model_doNumbers_27 : decode prog_14_method_123_code 27 = .ok (.bipush 69, 2) := by decide +kernel
theorem dd_Model_doNumbers_29 : decode prog_14_method_123_code 29 = .ok (.if_icmp .eq 12, 3) := by decide +kernel
theorem dd_Model_doNumbers_32 : decode prog_14_method_123_code 32 = .ok (.aload_n 0, 1) := by decide +kernel
theorem dd_Model_doNumbers_33 : decode prog_14_method_123_code 33 = .ok (.getfield 267, 3) := by decide +kernel
theorem dd_Model_doNumbers_36 : decode prog_14_method_123_code 36 = .ok (.bipush 80, 2) := by decide +kernel
theorem dd_Model_doNumbers_38 : decode prog_14_method_123_code 38 = .ok (.if_icmp .ne 21, 3) := by decide +kernel
theorem dd_Model_doNumbers_41 : decode prog_14_method_123_code 41 = .ok (.aload_n 0, 1) := by decide +kernel
theorem dd_Model_doNumbers_42 : decode prog_14_method_123_code 42 = .ok (.lload_n 1, 1) := by decide +kernel
theorem dd_Model_doNumbers_43 : decode prog_14_method_123_code 43 = .ok (.lconst 0, 1) := by decide +kernel
theorem dd_Model_doNumbers_44 : decode prog_14_method_123_code 44 = .ok (.lcmp, 1) := by decide +kernel
theorem dd_Model_doNumbers_45 : decode prog_14_method_123_code 45 = .ok (.ifCond .ne 7, 3) := by decide +kernel
theorem dd_Model_doNumbers_48 : decode prog_14_method_123_code 48 = .ok (.lconst 1, 1) := by decide +kernel
theorem dd_Model_doNumbers_49 : decode prog_14_method_123_code 49 = .ok (.goto 4, 3) := by decide +kernel
theorem dd_Model_doNumbers_52 : decode prog_14_method_123_code 52 = .ok (.lconst 0, 1) := by decide +kernel
theorem dd_Model_doNumbers_53 : decode prog_14_method_123_code 53 = .ok (.invokevirtual 737, 3) := by decide +kernel
theorem dd_Model_doNumbers_56 : decode prog_14_method_123_code 56 = .ok (.goto 269, 3) := by decide +kernel
theorem dd_Model_doNumbers_59 : decode prog_14_method_123_code 59 = .ok (.aload_n 0, 1) := by decide +kernel
theorem dd_Model_doNumbers_60 : decode prog_14_method_123_code 60 = .ok (.getfield 267, 3) := by decide +kernel
theorem dd_Model_doNumbers_63 : decode prog_14_method_123_code 63 = .ok (.bipush 91, 2) := by decide +kernel
theorem dd_Model_doNumbers_65 : decode prog_14_method_123_code 65 = .ok (.if_icmp .ge 54, 3) := by decide +kernel
theorem dd_Model_doNumbers_68 : decode prog_14_method_123_code 68 = .ok (.aload_n 0, 1) := by decide +kernel
theorem dd_Model_doNumbers_69 : decode prog_14_method_123_code 69 = .ok (.invokevirtual 725, 3) := by decide +kernel
theorem dd_Model_doNumbers_72 : decode prog_14_method_123_code 72 = .ok (.lstore_n 3, 1) := by decide +kernel
theorem dd_Model_doNumbers_73 : decode prog_14_method_123_code 73 = .ok (.aload_n 0, 1) := by decide +kernel
theorem dd_Model_doNumbers_74 : decode prog_14_method_123_code 74 = .ok (.aload_n 0, 1) := by decide +kernel
theorem dd_Model_doNumbers_75 : decode prog_14_method_123_code 75 = .ok (.getfield 267, 3) := by decide +kernel
theorem dd_Model_doNumbers_78 : decode prog_14_method_123_code 78 = .ok (.bipush 80, 2) := by decide +kernel
theorem dd_Model_doNumbers_80 : decode prog_14_method_123_code 80 = .ok (.if_icmp .ge 13, 3) := by decide +kernel
theorem dd_Model_doNumbers_83 : decode prog_14_method_123_code 83 = .ok (.aload_n 0, 1) := by decide +kernel
theorem dd_Model_doNumbers_84 : decode prog_14_method_123_code 84 = .ok (.getfield 267, 3) := by decide +kernel
theorem dd_Model_doNumbers_87 : decode prog_14_method_123_code 87 = .ok (.bipush 70, 2) := by decide +kernel
theorem dd_Model_doNumbers_89 : decode prog_14_method_123_code 89 = .ok (.isub, 1) := by decide +kernel
theorem dd_Model_doNumbers_90 : decode prog_14_method_123_code 90 = .ok (.goto 10, 3) := by decide +kernel
theorem dd_Model_doNumbers_93 : decode prog_14_method_123_code 93 = .ok (.aload_n 0, 1) := by decide +kernel
theorem dd_Model_doNumbers_94 : decode prog_14_method_123_code 94 = .ok (.getfield 267, 3) := by decide +kernel
theorem dd_Model_doNumbers_97 : decode prog_14_method_123_code 97 = .ok (.bipush 81, 2) := by decide +kernel
theorem dd_Model_doNumbers_99 : decode prog_14_method_123_code 99 = .ok (.isub, 1) := by decide +kernel
theorem dd_Model_doNumbers_100 : decode prog_14_method_123_code 100 = .ok (.lload_n 3, 1) := by decide +kernel
theorem dd_Model_doNumbers_101 : decode prog_14_method_123_code 101 = .ok (.lload_n 1, 1) := by decide +kernel
theorem dd_Model_doNumbers_102 : decode prog_14_method_123_code 102 = .ok (.invokestatic 766, 3) := by decide +kernel
theorem dd_Model_doNumbers_105 : decode prog_14_method_123_code 105 = .ok (.ifCond .eq 7, 3) := by decide +kernel
theorem dd_Model_doNumbers_108 : decode prog_14_method_123_code 108 = .ok (.lconst 1, 1) := by decide +kernel
theorem dd_Model_doNumbers_109 : decode prog_14_method_123_code 109 = .ok (.goto 4, 3) := by decide +kernel
theorem dd_Model_doNumbers_112 : decode prog_14_method_123_code 112 = .ok (.lconst 0, 1) := by decide +kernel
theorem dd_Model_doNumbers_113 : decode prog_14_method_123_code 113 = .ok (.invokevirtual 737, 3) := by decide +kernel
theorem dd_Model_doNumbers_116 : decode prog_14_method_123_code 116 = .ok (.goto 209, 3) := by decide +kernel
theorem dd_Model_doNumbers_119 : decode prog_14_method_123_code 119 = .ok (.aload_n 0, 1) := by decide +kernel
theorem dd_Model_doNumbers_120 : decode prog_14_method_123_code 120 = .ok (.getfield 267, 3) := by decide +kernel
theorem dd_Model_doNumbers_123 : decode prog_14_method_123_code 123 = .ok (.sipush 139, 3) := by decide +kernel
theorem dd_Model_doNumbers_126 : decode prog_14_method_123_code 126 = .ok (.if_icmp .ge 103, 3) := by decide +kernel
theorem dd_Model_doNumbers_129 : decode prog_14_method_123_code 129 = .ok (.aload_n 0, 1) := by decide +kernel
theorem dd_Model_doNumbers_130 : decode prog_14_method_123_code 130 = .ok (.getfield 267, 3) := by decide +kernel
theorem dd_Model_doNumbers_133 : decode prog_14_method_123_code 133 = .ok (.bipush 121, 2) := by decide +kernel
theorem dd_Model_doNumbers_135 : decode prog_14_method_123_code 135 = .ok (.if_icmp .ge 8, 3) := by decide +kernel
theorem dd_Model_doNumbers_138 : decode prog_14_method_123_code 138 = .ok (.bipush 32, 2) := by decide +kernel
theorem dd_Model_doNumbers_140 : decode prog_14_method_123_code 140 = .ok (.goto 5, 3) := by decide +kernel
theorem dd_Model_doNumbers_143 : decode prog_14_method_123_code 143 = .ok (.bipush 64, 2) := by decide +kernel
theorem dd_Model_doNumbers_145 : decode prog_14_method_123_code 145 = .ok (.istore_n 3, 1) := by decide +kernel
theorem dd_Model_doNumbers_146 : decode prog_14_method_123_code 146 = .ok (.aload_n 0, 1) := by decide +kernel
theorem dd_Model_doNumbers_147 : decode prog_14_method_123_code 147 = .ok (.getfield 267, 3) := by decide +kernel
theorem dd_Model_doNumbers_150 : decode prog_14_method_123_code 150 = .ok (.bipush 121, 2) := by decide +kernel
theorem dd_Model_doNumbers_152 : decode prog_14_method_123_code 152 = .ok (.if_icmp .ge 13, 3) := by decide +kernel
theorem dd_Model_doNumbers_155 : decode prog_14_method_123_code 155 = .ok (.aload_n 0, 1) := by decide +kernel
theorem dd_Model_doNumbers_156 : decode prog_14_method_123_code 156 = .ok (.getfield 267, 3) := by decide +kernel
theorem dd_Model_doNumbers_159 : decode prog_14_method_123_code 159 = .ok (.bipush 103, 2) := by decide +kernel
theorem dd_Model_doNumbers_161 : decode prog_14_method_123_code 161 = .ok (.isub, 1) := by decide +kernel
theorem dd_Model_doNumbers_162 : decode prog_14_method_123_code 162 = .ok (.goto 10, 3) := by decide +kernel
theorem dd_Model_doNumbers_165 : decode prog_14_method_123_code 165 = .ok (.aload_n 0, 1) := by decide +kernel
theorem dd_Model_doNumbers_166 : decode prog_14_method_123_code 166 = .ok (.getfield 267, 3) := by decide +kernel
theorem dd_Model_doNumbers_169 : decode prog_14_method_123_code 169 = .ok (.bipush 121, 2) := by decide +kernel
theorem dd_Model_doNumbers_171 : decode prog_14_method_123_code 171 = .ok (.isub, 1) := by decide +kernel
theorem dd_Model_doNumbers_172 : decode prog_14_method_123_code 172 = .ok (.istore 4, 2) := by decide +kernel
theorem dd_Model_doNumbers_174 : decode prog_14_method_123_code 174 = .ok (.iload 4, 2) := by decide +kernel
theorem dd_Model_doNumbers_176 : decode prog_14_method_123_code 176 = .ok (.iconst 3, 1) := by decide +kernel
theorem dd_Model_doNumbers_177 : decode prog_14_method_123_code 177 = .ok (.if_icmp .ge 13, 3) := by decide +kernel
theorem dd_Model_doNumbers_180 : decode prog_14_method_123_code 180 = .ok (.iload 4, 2) := by decide +kernel
theorem dd_Model_doNumbers_182 : decode prog_14_method_123_code 182 = .ok (.lload_n 1, 1) := by decide +kernel
theorem dd_Model_doNumbers_183 : decode prog_14_method_123_code 183 = .ok (.iload_n 3, 1) := by decide +kernel
theorem dd_Model_doNumbers_184 : decode prog_14_method_123_code 184 = .ok (.invokestatic 770, 3) := by decide +kernel
theorem dd_Model_doNumbers_187 : decode prog_14_method_123_code 187 = .ok (.goto 15, 3) := by decide +kernel
theorem dd_Model_doNumbers_190 : decode prog_14_method_123_code 190 = .ok (.aload_n 0, 1) := by decide +kernel
theorem dd_Model_doNumbers_191 : decode prog_14_method_123_code 191 = .ok (.iload 4, 2) := by decide +kernel
theorem dd_Model_doNumbers_193 : decode prog_14_method_123_code 193 = .ok (.aload_n 0, 1) := by decide +kernel
theorem dd_Model_doNumbers_194 : decode prog_14_method_123_code 194 = .ok (.invokevirtual 725, 3) := by decide +kernel
theorem dd_Model_doNumbers_197 : decode prog_14_method_123_code 197 = .ok (.lload_n 1, 1) := by decide +kernel
theorem dd_Model_doNumbers_198 : decode prog_14_method_123_code 198 = .ok (.iload_n 3, 1) := by decide +kernel
theorem dd_Model_doNumbers_199 : decode prog_14_method_123_code 199 = .ok (.invokevirtual 774, 3) := by decide +kernel
theorem dd_Model_doNumbers_202 : decode prog_14_method_123_code 202 = .ok (.lstore 5, 2) := by decide +kernel
theorem dd_Model_doNumbers_204 : decode prog_14_method_123_code 204 = .ok (.aload_n 0, 1) := by decide +kernel
theorem dd_Model_doNumbers_205 : decode prog_14_method_123_code 205 = .ok (.iload_n 3, 1) := by decide +kernel
theorem dd_Model_doNumbers_206 : decode prog_14_method_123_code 206 = .ok (.bipush 32, 2) := by decide +kernel
theorem dd_Model_doNumbers_208 : decode prog_14_method_123_code 208 = .ok (.if_icmp .ne 13, 3) := by decide +kernel
theorem dd_Model_doNumbers_211 : decode prog_14_method_123_code 211 = .ok (.lload 5, 2) := by decide +kernel
theorem dd_Model_doNumbers_213 : decode prog_14_method_123_code 213 = .ok (.bipush 32, 2) := by decide +kernel
theorem dd_Model_doNumbers_215 : decode prog_14_method_123_code 215 = .ok (.invokestatic 186, 3) := by decide +kernel
theorem dd_Model_doNumbers_218 : decode prog_14_method_123_code 218 = .ok (.goto 5, 3) := by decide +kernel
theorem dd_Model_doNumbers_221 : decode prog_14_method_123_code 221 = .ok (.lload 5, 2) := by decide +kernel
theorem dd_Model_doNumbers_223 : decode prog_14_method_123_code 223 = .ok (.invokevirtual 737, 3) := by decide +kernel
theorem dd_Model_doNumbers_226 : decode prog_14_method_123_code 226 = .ok (.goto 99, 3) := by decide +kernel
theorem dd_Model_doNumbers_229 : decode prog_14_method_123_code 229 = .ok (.aload_n 0, 1) := by decide +kernel
theorem dd_Model_doNumbers_230 : decode prog_14_method_123_code 230 = .ok (.getfield 267, 3) := by decide +kernel
theorem dd_Model_doNumbers_233 : decode prog_14_method_123_code 233 = .ok (.sipush 173, 3) := by decide +kernel
theorem dd_Model_doNumbers_236 : decode prog_14_method_123_code 236 = .ok (.if_icmp .ne 15, 3) := by decide +kernel
theorem dd_Model_doNumbers_239 : decode prog_14_method_123_code 239 = .ok (.aload_n 0, 1) := by decide +kernel
theorem dd_Model_doNumbers_240 : decode prog_14_method_123_code 240 = .ok (.lload_n 1, 1) := by decide +kernel
theorem dd_Model_doNumbers_241 : decode prog_14_method_123_code 241 = .ok (.ldc2_w 182, 3) := by decide +kernel
theorem dd_Model_doNumbers_244 : decode prog_14_method_123_code 244 = .ok (.land, 1) := by decide +kernel
theorem dd_Model_doNumbers_245 : decode prog_14_method_123_code 245 = .ok (.invokevirtual 737, 3) := by decide +kernel
theorem dd_Model_doNumbers_248 : decode prog_14_method_123_code 248 = .ok (.goto 77, 3) := by decide +kernel
theorem dd_Model_doNumbers_251 : decode prog_14_method_123_code 251 = .ok (.aload_n 0, 1) := by decide +kernel
theorem dd_Model_doNumbers_252 : decode prog_14_method_123_code 252 = .ok (.aload_n 0, 1) := by decide +kernel
theorem dd_Model_doNumbers_253 : decode prog_14_method_123_code 253 = .ok (.getfield 267, 3) := by decide +kernel
theorem dd_Model_doNumbers_256 : decode prog_14_method_123_code 256 = .ok (.sipush 172, 3) := by decide +kernel
theorem dd_Model_doNumbers_259 : decode prog_14_method_123_code 259 = .ok (.if_icmp .ne 7, 3) := by decide +kernel
theorem dd_Model_doNumbers_262 : decode prog_14_method_123_code 262 = .ok (.lload_n 1, 1) := by decide +kernel
theorem dd_Model_doNumbers_263 : decode prog_14_method_123_code 263 = .ok (.goto 59, 3) := by decide +kernel
theorem dd_Model_doNumbers_266 : decode prog_14_method_123_code 266 = .ok (.lload_n 1, 1) := by decide +kernel
theorem dd_Model_doNumbers_267 : decode prog_14_method_123_code 267 = .ok (.aload_n 0, 1) := by decide +kernel
theorem dd_Model_doNumbers_268 : decode prog_14_method_123_code 268 = .ok (.getfield 267, 3) := by decide +kernel
theorem dd_Model_doNumbers_271 : decode prog_14_method_123_code 271 = .ok (.sipush 167, 3) := by decide +kernel
theorem dd_Model_doNumbers_274 : decode prog_14_method_123_code 274 = .ok (.if_icmp .eq 13, 3) := by decide +kernel
theorem dd_Model_doNumbers_277 : decode prog_14_method_123_code 277 = .ok (.aload_n 0, 1) := by decide +kernel
theorem dd_Model_doNumbers_278 : decode prog_14_method_123_code 278 = .ok (.getfield 267, 3) := by decide +kernel
theorem dd_Model_doNumbers_281 : decode prog_14_method_123_code 281 = .ok (.sipush 196, 3) := by decide +kernel
theorem dd_Model_doNumbers_284 : decode prog_14_method_123_code 284 = .ok (.if_icmp .ne 8, 3) := by decide +kernel
theorem dd_Model_doNumbers_287 : decode prog_14_method_123_code 287 = .ok (.bipush 32, 2) := by decide +kernel
theorem dd_Model_doNumbers_289 : decode prog_14_method_123_code 289 = .ok (.goto 30, 3) := by decide +kernel
theorem dd_Model_doNumbers_292 : decode prog_14_method_123_code 292 = .ok (.aload_n 0, 1) := by decide +kernel
theorem dd_Model_doNumbers_293 : decode prog_14_method_123_code 293 = .ok (.getfield 267, 3) := by decide +kernel
theorem dd_Model_doNumbers_296 : decode prog_14_method_123_code 296 = .ok (.sipush 192, 3) := by decide +kernel
theorem dd_Model_doNumbers_299 : decode prog_14_method_123_code 299 = .ok (.if_icmp .eq 13, 3) := by decide +kernel
theorem dd_Model_doNumbers_302 : decode prog_14_method_123_code 302 = .ok (.aload_n 0, 1) := by decide +kernel
theorem dd_Model_doNumbers_303 : decode prog_14_method_123_code 303 = .ok (.getfield 267, 3) := by decide +kernel
theorem dd_Model_doNumbers_306 : decode prog_14_method_123_code 306 = .ok (.sipush 194, 3) := by decide +kernel
theorem dd_Model_doNumbers_309 : decode prog_14_method_123_code 309 = .ok (.if_icmp .ne 8, 3) := by decide +kernel
theorem dd_Model_doNumbers_312 : decode prog_14_method_123_code 312 = .ok (.bipush 8, 2) := by decide +kernel
theorem dd_Model_doNumbers_314 : decode prog_14_method_123_code 314 = .ok (.goto 5, 3) := by decide +kernel
theorem dd_Model_doNumbers_317 : decode prog_14_method_123_code 317 = .ok (.bipush 16, 2) := by decide +kernel
theorem dd_Model_doNumbers_319 : decode prog_14_method_123_code 319 = .ok (.invokestatic 186, 3) := by decide +kernel
theorem dd_Model_doNumbers_322 : decode prog_14_method_123_code 322 = .ok (.invokevirtual 737, 3) := by decide +kernel
theorem dd_Model_doNumbers_325 : decode prog_14_method_123_code 325 = .ok (.return_, 1) := by decide +kernel
theorem dd_Model_doMemory_0 : decode prog_14_method_116_code 0 = .ok (.aload_n 0, 1) := by decide +kernel
theorem dd_Model_doMemory_1 : decode prog_14_method_116_code 1 = .ok (.getfield 267, 3) := by decide +kernel
theorem dd_Model_doMemory_4 : decode prog_14_method_116_code 4 = .ok (.bipush 63, 2) := by decide +kernel
theorem dd_Model_doMemory_6 : decode prog_14_method_116_code 6 = .ok (.if_icmp .ne 13, 3) := by decide +kernel
theorem dd_Model_doMemory_9 : decode prog_14_method_116_code 9 = .ok (.aload_n 0, 1) := by decide +kernel
theorem dd_Model_doMemory_10 : decode prog_14_method_116_code 10 = .ok (.aload_n 0, 1) := by decide +kernel
theorem dd_Model_doMemory_11 : decode prog_14_method_116_code 11 = .ok (.getfield 460, 3) := by decide +kernel
theorem dd_Model_doMemory_14 : decode prog_14_method_116_code 14 = .ok (.i2l, 1) := by decide +kernel
theorem dd_Model_doMemory_15 : decode prog_14_method_116_code 15 = .ok (.invokevirtual 737, 3) := by decide +kernel
theorem dd_Model_doMemory_18 : decode prog_14_method_116_code 18 = .ok (.return_, 1) := by decide +kernel
theorem dd_Model_doMemory_19 : decode prog_14_method_116_code 19 = .ok (.aload_n 0, 1) := by decide +kernel
theorem dd_Model_doMemory_20 : decode prog_14_method_116_code 20 = .ok (.getfield 267, 3) := by decide +kernel
theorem dd_Model_doMemory_23 : decode prog_14_method_116_code 23 = .ok (.bipush 64, 2) := by decide +kernel
theorem dd_Model_doMemory_25 : decode prog_14_method_116_code 25 = .ok (.if_icmp .ne 72, 3) := by decide +kernel
theorem dd_Model_doMemory_28 : decode prog_14_method_116_code 28 = .ok (.aload_n 0, 1) := by decide +kernel
theorem dd_Model_doMemory_29 : decode prog_14_method_116_code 29 = .ok (.invokevirtual 725, 3) := by decide +kernel
theorem dd_Model_doMemory_32 : decode prog_14_method_116_code 32 = .ok (.ldc2_w 182, 3) := by decide +kernel
theorem dd_Model_doMemory_35 : decode prog_14_method_116_code 35 = .ok (.land, 1) := by decide +kernel
theorem dd_Model_doMemory_36 : decode prog_14_method_116_code 36 = .ok (.lstore_n 1, 1) := by decide +kernel
theorem dd_Model_doMemory_37 : decode prog_14_method_116_code 37 = .ok (.lload_n 1, 1) := by decide +kernel
theorem dd_Model_doMemory_38 : decode prog_14_method_116_code 38 = .ok (.aload_n 0, 1) := by decide +kernel
theorem dd_Model_doMemory_39 : decode prog_14_method_116_code 39 = .ok (.getfield 463, 3) := by decide +kernel
theorem dd_Model_doMemory_42 : decode prog_14_method_116_code 42 = .ok (.aload_n 0, 1) := by decide +kernel
theorem dd_Model_doMemory_43 : decode prog_14_method_116_code 43 = .ok (.getfield 460, 3) := by decide +kernel
theorem dd_Model_doMemory_46 : decode prog_14_method_116_code 46 = .ok (.isub, 1) := by decide +kernel
theorem dd_Model_doMemory_47 : decode prog_14_method_116_code 47 = .ok (.i2l, 1) := by decide +kernel
theorem dd_Model_doMemory_48 : decode prog_14_method_116_code 48 = .ok (.lcmp, 1) := by decide +kernel
theorem dd_Model_doMemory_49 : decode prog_14_method_116_code 49 = .ok (.ifCond .gt 7, 3) := by decide +kernel
theorem dd_Model_doMemory_52 : decode prog_14_method_116_code 52 = .ok (.iconst 1, 1) := by decide +kernel
theorem dd_Model_doMemory_53 : decode prog_14_method_116_code 53 = .ok (.goto 4, 3) := by decide +kernel
theorem dd_Model_doMemory_56 : decode prog_14_method_116_code 56 = .ok (.iconst 0, 1) := by decide +kernel
theorem dd_Model_doMemory_57 : decode prog_14_method_116_code 57 = .ok (.istore_n 3, 1) := by decide +kernel
theorem dd_Model_doMemory_58 : decode prog_14_method_116_code 58 = .ok (.aload_n 0, 1) := by decide +kernel
theorem dd_Model_doMemory_59 : decode prog_14_method_116_code 59 = .ok (.iload_n 3, 1) := by decide +kernel
theorem dd_Model_doMemory_60 : decode prog_14_method_116_code 60 = .ok (.ifCond .eq 11, 3) := by decide +kernel
theorem dd_Model_doMemory_63 : decode prog_14_method_116_code 63 = .ok (.aload_n 0, 1) := by decide +kernel
theorem dd_Model_doMemory_64 : decode prog_14_method_116_code 64 = .ok (.getfield 460, 3) := by decide +kernel
theorem dd_Model_doMemory_67 : decode prog_14_method_116_code 67 = .ok (.i2l, 1) := by decide +kernel
theorem dd_Model_doMemory_68 : decode prog_14_method_116_code 68 = .ok (.goto 6, 3) := by decide +kernel
theorem dd_Model_doMemory_71 : decode prog_14_method_116_code 71 = .ok (.ldc2_w 184, 3) := by decide +kernel
theorem dd_Model_doMemory_74 : decode prog_14_method_116_code 74 = .ok (.invokevirtual 737, 3) := by decide +kernel
theorem dd_Model_doMemory_77 : decode prog_14_method_116_code 77 = .ok (.aload_n 0, 1) := by decide +kernel
theorem dd_Model_doMemory_78 : decode prog_14_method_116_code 78 = .ok (.dup, 1) := by decide +kernel
theorem dd_Model_doMemory_79 : decode prog_14_method_116_code 79 = .ok (.getfield 460, 3) := by decide +kernel
theorem dd_Model_doMemory_82 : decode prog_14_method_116_code 82 = .ok (.iload_n 3, 1) := by decide +kernel
theorem dd_Model_doMemory_83 : decode prog_14_method_116_code 83 = .ok (.ifCond .eq 8, 3) := by decide +kernel
theorem dd_Model_doMemory_86 : decode prog_14_method_116_code 86 = .ok (.lload_n 1, 1) := by decide +kernel
theorem dd_Model_doMemory_87 : decode prog_14_method_116_code 87 = .ok (.l2i, 1) := by decide +kernel
theorem dd_Model_doMemory_88 : decode prog_14_method_116_code 88 = .ok (.goto 4, 3) := by decide +kernel
theorem dd_Model_doMemory_91 : decode prog_14_method_116_code 91 = .ok (.iconst 0, 1) := by decide +kernel
theorem dd_Model_doMemory_92 : decode prog_14_method_116_code 92 = .ok (.iadd, 1) := by decide +kernel
theorem dd_Model_doMemory_93 : decode prog_14_method_116_code 93 = .ok (.putfield 460, 3) := by decide +kernel
theorem dd_Model_doMemory_96 : decode prog_14_method_116_code 96 = .ok (.return_, 1) := by decide +kernel
theorem dd_Model_doMemory_97 : decode prog_14_method_116_code 97 = .ok (.aload_n 0, 1) := by decide +kernel
theorem dd_Model_doMemory_98 : decode prog_14_method_116_code 98 = .ok (.getfield 267, 3) := by decide +kernel
theorem dd_Model_doMemory_101 : decode prog_14_method_116_code 101 = .ok (.bipush 53, 2) := by decide +kernel
theorem dd_Model_doMemory_103 : decode prog_14_method_116_code 103 = .ok (.if_icmp .le 10, 3) := by decide +kernel
theorem dd_Model_doMemory_106 : decode prog_14_method_116_code 106 = .ok (.aload_n 0, 1) := by decide +kernel
theorem dd_Model_doMemory_107 : decode prog_14_method_116_code 107 = .ok (.invokevirtual 725, 3) := by decide +kernel
theorem dd_Model_doMemory_110 : decode prog_14_method_116_code 110 = .ok (.goto 4, 3) := by decide +kernel
theorem dd_Model_doMemory_113 : decode prog_14_method_116_code 113 = .ok (.lconst 0, 1) := by decide +kernel
theorem dd_Model_doMemory_114 : decode prog_14_method_116_code 114 = .ok (.lstore_n 1, 1) := by decide +kernel
theorem dd_Model_doMemory_115 : decode prog_14_method_116_code 115 = .ok (.aload_n 0, 1) := by decide +kernel
theorem dd_Model_doMemory_116 : decode prog_14_method_116_code 116 = .ok (.invokevirtual 725, 3) := by decide +kernel
theorem dd_Model_doMemory_119 : decode prog_14_method_116_code 119 = .ok (.ldc2_w 182, 3) := by decide +kernel
theorem dd_Model_doMemory_122 : decode prog_14_method_116_code 122 = .ok (.land, 1) := by decide +kernel
theorem dd_Model_doMemory_123 : decode prog_14_method_116_code 123 = .ok (.aload_n 0, 1) := by decide +kernel
theorem dd_Model_doMemory_124 : decode prog_14_method_116_code 124 = .ok (.getfield 277, 3) := by decide +kernel
theorem dd_Model_doMemory_127 : decode prog_14_method_116_code 127 = .ok (.ladd, 1) := by decide +kernel
theorem dd_Model_doMemory_128 : decode prog_14_method_116_code 128 = .ok (.lstore_n 3, 1) := by decide +kernel
theorem dd_Model_doMemory_129 : decode prog_14_method_116_code 129 = .ok (.aload_n 0, 1) := by decide +kernel
theorem dd_Model_doMemory_130 : decode prog_14_method_116_code 130 = .ok (.getfield 267, 3) := by decide +kernel
theorem dd_Model_doMemory_133 : decode prog_14_method_116_code 133 = .ok (.invokestatic 597, 3) := by decide +kernel
theorem dd_Model_doMemory_136 : decode prog_14_method_116_code 136 = .ok (.istore 5, 2) := by decide +kernel
theorem dd_Model_doMemory_138 : decode prog_14_method_116_code 138 = .ok (.lload_n 3, 1) := by decide +kernel
theorem dd_Model_doMemory_139 : decode prog_14_method_116_code 139 = .ok (.iload 5, 2) := by decide +kernel
theorem dd_Model_doMemory_141 : decode prog_14_method_116_code 141 = .ok (.i2l, 1) := by decide +kernel
theorem dd_Model_doMemory_142 : decode prog_14_method_116_code 142 = .ok (.ladd, 1) := by decide +kernel
theorem dd_Model_doMemory_143 : decode prog_14_method_116_code 143 = .ok (.ldc2_w 740, 3) := by decide +kernel
theorem dd_Model_doMemory_146 : decode prog_14_method_116_code 146 = .ok (.aload_n 0, 1) := by decide +kernel
theorem dd_Model_doMemory_147 : decode prog_14_method_116_code 147 = .ok (.getfield 460, 3) := by decide +kernel
theorem dd_Model_doMemory_150 : decode prog_14_method_116_code 150 = .ok (.i2l, 1) := by decide +kernel
theorem dd_Model_doMemory_151 : decode prog_14_method_116_code 151 = .ok (.lmul, 1) := by decide +kernel
theorem dd_Model_doMemory_152 : decode prog_14_method_116_code 152 = .ok (.lcmp, 1) := by decide +kernel
theorem dd_Model_doMemory_153 : decode prog_14_method_116_code 153 = .ok (.ifCond .le 9, 3) := by decide +kernel
theorem dd_Model_doMemory_156 : decode prog_14_method_116_code 156 = .ok (.aload_n 0, 1) := by decide +kernel
theorem dd_Model_doMemory_157 : decode prog_14_method_116_code 157 = .ok (.iconst 2, 1) := by decide +kernel
theorem dd_Model_doMemory_158 : decode prog_14_method_116_code 158 = .ok (.putfield 673, 3) := by decide +kernel
theorem dd_Model_doMemory_161 : decode prog_14_method_116_code 161 = .ok (.return_, 1) := by decide +kernel
theorem dd_Model_doMemory_162 : decode prog_14_method_116_code 162 = .ok (.aload_n 0, 1) := by decide +kernel
theorem dd_Model_doMemory_163 : decode prog_14_method_116_code 163 = .ok (.getfield 267, 3) := by decide +kernel
theorem dd_Model_doMemory_166 : decode prog_14_method_116_code 166 = .ok (.bipush 53, 2) := by decide +kernel
theorem dd_Model_doMemory_168 : decode prog_14_method_116_code 168 = .ok (.if_icmp .le 39, 3) := by decide +kernel
theorem dd_Model_doMemory_171 : decode prog_14_method_116_code 171 = .ok (.iconst 0, 1) := by decide +kernel
theorem dd_Model_doMemory_172 : decode prog_14_method_116_code 172 = .ok (.istore 6, 2) := by decide +kernel
theorem dd_Model_doMemory_174 : decode prog_14_method_116_code 174 = .ok (.iload 6, 2) := by decide +kernel
theorem dd_Model_doMemory_176 : decode prog_14_method_116_code 176 = .ok (.iload 5, 2) := by decide +kernel
theorem dd_Model_doMemory_178 : decode prog_14_method_116_code 178 = .ok (.if_icmp .ge 28, 3) := by decide +kernel
theorem dd_Model_doMemory_181 : decode prog_14_method_116_code 181 = .ok (.aload_n 0, 1) := by decide +kernel
theorem dd_Model_doMemory_182 : decode prog_14_method_116_code 182 = .ok (.getfield 104, 3) := by decide +kernel
theorem dd_Model_doMemory_185 : decode prog_14_method_116_code 185 = .ok (.lload_n 3, 1) := by decide +kernel
theorem dd_Model_doMemory_186 : decode prog_14_method_116_code 186 = .ok (.l2i, 1) := by decide +kernel
theorem dd_Model_doMemory_187 : decode prog_14_method_116_code 187 = .ok (.iload 6, 2) := by decide +kernel
theorem dd_Model_doMemory_189 : decode prog_14_method_116_code 189 = .ok (.iadd, 1) := by decide +kernel
theorem dd_Model_doMemory_190 : decode prog_14_method_116_code 190 = .ok (.lload_n 1, 1) := by decide +kernel
theorem dd_Model_doMemory_191 : decode prog_14_method_116_code 191 = .ok (.bipush 8, 2) := by decide +kernel
theorem dd_Model_doMemory_193 : decode prog_14_method_116_code 193 = .ok (.iload 6, 2) := by decide +kernel
theorem dd_Model_doMemory_195 : decode prog_14_method_116_code 195 = .ok (.imul, 1) := by decide +kernel
theorem dd_Model_doMemory_196 : decode prog_14_method_116_code 196 = .ok (.lshr, 1) := by decide +kernel
theorem dd_Model_doMemory_197 : decode prog_14_method_116_code 197 = .ok (.l2i, 1) := by decide +kernel
theorem dd_Model_doMemory_198 : decode prog_14_method_116_code 198 = .ok (.i2b, 1) := by decide +kernel
theorem dd_Model_doMemory_199 : decode prog_14_method_116_code 199 = .ok (.bastore, 1) := by decide +kernel
theorem dd_Model_doMemory_200 : decode prog_14_method_116_code 200 = .ok (.iinc 6 1, 3) := by decide +kernel
theorem dd_Model_doMemory_203 : decode prog_14_method_116_code 203 = .ok (.goto (-29), 3) := by decide +kernel
theorem dd_Model_doMemory_206 : decode prog_14_method_116_code 206 = .ok (.return_, 1) := by decide +kernel
theorem dd_Model_doMemory_207 : decode prog_14_method_116_code 207 = .ok (.iload 5, 2) := by decide +kernel
theorem dd_Model_doMemory_209 : decode prog_14_method_116_code 209 = .ok (.iconst 1, 1) := by decide +kernel
theorem dd_Model_doMemory_210 : decode prog_14_method_116_code 210 = .ok (.isub, 1) := by decide +kernel
theorem dd_Model_doMemory_211 : decode prog_14_method_116_code 211 = .ok (.istore 6, 2) := by decide +kernel
theorem dd_Model_doMemory_213 : decode prog_14_method_116_code 213 = .ok (.iload 6, 2) := by decide +kernel
theorem dd_Model_doMemory_215 : decode prog_14_method_116_code 215 = .ok (.ifCond .lt 30, 3) := by decide +kernel
theorem dd_Model_doMemory_218 : decode prog_14_method_116_code 218 = .ok (.lload_n 1, 1) := by decide +kernel
theorem dd_Model_doMemory_219 : decode prog_14_method_116_code 219 = .ok (.bipush 8, 2) := by decide +kernel
theorem dd_Model_doMemory_221 : decode prog_14_method_116_code 221 = .ok (.lshl, 1) := by decide +kernel
theorem dd_Model_doMemory_222 : decode prog_14_method_116_code 222 = .ok (.aload_n 0, 1) := by decide +kernel
theorem dd_Model_doMemory_223 : decode prog_14_method_116_code 223 = .ok (.getfield 104, 3) := by decide +kernel
theorem dd_Model_doMemory_226 : decode prog_14_method_116_code 226 = .ok (.lload_n 3, 1) := by decide +kernel
theorem dd_Model_doMemory_227 : decode prog_14_method_116_code 227 = .ok (.l2i, 1) := by decide +kernel
theorem dd_Model_doMemory_228 : decode prog_14_method_116_code 228 = .ok (.iload 6, 2) := by decide +kernel
theorem dd_Model_doMemory_230 : decode prog_14_method_116_code 230 = .ok (.iadd, 1) := by decide +kernel
theorem dd_Model_doMemory_231 : decode prog_14_method_116_code 231 = .ok (.baload, 1) := by decide +kernel
theorem dd_Model_doMemory_232 : decode prog_14_method_116_code 232 = .ok (.i2l, 1) := by decide +kernel
theorem dd_Model_doMemory_233 : decode prog_14_method_116_code 233 = .ok (.ldc2_w 742, 3) := by decide +kernel
theorem dd_Model_doMemory_236 : decode prog_14_method_116_code 236 = .ok (.land, 1) := by decide +kernel
theorem dd_Model_doMemory_237 : decode prog_14_method_116_code 237 = .ok (.lor, 1) := by decide +kernel
theorem dd_Model_doMemory_238 : decode prog_14_method_116_code 238 = .ok (.lstore_n 1, 1) := by decide +kernel
theorem dd_Model_doMemory_239 : decode prog_14_method_116_code 239 = .ok (.iinc 6 (-1), 3) := by decide +kernel
theorem dd_Model_doMemory_242 : decode prog_14_method_116_code 242 = .ok (.goto (-29), 3) := by decide +kernel
theorem dd_Model_doMemory_245 : decode prog_14_method_116_code 245 = .ok (.aload_n 0, 1) := by decide +kernel
theorem dd_Model_doMemory_246 : decode prog_14_method_116_code 246 = .ok (.getfield 267, 3) := by decide +kernel
theorem dd_Model_doMemory_249 : decode prog_14_method_116_code 249 = .ok (.bipush 40, 2) := by decide +kernel
theorem dd_Model_doMemory_251 : decode prog_14_method_116_code 251 = .ok (.if_icmp .eq 21, 3) := by decide +kernel
theorem dd_Model_doMemory_254 : decode prog_14_method_116_code 254 = .ok (.aload_n 0, 1) := by decide +kernel
theorem dd_Model_doMemory_255 : decode prog_14_method_116_code 255 = .ok (.getfield 267, 3) := by decide +kernel
theorem dd_Model_doMemory_258 : decode prog_14_method_116_code 258 = .ok (.bipush 43, 2) := by decide +kernel
theorem dd_Model_doMemory_260 : decode prog_14_method_116_code 260 = .ok (.if_icmp .le 16, 3) := by decide +kernel
theorem dd_Model_doMemory_263 : decode prog_14_method_116_code 263 = .ok (.aload_n 0, 1) := by decide +kernel
theorem dd_Model_doMemory_264 : decode prog_14_method_116_code 264 = .ok (.getfield 267, 3) := by decide +kernel
theorem dd_Model_doMemory_267 : decode prog_14_method_116_code 267 = .ok (.iconst 2, 1) := by decide +kernel
theorem dd_Model_doMemory_268 : decode prog_14_method_116_code 268 = .ok (.irem, 1) := by decide +kernel
theorem dd_Model_doMemory_269 : decode prog_14_method_116_code 269 = .ok (.ifCond .ne 7, 3) := by decide +kernel
theorem dd_Model_doMemory_272 : decode prog_14_method_116_code 272 = .ok (.iconst 1, 1) := by decide +kernel
theorem dd_Model_doMemory_273 : decode prog_14_method_116_code 273 = .ok (.goto 4, 3) := by decide +kernel
theorem dd_Model_doMemory_276 : decode prog_14_method_116_code 276 = .ok (.iconst 0, 1) := by decide +kernel
theorem dd_Model_doMemory_277 : decode prog_14_method_116_code 277 = .ok (.istore 6, 2) := by decide +kernel
theorem dd_Model_doMemory_279 : decode prog_14_method_116_code 279 = .ok (.aload_n 0, 1) := by decide +kernel
theorem dd_Model_doMemory_280 : decode prog_14_method_116_code 280 = .ok (.iload 6, 2) := by decide +kernel
theorem dd_Model_doMemory_282 : decode prog_14_method_116_code 282 = .ok (.ifCond .eq 15, 3) := by decide +kernel
theorem dd_Model_doMemory_285 : decode prog_14_method_116_code 285 = .ok (.lload_n 1, 1) := by decide +kernel
theorem dd_Model_doMemory_286 : decode prog_14_method_116_code 286 = .ok (.bipush 8, 2) := by decide +kernel
theorem dd_Model_doMemory_288 : decode prog_14_method_116_code 288 = .ok (.iload 5, 2) := by decide +kernel
theorem dd_Model_doMemory_290 : decode prog_14_method_116_code 290 = .ok (.imul, 1) := by decide +kernel
theorem dd_Model_doMemory_291 : decode prog_14_method_116_code 291 = .ok (.invokestatic 186, 3) := by decide +kernel
theorem dd_Model_doMemory_294 : decode prog_14_method_116_code 294 = .ok (.goto 4, 3) := by decide +kernel
theorem dd_Model_doMemory_297 : decode prog_14_method_116_code 297 = .ok (.lload_n 1, 1) := by decide +kernel
theorem dd_Model_doMemory_298 : decode prog_14_method_116_code 298 = .ok (.invokevirtual 737, 3) := by decide +kernel
theorem dd_Model_doMemory_301 : decode prog_14_method_116_code 301 = .ok (.return_, 1) := by decide +kernel
theorem dd_Model_doNames_0 : decode prog_14_method_115_code 0 = .ok (.aload_n 0, 1) := by decide +kernel
theorem dd_Model_doNames_1 : decode prog_14_method_115_code 1 = .ok (.getfield 273, 3) := by decide +kernel
theorem dd_Model_doNames_4 : decode prog_14_method_115_code 4 = .ok (.l2i, 1) := by decide +kernel
theorem dd_Model_doNames_5 : decode prog_14_method_115_code 5 = .ok (.istore_n 1, 1) := by decide +kernel
theorem dd_Model_doNames_6 : decode prog_14_method_115_code 6 = .ok (.aload_n 0, 1) := by decide +kernel
theorem dd_Model_doNames_7 : decode prog_14_method_115_code 7 = .ok (.getfield 267, 3) := by decide +kernel
theorem dd_Model_doNames_10 : decode prog_14_method_115_code 10 = .ok (.bipush 34, 2) := by decide +kernel
theorem dd_Model_doNames_12 : decode prog_14_method_115_code 12 = .ok (.if_icmp .le 45, 3) := by decide +kernel
theorem dd_Model_doNames_15 : decode prog_14_method_115_code 15 = .ok (.aload_n 0, 1) := by decide +kernel
theorem dd_Model_doNames_16 : decode prog_14_method_115_code 16 = .ok (.getfield 267, 3) := by decide +kernel
theorem dd_Model_doNames_19 : decode prog_14_method_115_code 19 = .ok (.bipush 35, 2) := by decide +kernel
theorem dd_Model_doNames_21 : decode prog_14_method_115_code 21 = .ok (.if_icmp .ne 25, 3) := by decide +kernel
theorem dd_Model_doNames_24 : decode prog_14_method_115_code 24 = .ok (.aload_n 0, 1) := by decide +kernel
theorem dd_Model_doNames_25 : decode prog_14_method_115_code 25 = .ok (.aload_n 0, 1) := by decide +kernel
theorem dd_Model_doNames_26 : decode prog_14_method_115_code 26 = .ok (.getfield 100, 3) := by decide +kernel
theorem dd_Model_doNames_29 : decode prog_14_method_115_code 29 = .ok (.iload_n 1, 1) := by decide +kernel
theorem dd_Model_doNames_30 : decode prog_14_method_115_code 30 = .ok (.laload, 1) := by decide +kernel
theorem dd_Model_doNames_31 : decode prog_14_method_115_code 31 = .ok (.aload_n 0, 1) := by decide +kernel
theorem dd_Model_doNames_32 : decode prog_14_method_115_code 32 = .ok (.getfield 57, 3) := by decide +kernel
theorem dd_Model_doNames_35 : decode prog_14_method_115_code 35 = .ok (.iload_n 1, 1) := by decide +kernel
theorem dd_Model_doNames_36 : decode prog_14_method_115_code 36 = .ok (.iaload, 1) := by decide +kernel
theorem dd_Model_doNames_37 : decode prog_14_method_115_code 37 = .ok (.invokestatic 384, 3) := by decide +kernel
theorem dd_Model_doNames_40 : decode prog_14_method_115_code 40 = .ok (.invokevirtual 676, 3) := by decide +kernel
theorem dd_Model_doNames_43 : decode prog_14_method_115_code 43 = .ok (.goto 13, 3) := by decide +kernel
theorem dd_Model_doNames_46 : decode prog_14_method_115_code 46 = .ok (.aload_n 0, 1) := by decide +kernel
theorem dd_Model_doNames_47 : decode prog_14_method_115_code 47 = .ok (.getfield 100, 3) := by decide +kernel
theorem dd_Model_doNames_50 : decode prog_14_method_115_code 50 = .ok (.iload_n 1, 1) := by decide +kernel
theorem dd_Model_doNames_51 : decode prog_14_method_115_code 51 = .ok (.aload_n 0, 1) := by decide +kernel
theorem dd_Model_doNames_52 : decode prog_14_method_115_code 52 = .ok (.invokevirtual 725, 3) := by decide +kernel
theorem dd_Model_doNames_55 : decode prog_14_method_115_code 55 = .ok (.lastore, 1) := by decide +kernel
theorem dd_Model_doNames_56 : decode prog_14_method_115_code 56 = .ok (.return_, 1) := by decide +kernel
theorem dd_Model_doNames_57 : decode prog_14_method_115_code 57 = .ok (.aload_n 0, 1) := by decide +kernel
theorem dd_Model_doNames_58 : decode prog_14_method_115_code 58 = .ok (.getfield 119, 3) := by decide +kernel
theorem dd_Model_doNames_61 : decode prog_14_method_115_code 61 = .ok (.aload_n 0, 1) := by decide +kernel
theorem dd_Model_doNames_62 : decode prog_14_method_115_code 62 = .ok (.getfield 682, 3) := by decide +kernel
theorem dd_Model_doNames_65 : decode prog_14_method_115_code 65 = .ok (.iconst 1, 1) := by decide +kernel
theorem dd_Model_doNames_66 : decode prog_14_method_115_code 66 = .ok (.isub, 1) := by decide +kernel
theorem dd_Model_doNames_67 : decode prog_14_method_115_code 67 = .ok (.iaload, 1) := by decide +kernel
theorem dd_Model_doNames_68 : decode prog_14_method_115_code 68 = .ok (.iload_n 1, 1) := by decide +kernel
theorem dd_Model_doNames_69 : decode prog_14_method_115_code 69 = .ok (.iadd, 1) := by decide +kernel
theorem dd_Model_doNames_70 : decode prog_14_method_115_code 70 = .ok (.istore_n 2, 1) := by decide +kernel
theorem dd_Model_doNames_71 : decode prog_14_method_115_code 71 = .ok (.aload_n 0, 1) := by decide +kernel
theorem dd_Model_doNames_72 : decode prog_14_method_115_code 72 = .ok (.getfield 267, 3) := by decide +kernel
theorem dd_Model_doNames_75 : decode prog_14_method_115_code 75 = .ok (.bipush 32, 2) := by decide +kernel
theorem dd_Model_doNames_77 : decode prog_14_method_115_code 77 = .ok (.if_icmp .ne 22, 3) := by decide +kernel
theorem dd_Model_doNames_80 : decode prog_14_method_115_code 80 = .ok (.aload_n 0, 1) := by decide +kernel
theorem dd_Model_doNames_81 : decode prog_14_method_115_code 81 = .ok (.aload_n 0, 1) := by decide +kernel
theorem dd_Model_doNames_82 : decode prog_14_method_115_code 82 = .ok (.getfield 110, 3) := by decide +kernel
theorem dd_Model_doNames_85 : decode prog_14_method_115_code 85 = .ok (.iload_n 2, 1) := by decide +kernel
theorem dd_Model_doNames_86 : decode prog_14_method_115_code 86 = .ok (.laload, 1) := by decide +kernel
theorem dd_Model_doNames_87 : decode prog_14_method_115_code 87 = .ok (.aload_n 0, 1) := by decide +kernel
theorem dd_Model_doNames_88 : decode prog_14_method_115_code 88 = .ok (.getfield 113, 3) := by decide +kernel
theorem dd_Model_doNames_91 : decode prog_14_method_115_code 91 = .ok (.iload_n 2, 1) := by decide +kernel
theorem dd_Model_doNames_92 : decode prog_14_method_115_code 92 = .ok (.baload, 1) := by decide +kernel
theorem dd_Model_doNames_93 : decode prog_14_method_115_code 93 = .ok (.invokevirtual 676, 3) := by decide +kernel
theorem dd_Model_doNames_96 : decode prog_14_method_115_code 96 = .ok (.goto 20, 3) := by decide +kernel
theorem dd_Model_doNames_99 : decode prog_14_method_115_code 99 = .ok (.aload_n 0, 1) := by decide +kernel
theorem dd_Model_doNames_100 : decode prog_14_method_115_code 100 = .ok (.getfield 110, 3) := by decide +kernel
theorem dd_Model_doNames_103 : decode prog_14_method_115_code 103 = .ok (.iload_n 2, 1) := by decide +kernel
theorem dd_Model_doNames_104 : decode prog_14_method_115_code 104 = .ok (.aload_n 0, 1) := by decide +kernel
theorem dd_Model_doNames_105 : decode prog_14_method_115_code 105 = .ok (.getfield 110, 3) := by decide +kernel
theorem dd_Model_doNames_108 : decode prog_14_method_115_code 108 = .ok (.aload_n 0, 1) := by decide +kernel
theorem dd_Model_doNames_109 : decode prog_14_method_115_code 109 = .ok (.getfield 662, 3) := by decide +kernel
theorem dd_Model_doNames_112 : decode prog_14_method_115_code 112 = .ok (.iconst 1, 1) := by decide +kernel
theorem dd_Model_doNames_113 : decode prog_14_method_115_code 113 = .ok (.isub, 1) := by decide +kernel
theorem dd_Model_doNames_114 : decode prog_14_method_115_code 114 = .ok (.laload, 1) := by decide +kernel
theorem dd_Model_doNames_115 : decode prog_14_method_115_code 115 = .ok (.lastore, 1) := by decide +kernel
theorem dd_Model_doNames_116 : decode prog_14_method_115_code 116 = .ok (.aload_n 0, 1) := by decide +kernel
theorem dd_Model_doNames_117 : decode prog_14_method_115_code 117 = .ok (.getfield 267, 3) := by decide +kernel
theorem dd_Model_doNames_120 : decode prog_14_method_115_code 120 = .ok (.bipush 33, 2) := by decide +kernel
theorem dd_Model_doNames_122 : decode prog_14_method_115_code 122 = .ok (.if_icmp .ne 13, 3) := by decide +kernel
theorem dd_Model_doNames_125 : decode prog_14_method_115_code 125 = .ok (.aload_n 0, 1) := by decide +kernel
theorem dd_Model_doNames_126 : decode prog_14_method_115_code 126 = .ok (.dup, 1) := by decide +kernel
theorem dd_Model_doNames_127 : decode prog_14_method_115_code 127 = .ok (.getfield 662, 3) := by decide +kernel
theorem dd_Model_doNames_130 : decode prog_14_method_115_code 130 = .ok (.iconst 1, 1) := by decide +kernel
theorem dd_Model_doNames_131 : decode prog_14_method_115_code 131 = .ok (.isub, 1) := by decide +kernel
theorem dd_Model_doNames_132 : decode prog_14_method_115_code 132 = .ok (.putfield 662, 3) := by decide +kernel
theorem dd_Model_doNames_135 : decode prog_14_method_115_code 135 = .ok (.return_, 1) := by decide +kernel
theorem dd_Model_doBlock_0 : decode prog_14_method_112_code 0 = .ok (.aload_n 0, 1) := by decide +kernel
theorem dd_Model_doBlock_1 : decode prog_14_method_112_code 1 = .ok (.getfield 267, 3) := by decide +kernel
theorem dd_Model_doBlock_4 : decode prog_14_method_112_code 4 = .ok (.iconst 4, 1) := by decide +kernel
theorem dd_Model_doBlock_5 : decode prog_14_method_112_code 5 = .ok (.if_icmp .ne 12, 3) := by decide +kernel
theorem dd_Model_doBlock_8 : decode prog_14_method_112_code 8 = .ok (.aload_n 0, 1) := by decide +kernel
theorem dd_Model_doBlock_9 : decode prog_14_method_112_code 9 = .ok (.invokevirtual 725, 3) := by decide +kernel
theorem dd_Model_doBlock_12 : decode prog_14_method_112_code 12 = .ok (.lconst 0, 1) := by decide +kernel
theorem dd_Model_doBlock_13 : decode prog_14_method_112_code 13 = .ok (.lcmp, 1) := by decide +kernel
theorem dd_Model_doBlock_14 : decode prog_14_method_112_code 14 = .ok (.ifCond .eq 7, 3) := by decide +kernel
theorem dd_Model_doBlock_17 : decode prog_14_method_112_code 17 = .ok (.iconst 1, 1) := by decide +kernel
theorem dd_Model_doBlock_18 : decode prog_14_method_112_code 18 = .ok (.goto 4, 3) := by decide +kernel
theorem dd_Model_doBlock_21 : decode prog_14_method_112_code 21 = .ok (.iconst 0, 1) := by decide +kernel
theorem dd_Model_doBlock_22 : decode prog_14_method_112_code 22 = .ok (.istore_n 1, 1) := by decide +kernel
theorem dd_Model_doBlock_23 : decode prog_14_method_112_code 23 = .ok (.iload_n 1, 1) := by decide +kernel
theorem dd_Model_doBlock_24 : decode prog_14_method_112_code 24 = .ok (.ifCond .ne 29, 3) := by decide +kernel
theorem dd_Model_doBlock_27 : decode prog_14_method_112_code 27 = .ok (.aload_n 0, 1) := by decide +kernel
theorem dd_Model_doBlock_28 : decode prog_14_method_112_code 28 = .ok (.getfield 79, 3) := by decide +kernel
theorem dd_Model_doBlock_31 : decode prog_14_method_112_code 31 = .ok (.aload_n 0, 1) := by decide +kernel
theorem dd_Model_doBlock_32 : decode prog_14_method_112_code 32 = .ok (.getfield 510, 3) := by decide +kernel
theorem dd_Model_doBlock_35 : decode prog_14_method_112_code 35 = .ok (.iaload, 1) := by decide +kernel
theorem dd_Model_doBlock_36 : decode prog_14_method_112_code 36 = .ok (.ifCond .ne 17, 3) := by decide +kernel
theorem dd_Model_doBlock_39 : decode prog_14_method_112_code 39 = .ok (.aload_n 0, 1) := by decide +kernel
theorem dd_Model_doBlock_40 : decode prog_14_method_112_code 40 = .ok (.aload_n 0, 1) := by decide +kernel
theorem dd_Model_doBlock_41 : decode prog_14_method_112_code 41 = .ok (.getfield 76, 3) := by decide +kernel
theorem dd_Model_doBlock_44 : decode prog_14_method_112_code 44 = .ok (.aload_n 0, 1) := by decide +kernel
theorem dd_Model_doBlock_45 : decode prog_14_method_112_code 45 = .ok (.getfield 510, 3) := by decide +kernel
theorem dd_Model_doBlock_48 : decode prog_14_method_112_code 48 = .ok (.iaload, 1) := by decide +kernel
theorem dd_Model_doBlock_49 : decode prog_14_method_112_code 49 = .ok (.putfield 168, 3) := by decide +kernel
theorem dd_Model_doBlock_52 : decode prog_14_method_112_code 52 = .ok (.return_, 1) := by decide +kernel
theorem dd_Model_doBlock_53 : decode prog_14_method_112_code 53 = .ok (.aload_n 0, 1) := by decide +kernel
theorem dd_Model_doBlock_54 : decode prog_14_method_112_code 54 = .ok (.getfield 662, 3) := by decide +kernel
theorem dd_Model_doBlock_57 : decode prog_14_method_112_code 57 = .ok (.aload_n 0, 1) := by decide +kernel
theorem dd_Model_doBlock_58 : decode prog_14_method_112_code 58 = .ok (.aload_n 0, 1) := by decide +kernel
theorem dd_Model_doBlock_59 : decode prog_14_method_112_code 59 = .ok (.getfield 273, 3) := by decide +kernel
theorem dd_Model_doBlock_62 : decode prog_14_method_112_code 62 = .ok (.iconst 0, 1) := by decide +kernel
theorem dd_Model_doBlock_63 : decode prog_14_method_112_code 63 = .ok (.invokevirtual 496, 3) := by decide +kernel
theorem dd_Model_doBlock_66 : decode prog_14_method_112_code 66 = .ok (.isub, 1) := by decide +kernel
theorem dd_Model_doBlock_67 : decode prog_14_method_112_code 67 = .ok (.istore_n 2, 1) := by decide +kernel
theorem dd_Model_doBlock_68 : decode prog_14_method_112_code 68 = .ok (.aload_n 0, 1) := by decide +kernel
theorem dd_Model_doBlock_69 : decode prog_14_method_112_code 69 = .ok (.getfield 267, 3) := by decide +kernel
theorem dd_Model_doBlock_72 : decode prog_14_method_112_code 72 = .ok (.iconst 3, 1) := by decide +kernel
theorem dd_Model_doBlock_73 : decode prog_14_method_112_code 73 = .ok (.if_icmp .ne 25, 3) := by decide +kernel
theorem dd_Model_doBlock_76 : decode prog_14_method_112_code 76 = .ok (.aload_n 0, 1) := by decide +kernel
theorem dd_Model_doBlock_77 : decode prog_14_method_112_code 77 = .ok (.aload_n 0, 1) := by decide +kernel
theorem dd_Model_doBlock_78 : decode prog_14_method_112_code 78 = .ok (.getfield 168, 3) := by decide +kernel
theorem dd_Model_doBlock_81 : decode prog_14_method_112_code 81 = .ok (.aload_n 0, 1) := by decide +kernel
theorem dd_Model_doBlock_82 : decode prog_14_method_112_code 82 = .ok (.aload_n 0, 1) := by decide +kernel
theorem dd_Model_doBlock_83 : decode prog_14_method_112_code 83 = .ok (.getfield 273, 3) := by decide +kernel
theorem dd_Model_doBlock_86 : decode prog_14_method_112_code 86 = .ok (.iconst 0, 1) := by decide +kernel
theorem dd_Model_doBlock_87 : decode prog_14_method_112_code 87 = .ok (.invokevirtual 496, 3) := by decide +kernel
theorem dd_Model_doBlock_90 : decode prog_14_method_112_code 90 = .ok (.iload_n 2, 1) := by decide +kernel
theorem dd_Model_doBlock_91 : decode prog_14_method_112_code 91 = .ok (.iconst 1, 1) := by decide +kernel
theorem dd_Model_doBlock_92 : decode prog_14_method_112_code 92 = .ok (.invokevirtual 687, 3) := by decide +kernel
theorem dd_Model_doBlock_95 : decode prog_14_method_112_code 95 = .ok (.goto 27, 3) := by decide +kernel
theorem dd_Model_doBlock_98 : decode prog_14_method_112_code 98 = .ok (.aload_n 0, 1) := by decide +kernel
theorem dd_Model_doBlock_99 : decode prog_14_method_112_code 99 = .ok (.aload_n 0, 1) := by decide +kernel
theorem dd_Model_doBlock_100 : decode prog_14_method_112_code 100 = .ok (.getfield 76, 3) := by decide +kernel
theorem dd_Model_doBlock_103 : decode prog_14_method_112_code 103 = .ok (.aload_n 0, 1) := by decide +kernel
theorem dd_Model_doBlock_104 : decode prog_14_method_112_code 104 = .ok (.getfield 510, 3) := by decide +kernel
theorem dd_Model_doBlock_107 : decode prog_14_method_112_code 107 = .ok (.iaload, 1) := by decide +kernel
theorem dd_Model_doBlock_108 : decode prog_14_method_112_code 108 = .ok (.aload_n 0, 1) := by decide +kernel
theorem dd_Model_doBlock_109 : decode prog_14_method_112_code 109 = .ok (.aload_n 0, 1) := by decide +kernel
theorem dd_Model_doBlock_110 : decode prog_14_method_112_code 110 = .ok (.getfield 273, 3) := by decide +kernel
theorem dd_Model_doBlock_113 : decode prog_14_method_112_code 113 = .ok (.iconst 1, 1) := by decide +kernel
theorem dd_Model_doBlock_114 : decode prog_14_method_112_code 114 = .ok (.invokevirtual 496, 3) := by decide +kernel
theorem dd_Model_doBlock_117 : decode prog_14_method_112_code 117 = .ok (.iload_n 2, 1) := by decide +kernel
theorem dd_Model_doBlock_118 : decode prog_14_method_112_code 118 = .ok (.iconst 0, 1) := by decide +kernel
theorem dd_Model_doBlock_119 : decode prog_14_method_112_code 119 = .ok (.invokevirtual 687, 3) := by decide +kernel
theorem dd_Model_doBlock_122 : decode prog_14_method_112_code 122 = .ok (.iload_n 1, 1) := by decide +kernel
theorem dd_Model_doBlock_123 : decode prog_14_method_112_code 123 = .ok (.ifCond .ne 16, 3) := by decide +kernel
theorem dd_Model_doBlock_126 : decode prog_14_method_112_code 126 = .ok (.aload_n 0, 1) := by decide +kernel
theorem dd_Model_doBlock_127 : decode prog_14_method_112_code 127 = .ok (.aload_n 0, 1) := by decide +kernel
theorem dd_Model_doBlock_128 : decode prog_14_method_112_code 128 = .ok (.getfield 79, 3) := by decide +kernel
theorem dd_Model_doBlock_131 : decode prog_14_method_112_code 131 = .ok (.aload_n 0, 1) := by decide +kernel
theorem dd_Model_doBlock_132 : decode prog_14_method_112_code 132 = .ok (.getfield 510, 3) := by decide +kernel
theorem dd_Model_doBlock_135 : decode prog_14_method_112_code 135 = .ok (.iaload, 1) := by decide +kernel
theorem dd_Model_doBlock_136 : decode prog_14_method_112_code 136 = .ok (.putfield 168, 3) := by decide +kernel
theorem dd_Model_doBlock_139 : decode prog_14_method_112_code 139 = .ok (.return_, 1) := by decide +kernel
theorem dd_Model_callByTable_0 : decode prog_14_method_114_code 0 = .ok (.aload_n 0, 1) := by decide +kernel
theorem dd_Model_callByTable_1 : decode prog_14_method_114_code 1 = .ok (.invokevirtual 725, 3) := by decide +kernel
theorem dd_Model_callByTable_4 : decode prog_14_method_114_code 4 = .ok (.ldc2_w 182, 3) := by decide +kernel
theorem dd_Model_callByTable_7 : decode prog_14_method_114_code 7 = .ok (.land, 1) := by decide +kernel
theorem dd_Model_callByTable_8 : decode prog_14_method_114_code 8 = .ok (.lstore_n 1, 1) := by decide +kernel
theorem dd_Model_callByTable_9 : decode prog_14_method_114_code 9 = .ok (.lload_n 1, 1) := by decide +kernel
theorem dd_Model_callByTable_10 : decode prog_14_method_114_code 10 = .ok (.aload_n 0, 1) := by decide +kernel
theorem dd_Model_callByTable_11 : decode prog_14_method_114_code 11 = .ok (.getfield 454, 3) := by decide +kernel
theorem dd_Model_callByTable_14 : decode prog_14_method_114_code 14 = .ok (.i2l, 1) := by decide +kernel
theorem dd_Model_callByTable_15 : decode prog_14_method_114_code 15 = .ok (.lcmp, 1) := by decide +kernel
theorem dd_Model_callByTable_16 : decode prog_14_method_114_code 16 = .ok (.ifCond .ge 13, 3) := by decide +kernel
theorem dd_Model_callByTable_19 : decode prog_14_method_114_code 19 = .ok (.aload_n 0, 1) := by decide +kernel
theorem dd_Model_callByTable_20 : decode prog_14_method_114_code 20 = .ok (.getfield 107, 3) := by decide +kernel
theorem dd_Model_callByTable_23 : decode prog_14_method_114_code 23 = .ok (.lload_n 1, 1) := by decide +kernel
theorem dd_Model_callByTable_24 : decode prog_14_method_114_code 24 = .ok (.l2i, 1) := by decide +kernel
theorem dd_Model_callByTable_25 : decode prog_14_method_114_code 25 = .ok (.iaload, 1) := by decide +kernel
theorem dd_Model_callByTable_26 : decode prog_14_method_114_code 26 = .ok (.goto 4, 3) := by decide +kernel
theorem dd_Model_callByTable_29 : decode prog_14_method_114_code 29 = .ok (.iconst (-1), 1) := by decide +kernel
theorem dd_Model_callByTable_30 : decode prog_14_method_114_code 30 = .ok (.istore_n 3, 1) := by decide +kernel
theorem dd_Model_callByTable_31 : decode prog_14_method_114_code 31 = .ok (.aload_n 0, 1) := by decide +kernel
theorem dd_Model_callByTable_32 : decode prog_14_method_114_code 32 = .ok (.lload_n 1, 1) := by decide +kernel
theorem dd_Model_callByTable_33 : decode prog_14_method_114_code 33 = .ok (.aload_n 0, 1) := by decide +kernel
theorem dd_Model_callByTable_34 : decode prog_14_method_114_code 34 = .ok (.getfield 454, 3) := by decide +kernel
theorem dd_Model_callByTable_37 : decode prog_14_method_114_code 37 = .ok (.i2l, 1) := by decide +kernel
theorem dd_Model_callByTable_38 : decode prog_14_method_114_code 38 = .ok (.lcmp, 1) := by decide +kernel
theorem dd_Model_callByTable_39 : decode prog_14_method_114_code 39 = .ok (.ifCond .lt 7, 3) := by decide +kernel
theorem dd_Model_callByTable_42 : decode prog_14_method_114_code 42 = .ok (.iconst 5, 1) := by decide +kernel
theorem dd_Model_callByTable_43 : decode prog_14_method_114_code 43 = .ok (.goto 42, 3) := by decide +kernel
theorem dd_Model_callByTable_46 : decode prog_14_method_114_code 46 = .ok (.iload_n 3, 1) := by decide +kernel
theorem dd_Model_callByTable_47 : decode prog_14_method_114_code 47 = .ok (.ifCond .ge 8, 3) := by decide +kernel
theorem dd_Model_callByTable_50 : decode prog_14_method_114_code 50 = .ok (.bipush 6, 2) := by decide +kernel
theorem dd_Model_callByTable_52 : decode prog_14_method_114_code 52 = .ok (.goto 33, 3) := by decide +kernel
theorem dd_Model_callByTable_55 : decode prog_14_method_114_code 55 = .ok (.aload_n 0, 1) := by decide +kernel
theorem dd_Model_callByTable_56 : decode prog_14_method_114_code 56 = .ok (.getfield 39, 3) := by decide +kernel
theorem dd_Model_callByTable_59 : decode prog_14_method_114_code 59 = .ok (.aload_n 0, 1) := by decide +kernel
theorem dd_Model_callByTable_60 : decode prog_14_method_114_code 60 = .ok (.getfield 42, 3) := by decide +kernel
theorem dd_Model_callByTable_63 : decode prog_14_method_114_code 63 = .ok (.iload_n 3, 1) := by decide +kernel
theorem dd_Model_callByTable_64 : decode prog_14_method_114_code 64 = .ok (.iaload, 1) := by decide +kernel
theorem dd_Model_callByTable_65 : decode prog_14_method_114_code 65 = .ok (.iaload, 1) := by decide +kernel
theorem dd_Model_callByTable_66 : decode prog_14_method_114_code 66 = .ok (.aload_n 0, 1) := by decide +kernel
theorem dd_Model_callByTable_67 : decode prog_14_method_114_code 67 = .ok (.getfield 39, 3) := by decide +kernel
theorem dd_Model_callByTable_70 : decode prog_14_method_114_code 70 = .ok (.aload_n 0, 1) := by decide +kernel
theorem dd_Model_callByTable_71 : decode prog_14_method_114_code 71 = .ok (.getfield 273, 3) := by decide +kernel
theorem dd_Model_callByTable_74 : decode prog_14_method_114_code 74 = .ok (.l2i, 1) := by decide +kernel
theorem dd_Model_callByTable_75 : decode prog_14_method_114_code 75 = .ok (.iaload, 1) := by decide +kernel
theorem dd_Model_callByTable_76 : decode prog_14_method_114_code 76 = .ok (.if_icmp .eq 8, 3) := by decide +kernel
theorem dd_Model_callByTable_79 : decode prog_14_method_114_code 79 = .ok (.bipush 7, 2) := by decide +kernel
theorem dd_Model_callByTable_81 : decode prog_14_method_114_code 81 = .ok (.goto 4, 3) := by decide +kernel
theorem dd_Model_callByTable_84 : decode prog_14_method_114_code 84 = .ok (.iconst 0, 1) := by decide +kernel
theorem dd_Model_callByTable_85 : decode prog_14_method_114_code 85 = .ok (.putfield 673, 3) := by decide +kernel
theorem dd_Model_callByTable_88 : decode prog_14_method_114_code 88 = .ok (.aload_n 0, 1) := by decide +kernel
theorem dd_Model_callByTable_89 : decode prog_14_method_114_code 89 = .ok (.getfield 673, 3) := by decide +kernel
theorem dd_Model_callByTable_92 : decode prog_14_method_114_code 92 = .ok (.ifCond .ne 12, 3) := by decide +kernel
theorem dd_Model_callByTable_95 : decode prog_14_method_114_code 95 = .ok (.aload_n 0, 1) := by decide +kernel
theorem dd_Model_callByTable_96 : decode prog_14_method_114_code 96 = .ok (.iload_n 3, 1) := by decide +kernel
theorem dd_Model_callByTable_97 : decode prog_14_method_114_code 97 = .ok (.aload_n 0, 1) := by decide +kernel
theorem dd_Model_callByTable_98 : decode prog_14_method_114_code 98 = .ok (.getfield 168, 3) := by decide +kernel
theorem dd_Model_callByTable_101 : decode prog_14_method_114_code 101 = .ok (.invokevirtual 698, 3) := by decide +kernel
theorem dd_Model_callByTable_104 : decode prog_14_method_114_code 104 = .ok (.return_, 1) := by decide +kernel
theorem dd_Model_doWays_0 : decode prog_14_method_113_code 0 = .ok (.aload_n 0, 1) := by decide +kernel
theorem dd_Model_doWays_1 : decode prog_14_method_113_code 1 = .ok (.getfield 267, 3) := by decide +kernel
theorem dd_Model_doWays_4 : decode prog_14_method_113_code 4 = .ok (.tableswitch 385 0 27 #[128, 385, 136, 136, 136, 143, 385, 385, 385, 385, 385, 169, 209, 221, 242, 304, 311, 327, 385, 385, 385, 385, 385, 385, 385, 385, 334, 342], 128) := by decide +kernel
theorem dd_Model_doWays_132 : decode prog_14_method_113_code 132 = .ok (.aload_n 0, 1) := by decide +kernel
theorem dd_Model_doWays_133 : decode prog_14_method_113_code 133 = .ok (.iconst 1, 1) := by decide +kernel
theorem dd_Model_doWays_134 : decode prog_14_method_113_code 134 = .ok (.putfield 673, 3) := by decide +kernel
theorem dd_Model_doWays_137 : decode prog_14_method_113_code 137 = .ok (.goto 252, 3) := by decide +kernel
theorem dd_Model_doWays_140 : decode prog_14_method_113_code 140 = .ok (.aload_n 0, 1) := by decide +kernel
theorem dd_Model_doWays_141 : decode prog_14_method_113_code 141 = .ok (.invokevirtual 728, 3) := by decide +kernel
theorem dd_Model_doWays_144 : decode prog_14_method_113_code 144 = .ok (.goto 245, 3) := by decide +kernel
theorem dd_Model_doWays_147 : decode prog_14_method_113_code 147 = .ok (.aload_n 0, 1) := by decide +kernel
theorem dd_Model_doWays_148 : decode prog_14_method_113_code 148 = .ok (.dup, 1) := by decide +kernel
theorem dd_Model_doWays_149 : decode prog_14_method_113_code 149 = .ok (.getfield 685, 3) := by decide +kernel
theorem dd_Model_doWays_152 : decode prog_14_method_113_code 152 = .ok (.iconst 1, 1) := by decide +kernel
theorem dd_Model_doWays_153 : decode prog_14_method_113_code 153 = .ok (.isub, 1) := by decide +kernel
theorem dd_Model_doWays_154 : decode prog_14_method_113_code 154 = .ok (.putfield 685, 3) := by decide +kernel
theorem dd_Model_doWays_157 : decode prog_14_method_113_code 157 = .ok (.aload_n 0, 1) := by decide +kernel
theorem dd_Model_doWays_158 : decode prog_14_method_113_code 158 = .ok (.aload_n 0, 1) := by decide +kernel
theorem dd_Model_doWays_159 : decode prog_14_method_113_code 159 = .ok (.getfield 125, 3) := by decide +kernel
theorem dd_Model_doWays_162 : decode prog_14_method_113_code 162 = .ok (.aload_n 0, 1) := by decide +kernel
theorem dd_Model_doWays_163 : decode prog_14_method_113_code 163 = .ok (.getfield 685, 3) := by decide +kernel
theorem dd_Model_doWays_166 : decode prog_14_method_113_code 166 = .ok (.iaload, 1) := by decide +kernel
theorem dd_Model_doWays_167 : decode prog_14_method_113_code 167 = .ok (.putfield 168, 3) := by decide +kernel
theorem dd_Model_doWays_170 : decode prog_14_method_113_code 170 = .ok (.goto 219, 3) := by decide +kernel
theorem dd_Model_doWays_173 : decode prog_14_method_113_code 173 = .ok (.aload_n 0, 1) := by decide +kernel
theorem dd_Model_doWays_174 : decode prog_14_method_113_code 174 = .ok (.getfield 685, 3) := by decide +kernel
theorem dd_Model_doWays_177 : decode prog_14_method_113_code 177 = .ok (.iconst 1, 1) := by decide +kernel
theorem dd_Model_doWays_178 : decode prog_14_method_113_code 178 = .ok (.isub, 1) := by decide +kernel
theorem dd_Model_doWays_179 : decode prog_14_method_113_code 179 = .ok (.aload_n 0, 1) := by decide +kernel
theorem dd_Model_doWays_180 : decode prog_14_method_113_code 180 = .ok (.getfield 122, 3) := by decide +kernel
theorem dd_Model_doWays_183 : decode prog_14_method_113_code 183 = .ok (.aload_n 0, 1) := by decide +kernel
theorem dd_Model_doWays_184 : decode prog_14_method_113_code 184 = .ok (.getfield 682, 3) := by decide +kernel
theorem dd_Model_doWays_187 : decode prog_14_method_113_code 187 = .ok (.iconst 1, 1) := by decide +kernel
theorem dd_Model_doWays_188 : decode prog_14_method_113_code 188 = .ok (.isub, 1) := by decide +kernel
theorem dd_Model_doWays_189 : decode prog_14_method_113_code 189 = .ok (.iaload, 1) := by decide +kernel
theorem dd_Model_doWays_190 : decode prog_14_method_113_code 190 = .ok (.if_icmp .ne 10, 3) := by decide +kernel
theorem dd_Model_doWays_193 : decode prog_14_method_113_code 193 = .ok (.aload_n 0, 1) := by decide +kernel
theorem dd_Model_doWays_194 : decode prog_14_method_113_code 194 = .ok (.invokevirtual 695, 3) := by decide +kernel
theorem dd_Model_doWays_197 : decode prog_14_method_113_code 197 = .ok (.goto 192, 3) := by decide +kernel
theorem dd_Model_doWays_200 : decode prog_14_method_113_code 200 = .ok (.aload_n 0, 1) := by decide +kernel
theorem dd_Model_doWays_201 : decode prog_14_method_113_code 201 = .ok (.dup, 1) := by decide +kernel
theorem dd_Model_doWays_202 : decode prog_14_method_113_code 202 = .ok (.getfield 685, 3) := by decide +kernel
theorem dd_Model_doWays_205 : decode prog_14_method_113_code 205 = .ok (.iconst 1, 1) := by decide +kernel
theorem dd_Model_doWays_206 : decode prog_14_method_113_code 206 = .ok (.isub, 1) := by decide +kernel
theorem dd_Model_doWays_207 : decode prog_14_method_113_code 207 = .ok (.putfield 685, 3) := by decide +kernel
theorem dd_Model_doWays_210 : decode prog_14_method_113_code 210 = .ok (.goto 179, 3) := by decide +kernel
theorem dd_Model_doWays_213 : decode prog_14_method_113_code 213 = .ok (.aload_n 0, 1) := by decide +kernel
theorem dd_Model_doWays_214 : decode prog_14_method_113_code 214 = .ok (.aload_n 0, 1) := by decide +kernel
theorem dd_Model_doWays_215 : decode prog_14_method_113_code 215 = .ok (.getfield 273, 3) := by decide +kernel
theorem dd_Model_doWays_218 : decode prog_14_method_113_code 218 = .ok (.l2i, 1) := by decide +kernel
theorem dd_Model_doWays_219 : decode prog_14_method_113_code 219 = .ok (.invokevirtual 731, 3) := by decide +kernel
theorem dd_Model_doWays_222 : decode prog_14_method_113_code 222 = .ok (.goto 167, 3) := by decide +kernel
theorem dd_Model_doWays_225 : decode prog_14_method_113_code 225 = .ok (.aload_n 0, 1) := by decide +kernel
theorem dd_Model_doWays_226 : decode prog_14_method_113_code 226 = .ok (.invokevirtual 725, 3) := by decide +kernel
theorem dd_Model_doWays_229 : decode prog_14_method_113_code 229 = .ok (.lconst 0, 1) := by decide +kernel
theorem dd_Model_doWays_230 : decode prog_14_method_113_code 230 = .ok (.lcmp, 1) := by decide +kernel
theorem dd_Model_doWays_231 : decode prog_14_method_113_code 231 = .ok (.ifCond .eq 158, 3) := by decide +kernel
theorem dd_Model_doWays_234 : decode prog_14_method_113_code 234 = .ok (.aload_n 0, 1) := by decide +kernel
theorem dd_Model_doWays_235 : decode prog_14_method_113_code 235 = .ok (.aload_n 0, 1) := by decide +kernel
theorem dd_Model_doWays_236 : decode prog_14_method_113_code 236 = .ok (.getfield 273, 3) := by decide +kernel
theorem dd_Model_doWays_239 : decode prog_14_method_113_code 239 = .ok (.l2i, 1) := by decide +kernel
theorem dd_Model_doWays_240 : decode prog_14_method_113_code 240 = .ok (.invokevirtual 731, 3) := by decide +kernel
theorem dd_Model_doWays_243 : decode prog_14_method_113_code 243 = .ok (.goto 146, 3) := by decide +kernel
theorem dd_Model_doWays_246 : decode prog_14_method_113_code 246 = .ok (.aload_n 0, 1) := by decide +kernel
theorem dd_Model_doWays_247 : decode prog_14_method_113_code 247 = .ok (.invokevirtual 725, 3) := by decide +kernel
theorem dd_Model_doWays_250 : decode prog_14_method_113_code 250 = .ok (.ldc2_w 182, 3) := by decide +kernel
theorem dd_Model_doWays_253 : decode prog_14_method_113_code 253 = .ok (.land, 1) := by decide +kernel
theorem dd_Model_doWays_254 : decode prog_14_method_113_code 254 = .ok (.lstore_n 1, 1) := by decide +kernel
theorem dd_Model_doWays_255 : decode prog_14_method_113_code 255 = .ok (.aload_n 0, 1) := by decide +kernel
theorem dd_Model_doWays_256 : decode prog_14_method_113_code 256 = .ok (.aload_n 0, 1) := by decide +kernel
theorem dd_Model_doWays_257 : decode prog_14_method_113_code 257 = .ok (.getfield 317, 3) := by decide +kernel
theorem dd_Model_doWays_260 : decode prog_14_method_113_code 260 = .ok (.putfield 168, 3) := by decide +kernel
theorem dd_Model_doWays_263 : decode prog_14_method_113_code 263 = .ok (.lconst 0, 1) := by decide +kernel
theorem dd_Model_doWays_264 : decode prog_14_method_113_code 264 = .ok (.lstore_n 3, 1) := by decide +kernel
theorem dd_Model_doWays_265 : decode prog_14_method_113_code 265 = .ok (.lload_n 1, 1) := by decide +kernel
theorem dd_Model_doWays_266 : decode prog_14_method_113_code 266 = .ok (.aload_n 0, 1) := by decide +kernel
theorem dd_Model_doWays_267 : decode prog_14_method_113_code 267 = .ok (.getfield 322, 3) := by decide +kernel
theorem dd_Model_doWays_270 : decode prog_14_method_113_code 270 = .ok (.i2l, 1) := by decide +kernel
theorem dd_Model_doWays_271 : decode prog_14_method_113_code 271 = .ok (.lcmp, 1) := by decide +kernel
theorem dd_Model_doWays_272 : decode prog_14_method_113_code 272 = .ok (.ifCond .ge 24, 3) := by decide +kernel
theorem dd_Model_doWays_275 : decode prog_14_method_113_code 275 = .ok (.lload_n 3, 1) := by decide +kernel
theorem dd_Model_doWays_276 : decode prog_14_method_113_code 276 = .ok (.lload_n 1, 1) := by decide +kernel
theorem dd_Model_doWays_277 : decode prog_14_method_113_code 277 = .ok (.lcmp, 1) := by decide +kernel
theorem dd_Model_doWays_278 : decode prog_14_method_113_code 278 = .ok (.ifCond .gt 18, 3) := by decide +kernel
theorem dd_Model_doWays_281 : decode prog_14_method_113_code 281 = .ok (.aload_n 0, 1) := by decide +kernel
theorem dd_Model_doWays_282 : decode prog_14_method_113_code 282 = .ok (.aload_n 0, 1) := by decide +kernel
theorem dd_Model_doWays_283 : decode prog_14_method_113_code 283 = .ok (.invokevirtual 295, 3) := by decide +kernel
theorem dd_Model_doWays_286 : decode prog_14_method_113_code 286 = .ok (.putfield 273, 3) := by decide +kernel
theorem dd_Model_doWays_289 : decode prog_14_method_113_code 289 = .ok (.lload_n 3, 1) := by decide +kernel
theorem dd_Model_doWays_290 : decode prog_14_method_113_code 290 = .ok (.lconst 1, 1) := by decide +kernel
theorem dd_Model_doWays_291 : decode prog_14_method_113_code 291 = .ok (.ladd, 1) := by decide +kernel
theorem dd_Model_doWays_292 : decode prog_14_method_113_code 292 = .ok (.lstore_n 3, 1) := by decide +kernel
theorem dd_Model_doWays_293 : decode prog_14_method_113_code 293 = .ok (.goto (-28), 3) := by decide +kernel
theorem dd_Model_doWays_296 : decode prog_14_method_113_code 296 = .ok (.aload_n 0, 1) := by decide +kernel
theorem dd_Model_doWays_297 : decode prog_14_method_113_code 297 = .ok (.aload_n 0, 1) := by decide +kernel
theorem dd_Model_doWays_298 : decode prog_14_method_113_code 298 = .ok (.getfield 273, 3) := by decide +kernel
theorem dd_Model_doWays_301 : decode prog_14_method_113_code 301 = .ok (.l2i, 1) := by decide +kernel
theorem dd_Model_doWays_302 : decode prog_14_method_113_code 302 = .ok (.invokevirtual 731, 3) := by decide +kernel
theorem dd_Model_doWays_305 : decode prog_14_method_113_code 305 = .ok (.goto 84, 3) := by decide +kernel
theorem dd_Model_doWays_308 : decode prog_14_method_113_code 308 = .ok (.aload_n 0, 1) := by decide +kernel
theorem dd_Model_doWays_309 : decode prog_14_method_113_code 309 = .ok (.invokevirtual 695, 3) := by decide +kernel
theorem dd_Model_doWays_312 : decode prog_14_method_113_code 312 = .ok (.goto 77, 3) := by decide +kernel
theorem dd_Model_doWays_315 : decode prog_14_method_113_code 315 = .ok (.aload_n 0, 1) := by decide +kernel
theorem dd_Model_doWays_316 : decode prog_14_method_113_code 316 = .ok (.aload_n 0, 1) := by decide +kernel
theorem dd_Model_doWays_317 : decode prog_14_method_113_code 317 = .ok (.getfield 273, 3) := by decide +kernel
theorem dd_Model_doWays_320 : decode prog_14_method_113_code 320 = .ok (.l2i, 1) := by decide +kernel
theorem dd_Model_doWays_321 : decode prog_14_method_113_code 321 = .ok (.aload_n 0, 1) := by decide +kernel
theorem dd_Model_doWays_322 : decode prog_14_method_113_code 322 = .ok (.getfield 168, 3) := by decide +kernel
theorem dd_Model_doWays_325 : decode prog_14_method_113_code 325 = .ok (.invokevirtual 698, 3) := by decide +kernel
theorem dd_Model_doWays_328 : decode prog_14_method_113_code 328 = .ok (.goto 61, 3) := by decide +kernel
theorem dd_Model_doWays_331 : decode prog_14_method_113_code 331 = .ok (.aload_n 0, 1) := by decide +kernel
theorem dd_Model_doWays_332 : decode prog_14_method_113_code 332 = .ok (.invokevirtual 734, 3) := by decide +kernel
theorem dd_Model_doWays_335 : decode prog_14_method_113_code 335 = .ok (.goto 54, 3) := by decide +kernel
theorem dd_Model_doWays_338 : decode prog_14_method_113_code 338 = .ok (.aload_n 0, 1) := by decide +kernel
theorem dd_Model_doWays_339 : decode prog_14_method_113_code 339 = .ok (.invokevirtual 725, 3) := by decide +kernel
theorem dd_Model_doWays_342 : decode prog_14_method_113_code 342 = .ok (.lstore_n 3, 1) := by decide +kernel
theorem dd_Model_doWays_343 : decode prog_14_method_113_code 343 = .ok (.goto 46, 3) := by decide +kernel
theorem dd_Model_doWays_346 : decode prog_14_method_113_code 346 = .ok (.aload_n 0, 1) := by decide +kernel
theorem dd_Model_doWays_347 : decode prog_14_method_113_code 347 = .ok (.invokevirtual 725, 3) := by decide +kernel
theorem dd_Model_doWays_350 : decode prog_14_method_113_code 350 = .ok (.lconst 0, 1) := by decide +kernel
theorem dd_Model_doWays_351 : decode prog_14_method_113_code 351 = .ok (.lcmp, 1) := by decide +kernel
theorem dd_Model_doWays_352 : decode prog_14_method_113_code 352 = .ok (.ifCond .eq 7, 3) := by decide +kernel
theorem dd_Model_doWays_355 : decode prog_14_method_113_code 355 = .ok (.iconst 1, 1) := by decide +kernel
theorem dd_Model_doWays_356 : decode prog_14_method_113_code 356 = .ok (.goto 4, 3) := by decide +kernel
theorem dd_Model_doWays_359 : decode prog_14_method_113_code 359 = .ok (.iconst 0, 1) := by decide +kernel
theorem dd_Model_doWays_360 : decode prog_14_method_113_code 360 = .ok (.istore 5, 2) := by decide +kernel
theorem dd_Model_doWays_362 : decode prog_14_method_113_code 362 = .ok (.aload_n 0, 1) := by decide +kernel
theorem dd_Model_doWays_363 : decode prog_14_method_113_code 363 = .ok (.invokevirtual 725, 3) := by decide +kernel
theorem dd_Model_doWays_366 : decode prog_14_method_113_code 366 = .ok (.lstore 6, 2) := by decide +kernel
theorem dd_Model_doWays_368 : decode prog_14_method_113_code 368 = .ok (.iload 5, 2) := by decide +kernel
theorem dd_Model_doWays_370 : decode prog_14_method_113_code 370 = .ok (.ifCond .ne 19, 3) := by decide +kernel
theorem dd_Model_doWays_373 : decode prog_14_method_113_code 373 = .ok (.aload_n 0, 1) := by decide +kernel
theorem dd_Model_doWays_374 : decode prog_14_method_113_code 374 = .ok (.getfield 110, 3) := by decide +kernel
theorem dd_Model_doWays_377 : decode prog_14_method_113_code 377 = .ok (.aload_n 0, 1) := by decide +kernel
theorem dd_Model_doWays_378 : decode prog_14_method_113_code 378 = .ok (.getfield 662, 3) := by decide +kernel
theorem dd_Model_doWays_381 : decode prog_14_method_113_code 381 = .ok (.iconst 1, 1) := by decide +kernel
theorem dd_Model_doWays_382 : decode prog_14_method_113_code 382 = .ok (.isub, 1) := by decide +kernel
theorem dd_Model_doWays_383 : decode prog_14_method_113_code 383 = .ok (.lload 6, 2) := by decide +kernel
theorem dd_Model_doWays_385 : decode prog_14_method_113_code 385 = .ok (.lastore, 1) := by decide +kernel
theorem dd_Model_doWays_386 : decode prog_14_method_113_code 386 = .ok (.goto 3, 3) := by decide +kernel
theorem dd_Model_doWays_389 : decode prog_14_method_113_code 389 = .ok (.return_, 1) := by decide +kernel
theorem dd_Model_run_0 : decode prog_14_method_111_code 0 = .ok (.aload_n 0, 1) := by decide +kernel
theorem dd_Model_run_1 : decode prog_14_method_111_code 1 = .ok (.lload_n 2, 1) := by decide +kernel
theorem dd_Model_run_2 : decode prog_14_method_111_code 2 = .ok (.putfield 679, 3) := by decide +kernel
theorem dd_Model_run_5 : decode prog_14_method_111_code 5 = .ok (.aload_n 0, 1) := by decide +kernel
theorem dd_Model_run_6 : decode prog_14_method_111_code 6 = .ok (.iconst 0, 1) := by decide +kernel
theorem dd_Model_run_7 : decode prog_14_method_111_code 7 = .ok (.putfield 682, 3) := by decide +kernel
theorem dd_Model_run_10 : decode prog_14_method_111_code 10 = .ok (.aload_n 0, 1) := by decide +kernel
theorem dd_Model_run_11 : decode prog_14_method_111_code 11 = .ok (.iconst 0, 1) := by decide +kernel
theorem dd_Model_run_12 : decode prog_14_method_111_code 12 = .ok (.putfield 685, 3) := by decide +kernel
theorem dd_Model_run_15 : decode prog_14_method_111_code 15 = .ok (.aload_n 0, 1) := by decide +kernel
theorem dd_Model_run_16 : decode prog_14_method_111_code 16 = .ok (.aload_n 0, 1) := by decide +kernel
theorem dd_Model_run_17 : decode prog_14_method_111_code 17 = .ok (.getfield 341, 3) := by decide +kernel
theorem dd_Model_run_20 : decode prog_14_method_111_code 20 = .ok (.putfield 171, 3) := by decide +kernel
theorem dd_Model_run_23 : decode prog_14_method_111_code 23 = .ok (.aload_n 0, 1) := by decide +kernel
theorem dd_Model_run_24 : decode prog_14_method_111_code 24 = .ok (.iconst 0, 1) := by decide +kernel
theorem dd_Model_run_25 : decode prog_14_method_111_code 25 = .ok (.putfield 165, 3) := by decide +kernel
theorem dd_Model_run_28 : decode prog_14_method_111_code 28 = .ok (.aload_n 0, 1) := by decide +kernel
theorem dd_Model_run_29 : decode prog_14_method_111_code 29 = .ok (.iload_n 1, 1) := by decide +kernel
theorem dd_Model_run_30 : decode prog_14_method_111_code 30 = .ok (.iconst 0, 1) := by decide +kernel
theorem dd_Model_run_31 : decode prog_14_method_111_code 31 = .ok (.invokevirtual 698, 3) := by decide +kernel
theorem dd_Model_run_34 : decode prog_14_method_111_code 34 = .ok (.aload_n 0, 1) := by decide +kernel
theorem dd_Model_run_35 : decode prog_14_method_111_code 35 = .ok (.getfield 682, 3) := by decide +kernel
theorem dd_Model_run_38 : decode prog_14_method_111_code 38 = .ok (.ifCond .le 111, 3) := by decide +kernel
theorem dd_Model_run_41 : decode prog_14_method_111_code 41 = .ok (.aload_n 0, 1) := by decide +kernel
theorem dd_Model_run_42 : decode prog_14_method_111_code 42 = .ok (.getfield 673, 3) := by decide +kernel
theorem dd_Model_run_45 : decode prog_14_method_111_code 45 = .ok (.ifCond .ne 104, 3) := by decide +kernel
theorem dd_Model_run_48 : decode prog_14_method_111_code 48 = .ok (.aload_n 0, 1) := by decide +kernel
theorem dd_Model_run_49 : decode prog_14_method_111_code 49 = .ok (.aload_n 0, 1) := by decide +kernel
theorem dd_Model_run_50 : decode prog_14_method_111_code 50 = .ok (.getfield 168, 3) := by decide +kernel
theorem dd_Model_run_53 : decode prog_14_method_111_code 53 = .ok (.putfield 510, 3) := by decide +kernel
theorem dd_Model_run_56 : decode prog_14_method_111_code 56 = .ok (.aload_n 0, 1) := by decide +kernel
theorem dd_Model_run_57 : decode prog_14_method_111_code 57 = .ok (.invokevirtual 381, 3) := by decide +kernel
theorem dd_Model_run_60 : decode prog_14_method_111_code 60 = .ok (.aload_n 0, 1) := by decide +kernel
theorem dd_Model_run_61 : decode prog_14_method_111_code 61 = .ok (.getfield 267, 3) := by decide +kernel
theorem dd_Model_run_64 : decode prog_14_method_111_code 64 = .ok (.bipush 32, 2) := by decide +kernel
theorem dd_Model_run_66 : decode prog_14_method_111_code 66 = .ok (.if_icmp .ge 10, 3) := by decide +kernel
theorem dd_Model_run_69 : decode prog_14_method_111_code 69 = .ok (.aload_n 0, 1) := by decide +kernel
theorem dd_Model_run_70 : decode prog_14_method_111_code 70 = .ok (.invokevirtual 701, 3) := by decide +kernel
theorem dd_Model_run_73 : decode prog_14_method_111_code 73 = .ok (.goto (-39), 3) := by decide +kernel
theorem dd_Model_run_76 : decode prog_14_method_111_code 76 = .ok (.aload_n 0, 1) := by decide +kernel
theorem dd_Model_run_77 : decode prog_14_method_111_code 77 = .ok (.getfield 267, 3) := by decide +kernel
theorem dd_Model_run_80 : decode prog_14_method_111_code 80 = .ok (.bipush 40, 2) := by decide +kernel
theorem dd_Model_run_82 : decode prog_14_method_111_code 82 = .ok (.if_icmp .ge 10, 3) := by decide +kernel
theorem dd_Model_run_85 : decode prog_14_method_111_code 85 = .ok (.aload_n 0, 1) := by decide +kernel
theorem dd_Model_run_86 : decode prog_14_method_111_code 86 = .ok (.invokevirtual 704, 3) := by decide +kernel
theorem dd_Model_run_89 : decode prog_14_method_111_code 89 = .ok (.goto (-55), 3) := by decide +kernel
theorem dd_Model_run_92 : decode prog_14_method_111_code 92 = .ok (.aload_n 0, 1) := by decide +kernel
theorem dd_Model_run_93 : decode prog_14_method_111_code 93 = .ok (.getfield 267, 3) := by decide +kernel
theorem dd_Model_run_96 : decode prog_14_method_111_code 96 = .ok (.bipush 65, 2) := by decide +kernel
theorem dd_Model_run_98 : decode prog_14_method_111_code 98 = .ok (.if_icmp .ge 10, 3) := by decide +kernel
theorem dd_Model_run_101 : decode prog_14_method_111_code 101 = .ok (.aload_n 0, 1) := by decide +kernel
theorem dd_Model_run_102 : decode prog_14_method_111_code 102 = .ok (.invokevirtual 707, 3) := by decide +kernel
theorem dd_Model_run_105 : decode prog_14_method_111_code 105 = .ok (.goto (-71), 3) := by decide +kernel
theorem dd_Model_run_108 : decode prog_14_method_111_code 108 = .ok (.aload_n 0, 1) := by decide +kernel
theorem dd_Model_run_109 : decode prog_14_method_111_code 109 = .ok (.getfield 267, 3) := by decide +kernel
theorem dd_Model_run_112 : decode prog_14_method_111_code 112 = .ok (.sipush 208, 3) := by decide +kernel
theorem dd_Model_run_115 : decode prog_14_method_111_code 115 = .ok (.if_icmp .ge 10, 3) := by decide +kernel
theorem dd_Model_run_118 : decode prog_14_method_111_code 118 = .ok (.aload_n 0, 1) := by decide +kernel
theorem dd_Model_run_119 : decode prog_14_method_111_code 119 = .ok (.invokevirtual 710, 3) := by decide +kernel
theorem dd_Model_run_122 : decode prog_14_method_111_code 122 = .ok (.goto (-88), 3) := by decide +kernel
theorem dd_Model_run_125 : decode prog_14_method_111_code 125 = .ok (.aload_n 0, 1) := by decide +kernel
theorem dd_Model_run_126 : decode prog_14_method_111_code 126 = .ok (.getfield 267, 3) := by decide +kernel
theorem dd_Model_run_129 : decode prog_14_method_111_code 129 = .ok (.sipush 251, 3) := by decide +kernel
theorem dd_Model_run_132 : decode prog_14_method_111_code 132 = .ok (.if_icmp .ge 10, 3) := by decide +kernel
theorem dd_Model_run_135 : decode prog_14_method_111_code 135 = .ok (.aload_n 0, 1) := by decide +kernel
theorem dd_Model_run_136 : decode prog_14_method_111_code 136 = .ok (.invokevirtual 713, 3) := by decide +kernel
theorem dd_Model_run_139 : decode prog_14_method_111_code 139 = .ok (.goto (-105), 3) := by decide +kernel
theorem dd_Model_run_142 : decode prog_14_method_111_code 142 = .ok (.aload_n 0, 1) := by decide +kernel
theorem dd_Model_run_143 : decode prog_14_method_111_code 143 = .ok (.invokevirtual 716, 3) := by decide +kernel
theorem dd_Model_run_146 : decode prog_14_method_111_code 146 = .ok (.goto (-112), 3) := by decide +kernel
theorem dd_Model_run_149 : decode prog_14_method_111_code 149 = .ok (.aload_n 0, 1) := by decide +kernel
theorem dd_Model_run_150 : decode prog_14_method_111_code 150 = .ok (.aload_n 0, 1) := by decide +kernel
theorem dd_Model_run_151 : decode prog_14_method_111_code 151 = .ok (.getfield 679, 3) := by decide +kernel
theorem dd_Model_run_154 : decode prog_14_method_111_code 154 = .ok (.l2i, 1) := by decide +kernel
theorem dd_Model_run_155 : decode prog_14_method_111_code 155 = .ok (.putfield 719, 3) := by decide +kernel
theorem dd_Model_run_158 : decode prog_14_method_111_code 158 = .ok (.aload_n 0, 1) := by decide +kernel
theorem dd_Model_run_159 : decode prog_14_method_111_code 159 = .ok (.aload_n 0, 1) := by decide +kernel
theorem dd_Model_run_160 : decode prog_14_method_111_code 160 = .ok (.getfield 673, 3) := by decide +kernel
theorem dd_Model_run_163 : decode prog_14_method_111_code 163 = .ok (.ifCond .ne 10, 3) := by decide +kernel
theorem dd_Model_run_166 : decode prog_14_method_111_code 166 = .ok (.aload_n 0, 1) := by decide +kernel
theorem dd_Model_run_167 : decode prog_14_method_111_code 167 = .ok (.getfield 662, 3) := by decide +kernel
theorem dd_Model_run_170 : decode prog_14_method_111_code 170 = .ok (.goto 4, 3) := by decide +kernel
theorem dd_Model_run_173 : decode prog_14_method_111_code 173 = .ok (.iconst 0, 1) := by decide +kernel
theorem dd_Model_run_174 : decode prog_14_method_111_code 174 = .ok (.putfield 722, 3) := by decide +kernel
theorem dd_Model_run_177 : decode prog_14_method_111_code 177 = .ok (.iconst 0, 1) := by decide +kernel
theorem dd_Model_run_178 : decode prog_14_method_111_code 178 = .ok (.istore 4, 2) := by decide +kernel
theorem dd_Model_run_180 : decode prog_14_method_111_code 180 = .ok (.iload 4, 2) := by decide +kernel
theorem dd_Model_run_182 : decode prog_14_method_111_code 182 = .ok (.aload_n 0, 1) := by decide +kernel
theorem dd_Model_run_183 : decode prog_14_method_111_code 183 = .ok (.getfield 722, 3) := by decide +kernel
theorem dd_Model_run_186 : decode prog_14_method_111_code 186 = .ok (.if_icmp .ge 53, 3) := by decide +kernel
theorem dd_Model_run_189 : decode prog_14_method_111_code 189 = .ok (.aload_n 0, 1) := by decide +kernel
theorem dd_Model_run_190 : decode prog_14_method_111_code 190 = .ok (.getfield 137, 3) := by decide +kernel
theorem dd_Model_run_193 : decode prog_14_method_111_code 193 = .ok (.iload 4, 2) := by decide +kernel
theorem dd_Model_run_195 : decode prog_14_method_111_code 195 = .ok (.aload_n 0, 1) := by decide +kernel
theorem dd_Model_run_196 : decode prog_14_method_111_code 196 = .ok (.getfield 113, 3) := by decide +kernel
theorem dd_Model_run_199 : decode prog_14_method_111_code 199 = .ok (.iload 4, 2) := by decide +kernel
theorem dd_Model_run_201 : decode prog_14_method_111_code 201 = .ok (.baload, 1) := by decide +kernel
theorem dd_Model_run_202 : decode prog_14_method_111_code 202 = .ok (.ifCond .ne 13, 3) := by decide +kernel
theorem dd_Model_run_205 : decode prog_14_method_111_code 205 = .ok (.aload_n 0, 1) := by decide +kernel
theorem dd_Model_run_206 : decode prog_14_method_111_code 206 = .ok (.getfield 110, 3) := by decide +kernel
theorem dd_Model_run_209 : decode prog_14_method_111_code 209 = .ok (.iload 4, 2) := by decide +kernel
theorem dd_Model_run_211 : decode prog_14_method_111_code 211 = .ok (.laload, 1) := by decide +kernel
theorem dd_Model_run_212 : decode prog_14_method_111_code 212 = .ok (.goto 20, 3) := by decide +kernel
theorem dd_Model_run_215 : decode prog_14_method_111_code 215 = .ok (.aload_n 0, 1) := by decide +kernel
theorem dd_Model_run_216 : decode prog_14_method_111_code 216 = .ok (.getfield 110, 3) := by decide +kernel
theorem dd_Model_run_219 : decode prog_14_method_111_code 219 = .ok (.iload 4, 2) := by decide +kernel
theorem dd_Model_run_221 : decode prog_14_method_111_code 221 = .ok (.laload, 1) := by decide +kernel
theorem dd_Model_run_222 : decode prog_14_method_111_code 222 = .ok (.lconst 0, 1) := by decide +kernel
theorem dd_Model_run_223 : decode prog_14_method_111_code 223 = .ok (.lcmp, 1) := by decide +kernel
theorem dd_Model_run_224 : decode prog_14_method_111_code 224 = .ok (.ifCond .ne 7, 3) := by decide +kernel
theorem dd_Model_run_227 : decode prog_14_method_111_code 227 = .ok (.lconst 0, 1) := by decide +kernel
theorem dd_Model_run_228 : decode prog_14_method_111_code 228 = .ok (.goto 4, 3) := by decide +kernel
theorem dd_Model_run_231 : decode prog_14_method_111_code 231 = .ok (.lconst 1, 1) := by decide +kernel
theorem dd_Model_run_232 : decode prog_14_method_111_code 232 = .ok (.lastore, 1) := by decide +kernel
theorem dd_Model_run_233 : decode prog_14_method_111_code 233 = .ok (.iinc 4 1, 3) := by decide +kernel
theorem dd_Model_run_236 : decode prog_14_method_111_code 236 = .ok (.goto (-56), 3) := by decide +kernel
theorem dd_Model_run_239 : decode prog_14_method_111_code 239 = .ok (.aload_n 0, 1) := by decide +kernel
theorem dd_Model_run_240 : decode prog_14_method_111_code 240 = .ok (.iconst 0, 1) := by decide +kernel
theorem dd_Model_run_241 : decode prog_14_method_111_code 241 = .ok (.putfield 662, 3) := by decide +kernel
theorem dd_Model_run_244 : decode prog_14_method_111_code 244 = .ok (.aload_n 0, 1) := by decide +kernel
theorem dd_Model_run_245 : decode prog_14_method_111_code 245 = .ok (.iconst 0, 1) := by decide +kernel
theorem dd_Model_run_246 : decode prog_14_method_111_code 246 = .ok (.putfield 682, 3) := by decide +kernel
theorem dd_Model_run_249 : decode prog_14_method_111_code 249 = .ok (.return_, 1) := by decide +kernel
