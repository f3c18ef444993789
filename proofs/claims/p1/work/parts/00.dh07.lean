theorem dd_Checker_checkMemory_0 : decode prog_2_method_44_code 0 = .ok (.aload_n 0, 1) := by decide +kernel
theorem dd_Checker_checkMemory_1 : decode prog_2_method_44_code 1 = .ok (.getfield 27, 3) := by decide +kernel
theorem dd_Checker_checkMemory_4 : decode prog_2_method_44_code 4 = .ok (.getfield 89, 3) := by decide +kernel
theorem dd_Checker_checkMemory_7 : decode prog_2_method_44_code 7 = .ok (.getfield 54, 3) := by decide +kernel
theorem dd_Checker_checkMemory_10 : decode prog_2_method_44_code 10 = .ok (.iconst 1, 1) := by decide +kernel
theorem dd_Checker_checkMemory_11 : decode prog_2_method_44_code 11 = .ok (.if_icmp .ne 7, 3) := by decide +kernel
theorem dd_Checker_checkMemory_14 : decode prog_2_method_44_code 14 = .ok (.iconst 1, 1) := by decide +kernel
theorem dd_Checker_checkMemory_15 : decode prog_2_method_44_code 15 = .ok (.goto 4, 3) := by decide +kernel
theorem dd_Checker_checkMemory_18 : decode prog_2_method_44_code 18 = .ok (.iconst 0, 1) := by decide +kernel
theorem dd_Checker_checkMemory_19 : decode prog_2_method_44_code 19 = .ok (.invokestatic 60, 3) := by decide +kernel
theorem dd_Checker_checkMemory_22 : decode prog_2_method_44_code 22 = .ok (.iload_n 1, 1) := by decide +kernel
theorem dd_Checker_checkMemory_23 : decode prog_2_method_44_code 23 = .ok (.bipush 63, 2) := by decide +kernel
theorem dd_Checker_checkMemory_25 : decode prog_2_method_44_code 25 = .ok (.if_icmp .lt 20, 3) := by decide +kernel
theorem dd_Checker_checkMemory_28 : decode prog_2_method_44_code 28 = .ok (.iload_n 1, 1) := by decide +kernel
theorem dd_Checker_checkMemory_29 : decode prog_2_method_44_code 29 = .ok (.bipush 64, 2) := by decide +kernel
theorem dd_Checker_checkMemory_31 : decode prog_2_method_44_code 31 = .ok (.if_icmp .ne 8, 3) := by decide +kernel
theorem dd_Checker_checkMemory_34 : decode prog_2_method_44_code 34 = .ok (.aload_n 0, 1) := by decide +kernel
theorem dd_Checker_checkMemory_35 : decode prog_2_method_44_code 35 = .ok (.iconst 1, 1) := by decide +kernel
theorem dd_Checker_checkMemory_36 : decode prog_2_method_44_code 36 = .ok (.invokevirtual 238, 3) := by decide +kernel
theorem dd_Checker_checkMemory_39 : decode prog_2_method_44_code 39 = .ok (.aload_n 0, 1) := by decide +kernel
theorem dd_Checker_checkMemory_40 : decode prog_2_method_44_code 40 = .ok (.iconst 1, 1) := by decide +kernel
theorem dd_Checker_checkMemory_41 : decode prog_2_method_44_code 41 = .ok (.invokevirtual 203, 3) := by decide +kernel
theorem dd_Checker_checkMemory_44 : decode prog_2_method_44_code 44 = .ok (.return_, 1) := by decide +kernel
theorem dd_Checker_checkMemory_45 : decode prog_2_method_44_code 45 = .ok (.iload_n 2, 1) := by decide +kernel
theorem dd_Checker_checkMemory_46 : decode prog_2_method_44_code 46 = .ok (.iconst 3, 1) := by decide +kernel
theorem dd_Checker_checkMemory_47 : decode prog_2_method_44_code 47 = .ok (.if_icmp .gt 17, 3) := by decide +kernel
theorem dd_Checker_checkMemory_50 : decode prog_2_method_44_code 50 = .ok (.iconst 1, 1) := by decide +kernel
theorem dd_Checker_checkMemory_51 : decode prog_2_method_44_code 51 = .ok (.iload_n 2, 1) := by decide +kernel
theorem dd_Checker_checkMemory_52 : decode prog_2_method_44_code 52 = .ok (.ishl, 1) := by decide +kernel
theorem dd_Checker_checkMemory_53 : decode prog_2_method_44_code 53 = .ok (.iload_n 1, 1) := by decide +kernel
theorem dd_Checker_checkMemory_54 : decode prog_2_method_44_code 54 = .ok (.invokestatic 328, 3) := by decide +kernel
theorem dd_Checker_checkMemory_57 : decode prog_2_method_44_code 57 = .ok (.if_icmp .gt 7, 3) := by decide +kernel
theorem dd_Checker_checkMemory_60 : decode prog_2_method_44_code 60 = .ok (.iconst 1, 1) := by decide +kernel
theorem dd_Checker_checkMemory_61 : decode prog_2_method_44_code 61 = .ok (.goto 4, 3) := by decide +kernel
theorem dd_Checker_checkMemory_64 : decode prog_2_method_44_code 64 = .ok (.iconst 0, 1) := by decide +kernel
theorem dd_Checker_checkMemory_65 : decode prog_2_method_44_code 65 = .ok (.invokestatic 60, 3) := by decide +kernel
theorem dd_Checker_checkMemory_68 : decode prog_2_method_44_code 68 = .ok (.iload_n 1, 1) := by decide +kernel
theorem dd_Checker_checkMemory_69 : decode prog_2_method_44_code 69 = .ok (.invokestatic 331, 3) := by decide +kernel
theorem dd_Checker_checkMemory_72 : decode prog_2_method_44_code 72 = .ok (.ifCond .eq 7, 3) := by decide +kernel
theorem dd_Checker_checkMemory_75 : decode prog_2_method_44_code 75 = .ok (.iconst 2, 1) := by decide +kernel
theorem dd_Checker_checkMemory_76 : decode prog_2_method_44_code 76 = .ok (.goto 4, 3) := by decide +kernel
theorem dd_Checker_checkMemory_79 : decode prog_2_method_44_code 79 = .ok (.iconst 1, 1) := by decide +kernel
theorem dd_Checker_checkMemory_80 : decode prog_2_method_44_code 80 = .ok (.istore_n 3, 1) := by decide +kernel
theorem dd_Checker_checkMemory_81 : decode prog_2_method_44_code 81 = .ok (.iload_n 1, 1) := by decide +kernel
theorem dd_Checker_checkMemory_82 : decode prog_2_method_44_code 82 = .ok (.bipush 54, 2) := by decide +kernel
theorem dd_Checker_checkMemory_84 : decode prog_2_method_44_code 84 = .ok (.if_icmp .lt 16, 3) := by decide +kernel
theorem dd_Checker_checkMemory_87 : decode prog_2_method_44_code 87 = .ok (.aload_n 0, 1) := by decide +kernel
theorem dd_Checker_checkMemory_88 : decode prog_2_method_44_code 88 = .ok (.iload_n 3, 1) := by decide +kernel
theorem dd_Checker_checkMemory_89 : decode prog_2_method_44_code 89 = .ok (.invokevirtual 238, 3) := by decide +kernel
theorem dd_Checker_checkMemory_92 : decode prog_2_method_44_code 92 = .ok (.aload_n 0, 1) := by decide +kernel
theorem dd_Checker_checkMemory_93 : decode prog_2_method_44_code 93 = .ok (.iconst 1, 1) := by decide +kernel
theorem dd_Checker_checkMemory_94 : decode prog_2_method_44_code 94 = .ok (.invokevirtual 238, 3) := by decide +kernel
theorem dd_Checker_checkMemory_97 : decode prog_2_method_44_code 97 = .ok (.goto 13, 3) := by decide +kernel
theorem dd_Checker_checkMemory_100 : decode prog_2_method_44_code 100 = .ok (.aload_n 0, 1) := by decide +kernel
theorem dd_Checker_checkMemory_101 : decode prog_2_method_44_code 101 = .ok (.iconst 1, 1) := by decide +kernel
theorem dd_Checker_checkMemory_102 : decode prog_2_method_44_code 102 = .ok (.invokevirtual 238, 3) := by decide +kernel
theorem dd_Checker_checkMemory_105 : decode prog_2_method_44_code 105 = .ok (.aload_n 0, 1) := by decide +kernel
theorem dd_Checker_checkMemory_106 : decode prog_2_method_44_code 106 = .ok (.iload_n 3, 1) := by decide +kernel
theorem dd_Checker_checkMemory_107 : decode prog_2_method_44_code 107 = .ok (.invokevirtual 203, 3) := by decide +kernel
theorem dd_Checker_checkMemory_110 : decode prog_2_method_44_code 110 = .ok (.return_, 1) := by decide +kernel
theorem dd_Checker_checkCall_0 : decode prog_2_method_42_code 0 = .ok (.aload_n 0, 1) := by decide +kernel
theorem dd_Checker_checkCall_1 : decode prog_2_method_42_code 1 = .ok (.getfield 37, 3) := by decide +kernel
theorem dd_Checker_checkCall_4 : decode prog_2_method_42_code 4 = .ok (.getfield 101, 3) := by decide +kernel
theorem dd_Checker_checkCall_7 : decode prog_2_method_42_code 7 = .ok (.iload_n 1, 1) := by decide +kernel
theorem dd_Checker_checkCall_8 : decode prog_2_method_42_code 8 = .ok (.iaload, 1) := by decide +kernel
theorem dd_Checker_checkCall_9 : decode prog_2_method_42_code 9 = .ok (.iconst 1, 1) := by decide +kernel
theorem dd_Checker_checkCall_10 : decode prog_2_method_42_code 10 = .ok (.isub, 1) := by decide +kernel
theorem dd_Checker_checkCall_11 : decode prog_2_method_42_code 11 = .ok (.istore_n 2, 1) := by decide +kernel
theorem dd_Checker_checkCall_12 : decode prog_2_method_42_code 12 = .ok (.iload_n 2, 1) := by decide +kernel
theorem dd_Checker_checkCall_13 : decode prog_2_method_42_code 13 = .ok (.ifCond .lt 22, 3) := by decide +kernel
theorem dd_Checker_checkCall_16 : decode prog_2_method_42_code 16 = .ok (.aload_n 0, 1) := by decide +kernel
theorem dd_Checker_checkCall_17 : decode prog_2_method_42_code 17 = .ok (.aload_n 0, 1) := by decide +kernel
theorem dd_Checker_checkCall_18 : decode prog_2_method_42_code 18 = .ok (.getfield 37, 3) := by decide +kernel
theorem dd_Checker_checkCall_21 : decode prog_2_method_42_code 21 = .ok (.iload_n 1, 1) := by decide +kernel
theorem dd_Checker_checkCall_22 : decode prog_2_method_42_code 22 = .ok (.iload_n 2, 1) := by decide +kernel
theorem dd_Checker_checkCall_23 : decode prog_2_method_42_code 23 = .ok (.invokevirtual 107, 3) := by decide +kernel
theorem dd_Checker_checkCall_26 : decode prog_2_method_42_code 26 = .ok (.invokevirtual 238, 3) := by decide +kernel
theorem dd_Checker_checkCall_29 : decode prog_2_method_42_code 29 = .ok (.iinc 2 (-1), 3) := by decide +kernel
theorem dd_Checker_checkCall_32 : decode prog_2_method_42_code 32 = .ok (.goto (-20), 3) := by decide +kernel
theorem dd_Checker_checkCall_35 : decode prog_2_method_42_code 35 = .ok (.iconst 0, 1) := by decide +kernel
theorem dd_Checker_checkCall_36 : decode prog_2_method_42_code 36 = .ok (.istore_n 2, 1) := by decide +kernel
theorem dd_Checker_checkCall_37 : decode prog_2_method_42_code 37 = .ok (.iload_n 2, 1) := by decide +kernel
theorem dd_Checker_checkCall_38 : decode prog_2_method_42_code 38 = .ok (.aload_n 0, 1) := by decide +kernel
theorem dd_Checker_checkCall_39 : decode prog_2_method_42_code 39 = .ok (.getfield 37, 3) := by decide +kernel
theorem dd_Checker_checkCall_42 : decode prog_2_method_42_code 42 = .ok (.getfield 104, 3) := by decide +kernel
theorem dd_Checker_checkCall_45 : decode prog_2_method_42_code 45 = .ok (.iload_n 1, 1) := by decide +kernel
theorem dd_Checker_checkCall_46 : decode prog_2_method_42_code 46 = .ok (.iaload, 1) := by decide +kernel
theorem dd_Checker_checkCall_47 : decode prog_2_method_42_code 47 = .ok (.if_icmp .ge 22, 3) := by decide +kernel
theorem dd_Checker_checkCall_50 : decode prog_2_method_42_code 50 = .ok (.aload_n 0, 1) := by decide +kernel
theorem dd_Checker_checkCall_51 : decode prog_2_method_42_code 51 = .ok (.aload_n 0, 1) := by decide +kernel
theorem dd_Checker_checkCall_52 : decode prog_2_method_42_code 52 = .ok (.getfield 37, 3) := by decide +kernel
theorem dd_Checker_checkCall_55 : decode prog_2_method_42_code 55 = .ok (.iload_n 1, 1) := by decide +kernel
theorem dd_Checker_checkCall_56 : decode prog_2_method_42_code 56 = .ok (.iload_n 2, 1) := by decide +kernel
theorem dd_Checker_checkCall_57 : decode prog_2_method_42_code 57 = .ok (.invokevirtual 115, 3) := by decide +kernel
theorem dd_Checker_checkCall_60 : decode prog_2_method_42_code 60 = .ok (.invokevirtual 203, 3) := by decide +kernel
theorem dd_Checker_checkCall_63 : decode prog_2_method_42_code 63 = .ok (.iinc 2 1, 3) := by decide +kernel
theorem dd_Checker_checkCall_66 : decode prog_2_method_42_code 66 = .ok (.goto (-29), 3) := by decide +kernel
theorem dd_Checker_checkCall_69 : decode prog_2_method_42_code 69 = .ok (.return_, 1) := by decide +kernel
theorem dd_Checker_checkVariable_0 : decode prog_2_method_41_code 0 = .ok (.iload_n 1, 1) := by decide +kernel
theorem dd_Checker_checkVariable_1 : decode prog_2_method_41_code 1 = .ok (.ifCond .le 8, 3) := by decide +kernel
theorem dd_Checker_checkVariable_4 : decode prog_2_method_41_code 4 = .ok (.aload_n 0, 1) := by decide +kernel
theorem dd_Checker_checkVariable_5 : decode prog_2_method_41_code 5 = .ok (.iload_n 2, 1) := by decide +kernel
theorem dd_Checker_checkVariable_6 : decode prog_2_method_41_code 6 = .ok (.invokevirtual 238, 3) := by decide +kernel
theorem dd_Checker_checkVariable_9 : decode prog_2_method_41_code 9 = .ok (.iload_n 1, 1) := by decide +kernel
theorem dd_Checker_checkVariable_10 : decode prog_2_method_41_code 10 = .ok (.iconst 1, 1) := by decide +kernel
theorem dd_Checker_checkVariable_11 : decode prog_2_method_41_code 11 = .ok (.if_icmp .eq 8, 3) := by decide +kernel
theorem dd_Checker_checkVariable_14 : decode prog_2_method_41_code 14 = .ok (.aload_n 0, 1) := by decide +kernel
theorem dd_Checker_checkVariable_15 : decode prog_2_method_41_code 15 = .ok (.iload_n 2, 1) := by decide +kernel
theorem dd_Checker_checkVariable_16 : decode prog_2_method_41_code 16 = .ok (.invokevirtual 203, 3) := by decide +kernel
theorem dd_Checker_checkVariable_19 : decode prog_2_method_41_code 19 = .ok (.return_, 1) := by decide +kernel
theorem dd_Checker_checkChoice_0 : decode prog_2_method_43_code 0 = .ok (.aload_n 0, 1) := by decide +kernel
theorem dd_Checker_checkChoice_1 : decode prog_2_method_43_code 1 = .ok (.iconst 1, 1) := by decide +kernel
theorem dd_Checker_checkChoice_2 : decode prog_2_method_43_code 2 = .ok (.invokevirtual 238, 3) := by decide +kernel
theorem dd_Checker_checkChoice_5 : decode prog_2_method_43_code 5 = .ok (.aload_n 0, 1) := by decide +kernel
theorem dd_Checker_checkChoice_6 : decode prog_2_method_43_code 6 = .ok (.invokevirtual 227, 3) := by decide +kernel
theorem dd_Checker_checkChoice_9 : decode prog_2_method_43_code 9 = .ok (.istore_n 1, 1) := by decide +kernel
theorem dd_Checker_checkChoice_10 : decode prog_2_method_43_code 10 = .ok (.aload_n 0, 1) := by decide +kernel
theorem dd_Checker_checkChoice_11 : decode prog_2_method_43_code 11 = .ok (.invokevirtual 227, 3) := by decide +kernel
theorem dd_Checker_checkChoice_14 : decode prog_2_method_43_code 14 = .ok (.istore_n 2, 1) := by decide +kernel
theorem dd_Checker_checkChoice_15 : decode prog_2_method_43_code 15 = .ok (.iload_n 2, 1) := by decide +kernel
theorem dd_Checker_checkChoice_16 : decode prog_2_method_43_code 16 = .ok (.invokestatic 125, 3) := by decide +kernel
theorem dd_Checker_checkChoice_19 : decode prog_2_method_43_code 19 = .ok (.ifCond .ne 14, 3) := by decide +kernel
theorem dd_Checker_checkChoice_22 : decode prog_2_method_43_code 22 = .ok (.iload_n 1, 1) := by decide +kernel
theorem dd_Checker_checkChoice_23 : decode prog_2_method_43_code 23 = .ok (.invokestatic 125, 3) := by decide +kernel
theorem dd_Checker_checkChoice_26 : decode prog_2_method_43_code 26 = .ok (.ifCond .ne 7, 3) := by decide +kernel
theorem dd_Checker_checkChoice_29 : decode prog_2_method_43_code 29 = .ok (.iconst 1, 1) := by decide +kernel
theorem dd_Checker_checkChoice_30 : decode prog_2_method_43_code 30 = .ok (.goto 4, 3) := by decide +kernel
theorem dd_Checker_checkChoice_33 : decode prog_2_method_43_code 33 = .ok (.iconst 0, 1) := by decide +kernel
theorem dd_Checker_checkChoice_34 : decode prog_2_method_43_code 34 = .ok (.invokestatic 60, 3) := by decide +kernel
theorem dd_Checker_checkChoice_37 : decode prog_2_method_43_code 37 = .ok (.iload_n 2, 1) := by decide +kernel
theorem dd_Checker_checkChoice_38 : decode prog_2_method_43_code 38 = .ok (.iload_n 1, 1) := by decide +kernel
theorem dd_Checker_checkChoice_39 : decode prog_2_method_43_code 39 = .ok (.if_icmp .eq 11, 3) := by decide +kernel
theorem dd_Checker_checkChoice_42 : decode prog_2_method_43_code 42 = .ok (.iload_n 2, 1) := by decide +kernel
theorem dd_Checker_checkChoice_43 : decode prog_2_method_43_code 43 = .ok (.ifCond .eq 7, 3) := by decide +kernel
theorem dd_Checker_checkChoice_46 : decode prog_2_method_43_code 46 = .ok (.iload_n 1, 1) := by decide +kernel
theorem dd_Checker_checkChoice_47 : decode prog_2_method_43_code 47 = .ok (.ifCond .ne 7, 3) := by decide +kernel
theorem dd_Checker_checkChoice_50 : decode prog_2_method_43_code 50 = .ok (.iconst 1, 1) := by decide +kernel
theorem dd_Checker_checkChoice_51 : decode prog_2_method_43_code 51 = .ok (.goto 4, 3) := by decide +kernel
theorem dd_Checker_checkChoice_54 : decode prog_2_method_43_code 54 = .ok (.iconst 0, 1) := by decide +kernel
theorem dd_Checker_checkChoice_55 : decode prog_2_method_43_code 55 = .ok (.invokestatic 60, 3) := by decide +kernel
theorem dd_Checker_checkChoice_58 : decode prog_2_method_43_code 58 = .ok (.aload_n 0, 1) := by decide +kernel
theorem dd_Checker_checkChoice_59 : decode prog_2_method_43_code 59 = .ok (.iload_n 2, 1) := by decide +kernel
theorem dd_Checker_checkChoice_60 : decode prog_2_method_43_code 60 = .ok (.iload_n 1, 1) := by decide +kernel
theorem dd_Checker_checkChoice_61 : decode prog_2_method_43_code 61 = .ok (.invokestatic 323, 3) := by decide +kernel
theorem dd_Checker_checkChoice_64 : decode prog_2_method_43_code 64 = .ok (.invokevirtual 203, 3) := by decide +kernel
theorem dd_Checker_checkChoice_67 : decode prog_2_method_43_code 67 = .ok (.return_, 1) := by decide +kernel
theorem dd_Checker_checkSimple_0 : decode prog_2_method_40_code 0 = .ok (.iload_n 1, 1) := by decide +kernel
theorem dd_Checker_checkSimple_1 : decode prog_2_method_40_code 1 = .ok (.tableswitch 242 16 34 #[91, 132, 242, 242, 242, 242, 242, 242, 242, 242, 194, 202, 242, 242, 242, 242, 209, 209, 209], 91) := by decide +kernel
theorem dd_Checker_checkSimple_92 : decode prog_2_method_40_code 92 = .ok (.iload_n 2, 1) := by decide +kernel
theorem dd_Checker_checkSimple_93 : decode prog_2_method_40_code 93 = .ok (.aload_n 0, 1) := by decide +kernel
theorem dd_Checker_checkSimple_94 : decode prog_2_method_40_code 94 = .ok (.getfield 27, 3) := by decide +kernel
theorem dd_Checker_checkSimple_97 : decode prog_2_method_40_code 97 = .ok (.getfield 50, 3) := by decide +kernel
theorem dd_Checker_checkSimple_100 : decode prog_2_method_40_code 100 = .ok (.getfield 54, 3) := by decide +kernel
theorem dd_Checker_checkSimple_103 : decode prog_2_method_40_code 103 = .ok (.if_icmp .ge 7, 3) := by decide +kernel
theorem dd_Checker_checkSimple_106 : decode prog_2_method_40_code 106 = .ok (.iconst 1, 1) := by decide +kernel
theorem dd_Checker_checkSimple_107 : decode prog_2_method_40_code 107 = .ok (.goto 4, 3) := by decide +kernel
theorem dd_Checker_checkSimple_110 : decode prog_2_method_40_code 110 = .ok (.iconst 0, 1) := by decide +kernel
theorem dd_Checker_checkSimple_111 : decode prog_2_method_40_code 111 = .ok (.invokestatic 60, 3) := by decide +kernel
theorem dd_Checker_checkSimple_114 : decode prog_2_method_40_code 114 = .ok (.aload_n 0, 1) := by decide +kernel
theorem dd_Checker_checkSimple_115 : decode prog_2_method_40_code 115 = .ok (.aload_n 0, 1) := by decide +kernel
theorem dd_Checker_checkSimple_116 : decode prog_2_method_40_code 116 = .ok (.getfield 27, 3) := by decide +kernel
theorem dd_Checker_checkSimple_119 : decode prog_2_method_40_code 119 = .ok (.getfield 50, 3) := by decide +kernel
theorem dd_Checker_checkSimple_122 : decode prog_2_method_40_code 122 = .ok (.getfield 132, 3) := by decide +kernel
theorem dd_Checker_checkSimple_125 : decode prog_2_method_40_code 125 = .ok (.iload_n 2, 1) := by decide +kernel
theorem dd_Checker_checkSimple_126 : decode prog_2_method_40_code 126 = .ok (.iaload, 1) := by decide +kernel
theorem dd_Checker_checkSimple_127 : decode prog_2_method_40_code 127 = .ok (.invokevirtual 314, 3) := by decide +kernel
theorem dd_Checker_checkSimple_130 : decode prog_2_method_40_code 130 = .ok (.goto 185, 3) := by decide +kernel
theorem dd_Checker_checkSimple_133 : decode prog_2_method_40_code 133 = .ok (.aload_n 0, 1) := by decide +kernel
theorem dd_Checker_checkSimple_134 : decode prog_2_method_40_code 134 = .ok (.getfield 37, 3) := by decide +kernel
theorem dd_Checker_checkSimple_137 : decode prog_2_method_40_code 137 = .ok (.iload_n 2, 1) := by decide +kernel
theorem dd_Checker_checkSimple_138 : decode prog_2_method_40_code 138 = .ok (.bipush 96, 2) := by decide +kernel
theorem dd_Checker_checkSimple_140 : decode prog_2_method_40_code 140 = .ok (.invokevirtual 135, 3) := by decide +kernel
theorem dd_Checker_checkSimple_143 : decode prog_2_method_40_code 143 = .ok (.ifCond .eq 35, 3) := by decide +kernel
theorem dd_Checker_checkSimple_146 : decode prog_2_method_40_code 146 = .ok (.aload_n 0, 1) := by decide +kernel
theorem dd_Checker_checkSimple_147 : decode prog_2_method_40_code 147 = .ok (.getfield 27, 3) := by decide +kernel
theorem dd_Checker_checkSimple_150 : decode prog_2_method_40_code 150 = .ok (.getfield 82, 3) := by decide +kernel
theorem dd_Checker_checkSimple_153 : decode prog_2_method_40_code 153 = .ok (.getfield 54, 3) := by decide +kernel
theorem dd_Checker_checkSimple_156 : decode prog_2_method_40_code 156 = .ok (.iconst 1, 1) := by decide +kernel
theorem dd_Checker_checkSimple_157 : decode prog_2_method_40_code 157 = .ok (.if_icmp .ne 21, 3) := by decide +kernel
theorem dd_Checker_checkSimple_160 : decode prog_2_method_40_code 160 = .ok (.aload_n 0, 1) := by decide +kernel
theorem dd_Checker_checkSimple_161 : decode prog_2_method_40_code 161 = .ok (.getfield 42, 3) := by decide +kernel
theorem dd_Checker_checkSimple_164 : decode prog_2_method_40_code 164 = .ok (.getfield 212, 3) := by decide +kernel
theorem dd_Checker_checkSimple_167 : decode prog_2_method_40_code 167 = .ok (.iload_n 3, 1) := by decide +kernel
theorem dd_Checker_checkSimple_168 : decode prog_2_method_40_code 168 = .ok (.laload, 1) := by decide +kernel
theorem dd_Checker_checkSimple_169 : decode prog_2_method_40_code 169 = .ok (.lconst 0, 1) := by decide +kernel
theorem dd_Checker_checkSimple_170 : decode prog_2_method_40_code 170 = .ok (.lcmp, 1) := by decide +kernel
theorem dd_Checker_checkSimple_171 : decode prog_2_method_40_code 171 = .ok (.ifCond .ne 7, 3) := by decide +kernel
theorem dd_Checker_checkSimple_174 : decode prog_2_method_40_code 174 = .ok (.iconst 1, 1) := by decide +kernel
theorem dd_Checker_checkSimple_175 : decode prog_2_method_40_code 175 = .ok (.goto 4, 3) := by decide +kernel
theorem dd_Checker_checkSimple_178 : decode prog_2_method_40_code 178 = .ok (.iconst 0, 1) := by decide +kernel
theorem dd_Checker_checkSimple_179 : decode prog_2_method_40_code 179 = .ok (.invokestatic 60, 3) := by decide +kernel
theorem dd_Checker_checkSimple_182 : decode prog_2_method_40_code 182 = .ok (.aload_n 0, 1) := by decide +kernel
theorem dd_Checker_checkSimple_183 : decode prog_2_method_40_code 183 = .ok (.iconst 1, 1) := by decide +kernel
theorem dd_Checker_checkSimple_184 : decode prog_2_method_40_code 184 = .ok (.invokevirtual 238, 3) := by decide +kernel
theorem dd_Checker_checkSimple_187 : decode prog_2_method_40_code 187 = .ok (.aload_n 0, 1) := by decide +kernel
theorem dd_Checker_checkSimple_188 : decode prog_2_method_40_code 188 = .ok (.iload_n 2, 1) := by decide +kernel
theorem dd_Checker_checkSimple_189 : decode prog_2_method_40_code 189 = .ok (.invokevirtual 314, 3) := by decide +kernel
theorem dd_Checker_checkSimple_192 : decode prog_2_method_40_code 192 = .ok (.goto 123, 3) := by decide +kernel
theorem dd_Checker_checkSimple_195 : decode prog_2_method_40_code 195 = .ok (.aload_n 0, 1) := by decide +kernel
theorem dd_Checker_checkSimple_196 : decode prog_2_method_40_code 196 = .ok (.invokevirtual 227, 3) := by decide +kernel
theorem dd_Checker_checkSimple_199 : decode prog_2_method_40_code 199 = .ok (.pop, 1) := by decide +kernel
theorem dd_Checker_checkSimple_200 : decode prog_2_method_40_code 200 = .ok (.goto 115, 3) := by decide +kernel
theorem dd_Checker_checkSimple_203 : decode prog_2_method_40_code 203 = .ok (.aload_n 0, 1) := by decide +kernel
theorem dd_Checker_checkSimple_204 : decode prog_2_method_40_code 204 = .ok (.invokevirtual 317, 3) := by decide +kernel
theorem dd_Checker_checkSimple_207 : decode prog_2_method_40_code 207 = .ok (.goto 108, 3) := by decide +kernel
theorem dd_Checker_checkSimple_210 : decode prog_2_method_40_code 210 = .ok (.iload_n 2, 1) := by decide +kernel
theorem dd_Checker_checkSimple_211 : decode prog_2_method_40_code 211 = .ok (.aload_n 0, 1) := by decide +kernel
theorem dd_Checker_checkSimple_212 : decode prog_2_method_40_code 212 = .ok (.getfield 167, 3) := by decide +kernel
theorem dd_Checker_checkSimple_215 : decode prog_2_method_40_code 215 = .ok (.if_icmp .ge 7, 3) := by decide +kernel
theorem dd_Checker_checkSimple_218 : decode prog_2_method_40_code 218 = .ok (.iconst 1, 1) := by decide +kernel
theorem dd_Checker_checkSimple_219 : decode prog_2_method_40_code 219 = .ok (.goto 4, 3) := by decide +kernel
theorem dd_Checker_checkSimple_222 : decode prog_2_method_40_code 222 = .ok (.iconst 0, 1) := by decide +kernel
theorem dd_Checker_checkSimple_223 : decode prog_2_method_40_code 223 = .ok (.invokestatic 60, 3) := by decide +kernel
theorem dd_Checker_checkSimple_226 : decode prog_2_method_40_code 226 = .ok (.aload_n 0, 1) := by decide +kernel
theorem dd_Checker_checkSimple_227 : decode prog_2_method_40_code 227 = .ok (.iload_n 1, 1) := by decide +kernel
theorem dd_Checker_checkSimple_228 : decode prog_2_method_40_code 228 = .ok (.bipush 32, 2) := by decide +kernel
theorem dd_Checker_checkSimple_230 : decode prog_2_method_40_code 230 = .ok (.isub, 1) := by decide +kernel
theorem dd_Checker_checkSimple_231 : decode prog_2_method_40_code 231 = .ok (.aload_n 0, 1) := by decide +kernel
theorem dd_Checker_checkSimple_232 : decode prog_2_method_40_code 232 = .ok (.getfield 24, 3) := by decide +kernel
theorem dd_Checker_checkSimple_235 : decode prog_2_method_40_code 235 = .ok (.iload_n 2, 1) := by decide +kernel
theorem dd_Checker_checkSimple_236 : decode prog_2_method_40_code 236 = .ok (.iaload, 1) := by decide +kernel
theorem dd_Checker_checkSimple_237 : decode prog_2_method_40_code 237 = .ok (.invokevirtual 320, 3) := by decide +kernel
theorem dd_Checker_checkSimple_240 : decode prog_2_method_40_code 240 = .ok (.goto 75, 3) := by decide +kernel
theorem dd_Checker_checkSimple_243 : decode prog_2_method_40_code 243 = .ok (.iload_n 2, 1) := by decide +kernel
theorem dd_Checker_checkSimple_244 : decode prog_2_method_40_code 244 = .ok (.aload_n 0, 1) := by decide +kernel
theorem dd_Checker_checkSimple_245 : decode prog_2_method_40_code 245 = .ok (.getfield 27, 3) := by decide +kernel
theorem dd_Checker_checkSimple_248 : decode prog_2_method_40_code 248 = .ok (.getfield 57, 3) := by decide +kernel
theorem dd_Checker_checkSimple_251 : decode prog_2_method_40_code 251 = .ok (.getfield 54, 3) := by decide +kernel
theorem dd_Checker_checkSimple_254 : decode prog_2_method_40_code 254 = .ok (.if_icmp .ge 7, 3) := by decide +kernel
theorem dd_Checker_checkSimple_257 : decode prog_2_method_40_code 257 = .ok (.iconst 1, 1) := by decide +kernel
theorem dd_Checker_checkSimple_258 : decode prog_2_method_40_code 258 = .ok (.goto 4, 3) := by decide +kernel
theorem dd_Checker_checkSimple_261 : decode prog_2_method_40_code 261 = .ok (.iconst 0, 1) := by decide +kernel
theorem dd_Checker_checkSimple_262 : decode prog_2_method_40_code 262 = .ok (.invokestatic 60, 3) := by decide +kernel
theorem dd_Checker_checkSimple_265 : decode prog_2_method_40_code 265 = .ok (.iload_n 1, 1) := by decide +kernel
theorem dd_Checker_checkSimple_266 : decode prog_2_method_40_code 266 = .ok (.bipush 35, 2) := by decide +kernel
theorem dd_Checker_checkSimple_268 : decode prog_2_method_40_code 268 = .ok (.if_icmp .eq 19, 3) := by decide +kernel
theorem dd_Checker_checkSimple_271 : decode prog_2_method_40_code 271 = .ok (.aload_n 0, 1) := by decide +kernel
theorem dd_Checker_checkSimple_272 : decode prog_2_method_40_code 272 = .ok (.getfield 27, 3) := by decide +kernel
theorem dd_Checker_checkSimple_275 : decode prog_2_method_40_code 275 = .ok (.getfield 57, 3) := by decide +kernel
theorem dd_Checker_checkSimple_278 : decode prog_2_method_40_code 278 = .ok (.getfield 142, 3) := by decide +kernel
theorem dd_Checker_checkSimple_281 : decode prog_2_method_40_code 281 = .ok (.iload_n 2, 1) := by decide +kernel
theorem dd_Checker_checkSimple_282 : decode prog_2_method_40_code 282 = .ok (.iaload, 1) := by decide +kernel
theorem dd_Checker_checkSimple_283 : decode prog_2_method_40_code 283 = .ok (.iconst 1, 1) := by decide +kernel
theorem dd_Checker_checkSimple_284 : decode prog_2_method_40_code 284 = .ok (.if_icmp .ne 7, 3) := by decide +kernel
theorem dd_Checker_checkSimple_287 : decode prog_2_method_40_code 287 = .ok (.iconst 1, 1) := by decide +kernel
theorem dd_Checker_checkSimple_288 : decode prog_2_method_40_code 288 = .ok (.goto 4, 3) := by decide +kernel
theorem dd_Checker_checkSimple_291 : decode prog_2_method_40_code 291 = .ok (.iconst 0, 1) := by decide +kernel
theorem dd_Checker_checkSimple_292 : decode prog_2_method_40_code 292 = .ok (.invokestatic 60, 3) := by decide +kernel
theorem dd_Checker_checkSimple_295 : decode prog_2_method_40_code 295 = .ok (.aload_n 0, 1) := by decide +kernel
theorem dd_Checker_checkSimple_296 : decode prog_2_method_40_code 296 = .ok (.iload_n 1, 1) := by decide +kernel
theorem dd_Checker_checkSimple_297 : decode prog_2_method_40_code 297 = .ok (.bipush 35, 2) := by decide +kernel
theorem dd_Checker_checkSimple_299 : decode prog_2_method_40_code 299 = .ok (.isub, 1) := by decide +kernel
theorem dd_Checker_checkSimple_300 : decode prog_2_method_40_code 300 = .ok (.aload_n 0, 1) := by decide +kernel
theorem dd_Checker_checkSimple_301 : decode prog_2_method_40_code 301 = .ok (.getfield 27, 3) := by decide +kernel
theorem dd_Checker_checkSimple_304 : decode prog_2_method_40_code 304 = .ok (.getfield 57, 3) := by decide +kernel
theorem dd_Checker_checkSimple_307 : decode prog_2_method_40_code 307 = .ok (.getfield 132, 3) := by decide +kernel
theorem dd_Checker_checkSimple_310 : decode prog_2_method_40_code 310 = .ok (.iload_n 2, 1) := by decide +kernel
theorem dd_Checker_checkSimple_311 : decode prog_2_method_40_code 311 = .ok (.iaload, 1) := by decide +kernel
theorem dd_Checker_checkSimple_312 : decode prog_2_method_40_code 312 = .ok (.invokevirtual 320, 3) := by decide +kernel
theorem dd_Checker_checkSimple_315 : decode prog_2_method_40_code 315 = .ok (.return_, 1) := by decide +kernel
theorem dd_Checker_lose_0 : decode prog_2_method_18_code 0 = .ok (.aload_n 0, 1) := by decide +kernel
theorem dd_Checker_lose_1 : decode prog_2_method_18_code 1 = .ok (.aload_n 0, 1) := by decide +kernel
theorem dd_Checker_lose_2 : decode prog_2_method_18_code 2 = .ok (.getfield 224, 3) := by decide +kernel
theorem dd_Checker_lose_5 : decode prog_2_method_18_code 5 = .ok (.putfield 170, 3) := by decide +kernel
theorem dd_Checker_lose_8 : decode prog_2_method_18_code 8 = .ok (.aload_n 0, 1) := by decide +kernel
theorem dd_Checker_lose_9 : decode prog_2_method_18_code 9 = .ok (.getfield 20, 3) := by decide +kernel
theorem dd_Checker_lose_12 : decode prog_2_method_18_code 12 = .ok (.aload_n 0, 1) := by decide +kernel
theorem dd_Checker_lose_13 : decode prog_2_method_18_code 13 = .ok (.getfield 173, 3) := by decide +kernel
theorem dd_Checker_lose_16 : decode prog_2_method_18_code 16 = .ok (.iconst 1, 1) := by decide +kernel
theorem dd_Checker_lose_17 : decode prog_2_method_18_code 17 = .ok (.isub, 1) := by decide +kernel
theorem dd_Checker_lose_18 : decode prog_2_method_18_code 18 = .ok (.iconst 1, 1) := by decide +kernel
theorem dd_Checker_lose_19 : decode prog_2_method_18_code 19 = .ok (.bastore, 1) := by decide +kernel
theorem dd_Checker_lose_20 : decode prog_2_method_18_code 20 = .ok (.return_, 1) := by decide +kernel
theorem dd_Checker_parameterOf_0 : decode prog_2_method_22_code 0 = .ok (.aload_n 0, 1) := by decide +kernel
theorem dd_Checker_parameterOf_1 : decode prog_2_method_22_code 1 = .ok (.getfield 37, 3) := by decide +kernel
theorem dd_Checker_parameterOf_4 : decode prog_2_method_22_code 4 = .ok (.aload_n 0, 1) := by decide +kernel
theorem dd_Checker_parameterOf_5 : decode prog_2_method_22_code 5 = .ok (.getfield 42, 3) := by decide +kernel
theorem dd_Checker_parameterOf_8 : decode prog_2_method_22_code 8 = .ok (.getfield 176, 3) := by decide +kernel
theorem dd_Checker_parameterOf_11 : decode prog_2_method_22_code 11 = .ok (.iload_n 1, 1) := by decide +kernel
theorem dd_Checker_parameterOf_12 : decode prog_2_method_22_code 12 = .ok (.iaload, 1) := by decide +kernel
theorem dd_Checker_parameterOf_13 : decode prog_2_method_22_code 13 = .ok (.sipush 1024, 3) := by decide +kernel
theorem dd_Checker_parameterOf_16 : decode prog_2_method_22_code 16 = .ok (.isub, 1) := by decide +kernel
theorem dd_Checker_parameterOf_17 : decode prog_2_method_22_code 17 = .ok (.iload_n 2, 1) := by decide +kernel
theorem dd_Checker_parameterOf_18 : decode prog_2_method_22_code 18 = .ok (.invokevirtual 107, 3) := by decide +kernel
theorem dd_Checker_parameterOf_21 : decode prog_2_method_22_code 21 = .ok (.ireturn, 1) := by decide +kernel
theorem dd_Checker_pushParameters_0 : decode prog_2_method_33_code 0 = .ok (.iconst 0, 1) := by decide +kernel
theorem dd_Checker_pushParameters_1 : decode prog_2_method_33_code 1 = .ok (.istore_n 3, 1) := by decide +kernel
theorem dd_Checker_pushParameters_2 : decode prog_2_method_33_code 2 = .ok (.iload_n 3, 1) := by decide +kernel
theorem dd_Checker_pushParameters_3 : decode prog_2_method_33_code 3 = .ok (.iload_n 2, 1) := by decide +kernel
theorem dd_Checker_pushParameters_4 : decode prog_2_method_33_code 4 = .ok (.if_icmp .ge 19, 3) := by decide +kernel
theorem dd_Checker_pushParameters_7 : decode prog_2_method_33_code 7 = .ok (.aload_n 0, 1) := by decide +kernel
theorem dd_Checker_pushParameters_8 : decode prog_2_method_33_code 8 = .ok (.aload_n 0, 1) := by decide +kernel
theorem dd_Checker_pushParameters_9 : decode prog_2_method_33_code 9 = .ok (.iload_n 1, 1) := by decide +kernel
theorem dd_Checker_pushParameters_10 : decode prog_2_method_33_code 10 = .ok (.iload_n 3, 1) := by decide +kernel
theorem dd_Checker_pushParameters_11 : decode prog_2_method_33_code 11 = .ok (.invokevirtual 293, 3) := by decide +kernel
theorem dd_Checker_pushParameters_14 : decode prog_2_method_33_code 14 = .ok (.invokevirtual 203, 3) := by decide +kernel
theorem dd_Checker_pushParameters_17 : decode prog_2_method_33_code 17 = .ok (.iinc 3 1, 3) := by decide +kernel
theorem dd_Checker_pushParameters_20 : decode prog_2_method_33_code 20 = .ok (.goto (-18), 3) := by decide +kernel
theorem dd_Checker_pushParameters_23 : decode prog_2_method_33_code 23 = .ok (.return_, 1) := by decide +kernel
theorem dd_Checker_open_0 : decode prog_2_method_32_code 0 = .ok (.aload_n 0, 1) := by decide +kernel
theorem dd_Checker_open_1 : decode prog_2_method_32_code 1 = .ok (.getfield 42, 3) := by decide +kernel
theorem dd_Checker_open_4 : decode prog_2_method_32_code 4 = .ok (.getfield 176, 3) := by decide +kernel
theorem dd_Checker_open_7 : decode prog_2_method_32_code 7 = .ok (.iload_n 1, 1) := by decide +kernel
theorem dd_Checker_open_8 : decode prog_2_method_32_code 8 = .ok (.iaload, 1) := by decide +kernel
theorem dd_Checker_open_9 : decode prog_2_method_32_code 9 = .ok (.istore_n 2, 1) := by decide +kernel
theorem dd_Checker_open_10 : decode prog_2_method_32_code 10 = .ok (.iload_n 2, 1) := by decide +kernel
theorem dd_Checker_open_11 : decode prog_2_method_32_code 11 = .ok (.sipush 1024, 3) := by decide +kernel
theorem dd_Checker_open_14 : decode prog_2_method_32_code 14 = .ok (.if_icmp .lt 20, 3) := by decide +kernel
theorem dd_Checker_open_17 : decode prog_2_method_32_code 17 = .ok (.aload_n 0, 1) := by decide +kernel
theorem dd_Checker_open_18 : decode prog_2_method_32_code 18 = .ok (.getfield 37, 3) := by decide +kernel
theorem dd_Checker_open_21 : decode prog_2_method_32_code 21 = .ok (.iload_n 2, 1) := by decide +kernel
theorem dd_Checker_open_22 : decode prog_2_method_32_code 22 = .ok (.sipush 1024, 3) := by decide +kernel
theorem dd_Checker_open_25 : decode prog_2_method_32_code 25 = .ok (.isub, 1) := by decide +kernel
theorem dd_Checker_open_26 : decode prog_2_method_32_code 26 = .ok (.bipush 96, 2) := by decide +kernel
theorem dd_Checker_open_28 : decode prog_2_method_32_code 28 = .ok (.invokevirtual 135, 3) := by decide +kernel
theorem dd_Checker_open_31 : decode prog_2_method_32_code 31 = .ok (.goto 11, 3) := by decide +kernel
theorem dd_Checker_open_34 : decode prog_2_method_32_code 34 = .ok (.aload_n 0, 1) := by decide +kernel
theorem dd_Checker_open_35 : decode prog_2_method_32_code 35 = .ok (.getfield 37, 3) := by decide +kernel
theorem dd_Checker_open_38 : decode prog_2_method_32_code 38 = .ok (.iload_n 2, 1) := by decide +kernel
theorem dd_Checker_open_39 : decode prog_2_method_32_code 39 = .ok (.invokevirtual 121, 3) := by decide +kernel
theorem dd_Checker_open_42 : decode prog_2_method_32_code 42 = .ok (.invokestatic 60, 3) := by decide +kernel
theorem dd_Checker_open_45 : decode prog_2_method_32_code 45 = .ok (.aload_n 0, 1) := by decide +kernel
theorem dd_Checker_open_46 : decode prog_2_method_32_code 46 = .ok (.iload_n 1, 1) := by decide +kernel
theorem dd_Checker_open_47 : decode prog_2_method_32_code 47 = .ok (.invokevirtual 287, 3) := by decide +kernel
theorem dd_Checker_open_50 : decode prog_2_method_32_code 50 = .ok (.istore_n 3, 1) := by decide +kernel
theorem dd_Checker_open_51 : decode prog_2_method_32_code 51 = .ok (.iload_n 3, 1) := by decide +kernel
theorem dd_Checker_open_52 : decode prog_2_method_32_code 52 = .ok (.iconst 1, 1) := by decide +kernel
theorem dd_Checker_open_53 : decode prog_2_method_32_code 53 = .ok (.isub, 1) := by decide +kernel
theorem dd_Checker_open_54 : decode prog_2_method_32_code 54 = .ok (.istore 4, 2) := by decide +kernel
theorem dd_Checker_open_56 : decode prog_2_method_32_code 56 = .ok (.iload 4, 2) := by decide +kernel
theorem dd_Checker_open_58 : decode prog_2_method_32_code 58 = .ok (.ifCond .lt 20, 3) := by decide +kernel
theorem dd_Checker_open_61 : decode prog_2_method_32_code 61 = .ok (.aload_n 0, 1) := by decide +kernel
theorem dd_Checker_open_62 : decode prog_2_method_32_code 62 = .ok (.aload_n 0, 1) := by decide +kernel
theorem dd_Checker_open_63 : decode prog_2_method_32_code 63 = .ok (.iload_n 1, 1) := by decide +kernel
theorem dd_Checker_open_64 : decode prog_2_method_32_code 64 = .ok (.iload 4, 2) := by decide +kernel
theorem dd_Checker_open_66 : decode prog_2_method_32_code 66 = .ok (.invokevirtual 293, 3) := by decide +kernel
theorem dd_Checker_open_69 : decode prog_2_method_32_code 69 = .ok (.invokevirtual 238, 3) := by decide +kernel
theorem dd_Checker_open_72 : decode prog_2_method_32_code 72 = .ok (.iinc 4 (-1), 3) := by decide +kernel
theorem dd_Checker_open_75 : decode prog_2_method_32_code 75 = .ok (.goto (-19), 3) := by decide +kernel
theorem dd_Checker_open_78 : decode prog_2_method_32_code 78 = .ok (.aload_n 0, 1) := by decide +kernel
theorem dd_Checker_open_79 : decode prog_2_method_32_code 79 = .ok (.iload_n 1, 1) := by decide +kernel
theorem dd_Checker_open_80 : decode prog_2_method_32_code 80 = .ok (.invokevirtual 177, 3) := by decide +kernel
theorem dd_Checker_open_83 : decode prog_2_method_32_code 83 = .ok (.aload_n 0, 1) := by decide +kernel
theorem dd_Checker_open_84 : decode prog_2_method_32_code 84 = .ok (.iload_n 1, 1) := by decide +kernel
theorem dd_Checker_open_85 : decode prog_2_method_32_code 85 = .ok (.iload_n 3, 1) := by decide +kernel
theorem dd_Checker_open_86 : decode prog_2_method_32_code 86 = .ok (.invokevirtual 296, 3) := by decide +kernel
theorem dd_Checker_open_89 : decode prog_2_method_32_code 89 = .ok (.return_, 1) := by decide +kernel
theorem dd_Checker_resultOf_0 : decode prog_2_method_21_code 0 = .ok (.aload_n 0, 1) := by decide +kernel
theorem dd_Checker_resultOf_1 : decode prog_2_method_21_code 1 = .ok (.getfield 42, 3) := by decide +kernel
theorem dd_Checker_resultOf_4 : decode prog_2_method_21_code 4 = .ok (.getfield 176, 3) := by decide +kernel
theorem dd_Checker_resultOf_7 : decode prog_2_method_21_code 7 = .ok (.iload_n 1, 1) := by decide +kernel
theorem dd_Checker_resultOf_8 : decode prog_2_method_21_code 8 = .ok (.iaload, 1) := by decide +kernel
theorem dd_Checker_resultOf_9 : decode prog_2_method_21_code 9 = .ok (.istore_n 3, 1) := by decide +kernel
theorem dd_Checker_resultOf_10 : decode prog_2_method_21_code 10 = .ok (.iload_n 3, 1) := by decide +kernel
theorem dd_Checker_resultOf_11 : decode prog_2_method_21_code 11 = .ok (.sipush 1024, 3) := by decide +kernel
theorem dd_Checker_resultOf_14 : decode prog_2_method_21_code 14 = .ok (.if_icmp .ge 7, 3) := by decide +kernel
theorem dd_Checker_resultOf_17 : decode prog_2_method_21_code 17 = .ok (.iload_n 3, 1) := by decide +kernel
theorem dd_Checker_resultOf_18 : decode prog_2_method_21_code 18 = .ok (.goto 16, 3) := by decide +kernel
theorem dd_Checker_resultOf_21 : decode prog_2_method_21_code 21 = .ok (.aload_n 0, 1) := by decide +kernel
theorem dd_Checker_resultOf_22 : decode prog_2_method_21_code 22 = .ok (.getfield 37, 3) := by decide +kernel
theorem dd_Checker_resultOf_25 : decode prog_2_method_21_code 25 = .ok (.iload_n 3, 1) := by decide +kernel
theorem dd_Checker_resultOf_26 : decode prog_2_method_21_code 26 = .ok (.sipush 1024, 3) := by decide +kernel
theorem dd_Checker_resultOf_29 : decode prog_2_method_21_code 29 = .ok (.isub, 1) := by decide +kernel
theorem dd_Checker_resultOf_30 : decode prog_2_method_21_code 30 = .ok (.iload_n 2, 1) := by decide +kernel
theorem dd_Checker_resultOf_31 : decode prog_2_method_21_code 31 = .ok (.invokevirtual 115, 3) := by decide +kernel
theorem dd_Checker_resultOf_34 : decode prog_2_method_21_code 34 = .ok (.ireturn, 1) := by decide +kernel
theorem dd_Checker_popResults_0 : decode prog_2_method_34_code 0 = .ok (.aload_n 0, 1) := by decide +kernel
theorem dd_Checker_popResults_1 : decode prog_2_method_34_code 1 = .ok (.iload_n 1, 1) := by decide +kernel
theorem dd_Checker_popResults_2 : decode prog_2_method_34_code 2 = .ok (.invokevirtual 290, 3) := by decide +kernel
theorem dd_Checker_popResults_5 : decode prog_2_method_34_code 5 = .ok (.iconst 1, 1) := by decide +kernel
theorem dd_Checker_popResults_6 : decode prog_2_method_34_code 6 = .ok (.isub, 1) := by decide +kernel
theorem dd_Checker_popResults_7 : decode prog_2_method_34_code 7 = .ok (.istore_n 2, 1) := by decide +kernel
theorem dd_Checker_popResults_8 : decode prog_2_method_34_code 8 = .ok (.iload_n 2, 1) := by decide +kernel
theorem dd_Checker_popResults_9 : decode prog_2_method_34_code 9 = .ok (.ifCond .lt 19, 3) := by decide +kernel
theorem dd_Checker_popResults_12 : decode prog_2_method_34_code 12 = .ok (.aload_n 0, 1) := by decide +kernel
theorem dd_Checker_popResults_13 : decode prog_2_method_34_code 13 = .ok (.aload_n 0, 1) := by decide +kernel
theorem dd_Checker_popResults_14 : decode prog_2_method_34_code 14 = .ok (.iload_n 1, 1) := by decide +kernel
theorem dd_Checker_popResults_15 : decode prog_2_method_34_code 15 = .ok (.iload_n 2, 1) := by decide +kernel
theorem dd_Checker_popResults_16 : decode prog_2_method_34_code 16 = .ok (.invokevirtual 299, 3) := by decide +kernel
theorem dd_Checker_popResults_19 : decode prog_2_method_34_code 19 = .ok (.invokevirtual 238, 3) := by decide +kernel
theorem dd_Checker_popResults_22 : decode prog_2_method_34_code 22 = .ok (.iinc 2 (-1), 3) := by decide +kernel
theorem dd_Checker_popResults_25 : decode prog_2_method_34_code 25 = .ok (.goto (-17), 3) := by decide +kernel
theorem dd_Checker_popResults_28 : decode prog_2_method_34_code 28 = .ok (.aload_n 0, 1) := by decide +kernel
theorem dd_Checker_popResults_29 : decode prog_2_method_34_code 29 = .ok (.getfield 170, 3) := by decide +kernel
theorem dd_Checker_popResults_32 : decode prog_2_method_34_code 32 = .ok (.aload_n 0, 1) := by decide +kernel
theorem dd_Checker_popResults_33 : decode prog_2_method_34_code 33 = .ok (.getfield 224, 3) := by decide +kernel
theorem dd_Checker_popResults_36 : decode prog_2_method_34_code 36 = .ok (.if_icmp .ne 7, 3) := by decide +kernel
theorem dd_Checker_popResults_39 : decode prog_2_method_34_code 39 = .ok (.iconst 1, 1) := by decide +kernel
theorem dd_Checker_popResults_40 : decode prog_2_method_34_code 40 = .ok (.goto 4, 3) := by decide +kernel
theorem dd_Checker_popResults_43 : decode prog_2_method_34_code 43 = .ok (.iconst 0, 1) := by decide +kernel
theorem dd_Checker_popResults_44 : decode prog_2_method_34_code 44 = .ok (.invokestatic 60, 3) := by decide +kernel
theorem dd_Checker_popResults_47 : decode prog_2_method_34_code 47 = .ok (.return_, 1) := by decide +kernel
theorem dd_Checker_turn_0 : decode prog_2_method_35_code 0 = .ok (.aload_n 0, 1) := by decide +kernel
theorem dd_Checker_turn_1 : decode prog_2_method_35_code 1 = .ok (.getfield 17, 3) := by decide +kernel
theorem dd_Checker_turn_4 : decode prog_2_method_35_code 4 = .ok (.aload_n 0, 1) := by decide +kernel
theorem dd_Checker_turn_5 : decode prog_2_method_35_code 5 = .ok (.getfield 173, 3) := by decide +kernel
theorem dd_Checker_turn_8 : decode prog_2_method_35_code 8 = .ok (.iconst 1, 1) := by decide +kernel
theorem dd_Checker_turn_9 : decode prog_2_method_35_code 9 = .ok (.isub, 1) := by decide +kernel
theorem dd_Checker_turn_10 : decode prog_2_method_35_code 10 = .ok (.iaload, 1) := by decide +kernel
theorem dd_Checker_turn_11 : decode prog_2_method_35_code 11 = .ok (.istore_n 1, 1) := by decide +kernel
theorem dd_Checker_turn_12 : decode prog_2_method_35_code 12 = .ok (.aload_n 0, 1) := by decide +kernel
theorem dd_Checker_turn_13 : decode prog_2_method_35_code 13 = .ok (.iload_n 1, 1) := by decide +kernel
theorem dd_Checker_turn_14 : decode prog_2_method_35_code 14 = .ok (.invokevirtual 302, 3) := by decide +kernel
theorem dd_Checker_turn_17 : decode prog_2_method_35_code 17 = .ok (.aload_n 0, 1) := by decide +kernel
theorem dd_Checker_turn_18 : decode prog_2_method_35_code 18 = .ok (.getfield 20, 3) := by decide +kernel
theorem dd_Checker_turn_21 : decode prog_2_method_35_code 21 = .ok (.aload_n 0, 1) := by decide +kernel
theorem dd_Checker_turn_22 : decode prog_2_method_35_code 22 = .ok (.getfield 173, 3) := by decide +kernel
theorem dd_Checker_turn_25 : decode prog_2_method_35_code 25 = .ok (.iconst 1, 1) := by decide +kernel
theorem dd_Checker_turn_26 : decode prog_2_method_35_code 26 = .ok (.isub, 1) := by decide +kernel
theorem dd_Checker_turn_27 : decode prog_2_method_35_code 27 = .ok (.iconst 0, 1) := by decide +kernel
theorem dd_Checker_turn_28 : decode prog_2_method_35_code 28 = .ok (.bastore, 1) := by decide +kernel
theorem dd_Checker_turn_29 : decode prog_2_method_35_code 29 = .ok (.aload_n 0, 1) := by decide +kernel
theorem dd_Checker_turn_30 : decode prog_2_method_35_code 30 = .ok (.iload_n 1, 1) := by decide +kernel
theorem dd_Checker_turn_31 : decode prog_2_method_35_code 31 = .ok (.aload_n 0, 1) := by decide +kernel
theorem dd_Checker_turn_32 : decode prog_2_method_35_code 32 = .ok (.iload_n 1, 1) := by decide +kernel
theorem dd_Checker_turn_33 : decode prog_2_method_35_code 33 = .ok (.invokevirtual 287, 3) := by decide +kernel
theorem dd_Checker_turn_36 : decode prog_2_method_35_code 36 = .ok (.invokevirtual 296, 3) := by decide +kernel
theorem dd_Checker_turn_39 : decode prog_2_method_35_code 39 = .ok (.return_, 1) := by decide +kernel
theorem dd_Types_same_0 : decode prog_11_method_21_code 0 = .ok (.aload_n 0, 1) := by decide +kernel
theorem dd_Types_same_1 : decode prog_11_method_21_code 1 = .ok (.iload_n 1, 1) := by decide +kernel
theorem dd_Types_same_2 : decode prog_11_method_21_code 2 = .ok (.iload_n 2, 1) := by decide +kernel
theorem dd_Types_same_3 : decode prog_11_method_21_code 3 = .ok (.invokevirtual 65, 3) := by decide +kernel
theorem dd_Types_same_6 : decode prog_11_method_21_code 6 = .ok (.ifCond .eq 16, 3) := by decide +kernel
theorem dd_Types_same_9 : decode prog_11_method_21_code 9 = .ok (.aload_n 0, 1) := by decide +kernel
theorem dd_Types_same_10 : decode prog_11_method_21_code 10 = .ok (.iload_n 2, 1) := by decide +kernel
theorem dd_Types_same_11 : decode prog_11_method_21_code 11 = .ok (.iload_n 1, 1) := by decide +kernel
theorem dd_Types_same_12 : decode prog_11_method_21_code 12 = .ok (.invokevirtual 65, 3) := by decide +kernel
theorem dd_Types_same_15 : decode prog_11_method_21_code 15 = .ok (.ifCond .eq 7, 3) := by decide +kernel
theorem dd_Types_same_18 : decode prog_11_method_21_code 18 = .ok (.iconst 1, 1) := by decide +kernel
theorem dd_Types_same_19 : decode prog_11_method_21_code 19 = .ok (.goto 4, 3) := by decide +kernel
theorem dd_Types_same_22 : decode prog_11_method_21_code 22 = .ok (.iconst 0, 1) := by decide +kernel
theorem dd_Types_same_23 : decode prog_11_method_21_code 23 = .ok (.ireturn, 1) := by decide +kernel
theorem dd_Checker_needUnchanged_0 : decode prog_2_method_37_code 0 = .ok (.aload_n 0, 1) := by decide +kernel
theorem dd_Checker_needUnchanged_1 : decode prog_2_method_37_code 1 = .ok (.iload_n 1, 1) := by decide +kernel
theorem dd_Checker_needUnchanged_2 : decode prog_2_method_37_code 2 = .ok (.invokevirtual 290, 3) := by decide +kernel
theorem dd_Checker_needUnchanged_5 : decode prog_2_method_37_code 5 = .ok (.istore_n 2, 1) := by decide +kernel
theorem dd_Checker_needUnchanged_6 : decode prog_2_method_37_code 6 = .ok (.aload_n 0, 1) := by decide +kernel
theorem dd_Checker_needUnchanged_7 : decode prog_2_method_37_code 7 = .ok (.iload_n 1, 1) := by decide +kernel
theorem dd_Checker_needUnchanged_8 : decode prog_2_method_37_code 8 = .ok (.invokevirtual 287, 3) := by decide +kernel
theorem dd_Checker_needUnchanged_11 : decode prog_2_method_37_code 11 = .ok (.iload_n 2, 1) := by decide +kernel
theorem dd_Checker_needUnchanged_12 : decode prog_2_method_37_code 12 = .ok (.if_icmp .ne 7, 3) := by decide +kernel
theorem dd_Checker_needUnchanged_15 : decode prog_2_method_37_code 15 = .ok (.iconst 1, 1) := by decide +kernel
theorem dd_Checker_needUnchanged_16 : decode prog_2_method_37_code 16 = .ok (.goto 4, 3) := by decide +kernel
theorem dd_Checker_needUnchanged_19 : decode prog_2_method_37_code 19 = .ok (.iconst 0, 1) := by decide +kernel
theorem dd_Checker_needUnchanged_20 : decode prog_2_method_37_code 20 = .ok (.invokestatic 60, 3) := by decide +kernel
theorem dd_Checker_needUnchanged_23 : decode prog_2_method_37_code 23 = .ok (.iconst 0, 1) := by decide +kernel
theorem dd_Checker_needUnchanged_24 : decode prog_2_method_37_code 24 = .ok (.istore_n 3, 1) := by decide +kernel
theorem dd_Checker_needUnchanged_25 : decode prog_2_method_37_code 25 = .ok (.iload_n 3, 1) := by decide +kernel
theorem dd_Checker_needUnchanged_26 : decode prog_2_method_37_code 26 = .ok (.iload_n 2, 1) := by decide +kernel
theorem dd_Checker_needUnchanged_27 : decode prog_2_method_37_code 27 = .ok (.if_icmp .ge 31, 3) := by decide +kernel
theorem dd_Checker_needUnchanged_30 : decode prog_2_method_37_code 30 = .ok (.aload_n 0, 1) := by decide +kernel
theorem dd_Checker_needUnchanged_31 : decode prog_2_method_37_code 31 = .ok (.getfield 37, 3) := by decide +kernel
theorem dd_Checker_needUnchanged_34 : decode prog_2_method_37_code 34 = .ok (.aload_n 0, 1) := by decide +kernel
theorem dd_Checker_needUnchanged_35 : decode prog_2_method_37_code 35 = .ok (.iload_n 1, 1) := by decide +kernel
theorem dd_Checker_needUnchanged_36 : decode prog_2_method_37_code 36 = .ok (.iload_n 3, 1) := by decide +kernel
theorem dd_Checker_needUnchanged_37 : decode prog_2_method_37_code 37 = .ok (.invokevirtual 293, 3) := by decide +kernel
theorem dd_Checker_needUnchanged_40 : decode prog_2_method_37_code 40 = .ok (.aload_n 0, 1) := by decide +kernel
theorem dd_Checker_needUnchanged_41 : decode prog_2_method_37_code 41 = .ok (.iload_n 1, 1) := by decide +kernel
theorem dd_Checker_needUnchanged_42 : decode prog_2_method_37_code 42 = .ok (.iload_n 3, 1) := by decide +kernel
theorem dd_Checker_needUnchanged_43 : decode prog_2_method_37_code 43 = .ok (.invokevirtual 299, 3) := by decide +kernel
theorem dd_Checker_needUnchanged_46 : decode prog_2_method_37_code 46 = .ok (.invokevirtual 308, 3) := by decide +kernel
theorem dd_Checker_needUnchanged_49 : decode prog_2_method_37_code 49 = .ok (.invokestatic 60, 3) := by decide +kernel
theorem dd_Checker_needUnchanged_52 : decode prog_2_method_37_code 52 = .ok (.iinc 3 1, 3) := by decide +kernel
theorem dd_Checker_needUnchanged_55 : decode prog_2_method_37_code 55 = .ok (.goto (-30), 3) := by decide +kernel
theorem dd_Checker_needUnchanged_58 : decode prog_2_method_37_code 58 = .ok (.return_, 1) := by decide +kernel
theorem dd_Checker_close_0 : decode prog_2_method_36_code 0 = .ok (.aload_n 0, 1) := by decide +kernel
theorem dd_Checker_close_1 : decode prog_2_method_36_code 1 = .ok (.getfield 17, 3) := by decide +kernel
theorem dd_Checker_close_4 : decode prog_2_method_36_code 4 = .ok (.aload_n 0, 1) := by decide +kernel
theorem dd_Checker_close_5 : decode prog_2_method_36_code 5 = .ok (.getfield 173, 3) := by decide +kernel
theorem dd_Checker_close_8 : decode prog_2_method_36_code 8 = .ok (.iconst 1, 1) := by decide +kernel
theorem dd_Checker_close_9 : decode prog_2_method_36_code 9 = .ok (.isub, 1) := by decide +kernel
theorem dd_Checker_close_10 : decode prog_2_method_36_code 10 = .ok (.iaload, 1) := by decide +kernel
theorem dd_Checker_close_11 : decode prog_2_method_36_code 11 = .ok (.istore_n 1, 1) := by decide +kernel
theorem dd_Checker_close_12 : decode prog_2_method_36_code 12 = .ok (.aload_n 0, 1) := by decide +kernel
theorem dd_Checker_close_13 : decode prog_2_method_36_code 13 = .ok (.iload_n 1, 1) := by decide +kernel
theorem dd_Checker_close_14 : decode prog_2_method_36_code 14 = .ok (.invokevirtual 302, 3) := by decide +kernel
theorem dd_Checker_close_17 : decode prog_2_method_36_code 17 = .ok (.aload_n 0, 1) := by decide +kernel
theorem dd_Checker_close_18 : decode prog_2_method_36_code 18 = .ok (.getfield 42, 3) := by decide +kernel
theorem dd_Checker_close_21 : decode prog_2_method_36_code 21 = .ok (.getfield 187, 3) := by decide +kernel
theorem dd_Checker_close_24 : decode prog_2_method_36_code 24 = .ok (.iload_n 1, 1) := by decide +kernel
theorem dd_Checker_close_25 : decode prog_2_method_36_code 25 = .ok (.saload, 1) := by decide +kernel
theorem dd_Checker_close_26 : decode prog_2_method_36_code 26 = .ok (.iconst 4, 1) := by decide +kernel
theorem dd_Checker_close_27 : decode prog_2_method_36_code 27 = .ok (.if_icmp .ne 30, 3) := by decide +kernel
theorem dd_Checker_close_30 : decode prog_2_method_36_code 30 = .ok (.aload_n 0, 1) := by decide +kernel
theorem dd_Checker_close_31 : decode prog_2_method_36_code 31 = .ok (.getfield 42, 3) := by decide +kernel
theorem dd_Checker_close_34 : decode prog_2_method_36_code 34 = .ok (.getfield 187, 3) := by decide +kernel
theorem dd_Checker_close_37 : decode prog_2_method_36_code 37 = .ok (.aload_n 0, 1) := by decide +kernel
theorem dd_Checker_close_38 : decode prog_2_method_36_code 38 = .ok (.getfield 42, 3) := by decide +kernel
theorem dd_Checker_close_41 : decode prog_2_method_36_code 41 = .ok (.getfield 273, 3) := by decide +kernel
theorem dd_Checker_close_44 : decode prog_2_method_36_code 44 = .ok (.iload_n 1, 1) := by decide +kernel
theorem dd_Checker_close_45 : decode prog_2_method_36_code 45 = .ok (.iaload, 1) := by decide +kernel
theorem dd_Checker_close_46 : decode prog_2_method_36_code 46 = .ok (.saload, 1) := by decide +kernel
theorem dd_Checker_close_47 : decode prog_2_method_36_code 47 = .ok (.bipush 11, 2) := by decide +kernel
theorem dd_Checker_close_49 : decode prog_2_method_36_code 49 = .ok (.if_icmp .ne 8, 3) := by decide +kernel
theorem dd_Checker_close_52 : decode prog_2_method_36_code 52 = .ok (.aload_n 0, 1) := by decide +kernel
theorem dd_Checker_close_53 : decode prog_2_method_36_code 53 = .ok (.iload_n 1, 1) := by decide +kernel
theorem dd_Checker_close_54 : decode prog_2_method_36_code 54 = .ok (.invokevirtual 305, 3) := by decide +kernel
theorem dd_Checker_close_57 : decode prog_2_method_36_code 57 = .ok (.aload_n 0, 1) := by decide +kernel
theorem dd_Checker_close_58 : decode prog_2_method_36_code 58 = .ok (.dup, 1) := by decide +kernel
theorem dd_Checker_close_59 : decode prog_2_method_36_code 59 = .ok (.getfield 173, 3) := by decide +kernel
theorem dd_Checker_close_62 : decode prog_2_method_36_code 62 = .ok (.iconst 1, 1) := by decide +kernel
theorem dd_Checker_close_63 : decode prog_2_method_36_code 63 = .ok (.isub, 1) := by decide +kernel
theorem dd_Checker_close_64 : decode prog_2_method_36_code 64 = .ok (.putfield 173, 3) := by decide +kernel
theorem dd_Checker_close_67 : decode prog_2_method_36_code 67 = .ok (.aload_n 0, 1) := by decide +kernel
theorem dd_Checker_close_68 : decode prog_2_method_36_code 68 = .ok (.getfield 173, 3) := by decide +kernel
theorem dd_Checker_close_71 : decode prog_2_method_36_code 71 = .ok (.ifCond .le 53, 3) := by decide +kernel
theorem dd_Checker_close_74 : decode prog_2_method_36_code 74 = .ok (.aload_n 0, 1) := by decide +kernel
theorem dd_Checker_close_75 : decode prog_2_method_36_code 75 = .ok (.aload_n 0, 1) := by decide +kernel
theorem dd_Checker_close_76 : decode prog_2_method_36_code 76 = .ok (.getfield 42, 3) := by decide +kernel
theorem dd_Checker_close_79 : decode prog_2_method_36_code 79 = .ok (.getfield 285, 3) := by decide +kernel
theorem dd_Checker_close_82 : decode prog_2_method_36_code 82 = .ok (.aload_n 0, 1) := by decide +kernel
theorem dd_Checker_close_83 : decode prog_2_method_36_code 83 = .ok (.getfield 17, 3) := by decide +kernel
theorem dd_Checker_close_86 : decode prog_2_method_36_code 86 = .ok (.aload_n 0, 1) := by decide +kernel
theorem dd_Checker_close_87 : decode prog_2_method_36_code 87 = .ok (.getfield 173, 3) := by decide +kernel
theorem dd_Checker_close_90 : decode prog_2_method_36_code 90 = .ok (.iconst 1, 1) := by decide +kernel
theorem dd_Checker_close_91 : decode prog_2_method_36_code 91 = .ok (.isub, 1) := by decide +kernel
theorem dd_Checker_close_92 : decode prog_2_method_36_code 92 = .ok (.iaload, 1) := by decide +kernel
theorem dd_Checker_close_93 : decode prog_2_method_36_code 93 = .ok (.iaload, 1) := by decide +kernel
theorem dd_Checker_close_94 : decode prog_2_method_36_code 94 = .ok (.putfield 224, 3) := by decide +kernel
theorem dd_Checker_close_97 : decode prog_2_method_36_code 97 = .ok (.iconst 0, 1) := by decide +kernel
theorem dd_Checker_close_98 : decode prog_2_method_36_code 98 = .ok (.istore_n 2, 1) := by decide +kernel
theorem dd_Checker_close_99 : decode prog_2_method_36_code 99 = .ok (.iload_n 2, 1) := by decide +kernel
theorem dd_Checker_close_100 : decode prog_2_method_36_code 100 = .ok (.aload_n 0, 1) := by decide +kernel
theorem dd_Checker_close_101 : decode prog_2_method_36_code 101 = .ok (.iload_n 1, 1) := by decide +kernel
theorem dd_Checker_close_102 : decode prog_2_method_36_code 102 = .ok (.invokevirtual 290, 3) := by decide +kernel
theorem dd_Checker_close_105 : decode prog_2_method_36_code 105 = .ok (.if_icmp .ge 19, 3) := by decide +kernel
theorem dd_Checker_close_108 : decode prog_2_method_36_code 108 = .ok (.aload_n 0, 1) := by decide +kernel
theorem dd_Checker_close_109 : decode prog_2_method_36_code 109 = .ok (.aload_n 0, 1) := by decide +kernel
theorem dd_Checker_close_110 : decode prog_2_method_36_code 110 = .ok (.iload_n 1, 1) := by decide +kernel
theorem dd_Checker_close_111 : decode prog_2_method_36_code 111 = .ok (.iload_n 2, 1) := by decide +kernel
theorem dd_Checker_close_112 : decode prog_2_method_36_code 112 = .ok (.invokevirtual 299, 3) := by decide +kernel
theorem dd_Checker_close_115 : decode prog_2_method_36_code 115 = .ok (.invokevirtual 203, 3) := by decide +kernel
theorem dd_Checker_close_118 : decode prog_2_method_36_code 118 = .ok (.iinc 2 1, 3) := by decide +kernel
theorem dd_Checker_close_121 : decode prog_2_method_36_code 121 = .ok (.goto (-22), 3) := by decide +kernel
theorem dd_Checker_close_124 : decode prog_2_method_36_code 124 = .ok (.return_, 1) := by decide +kernel
theorem dd_Arrays_fill_AIIII_0 : decode prog_31_method_104_code 0 = .ok (.aload_n 0, 1) := by decide +kernel
theorem dd_Arrays_fill_AIIII_1 : decode prog_31_method_104_code 1 = .ok (.arraylength, 1) := by decide +kernel
theorem dd_Arrays_fill_AIIII_2 : decode prog_31_method_104_code 2 = .ok (.iload_n 1, 1) := by decide +kernel
theorem dd_Arrays_fill_AIIII_3 : decode prog_31_method_104_code 3 = .ok (.iload_n 2, 1) := by decide +kernel
theorem dd_Arrays_fill_AIIII_4 : decode prog_31_method_104_code 4 = .ok (.invokestatic 13, 3) := by decide +kernel
theorem dd_Arrays_fill_AIIII_7 : decode prog_31_method_104_code 7 = .ok (.iload_n 1, 1) := by decide +kernel
theorem dd_Arrays_fill_AIIII_8 : decode prog_31_method_104_code 8 = .ok (.istore 4, 2) := by decide +kernel
theorem dd_Arrays_fill_AIIII_10 : decode prog_31_method_104_code 10 = .ok (.iload 4, 2) := by decide +kernel
theorem dd_Arrays_fill_AIIII_12 : decode prog_31_method_104_code 12 = .ok (.iload_n 2, 1) := by decide +kernel
theorem dd_Arrays_fill_AIIII_13 : decode prog_31_method_104_code 13 = .ok (.if_icmp .ge 14, 3) := by decide +kernel
theorem dd_Arrays_fill_AIIII_16 : decode prog_31_method_104_code 16 = .ok (.aload_n 0, 1) := by decide +kernel
theorem dd_Arrays_fill_AIIII_17 : decode prog_31_method_104_code 17 = .ok (.iload 4, 2) := by decide +kernel
theorem dd_Arrays_fill_AIIII_19 : decode prog_31_method_104_code 19 = .ok (.iload_n 3, 1) := by decide +kernel
theorem dd_Arrays_fill_AIIII_20 : decode prog_31_method_104_code 20 = .ok (.iastore, 1) := by decide +kernel
theorem dd_Arrays_fill_AIIII_21 : decode prog_31_method_104_code 21 = .ok (.iinc 4 1, 3) := by decide +kernel
theorem dd_Arrays_fill_AIIII_24 : decode prog_31_method_104_code 24 = .ok (.goto (-14), 3) := by decide +kernel
theorem dd_Arrays_fill_AIIII_27 : decode prog_31_method_104_code 27 = .ok (.return_, 1) := by decide +kernel
theorem dd_Checker_declare_0 : decode prog_2_method_30_code 0 = .ok (.aload_n 0, 1) := by decide +kernel
theorem dd_Checker_declare_1 : decode prog_2_method_30_code 1 = .ok (.getfield 37, 3) := by decide +kernel
theorem dd_Checker_declare_4 : decode prog_2_method_30_code 4 = .ok (.iload_n 2, 1) := by decide +kernel
theorem dd_Checker_declare_5 : decode prog_2_method_30_code 5 = .ok (.invokevirtual 121, 3) := by decide +kernel
theorem dd_Checker_declare_8 : decode prog_2_method_30_code 8 = .ok (.ifCond .eq 14, 3) := by decide +kernel
theorem dd_Checker_declare_11 : decode prog_2_method_30_code 11 = .ok (.iload_n 2, 1) := by decide +kernel
theorem dd_Checker_declare_12 : decode prog_2_method_30_code 12 = .ok (.invokestatic 276, 3) := by decide +kernel
theorem dd_Checker_declare_15 : decode prog_2_method_30_code 15 = .ok (.ifCond .eq 7, 3) := by decide +kernel
theorem dd_Checker_declare_18 : decode prog_2_method_30_code 18 = .ok (.iconst 1, 1) := by decide +kernel
theorem dd_Checker_declare_19 : decode prog_2_method_30_code 19 = .ok (.goto 4, 3) := by decide +kernel
theorem dd_Checker_declare_22 : decode prog_2_method_30_code 22 = .ok (.iconst 0, 1) := by decide +kernel
theorem dd_Checker_declare_23 : decode prog_2_method_30_code 23 = .ok (.invokestatic 60, 3) := by decide +kernel
theorem dd_Checker_declare_26 : decode prog_2_method_30_code 26 = .ok (.iload_n 1, 1) := by decide +kernel
theorem dd_Checker_declare_27 : decode prog_2_method_30_code 27 = .ok (.sipush 200, 3) := by decide +kernel
theorem dd_Checker_declare_30 : decode prog_2_method_30_code 30 = .ok (.aload_n 0, 1) := by decide +kernel
theorem dd_Checker_declare_31 : decode prog_2_method_30_code 31 = .ok (.getfield 167, 3) := by decide +kernel
theorem dd_Checker_declare_34 : decode prog_2_method_30_code 34 = .ok (.isub, 1) := by decide +kernel
theorem dd_Checker_declare_35 : decode prog_2_method_30_code 35 = .ok (.if_icmp .gt 7, 3) := by decide +kernel
theorem dd_Checker_declare_38 : decode prog_2_method_30_code 38 = .ok (.iconst 1, 1) := by decide +kernel
theorem dd_Checker_declare_39 : decode prog_2_method_30_code 39 = .ok (.goto 4, 3) := by decide +kernel
theorem dd_Checker_declare_42 : decode prog_2_method_30_code 42 = .ok (.iconst 0, 1) := by decide +kernel
theorem dd_Checker_declare_43 : decode prog_2_method_30_code 43 = .ok (.invokestatic 60, 3) := by decide +kernel
theorem dd_Checker_declare_46 : decode prog_2_method_30_code 46 = .ok (.aload_n 0, 1) := by decide +kernel
theorem dd_Checker_declare_47 : decode prog_2_method_30_code 47 = .ok (.getfield 24, 3) := by decide +kernel
theorem dd_Checker_declare_50 : decode prog_2_method_30_code 50 = .ok (.aload_n 0, 1) := by decide +kernel
theorem dd_Checker_declare_51 : decode prog_2_method_30_code 51 = .ok (.getfield 167, 3) := by decide +kernel
theorem dd_Checker_declare_54 : decode prog_2_method_30_code 54 = .ok (.aload_n 0, 1) := by decide +kernel
theorem dd_Checker_declare_55 : decode prog_2_method_30_code 55 = .ok (.getfield 167, 3) := by decide +kernel
theorem dd_Checker_declare_58 : decode prog_2_method_30_code 58 = .ok (.iload_n 1, 1) := by decide +kernel
theorem dd_Checker_declare_59 : decode prog_2_method_30_code 59 = .ok (.iadd, 1) := by decide +kernel
theorem dd_Checker_declare_60 : decode prog_2_method_30_code 60 = .ok (.iload_n 2, 1) := by decide +kernel
theorem dd_Checker_declare_61 : decode prog_2_method_30_code 61 = .ok (.invokestatic 279, 3) := by decide +kernel
theorem dd_Checker_declare_64 : decode prog_2_method_30_code 64 = .ok (.aload_n 0, 1) := by decide +kernel
theorem dd_Checker_declare_65 : decode prog_2_method_30_code 65 = .ok (.dup, 1) := by decide +kernel
theorem dd_Checker_declare_66 : decode prog_2_method_30_code 66 = .ok (.getfield 167, 3) := by decide +kernel
theorem dd_Checker_declare_69 : decode prog_2_method_30_code 69 = .ok (.iload_n 1, 1) := by decide +kernel
theorem dd_Checker_declare_70 : decode prog_2_method_30_code 70 = .ok (.iadd, 1) := by decide +kernel
theorem dd_Checker_declare_71 : decode prog_2_method_30_code 71 = .ok (.putfield 167, 3) := by decide +kernel
theorem dd_Checker_declare_74 : decode prog_2_method_30_code 74 = .ok (.return_, 1) := by decide +kernel
theorem dd_Checker_needThere_0 : decode prog_2_method_39_code 0 = .ok (.iconst 0, 1) := by decide +kernel
theorem dd_Checker_needThere_1 : decode prog_2_method_39_code 1 = .ok (.istore_n 3, 1) := by decide +kernel
theorem dd_Checker_needThere_2 : decode prog_2_method_39_code 2 = .ok (.iload_n 3, 1) := by decide +kernel
theorem dd_Checker_needThere_3 : decode prog_2_method_39_code 3 = .ok (.iload_n 2, 1) := by decide +kernel
theorem dd_Checker_needThere_4 : decode prog_2_method_39_code 4 = .ok (.if_icmp .ge 65, 3) := by decide +kernel
theorem dd_Checker_needThere_7 : decode prog_2_method_39_code 7 = .ok (.aload_n 0, 1) := by decide +kernel
theorem dd_Checker_needThere_8 : decode prog_2_method_39_code 8 = .ok (.getfield 170, 3) := by decide +kernel
theorem dd_Checker_needThere_11 : decode prog_2_method_39_code 11 = .ok (.iload_n 2, 1) := by decide +kernel
theorem dd_Checker_needThere_12 : decode prog_2_method_39_code 12 = .ok (.isub, 1) := by decide +kernel
theorem dd_Checker_needThere_13 : decode prog_2_method_39_code 13 = .ok (.iload_n 3, 1) := by decide +kernel
theorem dd_Checker_needThere_14 : decode prog_2_method_39_code 14 = .ok (.iadd, 1) := by decide +kernel
theorem dd_Checker_needThere_15 : decode prog_2_method_39_code 15 = .ok (.istore 4, 2) := by decide +kernel
theorem dd_Checker_needThere_17 : decode prog_2_method_39_code 17 = .ok (.iload 4, 2) := by decide +kernel
theorem dd_Checker_needThere_19 : decode prog_2_method_39_code 19 = .ok (.aload_n 0, 1) := by decide +kernel
theorem dd_Checker_needThere_20 : decode prog_2_method_39_code 20 = .ok (.getfield 224, 3) := by decide +kernel
theorem dd_Checker_needThere_23 : decode prog_2_method_39_code 23 = .ok (.if_icmp .lt 26, 3) := by decide +kernel
theorem dd_Checker_needThere_26 : decode prog_2_method_39_code 26 = .ok (.aload_n 0, 1) := by decide +kernel
theorem dd_Checker_needThere_27 : decode prog_2_method_39_code 27 = .ok (.getfield 37, 3) := by decide +kernel
theorem dd_Checker_needThere_30 : decode prog_2_method_39_code 30 = .ok (.aload_n 0, 1) := by decide +kernel
theorem dd_Checker_needThere_31 : decode prog_2_method_39_code 31 = .ok (.getfield 11, 3) := by decide +kernel
theorem dd_Checker_needThere_34 : decode prog_2_method_39_code 34 = .ok (.iload 4, 2) := by decide +kernel
theorem dd_Checker_needThere_36 : decode prog_2_method_39_code 36 = .ok (.iaload, 1) := by decide +kernel
theorem dd_Checker_needThere_37 : decode prog_2_method_39_code 37 = .ok (.aload_n 0, 1) := by decide +kernel
theorem dd_Checker_needThere_38 : decode prog_2_method_39_code 38 = .ok (.iload_n 1, 1) := by decide +kernel
theorem dd_Checker_needThere_39 : decode prog_2_method_39_code 39 = .ok (.iload_n 3, 1) := by decide +kernel
theorem dd_Checker_needThere_40 : decode prog_2_method_39_code 40 = .ok (.invokevirtual 235, 3) := by decide +kernel
theorem dd_Checker_needThere_43 : decode prog_2_method_39_code 43 = .ok (.invokevirtual 148, 3) := by decide +kernel
theorem dd_Checker_needThere_46 : decode prog_2_method_39_code 46 = .ok (.goto 14, 3) := by decide +kernel
theorem dd_Checker_needThere_49 : decode prog_2_method_39_code 49 = .ok (.aload_n 0, 1) := by decide +kernel
theorem dd_Checker_needThere_50 : decode prog_2_method_39_code 50 = .ok (.getfield 20, 3) := by decide +kernel
theorem dd_Checker_needThere_53 : decode prog_2_method_39_code 53 = .ok (.aload_n 0, 1) := by decide +kernel
theorem dd_Checker_needThere_54 : decode prog_2_method_39_code 54 = .ok (.getfield 173, 3) := by decide +kernel
theorem dd_Checker_needThere_57 : decode prog_2_method_39_code 57 = .ok (.iconst 1, 1) := by decide +kernel
theorem dd_Checker_needThere_58 : decode prog_2_method_39_code 58 = .ok (.isub, 1) := by decide +kernel
theorem dd_Checker_needThere_59 : decode prog_2_method_39_code 59 = .ok (.baload, 1) := by decide +kernel
theorem dd_Checker_needThere_60 : decode prog_2_method_39_code 60 = .ok (.invokestatic 60, 3) := by decide +kernel
theorem dd_Checker_needThere_63 : decode prog_2_method_39_code 63 = .ok (.iinc 3 1, 3) := by decide +kernel
theorem dd_Checker_needThere_66 : decode prog_2_method_39_code 66 = .ok (.goto (-64), 3) := by decide +kernel
theorem dd_Checker_needThere_69 : decode prog_2_method_39_code 69 = .ok (.return_, 1) := by decide +kernel
theorem dd_Checker_checkWays_0 : decode prog_2_method_38_code 0 = .ok (.aload_n 0, 1) := by decide +kernel
theorem dd_Checker_checkWays_1 : decode prog_2_method_38_code 1 = .ok (.iconst 1, 1) := by decide +kernel
theorem dd_Checker_checkWays_2 : decode prog_2_method_38_code 2 = .ok (.invokevirtual 238, 3) := by decide +kernel
theorem dd_Checker_checkWays_5 : decode prog_2_method_38_code 5 = .ok (.aload_n 0, 1) := by decide +kernel
theorem dd_Checker_checkWays_6 : decode prog_2_method_38_code 6 = .ok (.aload_n 0, 1) := by decide +kernel
theorem dd_Checker_checkWays_7 : decode prog_2_method_38_code 7 = .ok (.aload_n 0, 1) := by decide +kernel
theorem dd_Checker_checkWays_8 : decode prog_2_method_38_code 8 = .ok (.getfield 42, 3) := by decide +kernel
theorem dd_Checker_checkWays_11 : decode prog_2_method_38_code 11 = .ok (.getfield 162, 3) := by decide +kernel
theorem dd_Checker_checkWays_14 : decode prog_2_method_38_code 14 = .ok (.iload_n 1, 1) := by decide +kernel
theorem dd_Checker_checkWays_15 : decode prog_2_method_38_code 15 = .ok (.iload_n 2, 1) := by decide +kernel
theorem dd_Checker_checkWays_16 : decode prog_2_method_38_code 16 = .ok (.iadd, 1) := by decide +kernel
theorem dd_Checker_checkWays_17 : decode prog_2_method_38_code 17 = .ok (.iaload, 1) := by decide +kernel
theorem dd_Checker_checkWays_18 : decode prog_2_method_38_code 18 = .ok (.invokevirtual 270, 3) := by decide +kernel
theorem dd_Checker_checkWays_21 : decode prog_2_method_38_code 21 = .ok (.invokevirtual 258, 3) := by decide +kernel
theorem dd_Checker_checkWays_24 : decode prog_2_method_38_code 24 = .ok (.istore_n 3, 1) := by decide +kernel
theorem dd_Checker_checkWays_25 : decode prog_2_method_38_code 25 = .ok (.iload_n 1, 1) := by decide +kernel
theorem dd_Checker_checkWays_26 : decode prog_2_method_38_code 26 = .ok (.istore 4, 2) := by decide +kernel
theorem dd_Checker_checkWays_28 : decode prog_2_method_38_code 28 = .ok (.iload 4, 2) := by decide +kernel
theorem dd_Checker_checkWays_30 : decode prog_2_method_38_code 30 = .ok (.iload_n 1, 1) := by decide +kernel
theorem dd_Checker_checkWays_31 : decode prog_2_method_38_code 31 = .ok (.iload_n 2, 1) := by decide +kernel
theorem dd_Checker_checkWays_32 : decode prog_2_method_38_code 32 = .ok (.iadd, 1) := by decide +kernel
theorem dd_Checker_checkWays_33 : decode prog_2_method_38_code 33 = .ok (.if_icmp .gt 62, 3) := by decide +kernel
theorem dd_Checker_checkWays_36 : decode prog_2_method_38_code 36 = .ok (.aload_n 0, 1) := by decide +kernel
theorem dd_Checker_checkWays_37 : decode prog_2_method_38_code 37 = .ok (.aload_n 0, 1) := by decide +kernel
theorem dd_Checker_checkWays_38 : decode prog_2_method_38_code 38 = .ok (.getfield 42, 3) := by decide +kernel
theorem dd_Checker_checkWays_41 : decode prog_2_method_38_code 41 = .ok (.getfield 162, 3) := by decide +kernel
theorem dd_Checker_checkWays_44 : decode prog_2_method_38_code 44 = .ok (.iload 4, 2) := by decide +kernel
theorem dd_Checker_checkWays_46 : decode prog_2_method_38_code 46 = .ok (.iaload, 1) := by decide +kernel
theorem dd_Checker_checkWays_47 : decode prog_2_method_38_code 47 = .ok (.invokevirtual 270, 3) := by decide +kernel
theorem dd_Checker_checkWays_50 : decode prog_2_method_38_code 50 = .ok (.istore 5, 2) := by decide +kernel
theorem dd_Checker_checkWays_52 : decode prog_2_method_38_code 52 = .ok (.aload_n 0, 1) := by decide +kernel
theorem dd_Checker_checkWays_53 : decode prog_2_method_38_code 53 = .ok (.getfield 42, 3) := by decide +kernel
theorem dd_Checker_checkWays_56 : decode prog_2_method_38_code 56 = .ok (.getfield 162, 3) := by decide +kernel
theorem dd_Checker_checkWays_59 : decode prog_2_method_38_code 59 = .ok (.iload 4, 2) := by decide +kernel
theorem dd_Checker_checkWays_61 : decode prog_2_method_38_code 61 = .ok (.iload 5, 2) := by decide +kernel
theorem dd_Checker_checkWays_63 : decode prog_2_method_38_code 63 = .ok (.iastore, 1) := by decide +kernel
theorem dd_Checker_checkWays_64 : decode prog_2_method_38_code 64 = .ok (.aload_n 0, 1) := by decide +kernel
theorem dd_Checker_checkWays_65 : decode prog_2_method_38_code 65 = .ok (.iload 5, 2) := by decide +kernel
theorem dd_Checker_checkWays_67 : decode prog_2_method_38_code 67 = .ok (.invokevirtual 258, 3) := by decide +kernel
theorem dd_Checker_checkWays_70 : decode prog_2_method_38_code 70 = .ok (.iload_n 3, 1) := by decide +kernel
theorem dd_Checker_checkWays_71 : decode prog_2_method_38_code 71 = .ok (.if_icmp .ne 7, 3) := by decide +kernel
theorem dd_Checker_checkWays_74 : decode prog_2_method_38_code 74 = .ok (.iconst 1, 1) := by decide +kernel
theorem dd_Checker_checkWays_75 : decode prog_2_method_38_code 75 = .ok (.goto 4, 3) := by decide +kernel
theorem dd_Checker_checkWays_78 : decode prog_2_method_38_code 78 = .ok (.iconst 0, 1) := by decide +kernel
theorem dd_Checker_checkWays_79 : decode prog_2_method_38_code 79 = .ok (.invokestatic 60, 3) := by decide +kernel
theorem dd_Checker_checkWays_82 : decode prog_2_method_38_code 82 = .ok (.aload_n 0, 1) := by decide +kernel
theorem dd_Checker_checkWays_83 : decode prog_2_method_38_code 83 = .ok (.iload 5, 2) := by decide +kernel
theorem dd_Checker_checkWays_85 : decode prog_2_method_38_code 85 = .ok (.iload_n 3, 1) := by decide +kernel
theorem dd_Checker_checkWays_86 : decode prog_2_method_38_code 86 = .ok (.invokevirtual 311, 3) := by decide +kernel
theorem dd_Checker_checkWays_89 : decode prog_2_method_38_code 89 = .ok (.iinc 4 1, 3) := by decide +kernel
theorem dd_Checker_checkWays_92 : decode prog_2_method_38_code 92 = .ok (.goto (-64), 3) := by decide +kernel
theorem dd_Checker_checkWays_95 : decode prog_2_method_38_code 95 = .ok (.aload_n 0, 1) := by decide +kernel
theorem dd_Checker_checkWays_96 : decode prog_2_method_38_code 96 = .ok (.invokevirtual 240, 3) := by decide +kernel
theorem dd_Checker_checkWays_99 : decode prog_2_method_38_code 99 = .ok (.return_, 1) := by decide +kernel
theorem dd_Checker_checkControl_0 : decode prog_2_method_28_code 0 = .ok (.iload_n 1, 1) := by decide +kernel
theorem dd_Checker_checkControl_1 : decode prog_2_method_28_code 1 = .ok (.tableswitch 257 0 15 #[79, 257, 112, 112, 120, 133, 257, 140, 86, 257, 257, 140, 147, 170, 204, 230], 79) := by decide +kernel
theorem dd_Checker_checkControl_80 : decode prog_2_method_28_code 80 = .ok (.aload_n 0, 1) := by decide +kernel
theorem dd_Checker_checkControl_81 : decode prog_2_method_28_code 81 = .ok (.invokevirtual 240, 3) := by decide +kernel
theorem dd_Checker_checkControl_84 : decode prog_2_method_28_code 84 = .ok (.goto 174, 3) := by decide +kernel
theorem dd_Checker_checkControl_87 : decode prog_2_method_28_code 87 = .ok (.aload_n 0, 1) := by decide +kernel
theorem dd_Checker_checkControl_88 : decode prog_2_method_28_code 88 = .ok (.aload_n 0, 1) := by decide +kernel
theorem dd_Checker_checkControl_89 : decode prog_2_method_28_code 89 = .ok (.getfield 42, 3) := by decide +kernel
theorem dd_Checker_checkControl_92 : decode prog_2_method_28_code 92 = .ok (.getfield 176, 3) := by decide +kernel
theorem dd_Checker_checkControl_95 : decode prog_2_method_28_code 95 = .ok (.iload_n 2, 1) := by decide +kernel
theorem dd_Checker_checkControl_96 : decode prog_2_method_28_code 96 = .ok (.iaload, 1) := by decide +kernel
theorem dd_Checker_checkControl_97 : decode prog_2_method_28_code 97 = .ok (.aload_n 0, 1) := by decide +kernel
theorem dd_Checker_checkControl_98 : decode prog_2_method_28_code 98 = .ok (.getfield 42, 3) := by decide +kernel
theorem dd_Checker_checkControl_101 : decode prog_2_method_28_code 101 = .ok (.getfield 212, 3) := by decide +kernel
theorem dd_Checker_checkControl_104 : decode prog_2_method_28_code 104 = .ok (.iload_n 2, 1) := by decide +kernel
theorem dd_Checker_checkControl_105 : decode prog_2_method_28_code 105 = .ok (.laload, 1) := by decide +kernel
theorem dd_Checker_checkControl_106 : decode prog_2_method_28_code 106 = .ok (.l2i, 1) := by decide +kernel
theorem dd_Checker_checkControl_107 : decode prog_2_method_28_code 107 = .ok (.invokevirtual 243, 3) := by decide +kernel
theorem dd_Checker_checkControl_110 : decode prog_2_method_28_code 110 = .ok (.goto 148, 3) := by decide +kernel
theorem dd_Checker_checkControl_113 : decode prog_2_method_28_code 113 = .ok (.aload_n 0, 1) := by decide +kernel
theorem dd_Checker_checkControl_114 : decode prog_2_method_28_code 114 = .ok (.iload_n 2, 1) := by decide +kernel
theorem dd_Checker_checkControl_115 : decode prog_2_method_28_code 115 = .ok (.invokevirtual 246, 3) := by decide +kernel
theorem dd_Checker_checkControl_118 : decode prog_2_method_28_code 118 = .ok (.goto 140, 3) := by decide +kernel
theorem dd_Checker_checkControl_121 : decode prog_2_method_28_code 121 = .ok (.aload_n 0, 1) := by decide +kernel
theorem dd_Checker_checkControl_122 : decode prog_2_method_28_code 122 = .ok (.iconst 1, 1) := by decide +kernel
theorem dd_Checker_checkControl_123 : decode prog_2_method_28_code 123 = .ok (.invokevirtual 238, 3) := by decide +kernel
theorem dd_Checker_checkControl_126 : decode prog_2_method_28_code 126 = .ok (.aload_n 0, 1) := by decide +kernel
theorem dd_Checker_checkControl_127 : decode prog_2_method_28_code 127 = .ok (.iload_n 2, 1) := by decide +kernel
theorem dd_Checker_checkControl_128 : decode prog_2_method_28_code 128 = .ok (.invokevirtual 246, 3) := by decide +kernel
theorem dd_Checker_checkControl_131 : decode prog_2_method_28_code 131 = .ok (.goto 127, 3) := by decide +kernel
theorem dd_Checker_checkControl_134 : decode prog_2_method_28_code 134 = .ok (.aload_n 0, 1) := by decide +kernel
theorem dd_Checker_checkControl_135 : decode prog_2_method_28_code 135 = .ok (.invokevirtual 249, 3) := by decide +kernel
theorem dd_Checker_checkControl_138 : decode prog_2_method_28_code 138 = .ok (.goto 120, 3) := by decide +kernel
theorem dd_Checker_checkControl_141 : decode prog_2_method_28_code 141 = .ok (.aload_n 0, 1) := by decide +kernel
theorem dd_Checker_checkControl_142 : decode prog_2_method_28_code 142 = .ok (.invokevirtual 252, 3) := by decide +kernel
theorem dd_Checker_checkControl_145 : decode prog_2_method_28_code 145 = .ok (.goto 113, 3) := by decide +kernel
theorem dd_Checker_checkControl_148 : decode prog_2_method_28_code 148 = .ok (.aload_n 0, 1) := by decide +kernel
theorem dd_Checker_checkControl_149 : decode prog_2_method_28_code 149 = .ok (.iload_n 2, 1) := by decide +kernel
theorem dd_Checker_checkControl_150 : decode prog_2_method_28_code 150 = .ok (.invokevirtual 255, 3) := by decide +kernel
theorem dd_Checker_checkControl_153 : decode prog_2_method_28_code 153 = .ok (.istore_n 3, 1) := by decide +kernel
theorem dd_Checker_checkControl_154 : decode prog_2_method_28_code 154 = .ok (.aload_n 0, 1) := by decide +kernel
theorem dd_Checker_checkControl_155 : decode prog_2_method_28_code 155 = .ok (.iload_n 3, 1) := by decide +kernel
theorem dd_Checker_checkControl_156 : decode prog_2_method_28_code 156 = .ok (.aload_n 0, 1) := by decide +kernel
theorem dd_Checker_checkControl_157 : decode prog_2_method_28_code 157 = .ok (.iload_n 3, 1) := by decide +kernel
theorem dd_Checker_checkControl_158 : decode prog_2_method_28_code 158 = .ok (.invokevirtual 258, 3) := by decide +kernel
theorem dd_Checker_checkControl_161 : decode prog_2_method_28_code 161 = .ok (.invokevirtual 261, 3) := by decide +kernel
theorem dd_Checker_checkControl_164 : decode prog_2_method_28_code 164 = .ok (.aload_n 0, 1) := by decide +kernel
theorem dd_Checker_checkControl_165 : decode prog_2_method_28_code 165 = .ok (.invokevirtual 240, 3) := by decide +kernel
theorem dd_Checker_checkControl_168 : decode prog_2_method_28_code 168 = .ok (.goto 90, 3) := by decide +kernel
theorem dd_Checker_checkControl_171 : decode prog_2_method_28_code 171 = .ok (.aload_n 0, 1) := by decide +kernel
theorem dd_Checker_checkControl_172 : decode prog_2_method_28_code 172 = .ok (.iconst 1, 1) := by decide +kernel
theorem dd_Checker_checkControl_173 : decode prog_2_method_28_code 173 = .ok (.invokevirtual 238, 3) := by decide +kernel
theorem dd_Checker_checkControl_176 : decode prog_2_method_28_code 176 = .ok (.aload_n 0, 1) := by decide +kernel
theorem dd_Checker_checkControl_177 : decode prog_2_method_28_code 177 = .ok (.iload_n 2, 1) := by decide +kernel
theorem dd_Checker_checkControl_178 : decode prog_2_method_28_code 178 = .ok (.invokevirtual 255, 3) := by decide +kernel
theorem dd_Checker_checkControl_181 : decode prog_2_method_28_code 181 = .ok (.istore_n 3, 1) := by decide +kernel
theorem dd_Checker_checkControl_182 : decode prog_2_method_28_code 182 = .ok (.aload_n 0, 1) := by decide +kernel
theorem dd_Checker_checkControl_183 : decode prog_2_method_28_code 183 = .ok (.iload_n 3, 1) := by decide +kernel
theorem dd_Checker_checkControl_184 : decode prog_2_method_28_code 184 = .ok (.aload_n 0, 1) := by decide +kernel
theorem dd_Checker_checkControl_185 : decode prog_2_method_28_code 185 = .ok (.iload_n 3, 1) := by decide +kernel
theorem dd_Checker_checkControl_186 : decode prog_2_method_28_code 186 = .ok (.invokevirtual 258, 3) := by decide +kernel
theorem dd_Checker_checkControl_189 : decode prog_2_method_28_code 189 = .ok (.invokevirtual 261, 3) := by decide +kernel
theorem dd_Checker_checkControl_192 : decode prog_2_method_28_code 192 = .ok (.aload_n 0, 1) := by decide +kernel
theorem dd_Checker_checkControl_193 : decode prog_2_method_28_code 193 = .ok (.iload_n 3, 1) := by decide +kernel
theorem dd_Checker_checkControl_194 : decode prog_2_method_28_code 194 = .ok (.aload_n 0, 1) := by decide +kernel
theorem dd_Checker_checkControl_195 : decode prog_2_method_28_code 195 = .ok (.iload_n 3, 1) := by decide +kernel
theorem dd_Checker_checkControl_196 : decode prog_2_method_28_code 196 = .ok (.invokevirtual 258, 3) := by decide +kernel
theorem dd_Checker_checkControl_199 : decode prog_2_method_28_code 199 = .ok (.invokevirtual 264, 3) := by decide +kernel
theorem dd_Checker_checkControl_202 : decode prog_2_method_28_code 202 = .ok (.goto 56, 3) := by decide +kernel
theorem dd_Checker_checkControl_205 : decode prog_2_method_28_code 205 = .ok (.aload_n 0, 1) := by decide +kernel
theorem dd_Checker_checkControl_206 : decode prog_2_method_28_code 206 = .ok (.aload_n 0, 1) := by decide +kernel
theorem dd_Checker_checkControl_207 : decode prog_2_method_28_code 207 = .ok (.getfield 42, 3) := by decide +kernel
theorem dd_Checker_checkControl_210 : decode prog_2_method_28_code 210 = .ok (.getfield 176, 3) := by decide +kernel
theorem dd_Checker_checkControl_213 : decode prog_2_method_28_code 213 = .ok (.iload_n 2, 1) := by decide +kernel
theorem dd_Checker_checkControl_214 : decode prog_2_method_28_code 214 = .ok (.iaload, 1) := by decide +kernel
theorem dd_Checker_checkControl_215 : decode prog_2_method_28_code 215 = .ok (.aload_n 0, 1) := by decide +kernel
theorem dd_Checker_checkControl_216 : decode prog_2_method_28_code 216 = .ok (.getfield 42, 3) := by decide +kernel
theorem dd_Checker_checkControl_219 : decode prog_2_method_28_code 219 = .ok (.getfield 212, 3) := by decide +kernel
theorem dd_Checker_checkControl_222 : decode prog_2_method_28_code 222 = .ok (.iload_n 2, 1) := by decide +kernel
theorem dd_Checker_checkControl_223 : decode prog_2_method_28_code 223 = .ok (.laload, 1) := by decide +kernel
theorem dd_Checker_checkControl_224 : decode prog_2_method_28_code 224 = .ok (.l2i, 1) := by decide +kernel
theorem dd_Checker_checkControl_225 : decode prog_2_method_28_code 225 = .ok (.invokevirtual 267, 3) := by decide +kernel
theorem dd_Checker_checkControl_228 : decode prog_2_method_28_code 228 = .ok (.goto 30, 3) := by decide +kernel
theorem dd_Checker_checkControl_231 : decode prog_2_method_28_code 231 = .ok (.aload_n 0, 1) := by decide +kernel
theorem dd_Checker_checkControl_232 : decode prog_2_method_28_code 232 = .ok (.aload_n 0, 1) := by decide +kernel
theorem dd_Checker_checkControl_233 : decode prog_2_method_28_code 233 = .ok (.getfield 17, 3) := by decide +kernel
theorem dd_Checker_checkControl_236 : decode prog_2_method_28_code 236 = .ok (.iconst 0, 1) := by decide +kernel
theorem dd_Checker_checkControl_237 : decode prog_2_method_28_code 237 = .ok (.iaload, 1) := by decide +kernel
theorem dd_Checker_checkControl_238 : decode prog_2_method_28_code 238 = .ok (.aload_n 0, 1) := by decide +kernel
theorem dd_Checker_checkControl_239 : decode prog_2_method_28_code 239 = .ok (.aload_n 0, 1) := by decide +kernel
theorem dd_Checker_checkControl_240 : decode prog_2_method_28_code 240 = .ok (.getfield 17, 3) := by decide +kernel
theorem dd_Checker_checkControl_243 : decode prog_2_method_28_code 243 = .ok (.iconst 0, 1) := by decide +kernel
theorem dd_Checker_checkControl_244 : decode prog_2_method_28_code 244 = .ok (.iaload, 1) := by decide +kernel
theorem dd_Checker_checkControl_245 : decode prog_2_method_28_code 245 = .ok (.invokevirtual 258, 3) := by decide +kernel
theorem dd_Checker_checkControl_248 : decode prog_2_method_28_code 248 = .ok (.invokevirtual 261, 3) := by decide +kernel
theorem dd_Checker_checkControl_251 : decode prog_2_method_28_code 251 = .ok (.aload_n 0, 1) := by decide +kernel
theorem dd_Checker_checkControl_252 : decode prog_2_method_28_code 252 = .ok (.invokevirtual 240, 3) := by decide +kernel
theorem dd_Checker_checkControl_255 : decode prog_2_method_28_code 255 = .ok (.goto 3, 3) := by decide +kernel
theorem dd_Checker_checkControl_258 : decode prog_2_method_28_code 258 = .ok (.return_, 1) := by decide +kernel
theorem dd_Checker_checkInstruction_0 : decode prog_2_method_13_code 0 = .ok (.aload_n 0, 1) := by decide +kernel
theorem dd_Checker_checkInstruction_1 : decode prog_2_method_13_code 1 = .ok (.getfield 42, 3) := by decide +kernel
theorem dd_Checker_checkInstruction_4 : decode prog_2_method_13_code 4 = .ok (.getfield 187, 3) := by decide +kernel
theorem dd_Checker_checkInstruction_7 : decode prog_2_method_13_code 7 = .ok (.iload_n 1, 1) := by decide +kernel
theorem dd_Checker_checkInstruction_8 : decode prog_2_method_13_code 8 = .ok (.saload, 1) := by decide +kernel
theorem dd_Checker_checkInstruction_9 : decode prog_2_method_13_code 9 = .ok (.istore_n 2, 1) := by decide +kernel
theorem dd_Checker_checkInstruction_10 : decode prog_2_method_13_code 10 = .ok (.iload_n 2, 1) := by decide +kernel
theorem dd_Checker_checkInstruction_11 : decode prog_2_method_13_code 11 = .ok (.bipush 16, 2) := by decide +kernel
theorem dd_Checker_checkInstruction_13 : decode prog_2_method_13_code 13 = .ok (.if_icmp .ge 12, 3) := by decide +kernel
theorem dd_Checker_checkInstruction_16 : decode prog_2_method_13_code 16 = .ok (.aload_n 0, 1) := by decide +kernel
theorem dd_Checker_checkInstruction_17 : decode prog_2_method_13_code 17 = .ok (.iload_n 2, 1) := by decide +kernel
theorem dd_Checker_checkInstruction_18 : decode prog_2_method_13_code 18 = .ok (.iload_n 1, 1) := by decide +kernel
theorem dd_Checker_checkInstruction_19 : decode prog_2_method_13_code 19 = .ok (.invokevirtual 191, 3) := by decide +kernel
theorem dd_Checker_checkInstruction_22 : decode prog_2_method_13_code 22 = .ok (.goto 197, 3) := by decide +kernel
theorem dd_Checker_checkInstruction_25 : decode prog_2_method_13_code 25 = .ok (.iload_n 2, 1) := by decide +kernel
theorem dd_Checker_checkInstruction_26 : decode prog_2_method_13_code 26 = .ok (.bipush 40, 2) := by decide +kernel
theorem dd_Checker_checkInstruction_28 : decode prog_2_method_13_code 28 = .ok (.if_icmp .ge 21, 3) := by decide +kernel
theorem dd_Checker_checkInstruction_31 : decode prog_2_method_13_code 31 = .ok (.aload_n 0, 1) := by decide +kernel
theorem dd_Checker_checkInstruction_32 : decode prog_2_method_13_code 32 = .ok (.iload_n 2, 1) := by decide +kernel
theorem dd_Checker_checkInstruction_33 : decode prog_2_method_13_code 33 = .ok (.aload_n 0, 1) := by decide +kernel
theorem dd_Checker_checkInstruction_34 : decode prog_2_method_13_code 34 = .ok (.getfield 42, 3) := by decide +kernel
theorem dd_Checker_checkInstruction_37 : decode prog_2_method_13_code 37 = .ok (.getfield 176, 3) := by decide +kernel
theorem dd_Checker_checkInstruction_40 : decode prog_2_method_13_code 40 = .ok (.iload_n 1, 1) := by decide +kernel
theorem dd_Checker_checkInstruction_41 : decode prog_2_method_13_code 41 = .ok (.iaload, 1) := by decide +kernel
theorem dd_Checker_checkInstruction_42 : decode prog_2_method_13_code 42 = .ok (.iload_n 1, 1) := by decide +kernel
theorem dd_Checker_checkInstruction_43 : decode prog_2_method_13_code 43 = .ok (.invokevirtual 196, 3) := by decide +kernel
theorem dd_Checker_checkInstruction_46 : decode prog_2_method_13_code 46 = .ok (.goto 173, 3) := by decide +kernel
theorem dd_Checker_checkInstruction_49 : decode prog_2_method_13_code 49 = .ok (.iload_n 2, 1) := by decide +kernel
theorem dd_Checker_checkInstruction_50 : decode prog_2_method_13_code 50 = .ok (.bipush 64, 2) := by decide +kernel
theorem dd_Checker_checkInstruction_52 : decode prog_2_method_13_code 52 = .ok (.if_icmp .gt 20, 3) := by decide +kernel
theorem dd_Checker_checkInstruction_55 : decode prog_2_method_13_code 55 = .ok (.aload_n 0, 1) := by decide +kernel
theorem dd_Checker_checkInstruction_56 : decode prog_2_method_13_code 56 = .ok (.iload_n 2, 1) := by decide +kernel
theorem dd_Checker_checkInstruction_57 : decode prog_2_method_13_code 57 = .ok (.aload_n 0, 1) := by decide +kernel
theorem dd_Checker_checkInstruction_58 : decode prog_2_method_13_code 58 = .ok (.getfield 42, 3) := by decide +kernel
theorem dd_Checker_checkInstruction_61 : decode prog_2_method_13_code 61 = .ok (.getfield 176, 3) := by decide +kernel
theorem dd_Checker_checkInstruction_64 : decode prog_2_method_13_code 64 = .ok (.iload_n 1, 1) := by decide +kernel
theorem dd_Checker_checkInstruction_65 : decode prog_2_method_13_code 65 = .ok (.iaload, 1) := by decide +kernel
theorem dd_Checker_checkInstruction_66 : decode prog_2_method_13_code 66 = .ok (.invokevirtual 200, 3) := by decide +kernel
theorem dd_Checker_checkInstruction_69 : decode prog_2_method_13_code 69 = .ok (.goto 150, 3) := by decide +kernel
theorem dd_Checker_checkInstruction_72 : decode prog_2_method_13_code 72 = .ok (.iload_n 2, 1) := by decide +kernel
theorem dd_Checker_checkInstruction_73 : decode prog_2_method_13_code 73 = .ok (.bipush 66, 2) := by decide +kernel
theorem dd_Checker_checkInstruction_75 : decode prog_2_method_13_code 75 = .ok (.if_icmp .gt 21, 3) := by decide +kernel
theorem dd_Checker_checkInstruction_78 : decode prog_2_method_13_code 78 = .ok (.aload_n 0, 1) := by decide +kernel
theorem dd_Checker_checkInstruction_79 : decode prog_2_method_13_code 79 = .ok (.iload_n 2, 1) := by decide +kernel
theorem dd_Checker_checkInstruction_80 : decode prog_2_method_13_code 80 = .ok (.bipush 65, 2) := by decide +kernel
theorem dd_Checker_checkInstruction_82 : decode prog_2_method_13_code 82 = .ok (.if_icmp .ne 7, 3) := by decide +kernel
theorem dd_Checker_checkInstruction_85 : decode prog_2_method_13_code 85 = .ok (.iconst 1, 1) := by decide +kernel
theorem dd_Checker_checkInstruction_86 : decode prog_2_method_13_code 86 = .ok (.goto 4, 3) := by decide +kernel
theorem dd_Checker_checkInstruction_89 : decode prog_2_method_13_code 89 = .ok (.iconst 2, 1) := by decide +kernel
theorem dd_Checker_checkInstruction_90 : decode prog_2_method_13_code 90 = .ok (.invokevirtual 203, 3) := by decide +kernel
theorem dd_Checker_checkInstruction_93 : decode prog_2_method_13_code 93 = .ok (.goto 126, 3) := by decide +kernel
theorem dd_Checker_checkInstruction_96 : decode prog_2_method_13_code 96 = .ok (.iload_n 2, 1) := by decide +kernel
theorem dd_Checker_checkInstruction_97 : decode prog_2_method_13_code 97 = .ok (.sipush 208, 3) := by decide +kernel
theorem dd_Checker_checkInstruction_100 : decode prog_2_method_13_code 100 = .ok (.if_icmp .ge 11, 3) := by decide +kernel
theorem dd_Checker_checkInstruction_103 : decode prog_2_method_13_code 103 = .ok (.aload_n 0, 1) := by decide +kernel
theorem dd_Checker_checkInstruction_104 : decode prog_2_method_13_code 104 = .ok (.iload_n 2, 1) := by decide +kernel
theorem dd_Checker_checkInstruction_105 : decode prog_2_method_13_code 105 = .ok (.invokevirtual 206, 3) := by decide +kernel
theorem dd_Checker_checkInstruction_108 : decode prog_2_method_13_code 108 = .ok (.goto 111, 3) := by decide +kernel
theorem dd_Checker_checkInstruction_111 : decode prog_2_method_13_code 111 = .ok (.iload_n 2, 1) := by decide +kernel
theorem dd_Checker_checkInstruction_112 : decode prog_2_method_13_code 112 = .ok (.sipush 256, 3) := by decide +kernel
theorem dd_Checker_checkInstruction_115 : decode prog_2_method_13_code 115 = .ok (.if_icmp .ge 12, 3) := by decide +kernel
theorem dd_Checker_checkInstruction_118 : decode prog_2_method_13_code 118 = .ok (.aload_n 0, 1) := by decide +kernel
theorem dd_Checker_checkInstruction_119 : decode prog_2_method_13_code 119 = .ok (.iload_n 2, 1) := by decide +kernel
theorem dd_Checker_checkInstruction_120 : decode prog_2_method_13_code 120 = .ok (.iload_n 1, 1) := by decide +kernel
theorem dd_Checker_checkInstruction_121 : decode prog_2_method_13_code 121 = .ok (.invokevirtual 209, 3) := by decide +kernel
theorem dd_Checker_checkInstruction_124 : decode prog_2_method_13_code 124 = .ok (.goto 95, 3) := by decide +kernel
theorem dd_Checker_checkInstruction_127 : decode prog_2_method_13_code 127 = .ok (.iload_n 2, 1) := by decide +kernel
theorem dd_Checker_checkInstruction_128 : decode prog_2_method_13_code 128 = .ok (.sipush 262, 3) := by decide +kernel
theorem dd_Checker_checkInstruction_131 : decode prog_2_method_13_code 131 = .ok (.if_icmp .ge 33, 3) := by decide +kernel
theorem dd_Checker_checkInstruction_134 : decode prog_2_method_13_code 134 = .ok (.aload_n 0, 1) := by decide +kernel
theorem dd_Checker_checkInstruction_135 : decode prog_2_method_13_code 135 = .ok (.iload_n 2, 1) := by decide +kernel
theorem dd_Checker_checkInstruction_136 : decode prog_2_method_13_code 136 = .ok (.sipush 256, 3) := by decide +kernel
theorem dd_Checker_checkInstruction_139 : decode prog_2_method_13_code 139 = .ok (.isub, 1) := by decide +kernel
theorem dd_Checker_checkInstruction_140 : decode prog_2_method_13_code 140 = .ok (.aload_n 0, 1) := by decide +kernel
theorem dd_Checker_checkInstruction_141 : decode prog_2_method_13_code 141 = .ok (.getfield 42, 3) := by decide +kernel
theorem dd_Checker_checkInstruction_144 : decode prog_2_method_13_code 144 = .ok (.getfield 176, 3) := by decide +kernel
theorem dd_Checker_checkInstruction_147 : decode prog_2_method_13_code 147 = .ok (.iload_n 1, 1) := by decide +kernel
theorem dd_Checker_checkInstruction_148 : decode prog_2_method_13_code 148 = .ok (.iaload, 1) := by decide +kernel
theorem dd_Checker_checkInstruction_149 : decode prog_2_method_13_code 149 = .ok (.aload_n 0, 1) := by decide +kernel
theorem dd_Checker_checkInstruction_150 : decode prog_2_method_13_code 150 = .ok (.getfield 42, 3) := by decide +kernel
theorem dd_Checker_checkInstruction_153 : decode prog_2_method_13_code 153 = .ok (.getfield 212, 3) := by decide +kernel
theorem dd_Checker_checkInstruction_156 : decode prog_2_method_13_code 156 = .ok (.iload_n 1, 1) := by decide +kernel
theorem dd_Checker_checkInstruction_157 : decode prog_2_method_13_code 157 = .ok (.laload, 1) := by decide +kernel
theorem dd_Checker_checkInstruction_158 : decode prog_2_method_13_code 158 = .ok (.invokevirtual 214, 3) := by decide +kernel
theorem dd_Checker_checkInstruction_161 : decode prog_2_method_13_code 161 = .ok (.goto 58, 3) := by decide +kernel
theorem dd_Checker_checkInstruction_164 : decode prog_2_method_13_code 164 = .ok (.iload_n 2, 1) := by decide +kernel
theorem dd_Checker_checkInstruction_165 : decode prog_2_method_13_code 165 = .ok (.sipush 276, 3) := by decide +kernel
theorem dd_Checker_checkInstruction_168 : decode prog_2_method_13_code 168 = .ok (.if_icmp .ge 33, 3) := by decide +kernel
theorem dd_Checker_checkInstruction_171 : decode prog_2_method_13_code 171 = .ok (.aload_n 0, 1) := by decide +kernel
theorem dd_Checker_checkInstruction_172 : decode prog_2_method_13_code 172 = .ok (.iload_n 2, 1) := by decide +kernel
theorem dd_Checker_checkInstruction_173 : decode prog_2_method_13_code 173 = .ok (.sipush 256, 3) := by decide +kernel
theorem dd_Checker_checkInstruction_176 : decode prog_2_method_13_code 176 = .ok (.isub, 1) := by decide +kernel
theorem dd_Checker_checkInstruction_177 : decode prog_2_method_13_code 177 = .ok (.aload_n 0, 1) := by decide +kernel
theorem dd_Checker_checkInstruction_178 : decode prog_2_method_13_code 178 = .ok (.getfield 42, 3) := by decide +kernel
theorem dd_Checker_checkInstruction_181 : decode prog_2_method_13_code 181 = .ok (.getfield 176, 3) := by decide +kernel
theorem dd_Checker_checkInstruction_184 : decode prog_2_method_13_code 184 = .ok (.iload_n 1, 1) := by decide +kernel
theorem dd_Checker_checkInstruction_185 : decode prog_2_method_13_code 185 = .ok (.iaload, 1) := by decide +kernel
theorem dd_Checker_checkInstruction_186 : decode prog_2_method_13_code 186 = .ok (.aload_n 0, 1) := by decide +kernel
theorem dd_Checker_checkInstruction_187 : decode prog_2_method_13_code 187 = .ok (.getfield 42, 3) := by decide +kernel
theorem dd_Checker_checkInstruction_190 : decode prog_2_method_13_code 190 = .ok (.getfield 212, 3) := by decide +kernel
theorem dd_Checker_checkInstruction_193 : decode prog_2_method_13_code 193 = .ok (.iload_n 1, 1) := by decide +kernel
theorem dd_Checker_checkInstruction_194 : decode prog_2_method_13_code 194 = .ok (.laload, 1) := by decide +kernel
theorem dd_Checker_checkInstruction_195 : decode prog_2_method_13_code 195 = .ok (.invokevirtual 218, 3) := by decide +kernel
theorem dd_Checker_checkInstruction_198 : decode prog_2_method_13_code 198 = .ok (.goto 21, 3) := by decide +kernel
theorem dd_Checker_checkInstruction_201 : decode prog_2_method_13_code 201 = .ok (.aload_n 0, 1) := by decide +kernel
theorem dd_Checker_checkInstruction_202 : decode prog_2_method_13_code 202 = .ok (.iload_n 2, 1) := by decide +kernel
theorem dd_Checker_checkInstruction_203 : decode prog_2_method_13_code 203 = .ok (.sipush 256, 3) := by decide +kernel
theorem dd_Checker_checkInstruction_206 : decode prog_2_method_13_code 206 = .ok (.isub, 1) := by decide +kernel
theorem dd_Checker_checkInstruction_207 : decode prog_2_method_13_code 207 = .ok (.aload_n 0, 1) := by decide +kernel
theorem dd_Checker_checkInstruction_208 : decode prog_2_method_13_code 208 = .ok (.getfield 42, 3) := by decide +kernel
theorem dd_Checker_checkInstruction_211 : decode prog_2_method_13_code 211 = .ok (.getfield 176, 3) := by decide +kernel
theorem dd_Checker_checkInstruction_214 : decode prog_2_method_13_code 214 = .ok (.iload_n 1, 1) := by decide +kernel
theorem dd_Checker_checkInstruction_215 : decode prog_2_method_13_code 215 = .ok (.iaload, 1) := by decide +kernel
theorem dd_Checker_checkInstruction_216 : decode prog_2_method_13_code 216 = .ok (.invokevirtual 221, 3) := by decide +kernel
theorem dd_Checker_checkInstruction_219 : decode prog_2_method_13_code 219 = .ok (.return_, 1) := by decide +kernel
theorem dd_Checker_checkBody_0 : decode prog_2_method_12_code 0 = .ok (.aload_n 0, 1) := by decide +kernel
theorem dd_Checker_checkBody_1 : decode prog_2_method_12_code 1 = .ok (.getfield 27, 3) := by decide +kernel
theorem dd_Checker_checkBody_4 : decode prog_2_method_12_code 4 = .ok (.getfield 50, 3) := by decide +kernel
theorem dd_Checker_checkBody_7 : decode prog_2_method_12_code 7 = .ok (.getfield 132, 3) := by decide +kernel
theorem dd_Checker_checkBody_10 : decode prog_2_method_12_code 10 = .ok (.iload_n 1, 1) := by decide +kernel
theorem dd_Checker_checkBody_11 : decode prog_2_method_12_code 11 = .ok (.iaload, 1) := by decide +kernel
theorem dd_Checker_checkBody_12 : decode prog_2_method_12_code 12 = .ok (.istore_n 2, 1) := by decide +kernel
theorem dd_Checker_checkBody_13 : decode prog_2_method_12_code 13 = .ok (.aload_n 0, 1) := by decide +kernel
theorem dd_Checker_checkBody_14 : decode prog_2_method_12_code 14 = .ok (.getfield 27, 3) := by decide +kernel
theorem dd_Checker_checkBody_17 : decode prog_2_method_12_code 17 = .ok (.getfield 50, 3) := by decide +kernel
theorem dd_Checker_checkBody_20 : decode prog_2_method_12_code 20 = .ok (.getfield 142, 3) := by decide +kernel
theorem dd_Checker_checkBody_23 : decode prog_2_method_12_code 23 = .ok (.iload_n 1, 1) := by decide +kernel
theorem dd_Checker_checkBody_24 : decode prog_2_method_12_code 24 = .ok (.iaload, 1) := by decide +kernel
theorem dd_Checker_checkBody_25 : decode prog_2_method_12_code 25 = .ok (.istore_n 3, 1) := by decide +kernel
theorem dd_Checker_checkBody_26 : decode prog_2_method_12_code 26 = .ok (.aload_n 0, 1) := by decide +kernel
theorem dd_Checker_checkBody_27 : decode prog_2_method_12_code 27 = .ok (.aload_n 0, 1) := by decide +kernel
theorem dd_Checker_checkBody_28 : decode prog_2_method_12_code 28 = .ok (.getfield 37, 3) := by decide +kernel
theorem dd_Checker_checkBody_31 : decode prog_2_method_12_code 31 = .ok (.getfield 101, 3) := by decide +kernel
theorem dd_Checker_checkBody_34 : decode prog_2_method_12_code 34 = .ok (.iload_n 2, 1) := by decide +kernel
theorem dd_Checker_checkBody_35 : decode prog_2_method_12_code 35 = .ok (.iaload, 1) := by decide +kernel
theorem dd_Checker_checkBody_36 : decode prog_2_method_12_code 36 = .ok (.putfield 167, 3) := by decide +kernel
theorem dd_Checker_checkBody_39 : decode prog_2_method_12_code 39 = .ok (.iconst 0, 1) := by decide +kernel
theorem dd_Checker_checkBody_40 : decode prog_2_method_12_code 40 = .ok (.istore 4, 2) := by decide +kernel
theorem dd_Checker_checkBody_42 : decode prog_2_method_12_code 42 = .ok (.iload 4, 2) := by decide +kernel
theorem dd_Checker_checkBody_44 : decode prog_2_method_12_code 44 = .ok (.aload_n 0, 1) := by decide +kernel
theorem dd_Checker_checkBody_45 : decode prog_2_method_12_code 45 = .ok (.getfield 167, 3) := by decide +kernel
theorem dd_Checker_checkBody_48 : decode prog_2_method_12_code 48 = .ok (.if_icmp .ge 26, 3) := by decide +kernel
theorem dd_Checker_checkBody_51 : decode prog_2_method_12_code 51 = .ok (.aload_n 0, 1) := by decide +kernel
theorem dd_Checker_checkBody_52 : decode prog_2_method_12_code 52 = .ok (.getfield 24, 3) := by decide +kernel
theorem dd_Checker_checkBody_55 : decode prog_2_method_12_code 55 = .ok (.iload 4, 2) := by decide +kernel
theorem dd_Checker_checkBody_57 : decode prog_2_method_12_code 57 = .ok (.aload_n 0, 1) := by decide +kernel
theorem dd_Checker_checkBody_58 : decode prog_2_method_12_code 58 = .ok (.getfield 37, 3) := by decide +kernel
theorem dd_Checker_checkBody_61 : decode prog_2_method_12_code 61 = .ok (.iload_n 2, 1) := by decide +kernel
theorem dd_Checker_checkBody_62 : decode prog_2_method_12_code 62 = .ok (.iload 4, 2) := by decide +kernel
theorem dd_Checker_checkBody_64 : decode prog_2_method_12_code 64 = .ok (.invokevirtual 107, 3) := by decide +kernel
theorem dd_Checker_checkBody_67 : decode prog_2_method_12_code 67 = .ok (.iastore, 1) := by decide +kernel
theorem dd_Checker_checkBody_68 : decode prog_2_method_12_code 68 = .ok (.iinc 4 1, 3) := by decide +kernel
theorem dd_Checker_checkBody_71 : decode prog_2_method_12_code 71 = .ok (.goto (-29), 3) := by decide +kernel
theorem dd_Checker_checkBody_74 : decode prog_2_method_12_code 74 = .ok (.aload_n 0, 1) := by decide +kernel
theorem dd_Checker_checkBody_75 : decode prog_2_method_12_code 75 = .ok (.iconst 0, 1) := by decide +kernel
theorem dd_Checker_checkBody_76 : decode prog_2_method_12_code 76 = .ok (.putfield 170, 3) := by decide +kernel
theorem dd_Checker_checkBody_79 : decode prog_2_method_12_code 79 = .ok (.aload_n 0, 1) := by decide +kernel
theorem dd_Checker_checkBody_80 : decode prog_2_method_12_code 80 = .ok (.iconst 0, 1) := by decide +kernel
theorem dd_Checker_checkBody_81 : decode prog_2_method_12_code 81 = .ok (.putfield 173, 3) := by decide +kernel
theorem dd_Checker_checkBody_84 : decode prog_2_method_12_code 84 = .ok (.aload_n 0, 1) := by decide +kernel
theorem dd_Checker_checkBody_85 : decode prog_2_method_12_code 85 = .ok (.getfield 42, 3) := by decide +kernel
theorem dd_Checker_checkBody_88 : decode prog_2_method_12_code 88 = .ok (.getfield 176, 3) := by decide +kernel
theorem dd_Checker_checkBody_91 : decode prog_2_method_12_code 91 = .ok (.iload_n 3, 1) := by decide +kernel
theorem dd_Checker_checkBody_92 : decode prog_2_method_12_code 92 = .ok (.sipush 1024, 3) := by decide +kernel
theorem dd_Checker_checkBody_95 : decode prog_2_method_12_code 95 = .ok (.iload_n 2, 1) := by decide +kernel
theorem dd_Checker_checkBody_96 : decode prog_2_method_12_code 96 = .ok (.iadd, 1) := by decide +kernel
theorem dd_Checker_checkBody_97 : decode prog_2_method_12_code 97 = .ok (.iastore, 1) := by decide +kernel
theorem dd_Checker_checkBody_98 : decode prog_2_method_12_code 98 = .ok (.aload_n 0, 1) := by decide +kernel
theorem dd_Checker_checkBody_99 : decode prog_2_method_12_code 99 = .ok (.iload_n 3, 1) := by decide +kernel
theorem dd_Checker_checkBody_100 : decode prog_2_method_12_code 100 = .ok (.invokevirtual 177, 3) := by decide +kernel
theorem dd_Checker_checkBody_103 : decode prog_2_method_12_code 103 = .ok (.iload_n 3, 1) := by decide +kernel
theorem dd_Checker_checkBody_104 : decode prog_2_method_12_code 104 = .ok (.iconst 1, 1) := by decide +kernel
theorem dd_Checker_checkBody_105 : decode prog_2_method_12_code 105 = .ok (.iadd, 1) := by decide +kernel
theorem dd_Checker_checkBody_106 : decode prog_2_method_12_code 106 = .ok (.istore 4, 2) := by decide +kernel
theorem dd_Checker_checkBody_108 : decode prog_2_method_12_code 108 = .ok (.iload 4, 2) := by decide +kernel
theorem dd_Checker_checkBody_110 : decode prog_2_method_12_code 110 = .ok (.aload_n 0, 1) := by decide +kernel
theorem dd_Checker_checkBody_111 : decode prog_2_method_12_code 111 = .ok (.getfield 42, 3) := by decide +kernel
theorem dd_Checker_checkBody_114 : decode prog_2_method_12_code 114 = .ok (.getfield 181, 3) := by decide +kernel
theorem dd_Checker_checkBody_117 : decode prog_2_method_12_code 117 = .ok (.if_icmp .ge 22, 3) := by decide +kernel
theorem dd_Checker_checkBody_120 : decode prog_2_method_12_code 120 = .ok (.aload_n 0, 1) := by decide +kernel
theorem dd_Checker_checkBody_121 : decode prog_2_method_12_code 121 = .ok (.getfield 173, 3) := by decide +kernel
theorem dd_Checker_checkBody_124 : decode prog_2_method_12_code 124 = .ok (.ifCond .le 15, 3) := by decide +kernel
theorem dd_Checker_checkBody_127 : decode prog_2_method_12_code 127 = .ok (.aload_n 0, 1) := by decide +kernel
theorem dd_Checker_checkBody_128 : decode prog_2_method_12_code 128 = .ok (.iload 4, 2) := by decide +kernel
theorem dd_Checker_checkBody_130 : decode prog_2_method_12_code 130 = .ok (.invokevirtual 184, 3) := by decide +kernel
theorem dd_Checker_checkBody_133 : decode prog_2_method_12_code 133 = .ok (.iinc 4 1, 3) := by decide +kernel
theorem dd_Checker_checkBody_136 : decode prog_2_method_12_code 136 = .ok (.goto (-28), 3) := by decide +kernel
theorem dd_Checker_checkBody_139 : decode prog_2_method_12_code 139 = .ok (.aload_n 0, 1) := by decide +kernel
theorem dd_Checker_checkBody_140 : decode prog_2_method_12_code 140 = .ok (.getfield 27, 3) := by decide +kernel
theorem dd_Checker_checkBody_143 : decode prog_2_method_12_code 143 = .ok (.getfield 50, 3) := by decide +kernel
theorem dd_Checker_checkBody_146 : decode prog_2_method_12_code 146 = .ok (.getfield 145, 3) := by decide +kernel
theorem dd_Checker_checkBody_149 : decode prog_2_method_12_code 149 = .ok (.iload_n 1, 1) := by decide +kernel
theorem dd_Checker_checkBody_150 : decode prog_2_method_12_code 150 = .ok (.aload_n 0, 1) := by decide +kernel
theorem dd_Checker_checkBody_151 : decode prog_2_method_12_code 151 = .ok (.getfield 167, 3) := by decide +kernel
theorem dd_Checker_checkBody_154 : decode prog_2_method_12_code 154 = .ok (.iastore, 1) := by decide +kernel
theorem dd_Checker_checkBody_155 : decode prog_2_method_12_code 155 = .ok (.return_, 1) := by decide +kernel
theorem dd_Arrays_fill_AII_0 : decode prog_31_method_103_code 0 = .ok (.iconst 0, 1) := by decide +kernel
theorem dd_Arrays_fill_AII_1 : decode prog_31_method_103_code 1 = .ok (.istore_n 2, 1) := by decide +kernel
theorem dd_Arrays_fill_AII_2 : decode prog_31_method_103_code 2 = .ok (.aload_n 0, 1) := by decide +kernel
theorem dd_Arrays_fill_AII_3 : decode prog_31_method_103_code 3 = .ok (.arraylength, 1) := by decide +kernel
theorem dd_Arrays_fill_AII_4 : decode prog_31_method_103_code 4 = .ok (.istore_n 3, 1) := by decide +kernel
theorem dd_Arrays_fill_AII_5 : decode prog_31_method_103_code 5 = .ok (.iload_n 2, 1) := by decide +kernel
theorem dd_Arrays_fill_AII_6 : decode prog_31_method_103_code 6 = .ok (.iload_n 3, 1) := by decide +kernel
theorem dd_Arrays_fill_AII_7 : decode prog_31_method_103_code 7 = .ok (.if_icmp .ge 13, 3) := by decide +kernel
theorem dd_Arrays_fill_AII_10 : decode prog_31_method_103_code 10 = .ok (.aload_n 0, 1) := by decide +kernel
theorem dd_Arrays_fill_AII_11 : decode prog_31_method_103_code 11 = .ok (.iload_n 2, 1) := by decide +kernel
theorem dd_Arrays_fill_AII_12 : decode prog_31_method_103_code 12 = .ok (.iload_n 1, 1) := by decide +kernel
theorem dd_Arrays_fill_AII_13 : decode prog_31_method_103_code 13 = .ok (.iastore, 1) := by decide +kernel
theorem dd_Arrays_fill_AII_14 : decode prog_31_method_103_code 14 = .ok (.iinc 2 1, 3) := by decide +kernel
theorem dd_Arrays_fill_AII_17 : decode prog_31_method_103_code 17 = .ok (.goto (-12), 3) := by decide +kernel
theorem dd_Arrays_fill_AII_20 : decode prog_31_method_103_code 20 = .ok (.return_, 1) := by decide +kernel
theorem dd_Machine_placeElements_0 : decode prog_5_method_4_code 0 = .ok (.aload_n 0, 1) := by decide +kernel
theorem dd_Machine_placeElements_1 : decode prog_5_method_4_code 1 = .ok (.getfield 50, 3) := by decide +kernel
theorem dd_Machine_placeElements_4 : decode prog_5_method_4_code 4 = .ok (.getfield 128, 3) := by decide +kernel
theorem dd_Machine_placeElements_7 : decode prog_5_method_4_code 7 = .ok (.astore_n 1, 1) := by decide +kernel
theorem dd_Machine_placeElements_8 : decode prog_5_method_4_code 8 = .ok (.iconst 0, 1) := by decide +kernel
theorem dd_Machine_placeElements_9 : decode prog_5_method_4_code 9 = .ok (.istore_n 2, 1) := by decide +kernel
theorem dd_Machine_placeElements_10 : decode prog_5_method_4_code 10 = .ok (.iload_n 2, 1) := by decide +kernel
theorem dd_Machine_placeElements_11 : decode prog_5_method_4_code 11 = .ok (.aload_n 1, 1) := by decide +kernel
theorem dd_Machine_placeElements_12 : decode prog_5_method_4_code 12 = .ok (.getfield 77, 3) := by decide +kernel
theorem dd_Machine_placeElements_15 : decode prog_5_method_4_code 15 = .ok (.if_icmp .ge 67, 3) := by decide +kernel
theorem dd_Machine_placeElements_18 : decode prog_5_method_4_code 18 = .ok (.aload_n 1, 1) := by decide +kernel
theorem dd_Machine_placeElements_19 : decode prog_5_method_4_code 19 = .ok (.getfield 114, 3) := by decide +kernel
theorem dd_Machine_placeElements_22 : decode prog_5_method_4_code 22 = .ok (.iload_n 2, 1) := by decide +kernel
theorem dd_Machine_placeElements_23 : decode prog_5_method_4_code 23 = .ok (.iaload, 1) := by decide +kernel
theorem dd_Machine_placeElements_24 : decode prog_5_method_4_code 24 = .ok (.istore_n 3, 1) := by decide +kernel
theorem dd_Machine_placeElements_25 : decode prog_5_method_4_code 25 = .ok (.aload_n 1, 1) := by decide +kernel
theorem dd_Machine_placeElements_26 : decode prog_5_method_4_code 26 = .ok (.getfield 95, 3) := by decide +kernel
theorem dd_Machine_placeElements_29 : decode prog_5_method_4_code 29 = .ok (.iload_n 2, 1) := by decide +kernel
theorem dd_Machine_placeElements_30 : decode prog_5_method_4_code 30 = .ok (.laload, 1) := by decide +kernel
theorem dd_Machine_placeElements_31 : decode prog_5_method_4_code 31 = .ok (.iload_n 3, 1) := by decide +kernel
theorem dd_Machine_placeElements_32 : decode prog_5_method_4_code 32 = .ok (.i2l, 1) := by decide +kernel
theorem dd_Machine_placeElements_33 : decode prog_5_method_4_code 33 = .ok (.ladd, 1) := by decide +kernel
theorem dd_Machine_placeElements_34 : decode prog_5_method_4_code 34 = .ok (.aload_n 0, 1) := by decide +kernel
theorem dd_Machine_placeElements_35 : decode prog_5_method_4_code 35 = .ok (.getfield 50, 3) := by decide +kernel
theorem dd_Machine_placeElements_38 : decode prog_5_method_4_code 38 = .ok (.invokevirtual 131, 3) := by decide +kernel
theorem dd_Machine_placeElements_41 : decode prog_5_method_4_code 41 = .ok (.i2l, 1) := by decide +kernel
theorem dd_Machine_placeElements_42 : decode prog_5_method_4_code 42 = .ok (.lcmp, 1) := by decide +kernel
theorem dd_Machine_placeElements_43 : decode prog_5_method_4_code 43 = .ok (.ifCond .le 5, 3) := by decide +kernel
theorem dd_Machine_placeElements_46 : decode prog_5_method_4_code 46 = .ok (.iconst 5, 1) := by decide +kernel
theorem dd_Machine_placeElements_47 : decode prog_5_method_4_code 47 = .ok (.ireturn, 1) := by decide +kernel
theorem dd_Machine_placeElements_48 : decode prog_5_method_4_code 48 = .ok (.aload_n 0, 1) := by decide +kernel
theorem dd_Machine_placeElements_49 : decode prog_5_method_4_code 49 = .ok (.getfield 65, 3) := by decide +kernel
theorem dd_Machine_placeElements_52 : decode prog_5_method_4_code 52 = .ok (.getfield 134, 3) := by decide +kernel
theorem dd_Machine_placeElements_55 : decode prog_5_method_4_code 55 = .ok (.aload_n 1, 1) := by decide +kernel
theorem dd_Machine_placeElements_56 : decode prog_5_method_4_code 56 = .ok (.getfield 111, 3) := by decide +kernel
theorem dd_Machine_placeElements_59 : decode prog_5_method_4_code 59 = .ok (.iload_n 2, 1) := by decide +kernel
theorem dd_Machine_placeElements_60 : decode prog_5_method_4_code 60 = .ok (.iaload, 1) := by decide +kernel
theorem dd_Machine_placeElements_61 : decode prog_5_method_4_code 61 = .ok (.aload_n 0, 1) := by decide +kernel
theorem dd_Machine_placeElements_62 : decode prog_5_method_4_code 62 = .ok (.getfield 37, 3) := by decide +kernel
theorem dd_Machine_placeElements_65 : decode prog_5_method_4_code 65 = .ok (.aload_n 1, 1) := by decide +kernel
theorem dd_Machine_placeElements_66 : decode prog_5_method_4_code 66 = .ok (.getfield 95, 3) := by decide +kernel
theorem dd_Machine_placeElements_69 : decode prog_5_method_4_code 69 = .ok (.iload_n 2, 1) := by decide +kernel
theorem dd_Machine_placeElements_70 : decode prog_5_method_4_code 70 = .ok (.laload, 1) := by decide +kernel
theorem dd_Machine_placeElements_71 : decode prog_5_method_4_code 71 = .ok (.l2i, 1) := by decide +kernel
theorem dd_Machine_placeElements_72 : decode prog_5_method_4_code 72 = .ok (.iload_n 3, 1) := by decide +kernel
theorem dd_Machine_placeElements_73 : decode prog_5_method_4_code 73 = .ok (.invokestatic 139, 3) := by decide +kernel
theorem dd_Machine_placeElements_76 : decode prog_5_method_4_code 76 = .ok (.iinc 2 1, 3) := by decide +kernel
theorem dd_Machine_placeElements_79 : decode prog_5_method_4_code 79 = .ok (.goto (-69), 3) := by decide +kernel
theorem dd_Machine_placeElements_82 : decode prog_5_method_4_code 82 = .ok (.iconst 0, 1) := by decide +kernel
theorem dd_Machine_placeElements_83 : decode prog_5_method_4_code 83 = .ok (.ireturn, 1) := by decide +kernel
theorem dd_Memory_putAll_0 : decode prog_6_method_9_code 0 = .ok (.aload_n 1, 1) := by decide +kernel
theorem dd_Memory_putAll_1 : decode prog_6_method_9_code 1 = .ok (.iload_n 2, 1) := by decide +kernel
theorem dd_Memory_putAll_2 : decode prog_6_method_9_code 2 = .ok (.aload_n 0, 1) := by decide +kernel
theorem dd_Memory_putAll_3 : decode prog_6_method_9_code 3 = .ok (.getfield 10, 3) := by decide +kernel
theorem dd_Memory_putAll_6 : decode prog_6_method_9_code 6 = .ok (.iload 4, 2) := by decide +kernel
theorem dd_Memory_putAll_8 : decode prog_6_method_9_code 8 = .ok (.iload_n 3, 1) := by decide +kernel
theorem dd_Memory_putAll_9 : decode prog_6_method_9_code 9 = .ok (.invokestatic 43, 3) := by decide +kernel
theorem dd_Memory_putAll_12 : decode prog_6_method_9_code 12 = .ok (.return_, 1) := by decide +kernel
theorem dd_Machine_placeData_0 : decode prog_5_method_5_code 0 = .ok (.aload_n 0, 1) := by decide +kernel
theorem dd_Machine_placeData_1 : decode prog_5_method_5_code 1 = .ok (.getfield 50, 3) := by decide +kernel
theorem dd_Machine_placeData_4 : decode prog_5_method_5_code 4 = .ok (.getfield 145, 3) := by decide +kernel
theorem dd_Machine_placeData_7 : decode prog_5_method_5_code 7 = .ok (.astore_n 1, 1) := by decide +kernel
theorem dd_Machine_placeData_8 : decode prog_5_method_5_code 8 = .ok (.iconst 0, 1) := by decide +kernel
theorem dd_Machine_placeData_9 : decode prog_5_method_5_code 9 = .ok (.istore_n 2, 1) := by decide +kernel
theorem dd_Machine_placeData_10 : decode prog_5_method_5_code 10 = .ok (.iload_n 2, 1) := by decide +kernel
theorem dd_Machine_placeData_11 : decode prog_5_method_5_code 11 = .ok (.aload_n 1, 1) := by decide +kernel
theorem dd_Machine_placeData_12 : decode prog_5_method_5_code 12 = .ok (.getfield 77, 3) := by decide +kernel
theorem dd_Machine_placeData_15 : decode prog_5_method_5_code 15 = .ok (.if_icmp .ge 67, 3) := by decide +kernel
theorem dd_Machine_placeData_18 : decode prog_5_method_5_code 18 = .ok (.aload_n 0, 1) := by decide +kernel
theorem dd_Machine_placeData_19 : decode prog_5_method_5_code 19 = .ok (.getfield 33, 3) := by decide +kernel
theorem dd_Machine_placeData_22 : decode prog_5_method_5_code 22 = .ok (.aload_n 1, 1) := by decide +kernel
theorem dd_Machine_placeData_23 : decode prog_5_method_5_code 23 = .ok (.getfield 95, 3) := by decide +kernel
theorem dd_Machine_placeData_26 : decode prog_5_method_5_code 26 = .ok (.iload_n 2, 1) := by decide +kernel
theorem dd_Machine_placeData_27 : decode prog_5_method_5_code 27 = .ok (.laload, 1) := by decide +kernel
theorem dd_Machine_placeData_28 : decode prog_5_method_5_code 28 = .ok (.aload_n 1, 1) := by decide +kernel
theorem dd_Machine_placeData_29 : decode prog_5_method_5_code 29 = .ok (.getfield 114, 3) := by decide +kernel
theorem dd_Machine_placeData_32 : decode prog_5_method_5_code 32 = .ok (.iload_n 2, 1) := by decide +kernel
theorem dd_Machine_placeData_33 : decode prog_5_method_5_code 33 = .ok (.iaload, 1) := by decide +kernel
theorem dd_Machine_placeData_34 : decode prog_5_method_5_code 34 = .ok (.i2l, 1) := by decide +kernel
theorem dd_Machine_placeData_35 : decode prog_5_method_5_code 35 = .ok (.invokevirtual 148, 3) := by decide +kernel
theorem dd_Machine_placeData_38 : decode prog_5_method_5_code 38 = .ok (.ifCond .ne 5, 3) := by decide +kernel
theorem dd_Machine_placeData_41 : decode prog_5_method_5_code 41 = .ok (.iconst 2, 1) := by decide +kernel
theorem dd_Machine_placeData_42 : decode prog_5_method_5_code 42 = .ok (.ireturn, 1) := by decide +kernel
theorem dd_Machine_placeData_43 : decode prog_5_method_5_code 43 = .ok (.aload_n 0, 1) := by decide +kernel
theorem dd_Machine_placeData_44 : decode prog_5_method_5_code 44 = .ok (.getfield 33, 3) := by decide +kernel
theorem dd_Machine_placeData_47 : decode prog_5_method_5_code 47 = .ok (.aload_n 0, 1) := by decide +kernel
theorem dd_Machine_placeData_48 : decode prog_5_method_5_code 48 = .ok (.getfield 50, 3) := by decide +kernel
theorem dd_Machine_placeData_51 : decode prog_5_method_5_code 51 = .ok (.getfield 152, 3) := by decide +kernel
theorem dd_Machine_placeData_54 : decode prog_5_method_5_code 54 = .ok (.aload_n 1, 1) := by decide +kernel
theorem dd_Machine_placeData_55 : decode prog_5_method_5_code 55 = .ok (.getfield 111, 3) := by decide +kernel
theorem dd_Machine_placeData_58 : decode prog_5_method_5_code 58 = .ok (.iload_n 2, 1) := by decide +kernel
theorem dd_Machine_placeData_59 : decode prog_5_method_5_code 59 = .ok (.iaload, 1) := by decide +kernel
theorem dd_Machine_placeData_60 : decode prog_5_method_5_code 60 = .ok (.aload_n 1, 1) := by decide +kernel
theorem dd_Machine_placeData_61 : decode prog_5_method_5_code 61 = .ok (.getfield 114, 3) := by decide +kernel
theorem dd_Machine_placeData_64 : decode prog_5_method_5_code 64 = .ok (.iload_n 2, 1) := by decide +kernel
theorem dd_Machine_placeData_65 : decode prog_5_method_5_code 65 = .ok (.iaload, 1) := by decide +kernel
theorem dd_Machine_placeData_66 : decode prog_5_method_5_code 66 = .ok (.aload_n 1, 1) := by decide +kernel
theorem dd_Machine_placeData_67 : decode prog_5_method_5_code 67 = .ok (.getfield 95, 3) := by decide +kernel
theorem dd_Machine_placeData_70 : decode prog_5_method_5_code 70 = .ok (.iload_n 2, 1) := by decide +kernel
theorem dd_Machine_placeData_71 : decode prog_5_method_5_code 71 = .ok (.laload, 1) := by decide +kernel
theorem dd_Machine_placeData_72 : decode prog_5_method_5_code 72 = .ok (.l2i, 1) := by decide +kernel
theorem dd_Machine_placeData_73 : decode prog_5_method_5_code 73 = .ok (.invokevirtual 156, 3) := by decide +kernel
theorem dd_Machine_placeData_76 : decode prog_5_method_5_code 76 = .ok (.iinc 2 1, 3) := by decide +kernel
theorem dd_Machine_placeData_79 : decode prog_5_method_5_code 79 = .ok (.goto (-69), 3) := by decide +kernel
theorem dd_Machine_placeData_82 : decode prog_5_method_5_code 82 = .ok (.iconst 0, 1) := by decide +kernel
theorem dd_Machine_placeData_83 : decode prog_5_method_5_code 83 = .ok (.ireturn, 1) := by decide +kernel
