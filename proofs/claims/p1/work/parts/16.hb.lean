theorem dd_House_load_0 : decode prog_1_method_3_code 0 = .ok (.aload_n 0, 1) := by decide +kernel
theorem dd_House_load_1 : decode prog_1_method_3_code 1 = .ok (.getfield 57, 3) := by decide +kernel
theorem dd_House_load_4 : decode prog_1_method_3_code 4 = .ok (.istore_n 1, 1) := by decide +kernel
theorem dd_House_load_5 : decode prog_1_method_3_code 5 = .ok (.aload_n 0, 1) := by decide +kernel
theorem dd_House_load_6 : decode prog_1_method_3_code 6 = .ok (.iconst 0, 1) := by decide +kernel
theorem dd_House_load_7 : decode prog_1_method_3_code 7 = .ok (.putfield 57, 3) := by decide +kernel
theorem dd_House_load_10 : decode prog_1_method_3_code 10 = .ok (.aload_n 0, 1) := by decide +kernel
theorem dd_House_load_11 : decode prog_1_method_3_code 11 = .ok (.iconst 0, 1) := by decide +kernel
theorem dd_House_load_12 : decode prog_1_method_3_code 12 = .ok (.putfield 64, 3) := by decide +kernel
theorem dd_House_load_15 : decode prog_1_method_3_code 15 = .ok (.aload_n 0, 1) := by decide +kernel
theorem dd_House_load_16 : decode prog_1_method_3_code 16 = .ok (.iconst 0, 1) := by decide +kernel
theorem dd_House_load_17 : decode prog_1_method_3_code 17 = .ok (.putfield 67, 3) := by decide +kernel
theorem dd_House_load_20 : decode prog_1_method_3_code 20 = .ok (.aload_n 0, 1) := by decide +kernel
theorem dd_House_load_21 : decode prog_1_method_3_code 21 = .ok (.iconst 0, 1) := by decide +kernel
theorem dd_House_load_22 : decode prog_1_method_3_code 22 = .ok (.putfield 50, 3) := by decide +kernel
theorem dd_House_load_25 : decode prog_1_method_3_code 25 = .ok (.aload_n 0, 1) := by decide +kernel
theorem dd_House_load_26 : decode prog_1_method_3_code 26 = .ok (.getfield 23, 3) := by decide +kernel
theorem dd_House_load_29 : decode prog_1_method_3_code 29 = .ok (.invokevirtual 70, 3) := by decide +kernel
theorem dd_House_load_32 : decode prog_1_method_3_code 32 = .ok (.aload_n 0, 1) := by decide +kernel
theorem dd_House_load_33 : decode prog_1_method_3_code 33 = .ok (.getfield 46, 3) := by decide +kernel
theorem dd_House_load_36 : decode prog_1_method_3_code 36 = .ok (.invokevirtual 73, 3) := by decide +kernel
theorem dd_House_load_39 : decode prog_1_method_3_code 39 = .ok (.aload_n 0, 1) := by decide +kernel
theorem dd_House_load_40 : decode prog_1_method_3_code 40 = .ok (.getfield 32, 3) := by decide +kernel
theorem dd_House_load_43 : decode prog_1_method_3_code 43 = .ok (.aload_n 0, 1) := by decide +kernel
theorem dd_House_load_44 : decode prog_1_method_3_code 44 = .ok (.getfield 9, 3) := by decide +kernel
theorem dd_House_load_47 : decode prog_1_method_3_code 47 = .ok (.iload_n 1, 1) := by decide +kernel
theorem dd_House_load_48 : decode prog_1_method_3_code 48 = .ok (.invokevirtual 74, 3) := by decide +kernel
theorem dd_House_load_51 : decode prog_1_method_3_code 51 = .ok (.goto 10, 3) := by decide +kernel
theorem dd_House_load_54 : decode prog_1_method_3_code 54 = .ok (.astore_n 2, 1) := by decide +kernel
theorem dd_House_load_55 : decode prog_1_method_3_code 55 = .ok (.iconst (-1), 1) := by decide +kernel
theorem dd_House_load_56 : decode prog_1_method_3_code 56 = .ok (.ireturn, 1) := by decide +kernel
theorem dd_House_load_57 : decode prog_1_method_3_code 57 = .ok (.astore_n 2, 1) := by decide +kernel
theorem dd_House_load_58 : decode prog_1_method_3_code 58 = .ok (.bipush (-3), 2) := by decide +kernel
theorem dd_House_load_60 : decode prog_1_method_3_code 60 = .ok (.ireturn, 1) := by decide +kernel
theorem dd_House_load_61 : decode prog_1_method_3_code 61 = .ok (.aload_n 0, 1) := by decide +kernel
theorem dd_House_load_62 : decode prog_1_method_3_code 62 = .ok (.getfield 39, 3) := by decide +kernel
theorem dd_House_load_65 : decode prog_1_method_3_code 65 = .ok (.invokevirtual 80, 3) := by decide +kernel
theorem dd_House_load_68 : decode prog_1_method_3_code 68 = .ok (.iconst 0, 1) := by decide +kernel
theorem dd_House_load_69 : decode prog_1_method_3_code 69 = .ok (.istore_n 2, 1) := by decide +kernel
theorem dd_House_load_70 : decode prog_1_method_3_code 70 = .ok (.iload_n 2, 1) := by decide +kernel
theorem dd_House_load_71 : decode prog_1_method_3_code 71 = .ok (.aload_n 0, 1) := by decide +kernel
theorem dd_House_load_72 : decode prog_1_method_3_code 72 = .ok (.getfield 23, 3) := by decide +kernel
theorem dd_House_load_75 : decode prog_1_method_3_code 75 = .ok (.getfield 83, 3) := by decide +kernel
theorem dd_House_load_78 : decode prog_1_method_3_code 78 = .ok (.getfield 87, 3) := by decide +kernel
theorem dd_House_load_81 : decode prog_1_method_3_code 81 = .ok (.if_icmp .ge 17, 3) := by decide +kernel
theorem dd_House_load_84 : decode prog_1_method_3_code 84 = .ok (.aload_n 0, 1) := by decide +kernel
theorem dd_House_load_85 : decode prog_1_method_3_code 85 = .ok (.getfield 39, 3) := by decide +kernel
theorem dd_House_load_88 : decode prog_1_method_3_code 88 = .ok (.iload_n 2, 1) := by decide +kernel
theorem dd_House_load_89 : decode prog_1_method_3_code 89 = .ok (.invokevirtual 92, 3) := by decide +kernel
theorem dd_House_load_92 : decode prog_1_method_3_code 92 = .ok (.iinc 2 1, 3) := by decide +kernel
theorem dd_House_load_95 : decode prog_1_method_3_code 95 = .ok (.goto (-25), 3) := by decide +kernel
theorem dd_House_load_98 : decode prog_1_method_3_code 98 = .ok (.goto 7, 3) := by decide +kernel
theorem dd_House_load_101 : decode prog_1_method_3_code 101 = .ok (.astore_n 2, 1) := by decide +kernel
theorem dd_House_load_102 : decode prog_1_method_3_code 102 = .ok (.bipush (-2), 2) := by decide +kernel
theorem dd_House_load_104 : decode prog_1_method_3_code 104 = .ok (.ireturn, 1) := by decide +kernel
theorem dd_House_load_105 : decode prog_1_method_3_code 105 = .ok (.aload_n 0, 1) := by decide +kernel
theorem dd_House_load_106 : decode prog_1_method_3_code 106 = .ok (.iconst 1, 1) := by decide +kernel
theorem dd_House_load_107 : decode prog_1_method_3_code 107 = .ok (.putfield 50, 3) := by decide +kernel
theorem dd_House_load_110 : decode prog_1_method_3_code 110 = .ok (.aload_n 0, 1) := by decide +kernel
theorem dd_House_load_111 : decode prog_1_method_3_code 111 = .ok (.getfield 46, 3) := by decide +kernel
theorem dd_House_load_114 : decode prog_1_method_3_code 114 = .ok (.invokevirtual 96, 3) := by decide +kernel
theorem dd_House_load_117 : decode prog_1_method_3_code 117 = .ok (.istore_n 2, 1) := by decide +kernel
theorem dd_House_load_118 : decode prog_1_method_3_code 118 = .ok (.iload_n 2, 1) := by decide +kernel
theorem dd_House_load_119 : decode prog_1_method_3_code 119 = .ok (.ifCond .ne 43, 3) := by decide +kernel
theorem dd_House_load_122 : decode prog_1_method_3_code 122 = .ok (.aload_n 0, 1) := by decide +kernel
theorem dd_House_load_123 : decode prog_1_method_3_code 123 = .ok (.getfield 23, 3) := by decide +kernel
theorem dd_House_load_126 : decode prog_1_method_3_code 126 = .ok (.getfield 100, 3) := by decide +kernel
theorem dd_House_load_129 : decode prog_1_method_3_code 129 = .ok (.iconst (-1), 1) := by decide +kernel
theorem dd_House_load_130 : decode prog_1_method_3_code 130 = .ok (.if_icmp .eq 32, 3) := by decide +kernel
theorem dd_House_load_133 : decode prog_1_method_3_code 133 = .ok (.aload_n 0, 1) := by decide +kernel
theorem dd_House_load_134 : decode prog_1_method_3_code 134 = .ok (.getfield 46, 3) := by decide +kernel
theorem dd_House_load_137 : decode prog_1_method_3_code 137 = .ok (.aload_n 0, 1) := by decide +kernel
theorem dd_House_load_138 : decode prog_1_method_3_code 138 = .ok (.getfield 23, 3) := by decide +kernel
theorem dd_House_load_141 : decode prog_1_method_3_code 141 = .ok (.getfield 100, 3) := by decide +kernel
theorem dd_House_load_144 : decode prog_1_method_3_code 144 = .ok (.sipush 1000, 3) := by decide +kernel
theorem dd_House_load_147 : decode prog_1_method_3_code 147 = .ok (.invokevirtual 103, 3) := by decide +kernel
theorem dd_House_load_150 : decode prog_1_method_3_code 150 = .ok (.istore_n 2, 1) := by decide +kernel
theorem dd_House_load_151 : decode prog_1_method_3_code 151 = .ok (.aload_n 0, 1) := by decide +kernel
theorem dd_House_load_152 : decode prog_1_method_3_code 152 = .ok (.aload_n 0, 1) := by decide +kernel
theorem dd_House_load_153 : decode prog_1_method_3_code 153 = .ok (.getfield 46, 3) := by decide +kernel
theorem dd_House_load_156 : decode prog_1_method_3_code 156 = .ok (.getfield 107, 3) := by decide +kernel
theorem dd_House_load_159 : decode prog_1_method_3_code 159 = .ok (.putfield 67, 3) := by decide +kernel
theorem dd_House_load_162 : decode prog_1_method_3_code 162 = .ok (.aload_n 0, 1) := by decide +kernel
theorem dd_House_load_163 : decode prog_1_method_3_code 163 = .ok (.getfield 46, 3) := by decide +kernel
theorem dd_House_load_166 : decode prog_1_method_3_code 166 = .ok (.getfield 110, 3) := by decide +kernel
theorem dd_House_load_169 : decode prog_1_method_3_code 169 = .ok (.iconst 0, 1) := by decide +kernel
theorem dd_House_load_170 : decode prog_1_method_3_code 170 = .ok (.putfield 114, 3) := by decide +kernel
theorem dd_House_load_173 : decode prog_1_method_3_code 173 = .ok (.iload_n 2, 1) := by decide +kernel
theorem dd_House_load_174 : decode prog_1_method_3_code 174 = .ok (.ireturn, 1) := by decide +kernel
theorem dd_Law_feed_0 : decode method_3_code 0 = .ok (.aload 4, 2) := by decide +kernel
theorem dd_Law_feed_2 : decode method_3_code 2 = .ok (.iconst 0, 1) := by decide +kernel
theorem dd_Law_feed_3 : decode method_3_code 3 = .ok (.aload_n 0, 1) := by decide +kernel
theorem dd_Law_feed_4 : decode method_3_code 4 = .ok (.iload_n 1, 1) := by decide +kernel
theorem dd_Law_feed_5 : decode method_3_code 5 = .ok (.lload_n 2, 1) := by decide +kernel
theorem dd_Law_feed_6 : decode method_3_code 6 = .ok (.invokevirtual 7, 3) := by decide +kernel
theorem dd_Law_feed_9 : decode method_3_code 9 = .ok (.i2l, 1) := by decide +kernel
theorem dd_Law_feed_10 : decode method_3_code 10 = .ok (.lastore, 1) := by decide +kernel
theorem dd_Law_feed_11 : decode method_3_code 11 = .ok (.goto 11, 3) := by decide +kernel
theorem dd_Law_feed_14 : decode method_3_code 14 = .ok (.astore 5, 2) := by decide +kernel
theorem dd_Law_feed_16 : decode method_3_code 16 = .ok (.iconst 1, 1) := by decide +kernel
theorem dd_Law_feed_17 : decode method_3_code 17 = .ok (.ireturn, 1) := by decide +kernel
theorem dd_Law_feed_18 : decode method_3_code 18 = .ok (.astore 5, 2) := by decide +kernel
theorem dd_Law_feed_20 : decode method_3_code 20 = .ok (.iconst 2, 1) := by decide +kernel
theorem dd_Law_feed_21 : decode method_3_code 21 = .ok (.ireturn, 1) := by decide +kernel
theorem dd_Law_feed_22 : decode method_3_code 22 = .ok (.iconst 0, 1) := by decide +kernel
theorem dd_Law_feed_23 : decode method_3_code 23 = .ok (.ireturn, 1) := by decide +kernel
theorem dd_Law_give_0 : decode method_4_code 0 = .ok (.aload_n 3, 1) := by decide +kernel
theorem dd_Law_give_1 : decode method_4_code 1 = .ok (.iconst 0, 1) := by decide +kernel
theorem dd_Law_give_2 : decode method_4_code 2 = .ok (.aload_n 0, 1) := by decide +kernel
theorem dd_Law_give_3 : decode method_4_code 3 = .ok (.lload_n 1, 1) := by decide +kernel
theorem dd_Law_give_4 : decode method_4_code 4 = .ok (.invokevirtual 17, 3) := by decide +kernel
theorem dd_Law_give_7 : decode method_4_code 7 = .ok (.i2l, 1) := by decide +kernel
theorem dd_Law_give_8 : decode method_4_code 8 = .ok (.lastore, 1) := by decide +kernel
theorem dd_Law_give_9 : decode method_4_code 9 = .ok (.goto 7, 3) := by decide +kernel
theorem dd_Law_give_12 : decode method_4_code 12 = .ok (.astore 4, 2) := by decide +kernel
theorem dd_Law_give_14 : decode method_4_code 14 = .ok (.iconst 1, 1) := by decide +kernel
theorem dd_Law_give_15 : decode method_4_code 15 = .ok (.ireturn, 1) := by decide +kernel
theorem dd_Law_give_16 : decode method_4_code 16 = .ok (.iconst 0, 1) := by decide +kernel
theorem dd_Law_give_17 : decode method_4_code 17 = .ok (.ireturn, 1) := by decide +kernel
theorem dd_Law_call_0 : decode method_5_code 0 = .ok (.aload_n 2, 1) := by decide +kernel
theorem dd_Law_call_1 : decode method_5_code 1 = .ok (.iconst 0, 1) := by decide +kernel
theorem dd_Law_call_2 : decode method_5_code 2 = .ok (.aload_n 0, 1) := by decide +kernel
theorem dd_Law_call_3 : decode method_5_code 3 = .ok (.iload_n 1, 1) := by decide +kernel
theorem dd_Law_call_4 : decode method_5_code 4 = .ok (.invokevirtual 21, 3) := by decide +kernel
theorem dd_Law_call_7 : decode method_5_code 7 = .ok (.i2l, 1) := by decide +kernel
theorem dd_Law_call_8 : decode method_5_code 8 = .ok (.lastore, 1) := by decide +kernel
theorem dd_Law_call_9 : decode method_5_code 9 = .ok (.goto 6, 3) := by decide +kernel
theorem dd_Law_call_12 : decode method_5_code 12 = .ok (.astore_n 3, 1) := by decide +kernel
theorem dd_Law_call_13 : decode method_5_code 13 = .ok (.iconst 1, 1) := by decide +kernel
theorem dd_Law_call_14 : decode method_5_code 14 = .ok (.ireturn, 1) := by decide +kernel
theorem dd_Law_call_15 : decode method_5_code 15 = .ok (.iconst 0, 1) := by decide +kernel
theorem dd_Law_call_16 : decode method_5_code 16 = .ok (.ireturn, 1) := by decide +kernel
theorem dd_Law_result_0 : decode method_6_code 0 = .ok (.aload_n 2, 1) := by decide +kernel
theorem dd_Law_result_1 : decode method_6_code 1 = .ok (.iconst 0, 1) := by decide +kernel
theorem dd_Law_result_2 : decode method_6_code 2 = .ok (.aload_n 0, 1) := by decide +kernel
theorem dd_Law_result_3 : decode method_6_code 3 = .ok (.iload_n 1, 1) := by decide +kernel
theorem dd_Law_result_4 : decode method_6_code 4 = .ok (.invokevirtual 25, 3) := by decide +kernel
theorem dd_Law_result_7 : decode method_6_code 7 = .ok (.lastore, 1) := by decide +kernel
theorem dd_Law_result_8 : decode method_6_code 8 = .ok (.goto 6, 3) := by decide +kernel
theorem dd_Law_result_11 : decode method_6_code 11 = .ok (.astore_n 3, 1) := by decide +kernel
theorem dd_Law_result_12 : decode method_6_code 12 = .ok (.iconst 1, 1) := by decide +kernel
theorem dd_Law_result_13 : decode method_6_code 13 = .ok (.ireturn, 1) := by decide +kernel
theorem dd_Law_result_14 : decode method_6_code 14 = .ok (.iconst 0, 1) := by decide +kernel
theorem dd_Law_result_15 : decode method_6_code 15 = .ok (.ireturn, 1) := by decide +kernel
theorem dd_Law_global_0 : decode method_7_code 0 = .ok (.aload_n 2, 1) := by decide +kernel
theorem dd_Law_global_1 : decode method_7_code 1 = .ok (.iconst 0, 1) := by decide +kernel
theorem dd_Law_global_2 : decode method_7_code 2 = .ok (.aload_n 0, 1) := by decide +kernel
theorem dd_Law_global_3 : decode method_7_code 3 = .ok (.iload_n 1, 1) := by decide +kernel
theorem dd_Law_global_4 : decode method_7_code 4 = .ok (.invokevirtual 31, 3) := by decide +kernel
theorem dd_Law_global_7 : decode method_7_code 7 = .ok (.lastore, 1) := by decide +kernel
theorem dd_Law_global_8 : decode method_7_code 8 = .ok (.goto 6, 3) := by decide +kernel
theorem dd_Law_global_11 : decode method_7_code 11 = .ok (.astore_n 3, 1) := by decide +kernel
theorem dd_Law_global_12 : decode method_7_code 12 = .ok (.iconst 1, 1) := by decide +kernel
theorem dd_Law_global_13 : decode method_7_code 13 = .ok (.ireturn, 1) := by decide +kernel
theorem dd_Law_global_14 : decode method_7_code 14 = .ok (.iconst 0, 1) := by decide +kernel
theorem dd_Law_global_15 : decode method_7_code 15 = .ok (.ireturn, 1) := by decide +kernel
theorem dd_Law_at_0 : decode method_8_code 0 = .ok (.aload_n 2, 1) := by decide +kernel
theorem dd_Law_at_1 : decode method_8_code 1 = .ok (.iconst 0, 1) := by decide +kernel
theorem dd_Law_at_2 : decode method_8_code 2 = .ok (.aload_n 0, 1) := by decide +kernel
theorem dd_Law_at_3 : decode method_8_code 3 = .ok (.iload_n 1, 1) := by decide +kernel
theorem dd_Law_at_4 : decode method_8_code 4 = .ok (.invokevirtual 34, 3) := by decide +kernel
theorem dd_Law_at_7 : decode method_8_code 7 = .ok (.i2l, 1) := by decide +kernel
theorem dd_Law_at_8 : decode method_8_code 8 = .ok (.lastore, 1) := by decide +kernel
theorem dd_Law_at_9 : decode method_8_code 9 = .ok (.goto 6, 3) := by decide +kernel
theorem dd_Law_at_12 : decode method_8_code 12 = .ok (.astore_n 3, 1) := by decide +kernel
theorem dd_Law_at_13 : decode method_8_code 13 = .ok (.iconst 1, 1) := by decide +kernel
theorem dd_Law_at_14 : decode method_8_code 14 = .ok (.ireturn, 1) := by decide +kernel
theorem dd_Law_at_15 : decode method_8_code 15 = .ok (.iconst 0, 1) := by decide +kernel
theorem dd_Law_at_16 : decode method_8_code 16 = .ok (.ireturn, 1) := by decide +kernel
theorem dd_Law_look_0 : decode method_9_code 0 = .ok (.aload_n 2, 1) := by decide +kernel
theorem dd_Law_look_1 : decode method_9_code 1 = .ok (.iconst 0, 1) := by decide +kernel
theorem dd_Law_look_2 : decode method_9_code 2 = .ok (.aload_n 0, 1) := by decide +kernel
theorem dd_Law_look_3 : decode method_9_code 3 = .ok (.iload_n 1, 1) := by decide +kernel
theorem dd_Law_look_4 : decode method_9_code 4 = .ok (.invokevirtual 37, 3) := by decide +kernel
theorem dd_Law_look_7 : decode method_9_code 7 = .ok (.i2l, 1) := by decide +kernel
theorem dd_Law_look_8 : decode method_9_code 8 = .ok (.lastore, 1) := by decide +kernel
theorem dd_Law_look_9 : decode method_9_code 9 = .ok (.goto 6, 3) := by decide +kernel
theorem dd_Law_look_12 : decode method_9_code 12 = .ok (.astore_n 3, 1) := by decide +kernel
theorem dd_Law_look_13 : decode method_9_code 13 = .ok (.iconst 1, 1) := by decide +kernel
theorem dd_Law_look_14 : decode method_9_code 14 = .ok (.ireturn, 1) := by decide +kernel
theorem dd_Law_look_15 : decode method_9_code 15 = .ok (.iconst 0, 1) := by decide +kernel
theorem dd_Law_look_16 : decode method_9_code 16 = .ok (.ireturn, 1) := by decide +kernel
