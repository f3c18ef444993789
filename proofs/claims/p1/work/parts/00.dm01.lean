theorem dd_Model_thrown_0 : decode prog_14_method_2_code 0 = .ok (.aload_n 0, 1) := by decide +kernel
theorem dd_Model_thrown_1 : decode prog_14_method_2_code 1 = .ok (.getfield 161, 3) := by decide +kernel
theorem dd_Model_thrown_4 : decode prog_14_method_2_code 4 = .ok (.ireturn, 1) := by decide +kernel
theorem dd_Model_in_0 : decode prog_14_method_20_code 0 = .ok (.lload_n 0, 1) := by decide +kernel
theorem dd_Model_in_1 : decode prog_14_method_20_code 1 = .ok (.lload_n 2, 1) := by decide +kernel
theorem dd_Model_in_2 : decode prog_14_method_20_code 2 = .ok (.lcmp, 1) := by decide +kernel
theorem dd_Model_in_3 : decode prog_14_method_20_code 3 = .ok (.ifCond .lt 14, 3) := by decide +kernel
theorem dd_Model_in_6 : decode prog_14_method_20_code 6 = .ok (.lload_n 0, 1) := by decide +kernel
theorem dd_Model_in_7 : decode prog_14_method_20_code 7 = .ok (.lload 4, 2) := by decide +kernel
theorem dd_Model_in_9 : decode prog_14_method_20_code 9 = .ok (.lcmp, 1) := by decide +kernel
theorem dd_Model_in_10 : decode prog_14_method_20_code 10 = .ok (.ifCond .gt 7, 3) := by decide +kernel
theorem dd_Model_in_13 : decode prog_14_method_20_code 13 = .ok (.iconst 1, 1) := by decide +kernel
theorem dd_Model_in_14 : decode prog_14_method_20_code 14 = .ok (.goto 4, 3) := by decide +kernel
theorem dd_Model_in_17 : decode prog_14_method_20_code 17 = .ok (.iconst 0, 1) := by decide +kernel
theorem dd_Model_in_18 : decode prog_14_method_20_code 18 = .ok (.ireturn, 1) := by decide +kernel
theorem dd_Model_fails_0 : decode prog_14_method_3_code 0 = .ok (.aload_n 0, 1) := by decide +kernel
theorem dd_Model_fails_1 : decode prog_14_method_3_code 1 = .ok (.iload_n 1, 1) := by decide +kernel
theorem dd_Model_fails_2 : decode prog_14_method_3_code 2 = .ok (.ifCond .eq 7, 3) := by decide +kernel
theorem dd_Model_fails_5 : decode prog_14_method_3_code 5 = .ok (.iload_n 2, 1) := by decide +kernel
theorem dd_Model_fails_6 : decode prog_14_method_3_code 6 = .ok (.goto 4, 3) := by decide +kernel
theorem dd_Model_fails_9 : decode prog_14_method_3_code 9 = .ok (.iconst 0, 1) := by decide +kernel
theorem dd_Model_fails_10 : decode prog_14_method_3_code 10 = .ok (.putfield 161, 3) := by decide +kernel
theorem dd_Model_fails_13 : decode prog_14_method_3_code 13 = .ok (.iload_n 1, 1) := by decide +kernel
theorem dd_Model_fails_14 : decode prog_14_method_3_code 14 = .ok (.ireturn, 1) := by decide +kernel
theorem dd_Model_feed_0 : decode prog_14_method_136_code 0 = .ok (.aload_n 0, 1) := by decide +kernel
theorem dd_Model_feed_1 : decode prog_14_method_136_code 1 = .ok (.iload_n 1, 1) := by decide +kernel
theorem dd_Model_feed_2 : decode prog_14_method_136_code 2 = .ok (.i2l, 1) := by decide +kernel
theorem dd_Model_feed_3 : decode prog_14_method_136_code 3 = .ok (.lconst 1, 1) := by decide +kernel
theorem dd_Model_feed_4 : decode prog_14_method_136_code 4 = .ok (.ldc2_w 822, 3) := by decide +kernel
theorem dd_Model_feed_7 : decode prog_14_method_136_code 7 = .ok (.invokestatic 219, 3) := by decide +kernel
theorem dd_Model_feed_10 : decode prog_14_method_136_code 10 = .ok (.ifCond .ne 7, 3) := by decide +kernel
theorem dd_Model_feed_13 : decode prog_14_method_136_code 13 = .ok (.iconst 1, 1) := by decide +kernel
theorem dd_Model_feed_14 : decode prog_14_method_136_code 14 = .ok (.goto 4, 3) := by decide +kernel
theorem dd_Model_feed_17 : decode prog_14_method_136_code 17 = .ok (.iconst 0, 1) := by decide +kernel
theorem dd_Model_feed_18 : decode prog_14_method_136_code 18 = .ok (.iconst 1, 1) := by decide +kernel
theorem dd_Model_feed_19 : decode prog_14_method_136_code 19 = .ok (.invokevirtual 824, 3) := by decide +kernel
theorem dd_Model_feed_22 : decode prog_14_method_136_code 22 = .ok (.ifCond .ne 28, 3) := by decide +kernel
theorem dd_Model_feed_25 : decode prog_14_method_136_code 25 = .ok (.aload_n 0, 1) := by decide +kernel
theorem dd_Model_feed_26 : decode prog_14_method_136_code 26 = .ok (.aload_n 0, 1) := by decide +kernel
theorem dd_Model_feed_27 : decode prog_14_method_136_code 27 = .ok (.getfield 828, 3) := by decide +kernel
theorem dd_Model_feed_30 : decode prog_14_method_136_code 30 = .ok (.iload_n 1, 1) := by decide +kernel
theorem dd_Model_feed_31 : decode prog_14_method_136_code 31 = .ok (.iadd, 1) := by decide +kernel
theorem dd_Model_feed_32 : decode prog_14_method_136_code 32 = .ok (.sipush 8192, 3) := by decide +kernel
theorem dd_Model_feed_35 : decode prog_14_method_136_code 35 = .ok (.if_icmp .le 7, 3) := by decide +kernel
theorem dd_Model_feed_38 : decode prog_14_method_136_code 38 = .ok (.iconst 1, 1) := by decide +kernel
theorem dd_Model_feed_39 : decode prog_14_method_136_code 39 = .ok (.goto 4, 3) := by decide +kernel
theorem dd_Model_feed_42 : decode prog_14_method_136_code 42 = .ok (.iconst 0, 1) := by decide +kernel
theorem dd_Model_feed_43 : decode prog_14_method_136_code 43 = .ok (.iconst 2, 1) := by decide +kernel
theorem dd_Model_feed_44 : decode prog_14_method_136_code 44 = .ok (.invokevirtual 824, 3) := by decide +kernel
theorem dd_Model_feed_47 : decode prog_14_method_136_code 47 = .ok (.ifCond .eq 5, 3) := by decide +kernel
theorem dd_Model_feed_50 : decode prog_14_method_136_code 50 = .ok (.iconst 0, 1) := by decide +kernel
theorem dd_Model_feed_51 : decode prog_14_method_136_code 51 = .ok (.ireturn, 1) := by decide +kernel
theorem dd_Model_feed_52 : decode prog_14_method_136_code 52 = .ok (.iconst 0, 1) := by decide +kernel
theorem dd_Model_feed_53 : decode prog_14_method_136_code 53 = .ok (.istore 4, 2) := by decide +kernel
theorem dd_Model_feed_55 : decode prog_14_method_136_code 55 = .ok (.iload 4, 2) := by decide +kernel
theorem dd_Model_feed_57 : decode prog_14_method_136_code 57 = .ok (.iload_n 1, 1) := by decide +kernel
theorem dd_Model_feed_58 : decode prog_14_method_136_code 58 = .ok (.if_icmp .ge 30, 3) := by decide +kernel
theorem dd_Model_feed_61 : decode prog_14_method_136_code 61 = .ok (.aload_n 0, 1) := by decide +kernel
theorem dd_Model_feed_62 : decode prog_14_method_136_code 62 = .ok (.getfield 7, 3) := by decide +kernel
theorem dd_Model_feed_65 : decode prog_14_method_136_code 65 = .ok (.aload_n 0, 1) := by decide +kernel
theorem dd_Model_feed_66 : decode prog_14_method_136_code 66 = .ok (.getfield 828, 3) := by decide +kernel
theorem dd_Model_feed_69 : decode prog_14_method_136_code 69 = .ok (.iload 4, 2) := by decide +kernel
theorem dd_Model_feed_71 : decode prog_14_method_136_code 71 = .ok (.iadd, 1) := by decide +kernel
theorem dd_Model_feed_72 : decode prog_14_method_136_code 72 = .ok (.lload_n 2, 1) := by decide +kernel
theorem dd_Model_feed_73 : decode prog_14_method_136_code 73 = .ok (.bipush 8, 2) := by decide +kernel
theorem dd_Model_feed_75 : decode prog_14_method_136_code 75 = .ok (.iload 4, 2) := by decide +kernel
theorem dd_Model_feed_77 : decode prog_14_method_136_code 77 = .ok (.imul, 1) := by decide +kernel
theorem dd_Model_feed_78 : decode prog_14_method_136_code 78 = .ok (.lshr, 1) := by decide +kernel
theorem dd_Model_feed_79 : decode prog_14_method_136_code 79 = .ok (.l2i, 1) := by decide +kernel
theorem dd_Model_feed_80 : decode prog_14_method_136_code 80 = .ok (.i2b, 1) := by decide +kernel
theorem dd_Model_feed_81 : decode prog_14_method_136_code 81 = .ok (.bastore, 1) := by decide +kernel
theorem dd_Model_feed_82 : decode prog_14_method_136_code 82 = .ok (.iinc 4 1, 3) := by decide +kernel
theorem dd_Model_feed_85 : decode prog_14_method_136_code 85 = .ok (.goto (-30), 3) := by decide +kernel
theorem dd_Model_feed_88 : decode prog_14_method_136_code 88 = .ok (.aload_n 0, 1) := by decide +kernel
theorem dd_Model_feed_89 : decode prog_14_method_136_code 89 = .ok (.dup, 1) := by decide +kernel
theorem dd_Model_feed_90 : decode prog_14_method_136_code 90 = .ok (.getfield 828, 3) := by decide +kernel
theorem dd_Model_feed_93 : decode prog_14_method_136_code 93 = .ok (.iload_n 1, 1) := by decide +kernel
theorem dd_Model_feed_94 : decode prog_14_method_136_code 94 = .ok (.iadd, 1) := by decide +kernel
theorem dd_Model_feed_95 : decode prog_14_method_136_code 95 = .ok (.putfield 828, 3) := by decide +kernel
theorem dd_Model_feed_98 : decode prog_14_method_136_code 98 = .ok (.aload_n 0, 1) := by decide +kernel
theorem dd_Model_feed_99 : decode prog_14_method_136_code 99 = .ok (.getfield 828, 3) := by decide +kernel
theorem dd_Model_feed_102 : decode prog_14_method_136_code 102 = .ok (.ireturn, 1) := by decide +kernel
theorem dd_Model_fail_0 : decode prog_14_method_8_code 0 = .ok (.aload_n 0, 1) := by decide +kernel
theorem dd_Model_fail_1 : decode prog_14_method_8_code 1 = .ok (.aload_n 0, 1) := by decide +kernel
theorem dd_Model_fail_2 : decode prog_14_method_8_code 2 = .ok (.getfield 165, 3) := by decide +kernel
theorem dd_Model_fail_5 : decode prog_14_method_8_code 5 = .ok (.ifCond .ne 7, 3) := by decide +kernel
theorem dd_Model_fail_8 : decode prog_14_method_8_code 8 = .ok (.iload_n 1, 1) := by decide +kernel
theorem dd_Model_fail_9 : decode prog_14_method_8_code 9 = .ok (.goto 7, 3) := by decide +kernel
theorem dd_Model_fail_12 : decode prog_14_method_8_code 12 = .ok (.aload_n 0, 1) := by decide +kernel
theorem dd_Model_fail_13 : decode prog_14_method_8_code 13 = .ok (.getfield 165, 3) := by decide +kernel
theorem dd_Model_fail_16 : decode prog_14_method_8_code 16 = .ok (.putfield 165, 3) := by decide +kernel
theorem dd_Model_fail_19 : decode prog_14_method_8_code 19 = .ok (.return_, 1) := by decide +kernel
theorem dd_Model_one_0 : decode prog_14_method_9_code 0 = .ok (.aload_n 0, 1) := by decide +kernel
theorem dd_Model_one_1 : decode prog_14_method_9_code 1 = .ok (.getfield 165, 3) := by decide +kernel
theorem dd_Model_one_4 : decode prog_14_method_9_code 4 = .ok (.ifCond .ne 14, 3) := by decide +kernel
theorem dd_Model_one_7 : decode prog_14_method_9_code 7 = .ok (.aload_n 0, 1) := by decide +kernel
theorem dd_Model_one_8 : decode prog_14_method_9_code 8 = .ok (.getfield 168, 3) := by decide +kernel
theorem dd_Model_one_11 : decode prog_14_method_9_code 11 = .ok (.aload_n 0, 1) := by decide +kernel
theorem dd_Model_one_12 : decode prog_14_method_9_code 12 = .ok (.getfield 171, 3) := by decide +kernel
theorem dd_Model_one_15 : decode prog_14_method_9_code 15 = .ok (.if_icmp .lt 10, 3) := by decide +kernel
theorem dd_Model_one_18 : decode prog_14_method_9_code 18 = .ok (.aload_n 0, 1) := by decide +kernel
theorem dd_Model_one_19 : decode prog_14_method_9_code 19 = .ok (.iconst (-1), 1) := by decide +kernel
theorem dd_Model_one_20 : decode prog_14_method_9_code 20 = .ok (.invokevirtual 174, 3) := by decide +kernel
theorem dd_Model_one_23 : decode prog_14_method_9_code 23 = .ok (.iconst 0, 1) := by decide +kernel
theorem dd_Model_one_24 : decode prog_14_method_9_code 24 = .ok (.ireturn, 1) := by decide +kernel
theorem dd_Model_one_25 : decode prog_14_method_9_code 25 = .ok (.aload_n 0, 1) := by decide +kernel
theorem dd_Model_one_26 : decode prog_14_method_9_code 26 = .ok (.dup, 1) := by decide +kernel
theorem dd_Model_one_27 : decode prog_14_method_9_code 27 = .ok (.getfield 168, 3) := by decide +kernel
theorem dd_Model_one_30 : decode prog_14_method_9_code 30 = .ok (.iconst 1, 1) := by decide +kernel
theorem dd_Model_one_31 : decode prog_14_method_9_code 31 = .ok (.iadd, 1) := by decide +kernel
theorem dd_Model_one_32 : decode prog_14_method_9_code 32 = .ok (.putfield 168, 3) := by decide +kernel
theorem dd_Model_one_35 : decode prog_14_method_9_code 35 = .ok (.aload_n 0, 1) := by decide +kernel
theorem dd_Model_one_36 : decode prog_14_method_9_code 36 = .ok (.getfield 17, 3) := by decide +kernel
theorem dd_Model_one_39 : decode prog_14_method_9_code 39 = .ok (.aload_n 0, 1) := by decide +kernel
theorem dd_Model_one_40 : decode prog_14_method_9_code 40 = .ok (.getfield 168, 3) := by decide +kernel
theorem dd_Model_one_43 : decode prog_14_method_9_code 43 = .ok (.iconst 1, 1) := by decide +kernel
theorem dd_Model_one_44 : decode prog_14_method_9_code 44 = .ok (.isub, 1) := by decide +kernel
theorem dd_Model_one_45 : decode prog_14_method_9_code 45 = .ok (.baload, 1) := by decide +kernel
theorem dd_Model_one_46 : decode prog_14_method_9_code 46 = .ok (.sipush 255, 3) := by decide +kernel
theorem dd_Model_one_49 : decode prog_14_method_9_code 49 = .ok (.iand, 1) := by decide +kernel
theorem dd_Model_one_50 : decode prog_14_method_9_code 50 = .ok (.ireturn, 1) := by decide +kernel
theorem dd_Model_number_0 : decode prog_14_method_11_code 0 = .ok (.lconst 0, 1) := by decide +kernel
theorem dd_Model_number_1 : decode prog_14_method_11_code 1 = .ok (.lstore_n 1, 1) := by decide +kernel
theorem dd_Model_number_2 : decode prog_14_method_11_code 2 = .ok (.sipush 128, 3) := by decide +kernel
theorem dd_Model_number_5 : decode prog_14_method_11_code 5 = .ok (.istore_n 3, 1) := by decide +kernel
theorem dd_Model_number_6 : decode prog_14_method_11_code 6 = .ok (.iconst 0, 1) := by decide +kernel
theorem dd_Model_number_7 : decode prog_14_method_11_code 7 = .ok (.istore 4, 2) := by decide +kernel
theorem dd_Model_number_9 : decode prog_14_method_11_code 9 = .ok (.iload 4, 2) := by decide +kernel
theorem dd_Model_number_11 : decode prog_14_method_11_code 11 = .ok (.iconst 5, 1) := by decide +kernel
theorem dd_Model_number_12 : decode prog_14_method_11_code 12 = .ok (.if_icmp .ge 34, 3) := by decide +kernel
theorem dd_Model_number_15 : decode prog_14_method_11_code 15 = .ok (.iload_n 3, 1) := by decide +kernel
theorem dd_Model_number_16 : decode prog_14_method_11_code 16 = .ok (.bipush 127, 2) := by decide +kernel
theorem dd_Model_number_18 : decode prog_14_method_11_code 18 = .ok (.if_icmp .le 28, 3) := by decide +kernel
theorem dd_Model_number_21 : decode prog_14_method_11_code 21 = .ok (.aload_n 0, 1) := by decide +kernel
theorem dd_Model_number_22 : decode prog_14_method_11_code 22 = .ok (.invokevirtual 178, 3) := by decide +kernel
theorem dd_Model_number_25 : decode prog_14_method_11_code 25 = .ok (.istore_n 3, 1) := by decide +kernel
theorem dd_Model_number_26 : decode prog_14_method_11_code 26 = .ok (.lload_n 1, 1) := by decide +kernel
theorem dd_Model_number_27 : decode prog_14_method_11_code 27 = .ok (.iload_n 3, 1) := by decide +kernel
theorem dd_Model_number_28 : decode prog_14_method_11_code 28 = .ok (.bipush 127, 2) := by decide +kernel
theorem dd_Model_number_30 : decode prog_14_method_11_code 30 = .ok (.iand, 1) := by decide +kernel
theorem dd_Model_number_31 : decode prog_14_method_11_code 31 = .ok (.i2l, 1) := by decide +kernel
theorem dd_Model_number_32 : decode prog_14_method_11_code 32 = .ok (.bipush 7, 2) := by decide +kernel
theorem dd_Model_number_34 : decode prog_14_method_11_code 34 = .ok (.iload 4, 2) := by decide +kernel
theorem dd_Model_number_36 : decode prog_14_method_11_code 36 = .ok (.imul, 1) := by decide +kernel
theorem dd_Model_number_37 : decode prog_14_method_11_code 37 = .ok (.lshl, 1) := by decide +kernel
theorem dd_Model_number_38 : decode prog_14_method_11_code 38 = .ok (.lor, 1) := by decide +kernel
theorem dd_Model_number_39 : decode prog_14_method_11_code 39 = .ok (.lstore_n 1, 1) := by decide +kernel
theorem dd_Model_number_40 : decode prog_14_method_11_code 40 = .ok (.iinc 4 1, 3) := by decide +kernel
theorem dd_Model_number_43 : decode prog_14_method_11_code 43 = .ok (.goto (-34), 3) := by decide +kernel
theorem dd_Model_number_46 : decode prog_14_method_11_code 46 = .ok (.iload_n 3, 1) := by decide +kernel
theorem dd_Model_number_47 : decode prog_14_method_11_code 47 = .ok (.bipush 127, 2) := by decide +kernel
theorem dd_Model_number_49 : decode prog_14_method_11_code 49 = .ok (.if_icmp .gt 11, 3) := by decide +kernel
theorem dd_Model_number_52 : decode prog_14_method_11_code 52 = .ok (.lload_n 1, 1) := by decide +kernel
theorem dd_Model_number_53 : decode prog_14_method_11_code 53 = .ok (.ldc2_w 182, 3) := by decide +kernel
theorem dd_Model_number_56 : decode prog_14_method_11_code 56 = .ok (.lcmp, 1) := by decide +kernel
theorem dd_Model_number_57 : decode prog_14_method_11_code 57 = .ok (.ifCond .le 8, 3) := by decide +kernel
theorem dd_Model_number_60 : decode prog_14_method_11_code 60 = .ok (.aload_n 0, 1) := by decide +kernel
theorem dd_Model_number_61 : decode prog_14_method_11_code 61 = .ok (.iconst (-1), 1) := by decide +kernel
theorem dd_Model_number_62 : decode prog_14_method_11_code 62 = .ok (.invokevirtual 174, 3) := by decide +kernel
theorem dd_Model_number_65 : decode prog_14_method_11_code 65 = .ok (.aload_n 0, 1) := by decide +kernel
theorem dd_Model_number_66 : decode prog_14_method_11_code 66 = .ok (.getfield 165, 3) := by decide +kernel
theorem dd_Model_number_69 : decode prog_14_method_11_code 69 = .ok (.ifCond .ne 7, 3) := by decide +kernel
theorem dd_Model_number_72 : decode prog_14_method_11_code 72 = .ok (.lload_n 1, 1) := by decide +kernel
theorem dd_Model_number_73 : decode prog_14_method_11_code 73 = .ok (.goto 4, 3) := by decide +kernel
theorem dd_Model_number_76 : decode prog_14_method_11_code 76 = .ok (.lconst 0, 1) := by decide +kernel
theorem dd_Model_number_77 : decode prog_14_method_11_code 77 = .ok (.lreturn, 1) := by decide +kernel
theorem dd_Model_ahead_0 : decode prog_14_method_10_code 0 = .ok (.aload_n 0, 1) := by decide +kernel
theorem dd_Model_ahead_1 : decode prog_14_method_10_code 1 = .ok (.getfield 168, 3) := by decide +kernel
theorem dd_Model_ahead_4 : decode prog_14_method_10_code 4 = .ok (.aload_n 0, 1) := by decide +kernel
theorem dd_Model_ahead_5 : decode prog_14_method_10_code 5 = .ok (.getfield 171, 3) := by decide +kernel
theorem dd_Model_ahead_8 : decode prog_14_method_10_code 8 = .ok (.if_icmp .ge 19, 3) := by decide +kernel
theorem dd_Model_ahead_11 : decode prog_14_method_10_code 11 = .ok (.aload_n 0, 1) := by decide +kernel
theorem dd_Model_ahead_12 : decode prog_14_method_10_code 12 = .ok (.getfield 17, 3) := by decide +kernel
theorem dd_Model_ahead_15 : decode prog_14_method_10_code 15 = .ok (.aload_n 0, 1) := by decide +kernel
theorem dd_Model_ahead_16 : decode prog_14_method_10_code 16 = .ok (.getfield 168, 3) := by decide +kernel
theorem dd_Model_ahead_19 : decode prog_14_method_10_code 19 = .ok (.baload, 1) := by decide +kernel
theorem dd_Model_ahead_20 : decode prog_14_method_10_code 20 = .ok (.sipush 255, 3) := by decide +kernel
theorem dd_Model_ahead_23 : decode prog_14_method_10_code 23 = .ok (.iand, 1) := by decide +kernel
theorem dd_Model_ahead_24 : decode prog_14_method_10_code 24 = .ok (.goto 4, 3) := by decide +kernel
theorem dd_Model_ahead_27 : decode prog_14_method_10_code 27 = .ok (.iconst (-1), 1) := by decide +kernel
theorem dd_Model_ahead_28 : decode prog_14_method_10_code 28 = .ok (.ireturn, 1) := by decide +kernel
theorem dd_Model_isTypeByte_0 : decode prog_14_method_16_code 0 = .ok (.iload_n 0, 1) := by decide +kernel
theorem dd_Model_isTypeByte_1 : decode prog_14_method_16_code 1 = .ok (.bipush 127, 2) := by decide +kernel
theorem dd_Model_isTypeByte_3 : decode prog_14_method_16_code 3 = .ok (.if_icmp .eq 33, 3) := by decide +kernel
theorem dd_Model_isTypeByte_6 : decode prog_14_method_16_code 6 = .ok (.iload_n 0, 1) := by decide +kernel
theorem dd_Model_isTypeByte_7 : decode prog_14_method_16_code 7 = .ok (.bipush 126, 2) := by decide +kernel
theorem dd_Model_isTypeByte_9 : decode prog_14_method_16_code 9 = .ok (.if_icmp .eq 27, 3) := by decide +kernel
theorem dd_Model_isTypeByte_12 : decode prog_14_method_16_code 12 = .ok (.iload_n 0, 1) := by decide +kernel
theorem dd_Model_isTypeByte_13 : decode prog_14_method_16_code 13 = .ok (.bipush 109, 2) := by decide +kernel
theorem dd_Model_isTypeByte_15 : decode prog_14_method_16_code 15 = .ok (.if_icmp .eq 21, 3) := by decide +kernel
theorem dd_Model_isTypeByte_18 : decode prog_14_method_16_code 18 = .ok (.iload_n 0, 1) := by decide +kernel
theorem dd_Model_isTypeByte_19 : decode prog_14_method_16_code 19 = .ok (.bipush 108, 2) := by decide +kernel
theorem dd_Model_isTypeByte_21 : decode prog_14_method_16_code 21 = .ok (.if_icmp .eq 15, 3) := by decide +kernel
theorem dd_Model_isTypeByte_24 : decode prog_14_method_16_code 24 = .ok (.iload_n 0, 1) := by decide +kernel
theorem dd_Model_isTypeByte_25 : decode prog_14_method_16_code 25 = .ok (.bipush 99, 2) := by decide +kernel
theorem dd_Model_isTypeByte_27 : decode prog_14_method_16_code 27 = .ok (.if_icmp .eq 9, 3) := by decide +kernel
theorem dd_Model_isTypeByte_30 : decode prog_14_method_16_code 30 = .ok (.iload_n 0, 1) := by decide +kernel
theorem dd_Model_isTypeByte_31 : decode prog_14_method_16_code 31 = .ok (.bipush 100, 2) := by decide +kernel
theorem dd_Model_isTypeByte_33 : decode prog_14_method_16_code 33 = .ok (.if_icmp .ne 7, 3) := by decide +kernel
theorem dd_Model_isTypeByte_36 : decode prog_14_method_16_code 36 = .ok (.iconst 1, 1) := by decide +kernel
theorem dd_Model_isTypeByte_37 : decode prog_14_method_16_code 37 = .ok (.goto 4, 3) := by decide +kernel
theorem dd_Model_isTypeByte_40 : decode prog_14_method_16_code 40 = .ok (.iconst 0, 1) := by decide +kernel
theorem dd_Model_isTypeByte_41 : decode prog_14_method_16_code 41 = .ok (.ireturn, 1) := by decide +kernel
theorem dd_Model_reference_0 : decode prog_14_method_5_code 0 = .ok (.bipush 16, 2) := by decide +kernel
theorem dd_Model_reference_2 : decode prog_14_method_5_code 2 = .ok (.iconst 2, 1) := by decide +kernel
theorem dd_Model_reference_3 : decode prog_14_method_5_code 3 = .ok (.iload_n 0, 1) := by decide +kernel
theorem dd_Model_reference_4 : decode prog_14_method_5_code 4 = .ok (.imul, 1) := by decide +kernel
theorem dd_Model_reference_5 : decode prog_14_method_5_code 5 = .ok (.iadd, 1) := by decide +kernel
theorem dd_Model_reference_6 : decode prog_14_method_5_code 6 = .ok (.iload_n 1, 1) := by decide +kernel
theorem dd_Model_reference_7 : decode prog_14_method_5_code 7 = .ok (.ifCond .eq 7, 3) := by decide +kernel
theorem dd_Model_reference_10 : decode prog_14_method_5_code 10 = .ok (.iconst 1, 1) := by decide +kernel
theorem dd_Model_reference_11 : decode prog_14_method_5_code 11 = .ok (.goto 4, 3) := by decide +kernel
theorem dd_Model_reference_14 : decode prog_14_method_5_code 14 = .ok (.iconst 0, 1) := by decide +kernel
theorem dd_Model_reference_15 : decode prog_14_method_5_code 15 = .ok (.iadd, 1) := by decide +kernel
theorem dd_Model_reference_16 : decode prog_14_method_5_code 16 = .ok (.ireturn, 1) := by decide +kernel
theorem dd_Model_sx_0 : decode prog_14_method_4_code 0 = .ok (.lload_n 0, 1) := by decide +kernel
theorem dd_Model_sx_1 : decode prog_14_method_4_code 1 = .ok (.bipush 64, 2) := by decide +kernel
theorem dd_Model_sx_3 : decode prog_14_method_4_code 3 = .ok (.iload_n 2, 1) := by decide +kernel
theorem dd_Model_sx_4 : decode prog_14_method_4_code 4 = .ok (.isub, 1) := by decide +kernel
theorem dd_Model_sx_5 : decode prog_14_method_4_code 5 = .ok (.lshl, 1) := by decide +kernel
theorem dd_Model_sx_6 : decode prog_14_method_4_code 6 = .ok (.bipush 64, 2) := by decide +kernel
theorem dd_Model_sx_8 : decode prog_14_method_4_code 8 = .ok (.iload_n 2, 1) := by decide +kernel
theorem dd_Model_sx_9 : decode prog_14_method_4_code 9 = .ok (.isub, 1) := by decide +kernel
theorem dd_Model_sx_10 : decode prog_14_method_4_code 10 = .ok (.lshr, 1) := by decide +kernel
theorem dd_Model_sx_11 : decode prog_14_method_4_code 11 = .ok (.lreturn, 1) := by decide +kernel
theorem dd_Model_signed_0 : decode prog_14_method_12_code 0 = .ok (.lconst 0, 1) := by decide +kernel
theorem dd_Model_signed_1 : decode prog_14_method_12_code 1 = .ok (.lstore_n 2, 1) := by decide +kernel
theorem dd_Model_signed_2 : decode prog_14_method_12_code 2 = .ok (.sipush 128, 3) := by decide +kernel
theorem dd_Model_signed_5 : decode prog_14_method_12_code 5 = .ok (.istore 4, 2) := by decide +kernel
theorem dd_Model_signed_7 : decode prog_14_method_12_code 7 = .ok (.iconst 0, 1) := by decide +kernel
theorem dd_Model_signed_8 : decode prog_14_method_12_code 8 = .ok (.istore 5, 2) := by decide +kernel
theorem dd_Model_signed_10 : decode prog_14_method_12_code 10 = .ok (.iload 4, 2) := by decide +kernel
theorem dd_Model_signed_12 : decode prog_14_method_12_code 12 = .ok (.bipush 127, 2) := by decide +kernel
theorem dd_Model_signed_14 : decode prog_14_method_12_code 14 = .ok (.if_icmp .le 64, 3) := by decide +kernel
theorem dd_Model_signed_17 : decode prog_14_method_12_code 17 = .ok (.iload 5, 2) := by decide +kernel
theorem dd_Model_signed_19 : decode prog_14_method_12_code 19 = .ok (.iload_n 1, 1) := by decide +kernel
theorem dd_Model_signed_20 : decode prog_14_method_12_code 20 = .ok (.if_icmp .ge 58, 3) := by decide +kernel
theorem dd_Model_signed_23 : decode prog_14_method_12_code 23 = .ok (.aload_n 0, 1) := by decide +kernel
theorem dd_Model_signed_24 : decode prog_14_method_12_code 24 = .ok (.getfield 165, 3) := by decide +kernel
theorem dd_Model_signed_27 : decode prog_14_method_12_code 27 = .ok (.ifCond .ne 51, 3) := by decide +kernel
theorem dd_Model_signed_30 : decode prog_14_method_12_code 30 = .ok (.aload_n 0, 1) := by decide +kernel
theorem dd_Model_signed_31 : decode prog_14_method_12_code 31 = .ok (.invokevirtual 178, 3) := by decide +kernel
theorem dd_Model_signed_34 : decode prog_14_method_12_code 34 = .ok (.istore 4, 2) := by decide +kernel
theorem dd_Model_signed_36 : decode prog_14_method_12_code 36 = .ok (.iload 5, 2) := by decide +kernel
theorem dd_Model_signed_38 : decode prog_14_method_12_code 38 = .ok (.bipush 63, 2) := by decide +kernel
theorem dd_Model_signed_40 : decode prog_14_method_12_code 40 = .ok (.if_icmp .ne 20, 3) := by decide +kernel
theorem dd_Model_signed_43 : decode prog_14_method_12_code 43 = .ok (.iload 4, 2) := by decide +kernel
theorem dd_Model_signed_45 : decode prog_14_method_12_code 45 = .ok (.ifCond .eq 15, 3) := by decide +kernel
theorem dd_Model_signed_48 : decode prog_14_method_12_code 48 = .ok (.iload 4, 2) := by decide +kernel
theorem dd_Model_signed_50 : decode prog_14_method_12_code 50 = .ok (.bipush 127, 2) := by decide +kernel
theorem dd_Model_signed_52 : decode prog_14_method_12_code 52 = .ok (.if_icmp .eq 8, 3) := by decide +kernel
theorem dd_Model_signed_55 : decode prog_14_method_12_code 55 = .ok (.aload_n 0, 1) := by decide +kernel
theorem dd_Model_signed_56 : decode prog_14_method_12_code 56 = .ok (.iconst (-1), 1) := by decide +kernel
theorem dd_Model_signed_57 : decode prog_14_method_12_code 57 = .ok (.invokevirtual 174, 3) := by decide +kernel
theorem dd_Model_signed_60 : decode prog_14_method_12_code 60 = .ok (.lload_n 2, 1) := by decide +kernel
theorem dd_Model_signed_61 : decode prog_14_method_12_code 61 = .ok (.iload 4, 2) := by decide +kernel
theorem dd_Model_signed_63 : decode prog_14_method_12_code 63 = .ok (.bipush 127, 2) := by decide +kernel
theorem dd_Model_signed_65 : decode prog_14_method_12_code 65 = .ok (.iand, 1) := by decide +kernel
theorem dd_Model_signed_66 : decode prog_14_method_12_code 66 = .ok (.i2l, 1) := by decide +kernel
theorem dd_Model_signed_67 : decode prog_14_method_12_code 67 = .ok (.iload 5, 2) := by decide +kernel
theorem dd_Model_signed_69 : decode prog_14_method_12_code 69 = .ok (.lshl, 1) := by decide +kernel
theorem dd_Model_signed_70 : decode prog_14_method_12_code 70 = .ok (.lor, 1) := by decide +kernel
theorem dd_Model_signed_71 : decode prog_14_method_12_code 71 = .ok (.lstore_n 2, 1) := by decide +kernel
theorem dd_Model_signed_72 : decode prog_14_method_12_code 72 = .ok (.iinc 5 7, 3) := by decide +kernel
theorem dd_Model_signed_75 : decode prog_14_method_12_code 75 = .ok (.goto (-65), 3) := by decide +kernel
theorem dd_Model_signed_78 : decode prog_14_method_12_code 78 = .ok (.iload 4, 2) := by decide +kernel
theorem dd_Model_signed_80 : decode prog_14_method_12_code 80 = .ok (.bipush 127, 2) := by decide +kernel
theorem dd_Model_signed_82 : decode prog_14_method_12_code 82 = .ok (.if_icmp .le 8, 3) := by decide +kernel
theorem dd_Model_signed_85 : decode prog_14_method_12_code 85 = .ok (.aload_n 0, 1) := by decide +kernel
theorem dd_Model_signed_86 : decode prog_14_method_12_code 86 = .ok (.iconst (-1), 1) := by decide +kernel
theorem dd_Model_signed_87 : decode prog_14_method_12_code 87 = .ok (.invokevirtual 174, 3) := by decide +kernel
theorem dd_Model_signed_90 : decode prog_14_method_12_code 90 = .ok (.iload 5, 2) := by decide +kernel
theorem dd_Model_signed_92 : decode prog_14_method_12_code 92 = .ok (.bipush 64, 2) := by decide +kernel
theorem dd_Model_signed_94 : decode prog_14_method_12_code 94 = .ok (.if_icmp .ge 20, 3) := by decide +kernel
theorem dd_Model_signed_97 : decode prog_14_method_12_code 97 = .ok (.iload 4, 2) := by decide +kernel
theorem dd_Model_signed_99 : decode prog_14_method_12_code 99 = .ok (.bipush 64, 2) := by decide +kernel
theorem dd_Model_signed_101 : decode prog_14_method_12_code 101 = .ok (.iand, 1) := by decide +kernel
theorem dd_Model_signed_102 : decode prog_14_method_12_code 102 = .ok (.ifCond .eq 12, 3) := by decide +kernel
theorem dd_Model_signed_105 : decode prog_14_method_12_code 105 = .ok (.lload_n 2, 1) := by decide +kernel
theorem dd_Model_signed_106 : decode prog_14_method_12_code 106 = .ok (.ldc2_w 184, 3) := by decide +kernel
theorem dd_Model_signed_109 : decode prog_14_method_12_code 109 = .ok (.iload 5, 2) := by decide +kernel
theorem dd_Model_signed_111 : decode prog_14_method_12_code 111 = .ok (.lshl, 1) := by decide +kernel
theorem dd_Model_signed_112 : decode prog_14_method_12_code 112 = .ok (.lor, 1) := by decide +kernel
theorem dd_Model_signed_113 : decode prog_14_method_12_code 113 = .ok (.lstore_n 2, 1) := by decide +kernel
theorem dd_Model_signed_114 : decode prog_14_method_12_code 114 = .ok (.iload_n 1, 1) := by decide +kernel
theorem dd_Model_signed_115 : decode prog_14_method_12_code 115 = .ok (.bipush 64, 2) := by decide +kernel
theorem dd_Model_signed_117 : decode prog_14_method_12_code 117 = .ok (.if_icmp .ge 18, 3) := by decide +kernel
theorem dd_Model_signed_120 : decode prog_14_method_12_code 120 = .ok (.lload_n 2, 1) := by decide +kernel
theorem dd_Model_signed_121 : decode prog_14_method_12_code 121 = .ok (.iload_n 1, 1) := by decide +kernel
theorem dd_Model_signed_122 : decode prog_14_method_12_code 122 = .ok (.invokestatic 186, 3) := by decide +kernel
theorem dd_Model_signed_125 : decode prog_14_method_12_code 125 = .ok (.lload_n 2, 1) := by decide +kernel
theorem dd_Model_signed_126 : decode prog_14_method_12_code 126 = .ok (.lcmp, 1) := by decide +kernel
theorem dd_Model_signed_127 : decode prog_14_method_12_code 127 = .ok (.ifCond .eq 8, 3) := by decide +kernel
theorem dd_Model_signed_130 : decode prog_14_method_12_code 130 = .ok (.aload_n 0, 1) := by decide +kernel
theorem dd_Model_signed_131 : decode prog_14_method_12_code 131 = .ok (.iconst (-1), 1) := by decide +kernel
theorem dd_Model_signed_132 : decode prog_14_method_12_code 132 = .ok (.invokevirtual 174, 3) := by decide +kernel
theorem dd_Model_signed_135 : decode prog_14_method_12_code 135 = .ok (.aload_n 0, 1) := by decide +kernel
theorem dd_Model_signed_136 : decode prog_14_method_12_code 136 = .ok (.getfield 165, 3) := by decide +kernel
theorem dd_Model_signed_139 : decode prog_14_method_12_code 139 = .ok (.ifCond .ne 7, 3) := by decide +kernel
theorem dd_Model_signed_142 : decode prog_14_method_12_code 142 = .ok (.lload_n 2, 1) := by decide +kernel
theorem dd_Model_signed_143 : decode prog_14_method_12_code 143 = .ok (.goto 4, 3) := by decide +kernel
theorem dd_Model_signed_146 : decode prog_14_method_12_code 146 = .ok (.lconst 0, 1) := by decide +kernel
theorem dd_Model_signed_147 : decode prog_14_method_12_code 147 = .ok (.lreturn, 1) := by decide +kernel
theorem dd_Model_target_0 : decode prog_14_method_15_code 0 = .ok (.aload_n 0, 1) := by decide +kernel
theorem dd_Model_target_1 : decode prog_14_method_15_code 1 = .ok (.invokevirtual 190, 3) := by decide +kernel
theorem dd_Model_target_4 : decode prog_14_method_15_code 4 = .ok (.istore_n 1, 1) := by decide +kernel
theorem dd_Model_target_5 : decode prog_14_method_15_code 5 = .ok (.iload_n 1, 1) := by decide +kernel
theorem dd_Model_target_6 : decode prog_14_method_15_code 6 = .ok (.bipush 109, 2) := by decide +kernel
theorem dd_Model_target_8 : decode prog_14_method_15_code 8 = .ok (.if_icmp .eq 9, 3) := by decide +kernel
theorem dd_Model_target_11 : decode prog_14_method_15_code 11 = .ok (.iload_n 1, 1) := by decide +kernel
theorem dd_Model_target_12 : decode prog_14_method_15_code 12 = .ok (.bipush 108, 2) := by decide +kernel
theorem dd_Model_target_14 : decode prog_14_method_15_code 14 = .ok (.if_icmp .ne 25, 3) := by decide +kernel
theorem dd_Model_target_17 : decode prog_14_method_15_code 17 = .ok (.aload_n 0, 1) := by decide +kernel
theorem dd_Model_target_18 : decode prog_14_method_15_code 18 = .ok (.dup, 1) := by decide +kernel
theorem dd_Model_target_19 : decode prog_14_method_15_code 19 = .ok (.getfield 168, 3) := by decide +kernel
theorem dd_Model_target_22 : decode prog_14_method_15_code 22 = .ok (.iconst 1, 1) := by decide +kernel
theorem dd_Model_target_23 : decode prog_14_method_15_code 23 = .ok (.iadd, 1) := by decide +kernel
theorem dd_Model_target_24 : decode prog_14_method_15_code 24 = .ok (.putfield 168, 3) := by decide +kernel
theorem dd_Model_target_27 : decode prog_14_method_15_code 27 = .ok (.iload_n 1, 1) := by decide +kernel
theorem dd_Model_target_28 : decode prog_14_method_15_code 28 = .ok (.bipush 109, 2) := by decide +kernel
theorem dd_Model_target_30 : decode prog_14_method_15_code 30 = .ok (.if_icmp .ne 7, 3) := by decide +kernel
theorem dd_Model_target_33 : decode prog_14_method_15_code 33 = .ok (.iconst 0, 1) := by decide +kernel
theorem dd_Model_target_34 : decode prog_14_method_15_code 34 = .ok (.goto 4, 3) := by decide +kernel
theorem dd_Model_target_37 : decode prog_14_method_15_code 37 = .ok (.iconst 1, 1) := by decide +kernel
theorem dd_Model_target_38 : decode prog_14_method_15_code 38 = .ok (.ireturn, 1) := by decide +kernel
theorem dd_Model_target_39 : decode prog_14_method_15_code 39 = .ok (.aload_n 0, 1) := by decide +kernel
theorem dd_Model_target_40 : decode prog_14_method_15_code 40 = .ok (.bipush 33, 2) := by decide +kernel
theorem dd_Model_target_42 : decode prog_14_method_15_code 42 = .ok (.invokevirtual 193, 3) := by decide +kernel
theorem dd_Model_target_45 : decode prog_14_method_15_code 45 = .ok (.lstore_n 2, 1) := by decide +kernel
theorem dd_Model_target_46 : decode prog_14_method_15_code 46 = .ok (.lload_n 2, 1) := by decide +kernel
theorem dd_Model_target_47 : decode prog_14_method_15_code 47 = .ok (.lconst 0, 1) := by decide +kernel
theorem dd_Model_target_48 : decode prog_14_method_15_code 48 = .ok (.lcmp, 1) := by decide +kernel
theorem dd_Model_target_49 : decode prog_14_method_15_code 49 = .ok (.ifCond .ge 8, 3) := by decide +kernel
theorem dd_Model_target_52 : decode prog_14_method_15_code 52 = .ok (.aload_n 0, 1) := by decide +kernel
theorem dd_Model_target_53 : decode prog_14_method_15_code 53 = .ok (.iconst (-1), 1) := by decide +kernel
theorem dd_Model_target_54 : decode prog_14_method_15_code 54 = .ok (.invokevirtual 174, 3) := by decide +kernel
theorem dd_Model_target_57 : decode prog_14_method_15_code 57 = .ok (.iconst 2, 1) := by decide +kernel
theorem dd_Model_target_58 : decode prog_14_method_15_code 58 = .ok (.lload_n 2, 1) := by decide +kernel
theorem dd_Model_target_59 : decode prog_14_method_15_code 59 = .ok (.ldc2_w 197, 3) := by decide +kernel
theorem dd_Model_target_62 : decode prog_14_method_15_code 62 = .ok (.lcmp, 1) := by decide +kernel
theorem dd_Model_target_63 : decode prog_14_method_15_code 63 = .ok (.ifCond .le 9, 3) := by decide +kernel
theorem dd_Model_target_66 : decode prog_14_method_15_code 66 = .ok (.ldc2_w 197, 3) := by decide +kernel
theorem dd_Model_target_69 : decode prog_14_method_15_code 69 = .ok (.goto 14, 3) := by decide +kernel
theorem dd_Model_target_72 : decode prog_14_method_15_code 72 = .ok (.lload_n 2, 1) := by decide +kernel
theorem dd_Model_target_73 : decode prog_14_method_15_code 73 = .ok (.lconst 0, 1) := by decide +kernel
theorem dd_Model_target_74 : decode prog_14_method_15_code 74 = .ok (.lcmp, 1) := by decide +kernel
theorem dd_Model_target_75 : decode prog_14_method_15_code 75 = .ok (.ifCond .ge 7, 3) := by decide +kernel
theorem dd_Model_target_78 : decode prog_14_method_15_code 78 = .ok (.lconst 0, 1) := by decide +kernel
theorem dd_Model_target_79 : decode prog_14_method_15_code 79 = .ok (.goto 4, 3) := by decide +kernel
theorem dd_Model_target_82 : decode prog_14_method_15_code 82 = .ok (.lload_n 2, 1) := by decide +kernel
theorem dd_Model_target_83 : decode prog_14_method_15_code 83 = .ok (.l2i, 1) := by decide +kernel
theorem dd_Model_target_84 : decode prog_14_method_15_code 84 = .ok (.iadd, 1) := by decide +kernel
theorem dd_Model_target_85 : decode prog_14_method_15_code 85 = .ok (.ireturn, 1) := by decide +kernel
theorem dd_Model_valueType_0 : decode prog_14_method_17_code 0 = .ok (.aload_n 0, 1) := by decide +kernel
theorem dd_Model_valueType_1 : decode prog_14_method_17_code 1 = .ok (.invokevirtual 178, 3) := by decide +kernel
theorem dd_Model_valueType_4 : decode prog_14_method_17_code 4 = .ok (.istore_n 1, 1) := by decide +kernel
theorem dd_Model_valueType_5 : decode prog_14_method_17_code 5 = .ok (.iload_n 1, 1) := by decide +kernel
theorem dd_Model_valueType_6 : decode prog_14_method_17_code 6 = .ok (.invokestatic 199, 3) := by decide +kernel
theorem dd_Model_valueType_9 : decode prog_14_method_17_code 9 = .ok (.ifCond .ne 8, 3) := by decide +kernel
theorem dd_Model_valueType_12 : decode prog_14_method_17_code 12 = .ok (.aload_n 0, 1) := by decide +kernel
theorem dd_Model_valueType_13 : decode prog_14_method_17_code 13 = .ok (.iconst (-1), 1) := by decide +kernel
theorem dd_Model_valueType_14 : decode prog_14_method_17_code 14 = .ok (.invokevirtual 174, 3) := by decide +kernel
theorem dd_Model_valueType_17 : decode prog_14_method_17_code 17 = .ok (.iload_n 1, 1) := by decide +kernel
theorem dd_Model_valueType_18 : decode prog_14_method_17_code 18 = .ok (.bipush 127, 2) := by decide +kernel
theorem dd_Model_valueType_20 : decode prog_14_method_17_code 20 = .ok (.if_icmp .eq 9, 3) := by decide +kernel
theorem dd_Model_valueType_23 : decode prog_14_method_17_code 23 = .ok (.iload_n 1, 1) := by decide +kernel
theorem dd_Model_valueType_24 : decode prog_14_method_17_code 24 = .ok (.bipush 126, 2) := by decide +kernel
theorem dd_Model_valueType_26 : decode prog_14_method_17_code 26 = .ok (.if_icmp .ne 15, 3) := by decide +kernel
theorem dd_Model_valueType_29 : decode prog_14_method_17_code 29 = .ok (.iload_n 1, 1) := by decide +kernel
theorem dd_Model_valueType_30 : decode prog_14_method_17_code 30 = .ok (.bipush 127, 2) := by decide +kernel
theorem dd_Model_valueType_32 : decode prog_14_method_17_code 32 = .ok (.if_icmp .ne 7, 3) := by decide +kernel
theorem dd_Model_valueType_35 : decode prog_14_method_17_code 35 = .ok (.iconst 1, 1) := by decide +kernel
theorem dd_Model_valueType_36 : decode prog_14_method_17_code 36 = .ok (.goto 4, 3) := by decide +kernel
theorem dd_Model_valueType_39 : decode prog_14_method_17_code 39 = .ok (.iconst 2, 1) := by decide +kernel
theorem dd_Model_valueType_40 : decode prog_14_method_17_code 40 = .ok (.ireturn, 1) := by decide +kernel
theorem dd_Model_valueType_41 : decode prog_14_method_17_code 41 = .ok (.iload_n 1, 1) := by decide +kernel
theorem dd_Model_valueType_42 : decode prog_14_method_17_code 42 = .ok (.bipush 109, 2) := by decide +kernel
theorem dd_Model_valueType_44 : decode prog_14_method_17_code 44 = .ok (.if_icmp .eq 9, 3) := by decide +kernel
theorem dd_Model_valueType_47 : decode prog_14_method_17_code 47 = .ok (.iload_n 1, 1) := by decide +kernel
theorem dd_Model_valueType_48 : decode prog_14_method_17_code 48 = .ok (.bipush 108, 2) := by decide +kernel
theorem dd_Model_valueType_50 : decode prog_14_method_17_code 50 = .ok (.if_icmp .ne 19, 3) := by decide +kernel
theorem dd_Model_valueType_53 : decode prog_14_method_17_code 53 = .ok (.iload_n 1, 1) := by decide +kernel
theorem dd_Model_valueType_54 : decode prog_14_method_17_code 54 = .ok (.bipush 109, 2) := by decide +kernel
theorem dd_Model_valueType_56 : decode prog_14_method_17_code 56 = .ok (.if_icmp .ne 7, 3) := by decide +kernel
theorem dd_Model_valueType_59 : decode prog_14_method_17_code 59 = .ok (.iconst 0, 1) := by decide +kernel
theorem dd_Model_valueType_60 : decode prog_14_method_17_code 60 = .ok (.goto 4, 3) := by decide +kernel
theorem dd_Model_valueType_63 : decode prog_14_method_17_code 63 = .ok (.iconst 1, 1) := by decide +kernel
theorem dd_Model_valueType_64 : decode prog_14_method_17_code 64 = .ok (.iconst 1, 1) := by decide +kernel
theorem dd_Model_valueType_65 : decode prog_14_method_17_code 65 = .ok (.invokestatic 203, 3) := by decide +kernel
theorem dd_Model_valueType_68 : decode prog_14_method_17_code 68 = .ok (.ireturn, 1) := by decide +kernel
theorem dd_Model_valueType_69 : decode prog_14_method_17_code 69 = .ok (.aload_n 0, 1) := by decide +kernel
theorem dd_Model_valueType_70 : decode prog_14_method_17_code 70 = .ok (.invokevirtual 207, 3) := by decide +kernel
theorem dd_Model_valueType_73 : decode prog_14_method_17_code 73 = .ok (.iload_n 1, 1) := by decide +kernel
theorem dd_Model_valueType_74 : decode prog_14_method_17_code 74 = .ok (.bipush 99, 2) := by decide +kernel
theorem dd_Model_valueType_76 : decode prog_14_method_17_code 76 = .ok (.if_icmp .ne 7, 3) := by decide +kernel
theorem dd_Model_valueType_79 : decode prog_14_method_17_code 79 = .ok (.iconst 1, 1) := by decide +kernel
theorem dd_Model_valueType_80 : decode prog_14_method_17_code 80 = .ok (.goto 4, 3) := by decide +kernel
theorem dd_Model_valueType_83 : decode prog_14_method_17_code 83 = .ok (.iconst 0, 1) := by decide +kernel
theorem dd_Model_valueType_84 : decode prog_14_method_17_code 84 = .ok (.invokestatic 203, 3) := by decide +kernel
theorem dd_Model_valueType_87 : decode prog_14_method_17_code 87 = .ok (.ireturn, 1) := by decide +kernel
theorem dd_Model_fieldType_0 : decode prog_14_method_18_code 0 = .ok (.aload_n 0, 1) := by decide +kernel
theorem dd_Model_fieldType_1 : decode prog_14_method_18_code 1 = .ok (.invokevirtual 190, 3) := by decide +kernel
theorem dd_Model_fieldType_4 : decode prog_14_method_18_code 4 = .ok (.istore_n 1, 1) := by decide +kernel
theorem dd_Model_fieldType_5 : decode prog_14_method_18_code 5 = .ok (.iload_n 1, 1) := by decide +kernel
theorem dd_Model_fieldType_6 : decode prog_14_method_18_code 6 = .ok (.bipush 120, 2) := by decide +kernel
theorem dd_Model_fieldType_8 : decode prog_14_method_18_code 8 = .ok (.if_icmp .eq 14, 3) := by decide +kernel
theorem dd_Model_fieldType_11 : decode prog_14_method_18_code 11 = .ok (.iload_n 1, 1) := by decide +kernel
theorem dd_Model_fieldType_12 : decode prog_14_method_18_code 12 = .ok (.bipush 119, 2) := by decide +kernel
theorem dd_Model_fieldType_14 : decode prog_14_method_18_code 14 = .ok (.if_icmp .eq 8, 3) := by decide +kernel
theorem dd_Model_fieldType_17 : decode prog_14_method_18_code 17 = .ok (.aload_n 0, 1) := by decide +kernel
theorem dd_Model_fieldType_18 : decode prog_14_method_18_code 18 = .ok (.invokevirtual 210, 3) := by decide +kernel
theorem dd_Model_fieldType_21 : decode prog_14_method_18_code 21 = .ok (.ireturn, 1) := by decide +kernel
theorem dd_Model_fieldType_22 : decode prog_14_method_18_code 22 = .ok (.aload_n 0, 1) := by decide +kernel
theorem dd_Model_fieldType_23 : decode prog_14_method_18_code 23 = .ok (.dup, 1) := by decide +kernel
theorem dd_Model_fieldType_24 : decode prog_14_method_18_code 24 = .ok (.getfield 168, 3) := by decide +kernel
theorem dd_Model_fieldType_27 : decode prog_14_method_18_code 27 = .ok (.iconst 1, 1) := by decide +kernel
theorem dd_Model_fieldType_28 : decode prog_14_method_18_code 28 = .ok (.iadd, 1) := by decide +kernel
theorem dd_Model_fieldType_29 : decode prog_14_method_18_code 29 = .ok (.putfield 168, 3) := by decide +kernel
theorem dd_Model_fieldType_32 : decode prog_14_method_18_code 32 = .ok (.iload_n 1, 1) := by decide +kernel
theorem dd_Model_fieldType_33 : decode prog_14_method_18_code 33 = .ok (.bipush 120, 2) := by decide +kernel
theorem dd_Model_fieldType_35 : decode prog_14_method_18_code 35 = .ok (.if_icmp .ne 7, 3) := by decide +kernel
theorem dd_Model_fieldType_38 : decode prog_14_method_18_code 38 = .ok (.iconst 3, 1) := by decide +kernel
theorem dd_Model_fieldType_39 : decode prog_14_method_18_code 39 = .ok (.goto 4, 3) := by decide +kernel
theorem dd_Model_fieldType_42 : decode prog_14_method_18_code 42 = .ok (.iconst 4, 1) := by decide +kernel
theorem dd_Model_fieldType_43 : decode prog_14_method_18_code 43 = .ok (.ireturn, 1) := by decide +kernel
theorem dd_Model_flag_0 : decode prog_14_method_13_code 0 = .ok (.aload_n 0, 1) := by decide +kernel
theorem dd_Model_flag_1 : decode prog_14_method_13_code 1 = .ok (.invokevirtual 178, 3) := by decide +kernel
theorem dd_Model_flag_4 : decode prog_14_method_13_code 4 = .ok (.istore_n 1, 1) := by decide +kernel
theorem dd_Model_flag_5 : decode prog_14_method_13_code 5 = .ok (.iload_n 1, 1) := by decide +kernel
theorem dd_Model_flag_6 : decode prog_14_method_13_code 6 = .ok (.iconst 1, 1) := by decide +kernel
theorem dd_Model_flag_7 : decode prog_14_method_13_code 7 = .ok (.if_icmp .le 8, 3) := by decide +kernel
theorem dd_Model_flag_10 : decode prog_14_method_13_code 10 = .ok (.aload_n 0, 1) := by decide +kernel
theorem dd_Model_flag_11 : decode prog_14_method_13_code 11 = .ok (.iconst (-1), 1) := by decide +kernel
theorem dd_Model_flag_12 : decode prog_14_method_13_code 12 = .ok (.invokevirtual 174, 3) := by decide +kernel
theorem dd_Model_flag_15 : decode prog_14_method_13_code 15 = .ok (.iload_n 1, 1) := by decide +kernel
theorem dd_Model_flag_16 : decode prog_14_method_13_code 16 = .ok (.ireturn, 1) := by decide +kernel
theorem dd_Model_valueRow_0 : decode prog_14_method_30_code 0 = .ok (.aload_n 0, 1) := by decide +kernel
theorem dd_Model_valueRow_1 : decode prog_14_method_30_code 1 = .ok (.invokevirtual 295, 3) := by decide +kernel
theorem dd_Model_valueRow_4 : decode prog_14_method_30_code 4 = .ok (.lstore_n 1, 1) := by decide +kernel
theorem dd_Model_valueRow_5 : decode prog_14_method_30_code 5 = .ok (.lload_n 1, 1) := by decide +kernel
theorem dd_Model_valueRow_6 : decode prog_14_method_30_code 6 = .ok (.lconst 0, 1) := by decide +kernel
theorem dd_Model_valueRow_7 : decode prog_14_method_30_code 7 = .ok (.lcmp, 1) := by decide +kernel
theorem dd_Model_valueRow_8 : decode prog_14_method_30_code 8 = .ok (.ifCond .le 22, 3) := by decide +kernel
theorem dd_Model_valueRow_11 : decode prog_14_method_30_code 11 = .ok (.aload_n 0, 1) := by decide +kernel
theorem dd_Model_valueRow_12 : decode prog_14_method_30_code 12 = .ok (.getfield 165, 3) := by decide +kernel
theorem dd_Model_valueRow_15 : decode prog_14_method_30_code 15 = .ok (.ifCond .ne 15, 3) := by decide +kernel
theorem dd_Model_valueRow_18 : decode prog_14_method_30_code 18 = .ok (.aload_n 0, 1) := by decide +kernel
theorem dd_Model_valueRow_19 : decode prog_14_method_30_code 19 = .ok (.invokevirtual 210, 3) := by decide +kernel
theorem dd_Model_valueRow_22 : decode prog_14_method_30_code 22 = .ok (.pop, 1) := by decide +kernel
theorem dd_Model_valueRow_23 : decode prog_14_method_30_code 23 = .ok (.lload_n 1, 1) := by decide +kernel
theorem dd_Model_valueRow_24 : decode prog_14_method_30_code 24 = .ok (.lconst 1, 1) := by decide +kernel
theorem dd_Model_valueRow_25 : decode prog_14_method_30_code 25 = .ok (.lsub, 1) := by decide +kernel
theorem dd_Model_valueRow_26 : decode prog_14_method_30_code 26 = .ok (.lstore_n 1, 1) := by decide +kernel
theorem dd_Model_valueRow_27 : decode prog_14_method_30_code 27 = .ok (.goto (-22), 3) := by decide +kernel
theorem dd_Model_valueRow_30 : decode prog_14_method_30_code 30 = .ok (.return_, 1) := by decide +kernel
theorem dd_Model_typeForm_0 : decode prog_14_method_31_code 0 = .ok (.aload_n 0, 1) := by decide +kernel
theorem dd_Model_typeForm_1 : decode prog_14_method_31_code 1 = .ok (.invokevirtual 178, 3) := by decide +kernel
theorem dd_Model_typeForm_4 : decode prog_14_method_31_code 4 = .ok (.istore_n 1, 1) := by decide +kernel
theorem dd_Model_typeForm_5 : decode prog_14_method_31_code 5 = .ok (.iload_n 1, 1) := by decide +kernel
theorem dd_Model_typeForm_6 : decode prog_14_method_31_code 6 = .ok (.bipush 96, 2) := by decide +kernel
theorem dd_Model_typeForm_8 : decode prog_14_method_31_code 8 = .ok (.if_icmp .ne 14, 3) := by decide +kernel
theorem dd_Model_typeForm_11 : decode prog_14_method_31_code 11 = .ok (.aload_n 0, 1) := by decide +kernel
theorem dd_Model_typeForm_12 : decode prog_14_method_31_code 12 = .ok (.invokevirtual 375, 3) := by decide +kernel
theorem dd_Model_typeForm_15 : decode prog_14_method_31_code 15 = .ok (.aload_n 0, 1) := by decide +kernel
theorem dd_Model_typeForm_16 : decode prog_14_method_31_code 16 = .ok (.invokevirtual 375, 3) := by decide +kernel
theorem dd_Model_typeForm_19 : decode prog_14_method_31_code 19 = .ok (.goto 74, 3) := by decide +kernel
theorem dd_Model_typeForm_22 : decode prog_14_method_31_code 22 = .ok (.iload_n 1, 1) := by decide +kernel
theorem dd_Model_typeForm_23 : decode prog_14_method_31_code 23 = .ok (.bipush 95, 2) := by decide +kernel
theorem dd_Model_typeForm_25 : decode prog_14_method_31_code 25 = .ok (.if_icmp .eq 9, 3) := by decide +kernel
theorem dd_Model_typeForm_28 : decode prog_14_method_31_code 28 = .ok (.iload_n 1, 1) := by decide +kernel
theorem dd_Model_typeForm_29 : decode prog_14_method_31_code 29 = .ok (.bipush 94, 2) := by decide +kernel
theorem dd_Model_typeForm_31 : decode prog_14_method_31_code 31 = .ok (.if_icmp .ne 57, 3) := by decide +kernel
theorem dd_Model_typeForm_34 : decode prog_14_method_31_code 34 = .ok (.iload_n 1, 1) := by decide +kernel
theorem dd_Model_typeForm_35 : decode prog_14_method_31_code 35 = .ok (.bipush 94, 2) := by decide +kernel
theorem dd_Model_typeForm_37 : decode prog_14_method_31_code 37 = .ok (.if_icmp .ne 7, 3) := by decide +kernel
theorem dd_Model_typeForm_40 : decode prog_14_method_31_code 40 = .ok (.lconst 1, 1) := by decide +kernel
theorem dd_Model_typeForm_41 : decode prog_14_method_31_code 41 = .ok (.goto 7, 3) := by decide +kernel
theorem dd_Model_typeForm_44 : decode prog_14_method_31_code 44 = .ok (.aload_n 0, 1) := by decide +kernel
theorem dd_Model_typeForm_45 : decode prog_14_method_31_code 45 = .ok (.invokevirtual 295, 3) := by decide +kernel
theorem dd_Model_typeForm_48 : decode prog_14_method_31_code 48 = .ok (.lstore_n 2, 1) := by decide +kernel
theorem dd_Model_typeForm_49 : decode prog_14_method_31_code 49 = .ok (.lconst 0, 1) := by decide +kernel
theorem dd_Model_typeForm_50 : decode prog_14_method_31_code 50 = .ok (.lstore 4, 2) := by decide +kernel
theorem dd_Model_typeForm_52 : decode prog_14_method_31_code 52 = .ok (.lload 4, 2) := by decide +kernel
theorem dd_Model_typeForm_54 : decode prog_14_method_31_code 54 = .ok (.lload_n 2, 1) := by decide +kernel
theorem dd_Model_typeForm_55 : decode prog_14_method_31_code 55 = .ok (.lcmp, 1) := by decide +kernel
theorem dd_Model_typeForm_56 : decode prog_14_method_31_code 56 = .ok (.ifCond .ge 29, 3) := by decide +kernel
theorem dd_Model_typeForm_59 : decode prog_14_method_31_code 59 = .ok (.aload_n 0, 1) := by decide +kernel
theorem dd_Model_typeForm_60 : decode prog_14_method_31_code 60 = .ok (.getfield 165, 3) := by decide +kernel
theorem dd_Model_typeForm_63 : decode prog_14_method_31_code 63 = .ok (.ifCond .ne 22, 3) := by decide +kernel
theorem dd_Model_typeForm_66 : decode prog_14_method_31_code 66 = .ok (.aload_n 0, 1) := by decide +kernel
theorem dd_Model_typeForm_67 : decode prog_14_method_31_code 67 = .ok (.invokevirtual 378, 3) := by decide +kernel
theorem dd_Model_typeForm_70 : decode prog_14_method_31_code 70 = .ok (.pop, 1) := by decide +kernel
theorem dd_Model_typeForm_71 : decode prog_14_method_31_code 71 = .ok (.aload_n 0, 1) := by decide +kernel
theorem dd_Model_typeForm_72 : decode prog_14_method_31_code 72 = .ok (.invokevirtual 357, 3) := by decide +kernel
theorem dd_Model_typeForm_75 : decode prog_14_method_31_code 75 = .ok (.pop, 1) := by decide +kernel
theorem dd_Model_typeForm_76 : decode prog_14_method_31_code 76 = .ok (.lload 4, 2) := by decide +kernel
theorem dd_Model_typeForm_78 : decode prog_14_method_31_code 78 = .ok (.lconst 1, 1) := by decide +kernel
theorem dd_Model_typeForm_79 : decode prog_14_method_31_code 79 = .ok (.ladd, 1) := by decide +kernel
theorem dd_Model_typeForm_80 : decode prog_14_method_31_code 80 = .ok (.lstore 4, 2) := by decide +kernel
theorem dd_Model_typeForm_82 : decode prog_14_method_31_code 82 = .ok (.goto (-30), 3) := by decide +kernel
theorem dd_Model_typeForm_85 : decode prog_14_method_31_code 85 = .ok (.goto 8, 3) := by decide +kernel
theorem dd_Model_typeForm_88 : decode prog_14_method_31_code 88 = .ok (.aload_n 0, 1) := by decide +kernel
theorem dd_Model_typeForm_89 : decode prog_14_method_31_code 89 = .ok (.iconst (-1), 1) := by decide +kernel
theorem dd_Model_typeForm_90 : decode prog_14_method_31_code 90 = .ok (.invokevirtual 174, 3) := by decide +kernel
theorem dd_Model_typeForm_93 : decode prog_14_method_31_code 93 = .ok (.return_, 1) := by decide +kernel
theorem dd_Model_needs_0 : decode prog_14_method_14_code 0 = .ok (.aload_n 0, 1) := by decide +kernel
theorem dd_Model_needs_1 : decode prog_14_method_14_code 1 = .ok (.invokevirtual 178, 3) := by decide +kernel
theorem dd_Model_needs_4 : decode prog_14_method_14_code 4 = .ok (.iload_n 1, 1) := by decide +kernel
theorem dd_Model_needs_5 : decode prog_14_method_14_code 5 = .ok (.if_icmp .eq 8, 3) := by decide +kernel
theorem dd_Model_needs_8 : decode prog_14_method_14_code 8 = .ok (.aload_n 0, 1) := by decide +kernel
theorem dd_Model_needs_9 : decode prog_14_method_14_code 9 = .ok (.iconst (-1), 1) := by decide +kernel
theorem dd_Model_needs_10 : decode prog_14_method_14_code 10 = .ok (.invokevirtual 174, 3) := by decide +kernel
theorem dd_Model_needs_13 : decode prog_14_method_14_code 13 = .ok (.return_, 1) := by decide +kernel
theorem dd_Model_place_0 : decode prog_14_method_34_code 0 = .ok (.aload_n 0, 1) := by decide +kernel
theorem dd_Model_place_1 : decode prog_14_method_34_code 1 = .ok (.iconst 0, 1) := by decide +kernel
theorem dd_Model_place_2 : decode prog_14_method_34_code 2 = .ok (.invokevirtual 308, 3) := by decide +kernel
theorem dd_Model_place_5 : decode prog_14_method_34_code 5 = .ok (.aload_n 0, 1) := by decide +kernel
theorem dd_Model_place_6 : decode prog_14_method_34_code 6 = .ok (.bipush 65, 2) := by decide +kernel
theorem dd_Model_place_8 : decode prog_14_method_34_code 8 = .ok (.invokevirtual 308, 3) := by decide +kernel
theorem dd_Model_place_11 : decode prog_14_method_34_code 11 = .ok (.aload_n 0, 1) := by decide +kernel
theorem dd_Model_place_12 : decode prog_14_method_34_code 12 = .ok (.aload_n 0, 1) := by decide +kernel
theorem dd_Model_place_13 : decode prog_14_method_34_code 13 = .ok (.bipush 32, 2) := by decide +kernel
theorem dd_Model_place_15 : decode prog_14_method_34_code 15 = .ok (.invokevirtual 193, 3) := by decide +kernel
theorem dd_Model_place_18 : decode prog_14_method_34_code 18 = .ok (.putfield 273, 3) := by decide +kernel
theorem dd_Model_place_21 : decode prog_14_method_34_code 21 = .ok (.aload_n 0, 1) := by decide +kernel
theorem dd_Model_place_22 : decode prog_14_method_34_code 22 = .ok (.bipush 11, 2) := by decide +kernel
theorem dd_Model_place_24 : decode prog_14_method_34_code 24 = .ok (.invokevirtual 308, 3) := by decide +kernel
theorem dd_Model_place_27 : decode prog_14_method_34_code 27 = .ok (.return_, 1) := by decide +kernel
theorem dd_Model_bytesForm_0 : decode prog_14_method_35_code 0 = .ok (.aload_n 0, 1) := by decide +kernel
theorem dd_Model_bytesForm_1 : decode prog_14_method_35_code 1 = .ok (.invokevirtual 295, 3) := by decide +kernel
theorem dd_Model_bytesForm_4 : decode prog_14_method_35_code 4 = .ok (.lstore_n 1, 1) := by decide +kernel
theorem dd_Model_bytesForm_5 : decode prog_14_method_35_code 5 = .ok (.lload_n 1, 1) := by decide +kernel
theorem dd_Model_bytesForm_6 : decode prog_14_method_35_code 6 = .ok (.aload_n 0, 1) := by decide +kernel
theorem dd_Model_bytesForm_7 : decode prog_14_method_35_code 7 = .ok (.getfield 171, 3) := by decide +kernel
theorem dd_Model_bytesForm_10 : decode prog_14_method_35_code 10 = .ok (.aload_n 0, 1) := by decide +kernel
theorem dd_Model_bytesForm_11 : decode prog_14_method_35_code 11 = .ok (.getfield 168, 3) := by decide +kernel
theorem dd_Model_bytesForm_14 : decode prog_14_method_35_code 14 = .ok (.isub, 1) := by decide +kernel
theorem dd_Model_bytesForm_15 : decode prog_14_method_35_code 15 = .ok (.i2l, 1) := by decide +kernel
theorem dd_Model_bytesForm_16 : decode prog_14_method_35_code 16 = .ok (.lcmp, 1) := by decide +kernel
theorem dd_Model_bytesForm_17 : decode prog_14_method_35_code 17 = .ok (.ifCond .le 8, 3) := by decide +kernel
theorem dd_Model_bytesForm_20 : decode prog_14_method_35_code 20 = .ok (.aload_n 0, 1) := by decide +kernel
theorem dd_Model_bytesForm_21 : decode prog_14_method_35_code 21 = .ok (.iconst (-1), 1) := by decide +kernel
theorem dd_Model_bytesForm_22 : decode prog_14_method_35_code 22 = .ok (.invokevirtual 174, 3) := by decide +kernel
theorem dd_Model_bytesForm_25 : decode prog_14_method_35_code 25 = .ok (.aload_n 0, 1) := by decide +kernel
theorem dd_Model_bytesForm_26 : decode prog_14_method_35_code 26 = .ok (.getfield 165, 3) := by decide +kernel
theorem dd_Model_bytesForm_29 : decode prog_14_method_35_code 29 = .ok (.ifCond .ne 14, 3) := by decide +kernel
theorem dd_Model_bytesForm_32 : decode prog_14_method_35_code 32 = .ok (.aload_n 0, 1) := by decide +kernel
theorem dd_Model_bytesForm_33 : decode prog_14_method_35_code 33 = .ok (.dup, 1) := by decide +kernel
theorem dd_Model_bytesForm_34 : decode prog_14_method_35_code 34 = .ok (.getfield 168, 3) := by decide +kernel
theorem dd_Model_bytesForm_37 : decode prog_14_method_35_code 37 = .ok (.lload_n 1, 1) := by decide +kernel
theorem dd_Model_bytesForm_38 : decode prog_14_method_35_code 38 = .ok (.l2i, 1) := by decide +kernel
theorem dd_Model_bytesForm_39 : decode prog_14_method_35_code 39 = .ok (.iadd, 1) := by decide +kernel
theorem dd_Model_bytesForm_40 : decode prog_14_method_35_code 40 = .ok (.putfield 168, 3) := by decide +kernel
theorem dd_Model_bytesForm_43 : decode prog_14_method_35_code 43 = .ok (.return_, 1) := by decide +kernel
theorem dd_Model_limits_0 : decode prog_14_method_32_code 0 = .ok (.aload_n 0, 1) := by decide +kernel
theorem dd_Model_limits_1 : decode prog_14_method_32_code 1 = .ok (.invokevirtual 357, 3) := by decide +kernel
theorem dd_Model_limits_4 : decode prog_14_method_32_code 4 = .ok (.istore_n 1, 1) := by decide +kernel
theorem dd_Model_limits_5 : decode prog_14_method_32_code 5 = .ok (.aload_n 0, 1) := by decide +kernel
theorem dd_Model_limits_6 : decode prog_14_method_32_code 6 = .ok (.aload_n 0, 1) := by decide +kernel
theorem dd_Model_limits_7 : decode prog_14_method_32_code 7 = .ok (.invokevirtual 295, 3) := by decide +kernel
theorem dd_Model_limits_10 : decode prog_14_method_32_code 10 = .ok (.putfield 273, 3) := by decide +kernel
theorem dd_Model_limits_13 : decode prog_14_method_32_code 13 = .ok (.aload_n 0, 1) := by decide +kernel
theorem dd_Model_limits_14 : decode prog_14_method_32_code 14 = .ok (.iload_n 1, 1) := by decide +kernel
theorem dd_Model_limits_15 : decode prog_14_method_32_code 15 = .ok (.iconst 1, 1) := by decide +kernel
theorem dd_Model_limits_16 : decode prog_14_method_32_code 16 = .ok (.if_icmp .ne 10, 3) := by decide +kernel
theorem dd_Model_limits_19 : decode prog_14_method_32_code 19 = .ok (.aload_n 0, 1) := by decide +kernel
theorem dd_Model_limits_20 : decode prog_14_method_32_code 20 = .ok (.invokevirtual 295, 3) := by decide +kernel
theorem dd_Model_limits_23 : decode prog_14_method_32_code 23 = .ok (.goto 6, 3) := by decide +kernel
theorem dd_Model_limits_26 : decode prog_14_method_32_code 26 = .ok (.ldc2_w 184, 3) := by decide +kernel
theorem dd_Model_limits_29 : decode prog_14_method_32_code 29 = .ok (.putfield 277, 3) := by decide +kernel
theorem dd_Model_limits_32 : decode prog_14_method_32_code 32 = .ok (.return_, 1) := by decide +kernel
theorem dd_Model_constant_0 : decode prog_14_method_33_code 0 = .ok (.aload_n 0, 1) := by decide +kernel
theorem dd_Model_constant_1 : decode prog_14_method_33_code 1 = .ok (.invokevirtual 178, 3) := by decide +kernel
theorem dd_Model_constant_4 : decode prog_14_method_33_code 4 = .ok (.istore_n 1, 1) := by decide +kernel
theorem dd_Model_constant_5 : decode prog_14_method_33_code 5 = .ok (.iconst 0, 1) := by decide +kernel
theorem dd_Model_constant_6 : decode prog_14_method_33_code 6 = .ok (.istore_n 2, 1) := by decide +kernel
theorem dd_Model_constant_7 : decode prog_14_method_33_code 7 = .ok (.aload_n 0, 1) := by decide +kernel
theorem dd_Model_constant_8 : decode prog_14_method_33_code 8 = .ok (.lconst 0, 1) := by decide +kernel
theorem dd_Model_constant_9 : decode prog_14_method_33_code 9 = .ok (.putfield 273, 3) := by decide +kernel
theorem dd_Model_constant_12 : decode prog_14_method_33_code 12 = .ok (.iload_n 1, 1) := by decide +kernel
theorem dd_Model_constant_13 : decode prog_14_method_33_code 13 = .ok (.bipush 65, 2) := by decide +kernel
theorem dd_Model_constant_15 : decode prog_14_method_33_code 15 = .ok (.if_icmp .eq 9, 3) := by decide +kernel
theorem dd_Model_constant_18 : decode prog_14_method_33_code 18 = .ok (.iload_n 1, 1) := by decide +kernel
theorem dd_Model_constant_19 : decode prog_14_method_33_code 19 = .ok (.bipush 66, 2) := by decide +kernel
theorem dd_Model_constant_21 : decode prog_14_method_33_code 21 = .ok (.if_icmp .ne 39, 3) := by decide +kernel
theorem dd_Model_constant_24 : decode prog_14_method_33_code 24 = .ok (.aload_n 0, 1) := by decide +kernel
theorem dd_Model_constant_25 : decode prog_14_method_33_code 25 = .ok (.aload_n 0, 1) := by decide +kernel
theorem dd_Model_constant_26 : decode prog_14_method_33_code 26 = .ok (.iload_n 1, 1) := by decide +kernel
theorem dd_Model_constant_27 : decode prog_14_method_33_code 27 = .ok (.bipush 65, 2) := by decide +kernel
theorem dd_Model_constant_29 : decode prog_14_method_33_code 29 = .ok (.if_icmp .ne 8, 3) := by decide +kernel
theorem dd_Model_constant_32 : decode prog_14_method_33_code 32 = .ok (.bipush 32, 2) := by decide +kernel
theorem dd_Model_constant_34 : decode prog_14_method_33_code 34 = .ok (.goto 5, 3) := by decide +kernel
theorem dd_Model_constant_37 : decode prog_14_method_33_code 37 = .ok (.bipush 64, 2) := by decide +kernel
theorem dd_Model_constant_39 : decode prog_14_method_33_code 39 = .ok (.invokevirtual 193, 3) := by decide +kernel
theorem dd_Model_constant_42 : decode prog_14_method_33_code 42 = .ok (.putfield 273, 3) := by decide +kernel
theorem dd_Model_constant_45 : decode prog_14_method_33_code 45 = .ok (.iload_n 1, 1) := by decide +kernel
theorem dd_Model_constant_46 : decode prog_14_method_33_code 46 = .ok (.bipush 65, 2) := by decide +kernel
theorem dd_Model_constant_48 : decode prog_14_method_33_code 48 = .ok (.if_icmp .ne 7, 3) := by decide +kernel
theorem dd_Model_constant_51 : decode prog_14_method_33_code 51 = .ok (.iconst 1, 1) := by decide +kernel
theorem dd_Model_constant_52 : decode prog_14_method_33_code 52 = .ok (.goto 4, 3) := by decide +kernel
theorem dd_Model_constant_55 : decode prog_14_method_33_code 55 = .ok (.iconst 2, 1) := by decide +kernel
theorem dd_Model_constant_56 : decode prog_14_method_33_code 56 = .ok (.istore_n 2, 1) := by decide +kernel
theorem dd_Model_constant_57 : decode prog_14_method_33_code 57 = .ok (.goto 27, 3) := by decide +kernel
theorem dd_Model_constant_60 : decode prog_14_method_33_code 60 = .ok (.iload_n 1, 1) := by decide +kernel
theorem dd_Model_constant_61 : decode prog_14_method_33_code 61 = .ok (.sipush 208, 3) := by decide +kernel
theorem dd_Model_constant_64 : decode prog_14_method_33_code 64 = .ok (.if_icmp .ne 15, 3) := by decide +kernel
theorem dd_Model_constant_67 : decode prog_14_method_33_code 67 = .ok (.aload_n 0, 1) := by decide +kernel
theorem dd_Model_constant_68 : decode prog_14_method_33_code 68 = .ok (.invokevirtual 207, 3) := by decide +kernel
theorem dd_Model_constant_71 : decode prog_14_method_33_code 71 = .ok (.iconst 1, 1) := by decide +kernel
theorem dd_Model_constant_72 : decode prog_14_method_33_code 72 = .ok (.invokestatic 203, 3) := by decide +kernel
theorem dd_Model_constant_75 : decode prog_14_method_33_code 75 = .ok (.istore_n 2, 1) := by decide +kernel
theorem dd_Model_constant_76 : decode prog_14_method_33_code 76 = .ok (.goto 8, 3) := by decide +kernel
theorem dd_Model_constant_79 : decode prog_14_method_33_code 79 = .ok (.aload_n 0, 1) := by decide +kernel
theorem dd_Model_constant_80 : decode prog_14_method_33_code 80 = .ok (.iconst (-1), 1) := by decide +kernel
theorem dd_Model_constant_81 : decode prog_14_method_33_code 81 = .ok (.invokevirtual 174, 3) := by decide +kernel
theorem dd_Model_constant_84 : decode prog_14_method_33_code 84 = .ok (.aload_n 0, 1) := by decide +kernel
theorem dd_Model_constant_85 : decode prog_14_method_33_code 85 = .ok (.bipush 11, 2) := by decide +kernel
theorem dd_Model_constant_87 : decode prog_14_method_33_code 87 = .ok (.invokevirtual 308, 3) := by decide +kernel
theorem dd_Model_constant_90 : decode prog_14_method_33_code 90 = .ok (.iload_n 2, 1) := by decide +kernel
theorem dd_Model_constant_91 : decode prog_14_method_33_code 91 = .ok (.ireturn, 1) := by decide +kernel
theorem dd_Model_exportForm_0 : decode prog_14_method_36_code 0 = .ok (.aload_n 0, 1) := by decide +kernel
theorem dd_Model_exportForm_1 : decode prog_14_method_36_code 1 = .ok (.invokevirtual 372, 3) := by decide +kernel
theorem dd_Model_exportForm_4 : decode prog_14_method_36_code 4 = .ok (.aload_n 0, 1) := by decide +kernel
theorem dd_Model_exportForm_5 : decode prog_14_method_36_code 5 = .ok (.invokevirtual 178, 3) := by decide +kernel
theorem dd_Model_exportForm_8 : decode prog_14_method_36_code 8 = .ok (.iconst 3, 1) := by decide +kernel
theorem dd_Model_exportForm_9 : decode prog_14_method_36_code 9 = .ok (.if_icmp .le 8, 3) := by decide +kernel
theorem dd_Model_exportForm_12 : decode prog_14_method_36_code 12 = .ok (.aload_n 0, 1) := by decide +kernel
theorem dd_Model_exportForm_13 : decode prog_14_method_36_code 13 = .ok (.iconst (-1), 1) := by decide +kernel
theorem dd_Model_exportForm_14 : decode prog_14_method_36_code 14 = .ok (.invokevirtual 174, 3) := by decide +kernel
theorem dd_Model_exportForm_17 : decode prog_14_method_36_code 17 = .ok (.aload_n 0, 1) := by decide +kernel
theorem dd_Model_exportForm_18 : decode prog_14_method_36_code 18 = .ok (.invokevirtual 295, 3) := by decide +kernel
theorem dd_Model_exportForm_21 : decode prog_14_method_36_code 21 = .ok (.pop2, 1) := by decide +kernel
theorem dd_Model_exportForm_22 : decode prog_14_method_36_code 22 = .ok (.return_, 1) := by decide +kernel
theorem dd_Model_isRefused_0 : decode prog_14_method_21_code 0 = .ok (.iload_n 0, 1) := by decide +kernel
theorem dd_Model_isRefused_1 : decode prog_14_method_21_code 1 = .ok (.i2l, 1) := by decide +kernel
theorem dd_Model_isRefused_2 : decode prog_14_method_21_code 2 = .ok (.ldc2_w 215, 3) := by decide +kernel
theorem dd_Model_isRefused_5 : decode prog_14_method_21_code 5 = .ok (.ldc2_w 217, 3) := by decide +kernel
theorem dd_Model_isRefused_8 : decode prog_14_method_21_code 8 = .ok (.invokestatic 219, 3) := by decide +kernel
theorem dd_Model_isRefused_11 : decode prog_14_method_21_code 11 = .ok (.ifCond .ne 73, 3) := by decide +kernel
theorem dd_Model_isRefused_14 : decode prog_14_method_21_code 14 = .ok (.iload_n 0, 1) := by decide +kernel
theorem dd_Model_isRefused_15 : decode prog_14_method_21_code 15 = .ok (.i2l, 1) := by decide +kernel
theorem dd_Model_isRefused_16 : decode prog_14_method_21_code 16 = .ok (.ldc2_w 223, 3) := by decide +kernel
theorem dd_Model_isRefused_19 : decode prog_14_method_21_code 19 = .ok (.ldc2_w 225, 3) := by decide +kernel
theorem dd_Model_isRefused_22 : decode prog_14_method_21_code 22 = .ok (.invokestatic 219, 3) := by decide +kernel
theorem dd_Model_isRefused_25 : decode prog_14_method_21_code 25 = .ok (.ifCond .ne 59, 3) := by decide +kernel
theorem dd_Model_isRefused_28 : decode prog_14_method_21_code 28 = .ok (.iload_n 0, 1) := by decide +kernel
theorem dd_Model_isRefused_29 : decode prog_14_method_21_code 29 = .ok (.i2l, 1) := by decide +kernel
theorem dd_Model_isRefused_30 : decode prog_14_method_21_code 30 = .ok (.ldc2_w 227, 3) := by decide +kernel
theorem dd_Model_isRefused_33 : decode prog_14_method_21_code 33 = .ok (.ldc2_w 229, 3) := by decide +kernel
theorem dd_Model_isRefused_36 : decode prog_14_method_21_code 36 = .ok (.invokestatic 219, 3) := by decide +kernel
theorem dd_Model_isRefused_39 : decode prog_14_method_21_code 39 = .ok (.ifCond .ne 45, 3) := by decide +kernel
theorem dd_Model_isRefused_42 : decode prog_14_method_21_code 42 = .ok (.iload_n 0, 1) := by decide +kernel
theorem dd_Model_isRefused_43 : decode prog_14_method_21_code 43 = .ok (.i2l, 1) := by decide +kernel
theorem dd_Model_isRefused_44 : decode prog_14_method_21_code 44 = .ok (.ldc2_w 231, 3) := by decide +kernel
theorem dd_Model_isRefused_47 : decode prog_14_method_21_code 47 = .ok (.ldc2_w 233, 3) := by decide +kernel
theorem dd_Model_isRefused_50 : decode prog_14_method_21_code 50 = .ok (.invokestatic 219, 3) := by decide +kernel
theorem dd_Model_isRefused_53 : decode prog_14_method_21_code 53 = .ok (.ifCond .ne 31, 3) := by decide +kernel
theorem dd_Model_isRefused_56 : decode prog_14_method_21_code 56 = .ok (.iload_n 0, 1) := by decide +kernel
theorem dd_Model_isRefused_57 : decode prog_14_method_21_code 57 = .ok (.i2l, 1) := by decide +kernel
theorem dd_Model_isRefused_58 : decode prog_14_method_21_code 58 = .ok (.ldc2_w 235, 3) := by decide +kernel
theorem dd_Model_isRefused_61 : decode prog_14_method_21_code 61 = .ok (.ldc2_w 237, 3) := by decide +kernel
theorem dd_Model_isRefused_64 : decode prog_14_method_21_code 64 = .ok (.invokestatic 219, 3) := by decide +kernel
theorem dd_Model_isRefused_67 : decode prog_14_method_21_code 67 = .ok (.ifCond .ne 17, 3) := by decide +kernel
theorem dd_Model_isRefused_70 : decode prog_14_method_21_code 70 = .ok (.iload_n 0, 1) := by decide +kernel
theorem dd_Model_isRefused_71 : decode prog_14_method_21_code 71 = .ok (.i2l, 1) := by decide +kernel
theorem dd_Model_isRefused_72 : decode prog_14_method_21_code 72 = .ok (.ldc2_w 239, 3) := by decide +kernel
theorem dd_Model_isRefused_75 : decode prog_14_method_21_code 75 = .ok (.ldc2_w 241, 3) := by decide +kernel
theorem dd_Model_isRefused_78 : decode prog_14_method_21_code 78 = .ok (.invokestatic 219, 3) := by decide +kernel
theorem dd_Model_isRefused_81 : decode prog_14_method_21_code 81 = .ok (.ifCond .eq 7, 3) := by decide +kernel
theorem dd_Model_isRefused_84 : decode prog_14_method_21_code 84 = .ok (.iconst 1, 1) := by decide +kernel
theorem dd_Model_isRefused_85 : decode prog_14_method_21_code 85 = .ok (.goto 4, 3) := by decide +kernel
theorem dd_Model_isRefused_88 : decode prog_14_method_21_code 88 = .ok (.iconst 0, 1) := by decide +kernel
theorem dd_Model_isRefused_89 : decode prog_14_method_21_code 89 = .ok (.istore_n 1, 1) := by decide +kernel
theorem dd_Model_isRefused_90 : decode prog_14_method_21_code 90 = .ok (.iload_n 1, 1) := by decide +kernel
theorem dd_Model_isRefused_91 : decode prog_14_method_21_code 91 = .ok (.ifCond .ne 66, 3) := by decide +kernel
theorem dd_Model_isRefused_94 : decode prog_14_method_21_code 94 = .ok (.iload_n 0, 1) := by decide +kernel
theorem dd_Model_isRefused_95 : decode prog_14_method_21_code 95 = .ok (.i2l, 1) := by decide +kernel
theorem dd_Model_isRefused_96 : decode prog_14_method_21_code 96 = .ok (.ldc2_w 243, 3) := by decide +kernel
theorem dd_Model_isRefused_99 : decode prog_14_method_21_code 99 = .ok (.ldc2_w 245, 3) := by decide +kernel
theorem dd_Model_isRefused_102 : decode prog_14_method_21_code 102 = .ok (.invokestatic 219, 3) := by decide +kernel
theorem dd_Model_isRefused_105 : decode prog_14_method_21_code 105 = .ok (.ifCond .ne 52, 3) := by decide +kernel
theorem dd_Model_isRefused_108 : decode prog_14_method_21_code 108 = .ok (.iload_n 0, 1) := by decide +kernel
theorem dd_Model_isRefused_109 : decode prog_14_method_21_code 109 = .ok (.i2l, 1) := by decide +kernel
theorem dd_Model_isRefused_110 : decode prog_14_method_21_code 110 = .ok (.ldc2_w 247, 3) := by decide +kernel
theorem dd_Model_isRefused_113 : decode prog_14_method_21_code 113 = .ok (.ldc2_w 249, 3) := by decide +kernel
theorem dd_Model_isRefused_116 : decode prog_14_method_21_code 116 = .ok (.invokestatic 219, 3) := by decide +kernel
theorem dd_Model_isRefused_119 : decode prog_14_method_21_code 119 = .ok (.ifCond .ne 38, 3) := by decide +kernel
theorem dd_Model_isRefused_122 : decode prog_14_method_21_code 122 = .ok (.iload_n 0, 1) := by decide +kernel
theorem dd_Model_isRefused_123 : decode prog_14_method_21_code 123 = .ok (.i2l, 1) := by decide +kernel
theorem dd_Model_isRefused_124 : decode prog_14_method_21_code 124 = .ok (.ldc2_w 251, 3) := by decide +kernel
theorem dd_Model_isRefused_127 : decode prog_14_method_21_code 127 = .ok (.ldc2_w 253, 3) := by decide +kernel
theorem dd_Model_isRefused_130 : decode prog_14_method_21_code 130 = .ok (.invokestatic 219, 3) := by decide +kernel
theorem dd_Model_isRefused_133 : decode prog_14_method_21_code 133 = .ok (.ifCond .ne 24, 3) := by decide +kernel
theorem dd_Model_isRefused_136 : decode prog_14_method_21_code 136 = .ok (.iload_n 0, 1) := by decide +kernel
theorem dd_Model_isRefused_137 : decode prog_14_method_21_code 137 = .ok (.sipush 210, 3) := by decide +kernel
theorem dd_Model_isRefused_140 : decode prog_14_method_21_code 140 = .ok (.if_icmp .eq 17, 3) := by decide +kernel
theorem dd_Model_isRefused_143 : decode prog_14_method_21_code 143 = .ok (.iload_n 0, 1) := by decide +kernel
theorem dd_Model_isRefused_144 : decode prog_14_method_21_code 144 = .ok (.sipush 252, 3) := by decide +kernel
theorem dd_Model_isRefused_147 : decode prog_14_method_21_code 147 = .ok (.if_icmp .eq 10, 3) := by decide +kernel
theorem dd_Model_isRefused_150 : decode prog_14_method_21_code 150 = .ok (.iload_n 0, 1) := by decide +kernel
theorem dd_Model_isRefused_151 : decode prog_14_method_21_code 151 = .ok (.sipush 253, 3) := by decide +kernel
theorem dd_Model_isRefused_154 : decode prog_14_method_21_code 154 = .ok (.if_icmp .ne 7, 3) := by decide +kernel
theorem dd_Model_isRefused_157 : decode prog_14_method_21_code 157 = .ok (.iconst 1, 1) := by decide +kernel
theorem dd_Model_isRefused_158 : decode prog_14_method_21_code 158 = .ok (.goto 4, 3) := by decide +kernel
theorem dd_Model_isRefused_161 : decode prog_14_method_21_code 161 = .ok (.iconst 0, 1) := by decide +kernel
theorem dd_Model_isRefused_162 : decode prog_14_method_21_code 162 = .ok (.ireturn, 1) := by decide +kernel
theorem dd_Model_pair_0 : decode prog_14_method_24_code 0 = .ok (.aload_n 0, 1) := by decide +kernel
theorem dd_Model_pair_1 : decode prog_14_method_24_code 1 = .ok (.aload_n 0, 1) := by decide +kernel
theorem dd_Model_pair_2 : decode prog_14_method_24_code 2 = .ok (.invokevirtual 295, 3) := by decide +kernel
theorem dd_Model_pair_5 : decode prog_14_method_24_code 5 = .ok (.putfield 273, 3) := by decide +kernel
theorem dd_Model_pair_8 : decode prog_14_method_24_code 8 = .ok (.aload_n 0, 1) := by decide +kernel
theorem dd_Model_pair_9 : decode prog_14_method_24_code 9 = .ok (.aload_n 0, 1) := by decide +kernel
theorem dd_Model_pair_10 : decode prog_14_method_24_code 10 = .ok (.invokevirtual 295, 3) := by decide +kernel
theorem dd_Model_pair_13 : decode prog_14_method_24_code 13 = .ok (.putfield 277, 3) := by decide +kernel
theorem dd_Model_pair_16 : decode prog_14_method_24_code 16 = .ok (.return_, 1) := by decide +kernel
theorem dd_Model_isPlain_0 : decode prog_14_method_22_code 0 = .ok (.iload_n 0, 1) := by decide +kernel
theorem dd_Model_isPlain_1 : decode prog_14_method_22_code 1 = .ok (.iconst 2, 1) := by decide +kernel
theorem dd_Model_isPlain_2 : decode prog_14_method_22_code 2 = .ok (.if_icmp .lt 32, 3) := by decide +kernel
theorem dd_Model_isPlain_5 : decode prog_14_method_22_code 5 = .ok (.iload_n 0, 1) := by decide +kernel
theorem dd_Model_isPlain_6 : decode prog_14_method_22_code 6 = .ok (.iconst 5, 1) := by decide +kernel
theorem dd_Model_isPlain_7 : decode prog_14_method_22_code 7 = .ok (.if_icmp .eq 27, 3) := by decide +kernel
theorem dd_Model_isPlain_10 : decode prog_14_method_22_code 10 = .ok (.iload_n 0, 1) := by decide +kernel
theorem dd_Model_isPlain_11 : decode prog_14_method_22_code 11 = .ok (.bipush 11, 2) := by decide +kernel
theorem dd_Model_isPlain_13 : decode prog_14_method_22_code 13 = .ok (.if_icmp .eq 21, 3) := by decide +kernel
theorem dd_Model_isPlain_16 : decode prog_14_method_22_code 16 = .ok (.iload_n 0, 1) := by decide +kernel
theorem dd_Model_isPlain_17 : decode prog_14_method_22_code 17 = .ok (.bipush 15, 2) := by decide +kernel
theorem dd_Model_isPlain_19 : decode prog_14_method_22_code 19 = .ok (.if_icmp .eq 15, 3) := by decide +kernel
theorem dd_Model_isPlain_22 : decode prog_14_method_22_code 22 = .ok (.iload_n 0, 1) := by decide +kernel
theorem dd_Model_isPlain_23 : decode prog_14_method_22_code 23 = .ok (.bipush 26, 2) := by decide +kernel
theorem dd_Model_isPlain_25 : decode prog_14_method_22_code 25 = .ok (.if_icmp .eq 9, 3) := by decide +kernel
theorem dd_Model_isPlain_28 : decode prog_14_method_22_code 28 = .ok (.iload_n 0, 1) := by decide +kernel
theorem dd_Model_isPlain_29 : decode prog_14_method_22_code 29 = .ok (.bipush 27, 2) := by decide +kernel
theorem dd_Model_isPlain_31 : decode prog_14_method_22_code 31 = .ok (.if_icmp .ne 7, 3) := by decide +kernel
theorem dd_Model_isPlain_34 : decode prog_14_method_22_code 34 = .ok (.iconst 1, 1) := by decide +kernel
theorem dd_Model_isPlain_35 : decode prog_14_method_22_code 35 = .ok (.goto 4, 3) := by decide +kernel
theorem dd_Model_isPlain_38 : decode prog_14_method_22_code 38 = .ok (.iconst 0, 1) := by decide +kernel
theorem dd_Model_isPlain_39 : decode prog_14_method_22_code 39 = .ok (.istore_n 1, 1) := by decide +kernel
theorem dd_Model_isPlain_40 : decode prog_14_method_22_code 40 = .ok (.iload_n 1, 1) := by decide +kernel
theorem dd_Model_isPlain_41 : decode prog_14_method_22_code 41 = .ok (.ifCond .ne 87, 3) := by decide +kernel
theorem dd_Model_isPlain_44 : decode prog_14_method_22_code 44 = .ok (.iload_n 0, 1) := by decide +kernel
theorem dd_Model_isPlain_45 : decode prog_14_method_22_code 45 = .ok (.i2l, 1) := by decide +kernel
theorem dd_Model_isPlain_46 : decode prog_14_method_22_code 46 = .ok (.ldc2_w 255, 3) := by decide +kernel
theorem dd_Model_isPlain_49 : decode prog_14_method_22_code 49 = .ok (.ldc2_w 257, 3) := by decide +kernel
theorem dd_Model_isPlain_52 : decode prog_14_method_22_code 52 = .ok (.invokestatic 219, 3) := by decide +kernel
theorem dd_Model_isPlain_55 : decode prog_14_method_22_code 55 = .ok (.ifCond .ne 73, 3) := by decide +kernel
theorem dd_Model_isPlain_58 : decode prog_14_method_22_code 58 = .ok (.iload_n 0, 1) := by decide +kernel
theorem dd_Model_isPlain_59 : decode prog_14_method_22_code 59 = .ok (.i2l, 1) := by decide +kernel
theorem dd_Model_isPlain_60 : decode prog_14_method_22_code 60 = .ok (.ldc2_w 259, 3) := by decide +kernel
theorem dd_Model_isPlain_63 : decode prog_14_method_22_code 63 = .ok (.ldc2_w 261, 3) := by decide +kernel
theorem dd_Model_isPlain_66 : decode prog_14_method_22_code 66 = .ok (.invokestatic 219, 3) := by decide +kernel
theorem dd_Model_isPlain_69 : decode prog_14_method_22_code 69 = .ok (.ifCond .ne 59, 3) := by decide +kernel
theorem dd_Model_isPlain_72 : decode prog_14_method_22_code 72 = .ok (.iload_n 0, 1) := by decide +kernel
theorem dd_Model_isPlain_73 : decode prog_14_method_22_code 73 = .ok (.sipush 167, 3) := by decide +kernel
theorem dd_Model_isPlain_76 : decode prog_14_method_22_code 76 = .ok (.if_icmp .eq 52, 3) := by decide +kernel
theorem dd_Model_isPlain_79 : decode prog_14_method_22_code 79 = .ok (.iload_n 0, 1) := by decide +kernel
theorem dd_Model_isPlain_80 : decode prog_14_method_22_code 80 = .ok (.sipush 172, 3) := by decide +kernel
theorem dd_Model_isPlain_83 : decode prog_14_method_22_code 83 = .ok (.if_icmp .eq 45, 3) := by decide +kernel
theorem dd_Model_isPlain_86 : decode prog_14_method_22_code 86 = .ok (.iload_n 0, 1) := by decide +kernel
theorem dd_Model_isPlain_87 : decode prog_14_method_22_code 87 = .ok (.sipush 173, 3) := by decide +kernel
theorem dd_Model_isPlain_90 : decode prog_14_method_22_code 90 = .ok (.if_icmp .eq 38, 3) := by decide +kernel
theorem dd_Model_isPlain_93 : decode prog_14_method_22_code 93 = .ok (.iload_n 0, 1) := by decide +kernel
theorem dd_Model_isPlain_94 : decode prog_14_method_22_code 94 = .ok (.i2l, 1) := by decide +kernel
theorem dd_Model_isPlain_95 : decode prog_14_method_22_code 95 = .ok (.ldc2_w 263, 3) := by decide +kernel
theorem dd_Model_isPlain_98 : decode prog_14_method_22_code 98 = .ok (.ldc2_w 265, 3) := by decide +kernel
theorem dd_Model_isPlain_101 : decode prog_14_method_22_code 101 = .ok (.invokestatic 219, 3) := by decide +kernel
theorem dd_Model_isPlain_104 : decode prog_14_method_22_code 104 = .ok (.ifCond .ne 24, 3) := by decide +kernel
theorem dd_Model_isPlain_107 : decode prog_14_method_22_code 107 = .ok (.iload_n 0, 1) := by decide +kernel
theorem dd_Model_isPlain_108 : decode prog_14_method_22_code 108 = .ok (.sipush 209, 3) := by decide +kernel
theorem dd_Model_isPlain_111 : decode prog_14_method_22_code 111 = .ok (.if_icmp .eq 17, 3) := by decide +kernel
theorem dd_Model_isPlain_114 : decode prog_14_method_22_code 114 = .ok (.iload_n 0, 1) := by decide +kernel
theorem dd_Model_isPlain_115 : decode prog_14_method_22_code 115 = .ok (.sipush 211, 3) := by decide +kernel
theorem dd_Model_isPlain_118 : decode prog_14_method_22_code 118 = .ok (.if_icmp .eq 10, 3) := by decide +kernel
theorem dd_Model_isPlain_121 : decode prog_14_method_22_code 121 = .ok (.iload_n 0, 1) := by decide +kernel
theorem dd_Model_isPlain_122 : decode prog_14_method_22_code 122 = .ok (.sipush 212, 3) := by decide +kernel
theorem dd_Model_isPlain_125 : decode prog_14_method_22_code 125 = .ok (.if_icmp .ne 7, 3) := by decide +kernel
theorem dd_Model_isPlain_128 : decode prog_14_method_22_code 128 = .ok (.iconst 1, 1) := by decide +kernel
theorem dd_Model_isPlain_129 : decode prog_14_method_22_code 129 = .ok (.goto 4, 3) := by decide +kernel
theorem dd_Model_isPlain_132 : decode prog_14_method_22_code 132 = .ok (.iconst 0, 1) := by decide +kernel
theorem dd_Model_isPlain_133 : decode prog_14_method_22_code 133 = .ok (.ireturn, 1) := by decide +kernel
theorem dd_Model_object_0 : decode prog_14_method_26_code 0 = .ok (.aload_n 0, 1) := by decide +kernel
theorem dd_Model_object_1 : decode prog_14_method_26_code 1 = .ok (.invokevirtual 295, 3) := by decide +kernel
theorem dd_Model_object_4 : decode prog_14_method_26_code 4 = .ok (.lstore_n 1, 1) := by decide +kernel
theorem dd_Model_object_5 : decode prog_14_method_26_code 5 = .ok (.aload_n 0, 1) := by decide +kernel
theorem dd_Model_object_6 : decode prog_14_method_26_code 6 = .ok (.getfield 165, 3) := by decide +kernel
theorem dd_Model_object_9 : decode prog_14_method_26_code 9 = .ok (.ifCond .eq 4, 3) := by decide +kernel
theorem dd_Model_object_12 : decode prog_14_method_26_code 12 = .ok (.return_, 1) := by decide +kernel
theorem dd_Model_object_13 : decode prog_14_method_26_code 13 = .ok (.lload_n 1, 1) := by decide +kernel
theorem dd_Model_object_14 : decode prog_14_method_26_code 14 = .ok (.ldc2_w 325, 3) := by decide +kernel
theorem dd_Model_object_17 : decode prog_14_method_26_code 17 = .ok (.lcmp, 1) := by decide +kernel
theorem dd_Model_object_18 : decode prog_14_method_26_code 18 = .ok (.ifCond .le 9, 3) := by decide +kernel
theorem dd_Model_object_21 : decode prog_14_method_26_code 21 = .ok (.aload_n 0, 1) := by decide +kernel
theorem dd_Model_object_22 : decode prog_14_method_26_code 22 = .ok (.iconst (-1), 1) := by decide +kernel
theorem dd_Model_object_23 : decode prog_14_method_26_code 23 = .ok (.invokevirtual 174, 3) := by decide +kernel
theorem dd_Model_object_26 : decode prog_14_method_26_code 26 = .ok (.return_, 1) := by decide +kernel
theorem dd_Model_object_27 : decode prog_14_method_26_code 27 = .ok (.aload_n 0, 1) := by decide +kernel
theorem dd_Model_object_28 : decode prog_14_method_26_code 28 = .ok (.lload_n 1, 1) := by decide +kernel
theorem dd_Model_object_29 : decode prog_14_method_26_code 29 = .ok (.l2i, 1) := by decide +kernel
theorem dd_Model_object_30 : decode prog_14_method_26_code 30 = .ok (.putfield 270, 3) := by decide +kernel
theorem dd_Model_object_33 : decode prog_14_method_26_code 33 = .ok (.aload_n 0, 1) := by decide +kernel
theorem dd_Model_object_34 : decode prog_14_method_26_code 34 = .ok (.getfield 270, 3) := by decide +kernel
theorem dd_Model_object_37 : decode prog_14_method_26_code 37 = .ok (.bipush 9, 2) := by decide +kernel
theorem dd_Model_object_39 : decode prog_14_method_26_code 39 = .ok (.if_icmp .eq 46, 3) := by decide +kernel
theorem dd_Model_object_42 : decode prog_14_method_26_code 42 = .ok (.aload_n 0, 1) := by decide +kernel
theorem dd_Model_object_43 : decode prog_14_method_26_code 43 = .ok (.getfield 270, 3) := by decide +kernel
theorem dd_Model_object_46 : decode prog_14_method_26_code 46 = .ok (.bipush 10, 2) := by decide +kernel
theorem dd_Model_object_48 : decode prog_14_method_26_code 48 = .ok (.if_icmp .eq 37, 3) := by decide +kernel
theorem dd_Model_object_51 : decode prog_14_method_26_code 51 = .ok (.aload_n 0, 1) := by decide +kernel
theorem dd_Model_object_52 : decode prog_14_method_26_code 52 = .ok (.getfield 270, 3) := by decide +kernel
theorem dd_Model_object_55 : decode prog_14_method_26_code 55 = .ok (.i2l, 1) := by decide +kernel
theorem dd_Model_object_56 : decode prog_14_method_26_code 56 = .ok (.ldc2_w 327, 3) := by decide +kernel
theorem dd_Model_object_59 : decode prog_14_method_26_code 59 = .ok (.ldc2_w 329, 3) := by decide +kernel
theorem dd_Model_object_62 : decode prog_14_method_26_code 62 = .ok (.invokestatic 219, 3) := by decide +kernel
theorem dd_Model_object_65 : decode prog_14_method_26_code 65 = .ok (.ifCond .ne 20, 3) := by decide +kernel
theorem dd_Model_object_68 : decode prog_14_method_26_code 68 = .ok (.aload_n 0, 1) := by decide +kernel
theorem dd_Model_object_69 : decode prog_14_method_26_code 69 = .ok (.getfield 270, 3) := by decide +kernel
theorem dd_Model_object_72 : decode prog_14_method_26_code 72 = .ok (.i2l, 1) := by decide +kernel
theorem dd_Model_object_73 : decode prog_14_method_26_code 73 = .ok (.ldc2_w 331, 3) := by decide +kernel
theorem dd_Model_object_76 : decode prog_14_method_26_code 76 = .ok (.ldc2_w 333, 3) := by decide +kernel
theorem dd_Model_object_79 : decode prog_14_method_26_code 79 = .ok (.invokestatic 219, 3) := by decide +kernel
theorem dd_Model_object_82 : decode prog_14_method_26_code 82 = .ok (.ifCond .eq 12, 3) := by decide +kernel
theorem dd_Model_object_85 : decode prog_14_method_26_code 85 = .ok (.aload_n 0, 1) := by decide +kernel
theorem dd_Model_object_86 : decode prog_14_method_26_code 86 = .ok (.bipush (-3), 2) := by decide +kernel
theorem dd_Model_object_88 : decode prog_14_method_26_code 88 = .ok (.invokevirtual 174, 3) := by decide +kernel
theorem dd_Model_object_91 : decode prog_14_method_26_code 91 = .ok (.goto 91, 3) := by decide +kernel
theorem dd_Model_object_94 : decode prog_14_method_26_code 94 = .ok (.aload_n 0, 1) := by decide +kernel
theorem dd_Model_object_95 : decode prog_14_method_26_code 95 = .ok (.getfield 270, 3) := by decide +kernel
theorem dd_Model_object_98 : decode prog_14_method_26_code 98 = .ok (.i2l, 1) := by decide +kernel
theorem dd_Model_object_99 : decode prog_14_method_26_code 99 = .ok (.ldc2_w 283, 3) := by decide +kernel
theorem dd_Model_object_102 : decode prog_14_method_26_code 102 = .ok (.ldc2_w 335, 3) := by decide +kernel
theorem dd_Model_object_105 : decode prog_14_method_26_code 105 = .ok (.invokestatic 219, 3) := by decide +kernel
theorem dd_Model_object_108 : decode prog_14_method_26_code 108 = .ok (.ifCond .ne 12, 3) := by decide +kernel
theorem dd_Model_object_111 : decode prog_14_method_26_code 111 = .ok (.aload_n 0, 1) := by decide +kernel
theorem dd_Model_object_112 : decode prog_14_method_26_code 112 = .ok (.getfield 270, 3) := by decide +kernel
theorem dd_Model_object_115 : decode prog_14_method_26_code 115 = .ok (.bipush 8, 2) := by decide +kernel
theorem dd_Model_object_117 : decode prog_14_method_26_code 117 = .ok (.if_icmp .ne 10, 3) := by decide +kernel
theorem dd_Model_object_120 : decode prog_14_method_26_code 120 = .ok (.aload_n 0, 1) := by decide +kernel
theorem dd_Model_object_121 : decode prog_14_method_26_code 121 = .ok (.invokevirtual 305, 3) := by decide +kernel
theorem dd_Model_object_124 : decode prog_14_method_26_code 124 = .ok (.goto 58, 3) := by decide +kernel
theorem dd_Model_object_127 : decode prog_14_method_26_code 127 = .ok (.aload_n 0, 1) := by decide +kernel
theorem dd_Model_object_128 : decode prog_14_method_26_code 128 = .ok (.getfield 270, 3) := by decide +kernel
theorem dd_Model_object_131 : decode prog_14_method_26_code 131 = .ok (.i2l, 1) := by decide +kernel
theorem dd_Model_object_132 : decode prog_14_method_26_code 132 = .ok (.ldc2_w 337, 3) := by decide +kernel
theorem dd_Model_object_135 : decode prog_14_method_26_code 135 = .ok (.ldc2_w 339, 3) := by decide +kernel
theorem dd_Model_object_138 : decode prog_14_method_26_code 138 = .ok (.invokestatic 219, 3) := by decide +kernel
theorem dd_Model_object_141 : decode prog_14_method_26_code 141 = .ok (.ifCond .eq 15, 3) := by decide +kernel
theorem dd_Model_object_144 : decode prog_14_method_26_code 144 = .ok (.aload_n 0, 1) := by decide +kernel
theorem dd_Model_object_145 : decode prog_14_method_26_code 145 = .ok (.aload_n 0, 1) := by decide +kernel
theorem dd_Model_object_146 : decode prog_14_method_26_code 146 = .ok (.invokevirtual 207, 3) := by decide +kernel
theorem dd_Model_object_149 : decode prog_14_method_26_code 149 = .ok (.i2l, 1) := by decide +kernel
theorem dd_Model_object_150 : decode prog_14_method_26_code 150 = .ok (.putfield 273, 3) := by decide +kernel
theorem dd_Model_object_153 : decode prog_14_method_26_code 153 = .ok (.goto 29, 3) := by decide +kernel
theorem dd_Model_object_156 : decode prog_14_method_26_code 156 = .ok (.aload_n 0, 1) := by decide +kernel
theorem dd_Model_object_157 : decode prog_14_method_26_code 157 = .ok (.getfield 270, 3) := by decide +kernel
theorem dd_Model_object_160 : decode prog_14_method_26_code 160 = .ok (.bipush 15, 2) := by decide +kernel
theorem dd_Model_object_162 : decode prog_14_method_26_code 162 = .ok (.if_icmp .lt 12, 3) := by decide +kernel
theorem dd_Model_object_165 : decode prog_14_method_26_code 165 = .ok (.aload_n 0, 1) := by decide +kernel
theorem dd_Model_object_166 : decode prog_14_method_26_code 166 = .ok (.getfield 270, 3) := by decide +kernel
theorem dd_Model_object_169 : decode prog_14_method_26_code 169 = .ok (.bipush 16, 2) := by decide +kernel
theorem dd_Model_object_171 : decode prog_14_method_26_code 171 = .ok (.if_icmp .ne 11, 3) := by decide +kernel
theorem dd_Model_object_174 : decode prog_14_method_26_code 174 = .ok (.aload_n 0, 1) := by decide +kernel
theorem dd_Model_object_175 : decode prog_14_method_26_code 175 = .ok (.aload_n 0, 1) := by decide +kernel
theorem dd_Model_object_176 : decode prog_14_method_26_code 176 = .ok (.invokevirtual 295, 3) := by decide +kernel
theorem dd_Model_object_179 : decode prog_14_method_26_code 179 = .ok (.putfield 273, 3) := by decide +kernel
theorem dd_Model_object_182 : decode prog_14_method_26_code 182 = .ok (.return_, 1) := by decide +kernel
theorem dd_Model_ways_0 : decode prog_14_method_25_code 0 = .ok (.aload_n 0, 1) := by decide +kernel
theorem dd_Model_ways_1 : decode prog_14_method_25_code 1 = .ok (.invokevirtual 295, 3) := by decide +kernel
theorem dd_Model_ways_4 : decode prog_14_method_25_code 4 = .ok (.lstore_n 1, 1) := by decide +kernel
theorem dd_Model_ways_5 : decode prog_14_method_25_code 5 = .ok (.aload_n 0, 1) := by decide +kernel
theorem dd_Model_ways_6 : decode prog_14_method_25_code 6 = .ok (.aload_n 0, 1) := by decide +kernel
theorem dd_Model_ways_7 : decode prog_14_method_25_code 7 = .ok (.getfield 168, 3) := by decide +kernel
theorem dd_Model_ways_10 : decode prog_14_method_25_code 10 = .ok (.putfield 317, 3) := by decide +kernel
theorem dd_Model_ways_13 : decode prog_14_method_25_code 13 = .ok (.lconst 0, 1) := by decide +kernel
theorem dd_Model_ways_14 : decode prog_14_method_25_code 14 = .ok (.lstore_n 3, 1) := by decide +kernel
theorem dd_Model_ways_15 : decode prog_14_method_25_code 15 = .ok (.lload_n 3, 1) := by decide +kernel
theorem dd_Model_ways_16 : decode prog_14_method_25_code 16 = .ok (.lload_n 1, 1) := by decide +kernel
theorem dd_Model_ways_17 : decode prog_14_method_25_code 17 = .ok (.lcmp, 1) := by decide +kernel
theorem dd_Model_ways_18 : decode prog_14_method_25_code 18 = .ok (.ifCond .ge 25, 3) := by decide +kernel
theorem dd_Model_ways_21 : decode prog_14_method_25_code 21 = .ok (.aload_n 0, 1) := by decide +kernel
theorem dd_Model_ways_22 : decode prog_14_method_25_code 22 = .ok (.getfield 165, 3) := by decide +kernel
theorem dd_Model_ways_25 : decode prog_14_method_25_code 25 = .ok (.ifCond .ne 18, 3) := by decide +kernel
theorem dd_Model_ways_28 : decode prog_14_method_25_code 28 = .ok (.aload_n 0, 1) := by decide +kernel
theorem dd_Model_ways_29 : decode prog_14_method_25_code 29 = .ok (.aload_n 0, 1) := by decide +kernel
theorem dd_Model_ways_30 : decode prog_14_method_25_code 30 = .ok (.invokevirtual 295, 3) := by decide +kernel
theorem dd_Model_ways_33 : decode prog_14_method_25_code 33 = .ok (.putfield 273, 3) := by decide +kernel
theorem dd_Model_ways_36 : decode prog_14_method_25_code 36 = .ok (.lload_n 3, 1) := by decide +kernel
theorem dd_Model_ways_37 : decode prog_14_method_25_code 37 = .ok (.lconst 1, 1) := by decide +kernel
theorem dd_Model_ways_38 : decode prog_14_method_25_code 38 = .ok (.ladd, 1) := by decide +kernel
theorem dd_Model_ways_39 : decode prog_14_method_25_code 39 = .ok (.lstore_n 3, 1) := by decide +kernel
theorem dd_Model_ways_40 : decode prog_14_method_25_code 40 = .ok (.goto (-25), 3) := by decide +kernel
theorem dd_Model_ways_43 : decode prog_14_method_25_code 43 = .ok (.aload_n 0, 1) := by decide +kernel
theorem dd_Model_ways_44 : decode prog_14_method_25_code 44 = .ok (.lload_n 1, 1) := by decide +kernel
theorem dd_Model_ways_45 : decode prog_14_method_25_code 45 = .ok (.ldc2_w 320, 3) := by decide +kernel
theorem dd_Model_ways_48 : decode prog_14_method_25_code 48 = .ok (.lcmp, 1) := by decide +kernel
theorem dd_Model_ways_49 : decode prog_14_method_25_code 49 = .ok (.ifCond .ge 7, 3) := by decide +kernel
theorem dd_Model_ways_52 : decode prog_14_method_25_code 52 = .ok (.lload_n 1, 1) := by decide +kernel
theorem dd_Model_ways_53 : decode prog_14_method_25_code 53 = .ok (.goto 6, 3) := by decide +kernel
theorem dd_Model_ways_56 : decode prog_14_method_25_code 56 = .ok (.ldc2_w 320, 3) := by decide +kernel
theorem dd_Model_ways_59 : decode prog_14_method_25_code 59 = .ok (.l2i, 1) := by decide +kernel
theorem dd_Model_ways_60 : decode prog_14_method_25_code 60 = .ok (.putfield 322, 3) := by decide +kernel
theorem dd_Model_ways_63 : decode prog_14_method_25_code 63 = .ok (.aload_n 0, 1) := by decide +kernel
theorem dd_Model_ways_64 : decode prog_14_method_25_code 64 = .ok (.aload_n 0, 1) := by decide +kernel
theorem dd_Model_ways_65 : decode prog_14_method_25_code 65 = .ok (.invokevirtual 295, 3) := by decide +kernel
theorem dd_Model_ways_68 : decode prog_14_method_25_code 68 = .ok (.putfield 273, 3) := by decide +kernel
theorem dd_Model_ways_71 : decode prog_14_method_25_code 71 = .ok (.return_, 1) := by decide +kernel
theorem dd_Model_blockTypeHere_0 : decode prog_14_method_19_code 0 = .ok (.aload_n 0, 1) := by decide +kernel
theorem dd_Model_blockTypeHere_1 : decode prog_14_method_19_code 1 = .ok (.invokevirtual 190, 3) := by decide +kernel
theorem dd_Model_blockTypeHere_4 : decode prog_14_method_19_code 4 = .ok (.istore_n 1, 1) := by decide +kernel
theorem dd_Model_blockTypeHere_5 : decode prog_14_method_19_code 5 = .ok (.iload_n 1, 1) := by decide +kernel
theorem dd_Model_blockTypeHere_6 : decode prog_14_method_19_code 6 = .ok (.bipush 64, 2) := by decide +kernel
theorem dd_Model_blockTypeHere_8 : decode prog_14_method_19_code 8 = .ok (.if_icmp .ne 17, 3) := by decide +kernel
theorem dd_Model_blockTypeHere_11 : decode prog_14_method_19_code 11 = .ok (.aload_n 0, 1) := by decide +kernel
theorem dd_Model_blockTypeHere_12 : decode prog_14_method_19_code 12 = .ok (.dup, 1) := by decide +kernel
theorem dd_Model_blockTypeHere_13 : decode prog_14_method_19_code 13 = .ok (.getfield 168, 3) := by decide +kernel
theorem dd_Model_blockTypeHere_16 : decode prog_14_method_19_code 16 = .ok (.iconst 1, 1) := by decide +kernel
theorem dd_Model_blockTypeHere_17 : decode prog_14_method_19_code 17 = .ok (.iadd, 1) := by decide +kernel
theorem dd_Model_blockTypeHere_18 : decode prog_14_method_19_code 18 = .ok (.putfield 168, 3) := by decide +kernel
theorem dd_Model_blockTypeHere_21 : decode prog_14_method_19_code 21 = .ok (.ldc2_w 184, 3) := by decide +kernel
theorem dd_Model_blockTypeHere_24 : decode prog_14_method_19_code 24 = .ok (.lreturn, 1) := by decide +kernel
theorem dd_Model_blockTypeHere_25 : decode prog_14_method_19_code 25 = .ok (.iload_n 1, 1) := by decide +kernel
theorem dd_Model_blockTypeHere_26 : decode prog_14_method_19_code 26 = .ok (.invokestatic 199, 3) := by decide +kernel
theorem dd_Model_blockTypeHere_29 : decode prog_14_method_19_code 29 = .ok (.ifCond .eq 13, 3) := by decide +kernel
theorem dd_Model_blockTypeHere_32 : decode prog_14_method_19_code 32 = .ok (.ldc2_w 213, 3) := by decide +kernel
theorem dd_Model_blockTypeHere_35 : decode prog_14_method_19_code 35 = .ok (.aload_n 0, 1) := by decide +kernel
theorem dd_Model_blockTypeHere_36 : decode prog_14_method_19_code 36 = .ok (.invokevirtual 210, 3) := by decide +kernel
theorem dd_Model_blockTypeHere_39 : decode prog_14_method_19_code 39 = .ok (.i2l, 1) := by decide +kernel
theorem dd_Model_blockTypeHere_40 : decode prog_14_method_19_code 40 = .ok (.lsub, 1) := by decide +kernel
theorem dd_Model_blockTypeHere_41 : decode prog_14_method_19_code 41 = .ok (.lreturn, 1) := by decide +kernel
theorem dd_Model_blockTypeHere_42 : decode prog_14_method_19_code 42 = .ok (.aload_n 0, 1) := by decide +kernel
theorem dd_Model_blockTypeHere_43 : decode prog_14_method_19_code 43 = .ok (.bipush 33, 2) := by decide +kernel
theorem dd_Model_blockTypeHere_45 : decode prog_14_method_19_code 45 = .ok (.invokevirtual 193, 3) := by decide +kernel
theorem dd_Model_blockTypeHere_48 : decode prog_14_method_19_code 48 = .ok (.lstore_n 2, 1) := by decide +kernel
theorem dd_Model_blockTypeHere_49 : decode prog_14_method_19_code 49 = .ok (.lload_n 2, 1) := by decide +kernel
theorem dd_Model_blockTypeHere_50 : decode prog_14_method_19_code 50 = .ok (.lconst 0, 1) := by decide +kernel
theorem dd_Model_blockTypeHere_51 : decode prog_14_method_19_code 51 = .ok (.lcmp, 1) := by decide +kernel
theorem dd_Model_blockTypeHere_52 : decode prog_14_method_19_code 52 = .ok (.ifCond .ge 8, 3) := by decide +kernel
theorem dd_Model_blockTypeHere_55 : decode prog_14_method_19_code 55 = .ok (.aload_n 0, 1) := by decide +kernel
theorem dd_Model_blockTypeHere_56 : decode prog_14_method_19_code 56 = .ok (.iconst (-1), 1) := by decide +kernel
theorem dd_Model_blockTypeHere_57 : decode prog_14_method_19_code 57 = .ok (.invokevirtual 174, 3) := by decide +kernel
theorem dd_Model_blockTypeHere_60 : decode prog_14_method_19_code 60 = .ok (.lload_n 2, 1) := by decide +kernel
theorem dd_Model_blockTypeHere_61 : decode prog_14_method_19_code 61 = .ok (.lreturn, 1) := by decide +kernel
theorem dd_Model_instruction_0 : decode prog_14_method_23_code 0 = .ok (.aload_n 0, 1) := by decide +kernel
theorem dd_Model_instruction_1 : decode prog_14_method_23_code 1 = .ok (.aload_n 0, 1) := by decide +kernel
theorem dd_Model_instruction_2 : decode prog_14_method_23_code 2 = .ok (.invokevirtual 178, 3) := by decide +kernel
theorem dd_Model_instruction_5 : decode prog_14_method_23_code 5 = .ok (.putfield 267, 3) := by decide +kernel
theorem dd_Model_instruction_8 : decode prog_14_method_23_code 8 = .ok (.aload_n 0, 1) := by decide +kernel
theorem dd_Model_instruction_9 : decode prog_14_method_23_code 9 = .ok (.iconst 0, 1) := by decide +kernel
theorem dd_Model_instruction_10 : decode prog_14_method_23_code 10 = .ok (.putfield 270, 3) := by decide +kernel
theorem dd_Model_instruction_13 : decode prog_14_method_23_code 13 = .ok (.aload_n 0, 1) := by decide +kernel
theorem dd_Model_instruction_14 : decode prog_14_method_23_code 14 = .ok (.lconst 0, 1) := by decide +kernel
theorem dd_Model_instruction_15 : decode prog_14_method_23_code 15 = .ok (.putfield 273, 3) := by decide +kernel
theorem dd_Model_instruction_18 : decode prog_14_method_23_code 18 = .ok (.aload_n 0, 1) := by decide +kernel
theorem dd_Model_instruction_19 : decode prog_14_method_23_code 19 = .ok (.lconst 0, 1) := by decide +kernel
theorem dd_Model_instruction_20 : decode prog_14_method_23_code 20 = .ok (.putfield 277, 3) := by decide +kernel
theorem dd_Model_instruction_23 : decode prog_14_method_23_code 23 = .ok (.aload_n 0, 1) := by decide +kernel
theorem dd_Model_instruction_24 : decode prog_14_method_23_code 24 = .ok (.getfield 165, 3) := by decide +kernel
theorem dd_Model_instruction_27 : decode prog_14_method_23_code 27 = .ok (.ifCond .eq 4, 3) := by decide +kernel
theorem dd_Model_instruction_30 : decode prog_14_method_23_code 30 = .ok (.return_, 1) := by decide +kernel
theorem dd_Model_instruction_31 : decode prog_14_method_23_code 31 = .ok (.aload_n 0, 1) := by decide +kernel
theorem dd_Model_instruction_32 : decode prog_14_method_23_code 32 = .ok (.getfield 267, 3) := by decide +kernel
theorem dd_Model_instruction_35 : decode prog_14_method_23_code 35 = .ok (.invokestatic 280, 3) := by decide +kernel
theorem dd_Model_instruction_38 : decode prog_14_method_23_code 38 = .ok (.ifCond .eq 12, 3) := by decide +kernel
theorem dd_Model_instruction_41 : decode prog_14_method_23_code 41 = .ok (.aload_n 0, 1) := by decide +kernel
theorem dd_Model_instruction_42 : decode prog_14_method_23_code 42 = .ok (.bipush (-3), 2) := by decide +kernel
theorem dd_Model_instruction_44 : decode prog_14_method_23_code 44 = .ok (.invokevirtual 174, 3) := by decide +kernel
theorem dd_Model_instruction_47 : decode prog_14_method_23_code 47 = .ok (.goto 280, 3) := by decide +kernel
theorem dd_Model_instruction_50 : decode prog_14_method_23_code 50 = .ok (.aload_n 0, 1) := by decide +kernel
theorem dd_Model_instruction_51 : decode prog_14_method_23_code 51 = .ok (.getfield 267, 3) := by decide +kernel
theorem dd_Model_instruction_54 : decode prog_14_method_23_code 54 = .ok (.i2l, 1) := by decide +kernel
theorem dd_Model_instruction_55 : decode prog_14_method_23_code 55 = .ok (.ldc2_w 283, 3) := by decide +kernel
theorem dd_Model_instruction_58 : decode prog_14_method_23_code 58 = .ok (.ldc2_w 285, 3) := by decide +kernel
theorem dd_Model_instruction_61 : decode prog_14_method_23_code 61 = .ok (.invokestatic 219, 3) := by decide +kernel
theorem dd_Model_instruction_64 : decode prog_14_method_23_code 64 = .ok (.ifCond .eq 14, 3) := by decide +kernel
theorem dd_Model_instruction_67 : decode prog_14_method_23_code 67 = .ok (.aload_n 0, 1) := by decide +kernel
theorem dd_Model_instruction_68 : decode prog_14_method_23_code 68 = .ok (.aload_n 0, 1) := by decide +kernel
theorem dd_Model_instruction_69 : decode prog_14_method_23_code 69 = .ok (.invokevirtual 287, 3) := by decide +kernel
theorem dd_Model_instruction_72 : decode prog_14_method_23_code 72 = .ok (.putfield 273, 3) := by decide +kernel
theorem dd_Model_instruction_75 : decode prog_14_method_23_code 75 = .ok (.goto 252, 3) := by decide +kernel
theorem dd_Model_instruction_78 : decode prog_14_method_23_code 78 = .ok (.aload_n 0, 1) := by decide +kernel
theorem dd_Model_instruction_79 : decode prog_14_method_23_code 79 = .ok (.getfield 267, 3) := by decide +kernel
theorem dd_Model_instruction_82 : decode prog_14_method_23_code 82 = .ok (.bipush 12, 2) := by decide +kernel
theorem dd_Model_instruction_84 : decode prog_14_method_23_code 84 = .ok (.if_icmp .eq 58, 3) := by decide +kernel
theorem dd_Model_instruction_87 : decode prog_14_method_23_code 87 = .ok (.aload_n 0, 1) := by decide +kernel
theorem dd_Model_instruction_88 : decode prog_14_method_23_code 88 = .ok (.getfield 267, 3) := by decide +kernel
theorem dd_Model_instruction_91 : decode prog_14_method_23_code 91 = .ok (.bipush 13, 2) := by decide +kernel
theorem dd_Model_instruction_93 : decode prog_14_method_23_code 93 = .ok (.if_icmp .eq 49, 3) := by decide +kernel
theorem dd_Model_instruction_96 : decode prog_14_method_23_code 96 = .ok (.aload_n 0, 1) := by decide +kernel
theorem dd_Model_instruction_97 : decode prog_14_method_23_code 97 = .ok (.getfield 267, 3) := by decide +kernel
theorem dd_Model_instruction_100 : decode prog_14_method_23_code 100 = .ok (.bipush 16, 2) := by decide +kernel
theorem dd_Model_instruction_102 : decode prog_14_method_23_code 102 = .ok (.if_icmp .eq 40, 3) := by decide +kernel
theorem dd_Model_instruction_105 : decode prog_14_method_23_code 105 = .ok (.aload_n 0, 1) := by decide +kernel
theorem dd_Model_instruction_106 : decode prog_14_method_23_code 106 = .ok (.getfield 267, 3) := by decide +kernel
theorem dd_Model_instruction_109 : decode prog_14_method_23_code 109 = .ok (.i2l, 1) := by decide +kernel
theorem dd_Model_instruction_110 : decode prog_14_method_23_code 110 = .ok (.ldc2_w 291, 3) := by decide +kernel
theorem dd_Model_instruction_113 : decode prog_14_method_23_code 113 = .ok (.ldc2_w 293, 3) := by decide +kernel
theorem dd_Model_instruction_116 : decode prog_14_method_23_code 116 = .ok (.invokestatic 219, 3) := by decide +kernel
theorem dd_Model_instruction_119 : decode prog_14_method_23_code 119 = .ok (.ifCond .ne 23, 3) := by decide +kernel
theorem dd_Model_instruction_122 : decode prog_14_method_23_code 122 = .ok (.aload_n 0, 1) := by decide +kernel
theorem dd_Model_instruction_123 : decode prog_14_method_23_code 123 = .ok (.getfield 267, 3) := by decide +kernel
theorem dd_Model_instruction_126 : decode prog_14_method_23_code 126 = .ok (.sipush 213, 3) := by decide +kernel
theorem dd_Model_instruction_129 : decode prog_14_method_23_code 129 = .ok (.if_icmp .eq 13, 3) := by decide +kernel
theorem dd_Model_instruction_132 : decode prog_14_method_23_code 132 = .ok (.aload_n 0, 1) := by decide +kernel
theorem dd_Model_instruction_133 : decode prog_14_method_23_code 133 = .ok (.getfield 267, 3) := by decide +kernel
theorem dd_Model_instruction_136 : decode prog_14_method_23_code 136 = .ok (.sipush 214, 3) := by decide +kernel
theorem dd_Model_instruction_139 : decode prog_14_method_23_code 139 = .ok (.if_icmp .ne 14, 3) := by decide +kernel
theorem dd_Model_instruction_142 : decode prog_14_method_23_code 142 = .ok (.aload_n 0, 1) := by decide +kernel
theorem dd_Model_instruction_143 : decode prog_14_method_23_code 143 = .ok (.aload_n 0, 1) := by decide +kernel
theorem dd_Model_instruction_144 : decode prog_14_method_23_code 144 = .ok (.invokevirtual 295, 3) := by decide +kernel
theorem dd_Model_instruction_147 : decode prog_14_method_23_code 147 = .ok (.putfield 273, 3) := by decide +kernel
theorem dd_Model_instruction_150 : decode prog_14_method_23_code 150 = .ok (.goto 177, 3) := by decide +kernel
theorem dd_Model_instruction_153 : decode prog_14_method_23_code 153 = .ok (.aload_n 0, 1) := by decide +kernel
theorem dd_Model_instruction_154 : decode prog_14_method_23_code 154 = .ok (.getfield 267, 3) := by decide +kernel
theorem dd_Model_instruction_157 : decode prog_14_method_23_code 157 = .ok (.bipush 14, 2) := by decide +kernel
theorem dd_Model_instruction_159 : decode prog_14_method_23_code 159 = .ok (.if_icmp .ne 10, 3) := by decide +kernel
theorem dd_Model_instruction_162 : decode prog_14_method_23_code 162 = .ok (.aload_n 0, 1) := by decide +kernel
theorem dd_Model_instruction_163 : decode prog_14_method_23_code 163 = .ok (.invokevirtual 298, 3) := by decide +kernel
theorem dd_Model_instruction_166 : decode prog_14_method_23_code 166 = .ok (.goto 161, 3) := by decide +kernel
theorem dd_Model_instruction_169 : decode prog_14_method_23_code 169 = .ok (.aload_n 0, 1) := by decide +kernel
theorem dd_Model_instruction_170 : decode prog_14_method_23_code 170 = .ok (.getfield 267, 3) := by decide +kernel
theorem dd_Model_instruction_173 : decode prog_14_method_23_code 173 = .ok (.bipush 17, 2) := by decide +kernel
theorem dd_Model_instruction_175 : decode prog_14_method_23_code 175 = .ok (.if_icmp .eq 20, 3) := by decide +kernel
theorem dd_Model_instruction_178 : decode prog_14_method_23_code 178 = .ok (.aload_n 0, 1) := by decide +kernel
theorem dd_Model_instruction_179 : decode prog_14_method_23_code 179 = .ok (.getfield 267, 3) := by decide +kernel
theorem dd_Model_instruction_182 : decode prog_14_method_23_code 182 = .ok (.i2l, 1) := by decide +kernel
theorem dd_Model_instruction_183 : decode prog_14_method_23_code 183 = .ok (.ldc2_w 301, 3) := by decide +kernel
theorem dd_Model_instruction_186 : decode prog_14_method_23_code 186 = .ok (.ldc2_w 303, 3) := by decide +kernel
theorem dd_Model_instruction_189 : decode prog_14_method_23_code 189 = .ok (.invokestatic 219, 3) := by decide +kernel
theorem dd_Model_instruction_192 : decode prog_14_method_23_code 192 = .ok (.ifCond .eq 10, 3) := by decide +kernel
theorem dd_Model_instruction_195 : decode prog_14_method_23_code 195 = .ok (.aload_n 0, 1) := by decide +kernel
theorem dd_Model_instruction_196 : decode prog_14_method_23_code 196 = .ok (.invokevirtual 305, 3) := by decide +kernel
theorem dd_Model_instruction_199 : decode prog_14_method_23_code 199 = .ok (.goto 128, 3) := by decide +kernel
theorem dd_Model_instruction_202 : decode prog_14_method_23_code 202 = .ok (.aload_n 0, 1) := by decide +kernel
theorem dd_Model_instruction_203 : decode prog_14_method_23_code 203 = .ok (.getfield 267, 3) := by decide +kernel
theorem dd_Model_instruction_206 : decode prog_14_method_23_code 206 = .ok (.bipush 63, 2) := by decide +kernel
theorem dd_Model_instruction_208 : decode prog_14_method_23_code 208 = .ok (.if_icmp .eq 12, 3) := by decide +kernel
theorem dd_Model_instruction_211 : decode prog_14_method_23_code 211 = .ok (.aload_n 0, 1) := by decide +kernel
theorem dd_Model_instruction_212 : decode prog_14_method_23_code 212 = .ok (.getfield 267, 3) := by decide +kernel
theorem dd_Model_instruction_215 : decode prog_14_method_23_code 215 = .ok (.bipush 64, 2) := by decide +kernel
theorem dd_Model_instruction_217 : decode prog_14_method_23_code 217 = .ok (.if_icmp .ne 11, 3) := by decide +kernel
theorem dd_Model_instruction_220 : decode prog_14_method_23_code 220 = .ok (.aload_n 0, 1) := by decide +kernel
theorem dd_Model_instruction_221 : decode prog_14_method_23_code 221 = .ok (.iconst 0, 1) := by decide +kernel
theorem dd_Model_instruction_222 : decode prog_14_method_23_code 222 = .ok (.invokevirtual 308, 3) := by decide +kernel
theorem dd_Model_instruction_225 : decode prog_14_method_23_code 225 = .ok (.goto 102, 3) := by decide +kernel
theorem dd_Model_instruction_228 : decode prog_14_method_23_code 228 = .ok (.aload_n 0, 1) := by decide +kernel
theorem dd_Model_instruction_229 : decode prog_14_method_23_code 229 = .ok (.getfield 267, 3) := by decide +kernel
theorem dd_Model_instruction_232 : decode prog_14_method_23_code 232 = .ok (.bipush 65, 2) := by decide +kernel
theorem dd_Model_instruction_234 : decode prog_14_method_23_code 234 = .ok (.if_icmp .eq 12, 3) := by decide +kernel
theorem dd_Model_instruction_237 : decode prog_14_method_23_code 237 = .ok (.aload_n 0, 1) := by decide +kernel
theorem dd_Model_instruction_238 : decode prog_14_method_23_code 238 = .ok (.getfield 267, 3) := by decide +kernel
theorem dd_Model_instruction_241 : decode prog_14_method_23_code 241 = .ok (.bipush 66, 2) := by decide +kernel
theorem dd_Model_instruction_243 : decode prog_14_method_23_code 243 = .ok (.if_icmp .ne 30, 3) := by decide +kernel
theorem dd_Model_instruction_246 : decode prog_14_method_23_code 246 = .ok (.aload_n 0, 1) := by decide +kernel
theorem dd_Model_instruction_247 : decode prog_14_method_23_code 247 = .ok (.aload_n 0, 1) := by decide +kernel
theorem dd_Model_instruction_248 : decode prog_14_method_23_code 248 = .ok (.aload_n 0, 1) := by decide +kernel
theorem dd_Model_instruction_249 : decode prog_14_method_23_code 249 = .ok (.getfield 267, 3) := by decide +kernel
theorem dd_Model_instruction_252 : decode prog_14_method_23_code 252 = .ok (.bipush 65, 2) := by decide +kernel
theorem dd_Model_instruction_254 : decode prog_14_method_23_code 254 = .ok (.if_icmp .ne 8, 3) := by decide +kernel
theorem dd_Model_instruction_257 : decode prog_14_method_23_code 257 = .ok (.bipush 32, 2) := by decide +kernel
theorem dd_Model_instruction_259 : decode prog_14_method_23_code 259 = .ok (.goto 5, 3) := by decide +kernel
theorem dd_Model_instruction_262 : decode prog_14_method_23_code 262 = .ok (.bipush 64, 2) := by decide +kernel
theorem dd_Model_instruction_264 : decode prog_14_method_23_code 264 = .ok (.invokevirtual 193, 3) := by decide +kernel
theorem dd_Model_instruction_267 : decode prog_14_method_23_code 267 = .ok (.putfield 273, 3) := by decide +kernel
theorem dd_Model_instruction_270 : decode prog_14_method_23_code 270 = .ok (.goto 57, 3) := by decide +kernel
theorem dd_Model_instruction_273 : decode prog_14_method_23_code 273 = .ok (.aload_n 0, 1) := by decide +kernel
theorem dd_Model_instruction_274 : decode prog_14_method_23_code 274 = .ok (.getfield 267, 3) := by decide +kernel
theorem dd_Model_instruction_277 : decode prog_14_method_23_code 277 = .ok (.sipush 208, 3) := by decide +kernel
theorem dd_Model_instruction_280 : decode prog_14_method_23_code 280 = .ok (.if_icmp .ne 15, 3) := by decide +kernel
theorem dd_Model_instruction_283 : decode prog_14_method_23_code 283 = .ok (.aload_n 0, 1) := by decide +kernel
theorem dd_Model_instruction_284 : decode prog_14_method_23_code 284 = .ok (.aload_n 0, 1) := by decide +kernel
theorem dd_Model_instruction_285 : decode prog_14_method_23_code 285 = .ok (.invokevirtual 207, 3) := by decide +kernel
theorem dd_Model_instruction_288 : decode prog_14_method_23_code 288 = .ok (.i2l, 1) := by decide +kernel
theorem dd_Model_instruction_289 : decode prog_14_method_23_code 289 = .ok (.putfield 273, 3) := by decide +kernel
theorem dd_Model_instruction_292 : decode prog_14_method_23_code 292 = .ok (.goto 35, 3) := by decide +kernel
theorem dd_Model_instruction_295 : decode prog_14_method_23_code 295 = .ok (.aload_n 0, 1) := by decide +kernel
theorem dd_Model_instruction_296 : decode prog_14_method_23_code 296 = .ok (.getfield 267, 3) := by decide +kernel
theorem dd_Model_instruction_299 : decode prog_14_method_23_code 299 = .ok (.sipush 251, 3) := by decide +kernel
theorem dd_Model_instruction_302 : decode prog_14_method_23_code 302 = .ok (.if_icmp .ne 10, 3) := by decide +kernel
theorem dd_Model_instruction_305 : decode prog_14_method_23_code 305 = .ok (.aload_n 0, 1) := by decide +kernel
theorem dd_Model_instruction_306 : decode prog_14_method_23_code 306 = .ok (.invokevirtual 311, 3) := by decide +kernel
theorem dd_Model_instruction_309 : decode prog_14_method_23_code 309 = .ok (.goto 18, 3) := by decide +kernel
theorem dd_Model_instruction_312 : decode prog_14_method_23_code 312 = .ok (.aload_n 0, 1) := by decide +kernel
theorem dd_Model_instruction_313 : decode prog_14_method_23_code 313 = .ok (.getfield 267, 3) := by decide +kernel
theorem dd_Model_instruction_316 : decode prog_14_method_23_code 316 = .ok (.invokestatic 314, 3) := by decide +kernel
theorem dd_Model_instruction_319 : decode prog_14_method_23_code 319 = .ok (.ifCond .ne 8, 3) := by decide +kernel
theorem dd_Model_instruction_322 : decode prog_14_method_23_code 322 = .ok (.aload_n 0, 1) := by decide +kernel
theorem dd_Model_instruction_323 : decode prog_14_method_23_code 323 = .ok (.iconst (-1), 1) := by decide +kernel
theorem dd_Model_instruction_324 : decode prog_14_method_23_code 324 = .ok (.invokevirtual 174, 3) := by decide +kernel
theorem dd_Model_instruction_327 : decode prog_14_method_23_code 327 = .ok (.return_, 1) := by decide +kernel
