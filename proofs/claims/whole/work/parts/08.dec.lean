theorem dd_Model_thrown_0 : decode prog_14_method_2_code 0 = .ok (.aload_n 0, 1) := by decide +kernel
theorem dd_Model_thrown_1 : decode prog_14_method_2_code 1 = .ok (.getfield 161, 3) := by decide +kernel
theorem dd_Model_thrown_4 : decode prog_14_method_2_code 4 = .ok (.ireturn, 1) := by decide +kernel
theorem dd_Model_fails_0 : decode prog_14_method_3_code 0 = .ok (.aload_n 0, 1) := by decide +kernel
theorem dd_Model_fails_1 : decode prog_14_method_3_code 1 = .ok (.iload_n 1, 1) := by decide +kernel
theorem dd_Model_fails_2 : decode prog_14_method_3_code 2 = .ok (.ifCond .eq 7, 3) := by decide +kernel
theorem dd_Model_fails_5 : decode prog_14_method_3_code 5 = .ok (.iload_n 2, 1) := by decide +kernel
theorem dd_Model_fails_6 : decode prog_14_method_3_code 6 = .ok (.goto 4, 3) := by decide +kernel
theorem dd_Model_fails_9 : decode prog_14_method_3_code 9 = .ok (.iconst 0, 1) := by decide +kernel
theorem dd_Model_fails_10 : decode prog_14_method_3_code 10 = .ok (.putfield 161, 3) := by decide +kernel
theorem dd_Model_fails_13 : decode prog_14_method_3_code 13 = .ok (.iload_n 1, 1) := by decide +kernel
theorem dd_Model_fails_14 : decode prog_14_method_3_code 14 = .ok (.ireturn, 1) := by decide +kernel
theorem dd_Model_fail_0 : decode prog_14_method_8_code 0 = .ok (.aload_n 0, 1) := by decide +kernel
theorem dd_Model_fail_1 : decode prog_14_method_8_code 1 = .ok (.aload_n 0, 1) := by decide +kernel
theorem dd_Model_fail_2 : decode prog_14_method_8_code 2 = .ok (.getfield 165, 3) := by decide +kernel
theorem dd_Model_fail_5 : decode prog_14_method_8_code 5 = .ok (.ifCond .ne 7, 3) := by decide +kernel
theorem dd_Model_fail_8 : decode prog_14_method_8_code 8 = .ok (.iload_n 1, 1) := by decide +kernel
theorem dd_Model_fail_9 : decode prog_14_method_8_code 9 = .ok (.goto 7, 3) := by decide +kernel
theorem dd_Model_fail_12 : decode prog_14_method_8_code 12 = .ok (.aload_n 0, 1) := by decide +kernel
theorem dd_Model_fail_13 : decode prog_14_method_8_code 13 = .ok (.getfield 165, 3) := by decide +kernel
theorem dd_Model_fail_16 : decode prog_14_method_8_code 16 = .ok (.putfield 165, 3) := by decide +kernel
theorem dd_Model_fail_19 : decode prog_14_method_8_code 19 = .ok (.return_, 1) := by decide +kernel
theorem dd_Model_one_0 : decode prog_14_method_9_code 0 = .ok (.aload_n 0, 1) := by decide +kernel
theorem dd_Model_one_1 : decode prog_14_method_9_code 1 = .ok (.getfield 165, 3) := by decide +kernel
theorem dd_Model_one_4 : decode prog_14_method_9_code 4 = .ok (.ifCond .ne 14, 3) := by decide +kernel
theorem dd_Model_one_7 : decode prog_14_method_9_code 7 = .ok (.aload_n 0, 1) := by decide +kernel
theorem dd_Model_one_8 : decode prog_14_method_9_code 8 = .ok (.getfield 168, 3) := by decide +kernel
theorem dd_Model_one_11 : decode prog_14_method_9_code 11 = .ok (.aload_n 0, 1) := by decide +kernel
theorem dd_Model_one_12 : decode prog_14_method_9_code 12 = .ok (.getfield 171, 3) := by decide +kernel
theorem dd_Model_one_15 : decode prog_14_method_9_code 15 = .ok (.if_icmp .lt 10, 3) := by decide +kernel
theorem dd_Model_one_18 : decode prog_14_method_9_code 18 = .ok (.aload_n 0, 1) := by decide +kernel
theorem dd_Model_one_19 : decode prog_14_method_9_code 19 = .ok (.iconst (-1), 1) := by decide +kernel
theorem dd_Model_one_20 : decode prog_14_method_9_code 20 = .ok (.invokevirtual 174, 3) := by decide +kernel
theorem dd_Model_one_23 : decode prog_14_method_9_code 23 = .ok (.iconst 0, 1) := by decide +kernel
theorem dd_Model_one_24 : decode prog_14_method_9_code 24 = .ok (.ireturn, 1) := by decide +kernel
theorem dd_Model_one_25 : decode prog_14_method_9_code 25 = .ok (.aload_n 0, 1) := by decide +kernel
theorem dd_Model_one_26 : decode prog_14_method_9_code 26 = .ok (.dup, 1) := by decide +kernel
theorem dd_Model_one_27 : decode prog_14_method_9_code 27 = .ok (.getfield 168, 3) := by decide +kernel
theorem dd_Model_one_30 : decode prog_14_method_9_code 30 = .ok (.iconst 1, 1) := by decide +kernel
theorem dd_Model_one_31 : decode prog_14_method_9_code 31 = .ok (.iadd, 1) := by decide +kernel
theorem dd_Model_one_32 : decode prog_14_method_9_code 32 = .ok (.putfield 168, 3) := by decide +kernel
theorem dd_Model_one_35 : decode prog_14_method_9_code 35 = .ok (.aload_n 0, 1) := by decide +kernel
theorem dd_Model_one_36 : decode prog_14_method_9_code 36 = .ok (.getfield 17, 3) := by decide +kernel
theorem dd_Model_one_39 : decode prog_14_method_9_code 39 = .ok (.aload_n 0, 1) := by decide +kernel
theorem dd_Model_one_40 : decode prog_14_method_9_code 40 = .ok (.getfield 168, 3) := by decide +kernel
theorem dd_Model_one_43 : decode prog_14_method_9_code 43 = .ok (.iconst 1, 1) := by decide +kernel
theorem dd_Model_one_44 : decode prog_14_method_9_code 44 = .ok (.isub, 1) := by decide +kernel
theorem dd_Model_one_45 : decode prog_14_method_9_code 45 = .ok (.baload, 1) := by decide +kernel
theorem dd_Model_one_46 : decode prog_14_method_9_code 46 = .ok (.sipush 255, 3) := by decide +kernel
theorem dd_Model_one_49 : decode prog_14_method_9_code 49 = .ok (.iand, 1) := by decide +kernel
theorem dd_Model_one_50 : decode prog_14_method_9_code 50 = .ok (.ireturn, 1) := by decide +kernel
theorem dd_Model_ahead_0 : decode prog_14_method_10_code 0 = .ok (.aload_n 0, 1) := by decide +kernel
theorem dd_Model_ahead_1 : decode prog_14_method_10_code 1 = .ok (.getfield 168, 3) := by decide +kernel
theorem dd_Model_ahead_4 : decode prog_14_method_10_code 4 = .ok (.aload_n 0, 1) := by decide +kernel
theorem dd_Model_ahead_5 : decode prog_14_method_10_code 5 = .ok (.getfield 171, 3) := by decide +kernel
theorem dd_Model_ahead_8 : decode prog_14_method_10_code 8 = .ok (.if_icmp .ge 19, 3) := by decide +kernel
theorem dd_Model_ahead_11 : decode prog_14_method_10_code 11 = .ok (.aload_n 0, 1) := by decide +kernel
theorem dd_Model_ahead_12 : decode prog_14_method_10_code 12 = .ok (.getfield 17, 3) := by decide +kernel
theorem dd_Model_ahead_15 : decode prog_14_method_10_code 15 = .ok (.aload_n 0, 1) := by decide +kernel
theorem dd_Model_ahead_16 : decode prog_14_method_10_code 16 = .ok (.getfield 168, 3) := by decide +kernel
theorem dd_Model_ahead_19 : decode prog_14_method_10_code 19 = .ok (.baload, 1) := by decide +kernel
theorem dd_Model_ahead_20 : decode prog_14_method_10_code 20 = .ok (.sipush 255, 3) := by decide +kernel
theorem dd_Model_ahead_23 : decode prog_14_method_10_code 23 = .ok (.iand, 1) := by decide +kernel
theorem dd_Model_ahead_24 : decode prog_14_method_10_code 24 = .ok (.goto 4, 3) := by decide +kernel
theorem dd_Model_ahead_27 : decode prog_14_method_10_code 27 = .ok (.iconst (-1), 1) := by decide +kernel
theorem dd_Model_ahead_28 : decode prog_14_method_10_code 28 = .ok (.ireturn, 1) := by decide +kernel
