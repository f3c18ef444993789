theorem dd_Memory_begin_0 : decode prog_6_method_5_code 0 = .ok (.aload_n 0, 1) := by decide +kernel
theorem dd_Memory_begin_1 : decode prog_6_method_5_code 1 = .ok (.iload_n 1, 1) := by decide +kernel
theorem dd_Memory_begin_2 : decode prog_6_method_5_code 2 = .ok (.putfield 20, 3) := by decide +kernel
theorem dd_Memory_begin_5 : decode prog_6_method_5_code 5 = .ok (.aload_n 0, 1) := by decide +kernel
theorem dd_Memory_begin_6 : decode prog_6_method_5_code 6 = .ok (.iload_n 2, 1) := by decide +kernel
theorem dd_Memory_begin_7 : decode prog_6_method_5_code 7 = .ok (.bipush 16, 2) := by decide +kernel
theorem dd_Memory_begin_9 : decode prog_6_method_5_code 9 = .ok (.invokestatic 33, 3) := by decide +kernel
theorem dd_Memory_begin_12 : decode prog_6_method_5_code 12 = .ok (.putfield 30, 3) := by decide +kernel
theorem dd_Memory_begin_15 : decode prog_6_method_5_code 15 = .ok (.return_, 1) := by decide +kernel
theorem dd_Machine_begin_0 : decode prog_5_method_3_code 0 = .ok (.iconst 0, 1) := by decide +kernel
theorem dd_Machine_begin_1 : decode prog_5_method_3_code 1 = .ok (.istore_n 1, 1) := by decide +kernel
theorem dd_Machine_begin_2 : decode prog_5_method_3_code 2 = .ok (.iload_n 1, 1) := by decide +kernel
theorem dd_Machine_begin_3 : decode prog_5_method_3_code 3 = .ok (.aload_n 0, 1) := by decide +kernel
theorem dd_Machine_begin_4 : decode prog_5_method_3_code 4 = .ok (.getfield 50, 3) := by decide +kernel
theorem dd_Machine_begin_7 : decode prog_5_method_3_code 7 = .ok (.getfield 74, 3) := by decide +kernel
theorem dd_Machine_begin_10 : decode prog_5_method_3_code 10 = .ok (.getfield 77, 3) := by decide +kernel
theorem dd_Machine_begin_13 : decode prog_5_method_3_code 13 = .ok (.if_icmp .ge 57, 3) := by decide +kernel
theorem dd_Machine_begin_16 : decode prog_5_method_3_code 16 = .ok (.aload_n 0, 1) := by decide +kernel
theorem dd_Machine_begin_17 : decode prog_5_method_3_code 17 = .ok (.getfield 50, 3) := by decide +kernel
theorem dd_Machine_begin_20 : decode prog_5_method_3_code 20 = .ok (.getfield 74, 3) := by decide +kernel
theorem dd_Machine_begin_23 : decode prog_5_method_3_code 23 = .ok (.getfield 82, 3) := by decide +kernel
theorem dd_Machine_begin_26 : decode prog_5_method_3_code 26 = .ok (.iload_n 1, 1) := by decide +kernel
theorem dd_Machine_begin_27 : decode prog_5_method_3_code 27 = .ok (.iaload, 1) := by decide +kernel
theorem dd_Machine_begin_28 : decode prog_5_method_3_code 28 = .ok (.invokestatic 85, 3) := by decide +kernel
theorem dd_Machine_begin_31 : decode prog_5_method_3_code 31 = .ok (.ifCond .eq 14, 3) := by decide +kernel
theorem dd_Machine_begin_34 : decode prog_5_method_3_code 34 = .ok (.aload_n 0, 1) := by decide +kernel
theorem dd_Machine_begin_35 : decode prog_5_method_3_code 35 = .ok (.getfield 20, 3) := by decide +kernel
theorem dd_Machine_begin_38 : decode prog_5_method_3_code 38 = .ok (.lconst 0, 1) := by decide +kernel
theorem dd_Machine_begin_39 : decode prog_5_method_3_code 39 = .ok (.invokevirtual 91, 3) := by decide +kernel
theorem dd_Machine_begin_42 : decode prog_5_method_3_code 42 = .ok (.goto 22, 3) := by decide +kernel
theorem dd_Machine_begin_45 : decode prog_5_method_3_code 45 = .ok (.aload_n 0, 1) := by decide +kernel
theorem dd_Machine_begin_46 : decode prog_5_method_3_code 46 = .ok (.getfield 20, 3) := by decide +kernel
theorem dd_Machine_begin_49 : decode prog_5_method_3_code 49 = .ok (.aload_n 0, 1) := by decide +kernel
theorem dd_Machine_begin_50 : decode prog_5_method_3_code 50 = .ok (.getfield 50, 3) := by decide +kernel
theorem dd_Machine_begin_53 : decode prog_5_method_3_code 53 = .ok (.getfield 74, 3) := by decide +kernel
theorem dd_Machine_begin_56 : decode prog_5_method_3_code 56 = .ok (.getfield 95, 3) := by decide +kernel
theorem dd_Machine_begin_59 : decode prog_5_method_3_code 59 = .ok (.iload_n 1, 1) := by decide +kernel
theorem dd_Machine_begin_60 : decode prog_5_method_3_code 60 = .ok (.laload, 1) := by decide +kernel
theorem dd_Machine_begin_61 : decode prog_5_method_3_code 61 = .ok (.invokevirtual 99, 3) := by decide +kernel
theorem dd_Machine_begin_64 : decode prog_5_method_3_code 64 = .ok (.iinc 1 1, 3) := by decide +kernel
theorem dd_Machine_begin_67 : decode prog_5_method_3_code 67 = .ok (.goto (-65), 3) := by decide +kernel
theorem dd_Machine_begin_70 : decode prog_5_method_3_code 70 = .ok (.aload_n 0, 1) := by decide +kernel
theorem dd_Machine_begin_71 : decode prog_5_method_3_code 71 = .ok (.getfield 37, 3) := by decide +kernel
theorem dd_Machine_begin_74 : decode prog_5_method_3_code 74 = .ok (.iconst (-1), 1) := by decide +kernel
theorem dd_Machine_begin_75 : decode prog_5_method_3_code 75 = .ok (.invokestatic 102, 3) := by decide +kernel
theorem dd_Machine_begin_78 : decode prog_5_method_3_code 78 = .ok (.aload_n 0, 1) := by decide +kernel
theorem dd_Machine_begin_79 : decode prog_5_method_3_code 79 = .ok (.getfield 50, 3) := by decide +kernel
theorem dd_Machine_begin_82 : decode prog_5_method_3_code 82 = .ok (.getfield 108, 3) := by decide +kernel
theorem dd_Machine_begin_85 : decode prog_5_method_3_code 85 = .ok (.getfield 77, 3) := by decide +kernel
theorem dd_Machine_begin_88 : decode prog_5_method_3_code 88 = .ok (.iconst 1, 1) := by decide +kernel
theorem dd_Machine_begin_89 : decode prog_5_method_3_code 89 = .ok (.if_icmp .ne 34, 3) := by decide +kernel
theorem dd_Machine_begin_92 : decode prog_5_method_3_code 92 = .ok (.aload_n 0, 1) := by decide +kernel
theorem dd_Machine_begin_93 : decode prog_5_method_3_code 93 = .ok (.getfield 33, 3) := by decide +kernel
theorem dd_Machine_begin_96 : decode prog_5_method_3_code 96 = .ok (.aload_n 0, 1) := by decide +kernel
theorem dd_Machine_begin_97 : decode prog_5_method_3_code 97 = .ok (.getfield 50, 3) := by decide +kernel
theorem dd_Machine_begin_100 : decode prog_5_method_3_code 100 = .ok (.getfield 108, 3) := by decide +kernel
theorem dd_Machine_begin_103 : decode prog_5_method_3_code 103 = .ok (.getfield 111, 3) := by decide +kernel
theorem dd_Machine_begin_106 : decode prog_5_method_3_code 106 = .ok (.iconst 0, 1) := by decide +kernel
theorem dd_Machine_begin_107 : decode prog_5_method_3_code 107 = .ok (.iaload, 1) := by decide +kernel
theorem dd_Machine_begin_108 : decode prog_5_method_3_code 108 = .ok (.aload_n 0, 1) := by decide +kernel
theorem dd_Machine_begin_109 : decode prog_5_method_3_code 109 = .ok (.getfield 50, 3) := by decide +kernel
theorem dd_Machine_begin_112 : decode prog_5_method_3_code 112 = .ok (.getfield 108, 3) := by decide +kernel
theorem dd_Machine_begin_115 : decode prog_5_method_3_code 115 = .ok (.getfield 114, 3) := by decide +kernel
theorem dd_Machine_begin_118 : decode prog_5_method_3_code 118 = .ok (.iconst 0, 1) := by decide +kernel
theorem dd_Machine_begin_119 : decode prog_5_method_3_code 119 = .ok (.iaload, 1) := by decide +kernel
theorem dd_Machine_begin_120 : decode prog_5_method_3_code 120 = .ok (.invokevirtual 117, 3) := by decide +kernel
theorem dd_Machine_begin_123 : decode prog_5_method_3_code 123 = .ok (.aload_n 0, 1) := by decide +kernel
theorem dd_Machine_begin_124 : decode prog_5_method_3_code 124 = .ok (.invokevirtual 121, 3) := by decide +kernel
theorem dd_Machine_begin_127 : decode prog_5_method_3_code 127 = .ok (.istore_n 1, 1) := by decide +kernel
theorem dd_Machine_begin_128 : decode prog_5_method_3_code 128 = .ok (.iload_n 1, 1) := by decide +kernel
theorem dd_Machine_begin_129 : decode prog_5_method_3_code 129 = .ok (.ifCond .ne 10, 3) := by decide +kernel
theorem dd_Machine_begin_132 : decode prog_5_method_3_code 132 = .ok (.aload_n 0, 1) := by decide +kernel
theorem dd_Machine_begin_133 : decode prog_5_method_3_code 133 = .ok (.invokevirtual 125, 3) := by decide +kernel
theorem dd_Machine_begin_136 : decode prog_5_method_3_code 136 = .ok (.goto 4, 3) := by decide +kernel
theorem dd_Machine_begin_139 : decode prog_5_method_3_code 139 = .ok (.iload_n 1, 1) := by decide +kernel
theorem dd_Machine_begin_140 : decode prog_5_method_3_code 140 = .ok (.ireturn, 1) := by decide +kernel
