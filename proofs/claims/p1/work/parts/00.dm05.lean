theorem dd_Model_isPartAlike_0 : decode prog_14_method_42_code 0 = .ok (.iload_n 1, 1) := by decide +kernel
theorem dd_Model_isPartAlike_1 : decode prog_14_method_42_code 1 = .ok (.invokestatic 384, 3) := by decide +kernel
theorem dd_Model_isPartAlike_4 : decode prog_14_method_42_code 4 = .ok (.ifCond .eq 10, 3) := by decide +kernel
theorem dd_Model_isPartAlike_7 : decode prog_14_method_42_code 7 = .ok (.iload_n 3, 1) := by decide +kernel
theorem dd_Model_isPartAlike_8 : decode prog_14_method_42_code 8 = .ok (.invokestatic 384, 3) := by decide +kernel
theorem dd_Model_isPartAlike_11 : decode prog_14_method_42_code 11 = .ok (.ifCond .ne 14, 3) := by decide +kernel
theorem dd_Model_isPartAlike_14 : decode prog_14_method_42_code 14 = .ok (.iload_n 1, 1) := by decide +kernel
theorem dd_Model_isPartAlike_15 : decode prog_14_method_42_code 15 = .ok (.iload_n 3, 1) := by decide +kernel
theorem dd_Model_isPartAlike_16 : decode prog_14_method_42_code 16 = .ok (.if_icmp .ne 7, 3) := by decide +kernel
theorem dd_Model_isPartAlike_19 : decode prog_14_method_42_code 19 = .ok (.iconst 1, 1) := by decide +kernel
theorem dd_Model_isPartAlike_20 : decode prog_14_method_42_code 20 = .ok (.goto 4, 3) := by decide +kernel
theorem dd_Model_isPartAlike_23 : decode prog_14_method_42_code 23 = .ok (.iconst 0, 1) := by decide +kernel
theorem dd_Model_isPartAlike_24 : decode prog_14_method_42_code 24 = .ok (.ireturn, 1) := by decide +kernel
theorem dd_Model_isPartAlike_25 : decode prog_14_method_42_code 25 = .ok (.iload_n 1, 1) := by decide +kernel
theorem dd_Model_isPartAlike_26 : decode prog_14_method_42_code 26 = .ok (.invokestatic 387, 3) := by decide +kernel
theorem dd_Model_isPartAlike_29 : decode prog_14_method_42_code 29 = .ok (.iconst 2, 1) := by decide +kernel
theorem dd_Model_isPartAlike_30 : decode prog_14_method_42_code 30 = .ok (.isub, 1) := by decide +kernel
theorem dd_Model_isPartAlike_31 : decode prog_14_method_42_code 31 = .ok (.istore 5, 2) := by decide +kernel
theorem dd_Model_isPartAlike_33 : decode prog_14_method_42_code 33 = .ok (.iload_n 3, 1) := by decide +kernel
theorem dd_Model_isPartAlike_34 : decode prog_14_method_42_code 34 = .ok (.invokestatic 387, 3) := by decide +kernel
theorem dd_Model_isPartAlike_37 : decode prog_14_method_42_code 37 = .ok (.iconst 2, 1) := by decide +kernel
theorem dd_Model_isPartAlike_38 : decode prog_14_method_42_code 38 = .ok (.isub, 1) := by decide +kernel
theorem dd_Model_isPartAlike_39 : decode prog_14_method_42_code 39 = .ok (.istore 6, 2) := by decide +kernel
theorem dd_Model_isPartAlike_41 : decode prog_14_method_42_code 41 = .ok (.iload_n 1, 1) := by decide +kernel
theorem dd_Model_isPartAlike_42 : decode prog_14_method_42_code 42 = .ok (.iconst 1, 1) := by decide +kernel
theorem dd_Model_isPartAlike_43 : decode prog_14_method_42_code 43 = .ok (.iand, 1) := by decide +kernel
theorem dd_Model_isPartAlike_44 : decode prog_14_method_42_code 44 = .ok (.iload_n 3, 1) := by decide +kernel
theorem dd_Model_isPartAlike_45 : decode prog_14_method_42_code 45 = .ok (.iconst 1, 1) := by decide +kernel
theorem dd_Model_isPartAlike_46 : decode prog_14_method_42_code 46 = .ok (.iand, 1) := by decide +kernel
theorem dd_Model_isPartAlike_47 : decode prog_14_method_42_code 47 = .ok (.if_icmp .eq 5, 3) := by decide +kernel
theorem dd_Model_isPartAlike_50 : decode prog_14_method_42_code 50 = .ok (.iconst 0, 1) := by decide +kernel
theorem dd_Model_isPartAlike_51 : decode prog_14_method_42_code 51 = .ok (.ireturn, 1) := by decide +kernel
theorem dd_Model_isPartAlike_52 : decode prog_14_method_42_code 52 = .ok (.iload 5, 2) := by decide +kernel
theorem dd_Model_isPartAlike_54 : decode prog_14_method_42_code 54 = .ok (.ifCond .lt 8, 3) := by decide +kernel
theorem dd_Model_isPartAlike_57 : decode prog_14_method_42_code 57 = .ok (.iload 6, 2) := by decide +kernel
theorem dd_Model_isPartAlike_59 : decode prog_14_method_42_code 59 = .ok (.ifCond .ge 16, 3) := by decide +kernel
theorem dd_Model_isPartAlike_62 : decode prog_14_method_42_code 62 = .ok (.iload 5, 2) := by decide +kernel
theorem dd_Model_isPartAlike_64 : decode prog_14_method_42_code 64 = .ok (.iload 6, 2) := by decide +kernel
theorem dd_Model_isPartAlike_66 : decode prog_14_method_42_code 66 = .ok (.if_icmp .ne 7, 3) := by decide +kernel
theorem dd_Model_isPartAlike_69 : decode prog_14_method_42_code 69 = .ok (.iconst 1, 1) := by decide +kernel
theorem dd_Model_isPartAlike_70 : decode prog_14_method_42_code 70 = .ok (.goto 4, 3) := by decide +kernel
theorem dd_Model_isPartAlike_73 : decode prog_14_method_42_code 73 = .ok (.iconst 0, 1) := by decide +kernel
theorem dd_Model_isPartAlike_74 : decode prog_14_method_42_code 74 = .ok (.ireturn, 1) := by decide +kernel
theorem dd_Model_isPartAlike_75 : decode prog_14_method_42_code 75 = .ok (.iload 5, 2) := by decide +kernel
theorem dd_Model_isPartAlike_77 : decode prog_14_method_42_code 77 = .ok (.iload_n 2, 1) := by decide +kernel
theorem dd_Model_isPartAlike_78 : decode prog_14_method_42_code 78 = .ok (.if_icmp .ne 10, 3) := by decide +kernel
theorem dd_Model_isPartAlike_81 : decode prog_14_method_42_code 81 = .ok (.iload 6, 2) := by decide +kernel
theorem dd_Model_isPartAlike_83 : decode prog_14_method_42_code 83 = .ok (.iload 4, 2) := by decide +kernel
theorem dd_Model_isPartAlike_85 : decode prog_14_method_42_code 85 = .ok (.if_icmp .eq 33, 3) := by decide +kernel
theorem dd_Model_isPartAlike_88 : decode prog_14_method_42_code 88 = .ok (.iload 5, 2) := by decide +kernel
theorem dd_Model_isPartAlike_90 : decode prog_14_method_42_code 90 = .ok (.iload_n 2, 1) := by decide +kernel
theorem dd_Model_isPartAlike_91 : decode prog_14_method_42_code 91 = .ok (.if_icmp .ge 31, 3) := by decide +kernel
theorem dd_Model_isPartAlike_94 : decode prog_14_method_42_code 94 = .ok (.iload 6, 2) := by decide +kernel
theorem dd_Model_isPartAlike_96 : decode prog_14_method_42_code 96 = .ok (.iload 4, 2) := by decide +kernel
theorem dd_Model_isPartAlike_98 : decode prog_14_method_42_code 98 = .ok (.if_icmp .ge 24, 3) := by decide +kernel
theorem dd_Model_isPartAlike_101 : decode prog_14_method_42_code 101 = .ok (.aload_n 0, 1) := by decide +kernel
theorem dd_Model_isPartAlike_102 : decode prog_14_method_42_code 102 = .ok (.getfield 39, 3) := by decide +kernel
theorem dd_Model_isPartAlike_105 : decode prog_14_method_42_code 105 = .ok (.iload 5, 2) := by decide +kernel
theorem dd_Model_isPartAlike_107 : decode prog_14_method_42_code 107 = .ok (.iaload, 1) := by decide +kernel
theorem dd_Model_isPartAlike_108 : decode prog_14_method_42_code 108 = .ok (.aload_n 0, 1) := by decide +kernel
theorem dd_Model_isPartAlike_109 : decode prog_14_method_42_code 109 = .ok (.getfield 39, 3) := by decide +kernel
theorem dd_Model_isPartAlike_112 : decode prog_14_method_42_code 112 = .ok (.iload 6, 2) := by decide +kernel
theorem dd_Model_isPartAlike_114 : decode prog_14_method_42_code 114 = .ok (.iaload, 1) := by decide +kernel
theorem dd_Model_isPartAlike_115 : decode prog_14_method_42_code 115 = .ok (.if_icmp .ne 7, 3) := by decide +kernel
theorem dd_Model_isPartAlike_118 : decode prog_14_method_42_code 118 = .ok (.iconst 1, 1) := by decide +kernel
theorem dd_Model_isPartAlike_119 : decode prog_14_method_42_code 119 = .ok (.goto 4, 3) := by decide +kernel
theorem dd_Model_isPartAlike_122 : decode prog_14_method_42_code 122 = .ok (.iconst 0, 1) := by decide +kernel
theorem dd_Model_isPartAlike_123 : decode prog_14_method_42_code 123 = .ok (.ireturn, 1) := by decide +kernel
theorem dd_Model_areAlike_0 : decode prog_14_method_43_code 0 = .ok (.aload_n 0, 1) := by decide +kernel
theorem dd_Model_areAlike_1 : decode prog_14_method_43_code 1 = .ok (.getfield 27, 3) := by decide +kernel
theorem dd_Model_areAlike_4 : decode prog_14_method_43_code 4 = .ok (.iload_n 1, 1) := by decide +kernel
theorem dd_Model_areAlike_5 : decode prog_14_method_43_code 5 = .ok (.iaload, 1) := by decide +kernel
theorem dd_Model_areAlike_6 : decode prog_14_method_43_code 6 = .ok (.aload_n 0, 1) := by decide +kernel
theorem dd_Model_areAlike_7 : decode prog_14_method_43_code 7 = .ok (.getfield 27, 3) := by decide +kernel
theorem dd_Model_areAlike_10 : decode prog_14_method_43_code 10 = .ok (.iload_n 2, 1) := by decide +kernel
theorem dd_Model_areAlike_11 : decode prog_14_method_43_code 11 = .ok (.iaload, 1) := by decide +kernel
theorem dd_Model_areAlike_12 : decode prog_14_method_43_code 12 = .ok (.if_icmp .ne 37, 3) := by decide +kernel
theorem dd_Model_areAlike_15 : decode prog_14_method_43_code 15 = .ok (.aload_n 0, 1) := by decide +kernel
theorem dd_Model_areAlike_16 : decode prog_14_method_43_code 16 = .ok (.getfield 30, 3) := by decide +kernel
theorem dd_Model_areAlike_19 : decode prog_14_method_43_code 19 = .ok (.iload_n 1, 1) := by decide +kernel
theorem dd_Model_areAlike_20 : decode prog_14_method_43_code 20 = .ok (.iaload, 1) := by decide +kernel
theorem dd_Model_areAlike_21 : decode prog_14_method_43_code 21 = .ok (.aload_n 0, 1) := by decide +kernel
theorem dd_Model_areAlike_22 : decode prog_14_method_43_code 22 = .ok (.getfield 30, 3) := by decide +kernel
theorem dd_Model_areAlike_25 : decode prog_14_method_43_code 25 = .ok (.iload_n 2, 1) := by decide +kernel
theorem dd_Model_areAlike_26 : decode prog_14_method_43_code 26 = .ok (.iaload, 1) := by decide +kernel
theorem dd_Model_areAlike_27 : decode prog_14_method_43_code 27 = .ok (.if_icmp .ne 22, 3) := by decide +kernel
theorem dd_Model_areAlike_30 : decode prog_14_method_43_code 30 = .ok (.aload_n 0, 1) := by decide +kernel
theorem dd_Model_areAlike_31 : decode prog_14_method_43_code 31 = .ok (.getfield 33, 3) := by decide +kernel
theorem dd_Model_areAlike_34 : decode prog_14_method_43_code 34 = .ok (.iload_n 1, 1) := by decide +kernel
theorem dd_Model_areAlike_35 : decode prog_14_method_43_code 35 = .ok (.iaload, 1) := by decide +kernel
theorem dd_Model_areAlike_36 : decode prog_14_method_43_code 36 = .ok (.aload_n 0, 1) := by decide +kernel
theorem dd_Model_areAlike_37 : decode prog_14_method_43_code 37 = .ok (.getfield 33, 3) := by decide +kernel
theorem dd_Model_areAlike_40 : decode prog_14_method_43_code 40 = .ok (.iload_n 2, 1) := by decide +kernel
theorem dd_Model_areAlike_41 : decode prog_14_method_43_code 41 = .ok (.iaload, 1) := by decide +kernel
theorem dd_Model_areAlike_42 : decode prog_14_method_43_code 42 = .ok (.if_icmp .ne 7, 3) := by decide +kernel
theorem dd_Model_areAlike_45 : decode prog_14_method_43_code 45 = .ok (.iconst 1, 1) := by decide +kernel
theorem dd_Model_areAlike_46 : decode prog_14_method_43_code 46 = .ok (.goto 4, 3) := by decide +kernel
theorem dd_Model_areAlike_49 : decode prog_14_method_43_code 49 = .ok (.iconst 0, 1) := by decide +kernel
theorem dd_Model_areAlike_50 : decode prog_14_method_43_code 50 = .ok (.istore_n 3, 1) := by decide +kernel
theorem dd_Model_areAlike_51 : decode prog_14_method_43_code 51 = .ok (.iconst 0, 1) := by decide +kernel
theorem dd_Model_areAlike_52 : decode prog_14_method_43_code 52 = .ok (.istore 4, 2) := by decide +kernel
theorem dd_Model_areAlike_54 : decode prog_14_method_43_code 54 = .ok (.iload 4, 2) := by decide +kernel
theorem dd_Model_areAlike_56 : decode prog_14_method_43_code 56 = .ok (.bipush 32, 2) := by decide +kernel
theorem dd_Model_areAlike_58 : decode prog_14_method_43_code 58 = .ok (.if_icmp .ge 44, 3) := by decide +kernel
theorem dd_Model_areAlike_61 : decode prog_14_method_43_code 61 = .ok (.iload_n 3, 1) := by decide +kernel
theorem dd_Model_areAlike_62 : decode prog_14_method_43_code 62 = .ok (.ifCond .eq 40, 3) := by decide +kernel
theorem dd_Model_areAlike_65 : decode prog_14_method_43_code 65 = .ok (.aload_n 0, 1) := by decide +kernel
theorem dd_Model_areAlike_66 : decode prog_14_method_43_code 66 = .ok (.aload_n 0, 1) := by decide +kernel
theorem dd_Model_areAlike_67 : decode prog_14_method_43_code 67 = .ok (.getfield 36, 3) := by decide +kernel
theorem dd_Model_areAlike_70 : decode prog_14_method_43_code 70 = .ok (.bipush 32, 2) := by decide +kernel
theorem dd_Model_areAlike_72 : decode prog_14_method_43_code 72 = .ok (.iload_n 1, 1) := by decide +kernel
theorem dd_Model_areAlike_73 : decode prog_14_method_43_code 73 = .ok (.imul, 1) := by decide +kernel
theorem dd_Model_areAlike_74 : decode prog_14_method_43_code 74 = .ok (.iload 4, 2) := by decide +kernel
theorem dd_Model_areAlike_76 : decode prog_14_method_43_code 76 = .ok (.iadd, 1) := by decide +kernel
theorem dd_Model_areAlike_77 : decode prog_14_method_43_code 77 = .ok (.iaload, 1) := by decide +kernel
theorem dd_Model_areAlike_78 : decode prog_14_method_43_code 78 = .ok (.iload_n 1, 1) := by decide +kernel
theorem dd_Model_areAlike_79 : decode prog_14_method_43_code 79 = .ok (.aload_n 0, 1) := by decide +kernel
theorem dd_Model_areAlike_80 : decode prog_14_method_43_code 80 = .ok (.getfield 36, 3) := by decide +kernel
theorem dd_Model_areAlike_83 : decode prog_14_method_43_code 83 = .ok (.bipush 32, 2) := by decide +kernel
theorem dd_Model_areAlike_85 : decode prog_14_method_43_code 85 = .ok (.iload_n 2, 1) := by decide +kernel
theorem dd_Model_areAlike_86 : decode prog_14_method_43_code 86 = .ok (.imul, 1) := by decide +kernel
theorem dd_Model_areAlike_87 : decode prog_14_method_43_code 87 = .ok (.iload 4, 2) := by decide +kernel
theorem dd_Model_areAlike_89 : decode prog_14_method_43_code 89 = .ok (.iadd, 1) := by decide +kernel
theorem dd_Model_areAlike_90 : decode prog_14_method_43_code 90 = .ok (.iaload, 1) := by decide +kernel
theorem dd_Model_areAlike_91 : decode prog_14_method_43_code 91 = .ok (.iload_n 2, 1) := by decide +kernel
theorem dd_Model_areAlike_92 : decode prog_14_method_43_code 92 = .ok (.invokevirtual 394, 3) := by decide +kernel
theorem dd_Model_areAlike_95 : decode prog_14_method_43_code 95 = .ok (.istore_n 3, 1) := by decide +kernel
theorem dd_Model_areAlike_96 : decode prog_14_method_43_code 96 = .ok (.iinc 4 1, 3) := by decide +kernel
theorem dd_Model_areAlike_99 : decode prog_14_method_43_code 99 = .ok (.goto (-45), 3) := by decide +kernel
theorem dd_Model_areAlike_102 : decode prog_14_method_43_code 102 = .ok (.iload_n 3, 1) := by decide +kernel
theorem dd_Model_areAlike_103 : decode prog_14_method_43_code 103 = .ok (.ireturn, 1) := by decide +kernel
theorem dd_Model_partRow_0 : decode prog_14_method_44_code 0 = .ok (.aload_n 0, 1) := by decide +kernel
theorem dd_Model_partRow_1 : decode prog_14_method_44_code 1 = .ok (.invokevirtual 295, 3) := by decide +kernel
theorem dd_Model_partRow_4 : decode prog_14_method_44_code 4 = .ok (.lstore_n 3, 1) := by decide +kernel
theorem dd_Model_partRow_5 : decode prog_14_method_44_code 5 = .ok (.aload_n 0, 1) := by decide +kernel
theorem dd_Model_partRow_6 : decode prog_14_method_44_code 6 = .ok (.aload_n 0, 1) := by decide +kernel
theorem dd_Model_partRow_7 : decode prog_14_method_44_code 7 = .ok (.getfield 398, 3) := by decide +kernel
theorem dd_Model_partRow_10 : decode prog_14_method_44_code 10 = .ok (.ifCond .ne 11, 3) := by decide +kernel
theorem dd_Model_partRow_13 : decode prog_14_method_44_code 13 = .ok (.lload_n 3, 1) := by decide +kernel
theorem dd_Model_partRow_14 : decode prog_14_method_44_code 14 = .ok (.ldc2_w 402, 3) := by decide +kernel
theorem dd_Model_partRow_17 : decode prog_14_method_44_code 17 = .ok (.lcmp, 1) := by decide +kernel
theorem dd_Model_partRow_18 : decode prog_14_method_44_code 18 = .ok (.ifCond .le 7, 3) := by decide +kernel
theorem dd_Model_partRow_21 : decode prog_14_method_44_code 21 = .ok (.iconst 1, 1) := by decide +kernel
theorem dd_Model_partRow_22 : decode prog_14_method_44_code 22 = .ok (.goto 4, 3) := by decide +kernel
theorem dd_Model_partRow_25 : decode prog_14_method_44_code 25 = .ok (.iconst 0, 1) := by decide +kernel
theorem dd_Model_partRow_26 : decode prog_14_method_44_code 26 = .ok (.putfield 398, 3) := by decide +kernel
theorem dd_Model_partRow_29 : decode prog_14_method_44_code 29 = .ok (.iconst 0, 1) := by decide +kernel
theorem dd_Model_partRow_30 : decode prog_14_method_44_code 30 = .ok (.istore 5, 2) := by decide +kernel
theorem dd_Model_partRow_32 : decode prog_14_method_44_code 32 = .ok (.iload 5, 2) := by decide +kernel
theorem dd_Model_partRow_34 : decode prog_14_method_44_code 34 = .ok (.i2l, 1) := by decide +kernel
theorem dd_Model_partRow_35 : decode prog_14_method_44_code 35 = .ok (.lload_n 3, 1) := by decide +kernel
theorem dd_Model_partRow_36 : decode prog_14_method_44_code 36 = .ok (.lcmp, 1) := by decide +kernel
theorem dd_Model_partRow_37 : decode prog_14_method_44_code 37 = .ok (.ifCond .ge 59, 3) := by decide +kernel
theorem dd_Model_partRow_40 : decode prog_14_method_44_code 40 = .ok (.aload_n 0, 1) := by decide +kernel
theorem dd_Model_partRow_41 : decode prog_14_method_44_code 41 = .ok (.getfield 398, 3) := by decide +kernel
theorem dd_Model_partRow_44 : decode prog_14_method_44_code 44 = .ok (.ifCond .ne 52, 3) := by decide +kernel
theorem dd_Model_partRow_47 : decode prog_14_method_44_code 47 = .ok (.aload_n 0, 1) := by decide +kernel
theorem dd_Model_partRow_48 : decode prog_14_method_44_code 48 = .ok (.invokevirtual 210, 3) := by decide +kernel
theorem dd_Model_partRow_51 : decode prog_14_method_44_code 51 = .ok (.istore 6, 2) := by decide +kernel
theorem dd_Model_partRow_53 : decode prog_14_method_44_code 53 = .ok (.aload_n 0, 1) := by decide +kernel
theorem dd_Model_partRow_54 : decode prog_14_method_44_code 54 = .ok (.aload_n 0, 1) := by decide +kernel
theorem dd_Model_partRow_55 : decode prog_14_method_44_code 55 = .ok (.iload 6, 2) := by decide +kernel
theorem dd_Model_partRow_57 : decode prog_14_method_44_code 57 = .ok (.iload_n 1, 1) := by decide +kernel
theorem dd_Model_partRow_58 : decode prog_14_method_44_code 58 = .ok (.iconst 1, 1) := by decide +kernel
theorem dd_Model_partRow_59 : decode prog_14_method_44_code 59 = .ok (.iadd, 1) := by decide +kernel
theorem dd_Model_partRow_60 : decode prog_14_method_44_code 60 = .ok (.invokevirtual 404, 3) := by decide +kernel
theorem dd_Model_partRow_63 : decode prog_14_method_44_code 63 = .ok (.ifCond .ne 7, 3) := by decide +kernel
theorem dd_Model_partRow_66 : decode prog_14_method_44_code 66 = .ok (.iconst 1, 1) := by decide +kernel
theorem dd_Model_partRow_67 : decode prog_14_method_44_code 67 = .ok (.goto 4, 3) := by decide +kernel
theorem dd_Model_partRow_70 : decode prog_14_method_44_code 70 = .ok (.iconst 0, 1) := by decide +kernel
theorem dd_Model_partRow_71 : decode prog_14_method_44_code 71 = .ok (.putfield 398, 3) := by decide +kernel
theorem dd_Model_partRow_74 : decode prog_14_method_44_code 74 = .ok (.aload_n 0, 1) := by decide +kernel
theorem dd_Model_partRow_75 : decode prog_14_method_44_code 75 = .ok (.getfield 36, 3) := by decide +kernel
theorem dd_Model_partRow_78 : decode prog_14_method_44_code 78 = .ok (.bipush 32, 2) := by decide +kernel
theorem dd_Model_partRow_80 : decode prog_14_method_44_code 80 = .ok (.iload_n 1, 1) := by decide +kernel
theorem dd_Model_partRow_81 : decode prog_14_method_44_code 81 = .ok (.imul, 1) := by decide +kernel
theorem dd_Model_partRow_82 : decode prog_14_method_44_code 82 = .ok (.iload_n 2, 1) := by decide +kernel
theorem dd_Model_partRow_83 : decode prog_14_method_44_code 83 = .ok (.iadd, 1) := by decide +kernel
theorem dd_Model_partRow_84 : decode prog_14_method_44_code 84 = .ok (.iload 5, 2) := by decide +kernel
theorem dd_Model_partRow_86 : decode prog_14_method_44_code 86 = .ok (.iadd, 1) := by decide +kernel
theorem dd_Model_partRow_87 : decode prog_14_method_44_code 87 = .ok (.iload 6, 2) := by decide +kernel
theorem dd_Model_partRow_89 : decode prog_14_method_44_code 89 = .ok (.iastore, 1) := by decide +kernel
theorem dd_Model_partRow_90 : decode prog_14_method_44_code 90 = .ok (.iinc 5 1, 3) := by decide +kernel
theorem dd_Model_partRow_93 : decode prog_14_method_44_code 93 = .ok (.goto (-61), 3) := by decide +kernel
theorem dd_Model_partRow_96 : decode prog_14_method_44_code 96 = .ok (.lload_n 3, 1) := by decide +kernel
theorem dd_Model_partRow_97 : decode prog_14_method_44_code 97 = .ok (.l2i, 1) := by decide +kernel
theorem dd_Model_partRow_98 : decode prog_14_method_44_code 98 = .ok (.ireturn, 1) := by decide +kernel
theorem dd_Model_typeAt_0 : decode prog_14_method_45_code 0 = .ok (.aload_n 0, 1) := by decide +kernel
theorem dd_Model_typeAt_1 : decode prog_14_method_45_code 1 = .ok (.invokevirtual 178, 3) := by decide +kernel
theorem dd_Model_typeAt_4 : decode prog_14_method_45_code 4 = .ok (.istore_n 2, 1) := by decide +kernel
theorem dd_Model_typeAt_5 : decode prog_14_method_45_code 5 = .ok (.aload_n 0, 1) := by decide +kernel
theorem dd_Model_typeAt_6 : decode prog_14_method_45_code 6 = .ok (.getfield 27, 3) := by decide +kernel
theorem dd_Model_typeAt_9 : decode prog_14_method_45_code 9 = .ok (.iload_n 1, 1) := by decide +kernel
theorem dd_Model_typeAt_10 : decode prog_14_method_45_code 10 = .ok (.iload_n 2, 1) := by decide +kernel
theorem dd_Model_typeAt_11 : decode prog_14_method_45_code 11 = .ok (.bipush 96, 2) := by decide +kernel
theorem dd_Model_typeAt_13 : decode prog_14_method_45_code 13 = .ok (.if_icmp .ne 7, 3) := by decide +kernel
theorem dd_Model_typeAt_16 : decode prog_14_method_45_code 16 = .ok (.iconst 0, 1) := by decide +kernel
theorem dd_Model_typeAt_17 : decode prog_14_method_45_code 17 = .ok (.goto 14, 3) := by decide +kernel
theorem dd_Model_typeAt_20 : decode prog_14_method_45_code 20 = .ok (.iload_n 2, 1) := by decide +kernel
theorem dd_Model_typeAt_21 : decode prog_14_method_45_code 21 = .ok (.bipush 95, 2) := by decide +kernel
theorem dd_Model_typeAt_23 : decode prog_14_method_45_code 23 = .ok (.if_icmp .ne 7, 3) := by decide +kernel
theorem dd_Model_typeAt_26 : decode prog_14_method_45_code 26 = .ok (.iconst 1, 1) := by decide +kernel
theorem dd_Model_typeAt_27 : decode prog_14_method_45_code 27 = .ok (.goto 4, 3) := by decide +kernel
theorem dd_Model_typeAt_30 : decode prog_14_method_45_code 30 = .ok (.iconst 2, 1) := by decide +kernel
theorem dd_Model_typeAt_31 : decode prog_14_method_45_code 31 = .ok (.iastore, 1) := by decide +kernel
theorem dd_Model_typeAt_32 : decode prog_14_method_45_code 32 = .ok (.iconst 0, 1) := by decide +kernel
theorem dd_Model_typeAt_33 : decode prog_14_method_45_code 33 = .ok (.istore_n 3, 1) := by decide +kernel
theorem dd_Model_typeAt_34 : decode prog_14_method_45_code 34 = .ok (.iload_n 3, 1) := by decide +kernel
theorem dd_Model_typeAt_35 : decode prog_14_method_45_code 35 = .ok (.bipush 32, 2) := by decide +kernel
theorem dd_Model_typeAt_37 : decode prog_14_method_45_code 37 = .ok (.if_icmp .ge 21, 3) := by decide +kernel
theorem dd_Model_typeAt_40 : decode prog_14_method_45_code 40 = .ok (.aload_n 0, 1) := by decide +kernel
theorem dd_Model_typeAt_41 : decode prog_14_method_45_code 41 = .ok (.getfield 36, 3) := by decide +kernel
theorem dd_Model_typeAt_44 : decode prog_14_method_45_code 44 = .ok (.bipush 32, 2) := by decide +kernel
theorem dd_Model_typeAt_46 : decode prog_14_method_45_code 46 = .ok (.iload_n 1, 1) := by decide +kernel
theorem dd_Model_typeAt_47 : decode prog_14_method_45_code 47 = .ok (.imul, 1) := by decide +kernel
theorem dd_Model_typeAt_48 : decode prog_14_method_45_code 48 = .ok (.iload_n 3, 1) := by decide +kernel
theorem dd_Model_typeAt_49 : decode prog_14_method_45_code 49 = .ok (.iadd, 1) := by decide +kernel
theorem dd_Model_typeAt_50 : decode prog_14_method_45_code 50 = .ok (.iconst 0, 1) := by decide +kernel
theorem dd_Model_typeAt_51 : decode prog_14_method_45_code 51 = .ok (.iastore, 1) := by decide +kernel
theorem dd_Model_typeAt_52 : decode prog_14_method_45_code 52 = .ok (.iinc 3 1, 3) := by decide +kernel
theorem dd_Model_typeAt_55 : decode prog_14_method_45_code 55 = .ok (.goto (-21), 3) := by decide +kernel
theorem dd_Model_typeAt_58 : decode prog_14_method_45_code 58 = .ok (.aload_n 0, 1) := by decide +kernel
theorem dd_Model_typeAt_59 : decode prog_14_method_45_code 59 = .ok (.getfield 33, 3) := by decide +kernel
theorem dd_Model_typeAt_62 : decode prog_14_method_45_code 62 = .ok (.iload_n 1, 1) := by decide +kernel
theorem dd_Model_typeAt_63 : decode prog_14_method_45_code 63 = .ok (.iconst 0, 1) := by decide +kernel
theorem dd_Model_typeAt_64 : decode prog_14_method_45_code 64 = .ok (.iastore, 1) := by decide +kernel
theorem dd_Model_typeAt_65 : decode prog_14_method_45_code 65 = .ok (.iload_n 2, 1) := by decide +kernel
theorem dd_Model_typeAt_66 : decode prog_14_method_45_code 66 = .ok (.bipush 96, 2) := by decide +kernel
theorem dd_Model_typeAt_68 : decode prog_14_method_45_code 68 = .ok (.if_icmp .ne 42, 3) := by decide +kernel
theorem dd_Model_typeAt_71 : decode prog_14_method_45_code 71 = .ok (.aload_n 0, 1) := by decide +kernel
theorem dd_Model_typeAt_72 : decode prog_14_method_45_code 72 = .ok (.getfield 30, 3) := by decide +kernel
theorem dd_Model_typeAt_75 : decode prog_14_method_45_code 75 = .ok (.iload_n 1, 1) := by decide +kernel
theorem dd_Model_typeAt_76 : decode prog_14_method_45_code 76 = .ok (.aload_n 0, 1) := by decide +kernel
theorem dd_Model_typeAt_77 : decode prog_14_method_45_code 77 = .ok (.iload_n 1, 1) := by decide +kernel
theorem dd_Model_typeAt_78 : decode prog_14_method_45_code 78 = .ok (.iconst 0, 1) := by decide +kernel
theorem dd_Model_typeAt_79 : decode prog_14_method_45_code 79 = .ok (.invokevirtual 407, 3) := by decide +kernel
theorem dd_Model_typeAt_82 : decode prog_14_method_45_code 82 = .ok (.iastore, 1) := by decide +kernel
theorem dd_Model_typeAt_83 : decode prog_14_method_45_code 83 = .ok (.aload_n 0, 1) := by decide +kernel
theorem dd_Model_typeAt_84 : decode prog_14_method_45_code 84 = .ok (.getfield 33, 3) := by decide +kernel
theorem dd_Model_typeAt_87 : decode prog_14_method_45_code 87 = .ok (.iload_n 1, 1) := by decide +kernel
theorem dd_Model_typeAt_88 : decode prog_14_method_45_code 88 = .ok (.aload_n 0, 1) := by decide +kernel
theorem dd_Model_typeAt_89 : decode prog_14_method_45_code 89 = .ok (.getfield 398, 3) := by decide +kernel
theorem dd_Model_typeAt_92 : decode prog_14_method_45_code 92 = .ok (.ifCond .eq 7, 3) := by decide +kernel
theorem dd_Model_typeAt_95 : decode prog_14_method_45_code 95 = .ok (.iconst 0, 1) := by decide +kernel
theorem dd_Model_typeAt_96 : decode prog_14_method_45_code 96 = .ok (.goto 10, 3) := by decide +kernel
theorem dd_Model_typeAt_99 : decode prog_14_method_45_code 99 = .ok (.aload_n 0, 1) := by decide +kernel
theorem dd_Model_typeAt_100 : decode prog_14_method_45_code 100 = .ok (.iload_n 1, 1) := by decide +kernel
theorem dd_Model_typeAt_101 : decode prog_14_method_45_code 101 = .ok (.bipush 16, 2) := by decide +kernel
theorem dd_Model_typeAt_103 : decode prog_14_method_45_code 103 = .ok (.invokevirtual 407, 3) := by decide +kernel
theorem dd_Model_typeAt_106 : decode prog_14_method_45_code 106 = .ok (.iastore, 1) := by decide +kernel
theorem dd_Model_typeAt_107 : decode prog_14_method_45_code 107 = .ok (.goto 134, 3) := by decide +kernel
theorem dd_Model_typeAt_110 : decode prog_14_method_45_code 110 = .ok (.iload_n 2, 1) := by decide +kernel
theorem dd_Model_typeAt_111 : decode prog_14_method_45_code 111 = .ok (.bipush 94, 2) := by decide +kernel
theorem dd_Model_typeAt_113 : decode prog_14_method_45_code 113 = .ok (.if_icmp .ne 7, 3) := by decide +kernel
theorem dd_Model_typeAt_116 : decode prog_14_method_45_code 116 = .ok (.lconst 1, 1) := by decide +kernel
theorem dd_Model_typeAt_117 : decode prog_14_method_45_code 117 = .ok (.goto 7, 3) := by decide +kernel
theorem dd_Model_typeAt_120 : decode prog_14_method_45_code 120 = .ok (.aload_n 0, 1) := by decide +kernel
theorem dd_Model_typeAt_121 : decode prog_14_method_45_code 121 = .ok (.invokevirtual 295, 3) := by decide +kernel
theorem dd_Model_typeAt_124 : decode prog_14_method_45_code 124 = .ok (.lstore_n 3, 1) := by decide +kernel
theorem dd_Model_typeAt_125 : decode prog_14_method_45_code 125 = .ok (.aload_n 0, 1) := by decide +kernel
theorem dd_Model_typeAt_126 : decode prog_14_method_45_code 126 = .ok (.aload_n 0, 1) := by decide +kernel
theorem dd_Model_typeAt_127 : decode prog_14_method_45_code 127 = .ok (.getfield 398, 3) := by decide +kernel
theorem dd_Model_typeAt_130 : decode prog_14_method_45_code 130 = .ok (.ifCond .ne 11, 3) := by decide +kernel
theorem dd_Model_typeAt_133 : decode prog_14_method_45_code 133 = .ok (.lload_n 3, 1) := by decide +kernel
theorem dd_Model_typeAt_134 : decode prog_14_method_45_code 134 = .ok (.ldc2_w 402, 3) := by decide +kernel
theorem dd_Model_typeAt_137 : decode prog_14_method_45_code 137 = .ok (.lcmp, 1) := by decide +kernel
theorem dd_Model_typeAt_138 : decode prog_14_method_45_code 138 = .ok (.ifCond .le 7, 3) := by decide +kernel
theorem dd_Model_typeAt_141 : decode prog_14_method_45_code 141 = .ok (.iconst 1, 1) := by decide +kernel
theorem dd_Model_typeAt_142 : decode prog_14_method_45_code 142 = .ok (.goto 4, 3) := by decide +kernel
theorem dd_Model_typeAt_145 : decode prog_14_method_45_code 145 = .ok (.iconst 0, 1) := by decide +kernel
theorem dd_Model_typeAt_146 : decode prog_14_method_45_code 146 = .ok (.putfield 398, 3) := by decide +kernel
theorem dd_Model_typeAt_149 : decode prog_14_method_45_code 149 = .ok (.aload_n 0, 1) := by decide +kernel
theorem dd_Model_typeAt_150 : decode prog_14_method_45_code 150 = .ok (.getfield 30, 3) := by decide +kernel
theorem dd_Model_typeAt_153 : decode prog_14_method_45_code 153 = .ok (.iload_n 1, 1) := by decide +kernel
theorem dd_Model_typeAt_154 : decode prog_14_method_45_code 154 = .ok (.lload_n 3, 1) := by decide +kernel
theorem dd_Model_typeAt_155 : decode prog_14_method_45_code 155 = .ok (.l2i, 1) := by decide +kernel
theorem dd_Model_typeAt_156 : decode prog_14_method_45_code 156 = .ok (.iastore, 1) := by decide +kernel
theorem dd_Model_typeAt_157 : decode prog_14_method_45_code 157 = .ok (.iconst 0, 1) := by decide +kernel
theorem dd_Model_typeAt_158 : decode prog_14_method_45_code 158 = .ok (.istore 5, 2) := by decide +kernel
theorem dd_Model_typeAt_160 : decode prog_14_method_45_code 160 = .ok (.iload 5, 2) := by decide +kernel
theorem dd_Model_typeAt_162 : decode prog_14_method_45_code 162 = .ok (.i2l, 1) := by decide +kernel
theorem dd_Model_typeAt_163 : decode prog_14_method_45_code 163 = .ok (.lload_n 3, 1) := by decide +kernel
theorem dd_Model_typeAt_164 : decode prog_14_method_45_code 164 = .ok (.lcmp, 1) := by decide +kernel
theorem dd_Model_typeAt_165 : decode prog_14_method_45_code 165 = .ok (.ifCond .ge 76, 3) := by decide +kernel
theorem dd_Model_typeAt_168 : decode prog_14_method_45_code 168 = .ok (.aload_n 0, 1) := by decide +kernel
theorem dd_Model_typeAt_169 : decode prog_14_method_45_code 169 = .ok (.getfield 398, 3) := by decide +kernel
theorem dd_Model_typeAt_172 : decode prog_14_method_45_code 172 = .ok (.ifCond .ne 69, 3) := by decide +kernel
theorem dd_Model_typeAt_175 : decode prog_14_method_45_code 175 = .ok (.aload_n 0, 1) := by decide +kernel
theorem dd_Model_typeAt_176 : decode prog_14_method_45_code 176 = .ok (.invokevirtual 378, 3) := by decide +kernel
theorem dd_Model_typeAt_179 : decode prog_14_method_45_code 179 = .ok (.istore 6, 2) := by decide +kernel
theorem dd_Model_typeAt_181 : decode prog_14_method_45_code 181 = .ok (.aload_n 0, 1) := by decide +kernel
theorem dd_Model_typeAt_182 : decode prog_14_method_45_code 182 = .ok (.aload_n 0, 1) := by decide +kernel
theorem dd_Model_typeAt_183 : decode prog_14_method_45_code 183 = .ok (.iload 6, 2) := by decide +kernel
theorem dd_Model_typeAt_185 : decode prog_14_method_45_code 185 = .ok (.iload_n 1, 1) := by decide +kernel
theorem dd_Model_typeAt_186 : decode prog_14_method_45_code 186 = .ok (.iconst 1, 1) := by decide +kernel
theorem dd_Model_typeAt_187 : decode prog_14_method_45_code 187 = .ok (.iadd, 1) := by decide +kernel
theorem dd_Model_typeAt_188 : decode prog_14_method_45_code 188 = .ok (.invokevirtual 404, 3) := by decide +kernel
theorem dd_Model_typeAt_191 : decode prog_14_method_45_code 191 = .ok (.ifCond .ne 7, 3) := by decide +kernel
theorem dd_Model_typeAt_194 : decode prog_14_method_45_code 194 = .ok (.iconst 1, 1) := by decide +kernel
theorem dd_Model_typeAt_195 : decode prog_14_method_45_code 195 = .ok (.goto 4, 3) := by decide +kernel
theorem dd_Model_typeAt_198 : decode prog_14_method_45_code 198 = .ok (.iconst 0, 1) := by decide +kernel
theorem dd_Model_typeAt_199 : decode prog_14_method_45_code 199 = .ok (.putfield 398, 3) := by decide +kernel
theorem dd_Model_typeAt_202 : decode prog_14_method_45_code 202 = .ok (.aload_n 0, 1) := by decide +kernel
theorem dd_Model_typeAt_203 : decode prog_14_method_45_code 203 = .ok (.getfield 36, 3) := by decide +kernel
theorem dd_Model_typeAt_206 : decode prog_14_method_45_code 206 = .ok (.bipush 32, 2) := by decide +kernel
theorem dd_Model_typeAt_208 : decode prog_14_method_45_code 208 = .ok (.iload_n 1, 1) := by decide +kernel
theorem dd_Model_typeAt_209 : decode prog_14_method_45_code 209 = .ok (.imul, 1) := by decide +kernel
theorem dd_Model_typeAt_210 : decode prog_14_method_45_code 210 = .ok (.iload 5, 2) := by decide +kernel
theorem dd_Model_typeAt_212 : decode prog_14_method_45_code 212 = .ok (.iadd, 1) := by decide +kernel
theorem dd_Model_typeAt_213 : decode prog_14_method_45_code 213 = .ok (.iload 6, 2) := by decide +kernel
theorem dd_Model_typeAt_215 : decode prog_14_method_45_code 215 = .ok (.iastore, 1) := by decide +kernel
theorem dd_Model_typeAt_216 : decode prog_14_method_45_code 216 = .ok (.aload_n 0, 1) := by decide +kernel
theorem dd_Model_typeAt_217 : decode prog_14_method_45_code 217 = .ok (.getfield 36, 3) := by decide +kernel
theorem dd_Model_typeAt_220 : decode prog_14_method_45_code 220 = .ok (.bipush 32, 2) := by decide +kernel
theorem dd_Model_typeAt_222 : decode prog_14_method_45_code 222 = .ok (.iload_n 1, 1) := by decide +kernel
theorem dd_Model_typeAt_223 : decode prog_14_method_45_code 223 = .ok (.imul, 1) := by decide +kernel
theorem dd_Model_typeAt_224 : decode prog_14_method_45_code 224 = .ok (.bipush 16, 2) := by decide +kernel
theorem dd_Model_typeAt_226 : decode prog_14_method_45_code 226 = .ok (.iadd, 1) := by decide +kernel
theorem dd_Model_typeAt_227 : decode prog_14_method_45_code 227 = .ok (.iload 5, 2) := by decide +kernel
theorem dd_Model_typeAt_229 : decode prog_14_method_45_code 229 = .ok (.iadd, 1) := by decide +kernel
theorem dd_Model_typeAt_230 : decode prog_14_method_45_code 230 = .ok (.aload_n 0, 1) := by decide +kernel
theorem dd_Model_typeAt_231 : decode prog_14_method_45_code 231 = .ok (.invokevirtual 357, 3) := by decide +kernel
theorem dd_Model_typeAt_234 : decode prog_14_method_45_code 234 = .ok (.iastore, 1) := by decide +kernel
theorem dd_Model_typeAt_235 : decode prog_14_method_45_code 235 = .ok (.iinc 5 1, 3) := by decide +kernel
theorem dd_Model_typeAt_238 : decode prog_14_method_45_code 238 = .ok (.goto (-78), 3) := by decide +kernel
theorem dd_Model_typeAt_241 : decode prog_14_method_45_code 241 = .ok (.aload_n 0, 1) := by decide +kernel
theorem dd_Model_typeAt_242 : decode prog_14_method_45_code 242 = .ok (.getfield 39, 3) := by decide +kernel
theorem dd_Model_typeAt_245 : decode prog_14_method_45_code 245 = .ok (.iload_n 1, 1) := by decide +kernel
theorem dd_Model_typeAt_246 : decode prog_14_method_45_code 246 = .ok (.iload_n 1, 1) := by decide +kernel
theorem dd_Model_typeAt_247 : decode prog_14_method_45_code 247 = .ok (.iastore, 1) := by decide +kernel
theorem dd_Model_typeAt_248 : decode prog_14_method_45_code 248 = .ok (.iload_n 1, 1) := by decide +kernel
theorem dd_Model_typeAt_249 : decode prog_14_method_45_code 249 = .ok (.iconst 1, 1) := by decide +kernel
theorem dd_Model_typeAt_250 : decode prog_14_method_45_code 250 = .ok (.isub, 1) := by decide +kernel
theorem dd_Model_typeAt_251 : decode prog_14_method_45_code 251 = .ok (.istore_n 3, 1) := by decide +kernel
theorem dd_Model_typeAt_252 : decode prog_14_method_45_code 252 = .ok (.iload_n 3, 1) := by decide +kernel
theorem dd_Model_typeAt_253 : decode prog_14_method_45_code 253 = .ok (.ifCond .lt 37, 3) := by decide +kernel
theorem dd_Model_typeAt_256 : decode prog_14_method_45_code 256 = .ok (.aload_n 0, 1) := by decide +kernel
theorem dd_Model_typeAt_257 : decode prog_14_method_45_code 257 = .ok (.getfield 398, 3) := by decide +kernel
theorem dd_Model_typeAt_260 : decode prog_14_method_45_code 260 = .ok (.ifCond .ne 30, 3) := by decide +kernel
theorem dd_Model_typeAt_263 : decode prog_14_method_45_code 263 = .ok (.aload_n 0, 1) := by decide +kernel
theorem dd_Model_typeAt_264 : decode prog_14_method_45_code 264 = .ok (.iload_n 3, 1) := by decide +kernel
theorem dd_Model_typeAt_265 : decode prog_14_method_45_code 265 = .ok (.iload_n 1, 1) := by decide +kernel
theorem dd_Model_typeAt_266 : decode prog_14_method_45_code 266 = .ok (.invokevirtual 411, 3) := by decide +kernel
theorem dd_Model_typeAt_269 : decode prog_14_method_45_code 269 = .ok (.ifCond .eq 15, 3) := by decide +kernel
theorem dd_Model_typeAt_272 : decode prog_14_method_45_code 272 = .ok (.aload_n 0, 1) := by decide +kernel
theorem dd_Model_typeAt_273 : decode prog_14_method_45_code 273 = .ok (.getfield 39, 3) := by decide +kernel
theorem dd_Model_typeAt_276 : decode prog_14_method_45_code 276 = .ok (.iload_n 1, 1) := by decide +kernel
theorem dd_Model_typeAt_277 : decode prog_14_method_45_code 277 = .ok (.aload_n 0, 1) := by decide +kernel
theorem dd_Model_typeAt_278 : decode prog_14_method_45_code 278 = .ok (.getfield 39, 3) := by decide +kernel
theorem dd_Model_typeAt_281 : decode prog_14_method_45_code 281 = .ok (.iload_n 3, 1) := by decide +kernel
theorem dd_Model_typeAt_282 : decode prog_14_method_45_code 282 = .ok (.iaload, 1) := by decide +kernel
theorem dd_Model_typeAt_283 : decode prog_14_method_45_code 283 = .ok (.iastore, 1) := by decide +kernel
theorem dd_Model_typeAt_284 : decode prog_14_method_45_code 284 = .ok (.iinc 3 (-1), 3) := by decide +kernel
theorem dd_Model_typeAt_287 : decode prog_14_method_45_code 287 = .ok (.goto (-35), 3) := by decide +kernel
theorem dd_Model_typeAt_290 : decode prog_14_method_45_code 290 = .ok (.return_, 1) := by decide +kernel
theorem dd_Model_takeDown_0 : decode prog_14_method_48_code 0 = .ok (.aload_n 0, 1) := by decide +kernel
theorem dd_Model_takeDown_1 : decode prog_14_method_48_code 1 = .ok (.iconst 0, 1) := by decide +kernel
theorem dd_Model_takeDown_2 : decode prog_14_method_48_code 2 = .ok (.putfield 398, 3) := by decide +kernel
theorem dd_Model_takeDown_5 : decode prog_14_method_48_code 5 = .ok (.aload_n 0, 1) := by decide +kernel
theorem dd_Model_takeDown_6 : decode prog_14_method_48_code 6 = .ok (.iconst 0, 1) := by decide +kernel
theorem dd_Model_takeDown_7 : decode prog_14_method_48_code 7 = .ok (.putfield 414, 3) := by decide +kernel
theorem dd_Model_takeDown_10 : decode prog_14_method_48_code 10 = .ok (.aload_n 0, 1) := by decide +kernel
theorem dd_Model_takeDown_11 : decode prog_14_method_48_code 11 = .ok (.iconst 1, 1) := by decide +kernel
theorem dd_Model_takeDown_12 : decode prog_14_method_48_code 12 = .ok (.invokevirtual 417, 3) := by decide +kernel
theorem dd_Model_takeDown_15 : decode prog_14_method_48_code 15 = .ok (.istore_n 1, 1) := by decide +kernel
theorem dd_Model_takeDown_16 : decode prog_14_method_48_code 16 = .ok (.iconst 0, 1) := by decide +kernel
theorem dd_Model_takeDown_17 : decode prog_14_method_48_code 17 = .ok (.istore_n 2, 1) := by decide +kernel
theorem dd_Model_takeDown_18 : decode prog_14_method_48_code 18 = .ok (.iload_n 2, 1) := by decide +kernel
theorem dd_Model_takeDown_19 : decode prog_14_method_48_code 19 = .ok (.iload_n 1, 1) := by decide +kernel
theorem dd_Model_takeDown_20 : decode prog_14_method_48_code 20 = .ok (.if_icmp .ge 31, 3) := by decide +kernel
theorem dd_Model_takeDown_23 : decode prog_14_method_48_code 23 = .ok (.aload_n 0, 1) := by decide +kernel
theorem dd_Model_takeDown_24 : decode prog_14_method_48_code 24 = .ok (.getfield 398, 3) := by decide +kernel
theorem dd_Model_takeDown_27 : decode prog_14_method_48_code 27 = .ok (.ifCond .ne 24, 3) := by decide +kernel
theorem dd_Model_takeDown_30 : decode prog_14_method_48_code 30 = .ok (.aload_n 0, 1) := by decide +kernel
theorem dd_Model_takeDown_31 : decode prog_14_method_48_code 31 = .ok (.iload_n 2, 1) := by decide +kernel
theorem dd_Model_takeDown_32 : decode prog_14_method_48_code 32 = .ok (.invokevirtual 420, 3) := by decide +kernel
theorem dd_Model_takeDown_35 : decode prog_14_method_48_code 35 = .ok (.aload_n 0, 1) := by decide +kernel
theorem dd_Model_takeDown_36 : decode prog_14_method_48_code 36 = .ok (.dup, 1) := by decide +kernel
theorem dd_Model_takeDown_37 : decode prog_14_method_48_code 37 = .ok (.getfield 414, 3) := by decide +kernel
theorem dd_Model_takeDown_40 : decode prog_14_method_48_code 40 = .ok (.iconst 1, 1) := by decide +kernel
theorem dd_Model_takeDown_41 : decode prog_14_method_48_code 41 = .ok (.iadd, 1) := by decide +kernel
theorem dd_Model_takeDown_42 : decode prog_14_method_48_code 42 = .ok (.putfield 414, 3) := by decide +kernel
theorem dd_Model_takeDown_45 : decode prog_14_method_48_code 45 = .ok (.iinc 2 1, 3) := by decide +kernel
theorem dd_Model_takeDown_48 : decode prog_14_method_48_code 48 = .ok (.goto (-30), 3) := by decide +kernel
theorem dd_Model_takeDown_51 : decode prog_14_method_48_code 51 = .ok (.aload_n 0, 1) := by decide +kernel
theorem dd_Model_takeDown_52 : decode prog_14_method_48_code 52 = .ok (.iconst 0, 1) := by decide +kernel
theorem dd_Model_takeDown_53 : decode prog_14_method_48_code 53 = .ok (.putfield 423, 3) := by decide +kernel
theorem dd_Model_takeDown_56 : decode prog_14_method_48_code 56 = .ok (.aload_n 0, 1) := by decide +kernel
theorem dd_Model_takeDown_57 : decode prog_14_method_48_code 57 = .ok (.iconst 3, 1) := by decide +kernel
theorem dd_Model_takeDown_58 : decode prog_14_method_48_code 58 = .ok (.invokevirtual 417, 3) := by decide +kernel
theorem dd_Model_takeDown_61 : decode prog_14_method_48_code 61 = .ok (.istore_n 1, 1) := by decide +kernel
theorem dd_Model_takeDown_62 : decode prog_14_method_48_code 62 = .ok (.iconst 0, 1) := by decide +kernel
theorem dd_Model_takeDown_63 : decode prog_14_method_48_code 63 = .ok (.istore_n 2, 1) := by decide +kernel
theorem dd_Model_takeDown_64 : decode prog_14_method_48_code 64 = .ok (.iload_n 2, 1) := by decide +kernel
theorem dd_Model_takeDown_65 : decode prog_14_method_48_code 65 = .ok (.iload_n 1, 1) := by decide +kernel
theorem dd_Model_takeDown_66 : decode prog_14_method_48_code 66 = .ok (.if_icmp .ge 56, 3) := by decide +kernel
theorem dd_Model_takeDown_69 : decode prog_14_method_48_code 69 = .ok (.aload_n 0, 1) := by decide +kernel
theorem dd_Model_takeDown_70 : decode prog_14_method_48_code 70 = .ok (.getfield 398, 3) := by decide +kernel
theorem dd_Model_takeDown_73 : decode prog_14_method_48_code 73 = .ok (.ifCond .ne 49, 3) := by decide +kernel
theorem dd_Model_takeDown_76 : decode prog_14_method_48_code 76 = .ok (.aload_n 0, 1) := by decide +kernel
theorem dd_Model_takeDown_77 : decode prog_14_method_48_code 77 = .ok (.invokevirtual 295, 3) := by decide +kernel
theorem dd_Model_takeDown_80 : decode prog_14_method_48_code 80 = .ok (.lstore_n 3, 1) := by decide +kernel
theorem dd_Model_takeDown_81 : decode prog_14_method_48_code 81 = .ok (.aload_n 0, 1) := by decide +kernel
theorem dd_Model_takeDown_82 : decode prog_14_method_48_code 82 = .ok (.aload_n 0, 1) := by decide +kernel
theorem dd_Model_takeDown_83 : decode prog_14_method_48_code 83 = .ok (.lload_n 3, 1) := by decide +kernel
theorem dd_Model_takeDown_84 : decode prog_14_method_48_code 84 = .ok (.invokevirtual 426, 3) := by decide +kernel
theorem dd_Model_takeDown_87 : decode prog_14_method_48_code 87 = .ok (.ifCond .ne 7, 3) := by decide +kernel
theorem dd_Model_takeDown_90 : decode prog_14_method_48_code 90 = .ok (.iconst 1, 1) := by decide +kernel
theorem dd_Model_takeDown_91 : decode prog_14_method_48_code 91 = .ok (.goto 4, 3) := by decide +kernel
theorem dd_Model_takeDown_94 : decode prog_14_method_48_code 94 = .ok (.iconst 0, 1) := by decide +kernel
theorem dd_Model_takeDown_95 : decode prog_14_method_48_code 95 = .ok (.putfield 398, 3) := by decide +kernel
theorem dd_Model_takeDown_98 : decode prog_14_method_48_code 98 = .ok (.aload_n 0, 1) := by decide +kernel
theorem dd_Model_takeDown_99 : decode prog_14_method_48_code 99 = .ok (.getfield 42, 3) := by decide +kernel
theorem dd_Model_takeDown_102 : decode prog_14_method_48_code 102 = .ok (.iload_n 2, 1) := by decide +kernel
theorem dd_Model_takeDown_103 : decode prog_14_method_48_code 103 = .ok (.lload_n 3, 1) := by decide +kernel
theorem dd_Model_takeDown_104 : decode prog_14_method_48_code 104 = .ok (.l2i, 1) := by decide +kernel
theorem dd_Model_takeDown_105 : decode prog_14_method_48_code 105 = .ok (.iastore, 1) := by decide +kernel
theorem dd_Model_takeDown_106 : decode prog_14_method_48_code 106 = .ok (.aload_n 0, 1) := by decide +kernel
theorem dd_Model_takeDown_107 : decode prog_14_method_48_code 107 = .ok (.dup, 1) := by decide +kernel
theorem dd_Model_takeDown_108 : decode prog_14_method_48_code 108 = .ok (.getfield 423, 3) := by decide +kernel
theorem dd_Model_takeDown_111 : decode prog_14_method_48_code 111 = .ok (.iconst 1, 1) := by decide +kernel
theorem dd_Model_takeDown_112 : decode prog_14_method_48_code 112 = .ok (.iadd, 1) := by decide +kernel
theorem dd_Model_takeDown_113 : decode prog_14_method_48_code 113 = .ok (.putfield 423, 3) := by decide +kernel
theorem dd_Model_takeDown_116 : decode prog_14_method_48_code 116 = .ok (.iinc 2 1, 3) := by decide +kernel
theorem dd_Model_takeDown_119 : decode prog_14_method_48_code 119 = .ok (.goto (-55), 3) := by decide +kernel
theorem dd_Model_takeDown_122 : decode prog_14_method_48_code 122 = .ok (.aload_n 0, 1) := by decide +kernel
theorem dd_Model_takeDown_123 : decode prog_14_method_48_code 123 = .ok (.getfield 398, 3) := by decide +kernel
theorem dd_Model_takeDown_126 : decode prog_14_method_48_code 126 = .ok (.ifCond .ne 7, 3) := by decide +kernel
theorem dd_Model_takeDown_129 : decode prog_14_method_48_code 129 = .ok (.aload_n 0, 1) := by decide +kernel
theorem dd_Model_takeDown_130 : decode prog_14_method_48_code 130 = .ok (.invokevirtual 430, 3) := by decide +kernel
theorem dd_Model_takeDown_133 : decode prog_14_method_48_code 133 = .ok (.aload_n 0, 1) := by decide +kernel
theorem dd_Model_takeDown_134 : decode prog_14_method_48_code 134 = .ok (.getfield 398, 3) := by decide +kernel
theorem dd_Model_takeDown_137 : decode prog_14_method_48_code 137 = .ok (.ifCond .ne 7, 3) := by decide +kernel
theorem dd_Model_takeDown_140 : decode prog_14_method_48_code 140 = .ok (.aload_n 0, 1) := by decide +kernel
theorem dd_Model_takeDown_141 : decode prog_14_method_48_code 141 = .ok (.invokevirtual 433, 3) := by decide +kernel
theorem dd_Model_takeDown_144 : decode prog_14_method_48_code 144 = .ok (.aload_n 0, 1) := by decide +kernel
theorem dd_Model_takeDown_145 : decode prog_14_method_48_code 145 = .ok (.getfield 398, 3) := by decide +kernel
theorem dd_Model_takeDown_148 : decode prog_14_method_48_code 148 = .ok (.ifCond .ne 7, 3) := by decide +kernel
theorem dd_Model_takeDown_151 : decode prog_14_method_48_code 151 = .ok (.aload_n 0, 1) := by decide +kernel
theorem dd_Model_takeDown_152 : decode prog_14_method_48_code 152 = .ok (.invokevirtual 436, 3) := by decide +kernel
theorem dd_Model_takeDown_155 : decode prog_14_method_48_code 155 = .ok (.aload_n 0, 1) := by decide +kernel
theorem dd_Model_takeDown_156 : decode prog_14_method_48_code 156 = .ok (.getfield 398, 3) := by decide +kernel
theorem dd_Model_takeDown_159 : decode prog_14_method_48_code 159 = .ok (.ifCond .ne 7, 3) := by decide +kernel
theorem dd_Model_takeDown_162 : decode prog_14_method_48_code 162 = .ok (.aload_n 0, 1) := by decide +kernel
theorem dd_Model_takeDown_163 : decode prog_14_method_48_code 163 = .ok (.invokevirtual 439, 3) := by decide +kernel
theorem dd_Model_takeDown_166 : decode prog_14_method_48_code 166 = .ok (.aload_n 0, 1) := by decide +kernel
theorem dd_Model_takeDown_167 : decode prog_14_method_48_code 167 = .ok (.getfield 398, 3) := by decide +kernel
theorem dd_Model_takeDown_170 : decode prog_14_method_48_code 170 = .ok (.ifCond .ne 7, 3) := by decide +kernel
theorem dd_Model_takeDown_173 : decode prog_14_method_48_code 173 = .ok (.aload_n 0, 1) := by decide +kernel
theorem dd_Model_takeDown_174 : decode prog_14_method_48_code 174 = .ok (.invokevirtual 442, 3) := by decide +kernel
theorem dd_Model_takeDown_177 : decode prog_14_method_48_code 177 = .ok (.aload_n 0, 1) := by decide +kernel
theorem dd_Model_takeDown_178 : decode prog_14_method_48_code 178 = .ok (.getfield 398, 3) := by decide +kernel
theorem dd_Model_takeDown_181 : decode prog_14_method_48_code 181 = .ok (.ifCond .ne 7, 3) := by decide +kernel
theorem dd_Model_takeDown_184 : decode prog_14_method_48_code 184 = .ok (.aload_n 0, 1) := by decide +kernel
theorem dd_Model_takeDown_185 : decode prog_14_method_48_code 185 = .ok (.invokevirtual 445, 3) := by decide +kernel
theorem dd_Model_takeDown_188 : decode prog_14_method_48_code 188 = .ok (.aload_n 0, 1) := by decide +kernel
theorem dd_Model_takeDown_189 : decode prog_14_method_48_code 189 = .ok (.getfield 398, 3) := by decide +kernel
theorem dd_Model_takeDown_192 : decode prog_14_method_48_code 192 = .ok (.ifCond .ne 7, 3) := by decide +kernel
theorem dd_Model_takeDown_195 : decode prog_14_method_48_code 195 = .ok (.aload_n 0, 1) := by decide +kernel
theorem dd_Model_takeDown_196 : decode prog_14_method_48_code 196 = .ok (.invokevirtual 448, 3) := by decide +kernel
theorem dd_Model_takeDown_199 : decode prog_14_method_48_code 199 = .ok (.return_, 1) := by decide +kernel
theorem dd_Model_noObjects_0 : decode prog_14_method_98_code 0 = .ok (.aload_n 0, 1) := by decide +kernel
theorem dd_Model_noObjects_1 : decode prog_14_method_98_code 1 = .ok (.iconst 0, 1) := by decide +kernel
theorem dd_Model_noObjects_2 : decode prog_14_method_98_code 2 = .ok (.putfield 649, 3) := by decide +kernel
theorem dd_Model_noObjects_5 : decode prog_14_method_98_code 5 = .ok (.aload_n 0, 1) := by decide +kernel
theorem dd_Model_noObjects_6 : decode prog_14_method_98_code 6 = .ok (.iconst 0, 1) := by decide +kernel
theorem dd_Model_noObjects_7 : decode prog_14_method_98_code 7 = .ok (.putfield 652, 3) := by decide +kernel
theorem dd_Model_noObjects_10 : decode prog_14_method_98_code 10 = .ok (.iconst 0, 1) := by decide +kernel
theorem dd_Model_noObjects_11 : decode prog_14_method_98_code 11 = .ok (.istore_n 1, 1) := by decide +kernel
theorem dd_Model_noObjects_12 : decode prog_14_method_98_code 12 = .ok (.iload_n 1, 1) := by decide +kernel
theorem dd_Model_noObjects_13 : decode prog_14_method_98_code 13 = .ok (.sipush 2001, 3) := by decide +kernel
theorem dd_Model_noObjects_16 : decode prog_14_method_98_code 16 = .ok (.if_icmp .ge 16, 3) := by decide +kernel
theorem dd_Model_noObjects_19 : decode prog_14_method_98_code 19 = .ok (.aload_n 0, 1) := by decide +kernel
theorem dd_Model_noObjects_20 : decode prog_14_method_98_code 20 = .ok (.getfield 146, 3) := by decide +kernel
theorem dd_Model_noObjects_23 : decode prog_14_method_98_code 23 = .ok (.iload_n 1, 1) := by decide +kernel
theorem dd_Model_noObjects_24 : decode prog_14_method_98_code 24 = .ok (.iconst (-1), 1) := by decide +kernel
theorem dd_Model_noObjects_25 : decode prog_14_method_98_code 25 = .ok (.iastore, 1) := by decide +kernel
theorem dd_Model_noObjects_26 : decode prog_14_method_98_code 26 = .ok (.iinc 1 1, 3) := by decide +kernel
theorem dd_Model_noObjects_29 : decode prog_14_method_98_code 29 = .ok (.goto (-17), 3) := by decide +kernel
theorem dd_Model_noObjects_32 : decode prog_14_method_98_code 32 = .ok (.return_, 1) := by decide +kernel
theorem dd_Model_beginWay_0 : decode prog_14_method_107_code 0 = .ok (.aload_n 0, 1) := by decide +kernel
theorem dd_Model_beginWay_1 : decode prog_14_method_107_code 1 = .ok (.getfield 125, 3) := by decide +kernel
theorem dd_Model_beginWay_4 : decode prog_14_method_107_code 4 = .ok (.aload_n 0, 1) := by decide +kernel
theorem dd_Model_beginWay_5 : decode prog_14_method_107_code 5 = .ok (.getfield 685, 3) := by decide +kernel
theorem dd_Model_beginWay_8 : decode prog_14_method_107_code 8 = .ok (.iload_n 1, 1) := by decide +kernel
theorem dd_Model_beginWay_9 : decode prog_14_method_107_code 9 = .ok (.iastore, 1) := by decide +kernel
theorem dd_Model_beginWay_10 : decode prog_14_method_107_code 10 = .ok (.aload_n 0, 1) := by decide +kernel
theorem dd_Model_beginWay_11 : decode prog_14_method_107_code 11 = .ok (.getfield 128, 3) := by decide +kernel
theorem dd_Model_beginWay_14 : decode prog_14_method_107_code 14 = .ok (.aload_n 0, 1) := by decide +kernel
theorem dd_Model_beginWay_15 : decode prog_14_method_107_code 15 = .ok (.getfield 685, 3) := by decide +kernel
theorem dd_Model_beginWay_18 : decode prog_14_method_107_code 18 = .ok (.iload_n 2, 1) := by decide +kernel
theorem dd_Model_beginWay_19 : decode prog_14_method_107_code 19 = .ok (.iastore, 1) := by decide +kernel
theorem dd_Model_beginWay_20 : decode prog_14_method_107_code 20 = .ok (.aload_n 0, 1) := by decide +kernel
theorem dd_Model_beginWay_21 : decode prog_14_method_107_code 21 = .ok (.getfield 131, 3) := by decide +kernel
theorem dd_Model_beginWay_24 : decode prog_14_method_107_code 24 = .ok (.aload_n 0, 1) := by decide +kernel
theorem dd_Model_beginWay_25 : decode prog_14_method_107_code 25 = .ok (.getfield 685, 3) := by decide +kernel
theorem dd_Model_beginWay_28 : decode prog_14_method_107_code 28 = .ok (.iload_n 3, 1) := by decide +kernel
theorem dd_Model_beginWay_29 : decode prog_14_method_107_code 29 = .ok (.iastore, 1) := by decide +kernel
theorem dd_Model_beginWay_30 : decode prog_14_method_107_code 30 = .ok (.aload_n 0, 1) := by decide +kernel
theorem dd_Model_beginWay_31 : decode prog_14_method_107_code 31 = .ok (.getfield 134, 3) := by decide +kernel
theorem dd_Model_beginWay_34 : decode prog_14_method_107_code 34 = .ok (.aload_n 0, 1) := by decide +kernel
theorem dd_Model_beginWay_35 : decode prog_14_method_107_code 35 = .ok (.getfield 685, 3) := by decide +kernel
theorem dd_Model_beginWay_38 : decode prog_14_method_107_code 38 = .ok (.iload 4, 2) := by decide +kernel
theorem dd_Model_beginWay_40 : decode prog_14_method_107_code 40 = .ok (.bastore, 1) := by decide +kernel
theorem dd_Model_beginWay_41 : decode prog_14_method_107_code 41 = .ok (.aload_n 0, 1) := by decide +kernel
theorem dd_Model_beginWay_42 : decode prog_14_method_107_code 42 = .ok (.dup, 1) := by decide +kernel
theorem dd_Model_beginWay_43 : decode prog_14_method_107_code 43 = .ok (.getfield 685, 3) := by decide +kernel
theorem dd_Model_beginWay_46 : decode prog_14_method_107_code 46 = .ok (.iconst 1, 1) := by decide +kernel
theorem dd_Model_beginWay_47 : decode prog_14_method_107_code 47 = .ok (.iadd, 1) := by decide +kernel
theorem dd_Model_beginWay_48 : decode prog_14_method_107_code 48 = .ok (.putfield 685, 3) := by decide +kernel
theorem dd_Model_beginWay_51 : decode prog_14_method_107_code 51 = .ok (.return_, 1) := by decide +kernel
theorem dd_Model_lay_0 : decode prog_14_method_103_code 0 = .ok (.aload_n 0, 1) := by decide +kernel
theorem dd_Model_lay_1 : decode prog_14_method_103_code 1 = .ok (.getfield 110, 3) := by decide +kernel
theorem dd_Model_lay_4 : decode prog_14_method_103_code 4 = .ok (.aload_n 0, 1) := by decide +kernel
theorem dd_Model_lay_5 : decode prog_14_method_103_code 5 = .ok (.getfield 662, 3) := by decide +kernel
theorem dd_Model_lay_8 : decode prog_14_method_103_code 8 = .ok (.lload_n 1, 1) := by decide +kernel
theorem dd_Model_lay_9 : decode prog_14_method_103_code 9 = .ok (.lastore, 1) := by decide +kernel
theorem dd_Model_lay_10 : decode prog_14_method_103_code 10 = .ok (.aload_n 0, 1) := by decide +kernel
theorem dd_Model_lay_11 : decode prog_14_method_103_code 11 = .ok (.getfield 113, 3) := by decide +kernel
theorem dd_Model_lay_14 : decode prog_14_method_103_code 14 = .ok (.aload_n 0, 1) := by decide +kernel
theorem dd_Model_lay_15 : decode prog_14_method_103_code 15 = .ok (.getfield 662, 3) := by decide +kernel
theorem dd_Model_lay_18 : decode prog_14_method_103_code 18 = .ok (.iload_n 3, 1) := by decide +kernel
theorem dd_Model_lay_19 : decode prog_14_method_103_code 19 = .ok (.bastore, 1) := by decide +kernel
theorem dd_Model_lay_20 : decode prog_14_method_103_code 20 = .ok (.aload_n 0, 1) := by decide +kernel
theorem dd_Model_lay_21 : decode prog_14_method_103_code 21 = .ok (.dup, 1) := by decide +kernel
theorem dd_Model_lay_22 : decode prog_14_method_103_code 22 = .ok (.getfield 662, 3) := by decide +kernel
theorem dd_Model_lay_25 : decode prog_14_method_103_code 25 = .ok (.iconst 1, 1) := by decide +kernel
theorem dd_Model_lay_26 : decode prog_14_method_103_code 26 = .ok (.iadd, 1) := by decide +kernel
theorem dd_Model_lay_27 : decode prog_14_method_103_code 27 = .ok (.putfield 662, 3) := by decide +kernel
theorem dd_Model_lay_30 : decode prog_14_method_103_code 30 = .ok (.return_, 1) := by decide +kernel
theorem dd_Model_enter_0 : decode prog_14_method_106_code 0 = .ok (.aload_n 0, 1) := by decide +kernel
theorem dd_Model_enter_1 : decode prog_14_method_106_code 1 = .ok (.getfield 679, 3) := by decide +kernel
theorem dd_Model_enter_4 : decode prog_14_method_106_code 4 = .ok (.lconst 0, 1) := by decide +kernel
theorem dd_Model_enter_5 : decode prog_14_method_106_code 5 = .ok (.lcmp, 1) := by decide +kernel
theorem dd_Model_enter_6 : decode prog_14_method_106_code 6 = .ok (.ifCond .eq 12, 3) := by decide +kernel
theorem dd_Model_enter_9 : decode prog_14_method_106_code 9 = .ok (.aload_n 0, 1) := by decide +kernel
theorem dd_Model_enter_10 : decode prog_14_method_106_code 10 = .ok (.getfield 682, 3) := by decide +kernel
theorem dd_Model_enter_13 : decode prog_14_method_106_code 13 = .ok (.bipush 60, 2) := by decide +kernel
theorem dd_Model_enter_15 : decode prog_14_method_106_code 15 = .ok (.if_icmp .ne 47, 3) := by decide +kernel
theorem dd_Model_enter_18 : decode prog_14_method_106_code 18 = .ok (.aload_n 0, 1) := by decide +kernel
theorem dd_Model_enter_19 : decode prog_14_method_106_code 19 = .ok (.aload_n 0, 1) := by decide +kernel
theorem dd_Model_enter_20 : decode prog_14_method_106_code 20 = .ok (.getfield 679, 3) := by decide +kernel
theorem dd_Model_enter_23 : decode prog_14_method_106_code 23 = .ok (.lconst 0, 1) := by decide +kernel
theorem dd_Model_enter_24 : decode prog_14_method_106_code 24 = .ok (.lcmp, 1) := by decide +kernel
theorem dd_Model_enter_25 : decode prog_14_method_106_code 25 = .ok (.ifCond .ne 8, 3) := by decide +kernel
theorem dd_Model_enter_28 : decode prog_14_method_106_code 28 = .ok (.bipush 13, 2) := by decide +kernel
theorem dd_Model_enter_30 : decode prog_14_method_106_code 30 = .ok (.goto 5, 3) := by decide +kernel
theorem dd_Model_enter_33 : decode prog_14_method_106_code 33 = .ok (.bipush 12, 2) := by decide +kernel
theorem dd_Model_enter_35 : decode prog_14_method_106_code 35 = .ok (.putfield 673, 3) := by decide +kernel
theorem dd_Model_enter_38 : decode prog_14_method_106_code 38 = .ok (.aload_n 0, 1) := by decide +kernel
theorem dd_Model_enter_39 : decode prog_14_method_106_code 39 = .ok (.dup, 1) := by decide +kernel
theorem dd_Model_enter_40 : decode prog_14_method_106_code 40 = .ok (.getfield 679, 3) := by decide +kernel
theorem dd_Model_enter_43 : decode prog_14_method_106_code 43 = .ok (.aload_n 0, 1) := by decide +kernel
theorem dd_Model_enter_44 : decode prog_14_method_106_code 44 = .ok (.getfield 679, 3) := by decide +kernel
theorem dd_Model_enter_47 : decode prog_14_method_106_code 47 = .ok (.lconst 0, 1) := by decide +kernel
theorem dd_Model_enter_48 : decode prog_14_method_106_code 48 = .ok (.lcmp, 1) := by decide +kernel
theorem dd_Model_enter_49 : decode prog_14_method_106_code 49 = .ok (.ifCond .ne 7, 3) := by decide +kernel
theorem dd_Model_enter_52 : decode prog_14_method_106_code 52 = .ok (.lconst 0, 1) := by decide +kernel
theorem dd_Model_enter_53 : decode prog_14_method_106_code 53 = .ok (.goto 4, 3) := by decide +kernel
theorem dd_Model_enter_56 : decode prog_14_method_106_code 56 = .ok (.lconst 1, 1) := by decide +kernel
theorem dd_Model_enter_57 : decode prog_14_method_106_code 57 = .ok (.lsub, 1) := by decide +kernel
theorem dd_Model_enter_58 : decode prog_14_method_106_code 58 = .ok (.putfield 679, 3) := by decide +kernel
theorem dd_Model_enter_61 : decode prog_14_method_106_code 61 = .ok (.return_, 1) := by decide +kernel
theorem dd_Model_enter_62 : decode prog_14_method_106_code 62 = .ok (.aload_n 0, 1) := by decide +kernel
theorem dd_Model_enter_63 : decode prog_14_method_106_code 63 = .ok (.dup, 1) := by decide +kernel
theorem dd_Model_enter_64 : decode prog_14_method_106_code 64 = .ok (.getfield 679, 3) := by decide +kernel
theorem dd_Model_enter_67 : decode prog_14_method_106_code 67 = .ok (.lconst 1, 1) := by decide +kernel
theorem dd_Model_enter_68 : decode prog_14_method_106_code 68 = .ok (.lsub, 1) := by decide +kernel
theorem dd_Model_enter_69 : decode prog_14_method_106_code 69 = .ok (.putfield 679, 3) := by decide +kernel
theorem dd_Model_enter_72 : decode prog_14_method_106_code 72 = .ok (.aload_n 0, 1) := by decide +kernel
theorem dd_Model_enter_73 : decode prog_14_method_106_code 73 = .ok (.getfield 42, 3) := by decide +kernel
theorem dd_Model_enter_76 : decode prog_14_method_106_code 76 = .ok (.iload_n 1, 1) := by decide +kernel
theorem dd_Model_enter_77 : decode prog_14_method_106_code 77 = .ok (.iaload, 1) := by decide +kernel
theorem dd_Model_enter_78 : decode prog_14_method_106_code 78 = .ok (.istore_n 3, 1) := by decide +kernel
theorem dd_Model_enter_79 : decode prog_14_method_106_code 79 = .ok (.aload_n 0, 1) := by decide +kernel
theorem dd_Model_enter_80 : decode prog_14_method_106_code 80 = .ok (.getfield 116, 3) := by decide +kernel
theorem dd_Model_enter_83 : decode prog_14_method_106_code 83 = .ok (.aload_n 0, 1) := by decide +kernel
theorem dd_Model_enter_84 : decode prog_14_method_106_code 84 = .ok (.getfield 682, 3) := by decide +kernel
theorem dd_Model_enter_87 : decode prog_14_method_106_code 87 = .ok (.iload_n 2, 1) := by decide +kernel
theorem dd_Model_enter_88 : decode prog_14_method_106_code 88 = .ok (.iastore, 1) := by decide +kernel
theorem dd_Model_enter_89 : decode prog_14_method_106_code 89 = .ok (.aload_n 0, 1) := by decide +kernel
theorem dd_Model_enter_90 : decode prog_14_method_106_code 90 = .ok (.getfield 119, 3) := by decide +kernel
theorem dd_Model_enter_93 : decode prog_14_method_106_code 93 = .ok (.aload_n 0, 1) := by decide +kernel
theorem dd_Model_enter_94 : decode prog_14_method_106_code 94 = .ok (.getfield 682, 3) := by decide +kernel
theorem dd_Model_enter_97 : decode prog_14_method_106_code 97 = .ok (.aload_n 0, 1) := by decide +kernel
theorem dd_Model_enter_98 : decode prog_14_method_106_code 98 = .ok (.getfield 662, 3) := by decide +kernel
theorem dd_Model_enter_101 : decode prog_14_method_106_code 101 = .ok (.aload_n 0, 1) := by decide +kernel
theorem dd_Model_enter_102 : decode prog_14_method_106_code 102 = .ok (.getfield 30, 3) := by decide +kernel
theorem dd_Model_enter_105 : decode prog_14_method_106_code 105 = .ok (.iload_n 3, 1) := by decide +kernel
theorem dd_Model_enter_106 : decode prog_14_method_106_code 106 = .ok (.iaload, 1) := by decide +kernel
theorem dd_Model_enter_107 : decode prog_14_method_106_code 107 = .ok (.isub, 1) := by decide +kernel
theorem dd_Model_enter_108 : decode prog_14_method_106_code 108 = .ok (.iastore, 1) := by decide +kernel
theorem dd_Model_enter_109 : decode prog_14_method_106_code 109 = .ok (.aload_n 0, 1) := by decide +kernel
theorem dd_Model_enter_110 : decode prog_14_method_106_code 110 = .ok (.getfield 122, 3) := by decide +kernel
theorem dd_Model_enter_113 : decode prog_14_method_106_code 113 = .ok (.aload_n 0, 1) := by decide +kernel
theorem dd_Model_enter_114 : decode prog_14_method_106_code 114 = .ok (.getfield 682, 3) := by decide +kernel
theorem dd_Model_enter_117 : decode prog_14_method_106_code 117 = .ok (.aload_n 0, 1) := by decide +kernel
theorem dd_Model_enter_118 : decode prog_14_method_106_code 118 = .ok (.getfield 685, 3) := by decide +kernel
theorem dd_Model_enter_121 : decode prog_14_method_106_code 121 = .ok (.iastore, 1) := by decide +kernel
theorem dd_Model_enter_122 : decode prog_14_method_106_code 122 = .ok (.aload_n 0, 1) := by decide +kernel
theorem dd_Model_enter_123 : decode prog_14_method_106_code 123 = .ok (.dup, 1) := by decide +kernel
theorem dd_Model_enter_124 : decode prog_14_method_106_code 124 = .ok (.getfield 682, 3) := by decide +kernel
theorem dd_Model_enter_127 : decode prog_14_method_106_code 127 = .ok (.iconst 1, 1) := by decide +kernel
theorem dd_Model_enter_128 : decode prog_14_method_106_code 128 = .ok (.iadd, 1) := by decide +kernel
theorem dd_Model_enter_129 : decode prog_14_method_106_code 129 = .ok (.putfield 682, 3) := by decide +kernel
theorem dd_Model_enter_132 : decode prog_14_method_106_code 132 = .ok (.aload_n 0, 1) := by decide +kernel
theorem dd_Model_enter_133 : decode prog_14_method_106_code 133 = .ok (.getfield 30, 3) := by decide +kernel
theorem dd_Model_enter_136 : decode prog_14_method_106_code 136 = .ok (.iload_n 3, 1) := by decide +kernel
theorem dd_Model_enter_137 : decode prog_14_method_106_code 137 = .ok (.iaload, 1) := by decide +kernel
theorem dd_Model_enter_138 : decode prog_14_method_106_code 138 = .ok (.istore 4, 2) := by decide +kernel
theorem dd_Model_enter_140 : decode prog_14_method_106_code 140 = .ok (.iload 4, 2) := by decide +kernel
theorem dd_Model_enter_142 : decode prog_14_method_106_code 142 = .ok (.aload_n 0, 1) := by decide +kernel
theorem dd_Model_enter_143 : decode prog_14_method_106_code 143 = .ok (.getfield 51, 3) := by decide +kernel
theorem dd_Model_enter_146 : decode prog_14_method_106_code 146 = .ok (.iload_n 1, 1) := by decide +kernel
theorem dd_Model_enter_147 : decode prog_14_method_106_code 147 = .ok (.iaload, 1) := by decide +kernel
theorem dd_Model_enter_148 : decode prog_14_method_106_code 148 = .ok (.if_icmp .ge 30, 3) := by decide +kernel
theorem dd_Model_enter_151 : decode prog_14_method_106_code 151 = .ok (.aload_n 0, 1) := by decide +kernel
theorem dd_Model_enter_152 : decode prog_14_method_106_code 152 = .ok (.lconst 0, 1) := by decide +kernel
theorem dd_Model_enter_153 : decode prog_14_method_106_code 153 = .ok (.aload_n 0, 1) := by decide +kernel
theorem dd_Model_enter_154 : decode prog_14_method_106_code 154 = .ok (.getfield 54, 3) := by decide +kernel
theorem dd_Model_enter_157 : decode prog_14_method_106_code 157 = .ok (.sipush 200, 3) := by decide +kernel
theorem dd_Model_enter_160 : decode prog_14_method_106_code 160 = .ok (.iload_n 1, 1) := by decide +kernel
theorem dd_Model_enter_161 : decode prog_14_method_106_code 161 = .ok (.imul, 1) := by decide +kernel
theorem dd_Model_enter_162 : decode prog_14_method_106_code 162 = .ok (.iload 4, 2) := by decide +kernel
theorem dd_Model_enter_164 : decode prog_14_method_106_code 164 = .ok (.iadd, 1) := by decide +kernel
theorem dd_Model_enter_165 : decode prog_14_method_106_code 165 = .ok (.iaload, 1) := by decide +kernel
theorem dd_Model_enter_166 : decode prog_14_method_106_code 166 = .ok (.invokestatic 384, 3) := by decide +kernel
theorem dd_Model_enter_169 : decode prog_14_method_106_code 169 = .ok (.invokevirtual 676, 3) := by decide +kernel
theorem dd_Model_enter_172 : decode prog_14_method_106_code 172 = .ok (.iinc 4 1, 3) := by decide +kernel
theorem dd_Model_enter_175 : decode prog_14_method_106_code 175 = .ok (.goto (-35), 3) := by decide +kernel
theorem dd_Model_enter_178 : decode prog_14_method_106_code 178 = .ok (.aload_n 0, 1) := by decide +kernel
theorem dd_Model_enter_179 : decode prog_14_method_106_code 179 = .ok (.iconst 0, 1) := by decide +kernel
theorem dd_Model_enter_180 : decode prog_14_method_106_code 180 = .ok (.aload_n 0, 1) := by decide +kernel
theorem dd_Model_enter_181 : decode prog_14_method_106_code 181 = .ok (.getfield 33, 3) := by decide +kernel
theorem dd_Model_enter_184 : decode prog_14_method_106_code 184 = .ok (.iload_n 3, 1) := by decide +kernel
theorem dd_Model_enter_185 : decode prog_14_method_106_code 185 = .ok (.iaload, 1) := by decide +kernel
theorem dd_Model_enter_186 : decode prog_14_method_106_code 186 = .ok (.aload_n 0, 1) := by decide +kernel
theorem dd_Model_enter_187 : decode prog_14_method_106_code 187 = .ok (.getfield 662, 3) := by decide +kernel
theorem dd_Model_enter_190 : decode prog_14_method_106_code 190 = .ok (.iconst 0, 1) := by decide +kernel
theorem dd_Model_enter_191 : decode prog_14_method_106_code 191 = .ok (.invokevirtual 687, 3) := by decide +kernel
theorem dd_Model_enter_194 : decode prog_14_method_106_code 194 = .ok (.aload_n 0, 1) := by decide +kernel
theorem dd_Model_enter_195 : decode prog_14_method_106_code 195 = .ok (.aload_n 0, 1) := by decide +kernel
theorem dd_Model_enter_196 : decode prog_14_method_106_code 196 = .ok (.getfield 45, 3) := by decide +kernel
theorem dd_Model_enter_199 : decode prog_14_method_106_code 199 = .ok (.iload_n 1, 1) := by decide +kernel
theorem dd_Model_enter_200 : decode prog_14_method_106_code 200 = .ok (.iaload, 1) := by decide +kernel
theorem dd_Model_enter_201 : decode prog_14_method_106_code 201 = .ok (.putfield 168, 3) := by decide +kernel
theorem dd_Model_enter_204 : decode prog_14_method_106_code 204 = .ok (.return_, 1) := by decide +kernel
theorem dd_Model_drop_0 : decode prog_14_method_105_code 0 = .ok (.aload_n 0, 1) := by decide +kernel
theorem dd_Model_drop_1 : decode prog_14_method_105_code 1 = .ok (.dup, 1) := by decide +kernel
theorem dd_Model_drop_2 : decode prog_14_method_105_code 2 = .ok (.getfield 662, 3) := by decide +kernel
theorem dd_Model_drop_5 : decode prog_14_method_105_code 5 = .ok (.iconst 1, 1) := by decide +kernel
theorem dd_Model_drop_6 : decode prog_14_method_105_code 6 = .ok (.isub, 1) := by decide +kernel
theorem dd_Model_drop_7 : decode prog_14_method_105_code 7 = .ok (.putfield 662, 3) := by decide +kernel
theorem dd_Model_drop_10 : decode prog_14_method_105_code 10 = .ok (.aload_n 0, 1) := by decide +kernel
theorem dd_Model_drop_11 : decode prog_14_method_105_code 11 = .ok (.getfield 110, 3) := by decide +kernel
theorem dd_Model_drop_14 : decode prog_14_method_105_code 14 = .ok (.aload_n 0, 1) := by decide +kernel
theorem dd_Model_drop_15 : decode prog_14_method_105_code 15 = .ok (.getfield 662, 3) := by decide +kernel
theorem dd_Model_drop_18 : decode prog_14_method_105_code 18 = .ok (.laload, 1) := by decide +kernel
theorem dd_Model_drop_19 : decode prog_14_method_105_code 19 = .ok (.lreturn, 1) := by decide +kernel
theorem dd_Model_tell_0 : decode prog_14_method_104_code 0 = .ok (.aload_n 0, 1) := by decide +kernel
theorem dd_Model_tell_1 : decode prog_14_method_104_code 1 = .ok (.lload_n 1, 1) := by decide +kernel
theorem dd_Model_tell_2 : decode prog_14_method_104_code 2 = .ok (.iconst 0, 1) := by decide +kernel
theorem dd_Model_tell_3 : decode prog_14_method_104_code 3 = .ok (.invokevirtual 676, 3) := by decide +kernel
theorem dd_Model_tell_6 : decode prog_14_method_104_code 6 = .ok (.return_, 1) := by decide +kernel
theorem dd_Model_isOf_0 : decode prog_14_method_125_code 0 = .ok (.lload_n 1, 1) := by decide +kernel
theorem dd_Model_isOf_1 : decode prog_14_method_125_code 1 = .ok (.lconst 0, 1) := by decide +kernel
theorem dd_Model_isOf_2 : decode prog_14_method_125_code 2 = .ok (.lcmp, 1) := by decide +kernel
theorem dd_Model_isOf_3 : decode prog_14_method_125_code 3 = .ok (.ifCond .ne 5, 3) := by decide +kernel
theorem dd_Model_isOf_6 : decode prog_14_method_125_code 6 = .ok (.iconst 0, 1) := by decide +kernel
theorem dd_Model_isOf_7 : decode prog_14_method_125_code 7 = .ok (.ireturn, 1) := by decide +kernel
theorem dd_Model_isOf_8 : decode prog_14_method_125_code 8 = .ok (.lload_n 1, 1) := by decide +kernel
theorem dd_Model_isOf_9 : decode prog_14_method_125_code 9 = .ok (.lconst 1, 1) := by decide +kernel
theorem dd_Model_isOf_10 : decode prog_14_method_125_code 10 = .ok (.land, 1) := by decide +kernel
theorem dd_Model_isOf_11 : decode prog_14_method_125_code 11 = .ok (.lconst 1, 1) := by decide +kernel
theorem dd_Model_isOf_12 : decode prog_14_method_125_code 12 = .ok (.lcmp, 1) := by decide +kernel
theorem dd_Model_isOf_13 : decode prog_14_method_125_code 13 = .ok (.ifCond .ne 7, 3) := by decide +kernel
theorem dd_Model_isOf_16 : decode prog_14_method_125_code 16 = .ok (.iconst 1, 1) := by decide +kernel
theorem dd_Model_isOf_17 : decode prog_14_method_125_code 17 = .ok (.goto 4, 3) := by decide +kernel
theorem dd_Model_isOf_20 : decode prog_14_method_125_code 20 = .ok (.iconst 0, 1) := by decide +kernel
theorem dd_Model_isOf_21 : decode prog_14_method_125_code 21 = .ok (.istore 4, 2) := by decide +kernel
theorem dd_Model_isOf_23 : decode prog_14_method_125_code 23 = .ok (.iload_n 3, 1) := by decide +kernel
theorem dd_Model_isOf_24 : decode prog_14_method_125_code 24 = .ok (.iconst 2, 1) := by decide +kernel
theorem dd_Model_isOf_25 : decode prog_14_method_125_code 25 = .ok (.if_icmp .ge 18, 3) := by decide +kernel
theorem dd_Model_isOf_28 : decode prog_14_method_125_code 28 = .ok (.iload_n 3, 1) := by decide +kernel
theorem dd_Model_isOf_29 : decode prog_14_method_125_code 29 = .ok (.ifCond .eq 8, 3) := by decide +kernel
theorem dd_Model_isOf_32 : decode prog_14_method_125_code 32 = .ok (.iload 4, 2) := by decide +kernel
theorem dd_Model_isOf_34 : decode prog_14_method_125_code 34 = .ok (.ifCond .eq 7, 3) := by decide +kernel
theorem dd_Model_isOf_37 : decode prog_14_method_125_code 37 = .ok (.iconst 1, 1) := by decide +kernel
theorem dd_Model_isOf_38 : decode prog_14_method_125_code 38 = .ok (.goto 4, 3) := by decide +kernel
theorem dd_Model_isOf_41 : decode prog_14_method_125_code 41 = .ok (.iconst 0, 1) := by decide +kernel
theorem dd_Model_isOf_42 : decode prog_14_method_125_code 42 = .ok (.ireturn, 1) := by decide +kernel
theorem dd_Model_isOf_43 : decode prog_14_method_125_code 43 = .ok (.iload 4, 2) := by decide +kernel
theorem dd_Model_isOf_45 : decode prog_14_method_125_code 45 = .ok (.ifCond .ne 36, 3) := by decide +kernel
theorem dd_Model_isOf_48 : decode prog_14_method_125_code 48 = .ok (.aload_n 0, 1) := by decide +kernel
theorem dd_Model_isOf_49 : decode prog_14_method_125_code 49 = .ok (.getfield 39, 3) := by decide +kernel
theorem dd_Model_isOf_52 : decode prog_14_method_125_code 52 = .ok (.aload_n 0, 1) := by decide +kernel
theorem dd_Model_isOf_53 : decode prog_14_method_125_code 53 = .ok (.getfield 149, 3) := by decide +kernel
theorem dd_Model_isOf_56 : decode prog_14_method_125_code 56 = .ok (.lload_n 1, 1) := by decide +kernel
theorem dd_Model_isOf_57 : decode prog_14_method_125_code 57 = .ok (.ldc2_w 283, 3) := by decide +kernel
theorem dd_Model_isOf_60 : decode prog_14_method_125_code 60 = .ok (.ldiv, 1) := by decide +kernel
theorem dd_Model_isOf_61 : decode prog_14_method_125_code 61 = .ok (.l2i, 1) := by decide +kernel
theorem dd_Model_isOf_62 : decode prog_14_method_125_code 62 = .ok (.iconst 1, 1) := by decide +kernel
theorem dd_Model_isOf_63 : decode prog_14_method_125_code 63 = .ok (.isub, 1) := by decide +kernel
theorem dd_Model_isOf_64 : decode prog_14_method_125_code 64 = .ok (.iaload, 1) := by decide +kernel
theorem dd_Model_isOf_65 : decode prog_14_method_125_code 65 = .ok (.iaload, 1) := by decide +kernel
theorem dd_Model_isOf_66 : decode prog_14_method_125_code 66 = .ok (.aload_n 0, 1) := by decide +kernel
theorem dd_Model_isOf_67 : decode prog_14_method_125_code 67 = .ok (.getfield 39, 3) := by decide +kernel
theorem dd_Model_isOf_70 : decode prog_14_method_125_code 70 = .ok (.iload_n 3, 1) := by decide +kernel
theorem dd_Model_isOf_71 : decode prog_14_method_125_code 71 = .ok (.iconst 2, 1) := by decide +kernel
theorem dd_Model_isOf_72 : decode prog_14_method_125_code 72 = .ok (.isub, 1) := by decide +kernel
theorem dd_Model_isOf_73 : decode prog_14_method_125_code 73 = .ok (.iaload, 1) := by decide +kernel
theorem dd_Model_isOf_74 : decode prog_14_method_125_code 74 = .ok (.if_icmp .ne 7, 3) := by decide +kernel
theorem dd_Model_isOf_77 : decode prog_14_method_125_code 77 = .ok (.iconst 1, 1) := by decide +kernel
theorem dd_Model_isOf_78 : decode prog_14_method_125_code 78 = .ok (.goto 4, 3) := by decide +kernel
theorem dd_Model_isOf_81 : decode prog_14_method_125_code 81 = .ok (.iconst 0, 1) := by decide +kernel
theorem dd_Model_isOf_82 : decode prog_14_method_125_code 82 = .ok (.ireturn, 1) := by decide +kernel
theorem dd_Model_doKind_0 : decode prog_14_method_133_code 0 = .ok (.aload_n 0, 1) := by decide +kernel
theorem dd_Model_doKind_1 : decode prog_14_method_133_code 1 = .ok (.getfield 110, 3) := by decide +kernel
theorem dd_Model_doKind_4 : decode prog_14_method_133_code 4 = .ok (.aload_n 0, 1) := by decide +kernel
theorem dd_Model_doKind_5 : decode prog_14_method_133_code 5 = .ok (.getfield 662, 3) := by decide +kernel
theorem dd_Model_doKind_8 : decode prog_14_method_133_code 8 = .ok (.iconst 1, 1) := by decide +kernel
theorem dd_Model_doKind_9 : decode prog_14_method_133_code 9 = .ok (.isub, 1) := by decide +kernel
theorem dd_Model_doKind_10 : decode prog_14_method_133_code 10 = .ok (.laload, 1) := by decide +kernel
theorem dd_Model_doKind_11 : decode prog_14_method_133_code 11 = .ok (.lstore_n 1, 1) := by decide +kernel
theorem dd_Model_doKind_12 : decode prog_14_method_133_code 12 = .ok (.aload_n 0, 1) := by decide +kernel
theorem dd_Model_doKind_13 : decode prog_14_method_133_code 13 = .ok (.lload_n 1, 1) := by decide +kernel
theorem dd_Model_doKind_14 : decode prog_14_method_133_code 14 = .ok (.aload_n 0, 1) := by decide +kernel
theorem dd_Model_doKind_15 : decode prog_14_method_133_code 15 = .ok (.getfield 273, 3) := by decide +kernel
theorem dd_Model_doKind_18 : decode prog_14_method_133_code 18 = .ok (.l2i, 1) := by decide +kernel
theorem dd_Model_doKind_19 : decode prog_14_method_133_code 19 = .ok (.invokevirtual 807, 3) := by decide +kernel
theorem dd_Model_doKind_22 : decode prog_14_method_133_code 22 = .ok (.ifCond .ne 19, 3) := by decide +kernel
theorem dd_Model_doKind_25 : decode prog_14_method_133_code 25 = .ok (.lload_n 1, 1) := by decide +kernel
theorem dd_Model_doKind_26 : decode prog_14_method_133_code 26 = .ok (.lconst 0, 1) := by decide +kernel
theorem dd_Model_doKind_27 : decode prog_14_method_133_code 27 = .ok (.lcmp, 1) := by decide +kernel
theorem dd_Model_doKind_28 : decode prog_14_method_133_code 28 = .ok (.ifCond .ne 17, 3) := by decide +kernel
theorem dd_Model_doKind_31 : decode prog_14_method_133_code 31 = .ok (.aload_n 0, 1) := by decide +kernel
theorem dd_Model_doKind_32 : decode prog_14_method_133_code 32 = .ok (.getfield 270, 3) := by decide +kernel
theorem dd_Model_doKind_35 : decode prog_14_method_133_code 35 = .ok (.iconst 2, 1) := by decide +kernel
theorem dd_Model_doKind_36 : decode prog_14_method_133_code 36 = .ok (.irem, 1) := by decide +kernel
theorem dd_Model_doKind_37 : decode prog_14_method_133_code 37 = .ok (.iconst 1, 1) := by decide +kernel
theorem dd_Model_doKind_38 : decode prog_14_method_133_code 38 = .ok (.if_icmp .ne 7, 3) := by decide +kernel
theorem dd_Model_doKind_41 : decode prog_14_method_133_code 41 = .ok (.iconst 1, 1) := by decide +kernel
theorem dd_Model_doKind_42 : decode prog_14_method_133_code 42 = .ok (.goto 4, 3) := by decide +kernel
theorem dd_Model_doKind_45 : decode prog_14_method_133_code 45 = .ok (.iconst 0, 1) := by decide +kernel
theorem dd_Model_doKind_46 : decode prog_14_method_133_code 46 = .ok (.istore_n 3, 1) := by decide +kernel
theorem dd_Model_doKind_47 : decode prog_14_method_133_code 47 = .ok (.aload_n 0, 1) := by decide +kernel
theorem dd_Model_doKind_48 : decode prog_14_method_133_code 48 = .ok (.getfield 270, 3) := by decide +kernel
theorem dd_Model_doKind_51 : decode prog_14_method_133_code 51 = .ok (.bipush 21, 2) := by decide +kernel
theorem dd_Model_doKind_53 : decode prog_14_method_133_code 53 = .ok (.if_icmp .le 18, 3) := by decide +kernel
theorem dd_Model_doKind_56 : decode prog_14_method_133_code 56 = .ok (.aload_n 0, 1) := by decide +kernel
theorem dd_Model_doKind_57 : decode prog_14_method_133_code 57 = .ok (.iload_n 3, 1) := by decide +kernel
theorem dd_Model_doKind_58 : decode prog_14_method_133_code 58 = .ok (.ifCond .eq 7, 3) := by decide +kernel
theorem dd_Model_doKind_61 : decode prog_14_method_133_code 61 = .ok (.iconst 0, 1) := by decide +kernel
theorem dd_Model_doKind_62 : decode prog_14_method_133_code 62 = .ok (.goto 5, 3) := by decide +kernel
theorem dd_Model_doKind_65 : decode prog_14_method_133_code 65 = .ok (.bipush 9, 2) := by decide +kernel
theorem dd_Model_doKind_67 : decode prog_14_method_133_code 67 = .ok (.putfield 673, 3) := by decide +kernel
theorem dd_Model_doKind_70 : decode prog_14_method_133_code 70 = .ok (.return_, 1) := by decide +kernel
theorem dd_Model_doKind_71 : decode prog_14_method_133_code 71 = .ok (.aload_n 0, 1) := by decide +kernel
theorem dd_Model_doKind_72 : decode prog_14_method_133_code 72 = .ok (.dup, 1) := by decide +kernel
theorem dd_Model_doKind_73 : decode prog_14_method_133_code 73 = .ok (.getfield 662, 3) := by decide +kernel
theorem dd_Model_doKind_76 : decode prog_14_method_133_code 76 = .ok (.iconst 1, 1) := by decide +kernel
theorem dd_Model_doKind_77 : decode prog_14_method_133_code 77 = .ok (.isub, 1) := by decide +kernel
theorem dd_Model_doKind_78 : decode prog_14_method_133_code 78 = .ok (.putfield 662, 3) := by decide +kernel
theorem dd_Model_doKind_81 : decode prog_14_method_133_code 81 = .ok (.aload_n 0, 1) := by decide +kernel
theorem dd_Model_doKind_82 : decode prog_14_method_133_code 82 = .ok (.iload_n 3, 1) := by decide +kernel
theorem dd_Model_doKind_83 : decode prog_14_method_133_code 83 = .ok (.ifCond .eq 7, 3) := by decide +kernel
theorem dd_Model_doKind_86 : decode prog_14_method_133_code 86 = .ok (.lconst 1, 1) := by decide +kernel
theorem dd_Model_doKind_87 : decode prog_14_method_133_code 87 = .ok (.goto 4, 3) := by decide +kernel
theorem dd_Model_doKind_90 : decode prog_14_method_133_code 90 = .ok (.lconst 0, 1) := by decide +kernel
theorem dd_Model_doKind_91 : decode prog_14_method_133_code 91 = .ok (.invokevirtual 737, 3) := by decide +kernel
theorem dd_Model_doKind_94 : decode prog_14_method_133_code 94 = .ok (.return_, 1) := by decide +kernel
theorem dd_Model_packed_0 : decode prog_14_method_126_code 0 = .ok (.iload_n 0, 1) := by decide +kernel
theorem dd_Model_packed_1 : decode prog_14_method_126_code 1 = .ok (.iconst 3, 1) := by decide +kernel
theorem dd_Model_packed_2 : decode prog_14_method_126_code 2 = .ok (.if_icmp .ne 11, 3) := by decide +kernel
theorem dd_Model_packed_5 : decode prog_14_method_126_code 5 = .ok (.lload_n 1, 1) := by decide +kernel
theorem dd_Model_packed_6 : decode prog_14_method_126_code 6 = .ok (.ldc2_w 742, 3) := by decide +kernel
theorem dd_Model_packed_9 : decode prog_14_method_126_code 9 = .ok (.land, 1) := by decide +kernel
theorem dd_Model_packed_10 : decode prog_14_method_126_code 10 = .ok (.goto 17, 3) := by decide +kernel
theorem dd_Model_packed_13 : decode prog_14_method_126_code 13 = .ok (.iload_n 0, 1) := by decide +kernel
theorem dd_Model_packed_14 : decode prog_14_method_126_code 14 = .ok (.iconst 4, 1) := by decide +kernel
theorem dd_Model_packed_15 : decode prog_14_method_126_code 15 = .ok (.if_icmp .ne 11, 3) := by decide +kernel
theorem dd_Model_packed_18 : decode prog_14_method_126_code 18 = .ok (.lload_n 1, 1) := by decide +kernel
theorem dd_Model_packed_19 : decode prog_14_method_126_code 19 = .ok (.ldc2_w 777, 3) := by decide +kernel
theorem dd_Model_packed_22 : decode prog_14_method_126_code 22 = .ok (.land, 1) := by decide +kernel
theorem dd_Model_packed_23 : decode prog_14_method_126_code 23 = .ok (.goto 4, 3) := by decide +kernel
theorem dd_Model_packed_26 : decode prog_14_method_126_code 26 = .ok (.lload_n 1, 1) := by decide +kernel
theorem dd_Model_packed_27 : decode prog_14_method_126_code 27 = .ok (.lreturn, 1) := by decide +kernel
theorem dd_Model_layPart_0 : decode prog_14_method_127_code 0 = .ok (.iload_n 1, 1) := by decide +kernel
theorem dd_Model_layPart_1 : decode prog_14_method_127_code 1 = .ok (.iconst 3, 1) := by decide +kernel
theorem dd_Model_layPart_2 : decode prog_14_method_127_code 2 = .ok (.if_icmp .ne 8, 3) := by decide +kernel
theorem dd_Model_layPart_5 : decode prog_14_method_127_code 5 = .ok (.bipush 8, 2) := by decide +kernel
theorem dd_Model_layPart_7 : decode prog_14_method_127_code 7 = .ok (.goto 5, 3) := by decide +kernel
theorem dd_Model_layPart_10 : decode prog_14_method_127_code 10 = .ok (.bipush 16, 2) := by decide +kernel
theorem dd_Model_layPart_12 : decode prog_14_method_127_code 12 = .ok (.istore 5, 2) := by decide +kernel
theorem dd_Model_layPart_14 : decode prog_14_method_127_code 14 = .ok (.aload_n 0, 1) := by decide +kernel
theorem dd_Model_layPart_15 : decode prog_14_method_127_code 15 = .ok (.iload 4, 2) := by decide +kernel
theorem dd_Model_layPart_17 : decode prog_14_method_127_code 17 = .ok (.ifCond .eq 12, 3) := by decide +kernel
theorem dd_Model_layPart_20 : decode prog_14_method_127_code 20 = .ok (.lload_n 2, 1) := by decide +kernel
theorem dd_Model_layPart_21 : decode prog_14_method_127_code 21 = .ok (.iload 5, 2) := by decide +kernel
theorem dd_Model_layPart_23 : decode prog_14_method_127_code 23 = .ok (.invokestatic 186, 3) := by decide +kernel
theorem dd_Model_layPart_26 : decode prog_14_method_127_code 26 = .ok (.goto 4, 3) := by decide +kernel
theorem dd_Model_layPart_29 : decode prog_14_method_127_code 29 = .ok (.lload_n 2, 1) := by decide +kernel
theorem dd_Model_layPart_30 : decode prog_14_method_127_code 30 = .ok (.iload_n 1, 1) := by decide +kernel
theorem dd_Model_layPart_31 : decode prog_14_method_127_code 31 = .ok (.invokestatic 384, 3) := by decide +kernel
theorem dd_Model_layPart_34 : decode prog_14_method_127_code 34 = .ok (.invokevirtual 676, 3) := by decide +kernel
theorem dd_Model_layPart_37 : decode prog_14_method_127_code 37 = .ok (.return_, 1) := by decide +kernel
theorem dd_Model_doArray_0 : decode prog_14_method_132_code 0 = .ok (.aload_n 0, 1) := by decide +kernel
theorem dd_Model_doArray_1 : decode prog_14_method_132_code 1 = .ok (.getfield 270, 3) := by decide +kernel
theorem dd_Model_doArray_4 : decode prog_14_method_132_code 4 = .ok (.bipush 16, 2) := by decide +kernel
theorem dd_Model_doArray_6 : decode prog_14_method_132_code 6 = .ok (.if_icmp .ne 14, 3) := by decide +kernel
theorem dd_Model_doArray_9 : decode prog_14_method_132_code 9 = .ok (.aload_n 0, 1) := by decide +kernel
theorem dd_Model_doArray_10 : decode prog_14_method_132_code 10 = .ok (.invokevirtual 725, 3) := by decide +kernel
theorem dd_Model_doArray_13 : decode prog_14_method_132_code 13 = .ok (.ldc2_w 182, 3) := by decide +kernel
theorem dd_Model_doArray_16 : decode prog_14_method_132_code 16 = .ok (.land, 1) := by decide +kernel
theorem dd_Model_doArray_17 : decode prog_14_method_132_code 17 = .ok (.goto 4, 3) := by decide +kernel
theorem dd_Model_doArray_20 : decode prog_14_method_132_code 20 = .ok (.lconst 1, 1) := by decide +kernel
theorem dd_Model_doArray_21 : decode prog_14_method_132_code 21 = .ok (.lstore_n 1, 1) := by decide +kernel
theorem dd_Model_doArray_22 : decode prog_14_method_132_code 22 = .ok (.aload_n 0, 1) := by decide +kernel
theorem dd_Model_doArray_23 : decode prog_14_method_132_code 23 = .ok (.getfield 270, 3) := by decide +kernel
theorem dd_Model_doArray_26 : decode prog_14_method_132_code 26 = .ok (.bipush 14, 2) := by decide +kernel
theorem dd_Model_doArray_28 : decode prog_14_method_132_code 28 = .ok (.if_icmp .eq 12, 3) := by decide +kernel
theorem dd_Model_doArray_31 : decode prog_14_method_132_code 31 = .ok (.aload_n 0, 1) := by decide +kernel
theorem dd_Model_doArray_32 : decode prog_14_method_132_code 32 = .ok (.getfield 270, 3) := by decide +kernel
theorem dd_Model_doArray_35 : decode prog_14_method_132_code 35 = .ok (.bipush 16, 2) := by decide +kernel
theorem dd_Model_doArray_37 : decode prog_14_method_132_code 37 = .ok (.if_icmp .ne 10, 3) := by decide +kernel
theorem dd_Model_doArray_40 : decode prog_14_method_132_code 40 = .ok (.aload_n 0, 1) := by decide +kernel
theorem dd_Model_doArray_41 : decode prog_14_method_132_code 41 = .ok (.invokevirtual 725, 3) := by decide +kernel
theorem dd_Model_doArray_44 : decode prog_14_method_132_code 44 = .ok (.goto 4, 3) := by decide +kernel
theorem dd_Model_doArray_47 : decode prog_14_method_132_code 47 = .ok (.lconst 0, 1) := by decide +kernel
theorem dd_Model_doArray_48 : decode prog_14_method_132_code 48 = .ok (.lstore_n 3, 1) := by decide +kernel
theorem dd_Model_doArray_49 : decode prog_14_method_132_code 49 = .ok (.aload_n 0, 1) := by decide +kernel
theorem dd_Model_doArray_50 : decode prog_14_method_132_code 50 = .ok (.getfield 270, 3) := by decide +kernel
theorem dd_Model_doArray_53 : decode prog_14_method_132_code 53 = .ok (.bipush 15, 2) := by decide +kernel
theorem dd_Model_doArray_55 : decode prog_14_method_132_code 55 = .ok (.if_icmp .ne 7, 3) := by decide +kernel
theorem dd_Model_doArray_58 : decode prog_14_method_132_code 58 = .ok (.lconst 0, 1) := by decide +kernel
theorem dd_Model_doArray_59 : decode prog_14_method_132_code 59 = .ok (.goto 11, 3) := by decide +kernel
theorem dd_Model_doArray_62 : decode prog_14_method_132_code 62 = .ok (.aload_n 0, 1) := by decide +kernel
theorem dd_Model_doArray_63 : decode prog_14_method_132_code 63 = .ok (.invokevirtual 725, 3) := by decide +kernel
theorem dd_Model_doArray_66 : decode prog_14_method_132_code 66 = .ok (.ldc2_w 182, 3) := by decide +kernel
theorem dd_Model_doArray_69 : decode prog_14_method_132_code 69 = .ok (.land, 1) := by decide +kernel
theorem dd_Model_doArray_70 : decode prog_14_method_132_code 70 = .ok (.lstore 5, 2) := by decide +kernel
theorem dd_Model_doArray_72 : decode prog_14_method_132_code 72 = .ok (.aload_n 0, 1) := by decide +kernel
theorem dd_Model_doArray_73 : decode prog_14_method_132_code 73 = .ok (.invokevirtual 725, 3) := by decide +kernel
theorem dd_Model_doArray_76 : decode prog_14_method_132_code 76 = .ok (.lstore 7, 2) := by decide +kernel
theorem dd_Model_doArray_78 : decode prog_14_method_132_code 78 = .ok (.lload 7, 2) := by decide +kernel
theorem dd_Model_doArray_80 : decode prog_14_method_132_code 80 = .ok (.lconst 0, 1) := by decide +kernel
theorem dd_Model_doArray_81 : decode prog_14_method_132_code 81 = .ok (.lcmp, 1) := by decide +kernel
theorem dd_Model_doArray_82 : decode prog_14_method_132_code 82 = .ok (.ifCond .ne 10, 3) := by decide +kernel
theorem dd_Model_doArray_85 : decode prog_14_method_132_code 85 = .ok (.aload_n 0, 1) := by decide +kernel
theorem dd_Model_doArray_86 : decode prog_14_method_132_code 86 = .ok (.bipush 8, 2) := by decide +kernel
theorem dd_Model_doArray_88 : decode prog_14_method_132_code 88 = .ok (.putfield 673, 3) := by decide +kernel
theorem dd_Model_doArray_91 : decode prog_14_method_132_code 91 = .ok (.return_, 1) := by decide +kernel
theorem dd_Model_doArray_92 : decode prog_14_method_132_code 92 = .ok (.lload 7, 2) := by decide +kernel
theorem dd_Model_doArray_94 : decode prog_14_method_132_code 94 = .ok (.ldc2_w 283, 3) := by decide +kernel
theorem dd_Model_doArray_97 : decode prog_14_method_132_code 97 = .ok (.ldiv, 1) := by decide +kernel
theorem dd_Model_doArray_98 : decode prog_14_method_132_code 98 = .ok (.l2i, 1) := by decide +kernel
theorem dd_Model_doArray_99 : decode prog_14_method_132_code 99 = .ok (.iconst 1, 1) := by decide +kernel
theorem dd_Model_doArray_100 : decode prog_14_method_132_code 100 = .ok (.isub, 1) := by decide +kernel
theorem dd_Model_doArray_101 : decode prog_14_method_132_code 101 = .ok (.istore 9, 2) := by decide +kernel
theorem dd_Model_doArray_103 : decode prog_14_method_132_code 103 = .ok (.aload_n 0, 1) := by decide +kernel
theorem dd_Model_doArray_104 : decode prog_14_method_132_code 104 = .ok (.getfield 270, 3) := by decide +kernel
theorem dd_Model_doArray_107 : decode prog_14_method_132_code 107 = .ok (.bipush 15, 2) := by decide +kernel
theorem dd_Model_doArray_109 : decode prog_14_method_132_code 109 = .ok (.if_icmp .ne 16, 3) := by decide +kernel
theorem dd_Model_doArray_112 : decode prog_14_method_132_code 112 = .ok (.aload_n 0, 1) := by decide +kernel
theorem dd_Model_doArray_113 : decode prog_14_method_132_code 113 = .ok (.aload_n 0, 1) := by decide +kernel
theorem dd_Model_doArray_114 : decode prog_14_method_132_code 114 = .ok (.getfield 146, 3) := by decide +kernel
theorem dd_Model_doArray_117 : decode prog_14_method_132_code 117 = .ok (.iload 9, 2) := by decide +kernel
theorem dd_Model_doArray_119 : decode prog_14_method_132_code 119 = .ok (.iaload, 1) := by decide +kernel
theorem dd_Model_doArray_120 : decode prog_14_method_132_code 120 = .ok (.i2l, 1) := by decide +kernel
theorem dd_Model_doArray_121 : decode prog_14_method_132_code 121 = .ok (.invokevirtual 737, 3) := by decide +kernel
theorem dd_Model_doArray_124 : decode prog_14_method_132_code 124 = .ok (.return_, 1) := by decide +kernel
theorem dd_Model_doArray_125 : decode prog_14_method_132_code 125 = .ok (.lload 5, 2) := by decide +kernel
theorem dd_Model_doArray_127 : decode prog_14_method_132_code 127 = .ok (.lload_n 1, 1) := by decide +kernel
theorem dd_Model_doArray_128 : decode prog_14_method_132_code 128 = .ok (.ladd, 1) := by decide +kernel
theorem dd_Model_doArray_129 : decode prog_14_method_132_code 129 = .ok (.aload_n 0, 1) := by decide +kernel
theorem dd_Model_doArray_130 : decode prog_14_method_132_code 130 = .ok (.getfield 146, 3) := by decide +kernel
theorem dd_Model_doArray_133 : decode prog_14_method_132_code 133 = .ok (.iload 9, 2) := by decide +kernel
theorem dd_Model_doArray_135 : decode prog_14_method_132_code 135 = .ok (.iaload, 1) := by decide +kernel
theorem dd_Model_doArray_136 : decode prog_14_method_132_code 136 = .ok (.i2l, 1) := by decide +kernel
theorem dd_Model_doArray_137 : decode prog_14_method_132_code 137 = .ok (.lcmp, 1) := by decide +kernel
theorem dd_Model_doArray_138 : decode prog_14_method_132_code 138 = .ok (.ifCond .le 10, 3) := by decide +kernel
theorem dd_Model_doArray_141 : decode prog_14_method_132_code 141 = .ok (.aload_n 0, 1) := by decide +kernel
theorem dd_Model_doArray_142 : decode prog_14_method_132_code 142 = .ok (.bipush 10, 2) := by decide +kernel
theorem dd_Model_doArray_144 : decode prog_14_method_132_code 144 = .ok (.putfield 673, 3) := by decide +kernel
theorem dd_Model_doArray_147 : decode prog_14_method_132_code 147 = .ok (.return_, 1) := by decide +kernel
theorem dd_Model_doArray_148 : decode prog_14_method_132_code 148 = .ok (.aload_n 0, 1) := by decide +kernel
theorem dd_Model_doArray_149 : decode prog_14_method_132_code 149 = .ok (.getfield 36, 3) := by decide +kernel
theorem dd_Model_doArray_152 : decode prog_14_method_132_code 152 = .ok (.bipush 32, 2) := by decide +kernel
theorem dd_Model_doArray_154 : decode prog_14_method_132_code 154 = .ok (.aload_n 0, 1) := by decide +kernel
theorem dd_Model_doArray_155 : decode prog_14_method_132_code 155 = .ok (.getfield 273, 3) := by decide +kernel
theorem dd_Model_doArray_158 : decode prog_14_method_132_code 158 = .ok (.l2i, 1) := by decide +kernel
theorem dd_Model_doArray_159 : decode prog_14_method_132_code 159 = .ok (.imul, 1) := by decide +kernel
theorem dd_Model_doArray_160 : decode prog_14_method_132_code 160 = .ok (.iaload, 1) := by decide +kernel
theorem dd_Model_doArray_161 : decode prog_14_method_132_code 161 = .ok (.istore 10, 2) := by decide +kernel
theorem dd_Model_doArray_163 : decode prog_14_method_132_code 163 = .ok (.aload_n 0, 1) := by decide +kernel
theorem dd_Model_doArray_164 : decode prog_14_method_132_code 164 = .ok (.getfield 143, 3) := by decide +kernel
theorem dd_Model_doArray_167 : decode prog_14_method_132_code 167 = .ok (.iload 9, 2) := by decide +kernel
theorem dd_Model_doArray_169 : decode prog_14_method_132_code 169 = .ok (.iaload, 1) := by decide +kernel
theorem dd_Model_doArray_170 : decode prog_14_method_132_code 170 = .ok (.lload 5, 2) := by decide +kernel
theorem dd_Model_doArray_172 : decode prog_14_method_132_code 172 = .ok (.l2i, 1) := by decide +kernel
theorem dd_Model_doArray_173 : decode prog_14_method_132_code 173 = .ok (.iadd, 1) := by decide +kernel
theorem dd_Model_doArray_174 : decode prog_14_method_132_code 174 = .ok (.istore 11, 2) := by decide +kernel
theorem dd_Model_doArray_176 : decode prog_14_method_132_code 176 = .ok (.aload_n 0, 1) := by decide +kernel
theorem dd_Model_doArray_177 : decode prog_14_method_132_code 177 = .ok (.getfield 270, 3) := by decide +kernel
theorem dd_Model_doArray_180 : decode prog_14_method_132_code 180 = .ok (.bipush 14, 2) := by decide +kernel
theorem dd_Model_doArray_182 : decode prog_14_method_132_code 182 = .ok (.if_icmp .ge 30, 3) := by decide +kernel
theorem dd_Model_doArray_185 : decode prog_14_method_132_code 185 = .ok (.aload_n 0, 1) := by decide +kernel
theorem dd_Model_doArray_186 : decode prog_14_method_132_code 186 = .ok (.iload 10, 2) := by decide +kernel
theorem dd_Model_doArray_188 : decode prog_14_method_132_code 188 = .ok (.aload_n 0, 1) := by decide +kernel
theorem dd_Model_doArray_189 : decode prog_14_method_132_code 189 = .ok (.getfield 140, 3) := by decide +kernel
theorem dd_Model_doArray_192 : decode prog_14_method_132_code 192 = .ok (.iload 11, 2) := by decide +kernel
theorem dd_Model_doArray_194 : decode prog_14_method_132_code 194 = .ok (.laload, 1) := by decide +kernel
theorem dd_Model_doArray_195 : decode prog_14_method_132_code 195 = .ok (.aload_n 0, 1) := by decide +kernel
theorem dd_Model_doArray_196 : decode prog_14_method_132_code 196 = .ok (.getfield 270, 3) := by decide +kernel
theorem dd_Model_doArray_199 : decode prog_14_method_132_code 199 = .ok (.bipush 12, 2) := by decide +kernel
theorem dd_Model_doArray_201 : decode prog_14_method_132_code 201 = .ok (.if_icmp .ne 7, 3) := by decide +kernel
theorem dd_Model_doArray_204 : decode prog_14_method_132_code 204 = .ok (.iconst 1, 1) := by decide +kernel
theorem dd_Model_doArray_205 : decode prog_14_method_132_code 205 = .ok (.goto 4, 3) := by decide +kernel
theorem dd_Model_doArray_208 : decode prog_14_method_132_code 208 = .ok (.iconst 0, 1) := by decide +kernel
theorem dd_Model_doArray_209 : decode prog_14_method_132_code 209 = .ok (.invokevirtual 803, 3) := by decide +kernel
theorem dd_Model_doArray_212 : decode prog_14_method_132_code 212 = .ok (.iconst 0, 1) := by decide +kernel
theorem dd_Model_doArray_213 : decode prog_14_method_132_code 213 = .ok (.istore 12, 2) := by decide +kernel
theorem dd_Model_doArray_215 : decode prog_14_method_132_code 215 = .ok (.iload 12, 2) := by decide +kernel
theorem dd_Model_doArray_217 : decode prog_14_method_132_code 217 = .ok (.i2l, 1) := by decide +kernel
theorem dd_Model_doArray_218 : decode prog_14_method_132_code 218 = .ok (.lload_n 1, 1) := by decide +kernel
theorem dd_Model_doArray_219 : decode prog_14_method_132_code 219 = .ok (.lcmp, 1) := by decide +kernel
theorem dd_Model_doArray_220 : decode prog_14_method_132_code 220 = .ok (.ifCond .ge 34, 3) := by decide +kernel
theorem dd_Model_doArray_223 : decode prog_14_method_132_code 223 = .ok (.aload_n 0, 1) := by decide +kernel
theorem dd_Model_doArray_224 : decode prog_14_method_132_code 224 = .ok (.getfield 270, 3) := by decide +kernel
theorem dd_Model_doArray_227 : decode prog_14_method_132_code 227 = .ok (.bipush 13, 2) := by decide +kernel
theorem dd_Model_doArray_229 : decode prog_14_method_132_code 229 = .ok (.if_icmp .le 25, 3) := by decide +kernel
theorem dd_Model_doArray_232 : decode prog_14_method_132_code 232 = .ok (.aload_n 0, 1) := by decide +kernel
theorem dd_Model_doArray_233 : decode prog_14_method_132_code 233 = .ok (.getfield 140, 3) := by decide +kernel
theorem dd_Model_doArray_236 : decode prog_14_method_132_code 236 = .ok (.iload 11, 2) := by decide +kernel
theorem dd_Model_doArray_238 : decode prog_14_method_132_code 238 = .ok (.iload 12, 2) := by decide +kernel
theorem dd_Model_doArray_240 : decode prog_14_method_132_code 240 = .ok (.iadd, 1) := by decide +kernel
theorem dd_Model_doArray_241 : decode prog_14_method_132_code 241 = .ok (.iload 10, 2) := by decide +kernel
theorem dd_Model_doArray_243 : decode prog_14_method_132_code 243 = .ok (.lload_n 3, 1) := by decide +kernel
theorem dd_Model_doArray_244 : decode prog_14_method_132_code 244 = .ok (.invokestatic 800, 3) := by decide +kernel
theorem dd_Model_doArray_247 : decode prog_14_method_132_code 247 = .ok (.lastore, 1) := by decide +kernel
theorem dd_Model_doArray_248 : decode prog_14_method_132_code 248 = .ok (.iinc 12 1, 3) := by decide +kernel
theorem dd_Model_doArray_251 : decode prog_14_method_132_code 251 = .ok (.goto (-36), 3) := by decide +kernel
theorem dd_Model_doArray_254 : decode prog_14_method_132_code 254 = .ok (.return_, 1) := by decide +kernel
theorem dd_Model_partOf_0 : decode prog_14_method_100_code 0 = .ok (.aload_n 0, 1) := by decide +kernel
theorem dd_Model_partOf_1 : decode prog_14_method_100_code 1 = .ok (.getfield 36, 3) := by decide +kernel
theorem dd_Model_partOf_4 : decode prog_14_method_100_code 4 = .ok (.bipush 32, 2) := by decide +kernel
theorem dd_Model_partOf_6 : decode prog_14_method_100_code 6 = .ok (.iload_n 1, 1) := by decide +kernel
theorem dd_Model_partOf_7 : decode prog_14_method_100_code 7 = .ok (.imul, 1) := by decide +kernel
theorem dd_Model_partOf_8 : decode prog_14_method_100_code 8 = .ok (.aload_n 0, 1) := by decide +kernel
theorem dd_Model_partOf_9 : decode prog_14_method_100_code 9 = .ok (.getfield 27, 3) := by decide +kernel
theorem dd_Model_partOf_12 : decode prog_14_method_100_code 12 = .ok (.iload_n 1, 1) := by decide +kernel
theorem dd_Model_partOf_13 : decode prog_14_method_100_code 13 = .ok (.iaload, 1) := by decide +kernel
theorem dd_Model_partOf_14 : decode prog_14_method_100_code 14 = .ok (.iconst 2, 1) := by decide +kernel
theorem dd_Model_partOf_15 : decode prog_14_method_100_code 15 = .ok (.if_icmp .ne 7, 3) := by decide +kernel
theorem dd_Model_partOf_18 : decode prog_14_method_100_code 18 = .ok (.iconst 0, 1) := by decide +kernel
theorem dd_Model_partOf_19 : decode prog_14_method_100_code 19 = .ok (.goto 4, 3) := by decide +kernel
theorem dd_Model_partOf_22 : decode prog_14_method_100_code 22 = .ok (.iload_n 2, 1) := by decide +kernel
theorem dd_Model_partOf_23 : decode prog_14_method_100_code 23 = .ok (.iadd, 1) := by decide +kernel
theorem dd_Model_partOf_24 : decode prog_14_method_100_code 24 = .ok (.iaload, 1) := by decide +kernel
theorem dd_Model_partOf_25 : decode prog_14_method_100_code 25 = .ok (.ireturn, 1) := by decide +kernel
theorem dd_Model_mark_0 : decode prog_14_method_99_code 0 = .ok (.lload_n 1, 1) := by decide +kernel
theorem dd_Model_mark_1 : decode prog_14_method_99_code 1 = .ok (.lconst 0, 1) := by decide +kernel
theorem dd_Model_mark_2 : decode prog_14_method_99_code 2 = .ok (.lcmp, 1) := by decide +kernel
theorem dd_Model_mark_3 : decode prog_14_method_99_code 3 = .ok (.ifCond .eq 11, 3) := by decide +kernel
theorem dd_Model_mark_6 : decode prog_14_method_99_code 6 = .ok (.lload_n 1, 1) := by decide +kernel
theorem dd_Model_mark_7 : decode prog_14_method_99_code 7 = .ok (.lconst 1, 1) := by decide +kernel
theorem dd_Model_mark_8 : decode prog_14_method_99_code 8 = .ok (.land, 1) := by decide +kernel
theorem dd_Model_mark_9 : decode prog_14_method_99_code 9 = .ok (.lconst 1, 1) := by decide +kernel
theorem dd_Model_mark_10 : decode prog_14_method_99_code 10 = .ok (.lcmp, 1) := by decide +kernel
theorem dd_Model_mark_11 : decode prog_14_method_99_code 11 = .ok (.ifCond .ne 4, 3) := by decide +kernel
theorem dd_Model_mark_14 : decode prog_14_method_99_code 14 = .ok (.return_, 1) := by decide +kernel
theorem dd_Model_mark_15 : decode prog_14_method_99_code 15 = .ok (.lload_n 1, 1) := by decide +kernel
theorem dd_Model_mark_16 : decode prog_14_method_99_code 16 = .ok (.ldc2_w 283, 3) := by decide +kernel
theorem dd_Model_mark_19 : decode prog_14_method_99_code 19 = .ok (.ldiv, 1) := by decide +kernel
theorem dd_Model_mark_20 : decode prog_14_method_99_code 20 = .ok (.l2i, 1) := by decide +kernel
theorem dd_Model_mark_21 : decode prog_14_method_99_code 21 = .ok (.iconst 1, 1) := by decide +kernel
theorem dd_Model_mark_22 : decode prog_14_method_99_code 22 = .ok (.isub, 1) := by decide +kernel
theorem dd_Model_mark_23 : decode prog_14_method_99_code 23 = .ok (.istore_n 3, 1) := by decide +kernel
theorem dd_Model_mark_24 : decode prog_14_method_99_code 24 = .ok (.aload_n 0, 1) := by decide +kernel
theorem dd_Model_mark_25 : decode prog_14_method_99_code 25 = .ok (.getfield 152, 3) := by decide +kernel
theorem dd_Model_mark_28 : decode prog_14_method_99_code 28 = .ok (.iload_n 3, 1) := by decide +kernel
theorem dd_Model_mark_29 : decode prog_14_method_99_code 29 = .ok (.baload, 1) := by decide +kernel
theorem dd_Model_mark_30 : decode prog_14_method_99_code 30 = .ok (.ifCond .eq 4, 3) := by decide +kernel
theorem dd_Model_mark_33 : decode prog_14_method_99_code 33 = .ok (.return_, 1) := by decide +kernel
theorem dd_Model_mark_34 : decode prog_14_method_99_code 34 = .ok (.aload_n 0, 1) := by decide +kernel
theorem dd_Model_mark_35 : decode prog_14_method_99_code 35 = .ok (.getfield 152, 3) := by decide +kernel
theorem dd_Model_mark_38 : decode prog_14_method_99_code 38 = .ok (.iload_n 3, 1) := by decide +kernel
theorem dd_Model_mark_39 : decode prog_14_method_99_code 39 = .ok (.iconst 1, 1) := by decide +kernel
theorem dd_Model_mark_40 : decode prog_14_method_99_code 40 = .ok (.bastore, 1) := by decide +kernel
theorem dd_Model_mark_41 : decode prog_14_method_99_code 41 = .ok (.aload_n 0, 1) := by decide +kernel
theorem dd_Model_mark_42 : decode prog_14_method_99_code 42 = .ok (.getfield 155, 3) := by decide +kernel
theorem dd_Model_mark_45 : decode prog_14_method_99_code 45 = .ok (.aload_n 0, 1) := by decide +kernel
theorem dd_Model_mark_46 : decode prog_14_method_99_code 46 = .ok (.getfield 655, 3) := by decide +kernel
theorem dd_Model_mark_49 : decode prog_14_method_99_code 49 = .ok (.iload_n 3, 1) := by decide +kernel
theorem dd_Model_mark_50 : decode prog_14_method_99_code 50 = .ok (.iastore, 1) := by decide +kernel
theorem dd_Model_mark_51 : decode prog_14_method_99_code 51 = .ok (.aload_n 0, 1) := by decide +kernel
theorem dd_Model_mark_52 : decode prog_14_method_99_code 52 = .ok (.dup, 1) := by decide +kernel
theorem dd_Model_mark_53 : decode prog_14_method_99_code 53 = .ok (.getfield 655, 3) := by decide +kernel
theorem dd_Model_mark_56 : decode prog_14_method_99_code 56 = .ok (.iconst 1, 1) := by decide +kernel
theorem dd_Model_mark_57 : decode prog_14_method_99_code 57 = .ok (.iadd, 1) := by decide +kernel
theorem dd_Model_mark_58 : decode prog_14_method_99_code 58 = .ok (.putfield 655, 3) := by decide +kernel
theorem dd_Model_mark_61 : decode prog_14_method_99_code 61 = .ok (.return_, 1) := by decide +kernel
