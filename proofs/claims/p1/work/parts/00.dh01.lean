theorem dd_House_feed_0 : decode prog_1_method_2_code 0 = .ok (.iload_n 1, 1) := by decide +kernel
theorem dd_House_feed_1 : decode prog_1_method_2_code 1 = .ok (.iconst 1, 1) := by decide +kernel
theorem dd_House_feed_2 : decode prog_1_method_2_code 2 = .ok (.if_icmp .lt 9, 3) := by decide +kernel
theorem dd_House_feed_5 : decode prog_1_method_2_code 5 = .ok (.iload_n 1, 1) := by decide +kernel
theorem dd_House_feed_6 : decode prog_1_method_2_code 6 = .ok (.bipush 8, 2) := by decide +kernel
theorem dd_House_feed_8 : decode prog_1_method_2_code 8 = .ok (.if_icmp .le 11, 3) := by decide +kernel
theorem dd_House_feed_11 : decode prog_1_method_2_code 11 = .ok (.new 54, 3) := by decide +kernel
theorem dd_House_feed_14 : decode prog_1_method_2_code 14 = .ok (.dup, 1) := by decide +kernel
theorem dd_House_feed_15 : decode prog_1_method_2_code 15 = .ok (.invokespecial 56, 3) := by decide +kernel
theorem dd_House_feed_18 : decode prog_1_method_2_code 18 = .ok (.athrow, 1) := by decide +kernel
theorem dd_House_feed_19 : decode prog_1_method_2_code 19 = .ok (.aload_n 0, 1) := by decide +kernel
theorem dd_House_feed_20 : decode prog_1_method_2_code 20 = .ok (.getfield 57, 3) := by decide +kernel
theorem dd_House_feed_23 : decode prog_1_method_2_code 23 = .ok (.iload_n 1, 1) := by decide +kernel
theorem dd_House_feed_24 : decode prog_1_method_2_code 24 = .ok (.iadd, 1) := by decide +kernel
theorem dd_House_feed_25 : decode prog_1_method_2_code 25 = .ok (.sipush 8192, 3) := by decide +kernel
theorem dd_House_feed_28 : decode prog_1_method_2_code 28 = .ok (.if_icmp .le 11, 3) := by decide +kernel
theorem dd_House_feed_31 : decode prog_1_method_2_code 31 = .ok (.new 61, 3) := by decide +kernel
theorem dd_House_feed_34 : decode prog_1_method_2_code 34 = .ok (.dup, 1) := by decide +kernel
theorem dd_House_feed_35 : decode prog_1_method_2_code 35 = .ok (.invokespecial 63, 3) := by decide +kernel
theorem dd_House_feed_38 : decode prog_1_method_2_code 38 = .ok (.athrow, 1) := by decide +kernel
theorem dd_House_feed_39 : decode prog_1_method_2_code 39 = .ok (.iconst 0, 1) := by decide +kernel
theorem dd_House_feed_40 : decode prog_1_method_2_code 40 = .ok (.istore 4, 2) := by decide +kernel
theorem dd_House_feed_42 : decode prog_1_method_2_code 42 = .ok (.iload 4, 2) := by decide +kernel
theorem dd_House_feed_44 : decode prog_1_method_2_code 44 = .ok (.iload_n 1, 1) := by decide +kernel
theorem dd_House_feed_45 : decode prog_1_method_2_code 45 = .ok (.if_icmp .ge 30, 3) := by decide +kernel
theorem dd_House_feed_48 : decode prog_1_method_2_code 48 = .ok (.aload_n 0, 1) := by decide +kernel
theorem dd_House_feed_49 : decode prog_1_method_2_code 49 = .ok (.getfield 9, 3) := by decide +kernel
theorem dd_House_feed_52 : decode prog_1_method_2_code 52 = .ok (.aload_n 0, 1) := by decide +kernel
theorem dd_House_feed_53 : decode prog_1_method_2_code 53 = .ok (.getfield 57, 3) := by decide +kernel
theorem dd_House_feed_56 : decode prog_1_method_2_code 56 = .ok (.iload 4, 2) := by decide +kernel
theorem dd_House_feed_58 : decode prog_1_method_2_code 58 = .ok (.iadd, 1) := by decide +kernel
theorem dd_House_feed_59 : decode prog_1_method_2_code 59 = .ok (.lload_n 2, 1) := by decide +kernel
theorem dd_House_feed_60 : decode prog_1_method_2_code 60 = .ok (.bipush 8, 2) := by decide +kernel
theorem dd_House_feed_62 : decode prog_1_method_2_code 62 = .ok (.iload 4, 2) := by decide +kernel
theorem dd_House_feed_64 : decode prog_1_method_2_code 64 = .ok (.imul, 1) := by decide +kernel
theorem dd_House_feed_65 : decode prog_1_method_2_code 65 = .ok (.lushr, 1) := by decide +kernel
theorem dd_House_feed_66 : decode prog_1_method_2_code 66 = .ok (.l2i, 1) := by decide +kernel
theorem dd_House_feed_67 : decode prog_1_method_2_code 67 = .ok (.i2b, 1) := by decide +kernel
theorem dd_House_feed_68 : decode prog_1_method_2_code 68 = .ok (.bastore, 1) := by decide +kernel
theorem dd_House_feed_69 : decode prog_1_method_2_code 69 = .ok (.iinc 4 1, 3) := by decide +kernel
theorem dd_House_feed_72 : decode prog_1_method_2_code 72 = .ok (.goto (-30), 3) := by decide +kernel
theorem dd_House_feed_75 : decode prog_1_method_2_code 75 = .ok (.aload_n 0, 1) := by decide +kernel
theorem dd_House_feed_76 : decode prog_1_method_2_code 76 = .ok (.dup, 1) := by decide +kernel
theorem dd_House_feed_77 : decode prog_1_method_2_code 77 = .ok (.getfield 57, 3) := by decide +kernel
theorem dd_House_feed_80 : decode prog_1_method_2_code 80 = .ok (.iload_n 1, 1) := by decide +kernel
theorem dd_House_feed_81 : decode prog_1_method_2_code 81 = .ok (.iadd, 1) := by decide +kernel
theorem dd_House_feed_82 : decode prog_1_method_2_code 82 = .ok (.putfield 57, 3) := by decide +kernel
theorem dd_House_feed_85 : decode prog_1_method_2_code 85 = .ok (.aload_n 0, 1) := by decide +kernel
theorem dd_House_feed_86 : decode prog_1_method_2_code 86 = .ok (.getfield 57, 3) := by decide +kernel
theorem dd_House_feed_89 : decode prog_1_method_2_code 89 = .ok (.ireturn, 1) := by decide +kernel
theorem dd_House_give_0 : decode prog_1_method_4_code 0 = .ok (.aload_n 0, 1) := by decide +kernel
theorem dd_House_give_1 : decode prog_1_method_4_code 1 = .ok (.getfield 119, 3) := by decide +kernel
theorem dd_House_give_4 : decode prog_1_method_4_code 4 = .ok (.bipush 16, 2) := by decide +kernel
theorem dd_House_give_6 : decode prog_1_method_4_code 6 = .ok (.if_icmp .ne 11, 3) := by decide +kernel
theorem dd_House_give_9 : decode prog_1_method_4_code 9 = .ok (.new 61, 3) := by decide +kernel
theorem dd_House_give_12 : decode prog_1_method_4_code 12 = .ok (.dup, 1) := by decide +kernel
theorem dd_House_give_13 : decode prog_1_method_4_code 13 = .ok (.invokespecial 63, 3) := by decide +kernel
theorem dd_House_give_16 : decode prog_1_method_4_code 16 = .ok (.athrow, 1) := by decide +kernel
theorem dd_House_give_17 : decode prog_1_method_4_code 17 = .ok (.aload_n 0, 1) := by decide +kernel
theorem dd_House_give_18 : decode prog_1_method_4_code 18 = .ok (.getfield 13, 3) := by decide +kernel
theorem dd_House_give_21 : decode prog_1_method_4_code 21 = .ok (.aload_n 0, 1) := by decide +kernel
theorem dd_House_give_22 : decode prog_1_method_4_code 22 = .ok (.getfield 119, 3) := by decide +kernel
theorem dd_House_give_25 : decode prog_1_method_4_code 25 = .ok (.lload_n 1, 1) := by decide +kernel
theorem dd_House_give_26 : decode prog_1_method_4_code 26 = .ok (.lastore, 1) := by decide +kernel
theorem dd_House_give_27 : decode prog_1_method_4_code 27 = .ok (.aload_n 0, 1) := by decide +kernel
theorem dd_House_give_28 : decode prog_1_method_4_code 28 = .ok (.dup, 1) := by decide +kernel
theorem dd_House_give_29 : decode prog_1_method_4_code 29 = .ok (.getfield 119, 3) := by decide +kernel
theorem dd_House_give_32 : decode prog_1_method_4_code 32 = .ok (.iconst 1, 1) := by decide +kernel
theorem dd_House_give_33 : decode prog_1_method_4_code 33 = .ok (.iadd, 1) := by decide +kernel
theorem dd_House_give_34 : decode prog_1_method_4_code 34 = .ok (.putfield 119, 3) := by decide +kernel
theorem dd_House_give_37 : decode prog_1_method_4_code 37 = .ok (.aload_n 0, 1) := by decide +kernel
theorem dd_House_give_38 : decode prog_1_method_4_code 38 = .ok (.getfield 119, 3) := by decide +kernel
theorem dd_House_give_41 : decode prog_1_method_4_code 41 = .ok (.ireturn, 1) := by decide +kernel
theorem dd_House_sameName_0 : decode prog_1_method_7_code 0 = .ok (.iconst 0, 1) := by decide +kernel
theorem dd_House_sameName_1 : decode prog_1_method_7_code 1 = .ok (.istore_n 3, 1) := by decide +kernel
theorem dd_House_sameName_2 : decode prog_1_method_7_code 2 = .ok (.iload_n 3, 1) := by decide +kernel
theorem dd_House_sameName_3 : decode prog_1_method_7_code 3 = .ok (.iload_n 2, 1) := by decide +kernel
theorem dd_House_sameName_4 : decode prog_1_method_7_code 4 = .ok (.if_icmp .ge 31, 3) := by decide +kernel
theorem dd_House_sameName_7 : decode prog_1_method_7_code 7 = .ok (.aload_n 0, 1) := by decide +kernel
theorem dd_House_sameName_8 : decode prog_1_method_7_code 8 = .ok (.getfield 23, 3) := by decide +kernel
theorem dd_House_sameName_11 : decode prog_1_method_7_code 11 = .ok (.getfield 156, 3) := by decide +kernel
theorem dd_House_sameName_14 : decode prog_1_method_7_code 14 = .ok (.iload_n 1, 1) := by decide +kernel
theorem dd_House_sameName_15 : decode prog_1_method_7_code 15 = .ok (.iload_n 3, 1) := by decide +kernel
theorem dd_House_sameName_16 : decode prog_1_method_7_code 16 = .ok (.iadd, 1) := by decide +kernel
theorem dd_House_sameName_17 : decode prog_1_method_7_code 17 = .ok (.baload, 1) := by decide +kernel
theorem dd_House_sameName_18 : decode prog_1_method_7_code 18 = .ok (.aload_n 0, 1) := by decide +kernel
theorem dd_House_sameName_19 : decode prog_1_method_7_code 19 = .ok (.getfield 9, 3) := by decide +kernel
theorem dd_House_sameName_22 : decode prog_1_method_7_code 22 = .ok (.iload_n 3, 1) := by decide +kernel
theorem dd_House_sameName_23 : decode prog_1_method_7_code 23 = .ok (.baload, 1) := by decide +kernel
theorem dd_House_sameName_24 : decode prog_1_method_7_code 24 = .ok (.if_icmp .eq 5, 3) := by decide +kernel
theorem dd_House_sameName_27 : decode prog_1_method_7_code 27 = .ok (.iconst 0, 1) := by decide +kernel
theorem dd_House_sameName_28 : decode prog_1_method_7_code 28 = .ok (.ireturn, 1) := by decide +kernel
theorem dd_House_sameName_29 : decode prog_1_method_7_code 29 = .ok (.iinc 3 1, 3) := by decide +kernel
theorem dd_House_sameName_32 : decode prog_1_method_7_code 32 = .ok (.goto (-30), 3) := by decide +kernel
theorem dd_House_sameName_35 : decode prog_1_method_7_code 35 = .ok (.iconst 1, 1) := by decide +kernel
theorem dd_House_sameName_36 : decode prog_1_method_7_code 36 = .ok (.ireturn, 1) := by decide +kernel
theorem dd_House_functionNamed_0 : decode prog_1_method_6_code 0 = .ok (.aload_n 0, 1) := by decide +kernel
theorem dd_House_functionNamed_1 : decode prog_1_method_6_code 1 = .ok (.getfield 23, 3) := by decide +kernel
theorem dd_House_functionNamed_4 : decode prog_1_method_6_code 4 = .ok (.getfield 141, 3) := by decide +kernel
theorem dd_House_functionNamed_7 : decode prog_1_method_6_code 7 = .ok (.astore_n 2, 1) := by decide +kernel
theorem dd_House_functionNamed_8 : decode prog_1_method_6_code 8 = .ok (.iconst 0, 1) := by decide +kernel
theorem dd_House_functionNamed_9 : decode prog_1_method_6_code 9 = .ok (.istore_n 3, 1) := by decide +kernel
theorem dd_House_functionNamed_10 : decode prog_1_method_6_code 10 = .ok (.iload_n 3, 1) := by decide +kernel
theorem dd_House_functionNamed_11 : decode prog_1_method_6_code 11 = .ok (.aload_n 2, 1) := by decide +kernel
theorem dd_House_functionNamed_12 : decode prog_1_method_6_code 12 = .ok (.getfield 87, 3) := by decide +kernel
theorem dd_House_functionNamed_15 : decode prog_1_method_6_code 15 = .ok (.if_icmp .ge 54, 3) := by decide +kernel
theorem dd_House_functionNamed_18 : decode prog_1_method_6_code 18 = .ok (.aload_n 2, 1) := by decide +kernel
theorem dd_House_functionNamed_19 : decode prog_1_method_6_code 19 = .ok (.getfield 144, 3) := by decide +kernel
theorem dd_House_functionNamed_22 : decode prog_1_method_6_code 22 = .ok (.iload_n 3, 1) := by decide +kernel
theorem dd_House_functionNamed_23 : decode prog_1_method_6_code 23 = .ok (.iaload, 1) := by decide +kernel
theorem dd_House_functionNamed_24 : decode prog_1_method_6_code 24 = .ok (.iload_n 1, 1) := by decide +kernel
theorem dd_House_functionNamed_25 : decode prog_1_method_6_code 25 = .ok (.if_icmp .ne 38, 3) := by decide +kernel
theorem dd_House_functionNamed_28 : decode prog_1_method_6_code 28 = .ok (.aload_n 0, 1) := by decide +kernel
theorem dd_House_functionNamed_29 : decode prog_1_method_6_code 29 = .ok (.aload_n 2, 1) := by decide +kernel
theorem dd_House_functionNamed_30 : decode prog_1_method_6_code 30 = .ok (.getfield 147, 3) := by decide +kernel
theorem dd_House_functionNamed_33 : decode prog_1_method_6_code 33 = .ok (.iload_n 3, 1) := by decide +kernel
theorem dd_House_functionNamed_34 : decode prog_1_method_6_code 34 = .ok (.iaload, 1) := by decide +kernel
theorem dd_House_functionNamed_35 : decode prog_1_method_6_code 35 = .ok (.iload_n 1, 1) := by decide +kernel
theorem dd_House_functionNamed_36 : decode prog_1_method_6_code 36 = .ok (.invokevirtual 150, 3) := by decide +kernel
theorem dd_House_functionNamed_39 : decode prog_1_method_6_code 39 = .ok (.ifCond .eq 24, 3) := by decide +kernel
theorem dd_House_functionNamed_42 : decode prog_1_method_6_code 42 = .ok (.aload_n 2, 1) := by decide +kernel
theorem dd_House_functionNamed_43 : decode prog_1_method_6_code 43 = .ok (.getfield 126, 3) := by decide +kernel
theorem dd_House_functionNamed_46 : decode prog_1_method_6_code 46 = .ok (.iload_n 3, 1) := by decide +kernel
theorem dd_House_functionNamed_47 : decode prog_1_method_6_code 47 = .ok (.iaload, 1) := by decide +kernel
theorem dd_House_functionNamed_48 : decode prog_1_method_6_code 48 = .ok (.ifCond .ne 13, 3) := by decide +kernel
theorem dd_House_functionNamed_51 : decode prog_1_method_6_code 51 = .ok (.aload_n 2, 1) := by decide +kernel
theorem dd_House_functionNamed_52 : decode prog_1_method_6_code 52 = .ok (.getfield 153, 3) := by decide +kernel
theorem dd_House_functionNamed_55 : decode prog_1_method_6_code 55 = .ok (.iload_n 3, 1) := by decide +kernel
theorem dd_House_functionNamed_56 : decode prog_1_method_6_code 56 = .ok (.laload, 1) := by decide +kernel
theorem dd_House_functionNamed_57 : decode prog_1_method_6_code 57 = .ok (.l2i, 1) := by decide +kernel
theorem dd_House_functionNamed_58 : decode prog_1_method_6_code 58 = .ok (.goto 4, 3) := by decide +kernel
theorem dd_House_functionNamed_61 : decode prog_1_method_6_code 61 = .ok (.iconst (-1), 1) := by decide +kernel
theorem dd_House_functionNamed_62 : decode prog_1_method_6_code 62 = .ok (.ireturn, 1) := by decide +kernel
theorem dd_House_functionNamed_63 : decode prog_1_method_6_code 63 = .ok (.iinc 3 1, 3) := by decide +kernel
theorem dd_House_functionNamed_66 : decode prog_1_method_6_code 66 = .ok (.goto (-56), 3) := by decide +kernel
theorem dd_House_functionNamed_69 : decode prog_1_method_6_code 69 = .ok (.iconst (-1), 1) := by decide +kernel
theorem dd_House_functionNamed_70 : decode prog_1_method_6_code 70 = .ok (.ireturn, 1) := by decide +kernel
theorem dd_Types_member_0 : decode prog_11_method_10_code 0 = .ok (.aload_n 0, 1) := by decide +kernel
theorem dd_Types_member_1 : decode prog_11_method_10_code 1 = .ok (.getfield 24, 3) := by decide +kernel
theorem dd_Types_member_4 : decode prog_11_method_10_code 4 = .ok (.bipush 34, 2) := by decide +kernel
theorem dd_Types_member_6 : decode prog_11_method_10_code 6 = .ok (.iload_n 1, 1) := by decide +kernel
theorem dd_Types_member_7 : decode prog_11_method_10_code 7 = .ok (.imul, 1) := by decide +kernel
theorem dd_Types_member_8 : decode prog_11_method_10_code 8 = .ok (.iload_n 2, 1) := by decide +kernel
theorem dd_Types_member_9 : decode prog_11_method_10_code 9 = .ok (.iadd, 1) := by decide +kernel
theorem dd_Types_member_10 : decode prog_11_method_10_code 10 = .ok (.iaload, 1) := by decide +kernel
theorem dd_Types_member_11 : decode prog_11_method_10_code 11 = .ok (.ireturn, 1) := by decide +kernel
theorem dd_Types_isReference_0 : decode prog_11_method_3_code 0 = .ok (.iload_n 0, 1) := by decide +kernel
theorem dd_Types_isReference_1 : decode prog_11_method_3_code 1 = .ok (.bipush 16, 2) := by decide +kernel
theorem dd_Types_isReference_3 : decode prog_11_method_3_code 3 = .ok (.if_icmp .lt 7, 3) := by decide +kernel
theorem dd_Types_isReference_6 : decode prog_11_method_3_code 6 = .ok (.iconst 1, 1) := by decide +kernel
theorem dd_Types_isReference_7 : decode prog_11_method_3_code 7 = .ok (.goto 4, 3) := by decide +kernel
theorem dd_Types_isReference_10 : decode prog_11_method_3_code 10 = .ok (.iconst 0, 1) := by decide +kernel
theorem dd_Types_isReference_11 : decode prog_11_method_3_code 11 = .ok (.ireturn, 1) := by decide +kernel
theorem dd_House_takes_0 : decode prog_1_method_8_code 0 = .ok (.aload_n 0, 1) := by decide +kernel
theorem dd_House_takes_1 : decode prog_1_method_8_code 1 = .ok (.getfield 23, 3) := by decide +kernel
theorem dd_House_takes_4 : decode prog_1_method_8_code 4 = .ok (.getfield 159, 3) := by decide +kernel
theorem dd_House_takes_7 : decode prog_1_method_8_code 7 = .ok (.getfield 163, 3) := by decide +kernel
theorem dd_House_takes_10 : decode prog_1_method_8_code 10 = .ok (.iload_n 1, 1) := by decide +kernel
theorem dd_House_takes_11 : decode prog_1_method_8_code 11 = .ok (.iaload, 1) := by decide +kernel
theorem dd_House_takes_12 : decode prog_1_method_8_code 12 = .ok (.iload_n 2, 1) := by decide +kernel
theorem dd_House_takes_13 : decode prog_1_method_8_code 13 = .ok (.if_icmp .eq 5, 3) := by decide +kernel
theorem dd_House_takes_16 : decode prog_1_method_8_code 16 = .ok (.iconst 0, 1) := by decide +kernel
theorem dd_House_takes_17 : decode prog_1_method_8_code 17 = .ok (.ireturn, 1) := by decide +kernel
theorem dd_House_takes_18 : decode prog_1_method_8_code 18 = .ok (.iconst 0, 1) := by decide +kernel
theorem dd_House_takes_19 : decode prog_1_method_8_code 19 = .ok (.istore_n 3, 1) := by decide +kernel
theorem dd_House_takes_20 : decode prog_1_method_8_code 20 = .ok (.iload_n 3, 1) := by decide +kernel
theorem dd_House_takes_21 : decode prog_1_method_8_code 21 = .ok (.iload_n 2, 1) := by decide +kernel
theorem dd_House_takes_22 : decode prog_1_method_8_code 22 = .ok (.if_icmp .ge 29, 3) := by decide +kernel
theorem dd_House_takes_25 : decode prog_1_method_8_code 25 = .ok (.aload_n 0, 1) := by decide +kernel
theorem dd_House_takes_26 : decode prog_1_method_8_code 26 = .ok (.getfield 23, 3) := by decide +kernel
theorem dd_House_takes_29 : decode prog_1_method_8_code 29 = .ok (.getfield 159, 3) := by decide +kernel
theorem dd_House_takes_32 : decode prog_1_method_8_code 32 = .ok (.iload_n 1, 1) := by decide +kernel
theorem dd_House_takes_33 : decode prog_1_method_8_code 33 = .ok (.iload_n 3, 1) := by decide +kernel
theorem dd_House_takes_34 : decode prog_1_method_8_code 34 = .ok (.invokevirtual 168, 3) := by decide +kernel
theorem dd_House_takes_37 : decode prog_1_method_8_code 37 = .ok (.invokestatic 171, 3) := by decide +kernel
theorem dd_House_takes_40 : decode prog_1_method_8_code 40 = .ok (.ifCond .eq 5, 3) := by decide +kernel
theorem dd_House_takes_43 : decode prog_1_method_8_code 43 = .ok (.iconst 0, 1) := by decide +kernel
theorem dd_House_takes_44 : decode prog_1_method_8_code 44 = .ok (.ireturn, 1) := by decide +kernel
theorem dd_House_takes_45 : decode prog_1_method_8_code 45 = .ok (.iinc 3 1, 3) := by decide +kernel
theorem dd_House_takes_48 : decode prog_1_method_8_code 48 = .ok (.goto (-28), 3) := by decide +kernel
theorem dd_House_takes_51 : decode prog_1_method_8_code 51 = .ok (.iconst 1, 1) := by decide +kernel
theorem dd_House_takes_52 : decode prog_1_method_8_code 52 = .ok (.ireturn, 1) := by decide +kernel
theorem dd_Values_push_0 : decode prog_12_method_2_code 0 = .ok (.aload_n 0, 1) := by decide +kernel
theorem dd_Values_push_1 : decode prog_12_method_2_code 1 = .ok (.getfield 7, 3) := by decide +kernel
theorem dd_Values_push_4 : decode prog_12_method_2_code 4 = .ok (.aload_n 0, 1) := by decide +kernel
theorem dd_Values_push_5 : decode prog_12_method_2_code 5 = .ok (.getfield 17, 3) := by decide +kernel
theorem dd_Values_push_8 : decode prog_12_method_2_code 8 = .ok (.lload_n 1, 1) := by decide +kernel
theorem dd_Values_push_9 : decode prog_12_method_2_code 9 = .ok (.lastore, 1) := by decide +kernel
theorem dd_Values_push_10 : decode prog_12_method_2_code 10 = .ok (.aload_n 0, 1) := by decide +kernel
theorem dd_Values_push_11 : decode prog_12_method_2_code 11 = .ok (.getfield 13, 3) := by decide +kernel
theorem dd_Values_push_14 : decode prog_12_method_2_code 14 = .ok (.aload_n 0, 1) := by decide +kernel
theorem dd_Values_push_15 : decode prog_12_method_2_code 15 = .ok (.getfield 17, 3) := by decide +kernel
theorem dd_Values_push_18 : decode prog_12_method_2_code 18 = .ok (.iconst 0, 1) := by decide +kernel
theorem dd_Values_push_19 : decode prog_12_method_2_code 19 = .ok (.bastore, 1) := by decide +kernel
theorem dd_Values_push_20 : decode prog_12_method_2_code 20 = .ok (.aload_n 0, 1) := by decide +kernel
theorem dd_Values_push_21 : decode prog_12_method_2_code 21 = .ok (.dup, 1) := by decide +kernel
theorem dd_Values_push_22 : decode prog_12_method_2_code 22 = .ok (.getfield 17, 3) := by decide +kernel
theorem dd_Values_push_25 : decode prog_12_method_2_code 25 = .ok (.iconst 1, 1) := by decide +kernel
theorem dd_Values_push_26 : decode prog_12_method_2_code 26 = .ok (.iadd, 1) := by decide +kernel
theorem dd_Values_push_27 : decode prog_12_method_2_code 27 = .ok (.putfield 17, 3) := by decide +kernel
theorem dd_Values_push_30 : decode prog_12_method_2_code 30 = .ok (.return_, 1) := by decide +kernel
theorem dd_House_layArguments_0 : decode prog_1_method_9_code 0 = .ok (.iconst 0, 1) := by decide +kernel
theorem dd_House_layArguments_1 : decode prog_1_method_9_code 1 = .ok (.istore_n 3, 1) := by decide +kernel
theorem dd_House_layArguments_2 : decode prog_1_method_9_code 2 = .ok (.iload_n 3, 1) := by decide +kernel
theorem dd_House_layArguments_3 : decode prog_1_method_9_code 3 = .ok (.iload_n 2, 1) := by decide +kernel
theorem dd_House_layArguments_4 : decode prog_1_method_9_code 4 = .ok (.if_icmp .ge 64, 3) := by decide +kernel
theorem dd_House_layArguments_7 : decode prog_1_method_9_code 7 = .ok (.aload_n 0, 1) := by decide +kernel
theorem dd_House_layArguments_8 : decode prog_1_method_9_code 8 = .ok (.getfield 23, 3) := by decide +kernel
theorem dd_House_layArguments_11 : decode prog_1_method_9_code 11 = .ok (.getfield 159, 3) := by decide +kernel
theorem dd_House_layArguments_14 : decode prog_1_method_9_code 14 = .ok (.iload_n 1, 1) := by decide +kernel
theorem dd_House_layArguments_15 : decode prog_1_method_9_code 15 = .ok (.iload_n 3, 1) := by decide +kernel
theorem dd_House_layArguments_16 : decode prog_1_method_9_code 16 = .ok (.invokevirtual 168, 3) := by decide +kernel
theorem dd_House_layArguments_19 : decode prog_1_method_9_code 19 = .ok (.iconst 1, 1) := by decide +kernel
theorem dd_House_layArguments_20 : decode prog_1_method_9_code 20 = .ok (.if_icmp .ne 7, 3) := by decide +kernel
theorem dd_House_layArguments_23 : decode prog_1_method_9_code 23 = .ok (.iconst 1, 1) := by decide +kernel
theorem dd_House_layArguments_24 : decode prog_1_method_9_code 24 = .ok (.goto 4, 3) := by decide +kernel
theorem dd_House_layArguments_27 : decode prog_1_method_9_code 27 = .ok (.iconst 0, 1) := by decide +kernel
theorem dd_House_layArguments_28 : decode prog_1_method_9_code 28 = .ok (.istore 4, 2) := by decide +kernel
theorem dd_House_layArguments_30 : decode prog_1_method_9_code 30 = .ok (.aload_n 0, 1) := by decide +kernel
theorem dd_House_layArguments_31 : decode prog_1_method_9_code 31 = .ok (.getfield 46, 3) := by decide +kernel
theorem dd_House_layArguments_34 : decode prog_1_method_9_code 34 = .ok (.getfield 110, 3) := by decide +kernel
theorem dd_House_layArguments_37 : decode prog_1_method_9_code 37 = .ok (.iload 4, 2) := by decide +kernel
theorem dd_House_layArguments_39 : decode prog_1_method_9_code 39 = .ok (.ifCond .eq 14, 3) := by decide +kernel
theorem dd_House_layArguments_42 : decode prog_1_method_9_code 42 = .ok (.aload_n 0, 1) := by decide +kernel
theorem dd_House_layArguments_43 : decode prog_1_method_9_code 43 = .ok (.getfield 13, 3) := by decide +kernel
theorem dd_House_layArguments_46 : decode prog_1_method_9_code 46 = .ok (.iload_n 3, 1) := by decide +kernel
theorem dd_House_layArguments_47 : decode prog_1_method_9_code 47 = .ok (.laload, 1) := by decide +kernel
theorem dd_House_layArguments_48 : decode prog_1_method_9_code 48 = .ok (.l2i, 1) := by decide +kernel
theorem dd_House_layArguments_49 : decode prog_1_method_9_code 49 = .ok (.i2l, 1) := by decide +kernel
theorem dd_House_layArguments_50 : decode prog_1_method_9_code 50 = .ok (.goto 9, 3) := by decide +kernel
theorem dd_House_layArguments_53 : decode prog_1_method_9_code 53 = .ok (.aload_n 0, 1) := by decide +kernel
theorem dd_House_layArguments_54 : decode prog_1_method_9_code 54 = .ok (.getfield 13, 3) := by decide +kernel
theorem dd_House_layArguments_57 : decode prog_1_method_9_code 57 = .ok (.iload_n 3, 1) := by decide +kernel
theorem dd_House_layArguments_58 : decode prog_1_method_9_code 58 = .ok (.laload, 1) := by decide +kernel
theorem dd_House_layArguments_59 : decode prog_1_method_9_code 59 = .ok (.invokevirtual 175, 3) := by decide +kernel
theorem dd_House_layArguments_62 : decode prog_1_method_9_code 62 = .ok (.iinc 3 1, 3) := by decide +kernel
theorem dd_House_layArguments_65 : decode prog_1_method_9_code 65 = .ok (.goto (-63), 3) := by decide +kernel
theorem dd_House_layArguments_68 : decode prog_1_method_9_code 68 = .ok (.return_, 1) := by decide +kernel
theorem dd_Machine_spendTurn_0 : decode prog_5_method_8_code 0 = .ok (.aload_n 0, 1) := by decide +kernel
theorem dd_Machine_spendTurn_1 : decode prog_5_method_8_code 1 = .ok (.getfield 160, 3) := by decide +kernel
theorem dd_Machine_spendTurn_4 : decode prog_5_method_8_code 4 = .ok (.ifCond .ne 11, 3) := by decide +kernel
theorem dd_Machine_spendTurn_7 : decode prog_5_method_8_code 7 = .ok (.aload_n 0, 1) := by decide +kernel
theorem dd_Machine_spendTurn_8 : decode prog_5_method_8_code 8 = .ok (.bipush 13, 2) := by decide +kernel
theorem dd_Machine_spendTurn_10 : decode prog_5_method_8_code 10 = .ok (.putfield 163, 3) := by decide +kernel
theorem dd_Machine_spendTurn_13 : decode prog_5_method_8_code 13 = .ok (.iconst 0, 1) := by decide +kernel
theorem dd_Machine_spendTurn_14 : decode prog_5_method_8_code 14 = .ok (.ireturn, 1) := by decide +kernel
theorem dd_Machine_spendTurn_15 : decode prog_5_method_8_code 15 = .ok (.aload_n 0, 1) := by decide +kernel
theorem dd_Machine_spendTurn_16 : decode prog_5_method_8_code 16 = .ok (.dup, 1) := by decide +kernel
theorem dd_Machine_spendTurn_17 : decode prog_5_method_8_code 17 = .ok (.getfield 160, 3) := by decide +kernel
theorem dd_Machine_spendTurn_20 : decode prog_5_method_8_code 20 = .ok (.iconst 1, 1) := by decide +kernel
theorem dd_Machine_spendTurn_21 : decode prog_5_method_8_code 21 = .ok (.isub, 1) := by decide +kernel
theorem dd_Machine_spendTurn_22 : decode prog_5_method_8_code 22 = .ok (.putfield 160, 3) := by decide +kernel
theorem dd_Machine_spendTurn_25 : decode prog_5_method_8_code 25 = .ok (.iconst 1, 1) := by decide +kernel
theorem dd_Machine_spendTurn_26 : decode prog_5_method_8_code 26 = .ok (.ireturn, 1) := by decide +kernel
theorem dd_Machine_enter_0 : decode prog_5_method_9_code 0 = .ok (.aload_n 0, 1) := by decide +kernel
theorem dd_Machine_enter_1 : decode prog_5_method_9_code 1 = .ok (.invokevirtual 213, 3) := by decide +kernel
theorem dd_Machine_enter_4 : decode prog_5_method_9_code 4 = .ok (.ifCond .ne 4, 3) := by decide +kernel
theorem dd_Machine_enter_7 : decode prog_5_method_9_code 7 = .ok (.return_, 1) := by decide +kernel
theorem dd_Machine_enter_8 : decode prog_5_method_9_code 8 = .ok (.aload_n 0, 1) := by decide +kernel
theorem dd_Machine_enter_9 : decode prog_5_method_9_code 9 = .ok (.getfield 166, 3) := by decide +kernel
theorem dd_Machine_enter_12 : decode prog_5_method_9_code 12 = .ok (.bipush 60, 2) := by decide +kernel
theorem dd_Machine_enter_14 : decode prog_5_method_9_code 14 = .ok (.if_icmp .ne 10, 3) := by decide +kernel
theorem dd_Machine_enter_17 : decode prog_5_method_9_code 17 = .ok (.aload_n 0, 1) := by decide +kernel
theorem dd_Machine_enter_18 : decode prog_5_method_9_code 18 = .ok (.bipush 12, 2) := by decide +kernel
theorem dd_Machine_enter_20 : decode prog_5_method_9_code 20 = .ok (.putfield 163, 3) := by decide +kernel
theorem dd_Machine_enter_23 : decode prog_5_method_9_code 23 = .ok (.return_, 1) := by decide +kernel
theorem dd_Machine_enter_24 : decode prog_5_method_9_code 24 = .ok (.aload_n 0, 1) := by decide +kernel
theorem dd_Machine_enter_25 : decode prog_5_method_9_code 25 = .ok (.getfield 41, 3) := by decide +kernel
theorem dd_Machine_enter_28 : decode prog_5_method_9_code 28 = .ok (.aload_n 0, 1) := by decide +kernel
theorem dd_Machine_enter_29 : decode prog_5_method_9_code 29 = .ok (.getfield 166, 3) := by decide +kernel
theorem dd_Machine_enter_32 : decode prog_5_method_9_code 32 = .ok (.iload_n 1, 1) := by decide +kernel
theorem dd_Machine_enter_33 : decode prog_5_method_9_code 33 = .ok (.iastore, 1) := by decide +kernel
theorem dd_Machine_enter_34 : decode prog_5_method_9_code 34 = .ok (.aload_n 0, 1) := by decide +kernel
theorem dd_Machine_enter_35 : decode prog_5_method_9_code 35 = .ok (.getfield 44, 3) := by decide +kernel
theorem dd_Machine_enter_38 : decode prog_5_method_9_code 38 = .ok (.aload_n 0, 1) := by decide +kernel
theorem dd_Machine_enter_39 : decode prog_5_method_9_code 39 = .ok (.getfield 166, 3) := by decide +kernel
theorem dd_Machine_enter_42 : decode prog_5_method_9_code 42 = .ok (.aload_n 0, 1) := by decide +kernel
theorem dd_Machine_enter_43 : decode prog_5_method_9_code 43 = .ok (.getfield 14, 3) := by decide +kernel
theorem dd_Machine_enter_46 : decode prog_5_method_9_code 46 = .ok (.getfield 66, 3) := by decide +kernel
theorem dd_Machine_enter_49 : decode prog_5_method_9_code 49 = .ok (.aload_n 0, 1) := by decide +kernel
theorem dd_Machine_enter_50 : decode prog_5_method_9_code 50 = .ok (.getfield 60, 3) := by decide +kernel
theorem dd_Machine_enter_53 : decode prog_5_method_9_code 53 = .ok (.getfield 217, 3) := by decide +kernel
theorem dd_Machine_enter_56 : decode prog_5_method_9_code 56 = .ok (.aload_n 0, 1) := by decide +kernel
theorem dd_Machine_enter_57 : decode prog_5_method_9_code 57 = .ok (.getfield 50, 3) := by decide +kernel
theorem dd_Machine_enter_60 : decode prog_5_method_9_code 60 = .ok (.getfield 220, 3) := by decide +kernel
theorem dd_Machine_enter_63 : decode prog_5_method_9_code 63 = .ok (.getfield 82, 3) := by decide +kernel
theorem dd_Machine_enter_66 : decode prog_5_method_9_code 66 = .ok (.iload_n 1, 1) := by decide +kernel
theorem dd_Machine_enter_67 : decode prog_5_method_9_code 67 = .ok (.iaload, 1) := by decide +kernel
theorem dd_Machine_enter_68 : decode prog_5_method_9_code 68 = .ok (.iaload, 1) := by decide +kernel
theorem dd_Machine_enter_69 : decode prog_5_method_9_code 69 = .ok (.isub, 1) := by decide +kernel
theorem dd_Machine_enter_70 : decode prog_5_method_9_code 70 = .ok (.iastore, 1) := by decide +kernel
theorem dd_Machine_enter_71 : decode prog_5_method_9_code 71 = .ok (.aload_n 0, 1) := by decide +kernel
theorem dd_Machine_enter_72 : decode prog_5_method_9_code 72 = .ok (.getfield 47, 3) := by decide +kernel
theorem dd_Machine_enter_75 : decode prog_5_method_9_code 75 = .ok (.aload_n 0, 1) := by decide +kernel
theorem dd_Machine_enter_76 : decode prog_5_method_9_code 76 = .ok (.getfield 166, 3) := by decide +kernel
theorem dd_Machine_enter_79 : decode prog_5_method_9_code 79 = .ok (.aload_n 0, 1) := by decide +kernel
theorem dd_Machine_enter_80 : decode prog_5_method_9_code 80 = .ok (.getfield 174, 3) := by decide +kernel
theorem dd_Machine_enter_83 : decode prog_5_method_9_code 83 = .ok (.iastore, 1) := by decide +kernel
theorem dd_Machine_enter_84 : decode prog_5_method_9_code 84 = .ok (.aload_n 0, 1) := by decide +kernel
theorem dd_Machine_enter_85 : decode prog_5_method_9_code 85 = .ok (.aload_n 0, 1) := by decide +kernel
theorem dd_Machine_enter_86 : decode prog_5_method_9_code 86 = .ok (.getfield 44, 3) := by decide +kernel
theorem dd_Machine_enter_89 : decode prog_5_method_9_code 89 = .ok (.aload_n 0, 1) := by decide +kernel
theorem dd_Machine_enter_90 : decode prog_5_method_9_code 90 = .ok (.getfield 166, 3) := by decide +kernel
theorem dd_Machine_enter_93 : decode prog_5_method_9_code 93 = .ok (.iaload, 1) := by decide +kernel
theorem dd_Machine_enter_94 : decode prog_5_method_9_code 94 = .ok (.aload_n 0, 1) := by decide +kernel
theorem dd_Machine_enter_95 : decode prog_5_method_9_code 95 = .ok (.getfield 50, 3) := by decide +kernel
theorem dd_Machine_enter_98 : decode prog_5_method_9_code 98 = .ok (.getfield 220, 3) := by decide +kernel
theorem dd_Machine_enter_101 : decode prog_5_method_9_code 101 = .ok (.getfield 114, 3) := by decide +kernel
theorem dd_Machine_enter_104 : decode prog_5_method_9_code 104 = .ok (.iload_n 1, 1) := by decide +kernel
theorem dd_Machine_enter_105 : decode prog_5_method_9_code 105 = .ok (.iaload, 1) := by decide +kernel
theorem dd_Machine_enter_106 : decode prog_5_method_9_code 106 = .ok (.iadd, 1) := by decide +kernel
theorem dd_Machine_enter_107 : decode prog_5_method_9_code 107 = .ok (.putfield 223, 3) := by decide +kernel
theorem dd_Machine_enter_110 : decode prog_5_method_9_code 110 = .ok (.aload_n 0, 1) := by decide +kernel
theorem dd_Machine_enter_111 : decode prog_5_method_9_code 111 = .ok (.aload_n 0, 1) := by decide +kernel
theorem dd_Machine_enter_112 : decode prog_5_method_9_code 112 = .ok (.getfield 50, 3) := by decide +kernel
theorem dd_Machine_enter_115 : decode prog_5_method_9_code 115 = .ok (.getfield 220, 3) := by decide +kernel
theorem dd_Machine_enter_118 : decode prog_5_method_9_code 118 = .ok (.getfield 111, 3) := by decide +kernel
theorem dd_Machine_enter_121 : decode prog_5_method_9_code 121 = .ok (.iload_n 1, 1) := by decide +kernel
theorem dd_Machine_enter_122 : decode prog_5_method_9_code 122 = .ok (.iaload, 1) := by decide +kernel
theorem dd_Machine_enter_123 : decode prog_5_method_9_code 123 = .ok (.iconst 1, 1) := by decide +kernel
theorem dd_Machine_enter_124 : decode prog_5_method_9_code 124 = .ok (.iadd, 1) := by decide +kernel
theorem dd_Machine_enter_125 : decode prog_5_method_9_code 125 = .ok (.putfield 174, 3) := by decide +kernel
theorem dd_Machine_enter_128 : decode prog_5_method_9_code 128 = .ok (.aload_n 0, 1) := by decide +kernel
theorem dd_Machine_enter_129 : decode prog_5_method_9_code 129 = .ok (.dup, 1) := by decide +kernel
theorem dd_Machine_enter_130 : decode prog_5_method_9_code 130 = .ok (.getfield 166, 3) := by decide +kernel
theorem dd_Machine_enter_133 : decode prog_5_method_9_code 133 = .ok (.iconst 1, 1) := by decide +kernel
theorem dd_Machine_enter_134 : decode prog_5_method_9_code 134 = .ok (.iadd, 1) := by decide +kernel
theorem dd_Machine_enter_135 : decode prog_5_method_9_code 135 = .ok (.putfield 166, 3) := by decide +kernel
theorem dd_Machine_enter_138 : decode prog_5_method_9_code 138 = .ok (.return_, 1) := by decide +kernel
theorem dd_Machine_isOf_0 : decode prog_5_method_32_code 0 = .ok (.iload_n 2, 1) := by decide +kernel
theorem dd_Machine_isOf_1 : decode prog_5_method_32_code 1 = .ok (.ifCond .ne 5, 3) := by decide +kernel
theorem dd_Machine_isOf_4 : decode prog_5_method_32_code 4 = .ok (.iconst 1, 1) := by decide +kernel
theorem dd_Machine_isOf_5 : decode prog_5_method_32_code 5 = .ok (.ireturn, 1) := by decide +kernel
theorem dd_Machine_isOf_6 : decode prog_5_method_32_code 6 = .ok (.iload_n 2, 1) := by decide +kernel
theorem dd_Machine_isOf_7 : decode prog_5_method_32_code 7 = .ok (.iconst 1, 1) := by decide +kernel
theorem dd_Machine_isOf_8 : decode prog_5_method_32_code 8 = .ok (.if_icmp .ne 13, 3) := by decide +kernel
theorem dd_Machine_isOf_11 : decode prog_5_method_32_code 11 = .ok (.iload_n 1, 1) := by decide +kernel
theorem dd_Machine_isOf_12 : decode prog_5_method_32_code 12 = .ok (.ifCond .ge 7, 3) := by decide +kernel
theorem dd_Machine_isOf_15 : decode prog_5_method_32_code 15 = .ok (.iconst 1, 1) := by decide +kernel
theorem dd_Machine_isOf_16 : decode prog_5_method_32_code 16 = .ok (.goto 4, 3) := by decide +kernel
theorem dd_Machine_isOf_19 : decode prog_5_method_32_code 19 = .ok (.iconst 0, 1) := by decide +kernel
theorem dd_Machine_isOf_20 : decode prog_5_method_32_code 20 = .ok (.ireturn, 1) := by decide +kernel
theorem dd_Machine_isOf_21 : decode prog_5_method_32_code 21 = .ok (.iload_n 1, 1) := by decide +kernel
theorem dd_Machine_isOf_22 : decode prog_5_method_32_code 22 = .ok (.ifCond .le 30, 3) := by decide +kernel
theorem dd_Machine_isOf_25 : decode prog_5_method_32_code 25 = .ok (.aload_n 0, 1) := by decide +kernel
theorem dd_Machine_isOf_26 : decode prog_5_method_32_code 26 = .ok (.getfield 26, 3) := by decide +kernel
theorem dd_Machine_isOf_29 : decode prog_5_method_32_code 29 = .ok (.getfield 397, 3) := by decide +kernel
theorem dd_Machine_isOf_32 : decode prog_5_method_32_code 32 = .ok (.iload_n 1, 1) := by decide +kernel
theorem dd_Machine_isOf_33 : decode prog_5_method_32_code 33 = .ok (.iaload, 1) := by decide +kernel
theorem dd_Machine_isOf_34 : decode prog_5_method_32_code 34 = .ok (.aload_n 0, 1) := by decide +kernel
theorem dd_Machine_isOf_35 : decode prog_5_method_32_code 35 = .ok (.getfield 60, 3) := by decide +kernel
theorem dd_Machine_isOf_38 : decode prog_5_method_32_code 38 = .ok (.getfield 274, 3) := by decide +kernel
theorem dd_Machine_isOf_41 : decode prog_5_method_32_code 41 = .ok (.iload_n 2, 1) := by decide +kernel
theorem dd_Machine_isOf_42 : decode prog_5_method_32_code 42 = .ok (.iconst 3, 1) := by decide +kernel
theorem dd_Machine_isOf_43 : decode prog_5_method_32_code 43 = .ok (.isub, 1) := by decide +kernel
theorem dd_Machine_isOf_44 : decode prog_5_method_32_code 44 = .ok (.iaload, 1) := by decide +kernel
theorem dd_Machine_isOf_45 : decode prog_5_method_32_code 45 = .ok (.if_icmp .ne 7, 3) := by decide +kernel
theorem dd_Machine_isOf_48 : decode prog_5_method_32_code 48 = .ok (.iconst 1, 1) := by decide +kernel
theorem dd_Machine_isOf_49 : decode prog_5_method_32_code 49 = .ok (.goto 4, 3) := by decide +kernel
theorem dd_Machine_isOf_52 : decode prog_5_method_32_code 52 = .ok (.iconst 0, 1) := by decide +kernel
theorem dd_Machine_isOf_53 : decode prog_5_method_32_code 53 = .ok (.ireturn, 1) := by decide +kernel
theorem dd_Values_pushTruth_0 : decode prog_12_method_3_code 0 = .ok (.aload_n 0, 1) := by decide +kernel
theorem dd_Values_pushTruth_1 : decode prog_12_method_3_code 1 = .ok (.iload_n 1, 1) := by decide +kernel
theorem dd_Values_pushTruth_2 : decode prog_12_method_3_code 2 = .ok (.ifCond .eq 7, 3) := by decide +kernel
theorem dd_Values_pushTruth_5 : decode prog_12_method_3_code 5 = .ok (.lconst 1, 1) := by decide +kernel
theorem dd_Values_pushTruth_6 : decode prog_12_method_3_code 6 = .ok (.goto 4, 3) := by decide +kernel
theorem dd_Values_pushTruth_9 : decode prog_12_method_3_code 9 = .ok (.lconst 0, 1) := by decide +kernel
theorem dd_Values_pushTruth_10 : decode prog_12_method_3_code 10 = .ok (.invokevirtual 21, 3) := by decide +kernel
theorem dd_Values_pushTruth_13 : decode prog_12_method_3_code 13 = .ok (.return_, 1) := by decide +kernel
theorem dd_Values_pushReference_0 : decode prog_12_method_4_code 0 = .ok (.aload_n 0, 1) := by decide +kernel
theorem dd_Values_pushReference_1 : decode prog_12_method_4_code 1 = .ok (.getfield 7, 3) := by decide +kernel
theorem dd_Values_pushReference_4 : decode prog_12_method_4_code 4 = .ok (.aload_n 0, 1) := by decide +kernel
theorem dd_Values_pushReference_5 : decode prog_12_method_4_code 5 = .ok (.getfield 17, 3) := by decide +kernel
theorem dd_Values_pushReference_8 : decode prog_12_method_4_code 8 = .ok (.lload_n 1, 1) := by decide +kernel
theorem dd_Values_pushReference_9 : decode prog_12_method_4_code 9 = .ok (.lastore, 1) := by decide +kernel
theorem dd_Values_pushReference_10 : decode prog_12_method_4_code 10 = .ok (.aload_n 0, 1) := by decide +kernel
theorem dd_Values_pushReference_11 : decode prog_12_method_4_code 11 = .ok (.getfield 13, 3) := by decide +kernel
theorem dd_Values_pushReference_14 : decode prog_12_method_4_code 14 = .ok (.aload_n 0, 1) := by decide +kernel
theorem dd_Values_pushReference_15 : decode prog_12_method_4_code 15 = .ok (.getfield 17, 3) := by decide +kernel
theorem dd_Values_pushReference_18 : decode prog_12_method_4_code 18 = .ok (.iconst 1, 1) := by decide +kernel
theorem dd_Values_pushReference_19 : decode prog_12_method_4_code 19 = .ok (.bastore, 1) := by decide +kernel
theorem dd_Values_pushReference_20 : decode prog_12_method_4_code 20 = .ok (.aload_n 0, 1) := by decide +kernel
theorem dd_Values_pushReference_21 : decode prog_12_method_4_code 21 = .ok (.dup, 1) := by decide +kernel
theorem dd_Values_pushReference_22 : decode prog_12_method_4_code 22 = .ok (.getfield 17, 3) := by decide +kernel
theorem dd_Values_pushReference_25 : decode prog_12_method_4_code 25 = .ok (.iconst 1, 1) := by decide +kernel
theorem dd_Values_pushReference_26 : decode prog_12_method_4_code 26 = .ok (.iadd, 1) := by decide +kernel
theorem dd_Values_pushReference_27 : decode prog_12_method_4_code 27 = .ok (.putfield 17, 3) := by decide +kernel
theorem dd_Values_pushReference_30 : decode prog_12_method_4_code 30 = .ok (.return_, 1) := by decide +kernel
theorem dd_Machine_doKind_0 : decode prog_5_method_31_code 0 = .ok (.aload_n 0, 1) := by decide +kernel
theorem dd_Machine_doKind_1 : decode prog_5_method_31_code 1 = .ok (.getfield 14, 3) := by decide +kernel
theorem dd_Machine_doKind_4 : decode prog_5_method_31_code 4 = .ok (.getfield 341, 3) := by decide +kernel
theorem dd_Machine_doKind_7 : decode prog_5_method_31_code 7 = .ok (.aload_n 0, 1) := by decide +kernel
theorem dd_Machine_doKind_8 : decode prog_5_method_31_code 8 = .ok (.getfield 14, 3) := by decide +kernel
theorem dd_Machine_doKind_11 : decode prog_5_method_31_code 11 = .ok (.getfield 66, 3) := by decide +kernel
theorem dd_Machine_doKind_14 : decode prog_5_method_31_code 14 = .ok (.iconst 1, 1) := by decide +kernel
theorem dd_Machine_doKind_15 : decode prog_5_method_31_code 15 = .ok (.isub, 1) := by decide +kernel
theorem dd_Machine_doKind_16 : decode prog_5_method_31_code 16 = .ok (.laload, 1) := by decide +kernel
theorem dd_Machine_doKind_17 : decode prog_5_method_31_code 17 = .ok (.l2i, 1) := by decide +kernel
theorem dd_Machine_doKind_18 : decode prog_5_method_31_code 18 = .ok (.istore_n 3, 1) := by decide +kernel
theorem dd_Machine_doKind_19 : decode prog_5_method_31_code 19 = .ok (.iload_n 1, 1) := by decide +kernel
theorem dd_Machine_doKind_20 : decode prog_5_method_31_code 20 = .ok (.bipush 28, 2) := by decide +kernel
theorem dd_Machine_doKind_22 : decode prog_5_method_31_code 22 = .ok (.if_icmp .ne 32, 3) := by decide +kernel
theorem dd_Machine_doKind_25 : decode prog_5_method_31_code 25 = .ok (.aload_n 0, 1) := by decide +kernel
theorem dd_Machine_doKind_26 : decode prog_5_method_31_code 26 = .ok (.getfield 14, 3) := by decide +kernel
theorem dd_Machine_doKind_29 : decode prog_5_method_31_code 29 = .ok (.dup, 1) := by decide +kernel
theorem dd_Machine_doKind_30 : decode prog_5_method_31_code 30 = .ok (.getfield 66, 3) := by decide +kernel
theorem dd_Machine_doKind_33 : decode prog_5_method_31_code 33 = .ok (.iconst 1, 1) := by decide +kernel
theorem dd_Machine_doKind_34 : decode prog_5_method_31_code 34 = .ok (.isub, 1) := by decide +kernel
theorem dd_Machine_doKind_35 : decode prog_5_method_31_code 35 = .ok (.putfield 66, 3) := by decide +kernel
theorem dd_Machine_doKind_38 : decode prog_5_method_31_code 38 = .ok (.aload_n 0, 1) := by decide +kernel
theorem dd_Machine_doKind_39 : decode prog_5_method_31_code 39 = .ok (.getfield 14, 3) := by decide +kernel
theorem dd_Machine_doKind_42 : decode prog_5_method_31_code 42 = .ok (.iload_n 3, 1) := by decide +kernel
theorem dd_Machine_doKind_43 : decode prog_5_method_31_code 43 = .ok (.ldc_w 391, 3) := by decide +kernel
theorem dd_Machine_doKind_46 : decode prog_5_method_31_code 46 = .ok (.ior, 1) := by decide +kernel
theorem dd_Machine_doKind_47 : decode prog_5_method_31_code 47 = .ok (.i2l, 1) := by decide +kernel
theorem dd_Machine_doKind_48 : decode prog_5_method_31_code 48 = .ok (.invokevirtual 91, 3) := by decide +kernel
theorem dd_Machine_doKind_51 : decode prog_5_method_31_code 51 = .ok (.goto 132, 3) := by decide +kernel
theorem dd_Machine_doKind_54 : decode prog_5_method_31_code 54 = .ok (.iload_n 1, 1) := by decide +kernel
theorem dd_Machine_doKind_55 : decode prog_5_method_31_code 55 = .ok (.bipush 28, 2) := by decide +kernel
theorem dd_Machine_doKind_57 : decode prog_5_method_31_code 57 = .ok (.if_icmp .le 57, 3) := by decide +kernel
theorem dd_Machine_doKind_60 : decode prog_5_method_31_code 60 = .ok (.aload_n 0, 1) := by decide +kernel
theorem dd_Machine_doKind_61 : decode prog_5_method_31_code 61 = .ok (.getfield 14, 3) := by decide +kernel
theorem dd_Machine_doKind_64 : decode prog_5_method_31_code 64 = .ok (.dup, 1) := by decide +kernel
theorem dd_Machine_doKind_65 : decode prog_5_method_31_code 65 = .ok (.getfield 66, 3) := by decide +kernel
theorem dd_Machine_doKind_68 : decode prog_5_method_31_code 68 = .ok (.iconst 1, 1) := by decide +kernel
theorem dd_Machine_doKind_69 : decode prog_5_method_31_code 69 = .ok (.isub, 1) := by decide +kernel
theorem dd_Machine_doKind_70 : decode prog_5_method_31_code 70 = .ok (.putfield 66, 3) := by decide +kernel
theorem dd_Machine_doKind_73 : decode prog_5_method_31_code 73 = .ok (.iload_n 3, 1) := by decide +kernel
theorem dd_Machine_doKind_74 : decode prog_5_method_31_code 74 = .ok (.ifCond .ne 9, 3) := by decide +kernel
theorem dd_Machine_doKind_77 : decode prog_5_method_31_code 77 = .ok (.aload_n 0, 1) := by decide +kernel
theorem dd_Machine_doKind_78 : decode prog_5_method_31_code 78 = .ok (.bipush 8, 2) := by decide +kernel
theorem dd_Machine_doKind_80 : decode prog_5_method_31_code 80 = .ok (.putfield 163, 3) := by decide +kernel
theorem dd_Machine_doKind_83 : decode prog_5_method_31_code 83 = .ok (.aload_n 0, 1) := by decide +kernel
theorem dd_Machine_doKind_84 : decode prog_5_method_31_code 84 = .ok (.getfield 14, 3) := by decide +kernel
theorem dd_Machine_doKind_87 : decode prog_5_method_31_code 87 = .ok (.iload_n 1, 1) := by decide +kernel
theorem dd_Machine_doKind_88 : decode prog_5_method_31_code 88 = .ok (.bipush 29, 2) := by decide +kernel
theorem dd_Machine_doKind_90 : decode prog_5_method_31_code 90 = .ok (.if_icmp .ne 12, 3) := by decide +kernel
theorem dd_Machine_doKind_93 : decode prog_5_method_31_code 93 = .ok (.iload_n 3, 1) := by decide +kernel
theorem dd_Machine_doKind_94 : decode prog_5_method_31_code 94 = .ok (.iconst 1, 1) := by decide +kernel
theorem dd_Machine_doKind_95 : decode prog_5_method_31_code 95 = .ok (.ishl, 1) := by decide +kernel
theorem dd_Machine_doKind_96 : decode prog_5_method_31_code 96 = .ok (.iconst 1, 1) := by decide +kernel
theorem dd_Machine_doKind_97 : decode prog_5_method_31_code 97 = .ok (.ishr, 1) := by decide +kernel
theorem dd_Machine_doKind_98 : decode prog_5_method_31_code 98 = .ok (.i2l, 1) := by decide +kernel
theorem dd_Machine_doKind_99 : decode prog_5_method_31_code 99 = .ok (.goto 9, 3) := by decide +kernel
theorem dd_Machine_doKind_102 : decode prog_5_method_31_code 102 = .ok (.iload_n 3, 1) := by decide +kernel
theorem dd_Machine_doKind_103 : decode prog_5_method_31_code 103 = .ok (.ldc_w 392, 3) := by decide +kernel
theorem dd_Machine_doKind_106 : decode prog_5_method_31_code 106 = .ok (.iand, 1) := by decide +kernel
theorem dd_Machine_doKind_107 : decode prog_5_method_31_code 107 = .ok (.i2l, 1) := by decide +kernel
theorem dd_Machine_doKind_108 : decode prog_5_method_31_code 108 = .ok (.invokevirtual 99, 3) := by decide +kernel
theorem dd_Machine_doKind_111 : decode prog_5_method_31_code 111 = .ok (.goto 72, 3) := by decide +kernel
theorem dd_Machine_doKind_114 : decode prog_5_method_31_code 114 = .ok (.iload_n 3, 1) := by decide +kernel
theorem dd_Machine_doKind_115 : decode prog_5_method_31_code 115 = .ok (.ifCond .ne 18, 3) := by decide +kernel
theorem dd_Machine_doKind_118 : decode prog_5_method_31_code 118 = .ok (.iload_n 1, 1) := by decide +kernel
theorem dd_Machine_doKind_119 : decode prog_5_method_31_code 119 = .ok (.iconst 1, 1) := by decide +kernel
theorem dd_Machine_doKind_120 : decode prog_5_method_31_code 120 = .ok (.iand, 1) := by decide +kernel
theorem dd_Machine_doKind_121 : decode prog_5_method_31_code 121 = .ok (.iconst 1, 1) := by decide +kernel
theorem dd_Machine_doKind_122 : decode prog_5_method_31_code 122 = .ok (.if_icmp .ne 7, 3) := by decide +kernel
theorem dd_Machine_doKind_125 : decode prog_5_method_31_code 125 = .ok (.iconst 1, 1) := by decide +kernel
theorem dd_Machine_doKind_126 : decode prog_5_method_31_code 126 = .ok (.goto 13, 3) := by decide +kernel
theorem dd_Machine_doKind_129 : decode prog_5_method_31_code 129 = .ok (.iconst 0, 1) := by decide +kernel
theorem dd_Machine_doKind_130 : decode prog_5_method_31_code 130 = .ok (.goto 9, 3) := by decide +kernel
theorem dd_Machine_doKind_133 : decode prog_5_method_31_code 133 = .ok (.aload_n 0, 1) := by decide +kernel
theorem dd_Machine_doKind_134 : decode prog_5_method_31_code 134 = .ok (.iload_n 3, 1) := by decide +kernel
theorem dd_Machine_doKind_135 : decode prog_5_method_31_code 135 = .ok (.iload_n 2, 1) := by decide +kernel
theorem dd_Machine_doKind_136 : decode prog_5_method_31_code 136 = .ok (.invokevirtual 393, 3) := by decide +kernel
theorem dd_Machine_doKind_139 : decode prog_5_method_31_code 139 = .ok (.istore 4, 2) := by decide +kernel
theorem dd_Machine_doKind_141 : decode prog_5_method_31_code 141 = .ok (.iload_n 1, 1) := by decide +kernel
theorem dd_Machine_doKind_142 : decode prog_5_method_31_code 142 = .ok (.bipush 22, 2) := by decide +kernel
theorem dd_Machine_doKind_144 : decode prog_5_method_31_code 144 = .ok (.if_icmp .ge 28, 3) := by decide +kernel
theorem dd_Machine_doKind_147 : decode prog_5_method_31_code 147 = .ok (.aload_n 0, 1) := by decide +kernel
theorem dd_Machine_doKind_148 : decode prog_5_method_31_code 148 = .ok (.getfield 14, 3) := by decide +kernel
theorem dd_Machine_doKind_151 : decode prog_5_method_31_code 151 = .ok (.dup, 1) := by decide +kernel
theorem dd_Machine_doKind_152 : decode prog_5_method_31_code 152 = .ok (.getfield 66, 3) := by decide +kernel
theorem dd_Machine_doKind_155 : decode prog_5_method_31_code 155 = .ok (.iconst 1, 1) := by decide +kernel
theorem dd_Machine_doKind_156 : decode prog_5_method_31_code 156 = .ok (.isub, 1) := by decide +kernel
theorem dd_Machine_doKind_157 : decode prog_5_method_31_code 157 = .ok (.putfield 66, 3) := by decide +kernel
theorem dd_Machine_doKind_160 : decode prog_5_method_31_code 160 = .ok (.aload_n 0, 1) := by decide +kernel
theorem dd_Machine_doKind_161 : decode prog_5_method_31_code 161 = .ok (.getfield 14, 3) := by decide +kernel
theorem dd_Machine_doKind_164 : decode prog_5_method_31_code 164 = .ok (.iload 4, 2) := by decide +kernel
theorem dd_Machine_doKind_166 : decode prog_5_method_31_code 166 = .ok (.invokevirtual 301, 3) := by decide +kernel
theorem dd_Machine_doKind_169 : decode prog_5_method_31_code 169 = .ok (.goto 14, 3) := by decide +kernel
theorem dd_Machine_doKind_172 : decode prog_5_method_31_code 172 = .ok (.iload 4, 2) := by decide +kernel
theorem dd_Machine_doKind_174 : decode prog_5_method_31_code 174 = .ok (.ifCond .ne 9, 3) := by decide +kernel
theorem dd_Machine_doKind_177 : decode prog_5_method_31_code 177 = .ok (.aload_n 0, 1) := by decide +kernel
theorem dd_Machine_doKind_178 : decode prog_5_method_31_code 178 = .ok (.bipush 9, 2) := by decide +kernel
theorem dd_Machine_doKind_180 : decode prog_5_method_31_code 180 = .ok (.putfield 163, 3) := by decide +kernel
theorem dd_Machine_doKind_183 : decode prog_5_method_31_code 183 = .ok (.return_, 1) := by decide +kernel
theorem dd_Arrays_rangeCheck_0 : decode prog_31_method_30_code 0 = .ok (.iload_n 1, 1) := by decide +kernel
theorem dd_Arrays_rangeCheck_1 : decode prog_31_method_30_code 1 = .ok (.iload_n 2, 1) := by decide +kernel
theorem dd_Arrays_rangeCheck_2 : decode prog_31_method_30_code 2 = .ok (.if_icmp .le 44, 3) := by decide +kernel
theorem dd_Arrays_rangeCheck_5 : decode prog_31_method_30_code 5 = .ok (.new 43, 3) := by decide +kernel
theorem dd_Arrays_rangeCheck_8 : decode prog_31_method_30_code 8 = .ok (.dup, 1) := by decide +kernel
theorem dd_Arrays_rangeCheck_9 : decode prog_31_method_30_code 9 = .ok (.new 45, 3) := by decide +kernel
theorem dd_Arrays_rangeCheck_12 : decode prog_31_method_30_code 12 = .ok (.dup, 1) := by decide +kernel
theorem dd_Arrays_rangeCheck_13 : decode prog_31_method_30_code 13 = .ok (.invokespecial 47, 3) := by decide +kernel
theorem dd_Arrays_rangeCheck_16 : decode prog_31_method_30_code 16 = .ok (.ldc 48, 2) := by decide +kernel
theorem dd_Arrays_rangeCheck_18 : decode prog_31_method_30_code 18 = .ok (.invokevirtual 50, 3) := by decide +kernel
theorem dd_Arrays_rangeCheck_21 : decode prog_31_method_30_code 21 = .ok (.iload_n 1, 1) := by decide +kernel
theorem dd_Arrays_rangeCheck_22 : decode prog_31_method_30_code 22 = .ok (.invokevirtual 54, 3) := by decide +kernel
theorem dd_Arrays_rangeCheck_25 : decode prog_31_method_30_code 25 = .ok (.ldc 57, 2) := by decide +kernel
theorem dd_Arrays_rangeCheck_27 : decode prog_31_method_30_code 27 = .ok (.invokevirtual 50, 3) := by decide +kernel
theorem dd_Arrays_rangeCheck_30 : decode prog_31_method_30_code 30 = .ok (.iload_n 2, 1) := by decide +kernel
theorem dd_Arrays_rangeCheck_31 : decode prog_31_method_30_code 31 = .ok (.invokevirtual 54, 3) := by decide +kernel
theorem dd_Arrays_rangeCheck_34 : decode prog_31_method_30_code 34 = .ok (.ldc 59, 2) := by decide +kernel
theorem dd_Arrays_rangeCheck_36 : decode prog_31_method_30_code 36 = .ok (.invokevirtual 50, 3) := by decide +kernel
theorem dd_Arrays_rangeCheck_39 : decode prog_31_method_30_code 39 = .ok (.invokevirtual 61, 3) := by decide +kernel
theorem dd_Arrays_rangeCheck_42 : decode prog_31_method_30_code 42 = .ok (.invokespecial 65, 3) := by decide +kernel
theorem dd_Arrays_rangeCheck_45 : decode prog_31_method_30_code 45 = .ok (.athrow, 1) := by decide +kernel
theorem dd_Arrays_rangeCheck_46 : decode prog_31_method_30_code 46 = .ok (.iload_n 1, 1) := by decide +kernel
theorem dd_Arrays_rangeCheck_47 : decode prog_31_method_30_code 47 = .ok (.ifCond .ge 12, 3) := by decide +kernel
theorem dd_Arrays_rangeCheck_50 : decode prog_31_method_30_code 50 = .ok (.new 68, 3) := by decide +kernel
theorem dd_Arrays_rangeCheck_53 : decode prog_31_method_30_code 53 = .ok (.dup, 1) := by decide +kernel
theorem dd_Arrays_rangeCheck_54 : decode prog_31_method_30_code 54 = .ok (.iload_n 1, 1) := by decide +kernel
theorem dd_Arrays_rangeCheck_55 : decode prog_31_method_30_code 55 = .ok (.invokespecial 70, 3) := by decide +kernel
theorem dd_Arrays_rangeCheck_58 : decode prog_31_method_30_code 58 = .ok (.athrow, 1) := by decide +kernel
theorem dd_Arrays_rangeCheck_59 : decode prog_31_method_30_code 59 = .ok (.iload_n 2, 1) := by decide +kernel
theorem dd_Arrays_rangeCheck_60 : decode prog_31_method_30_code 60 = .ok (.iload_n 0, 1) := by decide +kernel
theorem dd_Arrays_rangeCheck_61 : decode prog_31_method_30_code 61 = .ok (.if_icmp .le 12, 3) := by decide +kernel
theorem dd_Arrays_rangeCheck_64 : decode prog_31_method_30_code 64 = .ok (.new 68, 3) := by decide +kernel
theorem dd_Arrays_rangeCheck_67 : decode prog_31_method_30_code 67 = .ok (.dup, 1) := by decide +kernel
theorem dd_Arrays_rangeCheck_68 : decode prog_31_method_30_code 68 = .ok (.iload_n 2, 1) := by decide +kernel
theorem dd_Arrays_rangeCheck_69 : decode prog_31_method_30_code 69 = .ok (.invokespecial 70, 3) := by decide +kernel
theorem dd_Arrays_rangeCheck_72 : decode prog_31_method_30_code 72 = .ok (.athrow, 1) := by decide +kernel
theorem dd_Arrays_rangeCheck_73 : decode prog_31_method_30_code 73 = .ok (.return_, 1) := by decide +kernel
theorem dd_Arrays_fill_AJIIJ_0 : decode prog_31_method_102_code 0 = .ok (.aload_n 0, 1) := by decide +kernel
theorem dd_Arrays_fill_AJIIJ_1 : decode prog_31_method_102_code 1 = .ok (.arraylength, 1) := by decide +kernel
theorem dd_Arrays_fill_AJIIJ_2 : decode prog_31_method_102_code 2 = .ok (.iload_n 1, 1) := by decide +kernel
theorem dd_Arrays_fill_AJIIJ_3 : decode prog_31_method_102_code 3 = .ok (.iload_n 2, 1) := by decide +kernel
theorem dd_Arrays_fill_AJIIJ_4 : decode prog_31_method_102_code 4 = .ok (.invokestatic 13, 3) := by decide +kernel
theorem dd_Arrays_fill_AJIIJ_7 : decode prog_31_method_102_code 7 = .ok (.iload_n 1, 1) := by decide +kernel
theorem dd_Arrays_fill_AJIIJ_8 : decode prog_31_method_102_code 8 = .ok (.istore 5, 2) := by decide +kernel
theorem dd_Arrays_fill_AJIIJ_10 : decode prog_31_method_102_code 10 = .ok (.iload 5, 2) := by decide +kernel
theorem dd_Arrays_fill_AJIIJ_12 : decode prog_31_method_102_code 12 = .ok (.iload_n 2, 1) := by decide +kernel
theorem dd_Arrays_fill_AJIIJ_13 : decode prog_31_method_102_code 13 = .ok (.if_icmp .ge 14, 3) := by decide +kernel
theorem dd_Arrays_fill_AJIIJ_16 : decode prog_31_method_102_code 16 = .ok (.aload_n 0, 1) := by decide +kernel
theorem dd_Arrays_fill_AJIIJ_17 : decode prog_31_method_102_code 17 = .ok (.iload 5, 2) := by decide +kernel
theorem dd_Arrays_fill_AJIIJ_19 : decode prog_31_method_102_code 19 = .ok (.lload_n 3, 1) := by decide +kernel
theorem dd_Arrays_fill_AJIIJ_20 : decode prog_31_method_102_code 20 = .ok (.lastore, 1) := by decide +kernel
theorem dd_Arrays_fill_AJIIJ_21 : decode prog_31_method_102_code 21 = .ok (.iinc 5 1, 3) := by decide +kernel
theorem dd_Arrays_fill_AJIIJ_24 : decode prog_31_method_102_code 24 = .ok (.goto (-14), 3) := by decide +kernel
theorem dd_Arrays_fill_AJIIJ_27 : decode prog_31_method_102_code 27 = .ok (.return_, 1) := by decide +kernel
theorem dd_Values_pushZeros_0 : decode prog_12_method_8_code 0 = .ok (.aload_n 0, 1) := by decide +kernel
theorem dd_Values_pushZeros_1 : decode prog_12_method_8_code 1 = .ok (.getfield 7, 3) := by decide +kernel
theorem dd_Values_pushZeros_4 : decode prog_12_method_8_code 4 = .ok (.aload_n 0, 1) := by decide +kernel
theorem dd_Values_pushZeros_5 : decode prog_12_method_8_code 5 = .ok (.getfield 17, 3) := by decide +kernel
theorem dd_Values_pushZeros_8 : decode prog_12_method_8_code 8 = .ok (.aload_n 0, 1) := by decide +kernel
theorem dd_Values_pushZeros_9 : decode prog_12_method_8_code 9 = .ok (.getfield 17, 3) := by decide +kernel
theorem dd_Values_pushZeros_12 : decode prog_12_method_8_code 12 = .ok (.iload_n 1, 1) := by decide +kernel
theorem dd_Values_pushZeros_13 : decode prog_12_method_8_code 13 = .ok (.iadd, 1) := by decide +kernel
theorem dd_Values_pushZeros_14 : decode prog_12_method_8_code 14 = .ok (.lconst 0, 1) := by decide +kernel
theorem dd_Values_pushZeros_15 : decode prog_12_method_8_code 15 = .ok (.invokestatic 29, 3) := by decide +kernel
theorem dd_Values_pushZeros_18 : decode prog_12_method_8_code 18 = .ok (.iconst 0, 1) := by decide +kernel
theorem dd_Values_pushZeros_19 : decode prog_12_method_8_code 19 = .ok (.istore_n 2, 1) := by decide +kernel
theorem dd_Values_pushZeros_20 : decode prog_12_method_8_code 20 = .ok (.iload_n 2, 1) := by decide +kernel
theorem dd_Values_pushZeros_21 : decode prog_12_method_8_code 21 = .ok (.iload_n 1, 1) := by decide +kernel
theorem dd_Values_pushZeros_22 : decode prog_12_method_8_code 22 = .ok (.if_icmp .ge 21, 3) := by decide +kernel
theorem dd_Values_pushZeros_25 : decode prog_12_method_8_code 25 = .ok (.aload_n 0, 1) := by decide +kernel
theorem dd_Values_pushZeros_26 : decode prog_12_method_8_code 26 = .ok (.getfield 13, 3) := by decide +kernel
theorem dd_Values_pushZeros_29 : decode prog_12_method_8_code 29 = .ok (.aload_n 0, 1) := by decide +kernel
theorem dd_Values_pushZeros_30 : decode prog_12_method_8_code 30 = .ok (.getfield 17, 3) := by decide +kernel
theorem dd_Values_pushZeros_33 : decode prog_12_method_8_code 33 = .ok (.iload_n 2, 1) := by decide +kernel
theorem dd_Values_pushZeros_34 : decode prog_12_method_8_code 34 = .ok (.iadd, 1) := by decide +kernel
theorem dd_Values_pushZeros_35 : decode prog_12_method_8_code 35 = .ok (.iconst 0, 1) := by decide +kernel
theorem dd_Values_pushZeros_36 : decode prog_12_method_8_code 36 = .ok (.bastore, 1) := by decide +kernel
theorem dd_Values_pushZeros_37 : decode prog_12_method_8_code 37 = .ok (.iinc 2 1, 3) := by decide +kernel
theorem dd_Values_pushZeros_40 : decode prog_12_method_8_code 40 = .ok (.goto (-20), 3) := by decide +kernel
theorem dd_Values_pushZeros_43 : decode prog_12_method_8_code 43 = .ok (.aload_n 0, 1) := by decide +kernel
theorem dd_Values_pushZeros_44 : decode prog_12_method_8_code 44 = .ok (.dup, 1) := by decide +kernel
theorem dd_Values_pushZeros_45 : decode prog_12_method_8_code 45 = .ok (.getfield 17, 3) := by decide +kernel
theorem dd_Values_pushZeros_48 : decode prog_12_method_8_code 48 = .ok (.iload_n 1, 1) := by decide +kernel
theorem dd_Values_pushZeros_49 : decode prog_12_method_8_code 49 = .ok (.iadd, 1) := by decide +kernel
theorem dd_Values_pushZeros_50 : decode prog_12_method_8_code 50 = .ok (.putfield 17, 3) := by decide +kernel
theorem dd_Values_pushZeros_53 : decode prog_12_method_8_code 53 = .ok (.return_, 1) := by decide +kernel
theorem dd_Heap_find_0 : decode prog_4_method_6_code 0 = .ok (.iload_n 2, 1) := by decide +kernel
theorem dd_Heap_find_1 : decode prog_4_method_6_code 1 = .ok (.istore 4, 2) := by decide +kernel
theorem dd_Heap_find_3 : decode prog_4_method_6_code 3 = .ok (.iload 4, 2) := by decide +kernel
theorem dd_Heap_find_5 : decode prog_4_method_6_code 5 = .ok (.iload_n 3, 1) := by decide +kernel
theorem dd_Heap_find_6 : decode prog_4_method_6_code 6 = .ok (.if_icmp .ge 88, 3) := by decide +kernel
theorem dd_Heap_find_9 : decode prog_4_method_6_code 9 = .ok (.aload_n 1, 1) := by decide +kernel
theorem dd_Heap_find_10 : decode prog_4_method_6_code 10 = .ok (.getfield 74, 3) := by decide +kernel
theorem dd_Heap_find_13 : decode prog_4_method_6_code 13 = .ok (.iload 4, 2) := by decide +kernel
theorem dd_Heap_find_15 : decode prog_4_method_6_code 15 = .ok (.baload, 1) := by decide +kernel
theorem dd_Heap_find_16 : decode prog_4_method_6_code 16 = .ok (.ifCond .eq 72, 3) := by decide +kernel
theorem dd_Heap_find_19 : decode prog_4_method_6_code 19 = .ok (.aload_n 1, 1) := by decide +kernel
theorem dd_Heap_find_20 : decode prog_4_method_6_code 20 = .ok (.getfield 77, 3) := by decide +kernel
theorem dd_Heap_find_23 : decode prog_4_method_6_code 23 = .ok (.iload 4, 2) := by decide +kernel
theorem dd_Heap_find_25 : decode prog_4_method_6_code 25 = .ok (.laload, 1) := by decide +kernel
theorem dd_Heap_find_26 : decode prog_4_method_6_code 26 = .ok (.lconst 0, 1) := by decide +kernel
theorem dd_Heap_find_27 : decode prog_4_method_6_code 27 = .ok (.lcmp, 1) := by decide +kernel
theorem dd_Heap_find_28 : decode prog_4_method_6_code 28 = .ok (.ifCond .le 60, 3) := by decide +kernel
theorem dd_Heap_find_31 : decode prog_4_method_6_code 31 = .ok (.aload_n 0, 1) := by decide +kernel
theorem dd_Heap_find_32 : decode prog_4_method_6_code 32 = .ok (.getfield 30, 3) := by decide +kernel
theorem dd_Heap_find_35 : decode prog_4_method_6_code 35 = .ok (.aload_n 1, 1) := by decide +kernel
theorem dd_Heap_find_36 : decode prog_4_method_6_code 36 = .ok (.getfield 77, 3) := by decide +kernel
theorem dd_Heap_find_39 : decode prog_4_method_6_code 39 = .ok (.iload 4, 2) := by decide +kernel
theorem dd_Heap_find_41 : decode prog_4_method_6_code 41 = .ok (.laload, 1) := by decide +kernel
theorem dd_Heap_find_42 : decode prog_4_method_6_code 42 = .ok (.l2i, 1) := by decide +kernel
theorem dd_Heap_find_43 : decode prog_4_method_6_code 43 = .ok (.baload, 1) := by decide +kernel
theorem dd_Heap_find_44 : decode prog_4_method_6_code 44 = .ok (.ifCond .ne 44, 3) := by decide +kernel
theorem dd_Heap_find_47 : decode prog_4_method_6_code 47 = .ok (.aload_n 0, 1) := by decide +kernel
theorem dd_Heap_find_48 : decode prog_4_method_6_code 48 = .ok (.getfield 30, 3) := by decide +kernel
theorem dd_Heap_find_51 : decode prog_4_method_6_code 51 = .ok (.aload_n 1, 1) := by decide +kernel
theorem dd_Heap_find_52 : decode prog_4_method_6_code 52 = .ok (.getfield 77, 3) := by decide +kernel
theorem dd_Heap_find_55 : decode prog_4_method_6_code 55 = .ok (.iload 4, 2) := by decide +kernel
theorem dd_Heap_find_57 : decode prog_4_method_6_code 57 = .ok (.laload, 1) := by decide +kernel
theorem dd_Heap_find_58 : decode prog_4_method_6_code 58 = .ok (.l2i, 1) := by decide +kernel
theorem dd_Heap_find_59 : decode prog_4_method_6_code 59 = .ok (.iconst 1, 1) := by decide +kernel
theorem dd_Heap_find_60 : decode prog_4_method_6_code 60 = .ok (.bastore, 1) := by decide +kernel
theorem dd_Heap_find_61 : decode prog_4_method_6_code 61 = .ok (.aload_n 0, 1) := by decide +kernel
theorem dd_Heap_find_62 : decode prog_4_method_6_code 62 = .ok (.getfield 37, 3) := by decide +kernel
theorem dd_Heap_find_65 : decode prog_4_method_6_code 65 = .ok (.aload_n 0, 1) := by decide +kernel
theorem dd_Heap_find_66 : decode prog_4_method_6_code 66 = .ok (.getfield 44, 3) := by decide +kernel
theorem dd_Heap_find_69 : decode prog_4_method_6_code 69 = .ok (.aload_n 1, 1) := by decide +kernel
theorem dd_Heap_find_70 : decode prog_4_method_6_code 70 = .ok (.getfield 77, 3) := by decide +kernel
theorem dd_Heap_find_73 : decode prog_4_method_6_code 73 = .ok (.iload 4, 2) := by decide +kernel
theorem dd_Heap_find_75 : decode prog_4_method_6_code 75 = .ok (.laload, 1) := by decide +kernel
theorem dd_Heap_find_76 : decode prog_4_method_6_code 76 = .ok (.l2i, 1) := by decide +kernel
theorem dd_Heap_find_77 : decode prog_4_method_6_code 77 = .ok (.iastore, 1) := by decide +kernel
theorem dd_Heap_find_78 : decode prog_4_method_6_code 78 = .ok (.aload_n 0, 1) := by decide +kernel
theorem dd_Heap_find_79 : decode prog_4_method_6_code 79 = .ok (.dup, 1) := by decide +kernel
theorem dd_Heap_find_80 : decode prog_4_method_6_code 80 = .ok (.getfield 44, 3) := by decide +kernel
theorem dd_Heap_find_83 : decode prog_4_method_6_code 83 = .ok (.iconst 1, 1) := by decide +kernel
theorem dd_Heap_find_84 : decode prog_4_method_6_code 84 = .ok (.iadd, 1) := by decide +kernel
theorem dd_Heap_find_85 : decode prog_4_method_6_code 85 = .ok (.putfield 44, 3) := by decide +kernel
theorem dd_Heap_find_88 : decode prog_4_method_6_code 88 = .ok (.iinc 4 1, 3) := by decide +kernel
theorem dd_Heap_find_91 : decode prog_4_method_6_code 91 = .ok (.goto (-88), 3) := by decide +kernel
theorem dd_Heap_find_94 : decode prog_4_method_6_code 94 = .ok (.return_, 1) := by decide +kernel
theorem dd_Heap_moveTogether_0 : decode prog_4_method_7_code 0 = .ok (.iconst 0, 1) := by decide +kernel
theorem dd_Heap_moveTogether_1 : decode prog_4_method_7_code 1 = .ok (.istore_n 1, 1) := by decide +kernel
theorem dd_Heap_moveTogether_2 : decode prog_4_method_7_code 2 = .ok (.iconst 0, 1) := by decide +kernel
theorem dd_Heap_moveTogether_3 : decode prog_4_method_7_code 3 = .ok (.istore_n 2, 1) := by decide +kernel
theorem dd_Heap_moveTogether_4 : decode prog_4_method_7_code 4 = .ok (.iload_n 2, 1) := by decide +kernel
theorem dd_Heap_moveTogether_5 : decode prog_4_method_7_code 5 = .ok (.aload_n 0, 1) := by decide +kernel
theorem dd_Heap_moveTogether_6 : decode prog_4_method_7_code 6 = .ok (.getfield 14, 3) := by decide +kernel
theorem dd_Heap_moveTogether_9 : decode prog_4_method_7_code 9 = .ok (.getfield 47, 3) := by decide +kernel
theorem dd_Heap_moveTogether_12 : decode prog_4_method_7_code 12 = .ok (.if_icmp .ge 125, 3) := by decide +kernel
theorem dd_Heap_moveTogether_15 : decode prog_4_method_7_code 15 = .ok (.aload_n 0, 1) := by decide +kernel
theorem dd_Heap_moveTogether_16 : decode prog_4_method_7_code 16 = .ok (.getfield 14, 3) := by decide +kernel
theorem dd_Heap_moveTogether_19 : decode prog_4_method_7_code 19 = .ok (.getfield 77, 3) := by decide +kernel
theorem dd_Heap_moveTogether_22 : decode prog_4_method_7_code 22 = .ok (.iload_n 2, 1) := by decide +kernel
theorem dd_Heap_moveTogether_23 : decode prog_4_method_7_code 23 = .ok (.laload, 1) := by decide +kernel
theorem dd_Heap_moveTogether_24 : decode prog_4_method_7_code 24 = .ok (.l2i, 1) := by decide +kernel
theorem dd_Heap_moveTogether_25 : decode prog_4_method_7_code 25 = .ok (.istore_n 3, 1) := by decide +kernel
theorem dd_Heap_moveTogether_26 : decode prog_4_method_7_code 26 = .ok (.iconst 1, 1) := by decide +kernel
theorem dd_Heap_moveTogether_27 : decode prog_4_method_7_code 27 = .ok (.aload_n 0, 1) := by decide +kernel
theorem dd_Heap_moveTogether_28 : decode prog_4_method_7_code 28 = .ok (.getfield 24, 3) := by decide +kernel
theorem dd_Heap_moveTogether_31 : decode prog_4_method_7_code 31 = .ok (.iload_n 3, 1) := by decide +kernel
theorem dd_Heap_moveTogether_32 : decode prog_4_method_7_code 32 = .ok (.iaload, 1) := by decide +kernel
theorem dd_Heap_moveTogether_33 : decode prog_4_method_7_code 33 = .ok (.iadd, 1) := by decide +kernel
theorem dd_Heap_moveTogether_34 : decode prog_4_method_7_code 34 = .ok (.istore 4, 2) := by decide +kernel
theorem dd_Heap_moveTogether_36 : decode prog_4_method_7_code 36 = .ok (.aload_n 0, 1) := by decide +kernel
theorem dd_Heap_moveTogether_37 : decode prog_4_method_7_code 37 = .ok (.getfield 30, 3) := by decide +kernel
theorem dd_Heap_moveTogether_40 : decode prog_4_method_7_code 40 = .ok (.iload_n 3, 1) := by decide +kernel
theorem dd_Heap_moveTogether_41 : decode prog_4_method_7_code 41 = .ok (.baload, 1) := by decide +kernel
theorem dd_Heap_moveTogether_42 : decode prog_4_method_7_code 42 = .ok (.ifCond .eq 67, 3) := by decide +kernel
theorem dd_Heap_moveTogether_45 : decode prog_4_method_7_code 45 = .ok (.aload_n 0, 1) := by decide +kernel
theorem dd_Heap_moveTogether_46 : decode prog_4_method_7_code 46 = .ok (.getfield 30, 3) := by decide +kernel
theorem dd_Heap_moveTogether_49 : decode prog_4_method_7_code 49 = .ok (.iload_n 3, 1) := by decide +kernel
theorem dd_Heap_moveTogether_50 : decode prog_4_method_7_code 50 = .ok (.iconst 0, 1) := by decide +kernel
theorem dd_Heap_moveTogether_51 : decode prog_4_method_7_code 51 = .ok (.bastore, 1) := by decide +kernel
theorem dd_Heap_moveTogether_52 : decode prog_4_method_7_code 52 = .ok (.aload_n 0, 1) := by decide +kernel
theorem dd_Heap_moveTogether_53 : decode prog_4_method_7_code 53 = .ok (.getfield 27, 3) := by decide +kernel
theorem dd_Heap_moveTogether_56 : decode prog_4_method_7_code 56 = .ok (.iload_n 3, 1) := by decide +kernel
theorem dd_Heap_moveTogether_57 : decode prog_4_method_7_code 57 = .ok (.iload_n 1, 1) := by decide +kernel
theorem dd_Heap_moveTogether_58 : decode prog_4_method_7_code 58 = .ok (.iastore, 1) := by decide +kernel
theorem dd_Heap_moveTogether_59 : decode prog_4_method_7_code 59 = .ok (.aload_n 0, 1) := by decide +kernel
theorem dd_Heap_moveTogether_60 : decode prog_4_method_7_code 60 = .ok (.getfield 14, 3) := by decide +kernel
theorem dd_Heap_moveTogether_63 : decode prog_4_method_7_code 63 = .ok (.getfield 77, 3) := by decide +kernel
theorem dd_Heap_moveTogether_66 : decode prog_4_method_7_code 66 = .ok (.iload_n 2, 1) := by decide +kernel
theorem dd_Heap_moveTogether_67 : decode prog_4_method_7_code 67 = .ok (.aload_n 0, 1) := by decide +kernel
theorem dd_Heap_moveTogether_68 : decode prog_4_method_7_code 68 = .ok (.getfield 14, 3) := by decide +kernel
theorem dd_Heap_moveTogether_71 : decode prog_4_method_7_code 71 = .ok (.getfield 77, 3) := by decide +kernel
theorem dd_Heap_moveTogether_74 : decode prog_4_method_7_code 74 = .ok (.iload_n 1, 1) := by decide +kernel
theorem dd_Heap_moveTogether_75 : decode prog_4_method_7_code 75 = .ok (.iload 4, 2) := by decide +kernel
theorem dd_Heap_moveTogether_77 : decode prog_4_method_7_code 77 = .ok (.invokestatic 81, 3) := by decide +kernel
theorem dd_Heap_moveTogether_80 : decode prog_4_method_7_code 80 = .ok (.aload_n 0, 1) := by decide +kernel
theorem dd_Heap_moveTogether_81 : decode prog_4_method_7_code 81 = .ok (.getfield 14, 3) := by decide +kernel
theorem dd_Heap_moveTogether_84 : decode prog_4_method_7_code 84 = .ok (.getfield 74, 3) := by decide +kernel
theorem dd_Heap_moveTogether_87 : decode prog_4_method_7_code 87 = .ok (.iload_n 2, 1) := by decide +kernel
theorem dd_Heap_moveTogether_88 : decode prog_4_method_7_code 88 = .ok (.aload_n 0, 1) := by decide +kernel
theorem dd_Heap_moveTogether_89 : decode prog_4_method_7_code 89 = .ok (.getfield 14, 3) := by decide +kernel
theorem dd_Heap_moveTogether_92 : decode prog_4_method_7_code 92 = .ok (.getfield 74, 3) := by decide +kernel
theorem dd_Heap_moveTogether_95 : decode prog_4_method_7_code 95 = .ok (.iload_n 1, 1) := by decide +kernel
theorem dd_Heap_moveTogether_96 : decode prog_4_method_7_code 96 = .ok (.iload 4, 2) := by decide +kernel
theorem dd_Heap_moveTogether_98 : decode prog_4_method_7_code 98 = .ok (.invokestatic 81, 3) := by decide +kernel
theorem dd_Heap_moveTogether_101 : decode prog_4_method_7_code 101 = .ok (.iload_n 1, 1) := by decide +kernel
theorem dd_Heap_moveTogether_102 : decode prog_4_method_7_code 102 = .ok (.iload 4, 2) := by decide +kernel
theorem dd_Heap_moveTogether_104 : decode prog_4_method_7_code 104 = .ok (.iadd, 1) := by decide +kernel
theorem dd_Heap_moveTogether_105 : decode prog_4_method_7_code 105 = .ok (.istore_n 1, 1) := by decide +kernel
theorem dd_Heap_moveTogether_106 : decode prog_4_method_7_code 106 = .ok (.goto 23, 3) := by decide +kernel
theorem dd_Heap_moveTogether_109 : decode prog_4_method_7_code 109 = .ok (.aload_n 0, 1) := by decide +kernel
theorem dd_Heap_moveTogether_110 : decode prog_4_method_7_code 110 = .ok (.getfield 34, 3) := by decide +kernel
theorem dd_Heap_moveTogether_113 : decode prog_4_method_7_code 113 = .ok (.aload_n 0, 1) := by decide +kernel
theorem dd_Heap_moveTogether_114 : decode prog_4_method_7_code 114 = .ok (.getfield 40, 3) := by decide +kernel
theorem dd_Heap_moveTogether_117 : decode prog_4_method_7_code 117 = .ok (.iload_n 3, 1) := by decide +kernel
theorem dd_Heap_moveTogether_118 : decode prog_4_method_7_code 118 = .ok (.iastore, 1) := by decide +kernel
theorem dd_Heap_moveTogether_119 : decode prog_4_method_7_code 119 = .ok (.aload_n 0, 1) := by decide +kernel
theorem dd_Heap_moveTogether_120 : decode prog_4_method_7_code 120 = .ok (.dup, 1) := by decide +kernel
theorem dd_Heap_moveTogether_121 : decode prog_4_method_7_code 121 = .ok (.getfield 40, 3) := by decide +kernel
theorem dd_Heap_moveTogether_124 : decode prog_4_method_7_code 124 = .ok (.iconst 1, 1) := by decide +kernel
theorem dd_Heap_moveTogether_125 : decode prog_4_method_7_code 125 = .ok (.iadd, 1) := by decide +kernel
theorem dd_Heap_moveTogether_126 : decode prog_4_method_7_code 126 = .ok (.putfield 40, 3) := by decide +kernel
theorem dd_Heap_moveTogether_129 : decode prog_4_method_7_code 129 = .ok (.iload_n 2, 1) := by decide +kernel
theorem dd_Heap_moveTogether_130 : decode prog_4_method_7_code 130 = .ok (.iload 4, 2) := by decide +kernel
theorem dd_Heap_moveTogether_132 : decode prog_4_method_7_code 132 = .ok (.iadd, 1) := by decide +kernel
theorem dd_Heap_moveTogether_133 : decode prog_4_method_7_code 133 = .ok (.istore_n 2, 1) := by decide +kernel
theorem dd_Heap_moveTogether_134 : decode prog_4_method_7_code 134 = .ok (.goto (-130), 3) := by decide +kernel
theorem dd_Heap_moveTogether_137 : decode prog_4_method_7_code 137 = .ok (.aload_n 0, 1) := by decide +kernel
theorem dd_Heap_moveTogether_138 : decode prog_4_method_7_code 138 = .ok (.getfield 14, 3) := by decide +kernel
theorem dd_Heap_moveTogether_141 : decode prog_4_method_7_code 141 = .ok (.iload_n 1, 1) := by decide +kernel
theorem dd_Heap_moveTogether_142 : decode prog_4_method_7_code 142 = .ok (.putfield 47, 3) := by decide +kernel
theorem dd_Heap_moveTogether_145 : decode prog_4_method_7_code 145 = .ok (.return_, 1) := by decide +kernel
theorem dd_Heap_cellOf_0 : decode prog_4_method_3_code 0 = .ok (.aload_n 0, 1) := by decide +kernel
theorem dd_Heap_cellOf_1 : decode prog_4_method_3_code 1 = .ok (.getfield 27, 3) := by decide +kernel
theorem dd_Heap_cellOf_4 : decode prog_4_method_3_code 4 = .ok (.iload_n 1, 1) := by decide +kernel
theorem dd_Heap_cellOf_5 : decode prog_4_method_3_code 5 = .ok (.iaload, 1) := by decide +kernel
theorem dd_Heap_cellOf_6 : decode prog_4_method_3_code 6 = .ok (.iconst 1, 1) := by decide +kernel
theorem dd_Heap_cellOf_7 : decode prog_4_method_3_code 7 = .ok (.iadd, 1) := by decide +kernel
theorem dd_Heap_cellOf_8 : decode prog_4_method_3_code 8 = .ok (.iload_n 2, 1) := by decide +kernel
theorem dd_Heap_cellOf_9 : decode prog_4_method_3_code 9 = .ok (.iadd, 1) := by decide +kernel
theorem dd_Heap_cellOf_10 : decode prog_4_method_3_code 10 = .ok (.ireturn, 1) := by decide +kernel
theorem dd_Heap_collect_0 : decode prog_4_method_5_code 0 = .ok (.aload_n 0, 1) := by decide +kernel
theorem dd_Heap_collect_1 : decode prog_4_method_5_code 1 = .ok (.iconst 0, 1) := by decide +kernel
theorem dd_Heap_collect_2 : decode prog_4_method_5_code 2 = .ok (.putfield 44, 3) := by decide +kernel
theorem dd_Heap_collect_5 : decode prog_4_method_5_code 5 = .ok (.aload_n 0, 1) := by decide +kernel
theorem dd_Heap_collect_6 : decode prog_4_method_5_code 6 = .ok (.aload_n 1, 1) := by decide +kernel
theorem dd_Heap_collect_7 : decode prog_4_method_5_code 7 = .ok (.iconst 0, 1) := by decide +kernel
theorem dd_Heap_collect_8 : decode prog_4_method_5_code 8 = .ok (.aload_n 1, 1) := by decide +kernel
theorem dd_Heap_collect_9 : decode prog_4_method_5_code 9 = .ok (.getfield 47, 3) := by decide +kernel
theorem dd_Heap_collect_12 : decode prog_4_method_5_code 12 = .ok (.invokevirtual 63, 3) := by decide +kernel
theorem dd_Heap_collect_15 : decode prog_4_method_5_code 15 = .ok (.aload_n 0, 1) := by decide +kernel
theorem dd_Heap_collect_16 : decode prog_4_method_5_code 16 = .ok (.aload_n 2, 1) := by decide +kernel
theorem dd_Heap_collect_17 : decode prog_4_method_5_code 17 = .ok (.iconst 0, 1) := by decide +kernel
theorem dd_Heap_collect_18 : decode prog_4_method_5_code 18 = .ok (.aload_n 2, 1) := by decide +kernel
theorem dd_Heap_collect_19 : decode prog_4_method_5_code 19 = .ok (.getfield 47, 3) := by decide +kernel
theorem dd_Heap_collect_22 : decode prog_4_method_5_code 22 = .ok (.invokevirtual 63, 3) := by decide +kernel
theorem dd_Heap_collect_25 : decode prog_4_method_5_code 25 = .ok (.iconst 0, 1) := by decide +kernel
theorem dd_Heap_collect_26 : decode prog_4_method_5_code 26 = .ok (.istore_n 3, 1) := by decide +kernel
theorem dd_Heap_collect_27 : decode prog_4_method_5_code 27 = .ok (.iload_n 3, 1) := by decide +kernel
theorem dd_Heap_collect_28 : decode prog_4_method_5_code 28 = .ok (.aload_n 0, 1) := by decide +kernel
theorem dd_Heap_collect_29 : decode prog_4_method_5_code 29 = .ok (.getfield 44, 3) := by decide +kernel
theorem dd_Heap_collect_32 : decode prog_4_method_5_code 32 = .ok (.if_icmp .ge 52, 3) := by decide +kernel
theorem dd_Heap_collect_35 : decode prog_4_method_5_code 35 = .ok (.iload_n 3, 1) := by decide +kernel
theorem dd_Heap_collect_36 : decode prog_4_method_5_code 36 = .ok (.sipush 2000, 3) := by decide +kernel
theorem dd_Heap_collect_39 : decode prog_4_method_5_code 39 = .ok (.if_icmp .ge 45, 3) := by decide +kernel
theorem dd_Heap_collect_42 : decode prog_4_method_5_code 42 = .ok (.aload_n 0, 1) := by decide +kernel
theorem dd_Heap_collect_43 : decode prog_4_method_5_code 43 = .ok (.getfield 37, 3) := by decide +kernel
theorem dd_Heap_collect_46 : decode prog_4_method_5_code 46 = .ok (.iload_n 3, 1) := by decide +kernel
theorem dd_Heap_collect_47 : decode prog_4_method_5_code 47 = .ok (.iaload, 1) := by decide +kernel
theorem dd_Heap_collect_48 : decode prog_4_method_5_code 48 = .ok (.istore 4, 2) := by decide +kernel
theorem dd_Heap_collect_50 : decode prog_4_method_5_code 50 = .ok (.aload_n 0, 1) := by decide +kernel
theorem dd_Heap_collect_51 : decode prog_4_method_5_code 51 = .ok (.aload_n 0, 1) := by decide +kernel
theorem dd_Heap_collect_52 : decode prog_4_method_5_code 52 = .ok (.getfield 14, 3) := by decide +kernel
theorem dd_Heap_collect_55 : decode prog_4_method_5_code 55 = .ok (.aload_n 0, 1) := by decide +kernel
theorem dd_Heap_collect_56 : decode prog_4_method_5_code 56 = .ok (.iload 4, 2) := by decide +kernel
theorem dd_Heap_collect_58 : decode prog_4_method_5_code 58 = .ok (.iconst 0, 1) := by decide +kernel
theorem dd_Heap_collect_59 : decode prog_4_method_5_code 59 = .ok (.invokevirtual 67, 3) := by decide +kernel
theorem dd_Heap_collect_62 : decode prog_4_method_5_code 62 = .ok (.aload_n 0, 1) := by decide +kernel
theorem dd_Heap_collect_63 : decode prog_4_method_5_code 63 = .ok (.iload 4, 2) := by decide +kernel
theorem dd_Heap_collect_65 : decode prog_4_method_5_code 65 = .ok (.aload_n 0, 1) := by decide +kernel
theorem dd_Heap_collect_66 : decode prog_4_method_5_code 66 = .ok (.getfield 24, 3) := by decide +kernel
theorem dd_Heap_collect_69 : decode prog_4_method_5_code 69 = .ok (.iload 4, 2) := by decide +kernel
theorem dd_Heap_collect_71 : decode prog_4_method_5_code 71 = .ok (.iaload, 1) := by decide +kernel
theorem dd_Heap_collect_72 : decode prog_4_method_5_code 72 = .ok (.invokevirtual 67, 3) := by decide +kernel
theorem dd_Heap_collect_75 : decode prog_4_method_5_code 75 = .ok (.invokevirtual 63, 3) := by decide +kernel
theorem dd_Heap_collect_78 : decode prog_4_method_5_code 78 = .ok (.iinc 3 1, 3) := by decide +kernel
theorem dd_Heap_collect_81 : decode prog_4_method_5_code 81 = .ok (.goto (-54), 3) := by decide +kernel
theorem dd_Heap_collect_84 : decode prog_4_method_5_code 84 = .ok (.aload_n 0, 1) := by decide +kernel
theorem dd_Heap_collect_85 : decode prog_4_method_5_code 85 = .ok (.invokevirtual 71, 3) := by decide +kernel
theorem dd_Heap_collect_88 : decode prog_4_method_5_code 88 = .ok (.aload_n 0, 1) := by decide +kernel
theorem dd_Heap_collect_89 : decode prog_4_method_5_code 89 = .ok (.getfield 14, 3) := by decide +kernel
theorem dd_Heap_collect_92 : decode prog_4_method_5_code 92 = .ok (.getfield 47, 3) := by decide +kernel
theorem dd_Heap_collect_95 : decode prog_4_method_5_code 95 = .ok (.ireturn, 1) := by decide +kernel
theorem dd_Heap_make_0 : decode prog_4_method_4_code 0 = .ok (.aload_n 0, 1) := by decide +kernel
theorem dd_Heap_make_1 : decode prog_4_method_4_code 1 = .ok (.getfield 14, 3) := by decide +kernel
theorem dd_Heap_make_4 : decode prog_4_method_4_code 4 = .ok (.getfield 47, 3) := by decide +kernel
theorem dd_Heap_make_7 : decode prog_4_method_4_code 7 = .ok (.iconst 1, 1) := by decide +kernel
theorem dd_Heap_make_8 : decode prog_4_method_4_code 8 = .ok (.iadd, 1) := by decide +kernel
theorem dd_Heap_make_9 : decode prog_4_method_4_code 9 = .ok (.i2l, 1) := by decide +kernel
theorem dd_Heap_make_10 : decode prog_4_method_4_code 10 = .ok (.lload_n 2, 1) := by decide +kernel
theorem dd_Heap_make_11 : decode prog_4_method_4_code 11 = .ok (.ladd, 1) := by decide +kernel
theorem dd_Heap_make_12 : decode prog_4_method_4_code 12 = .ok (.ldc2_w 50, 3) := by decide +kernel
theorem dd_Heap_make_15 : decode prog_4_method_4_code 15 = .ok (.lcmp, 1) := by decide +kernel
theorem dd_Heap_make_16 : decode prog_4_method_4_code 16 = .ok (.ifCond .le 25, 3) := by decide +kernel
theorem dd_Heap_make_19 : decode prog_4_method_4_code 19 = .ok (.aload_n 0, 1) := by decide +kernel
theorem dd_Heap_make_20 : decode prog_4_method_4_code 20 = .ok (.aload 4, 2) := by decide +kernel
theorem dd_Heap_make_22 : decode prog_4_method_4_code 22 = .ok (.aload 5, 2) := by decide +kernel
theorem dd_Heap_make_24 : decode prog_4_method_4_code 24 = .ok (.invokevirtual 52, 3) := by decide +kernel
theorem dd_Heap_make_27 : decode prog_4_method_4_code 27 = .ok (.iconst 1, 1) := by decide +kernel
theorem dd_Heap_make_28 : decode prog_4_method_4_code 28 = .ok (.iadd, 1) := by decide +kernel
theorem dd_Heap_make_29 : decode prog_4_method_4_code 29 = .ok (.i2l, 1) := by decide +kernel
theorem dd_Heap_make_30 : decode prog_4_method_4_code 30 = .ok (.lload_n 2, 1) := by decide +kernel
theorem dd_Heap_make_31 : decode prog_4_method_4_code 31 = .ok (.ladd, 1) := by decide +kernel
theorem dd_Heap_make_32 : decode prog_4_method_4_code 32 = .ok (.ldc2_w 50, 3) := by decide +kernel
theorem dd_Heap_make_35 : decode prog_4_method_4_code 35 = .ok (.lcmp, 1) := by decide +kernel
theorem dd_Heap_make_36 : decode prog_4_method_4_code 36 = .ok (.ifCond .le 5, 3) := by decide +kernel
theorem dd_Heap_make_39 : decode prog_4_method_4_code 39 = .ok (.iconst 0, 1) := by decide +kernel
theorem dd_Heap_make_40 : decode prog_4_method_4_code 40 = .ok (.ireturn, 1) := by decide +kernel
theorem dd_Heap_make_41 : decode prog_4_method_4_code 41 = .ok (.aload_n 0, 1) := by decide +kernel
theorem dd_Heap_make_42 : decode prog_4_method_4_code 42 = .ok (.dup, 1) := by decide +kernel
theorem dd_Heap_make_43 : decode prog_4_method_4_code 43 = .ok (.getfield 40, 3) := by decide +kernel
theorem dd_Heap_make_46 : decode prog_4_method_4_code 46 = .ok (.iconst 1, 1) := by decide +kernel
theorem dd_Heap_make_47 : decode prog_4_method_4_code 47 = .ok (.isub, 1) := by decide +kernel
theorem dd_Heap_make_48 : decode prog_4_method_4_code 48 = .ok (.putfield 40, 3) := by decide +kernel
theorem dd_Heap_make_51 : decode prog_4_method_4_code 51 = .ok (.aload_n 0, 1) := by decide +kernel
theorem dd_Heap_make_52 : decode prog_4_method_4_code 52 = .ok (.getfield 34, 3) := by decide +kernel
theorem dd_Heap_make_55 : decode prog_4_method_4_code 55 = .ok (.aload_n 0, 1) := by decide +kernel
theorem dd_Heap_make_56 : decode prog_4_method_4_code 56 = .ok (.getfield 40, 3) := by decide +kernel
theorem dd_Heap_make_59 : decode prog_4_method_4_code 59 = .ok (.iaload, 1) := by decide +kernel
theorem dd_Heap_make_60 : decode prog_4_method_4_code 60 = .ok (.istore 6, 2) := by decide +kernel
theorem dd_Heap_make_62 : decode prog_4_method_4_code 62 = .ok (.aload_n 0, 1) := by decide +kernel
theorem dd_Heap_make_63 : decode prog_4_method_4_code 63 = .ok (.getfield 20, 3) := by decide +kernel
theorem dd_Heap_make_66 : decode prog_4_method_4_code 66 = .ok (.iload 6, 2) := by decide +kernel
theorem dd_Heap_make_68 : decode prog_4_method_4_code 68 = .ok (.iload_n 1, 1) := by decide +kernel
theorem dd_Heap_make_69 : decode prog_4_method_4_code 69 = .ok (.iastore, 1) := by decide +kernel
theorem dd_Heap_make_70 : decode prog_4_method_4_code 70 = .ok (.aload_n 0, 1) := by decide +kernel
theorem dd_Heap_make_71 : decode prog_4_method_4_code 71 = .ok (.getfield 24, 3) := by decide +kernel
theorem dd_Heap_make_74 : decode prog_4_method_4_code 74 = .ok (.iload 6, 2) := by decide +kernel
theorem dd_Heap_make_76 : decode prog_4_method_4_code 76 = .ok (.lload_n 2, 1) := by decide +kernel
theorem dd_Heap_make_77 : decode prog_4_method_4_code 77 = .ok (.l2i, 1) := by decide +kernel
theorem dd_Heap_make_78 : decode prog_4_method_4_code 78 = .ok (.iastore, 1) := by decide +kernel
theorem dd_Heap_make_79 : decode prog_4_method_4_code 79 = .ok (.aload_n 0, 1) := by decide +kernel
theorem dd_Heap_make_80 : decode prog_4_method_4_code 80 = .ok (.getfield 27, 3) := by decide +kernel
theorem dd_Heap_make_83 : decode prog_4_method_4_code 83 = .ok (.iload 6, 2) := by decide +kernel
theorem dd_Heap_make_85 : decode prog_4_method_4_code 85 = .ok (.aload_n 0, 1) := by decide +kernel
theorem dd_Heap_make_86 : decode prog_4_method_4_code 86 = .ok (.getfield 14, 3) := by decide +kernel
theorem dd_Heap_make_89 : decode prog_4_method_4_code 89 = .ok (.getfield 47, 3) := by decide +kernel
theorem dd_Heap_make_92 : decode prog_4_method_4_code 92 = .ok (.iastore, 1) := by decide +kernel
theorem dd_Heap_make_93 : decode prog_4_method_4_code 93 = .ok (.aload_n 0, 1) := by decide +kernel
theorem dd_Heap_make_94 : decode prog_4_method_4_code 94 = .ok (.getfield 14, 3) := by decide +kernel
theorem dd_Heap_make_97 : decode prog_4_method_4_code 97 = .ok (.iload 6, 2) := by decide +kernel
theorem dd_Heap_make_99 : decode prog_4_method_4_code 99 = .ok (.i2l, 1) := by decide +kernel
theorem dd_Heap_make_100 : decode prog_4_method_4_code 100 = .ok (.invokevirtual 56, 3) := by decide +kernel
theorem dd_Heap_make_103 : decode prog_4_method_4_code 103 = .ok (.aload_n 0, 1) := by decide +kernel
theorem dd_Heap_make_104 : decode prog_4_method_4_code 104 = .ok (.getfield 14, 3) := by decide +kernel
theorem dd_Heap_make_107 : decode prog_4_method_4_code 107 = .ok (.lload_n 2, 1) := by decide +kernel
theorem dd_Heap_make_108 : decode prog_4_method_4_code 108 = .ok (.l2i, 1) := by decide +kernel
theorem dd_Heap_make_109 : decode prog_4_method_4_code 109 = .ok (.invokevirtual 60, 3) := by decide +kernel
theorem dd_Heap_make_112 : decode prog_4_method_4_code 112 = .ok (.iload 6, 2) := by decide +kernel
theorem dd_Heap_make_114 : decode prog_4_method_4_code 114 = .ok (.ireturn, 1) := by decide +kernel
theorem dd_Values_copy_0 : decode prog_12_method_6_code 0 = .ok (.aload_n 0, 1) := by decide +kernel
theorem dd_Values_copy_1 : decode prog_12_method_6_code 1 = .ok (.getfield 7, 3) := by decide +kernel
theorem dd_Values_copy_4 : decode prog_12_method_6_code 4 = .ok (.iload_n 3, 1) := by decide +kernel
theorem dd_Values_copy_5 : decode prog_12_method_6_code 5 = .ok (.aload_n 1, 1) := by decide +kernel
theorem dd_Values_copy_6 : decode prog_12_method_6_code 6 = .ok (.getfield 7, 3) := by decide +kernel
theorem dd_Values_copy_9 : decode prog_12_method_6_code 9 = .ok (.iload_n 2, 1) := by decide +kernel
theorem dd_Values_copy_10 : decode prog_12_method_6_code 10 = .ok (.laload, 1) := by decide +kernel
theorem dd_Values_copy_11 : decode prog_12_method_6_code 11 = .ok (.lastore, 1) := by decide +kernel
theorem dd_Values_copy_12 : decode prog_12_method_6_code 12 = .ok (.aload_n 0, 1) := by decide +kernel
theorem dd_Values_copy_13 : decode prog_12_method_6_code 13 = .ok (.getfield 13, 3) := by decide +kernel
theorem dd_Values_copy_16 : decode prog_12_method_6_code 16 = .ok (.iload_n 3, 1) := by decide +kernel
theorem dd_Values_copy_17 : decode prog_12_method_6_code 17 = .ok (.aload_n 1, 1) := by decide +kernel
theorem dd_Values_copy_18 : decode prog_12_method_6_code 18 = .ok (.getfield 13, 3) := by decide +kernel
theorem dd_Values_copy_21 : decode prog_12_method_6_code 21 = .ok (.iload_n 2, 1) := by decide +kernel
theorem dd_Values_copy_22 : decode prog_12_method_6_code 22 = .ok (.baload, 1) := by decide +kernel
theorem dd_Values_copy_23 : decode prog_12_method_6_code 23 = .ok (.bastore, 1) := by decide +kernel
theorem dd_Values_copy_24 : decode prog_12_method_6_code 24 = .ok (.return_, 1) := by decide +kernel
theorem dd_Machine_setCell_0 : decode prog_5_method_21_code 0 = .ok (.aload_n 0, 1) := by decide +kernel
theorem dd_Machine_setCell_1 : decode prog_5_method_21_code 1 = .ok (.getfield 26, 3) := by decide +kernel
theorem dd_Machine_setCell_4 : decode prog_5_method_21_code 4 = .ok (.getfield 344, 3) := by decide +kernel
theorem dd_Machine_setCell_7 : decode prog_5_method_21_code 7 = .ok (.aload_n 0, 1) := by decide +kernel
theorem dd_Machine_setCell_8 : decode prog_5_method_21_code 8 = .ok (.getfield 14, 3) := by decide +kernel
theorem dd_Machine_setCell_11 : decode prog_5_method_21_code 11 = .ok (.iload_n 3, 1) := by decide +kernel
theorem dd_Machine_setCell_12 : decode prog_5_method_21_code 12 = .ok (.iload_n 1, 1) := by decide +kernel
theorem dd_Machine_setCell_13 : decode prog_5_method_21_code 13 = .ok (.invokevirtual 270, 3) := by decide +kernel
theorem dd_Machine_setCell_16 : decode prog_5_method_21_code 16 = .ok (.iload_n 2, 1) := by decide +kernel
theorem dd_Machine_setCell_17 : decode prog_5_method_21_code 17 = .ok (.iconst 3, 1) := by decide +kernel
theorem dd_Machine_setCell_18 : decode prog_5_method_21_code 18 = .ok (.if_icmp .ne 24, 3) := by decide +kernel
theorem dd_Machine_setCell_21 : decode prog_5_method_21_code 21 = .ok (.aload_n 0, 1) := by decide +kernel
theorem dd_Machine_setCell_22 : decode prog_5_method_21_code 22 = .ok (.getfield 26, 3) := by decide +kernel
theorem dd_Machine_setCell_25 : decode prog_5_method_21_code 25 = .ok (.getfield 344, 3) := by decide +kernel
theorem dd_Machine_setCell_28 : decode prog_5_method_21_code 28 = .ok (.getfield 341, 3) := by decide +kernel
theorem dd_Machine_setCell_31 : decode prog_5_method_21_code 31 = .ok (.iload_n 1, 1) := by decide +kernel
theorem dd_Machine_setCell_32 : decode prog_5_method_21_code 32 = .ok (.dup2, 1) := by decide +kernel
theorem dd_Machine_setCell_33 : decode prog_5_method_21_code 33 = .ok (.laload, 1) := by decide +kernel
theorem dd_Machine_setCell_34 : decode prog_5_method_21_code 34 = .ok (.ldc2_w 347, 3) := by decide +kernel
theorem dd_Machine_setCell_37 : decode prog_5_method_21_code 37 = .ok (.land, 1) := by decide +kernel
theorem dd_Machine_setCell_38 : decode prog_5_method_21_code 38 = .ok (.lastore, 1) := by decide +kernel
theorem dd_Machine_setCell_39 : decode prog_5_method_21_code 39 = .ok (.goto 26, 3) := by decide +kernel
theorem dd_Machine_setCell_42 : decode prog_5_method_21_code 42 = .ok (.iload_n 2, 1) := by decide +kernel
theorem dd_Machine_setCell_43 : decode prog_5_method_21_code 43 = .ok (.iconst 4, 1) := by decide +kernel
theorem dd_Machine_setCell_44 : decode prog_5_method_21_code 44 = .ok (.if_icmp .ne 21, 3) := by decide +kernel
theorem dd_Machine_setCell_47 : decode prog_5_method_21_code 47 = .ok (.aload_n 0, 1) := by decide +kernel
theorem dd_Machine_setCell_48 : decode prog_5_method_21_code 48 = .ok (.getfield 26, 3) := by decide +kernel
theorem dd_Machine_setCell_51 : decode prog_5_method_21_code 51 = .ok (.getfield 344, 3) := by decide +kernel
theorem dd_Machine_setCell_54 : decode prog_5_method_21_code 54 = .ok (.getfield 341, 3) := by decide +kernel
theorem dd_Machine_setCell_57 : decode prog_5_method_21_code 57 = .ok (.iload_n 1, 1) := by decide +kernel
theorem dd_Machine_setCell_58 : decode prog_5_method_21_code 58 = .ok (.dup2, 1) := by decide +kernel
theorem dd_Machine_setCell_59 : decode prog_5_method_21_code 59 = .ok (.laload, 1) := by decide +kernel
theorem dd_Machine_setCell_60 : decode prog_5_method_21_code 60 = .ok (.ldc2_w 349, 3) := by decide +kernel
theorem dd_Machine_setCell_63 : decode prog_5_method_21_code 63 = .ok (.land, 1) := by decide +kernel
theorem dd_Machine_setCell_64 : decode prog_5_method_21_code 64 = .ok (.lastore, 1) := by decide +kernel
theorem dd_Machine_setCell_65 : decode prog_5_method_21_code 65 = .ok (.return_, 1) := by decide +kernel
theorem dd_Machine_makeArray_0 : decode prog_5_method_26_code 0 = .ok (.aload_n 0, 1) := by decide +kernel
theorem dd_Machine_makeArray_1 : decode prog_5_method_26_code 1 = .ok (.getfield 14, 3) := by decide +kernel
theorem dd_Machine_makeArray_4 : decode prog_5_method_26_code 4 = .ok (.getfield 341, 3) := by decide +kernel
theorem dd_Machine_makeArray_7 : decode prog_5_method_26_code 7 = .ok (.aload_n 0, 1) := by decide +kernel
theorem dd_Machine_makeArray_8 : decode prog_5_method_26_code 8 = .ok (.getfield 14, 3) := by decide +kernel
theorem dd_Machine_makeArray_11 : decode prog_5_method_26_code 11 = .ok (.getfield 66, 3) := by decide +kernel
theorem dd_Machine_makeArray_14 : decode prog_5_method_26_code 14 = .ok (.iconst 1, 1) := by decide +kernel
theorem dd_Machine_makeArray_15 : decode prog_5_method_26_code 15 = .ok (.isub, 1) := by decide +kernel
theorem dd_Machine_makeArray_16 : decode prog_5_method_26_code 16 = .ok (.laload, 1) := by decide +kernel
theorem dd_Machine_makeArray_17 : decode prog_5_method_26_code 17 = .ok (.ldc2_w 255, 3) := by decide +kernel
theorem dd_Machine_makeArray_20 : decode prog_5_method_26_code 20 = .ok (.land, 1) := by decide +kernel
theorem dd_Machine_makeArray_21 : decode prog_5_method_26_code 21 = .ok (.lstore_n 3, 1) := by decide +kernel
theorem dd_Machine_makeArray_22 : decode prog_5_method_26_code 22 = .ok (.aload_n 0, 1) := by decide +kernel
theorem dd_Machine_makeArray_23 : decode prog_5_method_26_code 23 = .ok (.getfield 26, 3) := by decide +kernel
theorem dd_Machine_makeArray_26 : decode prog_5_method_26_code 26 = .ok (.aload_n 0, 1) := by decide +kernel
theorem dd_Machine_makeArray_27 : decode prog_5_method_26_code 27 = .ok (.getfield 60, 3) := by decide +kernel
theorem dd_Machine_makeArray_30 : decode prog_5_method_26_code 30 = .ok (.getfield 274, 3) := by decide +kernel
theorem dd_Machine_makeArray_33 : decode prog_5_method_26_code 33 = .ok (.iload_n 1, 1) := by decide +kernel
theorem dd_Machine_makeArray_34 : decode prog_5_method_26_code 34 = .ok (.iaload, 1) := by decide +kernel
theorem dd_Machine_makeArray_35 : decode prog_5_method_26_code 35 = .ok (.lload_n 3, 1) := by decide +kernel
theorem dd_Machine_makeArray_36 : decode prog_5_method_26_code 36 = .ok (.aload_n 0, 1) := by decide +kernel
theorem dd_Machine_makeArray_37 : decode prog_5_method_26_code 37 = .ok (.getfield 14, 3) := by decide +kernel
theorem dd_Machine_makeArray_40 : decode prog_5_method_26_code 40 = .ok (.aload_n 0, 1) := by decide +kernel
theorem dd_Machine_makeArray_41 : decode prog_5_method_26_code 41 = .ok (.getfield 20, 3) := by decide +kernel
theorem dd_Machine_makeArray_44 : decode prog_5_method_26_code 44 = .ok (.invokevirtual 367, 3) := by decide +kernel
theorem dd_Machine_makeArray_47 : decode prog_5_method_26_code 47 = .ok (.istore 5, 2) := by decide +kernel
theorem dd_Machine_makeArray_49 : decode prog_5_method_26_code 49 = .ok (.iload 5, 2) := by decide +kernel
theorem dd_Machine_makeArray_51 : decode prog_5_method_26_code 51 = .ok (.ifCond .ne 10, 3) := by decide +kernel
theorem dd_Machine_makeArray_54 : decode prog_5_method_26_code 54 = .ok (.aload_n 0, 1) := by decide +kernel
theorem dd_Machine_makeArray_55 : decode prog_5_method_26_code 55 = .ok (.bipush 11, 2) := by decide +kernel
theorem dd_Machine_makeArray_57 : decode prog_5_method_26_code 57 = .ok (.putfield 163, 3) := by decide +kernel
theorem dd_Machine_makeArray_60 : decode prog_5_method_26_code 60 = .ok (.return_, 1) := by decide +kernel
theorem dd_Machine_makeArray_61 : decode prog_5_method_26_code 61 = .ok (.aload_n 0, 1) := by decide +kernel
theorem dd_Machine_makeArray_62 : decode prog_5_method_26_code 62 = .ok (.getfield 14, 3) := by decide +kernel
theorem dd_Machine_makeArray_65 : decode prog_5_method_26_code 65 = .ok (.dup, 1) := by decide +kernel
theorem dd_Machine_makeArray_66 : decode prog_5_method_26_code 66 = .ok (.getfield 66, 3) := by decide +kernel
theorem dd_Machine_makeArray_69 : decode prog_5_method_26_code 69 = .ok (.iconst 1, 1) := by decide +kernel
theorem dd_Machine_makeArray_70 : decode prog_5_method_26_code 70 = .ok (.isub, 1) := by decide +kernel
theorem dd_Machine_makeArray_71 : decode prog_5_method_26_code 71 = .ok (.putfield 66, 3) := by decide +kernel
theorem dd_Machine_makeArray_74 : decode prog_5_method_26_code 74 = .ok (.iload_n 2, 1) := by decide +kernel
theorem dd_Machine_makeArray_75 : decode prog_5_method_26_code 75 = .ok (.ifCond .eq 64, 3) := by decide +kernel
theorem dd_Machine_makeArray_78 : decode prog_5_method_26_code 78 = .ok (.aload_n 0, 1) := by decide +kernel
theorem dd_Machine_makeArray_79 : decode prog_5_method_26_code 79 = .ok (.getfield 14, 3) := by decide +kernel
theorem dd_Machine_makeArray_82 : decode prog_5_method_26_code 82 = .ok (.dup, 1) := by decide +kernel
theorem dd_Machine_makeArray_83 : decode prog_5_method_26_code 83 = .ok (.getfield 66, 3) := by decide +kernel
theorem dd_Machine_makeArray_86 : decode prog_5_method_26_code 86 = .ok (.iconst 1, 1) := by decide +kernel
theorem dd_Machine_makeArray_87 : decode prog_5_method_26_code 87 = .ok (.isub, 1) := by decide +kernel
theorem dd_Machine_makeArray_88 : decode prog_5_method_26_code 88 = .ok (.putfield 66, 3) := by decide +kernel
theorem dd_Machine_makeArray_91 : decode prog_5_method_26_code 91 = .ok (.iconst 0, 1) := by decide +kernel
theorem dd_Machine_makeArray_92 : decode prog_5_method_26_code 92 = .ok (.istore 6, 2) := by decide +kernel
theorem dd_Machine_makeArray_94 : decode prog_5_method_26_code 94 = .ok (.iload 6, 2) := by decide +kernel
theorem dd_Machine_makeArray_96 : decode prog_5_method_26_code 96 = .ok (.i2l, 1) := by decide +kernel
theorem dd_Machine_makeArray_97 : decode prog_5_method_26_code 97 = .ok (.lload_n 3, 1) := by decide +kernel
theorem dd_Machine_makeArray_98 : decode prog_5_method_26_code 98 = .ok (.lcmp, 1) := by decide +kernel
theorem dd_Machine_makeArray_99 : decode prog_5_method_26_code 99 = .ok (.ifCond .ge 40, 3) := by decide +kernel
theorem dd_Machine_makeArray_102 : decode prog_5_method_26_code 102 = .ok (.aload_n 0, 1) := by decide +kernel
theorem dd_Machine_makeArray_103 : decode prog_5_method_26_code 103 = .ok (.aload_n 0, 1) := by decide +kernel
theorem dd_Machine_makeArray_104 : decode prog_5_method_26_code 104 = .ok (.getfield 26, 3) := by decide +kernel
theorem dd_Machine_makeArray_107 : decode prog_5_method_26_code 107 = .ok (.iload 5, 2) := by decide +kernel
theorem dd_Machine_makeArray_109 : decode prog_5_method_26_code 109 = .ok (.iload 6, 2) := by decide +kernel
theorem dd_Machine_makeArray_111 : decode prog_5_method_26_code 111 = .ok (.invokevirtual 355, 3) := by decide +kernel
theorem dd_Machine_makeArray_114 : decode prog_5_method_26_code 114 = .ok (.aload_n 0, 1) := by decide +kernel
theorem dd_Machine_makeArray_115 : decode prog_5_method_26_code 115 = .ok (.getfield 60, 3) := by decide +kernel
theorem dd_Machine_makeArray_118 : decode prog_5_method_26_code 118 = .ok (.iload_n 1, 1) := by decide +kernel
theorem dd_Machine_makeArray_119 : decode prog_5_method_26_code 119 = .ok (.iconst 0, 1) := by decide +kernel
theorem dd_Machine_makeArray_120 : decode prog_5_method_26_code 120 = .ok (.invokevirtual 358, 3) := by decide +kernel
theorem dd_Machine_makeArray_123 : decode prog_5_method_26_code 123 = .ok (.aload_n 0, 1) := by decide +kernel
theorem dd_Machine_makeArray_124 : decode prog_5_method_26_code 124 = .ok (.getfield 14, 3) := by decide +kernel
theorem dd_Machine_makeArray_127 : decode prog_5_method_26_code 127 = .ok (.getfield 66, 3) := by decide +kernel
theorem dd_Machine_makeArray_130 : decode prog_5_method_26_code 130 = .ok (.invokevirtual 361, 3) := by decide +kernel
theorem dd_Machine_makeArray_133 : decode prog_5_method_26_code 133 = .ok (.iinc 6 1, 3) := by decide +kernel
theorem dd_Machine_makeArray_136 : decode prog_5_method_26_code 136 = .ok (.goto (-42), 3) := by decide +kernel
theorem dd_Machine_makeArray_139 : decode prog_5_method_26_code 139 = .ok (.aload_n 0, 1) := by decide +kernel
theorem dd_Machine_makeArray_140 : decode prog_5_method_26_code 140 = .ok (.getfield 14, 3) := by decide +kernel
theorem dd_Machine_makeArray_143 : decode prog_5_method_26_code 143 = .ok (.iload 5, 2) := by decide +kernel
theorem dd_Machine_makeArray_145 : decode prog_5_method_26_code 145 = .ok (.i2l, 1) := by decide +kernel
theorem dd_Machine_makeArray_146 : decode prog_5_method_26_code 146 = .ok (.invokevirtual 91, 3) := by decide +kernel
theorem dd_Machine_makeArray_149 : decode prog_5_method_26_code 149 = .ok (.return_, 1) := by decide +kernel
theorem dd_Machine_makeArrayOf_0 : decode prog_5_method_27_code 0 = .ok (.aload_n 0, 1) := by decide +kernel
theorem dd_Machine_makeArrayOf_1 : decode prog_5_method_27_code 1 = .ok (.getfield 26, 3) := by decide +kernel
theorem dd_Machine_makeArrayOf_4 : decode prog_5_method_27_code 4 = .ok (.aload_n 0, 1) := by decide +kernel
theorem dd_Machine_makeArrayOf_5 : decode prog_5_method_27_code 5 = .ok (.getfield 60, 3) := by decide +kernel
theorem dd_Machine_makeArrayOf_8 : decode prog_5_method_27_code 8 = .ok (.getfield 274, 3) := by decide +kernel
theorem dd_Machine_makeArrayOf_11 : decode prog_5_method_27_code 11 = .ok (.iload_n 1, 1) := by decide +kernel
theorem dd_Machine_makeArrayOf_12 : decode prog_5_method_27_code 12 = .ok (.iaload, 1) := by decide +kernel
theorem dd_Machine_makeArrayOf_13 : decode prog_5_method_27_code 13 = .ok (.iload_n 2, 1) := by decide +kernel
theorem dd_Machine_makeArrayOf_14 : decode prog_5_method_27_code 14 = .ok (.i2l, 1) := by decide +kernel
theorem dd_Machine_makeArrayOf_15 : decode prog_5_method_27_code 15 = .ok (.aload_n 0, 1) := by decide +kernel
theorem dd_Machine_makeArrayOf_16 : decode prog_5_method_27_code 16 = .ok (.getfield 14, 3) := by decide +kernel
theorem dd_Machine_makeArrayOf_19 : decode prog_5_method_27_code 19 = .ok (.aload_n 0, 1) := by decide +kernel
theorem dd_Machine_makeArrayOf_20 : decode prog_5_method_27_code 20 = .ok (.getfield 20, 3) := by decide +kernel
theorem dd_Machine_makeArrayOf_23 : decode prog_5_method_27_code 23 = .ok (.invokevirtual 367, 3) := by decide +kernel
theorem dd_Machine_makeArrayOf_26 : decode prog_5_method_27_code 26 = .ok (.istore_n 3, 1) := by decide +kernel
theorem dd_Machine_makeArrayOf_27 : decode prog_5_method_27_code 27 = .ok (.iload_n 3, 1) := by decide +kernel
theorem dd_Machine_makeArrayOf_28 : decode prog_5_method_27_code 28 = .ok (.ifCond .ne 10, 3) := by decide +kernel
theorem dd_Machine_makeArrayOf_31 : decode prog_5_method_27_code 31 = .ok (.aload_n 0, 1) := by decide +kernel
theorem dd_Machine_makeArrayOf_32 : decode prog_5_method_27_code 32 = .ok (.bipush 11, 2) := by decide +kernel
theorem dd_Machine_makeArrayOf_34 : decode prog_5_method_27_code 34 = .ok (.putfield 163, 3) := by decide +kernel
theorem dd_Machine_makeArrayOf_37 : decode prog_5_method_27_code 37 = .ok (.return_, 1) := by decide +kernel
theorem dd_Machine_makeArrayOf_38 : decode prog_5_method_27_code 38 = .ok (.aload_n 0, 1) := by decide +kernel
theorem dd_Machine_makeArrayOf_39 : decode prog_5_method_27_code 39 = .ok (.getfield 14, 3) := by decide +kernel
theorem dd_Machine_makeArrayOf_42 : decode prog_5_method_27_code 42 = .ok (.dup, 1) := by decide +kernel
theorem dd_Machine_makeArrayOf_43 : decode prog_5_method_27_code 43 = .ok (.getfield 66, 3) := by decide +kernel
theorem dd_Machine_makeArrayOf_46 : decode prog_5_method_27_code 46 = .ok (.iload_n 2, 1) := by decide +kernel
theorem dd_Machine_makeArrayOf_47 : decode prog_5_method_27_code 47 = .ok (.isub, 1) := by decide +kernel
theorem dd_Machine_makeArrayOf_48 : decode prog_5_method_27_code 48 = .ok (.putfield 66, 3) := by decide +kernel
theorem dd_Machine_makeArrayOf_51 : decode prog_5_method_27_code 51 = .ok (.iconst 0, 1) := by decide +kernel
theorem dd_Machine_makeArrayOf_52 : decode prog_5_method_27_code 52 = .ok (.istore 4, 2) := by decide +kernel
theorem dd_Machine_makeArrayOf_54 : decode prog_5_method_27_code 54 = .ok (.iload 4, 2) := by decide +kernel
theorem dd_Machine_makeArrayOf_56 : decode prog_5_method_27_code 56 = .ok (.iload_n 2, 1) := by decide +kernel
theorem dd_Machine_makeArrayOf_57 : decode prog_5_method_27_code 57 = .ok (.if_icmp .ge 42, 3) := by decide +kernel
theorem dd_Machine_makeArrayOf_60 : decode prog_5_method_27_code 60 = .ok (.aload_n 0, 1) := by decide +kernel
theorem dd_Machine_makeArrayOf_61 : decode prog_5_method_27_code 61 = .ok (.aload_n 0, 1) := by decide +kernel
theorem dd_Machine_makeArrayOf_62 : decode prog_5_method_27_code 62 = .ok (.getfield 26, 3) := by decide +kernel
theorem dd_Machine_makeArrayOf_65 : decode prog_5_method_27_code 65 = .ok (.iload_n 3, 1) := by decide +kernel
theorem dd_Machine_makeArrayOf_66 : decode prog_5_method_27_code 66 = .ok (.iload 4, 2) := by decide +kernel
theorem dd_Machine_makeArrayOf_68 : decode prog_5_method_27_code 68 = .ok (.invokevirtual 355, 3) := by decide +kernel
theorem dd_Machine_makeArrayOf_71 : decode prog_5_method_27_code 71 = .ok (.aload_n 0, 1) := by decide +kernel
theorem dd_Machine_makeArrayOf_72 : decode prog_5_method_27_code 72 = .ok (.getfield 60, 3) := by decide +kernel
theorem dd_Machine_makeArrayOf_75 : decode prog_5_method_27_code 75 = .ok (.iload_n 1, 1) := by decide +kernel
theorem dd_Machine_makeArrayOf_76 : decode prog_5_method_27_code 76 = .ok (.iconst 0, 1) := by decide +kernel
theorem dd_Machine_makeArrayOf_77 : decode prog_5_method_27_code 77 = .ok (.invokevirtual 358, 3) := by decide +kernel
theorem dd_Machine_makeArrayOf_80 : decode prog_5_method_27_code 80 = .ok (.aload_n 0, 1) := by decide +kernel
theorem dd_Machine_makeArrayOf_81 : decode prog_5_method_27_code 81 = .ok (.getfield 14, 3) := by decide +kernel
theorem dd_Machine_makeArrayOf_84 : decode prog_5_method_27_code 84 = .ok (.getfield 66, 3) := by decide +kernel
theorem dd_Machine_makeArrayOf_87 : decode prog_5_method_27_code 87 = .ok (.iload 4, 2) := by decide +kernel
theorem dd_Machine_makeArrayOf_89 : decode prog_5_method_27_code 89 = .ok (.iadd, 1) := by decide +kernel
theorem dd_Machine_makeArrayOf_90 : decode prog_5_method_27_code 90 = .ok (.invokevirtual 361, 3) := by decide +kernel
theorem dd_Machine_makeArrayOf_93 : decode prog_5_method_27_code 93 = .ok (.iinc 4 1, 3) := by decide +kernel
theorem dd_Machine_makeArrayOf_96 : decode prog_5_method_27_code 96 = .ok (.goto (-42), 3) := by decide +kernel
theorem dd_Machine_makeArrayOf_99 : decode prog_5_method_27_code 99 = .ok (.aload_n 0, 1) := by decide +kernel
theorem dd_Machine_makeArrayOf_100 : decode prog_5_method_27_code 100 = .ok (.getfield 14, 3) := by decide +kernel
theorem dd_Machine_makeArrayOf_103 : decode prog_5_method_27_code 103 = .ok (.iload_n 3, 1) := by decide +kernel
theorem dd_Machine_makeArrayOf_104 : decode prog_5_method_27_code 104 = .ok (.i2l, 1) := by decide +kernel
theorem dd_Machine_makeArrayOf_105 : decode prog_5_method_27_code 105 = .ok (.invokevirtual 91, 3) := by decide +kernel
theorem dd_Machine_makeArrayOf_108 : decode prog_5_method_27_code 108 = .ok (.return_, 1) := by decide +kernel
theorem dd_Machine_hasElements_0 : decode prog_5_method_28_code 0 = .ok (.aload_n 0, 1) := by decide +kernel
theorem dd_Machine_hasElements_1 : decode prog_5_method_28_code 1 = .ok (.getfield 14, 3) := by decide +kernel
theorem dd_Machine_hasElements_4 : decode prog_5_method_28_code 4 = .ok (.getfield 341, 3) := by decide +kernel
theorem dd_Machine_hasElements_7 : decode prog_5_method_28_code 7 = .ok (.iload_n 1, 1) := by decide +kernel
theorem dd_Machine_hasElements_8 : decode prog_5_method_28_code 8 = .ok (.laload, 1) := by decide +kernel
theorem dd_Machine_hasElements_9 : decode prog_5_method_28_code 9 = .ok (.l2i, 1) := by decide +kernel
theorem dd_Machine_hasElements_10 : decode prog_5_method_28_code 10 = .ok (.istore 4, 2) := by decide +kernel
theorem dd_Machine_hasElements_12 : decode prog_5_method_28_code 12 = .ok (.iload 4, 2) := by decide +kernel
theorem dd_Machine_hasElements_14 : decode prog_5_method_28_code 14 = .ok (.ifCond .ne 12, 3) := by decide +kernel
theorem dd_Machine_hasElements_17 : decode prog_5_method_28_code 17 = .ok (.aload_n 0, 1) := by decide +kernel
theorem dd_Machine_hasElements_18 : decode prog_5_method_28_code 18 = .ok (.bipush 8, 2) := by decide +kernel
theorem dd_Machine_hasElements_20 : decode prog_5_method_28_code 20 = .ok (.putfield 163, 3) := by decide +kernel
theorem dd_Machine_hasElements_23 : decode prog_5_method_28_code 23 = .ok (.goto 41, 3) := by decide +kernel
theorem dd_Machine_hasElements_26 : decode prog_5_method_28_code 26 = .ok (.aload_n 0, 1) := by decide +kernel
theorem dd_Machine_hasElements_27 : decode prog_5_method_28_code 27 = .ok (.getfield 14, 3) := by decide +kernel
theorem dd_Machine_hasElements_30 : decode prog_5_method_28_code 30 = .ok (.getfield 341, 3) := by decide +kernel
theorem dd_Machine_hasElements_33 : decode prog_5_method_28_code 33 = .ok (.iload_n 1, 1) := by decide +kernel
theorem dd_Machine_hasElements_34 : decode prog_5_method_28_code 34 = .ok (.iconst 1, 1) := by decide +kernel
theorem dd_Machine_hasElements_35 : decode prog_5_method_28_code 35 = .ok (.iadd, 1) := by decide +kernel
theorem dd_Machine_hasElements_36 : decode prog_5_method_28_code 36 = .ok (.laload, 1) := by decide +kernel
theorem dd_Machine_hasElements_37 : decode prog_5_method_28_code 37 = .ok (.ldc2_w 255, 3) := by decide +kernel
theorem dd_Machine_hasElements_40 : decode prog_5_method_28_code 40 = .ok (.land, 1) := by decide +kernel
theorem dd_Machine_hasElements_41 : decode prog_5_method_28_code 41 = .ok (.lload_n 2, 1) := by decide +kernel
theorem dd_Machine_hasElements_42 : decode prog_5_method_28_code 42 = .ok (.ladd, 1) := by decide +kernel
theorem dd_Machine_hasElements_43 : decode prog_5_method_28_code 43 = .ok (.aload_n 0, 1) := by decide +kernel
theorem dd_Machine_hasElements_44 : decode prog_5_method_28_code 44 = .ok (.getfield 26, 3) := by decide +kernel
theorem dd_Machine_hasElements_47 : decode prog_5_method_28_code 47 = .ok (.getfield 378, 3) := by decide +kernel
theorem dd_Machine_hasElements_50 : decode prog_5_method_28_code 50 = .ok (.iload 4, 2) := by decide +kernel
theorem dd_Machine_hasElements_52 : decode prog_5_method_28_code 52 = .ok (.iaload, 1) := by decide +kernel
theorem dd_Machine_hasElements_53 : decode prog_5_method_28_code 53 = .ok (.i2l, 1) := by decide +kernel
theorem dd_Machine_hasElements_54 : decode prog_5_method_28_code 54 = .ok (.lcmp, 1) := by decide +kernel
theorem dd_Machine_hasElements_55 : decode prog_5_method_28_code 55 = .ok (.ifCond .le 9, 3) := by decide +kernel
theorem dd_Machine_hasElements_58 : decode prog_5_method_28_code 58 = .ok (.aload_n 0, 1) := by decide +kernel
theorem dd_Machine_hasElements_59 : decode prog_5_method_28_code 59 = .ok (.bipush 10, 2) := by decide +kernel
theorem dd_Machine_hasElements_61 : decode prog_5_method_28_code 61 = .ok (.putfield 163, 3) := by decide +kernel
theorem dd_Machine_hasElements_64 : decode prog_5_method_28_code 64 = .ok (.aload_n 0, 1) := by decide +kernel
theorem dd_Machine_hasElements_65 : decode prog_5_method_28_code 65 = .ok (.getfield 163, 3) := by decide +kernel
theorem dd_Machine_hasElements_68 : decode prog_5_method_28_code 68 = .ok (.ifCond .ne 7, 3) := by decide +kernel
theorem dd_Machine_hasElements_71 : decode prog_5_method_28_code 71 = .ok (.iconst 1, 1) := by decide +kernel
theorem dd_Machine_hasElements_72 : decode prog_5_method_28_code 72 = .ok (.goto 4, 3) := by decide +kernel
theorem dd_Machine_hasElements_75 : decode prog_5_method_28_code 75 = .ok (.iconst 0, 1) := by decide +kernel
theorem dd_Machine_hasElements_76 : decode prog_5_method_28_code 76 = .ok (.ireturn, 1) := by decide +kernel
theorem dd_Values_pushFrom_0 : decode prog_12_method_7_code 0 = .ok (.aload_n 0, 1) := by decide +kernel
theorem dd_Values_pushFrom_1 : decode prog_12_method_7_code 1 = .ok (.aload_n 1, 1) := by decide +kernel
theorem dd_Values_pushFrom_2 : decode prog_12_method_7_code 2 = .ok (.iload_n 2, 1) := by decide +kernel
theorem dd_Values_pushFrom_3 : decode prog_12_method_7_code 3 = .ok (.aload_n 0, 1) := by decide +kernel
theorem dd_Values_pushFrom_4 : decode prog_12_method_7_code 4 = .ok (.getfield 17, 3) := by decide +kernel
theorem dd_Values_pushFrom_7 : decode prog_12_method_7_code 7 = .ok (.invokevirtual 25, 3) := by decide +kernel
theorem dd_Values_pushFrom_10 : decode prog_12_method_7_code 10 = .ok (.aload_n 0, 1) := by decide +kernel
theorem dd_Values_pushFrom_11 : decode prog_12_method_7_code 11 = .ok (.dup, 1) := by decide +kernel
theorem dd_Values_pushFrom_12 : decode prog_12_method_7_code 12 = .ok (.getfield 17, 3) := by decide +kernel
theorem dd_Values_pushFrom_15 : decode prog_12_method_7_code 15 = .ok (.iconst 1, 1) := by decide +kernel
theorem dd_Values_pushFrom_16 : decode prog_12_method_7_code 16 = .ok (.iadd, 1) := by decide +kernel
theorem dd_Values_pushFrom_17 : decode prog_12_method_7_code 17 = .ok (.putfield 17, 3) := by decide +kernel
theorem dd_Values_pushFrom_20 : decode prog_12_method_7_code 20 = .ok (.return_, 1) := by decide +kernel
theorem dd_Values_pop_0 : decode prog_12_method_5_code 0 = .ok (.aload_n 0, 1) := by decide +kernel
theorem dd_Values_pop_1 : decode prog_12_method_5_code 1 = .ok (.dup, 1) := by decide +kernel
theorem dd_Values_pop_2 : decode prog_12_method_5_code 2 = .ok (.getfield 17, 3) := by decide +kernel
theorem dd_Values_pop_5 : decode prog_12_method_5_code 5 = .ok (.iconst 1, 1) := by decide +kernel
theorem dd_Values_pop_6 : decode prog_12_method_5_code 6 = .ok (.isub, 1) := by decide +kernel
theorem dd_Values_pop_7 : decode prog_12_method_5_code 7 = .ok (.putfield 17, 3) := by decide +kernel
theorem dd_Values_pop_10 : decode prog_12_method_5_code 10 = .ok (.aload_n 0, 1) := by decide +kernel
theorem dd_Values_pop_11 : decode prog_12_method_5_code 11 = .ok (.getfield 7, 3) := by decide +kernel
theorem dd_Values_pop_14 : decode prog_12_method_5_code 14 = .ok (.aload_n 0, 1) := by decide +kernel
theorem dd_Values_pop_15 : decode prog_12_method_5_code 15 = .ok (.getfield 17, 3) := by decide +kernel
theorem dd_Values_pop_18 : decode prog_12_method_5_code 18 = .ok (.laload, 1) := by decide +kernel
theorem dd_Values_pop_19 : decode prog_12_method_5_code 19 = .ok (.lreturn, 1) := by decide +kernel
