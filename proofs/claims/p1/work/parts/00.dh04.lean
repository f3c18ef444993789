theorem dd_Mod_clear_0 : decode prog_8_method_2_code 0 = .ok (.aload_n 0, 1) := by decide +kernel
theorem dd_Mod_clear_1 : decode prog_8_method_2_code 1 = .ok (.getfield 18, 3) := by decide +kernel
theorem dd_Mod_clear_4 : decode prog_8_method_2_code 4 = .ok (.iconst 0, 1) := by decide +kernel
theorem dd_Mod_clear_5 : decode prog_8_method_2_code 5 = .ok (.putfield 54, 3) := by decide +kernel
theorem dd_Mod_clear_8 : decode prog_8_method_2_code 8 = .ok (.aload_n 0, 1) := by decide +kernel
theorem dd_Mod_clear_9 : decode prog_8_method_2_code 9 = .ok (.getfield 25, 3) := by decide +kernel
theorem dd_Mod_clear_12 : decode prog_8_method_2_code 12 = .ok (.iconst 0, 1) := by decide +kernel
theorem dd_Mod_clear_13 : decode prog_8_method_2_code 13 = .ok (.putfield 58, 3) := by decide +kernel
theorem dd_Mod_clear_16 : decode prog_8_method_2_code 16 = .ok (.aload_n 0, 1) := by decide +kernel
theorem dd_Mod_clear_17 : decode prog_8_method_2_code 17 = .ok (.getfield 25, 3) := by decide +kernel
theorem dd_Mod_clear_20 : decode prog_8_method_2_code 20 = .ok (.iconst 0, 1) := by decide +kernel
theorem dd_Mod_clear_21 : decode prog_8_method_2_code 21 = .ok (.putfield 61, 3) := by decide +kernel
theorem dd_Mod_clear_24 : decode prog_8_method_2_code 24 = .ok (.aload_n 0, 1) := by decide +kernel
theorem dd_Mod_clear_25 : decode prog_8_method_2_code 25 = .ok (.getfield 32, 3) := by decide +kernel
theorem dd_Mod_clear_28 : decode prog_8_method_2_code 28 = .ok (.iconst 0, 1) := by decide +kernel
theorem dd_Mod_clear_29 : decode prog_8_method_2_code 29 = .ok (.putfield 64, 3) := by decide +kernel
theorem dd_Mod_clear_32 : decode prog_8_method_2_code 32 = .ok (.aload_n 0, 1) := by decide +kernel
theorem dd_Mod_clear_33 : decode prog_8_method_2_code 33 = .ok (.getfield 36, 3) := by decide +kernel
theorem dd_Mod_clear_36 : decode prog_8_method_2_code 36 = .ok (.iconst 0, 1) := by decide +kernel
theorem dd_Mod_clear_37 : decode prog_8_method_2_code 37 = .ok (.putfield 64, 3) := by decide +kernel
theorem dd_Mod_clear_40 : decode prog_8_method_2_code 40 = .ok (.aload_n 0, 1) := by decide +kernel
theorem dd_Mod_clear_41 : decode prog_8_method_2_code 41 = .ok (.getfield 39, 3) := by decide +kernel
theorem dd_Mod_clear_44 : decode prog_8_method_2_code 44 = .ok (.iconst 0, 1) := by decide +kernel
theorem dd_Mod_clear_45 : decode prog_8_method_2_code 45 = .ok (.putfield 64, 3) := by decide +kernel
theorem dd_Mod_clear_48 : decode prog_8_method_2_code 48 = .ok (.aload_n 0, 1) := by decide +kernel
theorem dd_Mod_clear_49 : decode prog_8_method_2_code 49 = .ok (.getfield 42, 3) := by decide +kernel
theorem dd_Mod_clear_52 : decode prog_8_method_2_code 52 = .ok (.iconst 0, 1) := by decide +kernel
theorem dd_Mod_clear_53 : decode prog_8_method_2_code 53 = .ok (.putfield 64, 3) := by decide +kernel
theorem dd_Mod_clear_56 : decode prog_8_method_2_code 56 = .ok (.aload_n 0, 1) := by decide +kernel
theorem dd_Mod_clear_57 : decode prog_8_method_2_code 57 = .ok (.getfield 45, 3) := by decide +kernel
theorem dd_Mod_clear_60 : decode prog_8_method_2_code 60 = .ok (.iconst 0, 1) := by decide +kernel
theorem dd_Mod_clear_61 : decode prog_8_method_2_code 61 = .ok (.putfield 64, 3) := by decide +kernel
theorem dd_Mod_clear_64 : decode prog_8_method_2_code 64 = .ok (.aload_n 0, 1) := by decide +kernel
theorem dd_Mod_clear_65 : decode prog_8_method_2_code 65 = .ok (.getfield 48, 3) := by decide +kernel
theorem dd_Mod_clear_68 : decode prog_8_method_2_code 68 = .ok (.iconst 0, 1) := by decide +kernel
theorem dd_Mod_clear_69 : decode prog_8_method_2_code 69 = .ok (.putfield 64, 3) := by decide +kernel
theorem dd_Mod_clear_72 : decode prog_8_method_2_code 72 = .ok (.aload_n 0, 1) := by decide +kernel
theorem dd_Mod_clear_73 : decode prog_8_method_2_code 73 = .ok (.getfield 51, 3) := by decide +kernel
theorem dd_Mod_clear_76 : decode prog_8_method_2_code 76 = .ok (.iconst 0, 1) := by decide +kernel
theorem dd_Mod_clear_77 : decode prog_8_method_2_code 77 = .ok (.putfield 64, 3) := by decide +kernel
theorem dd_Mod_clear_80 : decode prog_8_method_2_code 80 = .ok (.aload_n 0, 1) := by decide +kernel
theorem dd_Mod_clear_81 : decode prog_8_method_2_code 81 = .ok (.iconst 0, 1) := by decide +kernel
theorem dd_Mod_clear_82 : decode prog_8_method_2_code 82 = .ok (.putfield 65, 3) := by decide +kernel
theorem dd_Mod_clear_85 : decode prog_8_method_2_code 85 = .ok (.aload_n 0, 1) := by decide +kernel
theorem dd_Mod_clear_86 : decode prog_8_method_2_code 86 = .ok (.iconst (-1), 1) := by decide +kernel
theorem dd_Mod_clear_87 : decode prog_8_method_2_code 87 = .ok (.putfield 68, 3) := by decide +kernel
theorem dd_Mod_clear_90 : decode prog_8_method_2_code 90 = .ok (.return_, 1) := by decide +kernel
theorem dd_Heap_clear_0 : decode prog_4_method_2_code 0 = .ok (.aload_n 0, 1) := by decide +kernel
theorem dd_Heap_clear_1 : decode prog_4_method_2_code 1 = .ok (.getfield 14, 3) := by decide +kernel
theorem dd_Heap_clear_4 : decode prog_4_method_2_code 4 = .ok (.iconst 0, 1) := by decide +kernel
theorem dd_Heap_clear_5 : decode prog_4_method_2_code 5 = .ok (.putfield 47, 3) := by decide +kernel
theorem dd_Heap_clear_8 : decode prog_4_method_2_code 8 = .ok (.aload_n 0, 1) := by decide +kernel
theorem dd_Heap_clear_9 : decode prog_4_method_2_code 9 = .ok (.getfield 40, 3) := by decide +kernel
theorem dd_Heap_clear_12 : decode prog_4_method_2_code 12 = .ok (.sipush 2000, 3) := by decide +kernel
theorem dd_Heap_clear_15 : decode prog_4_method_2_code 15 = .ok (.if_icmp .ge 36, 3) := by decide +kernel
theorem dd_Heap_clear_18 : decode prog_4_method_2_code 18 = .ok (.aload_n 0, 1) := by decide +kernel
theorem dd_Heap_clear_19 : decode prog_4_method_2_code 19 = .ok (.sipush 2000, 3) := by decide +kernel
theorem dd_Heap_clear_22 : decode prog_4_method_2_code 22 = .ok (.putfield 40, 3) := by decide +kernel
theorem dd_Heap_clear_25 : decode prog_4_method_2_code 25 = .ok (.iconst 0, 1) := by decide +kernel
theorem dd_Heap_clear_26 : decode prog_4_method_2_code 26 = .ok (.istore_n 1, 1) := by decide +kernel
theorem dd_Heap_clear_27 : decode prog_4_method_2_code 27 = .ok (.iload_n 1, 1) := by decide +kernel
theorem dd_Heap_clear_28 : decode prog_4_method_2_code 28 = .ok (.sipush 2000, 3) := by decide +kernel
theorem dd_Heap_clear_31 : decode prog_4_method_2_code 31 = .ok (.if_icmp .ge 20, 3) := by decide +kernel
theorem dd_Heap_clear_34 : decode prog_4_method_2_code 34 = .ok (.aload_n 0, 1) := by decide +kernel
theorem dd_Heap_clear_35 : decode prog_4_method_2_code 35 = .ok (.getfield 34, 3) := by decide +kernel
theorem dd_Heap_clear_38 : decode prog_4_method_2_code 38 = .ok (.iload_n 1, 1) := by decide +kernel
theorem dd_Heap_clear_39 : decode prog_4_method_2_code 39 = .ok (.sipush 2000, 3) := by decide +kernel
theorem dd_Heap_clear_42 : decode prog_4_method_2_code 42 = .ok (.iload_n 1, 1) := by decide +kernel
theorem dd_Heap_clear_43 : decode prog_4_method_2_code 43 = .ok (.isub, 1) := by decide +kernel
theorem dd_Heap_clear_44 : decode prog_4_method_2_code 44 = .ok (.iastore, 1) := by decide +kernel
theorem dd_Heap_clear_45 : decode prog_4_method_2_code 45 = .ok (.iinc 1 1, 3) := by decide +kernel
theorem dd_Heap_clear_48 : decode prog_4_method_2_code 48 = .ok (.goto (-21), 3) := by decide +kernel
theorem dd_Heap_clear_51 : decode prog_4_method_2_code 51 = .ok (.return_, 1) := by decide +kernel
theorem dd_Arrays_fill_ABIIB_0 : decode prog_31_method_110_code 0 = .ok (.aload_n 0, 1) := by decide +kernel
theorem dd_Arrays_fill_ABIIB_1 : decode prog_31_method_110_code 1 = .ok (.arraylength, 1) := by decide +kernel
theorem dd_Arrays_fill_ABIIB_2 : decode prog_31_method_110_code 2 = .ok (.iload_n 1, 1) := by decide +kernel
theorem dd_Arrays_fill_ABIIB_3 : decode prog_31_method_110_code 3 = .ok (.iload_n 2, 1) := by decide +kernel
theorem dd_Arrays_fill_ABIIB_4 : decode prog_31_method_110_code 4 = .ok (.invokestatic 13, 3) := by decide +kernel
theorem dd_Arrays_fill_ABIIB_7 : decode prog_31_method_110_code 7 = .ok (.iload_n 1, 1) := by decide +kernel
theorem dd_Arrays_fill_ABIIB_8 : decode prog_31_method_110_code 8 = .ok (.istore 4, 2) := by decide +kernel
theorem dd_Arrays_fill_ABIIB_10 : decode prog_31_method_110_code 10 = .ok (.iload 4, 2) := by decide +kernel
theorem dd_Arrays_fill_ABIIB_12 : decode prog_31_method_110_code 12 = .ok (.iload_n 2, 1) := by decide +kernel
theorem dd_Arrays_fill_ABIIB_13 : decode prog_31_method_110_code 13 = .ok (.if_icmp .ge 14, 3) := by decide +kernel
theorem dd_Arrays_fill_ABIIB_16 : decode prog_31_method_110_code 16 = .ok (.aload_n 0, 1) := by decide +kernel
theorem dd_Arrays_fill_ABIIB_17 : decode prog_31_method_110_code 17 = .ok (.iload 4, 2) := by decide +kernel
theorem dd_Arrays_fill_ABIIB_19 : decode prog_31_method_110_code 19 = .ok (.iload_n 3, 1) := by decide +kernel
theorem dd_Arrays_fill_ABIIB_20 : decode prog_31_method_110_code 20 = .ok (.bastore, 1) := by decide +kernel
theorem dd_Arrays_fill_ABIIB_21 : decode prog_31_method_110_code 21 = .ok (.iinc 4 1, 3) := by decide +kernel
theorem dd_Arrays_fill_ABIIB_24 : decode prog_31_method_110_code 24 = .ok (.goto (-14), 3) := by decide +kernel
theorem dd_Arrays_fill_ABIIB_27 : decode prog_31_method_110_code 27 = .ok (.return_, 1) := by decide +kernel
theorem dd_Memory_clear_0 : decode prog_6_method_4_code 0 = .ok (.aload_n 0, 1) := by decide +kernel
theorem dd_Memory_clear_1 : decode prog_6_method_4_code 1 = .ok (.getfield 10, 3) := by decide +kernel
theorem dd_Memory_clear_4 : decode prog_6_method_4_code 4 = .ok (.iconst 0, 1) := by decide +kernel
theorem dd_Memory_clear_5 : decode prog_6_method_4_code 5 = .ok (.sipush 4096, 3) := by decide +kernel
theorem dd_Memory_clear_8 : decode prog_6_method_4_code 8 = .ok (.aload_n 0, 1) := by decide +kernel
theorem dd_Memory_clear_9 : decode prog_6_method_4_code 9 = .ok (.getfield 20, 3) := by decide +kernel
theorem dd_Memory_clear_12 : decode prog_6_method_4_code 12 = .ok (.imul, 1) := by decide +kernel
theorem dd_Memory_clear_13 : decode prog_6_method_4_code 13 = .ok (.iconst 0, 1) := by decide +kernel
theorem dd_Memory_clear_14 : decode prog_6_method_4_code 14 = .ok (.invokestatic 24, 3) := by decide +kernel
theorem dd_Memory_clear_17 : decode prog_6_method_4_code 17 = .ok (.aload_n 0, 1) := by decide +kernel
theorem dd_Memory_clear_18 : decode prog_6_method_4_code 18 = .ok (.iconst 0, 1) := by decide +kernel
theorem dd_Memory_clear_19 : decode prog_6_method_4_code 19 = .ok (.putfield 20, 3) := by decide +kernel
theorem dd_Memory_clear_22 : decode prog_6_method_4_code 22 = .ok (.aload_n 0, 1) := by decide +kernel
theorem dd_Memory_clear_23 : decode prog_6_method_4_code 23 = .ok (.iconst 0, 1) := by decide +kernel
theorem dd_Memory_clear_24 : decode prog_6_method_4_code 24 = .ok (.putfield 30, 3) := by decide +kernel
theorem dd_Memory_clear_27 : decode prog_6_method_4_code 27 = .ok (.return_, 1) := by decide +kernel
theorem dd_Machine_clear_0 : decode prog_5_method_2_code 0 = .ok (.aload_n 0, 1) := by decide +kernel
theorem dd_Machine_clear_1 : decode prog_5_method_2_code 1 = .ok (.getfield 14, 3) := by decide +kernel
theorem dd_Machine_clear_4 : decode prog_5_method_2_code 4 = .ok (.iconst 0, 1) := by decide +kernel
theorem dd_Machine_clear_5 : decode prog_5_method_2_code 5 = .ok (.putfield 66, 3) := by decide +kernel
theorem dd_Machine_clear_8 : decode prog_5_method_2_code 8 = .ok (.aload_n 0, 1) := by decide +kernel
theorem dd_Machine_clear_9 : decode prog_5_method_2_code 9 = .ok (.getfield 20, 3) := by decide +kernel
theorem dd_Machine_clear_12 : decode prog_5_method_2_code 12 = .ok (.iconst 0, 1) := by decide +kernel
theorem dd_Machine_clear_13 : decode prog_5_method_2_code 13 = .ok (.putfield 66, 3) := by decide +kernel
theorem dd_Machine_clear_16 : decode prog_5_method_2_code 16 = .ok (.aload_n 0, 1) := by decide +kernel
theorem dd_Machine_clear_17 : decode prog_5_method_2_code 17 = .ok (.getfield 26, 3) := by decide +kernel
theorem dd_Machine_clear_20 : decode prog_5_method_2_code 20 = .ok (.invokevirtual 70, 3) := by decide +kernel
theorem dd_Machine_clear_23 : decode prog_5_method_2_code 23 = .ok (.aload_n 0, 1) := by decide +kernel
theorem dd_Machine_clear_24 : decode prog_5_method_2_code 24 = .ok (.getfield 33, 3) := by decide +kernel
theorem dd_Machine_clear_27 : decode prog_5_method_2_code 27 = .ok (.invokevirtual 73, 3) := by decide +kernel
theorem dd_Machine_clear_30 : decode prog_5_method_2_code 30 = .ok (.return_, 1) := by decide +kernel
theorem dd_Reader_readByte_0 : decode prog_9_method_3_code 0 = .ok (.aload_n 0, 1) := by decide +kernel
theorem dd_Reader_readByte_1 : decode prog_9_method_3_code 1 = .ok (.getfield 38, 3) := by decide +kernel
theorem dd_Reader_readByte_4 : decode prog_9_method_3_code 4 = .ok (.aload_n 0, 1) := by decide +kernel
theorem dd_Reader_readByte_5 : decode prog_9_method_3_code 5 = .ok (.getfield 42, 3) := by decide +kernel
theorem dd_Reader_readByte_8 : decode prog_9_method_3_code 8 = .ok (.if_icmp .lt 11, 3) := by decide +kernel
theorem dd_Reader_readByte_11 : decode prog_9_method_3_code 11 = .ok (.new 53, 3) := by decide +kernel
theorem dd_Reader_readByte_14 : decode prog_9_method_3_code 14 = .ok (.dup, 1) := by decide +kernel
theorem dd_Reader_readByte_15 : decode prog_9_method_3_code 15 = .ok (.invokespecial 55, 3) := by decide +kernel
theorem dd_Reader_readByte_18 : decode prog_9_method_3_code 18 = .ok (.athrow, 1) := by decide +kernel
theorem dd_Reader_readByte_19 : decode prog_9_method_3_code 19 = .ok (.aload_n 0, 1) := by decide +kernel
theorem dd_Reader_readByte_20 : decode prog_9_method_3_code 20 = .ok (.dup, 1) := by decide +kernel
theorem dd_Reader_readByte_21 : decode prog_9_method_3_code 21 = .ok (.getfield 38, 3) := by decide +kernel
theorem dd_Reader_readByte_24 : decode prog_9_method_3_code 24 = .ok (.iconst 1, 1) := by decide +kernel
theorem dd_Reader_readByte_25 : decode prog_9_method_3_code 25 = .ok (.iadd, 1) := by decide +kernel
theorem dd_Reader_readByte_26 : decode prog_9_method_3_code 26 = .ok (.putfield 38, 3) := by decide +kernel
theorem dd_Reader_readByte_29 : decode prog_9_method_3_code 29 = .ok (.aload_n 0, 1) := by decide +kernel
theorem dd_Reader_readByte_30 : decode prog_9_method_3_code 30 = .ok (.getfield 21, 3) := by decide +kernel
theorem dd_Reader_readByte_33 : decode prog_9_method_3_code 33 = .ok (.aload_n 0, 1) := by decide +kernel
theorem dd_Reader_readByte_34 : decode prog_9_method_3_code 34 = .ok (.getfield 38, 3) := by decide +kernel
theorem dd_Reader_readByte_37 : decode prog_9_method_3_code 37 = .ok (.iconst 1, 1) := by decide +kernel
theorem dd_Reader_readByte_38 : decode prog_9_method_3_code 38 = .ok (.isub, 1) := by decide +kernel
theorem dd_Reader_readByte_39 : decode prog_9_method_3_code 39 = .ok (.baload, 1) := by decide +kernel
theorem dd_Reader_readByte_40 : decode prog_9_method_3_code 40 = .ok (.sipush 255, 3) := by decide +kernel
theorem dd_Reader_readByte_43 : decode prog_9_method_3_code 43 = .ok (.iand, 1) := by decide +kernel
theorem dd_Reader_readByte_44 : decode prog_9_method_3_code 44 = .ok (.ireturn, 1) := by decide +kernel
theorem dd_Reader_readUnsigned_0 : decode prog_9_method_5_code 0 = .ok (.lconst 0, 1) := by decide +kernel
theorem dd_Reader_readUnsigned_1 : decode prog_9_method_5_code 1 = .ok (.lstore_n 1, 1) := by decide +kernel
theorem dd_Reader_readUnsigned_2 : decode prog_9_method_5_code 2 = .ok (.iconst 0, 1) := by decide +kernel
theorem dd_Reader_readUnsigned_3 : decode prog_9_method_5_code 3 = .ok (.istore_n 3, 1) := by decide +kernel
theorem dd_Reader_readUnsigned_4 : decode prog_9_method_5_code 4 = .ok (.iload_n 3, 1) := by decide +kernel
theorem dd_Reader_readUnsigned_5 : decode prog_9_method_5_code 5 = .ok (.bipush 35, 2) := by decide +kernel
theorem dd_Reader_readUnsigned_7 : decode prog_9_method_5_code 7 = .ok (.if_icmp .ge 85, 3) := by decide +kernel
theorem dd_Reader_readUnsigned_10 : decode prog_9_method_5_code 10 = .ok (.aload_n 0, 1) := by decide +kernel
theorem dd_Reader_readUnsigned_11 : decode prog_9_method_5_code 11 = .ok (.getfield 38, 3) := by decide +kernel
theorem dd_Reader_readUnsigned_14 : decode prog_9_method_5_code 14 = .ok (.aload_n 0, 1) := by decide +kernel
theorem dd_Reader_readUnsigned_15 : decode prog_9_method_5_code 15 = .ok (.getfield 42, 3) := by decide +kernel
theorem dd_Reader_readUnsigned_18 : decode prog_9_method_5_code 18 = .ok (.if_icmp .ge 74, 3) := by decide +kernel
theorem dd_Reader_readUnsigned_21 : decode prog_9_method_5_code 21 = .ok (.aload_n 0, 1) := by decide +kernel
theorem dd_Reader_readUnsigned_22 : decode prog_9_method_5_code 22 = .ok (.getfield 21, 3) := by decide +kernel
theorem dd_Reader_readUnsigned_25 : decode prog_9_method_5_code 25 = .ok (.aload_n 0, 1) := by decide +kernel
theorem dd_Reader_readUnsigned_26 : decode prog_9_method_5_code 26 = .ok (.getfield 38, 3) := by decide +kernel
theorem dd_Reader_readUnsigned_29 : decode prog_9_method_5_code 29 = .ok (.baload, 1) := by decide +kernel
theorem dd_Reader_readUnsigned_30 : decode prog_9_method_5_code 30 = .ok (.sipush 255, 3) := by decide +kernel
theorem dd_Reader_readUnsigned_33 : decode prog_9_method_5_code 33 = .ok (.iand, 1) := by decide +kernel
theorem dd_Reader_readUnsigned_34 : decode prog_9_method_5_code 34 = .ok (.istore 4, 2) := by decide +kernel
theorem dd_Reader_readUnsigned_36 : decode prog_9_method_5_code 36 = .ok (.aload_n 0, 1) := by decide +kernel
theorem dd_Reader_readUnsigned_37 : decode prog_9_method_5_code 37 = .ok (.dup, 1) := by decide +kernel
theorem dd_Reader_readUnsigned_38 : decode prog_9_method_5_code 38 = .ok (.getfield 38, 3) := by decide +kernel
theorem dd_Reader_readUnsigned_41 : decode prog_9_method_5_code 41 = .ok (.iconst 1, 1) := by decide +kernel
theorem dd_Reader_readUnsigned_42 : decode prog_9_method_5_code 42 = .ok (.iadd, 1) := by decide +kernel
theorem dd_Reader_readUnsigned_43 : decode prog_9_method_5_code 43 = .ok (.putfield 38, 3) := by decide +kernel
theorem dd_Reader_readUnsigned_46 : decode prog_9_method_5_code 46 = .ok (.lload_n 1, 1) := by decide +kernel
theorem dd_Reader_readUnsigned_47 : decode prog_9_method_5_code 47 = .ok (.iload 4, 2) := by decide +kernel
theorem dd_Reader_readUnsigned_49 : decode prog_9_method_5_code 49 = .ok (.bipush 127, 2) := by decide +kernel
theorem dd_Reader_readUnsigned_51 : decode prog_9_method_5_code 51 = .ok (.iand, 1) := by decide +kernel
theorem dd_Reader_readUnsigned_52 : decode prog_9_method_5_code 52 = .ok (.i2l, 1) := by decide +kernel
theorem dd_Reader_readUnsigned_53 : decode prog_9_method_5_code 53 = .ok (.iload_n 3, 1) := by decide +kernel
theorem dd_Reader_readUnsigned_54 : decode prog_9_method_5_code 54 = .ok (.lshl, 1) := by decide +kernel
theorem dd_Reader_readUnsigned_55 : decode prog_9_method_5_code 55 = .ok (.lor, 1) := by decide +kernel
theorem dd_Reader_readUnsigned_56 : decode prog_9_method_5_code 56 = .ok (.lstore_n 1, 1) := by decide +kernel
theorem dd_Reader_readUnsigned_57 : decode prog_9_method_5_code 57 = .ok (.iload 4, 2) := by decide +kernel
theorem dd_Reader_readUnsigned_59 : decode prog_9_method_5_code 59 = .ok (.sipush 128, 3) := by decide +kernel
theorem dd_Reader_readUnsigned_62 : decode prog_9_method_5_code 62 = .ok (.if_icmp .ge 13, 3) := by decide +kernel
theorem dd_Reader_readUnsigned_65 : decode prog_9_method_5_code 65 = .ok (.lload_n 1, 1) := by decide +kernel
theorem dd_Reader_readUnsigned_66 : decode prog_9_method_5_code 66 = .ok (.ldc2_w 99, 3) := by decide +kernel
theorem dd_Reader_readUnsigned_69 : decode prog_9_method_5_code 69 = .ok (.lcmp, 1) := by decide +kernel
theorem dd_Reader_readUnsigned_70 : decode prog_9_method_5_code 70 = .ok (.ifCond .gt 5, 3) := by decide +kernel
theorem dd_Reader_readUnsigned_73 : decode prog_9_method_5_code 73 = .ok (.lload_n 1, 1) := by decide +kernel
theorem dd_Reader_readUnsigned_74 : decode prog_9_method_5_code 74 = .ok (.lreturn, 1) := by decide +kernel
theorem dd_Reader_readUnsigned_75 : decode prog_9_method_5_code 75 = .ok (.iload 4, 2) := by decide +kernel
theorem dd_Reader_readUnsigned_77 : decode prog_9_method_5_code 77 = .ok (.sipush 128, 3) := by decide +kernel
theorem dd_Reader_readUnsigned_80 : decode prog_9_method_5_code 80 = .ok (.if_icmp .ge 6, 3) := by decide +kernel
theorem dd_Reader_readUnsigned_83 : decode prog_9_method_5_code 83 = .ok (.goto 9, 3) := by decide +kernel
theorem dd_Reader_readUnsigned_86 : decode prog_9_method_5_code 86 = .ok (.iinc 3 7, 3) := by decide +kernel
theorem dd_Reader_readUnsigned_89 : decode prog_9_method_5_code 89 = .ok (.goto (-85), 3) := by decide +kernel
theorem dd_Reader_readUnsigned_92 : decode prog_9_method_5_code 92 = .ok (.new 53, 3) := by decide +kernel
theorem dd_Reader_readUnsigned_95 : decode prog_9_method_5_code 95 = .ok (.dup, 1) := by decide +kernel
theorem dd_Reader_readUnsigned_96 : decode prog_9_method_5_code 96 = .ok (.invokespecial 55, 3) := by decide +kernel
theorem dd_Reader_readUnsigned_99 : decode prog_9_method_5_code 99 = .ok (.athrow, 1) := by decide +kernel
theorem dd_Reader_readSize_0 : decode prog_9_method_8_code 0 = .ok (.aload_n 0, 1) := by decide +kernel
theorem dd_Reader_readSize_1 : decode prog_9_method_8_code 1 = .ok (.invokevirtual 103, 3) := by decide +kernel
theorem dd_Reader_readSize_4 : decode prog_9_method_8_code 4 = .ok (.lstore_n 2, 1) := by decide +kernel
theorem dd_Reader_readSize_5 : decode prog_9_method_8_code 5 = .ok (.lload_n 2, 1) := by decide +kernel
theorem dd_Reader_readSize_6 : decode prog_9_method_8_code 6 = .ok (.iload_n 1, 1) := by decide +kernel
theorem dd_Reader_readSize_7 : decode prog_9_method_8_code 7 = .ok (.aload_n 0, 1) := by decide +kernel
theorem dd_Reader_readSize_8 : decode prog_9_method_8_code 8 = .ok (.getfield 38, 3) := by decide +kernel
theorem dd_Reader_readSize_11 : decode prog_9_method_8_code 11 = .ok (.isub, 1) := by decide +kernel
theorem dd_Reader_readSize_12 : decode prog_9_method_8_code 12 = .ok (.i2l, 1) := by decide +kernel
theorem dd_Reader_readSize_13 : decode prog_9_method_8_code 13 = .ok (.lcmp, 1) := by decide +kernel
theorem dd_Reader_readSize_14 : decode prog_9_method_8_code 14 = .ok (.ifCond .le 11, 3) := by decide +kernel
theorem dd_Reader_readSize_17 : decode prog_9_method_8_code 17 = .ok (.new 53, 3) := by decide +kernel
theorem dd_Reader_readSize_20 : decode prog_9_method_8_code 20 = .ok (.dup, 1) := by decide +kernel
theorem dd_Reader_readSize_21 : decode prog_9_method_8_code 21 = .ok (.invokespecial 55, 3) := by decide +kernel
theorem dd_Reader_readSize_24 : decode prog_9_method_8_code 24 = .ok (.athrow, 1) := by decide +kernel
theorem dd_Reader_readSize_25 : decode prog_9_method_8_code 25 = .ok (.lload_n 2, 1) := by decide +kernel
theorem dd_Reader_readSize_26 : decode prog_9_method_8_code 26 = .ok (.l2i, 1) := by decide +kernel
theorem dd_Reader_readSize_27 : decode prog_9_method_8_code 27 = .ok (.ireturn, 1) := by decide +kernel
theorem dd_Reader_readNumber_0 : decode prog_9_method_7_code 0 = .ok (.aload_n 0, 1) := by decide +kernel
theorem dd_Reader_readNumber_1 : decode prog_9_method_7_code 1 = .ok (.invokevirtual 103, 3) := by decide +kernel
theorem dd_Reader_readNumber_4 : decode prog_9_method_7_code 4 = .ok (.ldc2_w 109, 3) := by decide +kernel
theorem dd_Reader_readNumber_7 : decode prog_9_method_7_code 7 = .ok (.invokestatic 111, 3) := by decide +kernel
theorem dd_Reader_readNumber_10 : decode prog_9_method_7_code 10 = .ok (.l2i, 1) := by decide +kernel
theorem dd_Reader_readNumber_11 : decode prog_9_method_7_code 11 = .ok (.ireturn, 1) := by decide +kernel
theorem dd_Reader_peekByte_0 : decode prog_9_method_4_code 0 = .ok (.aload_n 0, 1) := by decide +kernel
theorem dd_Reader_peekByte_1 : decode prog_9_method_4_code 1 = .ok (.getfield 38, 3) := by decide +kernel
theorem dd_Reader_peekByte_4 : decode prog_9_method_4_code 4 = .ok (.aload_n 0, 1) := by decide +kernel
theorem dd_Reader_peekByte_5 : decode prog_9_method_4_code 5 = .ok (.getfield 42, 3) := by decide +kernel
theorem dd_Reader_peekByte_8 : decode prog_9_method_4_code 8 = .ok (.if_icmp .lt 11, 3) := by decide +kernel
theorem dd_Reader_peekByte_11 : decode prog_9_method_4_code 11 = .ok (.new 53, 3) := by decide +kernel
theorem dd_Reader_peekByte_14 : decode prog_9_method_4_code 14 = .ok (.dup, 1) := by decide +kernel
theorem dd_Reader_peekByte_15 : decode prog_9_method_4_code 15 = .ok (.invokespecial 55, 3) := by decide +kernel
theorem dd_Reader_peekByte_18 : decode prog_9_method_4_code 18 = .ok (.athrow, 1) := by decide +kernel
theorem dd_Reader_peekByte_19 : decode prog_9_method_4_code 19 = .ok (.aload_n 0, 1) := by decide +kernel
theorem dd_Reader_peekByte_20 : decode prog_9_method_4_code 20 = .ok (.getfield 21, 3) := by decide +kernel
theorem dd_Reader_peekByte_23 : decode prog_9_method_4_code 23 = .ok (.aload_n 0, 1) := by decide +kernel
theorem dd_Reader_peekByte_24 : decode prog_9_method_4_code 24 = .ok (.getfield 38, 3) := by decide +kernel
theorem dd_Reader_peekByte_27 : decode prog_9_method_4_code 27 = .ok (.baload, 1) := by decide +kernel
theorem dd_Reader_peekByte_28 : decode prog_9_method_4_code 28 = .ok (.sipush 255, 3) := by decide +kernel
theorem dd_Reader_peekByte_31 : decode prog_9_method_4_code 31 = .ok (.iand, 1) := by decide +kernel
theorem dd_Reader_peekByte_32 : decode prog_9_method_4_code 32 = .ok (.ireturn, 1) := by decide +kernel
theorem dd_Types_setMember_0 : decode prog_11_method_13_code 0 = .ok (.aload_n 0, 1) := by decide +kernel
theorem dd_Types_setMember_1 : decode prog_11_method_13_code 1 = .ok (.getfield 24, 3) := by decide +kernel
theorem dd_Types_setMember_4 : decode prog_11_method_13_code 4 = .ok (.bipush 34, 2) := by decide +kernel
theorem dd_Types_setMember_6 : decode prog_11_method_13_code 6 = .ok (.iload_n 1, 1) := by decide +kernel
theorem dd_Types_setMember_7 : decode prog_11_method_13_code 7 = .ok (.imul, 1) := by decide +kernel
theorem dd_Types_setMember_8 : decode prog_11_method_13_code 8 = .ok (.iload_n 2, 1) := by decide +kernel
theorem dd_Types_setMember_9 : decode prog_11_method_13_code 9 = .ok (.bipush 16, 2) := by decide +kernel
theorem dd_Types_setMember_11 : decode prog_11_method_13_code 11 = .ok (.invokestatic 41, 3) := by decide +kernel
theorem dd_Types_setMember_14 : decode prog_11_method_13_code 14 = .ok (.iadd, 1) := by decide +kernel
theorem dd_Types_setMember_15 : decode prog_11_method_13_code 15 = .ok (.iload_n 3, 1) := by decide +kernel
theorem dd_Types_setMember_16 : decode prog_11_method_13_code 16 = .ok (.iastore, 1) := by decide +kernel
theorem dd_Types_setMember_17 : decode prog_11_method_13_code 17 = .ok (.return_, 1) := by decide +kernel
theorem dd_Reader_readFlag_0 : decode prog_9_method_9_code 0 = .ok (.aload_n 0, 1) := by decide +kernel
theorem dd_Reader_readFlag_1 : decode prog_9_method_9_code 1 = .ok (.invokevirtual 49, 3) := by decide +kernel
theorem dd_Reader_readFlag_4 : decode prog_9_method_9_code 4 = .ok (.istore_n 1, 1) := by decide +kernel
theorem dd_Reader_readFlag_5 : decode prog_9_method_9_code 5 = .ok (.iload_n 1, 1) := by decide +kernel
theorem dd_Reader_readFlag_6 : decode prog_9_method_9_code 6 = .ok (.iconst 1, 1) := by decide +kernel
theorem dd_Reader_readFlag_7 : decode prog_9_method_9_code 7 = .ok (.if_icmp .le 11, 3) := by decide +kernel
theorem dd_Reader_readFlag_10 : decode prog_9_method_9_code 10 = .ok (.new 53, 3) := by decide +kernel
theorem dd_Reader_readFlag_13 : decode prog_9_method_9_code 13 = .ok (.dup, 1) := by decide +kernel
theorem dd_Reader_readFlag_14 : decode prog_9_method_9_code 14 = .ok (.invokespecial 55, 3) := by decide +kernel
theorem dd_Reader_readFlag_17 : decode prog_9_method_9_code 17 = .ok (.athrow, 1) := by decide +kernel
theorem dd_Reader_readFlag_18 : decode prog_9_method_9_code 18 = .ok (.iload_n 1, 1) := by decide +kernel
theorem dd_Reader_readFlag_19 : decode prog_9_method_9_code 19 = .ok (.ireturn, 1) := by decide +kernel
theorem dd_Types_setOutcome_0 : decode prog_11_method_14_code 0 = .ok (.aload_n 0, 1) := by decide +kernel
theorem dd_Types_setOutcome_1 : decode prog_11_method_14_code 1 = .ok (.getfield 24, 3) := by decide +kernel
theorem dd_Types_setOutcome_4 : decode prog_11_method_14_code 4 = .ok (.bipush 34, 2) := by decide +kernel
theorem dd_Types_setOutcome_6 : decode prog_11_method_14_code 6 = .ok (.iload_n 1, 1) := by decide +kernel
theorem dd_Types_setOutcome_7 : decode prog_11_method_14_code 7 = .ok (.imul, 1) := by decide +kernel
theorem dd_Types_setOutcome_8 : decode prog_11_method_14_code 8 = .ok (.bipush 17, 2) := by decide +kernel
theorem dd_Types_setOutcome_10 : decode prog_11_method_14_code 10 = .ok (.iadd, 1) := by decide +kernel
theorem dd_Types_setOutcome_11 : decode prog_11_method_14_code 11 = .ok (.iload_n 2, 1) := by decide +kernel
theorem dd_Types_setOutcome_12 : decode prog_11_method_14_code 12 = .ok (.bipush 16, 2) := by decide +kernel
theorem dd_Types_setOutcome_14 : decode prog_11_method_14_code 14 = .ok (.invokestatic 41, 3) := by decide +kernel
theorem dd_Types_setOutcome_17 : decode prog_11_method_14_code 17 = .ok (.iadd, 1) := by decide +kernel
theorem dd_Types_setOutcome_18 : decode prog_11_method_14_code 18 = .ok (.iload_n 3, 1) := by decide +kernel
theorem dd_Types_setOutcome_19 : decode prog_11_method_14_code 19 = .ok (.iastore, 1) := by decide +kernel
theorem dd_Types_setOutcome_20 : decode prog_11_method_14_code 20 = .ok (.return_, 1) := by decide +kernel
theorem dd_Reader_readSigned_0 : decode prog_9_method_6_code 0 = .ok (.lconst 0, 1) := by decide +kernel
theorem dd_Reader_readSigned_1 : decode prog_9_method_6_code 1 = .ok (.lstore_n 2, 1) := by decide +kernel
theorem dd_Reader_readSigned_2 : decode prog_9_method_6_code 2 = .ok (.iconst 0, 1) := by decide +kernel
theorem dd_Reader_readSigned_3 : decode prog_9_method_6_code 3 = .ok (.istore 4, 2) := by decide +kernel
theorem dd_Reader_readSigned_5 : decode prog_9_method_6_code 5 = .ok (.iload 4, 2) := by decide +kernel
theorem dd_Reader_readSigned_7 : decode prog_9_method_6_code 7 = .ok (.iload_n 1, 1) := by decide +kernel
theorem dd_Reader_readSigned_8 : decode prog_9_method_6_code 8 = .ok (.if_icmp .ge 135, 3) := by decide +kernel
theorem dd_Reader_readSigned_11 : decode prog_9_method_6_code 11 = .ok (.aload_n 0, 1) := by decide +kernel
theorem dd_Reader_readSigned_12 : decode prog_9_method_6_code 12 = .ok (.getfield 38, 3) := by decide +kernel
theorem dd_Reader_readSigned_15 : decode prog_9_method_6_code 15 = .ok (.aload_n 0, 1) := by decide +kernel
theorem dd_Reader_readSigned_16 : decode prog_9_method_6_code 16 = .ok (.getfield 42, 3) := by decide +kernel
theorem dd_Reader_readSigned_19 : decode prog_9_method_6_code 19 = .ok (.if_icmp .ge 124, 3) := by decide +kernel
theorem dd_Reader_readSigned_22 : decode prog_9_method_6_code 22 = .ok (.aload_n 0, 1) := by decide +kernel
theorem dd_Reader_readSigned_23 : decode prog_9_method_6_code 23 = .ok (.getfield 21, 3) := by decide +kernel
theorem dd_Reader_readSigned_26 : decode prog_9_method_6_code 26 = .ok (.aload_n 0, 1) := by decide +kernel
theorem dd_Reader_readSigned_27 : decode prog_9_method_6_code 27 = .ok (.getfield 38, 3) := by decide +kernel
theorem dd_Reader_readSigned_30 : decode prog_9_method_6_code 30 = .ok (.baload, 1) := by decide +kernel
theorem dd_Reader_readSigned_31 : decode prog_9_method_6_code 31 = .ok (.sipush 255, 3) := by decide +kernel
theorem dd_Reader_readSigned_34 : decode prog_9_method_6_code 34 = .ok (.iand, 1) := by decide +kernel
theorem dd_Reader_readSigned_35 : decode prog_9_method_6_code 35 = .ok (.istore 5, 2) := by decide +kernel
theorem dd_Reader_readSigned_37 : decode prog_9_method_6_code 37 = .ok (.aload_n 0, 1) := by decide +kernel
theorem dd_Reader_readSigned_38 : decode prog_9_method_6_code 38 = .ok (.dup, 1) := by decide +kernel
theorem dd_Reader_readSigned_39 : decode prog_9_method_6_code 39 = .ok (.getfield 38, 3) := by decide +kernel
theorem dd_Reader_readSigned_42 : decode prog_9_method_6_code 42 = .ok (.iconst 1, 1) := by decide +kernel
theorem dd_Reader_readSigned_43 : decode prog_9_method_6_code 43 = .ok (.iadd, 1) := by decide +kernel
theorem dd_Reader_readSigned_44 : decode prog_9_method_6_code 44 = .ok (.putfield 38, 3) := by decide +kernel
theorem dd_Reader_readSigned_47 : decode prog_9_method_6_code 47 = .ok (.lload_n 2, 1) := by decide +kernel
theorem dd_Reader_readSigned_48 : decode prog_9_method_6_code 48 = .ok (.iload 5, 2) := by decide +kernel
theorem dd_Reader_readSigned_50 : decode prog_9_method_6_code 50 = .ok (.bipush 127, 2) := by decide +kernel
theorem dd_Reader_readSigned_52 : decode prog_9_method_6_code 52 = .ok (.iand, 1) := by decide +kernel
theorem dd_Reader_readSigned_53 : decode prog_9_method_6_code 53 = .ok (.i2l, 1) := by decide +kernel
theorem dd_Reader_readSigned_54 : decode prog_9_method_6_code 54 = .ok (.iload 4, 2) := by decide +kernel
theorem dd_Reader_readSigned_56 : decode prog_9_method_6_code 56 = .ok (.lshl, 1) := by decide +kernel
theorem dd_Reader_readSigned_57 : decode prog_9_method_6_code 57 = .ok (.lor, 1) := by decide +kernel
theorem dd_Reader_readSigned_58 : decode prog_9_method_6_code 58 = .ok (.lstore_n 2, 1) := by decide +kernel
theorem dd_Reader_readSigned_59 : decode prog_9_method_6_code 59 = .ok (.iload 5, 2) := by decide +kernel
theorem dd_Reader_readSigned_61 : decode prog_9_method_6_code 61 = .ok (.sipush 128, 3) := by decide +kernel
theorem dd_Reader_readSigned_64 : decode prog_9_method_6_code 64 = .ok (.if_icmp .ge 73, 3) := by decide +kernel
theorem dd_Reader_readSigned_67 : decode prog_9_method_6_code 67 = .ok (.iload 4, 2) := by decide +kernel
theorem dd_Reader_readSigned_69 : decode prog_9_method_6_code 69 = .ok (.bipush 57, 2) := by decide +kernel
theorem dd_Reader_readSigned_71 : decode prog_9_method_6_code 71 = .ok (.if_icmp .ge 11, 3) := by decide +kernel
theorem dd_Reader_readSigned_74 : decode prog_9_method_6_code 74 = .ok (.bipush 57, 2) := by decide +kernel
theorem dd_Reader_readSigned_76 : decode prog_9_method_6_code 76 = .ok (.iload 4, 2) := by decide +kernel
theorem dd_Reader_readSigned_78 : decode prog_9_method_6_code 78 = .ok (.isub, 1) := by decide +kernel
theorem dd_Reader_readSigned_79 : decode prog_9_method_6_code 79 = .ok (.goto 4, 3) := by decide +kernel
theorem dd_Reader_readSigned_82 : decode prog_9_method_6_code 82 = .ok (.iconst 0, 1) := by decide +kernel
theorem dd_Reader_readSigned_83 : decode prog_9_method_6_code 83 = .ok (.istore 6, 2) := by decide +kernel
theorem dd_Reader_readSigned_85 : decode prog_9_method_6_code 85 = .ok (.lload_n 2, 1) := by decide +kernel
theorem dd_Reader_readSigned_86 : decode prog_9_method_6_code 86 = .ok (.iload 6, 2) := by decide +kernel
theorem dd_Reader_readSigned_88 : decode prog_9_method_6_code 88 = .ok (.lshl, 1) := by decide +kernel
theorem dd_Reader_readSigned_89 : decode prog_9_method_6_code 89 = .ok (.iload 6, 2) := by decide +kernel
theorem dd_Reader_readSigned_91 : decode prog_9_method_6_code 91 = .ok (.lshr, 1) := by decide +kernel
theorem dd_Reader_readSigned_92 : decode prog_9_method_6_code 92 = .ok (.lstore_n 2, 1) := by decide +kernel
theorem dd_Reader_readSigned_93 : decode prog_9_method_6_code 93 = .ok (.iload 4, 2) := by decide +kernel
theorem dd_Reader_readSigned_95 : decode prog_9_method_6_code 95 = .ok (.bipush 63, 2) := by decide +kernel
theorem dd_Reader_readSigned_97 : decode prog_9_method_6_code 97 = .ok (.if_icmp .ne 15, 3) := by decide +kernel
theorem dd_Reader_readSigned_100 : decode prog_9_method_6_code 100 = .ok (.iload 5, 2) := by decide +kernel
theorem dd_Reader_readSigned_102 : decode prog_9_method_6_code 102 = .ok (.bipush 25, 2) := by decide +kernel
theorem dd_Reader_readSigned_104 : decode prog_9_method_6_code 104 = .ok (.ishl, 1) := by decide +kernel
theorem dd_Reader_readSigned_105 : decode prog_9_method_6_code 105 = .ok (.bipush 25, 2) := by decide +kernel
theorem dd_Reader_readSigned_107 : decode prog_9_method_6_code 107 = .ok (.ishr, 1) := by decide +kernel
theorem dd_Reader_readSigned_108 : decode prog_9_method_6_code 108 = .ok (.i2l, 1) := by decide +kernel
theorem dd_Reader_readSigned_109 : decode prog_9_method_6_code 109 = .ok (.goto 8, 3) := by decide +kernel
theorem dd_Reader_readSigned_112 : decode prog_9_method_6_code 112 = .ok (.lload_n 2, 1) := by decide +kernel
theorem dd_Reader_readSigned_113 : decode prog_9_method_6_code 113 = .ok (.iload_n 1, 1) := by decide +kernel
theorem dd_Reader_readSigned_114 : decode prog_9_method_6_code 114 = .ok (.iconst 1, 1) := by decide +kernel
theorem dd_Reader_readSigned_115 : decode prog_9_method_6_code 115 = .ok (.isub, 1) := by decide +kernel
theorem dd_Reader_readSigned_116 : decode prog_9_method_6_code 116 = .ok (.lshr, 1) := by decide +kernel
theorem dd_Reader_readSigned_117 : decode prog_9_method_6_code 117 = .ok (.lstore 7, 2) := by decide +kernel
theorem dd_Reader_readSigned_119 : decode prog_9_method_6_code 119 = .ok (.lload 7, 2) := by decide +kernel
theorem dd_Reader_readSigned_121 : decode prog_9_method_6_code 121 = .ok (.lconst 0, 1) := by decide +kernel
theorem dd_Reader_readSigned_122 : decode prog_9_method_6_code 122 = .ok (.lcmp, 1) := by decide +kernel
theorem dd_Reader_readSigned_123 : decode prog_9_method_6_code 123 = .ok (.ifCond .eq 12, 3) := by decide +kernel
theorem dd_Reader_readSigned_126 : decode prog_9_method_6_code 126 = .ok (.lload 7, 2) := by decide +kernel
theorem dd_Reader_readSigned_128 : decode prog_9_method_6_code 128 = .ok (.ldc2_w 101, 3) := by decide +kernel
theorem dd_Reader_readSigned_131 : decode prog_9_method_6_code 131 = .ok (.lcmp, 1) := by decide +kernel
theorem dd_Reader_readSigned_132 : decode prog_9_method_6_code 132 = .ok (.ifCond .ne 11, 3) := by decide +kernel
theorem dd_Reader_readSigned_135 : decode prog_9_method_6_code 135 = .ok (.lload_n 2, 1) := by decide +kernel
theorem dd_Reader_readSigned_136 : decode prog_9_method_6_code 136 = .ok (.lreturn, 1) := by decide +kernel
theorem dd_Reader_readSigned_137 : decode prog_9_method_6_code 137 = .ok (.iinc 4 7, 3) := by decide +kernel
theorem dd_Reader_readSigned_140 : decode prog_9_method_6_code 140 = .ok (.goto (-135), 3) := by decide +kernel
theorem dd_Reader_readSigned_143 : decode prog_9_method_6_code 143 = .ok (.new 53, 3) := by decide +kernel
theorem dd_Reader_readSigned_146 : decode prog_9_method_6_code 146 = .ok (.dup, 1) := by decide +kernel
theorem dd_Reader_readSigned_147 : decode prog_9_method_6_code 147 = .ok (.invokespecial 55, 3) := by decide +kernel
theorem dd_Reader_readSigned_150 : decode prog_9_method_6_code 150 = .ok (.athrow, 1) := by decide +kernel
theorem dd_Reader_readTarget_0 : decode prog_9_method_11_code 0 = .ok (.aload_n 0, 1) := by decide +kernel
theorem dd_Reader_readTarget_1 : decode prog_9_method_11_code 1 = .ok (.invokevirtual 115, 3) := by decide +kernel
theorem dd_Reader_readTarget_4 : decode prog_9_method_11_code 4 = .ok (.istore_n 1, 1) := by decide +kernel
theorem dd_Reader_readTarget_5 : decode prog_9_method_11_code 5 = .ok (.iload_n 1, 1) := by decide +kernel
theorem dd_Reader_readTarget_6 : decode prog_9_method_11_code 6 = .ok (.bipush 109, 2) := by decide +kernel
theorem dd_Reader_readTarget_8 : decode prog_9_method_11_code 8 = .ok (.if_icmp .eq 9, 3) := by decide +kernel
theorem dd_Reader_readTarget_11 : decode prog_9_method_11_code 11 = .ok (.iload_n 1, 1) := by decide +kernel
theorem dd_Reader_readTarget_12 : decode prog_9_method_11_code 12 = .ok (.bipush 108, 2) := by decide +kernel
theorem dd_Reader_readTarget_14 : decode prog_9_method_11_code 14 = .ok (.if_icmp .ne 25, 3) := by decide +kernel
theorem dd_Reader_readTarget_17 : decode prog_9_method_11_code 17 = .ok (.aload_n 0, 1) := by decide +kernel
theorem dd_Reader_readTarget_18 : decode prog_9_method_11_code 18 = .ok (.dup, 1) := by decide +kernel
theorem dd_Reader_readTarget_19 : decode prog_9_method_11_code 19 = .ok (.getfield 38, 3) := by decide +kernel
theorem dd_Reader_readTarget_22 : decode prog_9_method_11_code 22 = .ok (.iconst 1, 1) := by decide +kernel
theorem dd_Reader_readTarget_23 : decode prog_9_method_11_code 23 = .ok (.iadd, 1) := by decide +kernel
theorem dd_Reader_readTarget_24 : decode prog_9_method_11_code 24 = .ok (.putfield 38, 3) := by decide +kernel
theorem dd_Reader_readTarget_27 : decode prog_9_method_11_code 27 = .ok (.iload_n 1, 1) := by decide +kernel
theorem dd_Reader_readTarget_28 : decode prog_9_method_11_code 28 = .ok (.bipush 109, 2) := by decide +kernel
theorem dd_Reader_readTarget_30 : decode prog_9_method_11_code 30 = .ok (.if_icmp .ne 7, 3) := by decide +kernel
theorem dd_Reader_readTarget_33 : decode prog_9_method_11_code 33 = .ok (.iconst 0, 1) := by decide +kernel
theorem dd_Reader_readTarget_34 : decode prog_9_method_11_code 34 = .ok (.goto 4, 3) := by decide +kernel
theorem dd_Reader_readTarget_37 : decode prog_9_method_11_code 37 = .ok (.iconst 1, 1) := by decide +kernel
theorem dd_Reader_readTarget_38 : decode prog_9_method_11_code 38 = .ok (.ireturn, 1) := by decide +kernel
theorem dd_Reader_readTarget_39 : decode prog_9_method_11_code 39 = .ok (.aload_n 0, 1) := by decide +kernel
theorem dd_Reader_readTarget_40 : decode prog_9_method_11_code 40 = .ok (.bipush 33, 2) := by decide +kernel
theorem dd_Reader_readTarget_42 : decode prog_9_method_11_code 42 = .ok (.invokevirtual 120, 3) := by decide +kernel
theorem dd_Reader_readTarget_45 : decode prog_9_method_11_code 45 = .ok (.lstore_n 2, 1) := by decide +kernel
theorem dd_Reader_readTarget_46 : decode prog_9_method_11_code 46 = .ok (.lload_n 2, 1) := by decide +kernel
theorem dd_Reader_readTarget_47 : decode prog_9_method_11_code 47 = .ok (.lconst 0, 1) := by decide +kernel
theorem dd_Reader_readTarget_48 : decode prog_9_method_11_code 48 = .ok (.lcmp, 1) := by decide +kernel
theorem dd_Reader_readTarget_49 : decode prog_9_method_11_code 49 = .ok (.ifCond .ge 11, 3) := by decide +kernel
theorem dd_Reader_readTarget_52 : decode prog_9_method_11_code 52 = .ok (.new 53, 3) := by decide +kernel
theorem dd_Reader_readTarget_55 : decode prog_9_method_11_code 55 = .ok (.dup, 1) := by decide +kernel
theorem dd_Reader_readTarget_56 : decode prog_9_method_11_code 56 = .ok (.invokespecial 55, 3) := by decide +kernel
theorem dd_Reader_readTarget_59 : decode prog_9_method_11_code 59 = .ok (.athrow, 1) := by decide +kernel
theorem dd_Reader_readTarget_60 : decode prog_9_method_11_code 60 = .ok (.iconst 3, 1) := by decide +kernel
theorem dd_Reader_readTarget_61 : decode prog_9_method_11_code 61 = .ok (.lload_n 2, 1) := by decide +kernel
theorem dd_Reader_readTarget_62 : decode prog_9_method_11_code 62 = .ok (.ldc2_w 124, 3) := by decide +kernel
theorem dd_Reader_readTarget_65 : decode prog_9_method_11_code 65 = .ok (.invokestatic 111, 3) := by decide +kernel
theorem dd_Reader_readTarget_68 : decode prog_9_method_11_code 68 = .ok (.l2i, 1) := by decide +kernel
theorem dd_Reader_readTarget_69 : decode prog_9_method_11_code 69 = .ok (.iadd, 1) := by decide +kernel
theorem dd_Reader_readTarget_70 : decode prog_9_method_11_code 70 = .ok (.ireturn, 1) := by decide +kernel
theorem dd_Types_reference_0 : decode prog_11_method_2_code 0 = .ok (.bipush 16, 2) := by decide +kernel
theorem dd_Types_reference_2 : decode prog_11_method_2_code 2 = .ok (.iconst 2, 1) := by decide +kernel
theorem dd_Types_reference_3 : decode prog_11_method_2_code 3 = .ok (.iload_n 0, 1) := by decide +kernel
theorem dd_Types_reference_4 : decode prog_11_method_2_code 4 = .ok (.imul, 1) := by decide +kernel
theorem dd_Types_reference_5 : decode prog_11_method_2_code 5 = .ok (.iadd, 1) := by decide +kernel
theorem dd_Types_reference_6 : decode prog_11_method_2_code 6 = .ok (.iload_n 1, 1) := by decide +kernel
theorem dd_Types_reference_7 : decode prog_11_method_2_code 7 = .ok (.ifCond .eq 7, 3) := by decide +kernel
theorem dd_Types_reference_10 : decode prog_11_method_2_code 10 = .ok (.iconst 1, 1) := by decide +kernel
theorem dd_Types_reference_11 : decode prog_11_method_2_code 11 = .ok (.goto 4, 3) := by decide +kernel
theorem dd_Types_reference_14 : decode prog_11_method_2_code 14 = .ok (.iconst 0, 1) := by decide +kernel
theorem dd_Types_reference_15 : decode prog_11_method_2_code 15 = .ok (.iadd, 1) := by decide +kernel
theorem dd_Types_reference_16 : decode prog_11_method_2_code 16 = .ok (.ireturn, 1) := by decide +kernel
theorem dd_Reader_readValueType_0 : decode prog_9_method_12_code 0 = .ok (.aload_n 0, 1) := by decide +kernel
theorem dd_Reader_readValueType_1 : decode prog_9_method_12_code 1 = .ok (.invokevirtual 49, 3) := by decide +kernel
theorem dd_Reader_readValueType_4 : decode prog_9_method_12_code 4 = .ok (.lookupswitch 94 #[(99, 76), (100, 85), (108, 70), (109, 64), (126, 62), (127, 60)], 60) := by decide +kernel
theorem dd_Reader_readValueType_64 : decode prog_9_method_12_code 64 = .ok (.iconst 1, 1) := by decide +kernel
theorem dd_Reader_readValueType_65 : decode prog_9_method_12_code 65 = .ok (.ireturn, 1) := by decide +kernel
theorem dd_Reader_readValueType_66 : decode prog_9_method_12_code 66 = .ok (.iconst 2, 1) := by decide +kernel
theorem dd_Reader_readValueType_67 : decode prog_9_method_12_code 67 = .ok (.ireturn, 1) := by decide +kernel
theorem dd_Reader_readValueType_68 : decode prog_9_method_12_code 68 = .ok (.iconst 0, 1) := by decide +kernel
theorem dd_Reader_readValueType_69 : decode prog_9_method_12_code 69 = .ok (.iconst 1, 1) := by decide +kernel
theorem dd_Reader_readValueType_70 : decode prog_9_method_12_code 70 = .ok (.invokestatic 126, 3) := by decide +kernel
theorem dd_Reader_readValueType_73 : decode prog_9_method_12_code 73 = .ok (.ireturn, 1) := by decide +kernel
theorem dd_Reader_readValueType_74 : decode prog_9_method_12_code 74 = .ok (.iconst 1, 1) := by decide +kernel
theorem dd_Reader_readValueType_75 : decode prog_9_method_12_code 75 = .ok (.iconst 1, 1) := by decide +kernel
theorem dd_Reader_readValueType_76 : decode prog_9_method_12_code 76 = .ok (.invokestatic 126, 3) := by decide +kernel
theorem dd_Reader_readValueType_79 : decode prog_9_method_12_code 79 = .ok (.ireturn, 1) := by decide +kernel
theorem dd_Reader_readValueType_80 : decode prog_9_method_12_code 80 = .ok (.aload_n 0, 1) := by decide +kernel
theorem dd_Reader_readValueType_81 : decode prog_9_method_12_code 81 = .ok (.invokevirtual 130, 3) := by decide +kernel
theorem dd_Reader_readValueType_84 : decode prog_9_method_12_code 84 = .ok (.iconst 1, 1) := by decide +kernel
theorem dd_Reader_readValueType_85 : decode prog_9_method_12_code 85 = .ok (.invokestatic 126, 3) := by decide +kernel
theorem dd_Reader_readValueType_88 : decode prog_9_method_12_code 88 = .ok (.ireturn, 1) := by decide +kernel
theorem dd_Reader_readValueType_89 : decode prog_9_method_12_code 89 = .ok (.aload_n 0, 1) := by decide +kernel
theorem dd_Reader_readValueType_90 : decode prog_9_method_12_code 90 = .ok (.invokevirtual 130, 3) := by decide +kernel
theorem dd_Reader_readValueType_93 : decode prog_9_method_12_code 93 = .ok (.iconst 0, 1) := by decide +kernel
theorem dd_Reader_readValueType_94 : decode prog_9_method_12_code 94 = .ok (.invokestatic 126, 3) := by decide +kernel
theorem dd_Reader_readValueType_97 : decode prog_9_method_12_code 97 = .ok (.ireturn, 1) := by decide +kernel
theorem dd_Reader_readValueType_98 : decode prog_9_method_12_code 98 = .ok (.new 53, 3) := by decide +kernel
theorem dd_Reader_readValueType_101 : decode prog_9_method_12_code 101 = .ok (.dup, 1) := by decide +kernel
theorem dd_Reader_readValueType_102 : decode prog_9_method_12_code 102 = .ok (.invokespecial 55, 3) := by decide +kernel
theorem dd_Reader_readValueType_105 : decode prog_9_method_12_code 105 = .ok (.athrow, 1) := by decide +kernel
theorem dd_Reader_readFields_0 : decode prog_9_method_16_code 0 = .ok (.aload_n 0, 1) := by decide +kernel
theorem dd_Reader_readFields_1 : decode prog_9_method_16_code 1 = .ok (.getfield 26, 3) := by decide +kernel
theorem dd_Reader_readFields_4 : decode prog_9_method_16_code 4 = .ok (.getfield 155, 3) := by decide +kernel
theorem dd_Reader_readFields_7 : decode prog_9_method_16_code 7 = .ok (.iload_n 1, 1) := by decide +kernel
theorem dd_Reader_readFields_8 : decode prog_9_method_16_code 8 = .ok (.iload_n 2, 1) := by decide +kernel
theorem dd_Reader_readFields_9 : decode prog_9_method_16_code 9 = .ok (.iastore, 1) := by decide +kernel
theorem dd_Reader_readFields_10 : decode prog_9_method_16_code 10 = .ok (.iconst 0, 1) := by decide +kernel
theorem dd_Reader_readFields_11 : decode prog_9_method_16_code 11 = .ok (.istore_n 3, 1) := by decide +kernel
theorem dd_Reader_readFields_12 : decode prog_9_method_16_code 12 = .ok (.iload_n 3, 1) := by decide +kernel
theorem dd_Reader_readFields_13 : decode prog_9_method_16_code 13 = .ok (.iload_n 2, 1) := by decide +kernel
theorem dd_Reader_readFields_14 : decode prog_9_method_16_code 14 = .ok (.if_icmp .ge 89, 3) := by decide +kernel
theorem dd_Reader_readFields_17 : decode prog_9_method_16_code 17 = .ok (.aload_n 0, 1) := by decide +kernel
theorem dd_Reader_readFields_18 : decode prog_9_method_16_code 18 = .ok (.invokevirtual 115, 3) := by decide +kernel
theorem dd_Reader_readFields_21 : decode prog_9_method_16_code 21 = .ok (.istore 4, 2) := by decide +kernel
theorem dd_Reader_readFields_23 : decode prog_9_method_16_code 23 = .ok (.iload 4, 2) := by decide +kernel
theorem dd_Reader_readFields_25 : decode prog_9_method_16_code 25 = .ok (.bipush 120, 2) := by decide +kernel
theorem dd_Reader_readFields_27 : decode prog_9_method_16_code 27 = .ok (.if_icmp .eq 10, 3) := by decide +kernel
theorem dd_Reader_readFields_30 : decode prog_9_method_16_code 30 = .ok (.iload 4, 2) := by decide +kernel
theorem dd_Reader_readFields_32 : decode prog_9_method_16_code 32 = .ok (.bipush 119, 2) := by decide +kernel
theorem dd_Reader_readFields_34 : decode prog_9_method_16_code 34 = .ok (.if_icmp .ne 37, 3) := by decide +kernel
theorem dd_Reader_readFields_37 : decode prog_9_method_16_code 37 = .ok (.aload_n 0, 1) := by decide +kernel
theorem dd_Reader_readFields_38 : decode prog_9_method_16_code 38 = .ok (.dup, 1) := by decide +kernel
theorem dd_Reader_readFields_39 : decode prog_9_method_16_code 39 = .ok (.getfield 38, 3) := by decide +kernel
theorem dd_Reader_readFields_42 : decode prog_9_method_16_code 42 = .ok (.iconst 1, 1) := by decide +kernel
theorem dd_Reader_readFields_43 : decode prog_9_method_16_code 43 = .ok (.iadd, 1) := by decide +kernel
theorem dd_Reader_readFields_44 : decode prog_9_method_16_code 44 = .ok (.putfield 38, 3) := by decide +kernel
theorem dd_Reader_readFields_47 : decode prog_9_method_16_code 47 = .ok (.aload_n 0, 1) := by decide +kernel
theorem dd_Reader_readFields_48 : decode prog_9_method_16_code 48 = .ok (.getfield 26, 3) := by decide +kernel
theorem dd_Reader_readFields_51 : decode prog_9_method_16_code 51 = .ok (.iload_n 1, 1) := by decide +kernel
theorem dd_Reader_readFields_52 : decode prog_9_method_16_code 52 = .ok (.iload_n 3, 1) := by decide +kernel
theorem dd_Reader_readFields_53 : decode prog_9_method_16_code 53 = .ok (.iload 4, 2) := by decide +kernel
theorem dd_Reader_readFields_55 : decode prog_9_method_16_code 55 = .ok (.bipush 120, 2) := by decide +kernel
theorem dd_Reader_readFields_57 : decode prog_9_method_16_code 57 = .ok (.if_icmp .ne 7, 3) := by decide +kernel
theorem dd_Reader_readFields_60 : decode prog_9_method_16_code 60 = .ok (.iconst 3, 1) := by decide +kernel
theorem dd_Reader_readFields_61 : decode prog_9_method_16_code 61 = .ok (.goto 4, 3) := by decide +kernel
theorem dd_Reader_readFields_64 : decode prog_9_method_16_code 64 = .ok (.iconst 4, 1) := by decide +kernel
theorem dd_Reader_readFields_65 : decode prog_9_method_16_code 65 = .ok (.invokevirtual 158, 3) := by decide +kernel
theorem dd_Reader_readFields_68 : decode prog_9_method_16_code 68 = .ok (.goto 16, 3) := by decide +kernel
theorem dd_Reader_readFields_71 : decode prog_9_method_16_code 71 = .ok (.aload_n 0, 1) := by decide +kernel
theorem dd_Reader_readFields_72 : decode prog_9_method_16_code 72 = .ok (.getfield 26, 3) := by decide +kernel
theorem dd_Reader_readFields_75 : decode prog_9_method_16_code 75 = .ok (.iload_n 1, 1) := by decide +kernel
theorem dd_Reader_readFields_76 : decode prog_9_method_16_code 76 = .ok (.iload_n 3, 1) := by decide +kernel
theorem dd_Reader_readFields_77 : decode prog_9_method_16_code 77 = .ok (.aload_n 0, 1) := by decide +kernel
theorem dd_Reader_readFields_78 : decode prog_9_method_16_code 78 = .ok (.invokevirtual 133, 3) := by decide +kernel
theorem dd_Reader_readFields_81 : decode prog_9_method_16_code 81 = .ok (.invokevirtual 158, 3) := by decide +kernel
theorem dd_Reader_readFields_84 : decode prog_9_method_16_code 84 = .ok (.aload_n 0, 1) := by decide +kernel
theorem dd_Reader_readFields_85 : decode prog_9_method_16_code 85 = .ok (.getfield 26, 3) := by decide +kernel
theorem dd_Reader_readFields_88 : decode prog_9_method_16_code 88 = .ok (.iload_n 1, 1) := by decide +kernel
theorem dd_Reader_readFields_89 : decode prog_9_method_16_code 89 = .ok (.iload_n 3, 1) := by decide +kernel
theorem dd_Reader_readFields_90 : decode prog_9_method_16_code 90 = .ok (.aload_n 0, 1) := by decide +kernel
theorem dd_Reader_readFields_91 : decode prog_9_method_16_code 91 = .ok (.invokevirtual 165, 3) := by decide +kernel
theorem dd_Reader_readFields_94 : decode prog_9_method_16_code 94 = .ok (.invokevirtual 162, 3) := by decide +kernel
theorem dd_Reader_readFields_97 : decode prog_9_method_16_code 97 = .ok (.iinc 3 1, 3) := by decide +kernel
theorem dd_Reader_readFields_100 : decode prog_9_method_16_code 100 = .ok (.goto (-88), 3) := by decide +kernel
theorem dd_Reader_readFields_103 : decode prog_9_method_16_code 103 = .ok (.return_, 1) := by decide +kernel
theorem dd_Reader_readSignature_0 : decode prog_9_method_15_code 0 = .ok (.aload_n 0, 1) := by decide +kernel
theorem dd_Reader_readSignature_1 : decode prog_9_method_15_code 1 = .ok (.invokevirtual 78, 3) := by decide +kernel
theorem dd_Reader_readSignature_4 : decode prog_9_method_15_code 4 = .ok (.istore_n 2, 1) := by decide +kernel
theorem dd_Reader_readSignature_5 : decode prog_9_method_15_code 5 = .ok (.aload_n 0, 1) := by decide +kernel
theorem dd_Reader_readSignature_6 : decode prog_9_method_15_code 6 = .ok (.getfield 26, 3) := by decide +kernel
theorem dd_Reader_readSignature_9 : decode prog_9_method_15_code 9 = .ok (.getfield 155, 3) := by decide +kernel
theorem dd_Reader_readSignature_12 : decode prog_9_method_15_code 12 = .ok (.iload_n 1, 1) := by decide +kernel
theorem dd_Reader_readSignature_13 : decode prog_9_method_15_code 13 = .ok (.iload_n 2, 1) := by decide +kernel
theorem dd_Reader_readSignature_14 : decode prog_9_method_15_code 14 = .ok (.iastore, 1) := by decide +kernel
theorem dd_Reader_readSignature_15 : decode prog_9_method_15_code 15 = .ok (.iconst 0, 1) := by decide +kernel
theorem dd_Reader_readSignature_16 : decode prog_9_method_15_code 16 = .ok (.istore_n 3, 1) := by decide +kernel
theorem dd_Reader_readSignature_17 : decode prog_9_method_15_code 17 = .ok (.iload_n 3, 1) := by decide +kernel
theorem dd_Reader_readSignature_18 : decode prog_9_method_15_code 18 = .ok (.iload_n 2, 1) := by decide +kernel
theorem dd_Reader_readSignature_19 : decode prog_9_method_15_code 19 = .ok (.if_icmp .ge 22, 3) := by decide +kernel
theorem dd_Reader_readSignature_22 : decode prog_9_method_15_code 22 = .ok (.aload_n 0, 1) := by decide +kernel
theorem dd_Reader_readSignature_23 : decode prog_9_method_15_code 23 = .ok (.getfield 26, 3) := by decide +kernel
theorem dd_Reader_readSignature_26 : decode prog_9_method_15_code 26 = .ok (.iload_n 1, 1) := by decide +kernel
theorem dd_Reader_readSignature_27 : decode prog_9_method_15_code 27 = .ok (.iload_n 3, 1) := by decide +kernel
theorem dd_Reader_readSignature_28 : decode prog_9_method_15_code 28 = .ok (.aload_n 0, 1) := by decide +kernel
theorem dd_Reader_readSignature_29 : decode prog_9_method_15_code 29 = .ok (.invokevirtual 133, 3) := by decide +kernel
theorem dd_Reader_readSignature_32 : decode prog_9_method_15_code 32 = .ok (.invokevirtual 158, 3) := by decide +kernel
theorem dd_Reader_readSignature_35 : decode prog_9_method_15_code 35 = .ok (.iinc 3 1, 3) := by decide +kernel
theorem dd_Reader_readSignature_38 : decode prog_9_method_15_code 38 = .ok (.goto (-21), 3) := by decide +kernel
theorem dd_Reader_readSignature_41 : decode prog_9_method_15_code 41 = .ok (.aload_n 0, 1) := by decide +kernel
theorem dd_Reader_readSignature_42 : decode prog_9_method_15_code 42 = .ok (.invokevirtual 78, 3) := by decide +kernel
theorem dd_Reader_readSignature_45 : decode prog_9_method_15_code 45 = .ok (.istore_n 3, 1) := by decide +kernel
theorem dd_Reader_readSignature_46 : decode prog_9_method_15_code 46 = .ok (.aload_n 0, 1) := by decide +kernel
theorem dd_Reader_readSignature_47 : decode prog_9_method_15_code 47 = .ok (.getfield 26, 3) := by decide +kernel
theorem dd_Reader_readSignature_50 : decode prog_9_method_15_code 50 = .ok (.getfield 144, 3) := by decide +kernel
theorem dd_Reader_readSignature_53 : decode prog_9_method_15_code 53 = .ok (.iload_n 1, 1) := by decide +kernel
theorem dd_Reader_readSignature_54 : decode prog_9_method_15_code 54 = .ok (.iload_n 3, 1) := by decide +kernel
theorem dd_Reader_readSignature_55 : decode prog_9_method_15_code 55 = .ok (.iastore, 1) := by decide +kernel
theorem dd_Reader_readSignature_56 : decode prog_9_method_15_code 56 = .ok (.iconst 0, 1) := by decide +kernel
theorem dd_Reader_readSignature_57 : decode prog_9_method_15_code 57 = .ok (.istore 4, 2) := by decide +kernel
theorem dd_Reader_readSignature_59 : decode prog_9_method_15_code 59 = .ok (.iload 4, 2) := by decide +kernel
theorem dd_Reader_readSignature_61 : decode prog_9_method_15_code 61 = .ok (.iload_n 3, 1) := by decide +kernel
theorem dd_Reader_readSignature_62 : decode prog_9_method_15_code 62 = .ok (.if_icmp .ge 23, 3) := by decide +kernel
theorem dd_Reader_readSignature_65 : decode prog_9_method_15_code 65 = .ok (.aload_n 0, 1) := by decide +kernel
theorem dd_Reader_readSignature_66 : decode prog_9_method_15_code 66 = .ok (.getfield 26, 3) := by decide +kernel
theorem dd_Reader_readSignature_69 : decode prog_9_method_15_code 69 = .ok (.iload_n 1, 1) := by decide +kernel
theorem dd_Reader_readSignature_70 : decode prog_9_method_15_code 70 = .ok (.iload 4, 2) := by decide +kernel
theorem dd_Reader_readSignature_72 : decode prog_9_method_15_code 72 = .ok (.aload_n 0, 1) := by decide +kernel
theorem dd_Reader_readSignature_73 : decode prog_9_method_15_code 73 = .ok (.invokevirtual 133, 3) := by decide +kernel
theorem dd_Reader_readSignature_76 : decode prog_9_method_15_code 76 = .ok (.invokevirtual 162, 3) := by decide +kernel
theorem dd_Reader_readSignature_79 : decode prog_9_method_15_code 79 = .ok (.iinc 4 1, 3) := by decide +kernel
theorem dd_Reader_readSignature_82 : decode prog_9_method_15_code 82 = .ok (.goto (-23), 3) := by decide +kernel
theorem dd_Reader_readSignature_85 : decode prog_9_method_15_code 85 = .ok (.return_, 1) := by decide +kernel
theorem dd_Reader_readTypes_0 : decode prog_9_method_14_code 0 = .ok (.aload_n 0, 1) := by decide +kernel
theorem dd_Reader_readTypes_1 : decode prog_9_method_14_code 1 = .ok (.invokevirtual 78, 3) := by decide +kernel
theorem dd_Reader_readTypes_4 : decode prog_9_method_14_code 4 = .ok (.istore_n 1, 1) := by decide +kernel
theorem dd_Reader_readTypes_5 : decode prog_9_method_14_code 5 = .ok (.aload_n 0, 1) := by decide +kernel
theorem dd_Reader_readTypes_6 : decode prog_9_method_14_code 6 = .ok (.getfield 26, 3) := by decide +kernel
theorem dd_Reader_readTypes_9 : decode prog_9_method_14_code 9 = .ok (.iload_n 1, 1) := by decide +kernel
theorem dd_Reader_readTypes_10 : decode prog_9_method_14_code 10 = .ok (.putfield 136, 3) := by decide +kernel
theorem dd_Reader_readTypes_13 : decode prog_9_method_14_code 13 = .ok (.iconst 0, 1) := by decide +kernel
theorem dd_Reader_readTypes_14 : decode prog_9_method_14_code 14 = .ok (.istore_n 2, 1) := by decide +kernel
theorem dd_Reader_readTypes_15 : decode prog_9_method_14_code 15 = .ok (.iload_n 2, 1) := by decide +kernel
theorem dd_Reader_readTypes_16 : decode prog_9_method_14_code 16 = .ok (.iload_n 1, 1) := by decide +kernel
theorem dd_Reader_readTypes_17 : decode prog_9_method_14_code 17 = .ok (.if_icmp .ge 110, 3) := by decide +kernel
theorem dd_Reader_readTypes_20 : decode prog_9_method_14_code 20 = .ok (.iload_n 2, 1) := by decide +kernel
theorem dd_Reader_readTypes_21 : decode prog_9_method_14_code 21 = .ok (.bipush 64, 2) := by decide +kernel
theorem dd_Reader_readTypes_23 : decode prog_9_method_14_code 23 = .ok (.invokestatic 139, 3) := by decide +kernel
theorem dd_Reader_readTypes_26 : decode prog_9_method_14_code 26 = .ok (.istore_n 3, 1) := by decide +kernel
theorem dd_Reader_readTypes_27 : decode prog_9_method_14_code 27 = .ok (.aload_n 0, 1) := by decide +kernel
theorem dd_Reader_readTypes_28 : decode prog_9_method_14_code 28 = .ok (.invokevirtual 49, 3) := by decide +kernel
theorem dd_Reader_readTypes_31 : decode prog_9_method_14_code 31 = .ok (.istore 4, 2) := by decide +kernel
theorem dd_Reader_readTypes_33 : decode prog_9_method_14_code 33 = .ok (.aload_n 0, 1) := by decide +kernel
theorem dd_Reader_readTypes_34 : decode prog_9_method_14_code 34 = .ok (.getfield 26, 3) := by decide +kernel
theorem dd_Reader_readTypes_37 : decode prog_9_method_14_code 37 = .ok (.getfield 141, 3) := by decide +kernel
theorem dd_Reader_readTypes_40 : decode prog_9_method_14_code 40 = .ok (.iload_n 3, 1) := by decide +kernel
theorem dd_Reader_readTypes_41 : decode prog_9_method_14_code 41 = .ok (.iload 4, 2) := by decide +kernel
theorem dd_Reader_readTypes_43 : decode prog_9_method_14_code 43 = .ok (.iastore, 1) := by decide +kernel
theorem dd_Reader_readTypes_44 : decode prog_9_method_14_code 44 = .ok (.aload_n 0, 1) := by decide +kernel
theorem dd_Reader_readTypes_45 : decode prog_9_method_14_code 45 = .ok (.getfield 26, 3) := by decide +kernel
theorem dd_Reader_readTypes_48 : decode prog_9_method_14_code 48 = .ok (.getfield 144, 3) := by decide +kernel
theorem dd_Reader_readTypes_51 : decode prog_9_method_14_code 51 = .ok (.iload_n 3, 1) := by decide +kernel
theorem dd_Reader_readTypes_52 : decode prog_9_method_14_code 52 = .ok (.iconst 0, 1) := by decide +kernel
theorem dd_Reader_readTypes_53 : decode prog_9_method_14_code 53 = .ok (.iastore, 1) := by decide +kernel
theorem dd_Reader_readTypes_54 : decode prog_9_method_14_code 54 = .ok (.iload 4, 2) := by decide +kernel
theorem dd_Reader_readTypes_56 : decode prog_9_method_14_code 56 = .ok (.tableswitch 57 94 96 #[48, 36, 28], 28) := by decide +kernel
theorem dd_Reader_readTypes_84 : decode prog_9_method_14_code 84 = .ok (.aload_n 0, 1) := by decide +kernel
theorem dd_Reader_readTypes_85 : decode prog_9_method_14_code 85 = .ok (.iload_n 3, 1) := by decide +kernel
theorem dd_Reader_readTypes_86 : decode prog_9_method_14_code 86 = .ok (.invokevirtual 147, 3) := by decide +kernel
theorem dd_Reader_readTypes_89 : decode prog_9_method_14_code 89 = .ok (.goto 32, 3) := by decide +kernel
theorem dd_Reader_readTypes_92 : decode prog_9_method_14_code 92 = .ok (.aload_n 0, 1) := by decide +kernel
theorem dd_Reader_readTypes_93 : decode prog_9_method_14_code 93 = .ok (.iload_n 3, 1) := by decide +kernel
theorem dd_Reader_readTypes_94 : decode prog_9_method_14_code 94 = .ok (.aload_n 0, 1) := by decide +kernel
theorem dd_Reader_readTypes_95 : decode prog_9_method_14_code 95 = .ok (.invokevirtual 78, 3) := by decide +kernel
theorem dd_Reader_readTypes_98 : decode prog_9_method_14_code 98 = .ok (.invokevirtual 151, 3) := by decide +kernel
theorem dd_Reader_readTypes_101 : decode prog_9_method_14_code 101 = .ok (.goto 20, 3) := by decide +kernel
theorem dd_Reader_readTypes_104 : decode prog_9_method_14_code 104 = .ok (.aload_n 0, 1) := by decide +kernel
theorem dd_Reader_readTypes_105 : decode prog_9_method_14_code 105 = .ok (.iload_n 3, 1) := by decide +kernel
theorem dd_Reader_readTypes_106 : decode prog_9_method_14_code 106 = .ok (.iconst 1, 1) := by decide +kernel
theorem dd_Reader_readTypes_107 : decode prog_9_method_14_code 107 = .ok (.invokevirtual 151, 3) := by decide +kernel
theorem dd_Reader_readTypes_110 : decode prog_9_method_14_code 110 = .ok (.goto 11, 3) := by decide +kernel
theorem dd_Reader_readTypes_113 : decode prog_9_method_14_code 113 = .ok (.new 53, 3) := by decide +kernel
theorem dd_Reader_readTypes_116 : decode prog_9_method_14_code 116 = .ok (.dup, 1) := by decide +kernel
theorem dd_Reader_readTypes_117 : decode prog_9_method_14_code 117 = .ok (.invokespecial 55, 3) := by decide +kernel
theorem dd_Reader_readTypes_120 : decode prog_9_method_14_code 120 = .ok (.athrow, 1) := by decide +kernel
theorem dd_Reader_readTypes_121 : decode prog_9_method_14_code 121 = .ok (.iinc 2 1, 3) := by decide +kernel
theorem dd_Reader_readTypes_124 : decode prog_9_method_14_code 124 = .ok (.goto (-109), 3) := by decide +kernel
theorem dd_Reader_readTypes_127 : decode prog_9_method_14_code 127 = .ok (.return_, 1) := by decide +kernel
theorem dd_Reader_expect_0 : decode prog_9_method_10_code 0 = .ok (.aload_n 0, 1) := by decide +kernel
theorem dd_Reader_expect_1 : decode prog_9_method_10_code 1 = .ok (.invokevirtual 49, 3) := by decide +kernel
theorem dd_Reader_expect_4 : decode prog_9_method_10_code 4 = .ok (.iload_n 1, 1) := by decide +kernel
theorem dd_Reader_expect_5 : decode prog_9_method_10_code 5 = .ok (.if_icmp .eq 11, 3) := by decide +kernel
theorem dd_Reader_expect_8 : decode prog_9_method_10_code 8 = .ok (.new 53, 3) := by decide +kernel
theorem dd_Reader_expect_11 : decode prog_9_method_10_code 11 = .ok (.dup, 1) := by decide +kernel
theorem dd_Reader_expect_12 : decode prog_9_method_10_code 12 = .ok (.invokespecial 55, 3) := by decide +kernel
theorem dd_Reader_expect_15 : decode prog_9_method_10_code 15 = .ok (.athrow, 1) := by decide +kernel
theorem dd_Reader_expect_16 : decode prog_9_method_10_code 16 = .ok (.return_, 1) := by decide +kernel
theorem dd_Reader_readPlace_0 : decode prog_9_method_24_code 0 = .ok (.aload_n 0, 1) := by decide +kernel
theorem dd_Reader_readPlace_1 : decode prog_9_method_24_code 1 = .ok (.iconst 0, 1) := by decide +kernel
theorem dd_Reader_readPlace_2 : decode prog_9_method_24_code 2 = .ok (.invokevirtual 179, 3) := by decide +kernel
theorem dd_Reader_readPlace_5 : decode prog_9_method_24_code 5 = .ok (.aload_n 0, 1) := by decide +kernel
theorem dd_Reader_readPlace_6 : decode prog_9_method_24_code 6 = .ok (.bipush 65, 2) := by decide +kernel
theorem dd_Reader_readPlace_8 : decode prog_9_method_24_code 8 = .ok (.invokevirtual 179, 3) := by decide +kernel
theorem dd_Reader_readPlace_11 : decode prog_9_method_24_code 11 = .ok (.aload_n 0, 1) := by decide +kernel
theorem dd_Reader_readPlace_12 : decode prog_9_method_24_code 12 = .ok (.bipush 32, 2) := by decide +kernel
theorem dd_Reader_readPlace_14 : decode prog_9_method_24_code 14 = .ok (.invokevirtual 120, 3) := by decide +kernel
theorem dd_Reader_readPlace_17 : decode prog_9_method_24_code 17 = .ok (.ldc2_w 99, 3) := by decide +kernel
theorem dd_Reader_readPlace_20 : decode prog_9_method_24_code 20 = .ok (.land, 1) := by decide +kernel
theorem dd_Reader_readPlace_21 : decode prog_9_method_24_code 21 = .ok (.lstore_n 1, 1) := by decide +kernel
theorem dd_Reader_readPlace_22 : decode prog_9_method_24_code 22 = .ok (.aload_n 0, 1) := by decide +kernel
theorem dd_Reader_readPlace_23 : decode prog_9_method_24_code 23 = .ok (.bipush 11, 2) := by decide +kernel
theorem dd_Reader_readPlace_25 : decode prog_9_method_24_code 25 = .ok (.invokevirtual 179, 3) := by decide +kernel
theorem dd_Reader_readPlace_28 : decode prog_9_method_24_code 28 = .ok (.lload_n 1, 1) := by decide +kernel
theorem dd_Reader_readPlace_29 : decode prog_9_method_24_code 29 = .ok (.lreturn, 1) := by decide +kernel
theorem dd_Reader_passBytes_0 : decode prog_9_method_23_code 0 = .ok (.aload_n 0, 1) := by decide +kernel
theorem dd_Reader_passBytes_1 : decode prog_9_method_23_code 1 = .ok (.aload_n 0, 1) := by decide +kernel
theorem dd_Reader_passBytes_2 : decode prog_9_method_23_code 2 = .ok (.getfield 42, 3) := by decide +kernel
theorem dd_Reader_passBytes_5 : decode prog_9_method_23_code 5 = .ok (.invokevirtual 56, 3) := by decide +kernel
theorem dd_Reader_passBytes_8 : decode prog_9_method_23_code 8 = .ok (.istore_n 3, 1) := by decide +kernel
theorem dd_Reader_passBytes_9 : decode prog_9_method_23_code 9 = .ok (.aload_n 1, 1) := by decide +kernel
theorem dd_Reader_passBytes_10 : decode prog_9_method_23_code 10 = .ok (.getfield 189, 3) := by decide +kernel
theorem dd_Reader_passBytes_13 : decode prog_9_method_23_code 13 = .ok (.iload_n 2, 1) := by decide +kernel
theorem dd_Reader_passBytes_14 : decode prog_9_method_23_code 14 = .ok (.aload_n 0, 1) := by decide +kernel
theorem dd_Reader_passBytes_15 : decode prog_9_method_23_code 15 = .ok (.getfield 38, 3) := by decide +kernel
theorem dd_Reader_passBytes_18 : decode prog_9_method_23_code 18 = .ok (.iastore, 1) := by decide +kernel
theorem dd_Reader_passBytes_19 : decode prog_9_method_23_code 19 = .ok (.aload_n 1, 1) := by decide +kernel
theorem dd_Reader_passBytes_20 : decode prog_9_method_23_code 20 = .ok (.getfield 192, 3) := by decide +kernel
theorem dd_Reader_passBytes_23 : decode prog_9_method_23_code 23 = .ok (.iload_n 2, 1) := by decide +kernel
theorem dd_Reader_passBytes_24 : decode prog_9_method_23_code 24 = .ok (.iload_n 3, 1) := by decide +kernel
theorem dd_Reader_passBytes_25 : decode prog_9_method_23_code 25 = .ok (.iastore, 1) := by decide +kernel
theorem dd_Reader_passBytes_26 : decode prog_9_method_23_code 26 = .ok (.aload_n 0, 1) := by decide +kernel
theorem dd_Reader_passBytes_27 : decode prog_9_method_23_code 27 = .ok (.dup, 1) := by decide +kernel
theorem dd_Reader_passBytes_28 : decode prog_9_method_23_code 28 = .ok (.getfield 38, 3) := by decide +kernel
theorem dd_Reader_passBytes_31 : decode prog_9_method_23_code 31 = .ok (.iload_n 3, 1) := by decide +kernel
theorem dd_Reader_passBytes_32 : decode prog_9_method_23_code 32 = .ok (.iadd, 1) := by decide +kernel
theorem dd_Reader_passBytes_33 : decode prog_9_method_23_code 33 = .ok (.putfield 38, 3) := by decide +kernel
theorem dd_Reader_passBytes_36 : decode prog_9_method_23_code 36 = .ok (.return_, 1) := by decide +kernel
theorem dd_Reader_readData_0 : decode prog_9_method_27_code 0 = .ok (.aload_n 0, 1) := by decide +kernel
theorem dd_Reader_readData_1 : decode prog_9_method_27_code 1 = .ok (.invokevirtual 78, 3) := by decide +kernel
theorem dd_Reader_readData_4 : decode prog_9_method_27_code 4 = .ok (.istore_n 1, 1) := by decide +kernel
theorem dd_Reader_readData_5 : decode prog_9_method_27_code 5 = .ok (.aload_n 0, 1) := by decide +kernel
theorem dd_Reader_readData_6 : decode prog_9_method_27_code 6 = .ok (.getfield 9, 3) := by decide +kernel
theorem dd_Reader_readData_9 : decode prog_9_method_27_code 9 = .ok (.getfield 226, 3) := by decide +kernel
theorem dd_Reader_readData_12 : decode prog_9_method_27_code 12 = .ok (.iload_n 1, 1) := by decide +kernel
theorem dd_Reader_readData_13 : decode prog_9_method_27_code 13 = .ok (.putfield 172, 3) := by decide +kernel
theorem dd_Reader_readData_16 : decode prog_9_method_27_code 16 = .ok (.iconst 0, 1) := by decide +kernel
theorem dd_Reader_readData_17 : decode prog_9_method_27_code 17 = .ok (.istore_n 2, 1) := by decide +kernel
theorem dd_Reader_readData_18 : decode prog_9_method_27_code 18 = .ok (.iload_n 2, 1) := by decide +kernel
theorem dd_Reader_readData_19 : decode prog_9_method_27_code 19 = .ok (.iload_n 1, 1) := by decide +kernel
theorem dd_Reader_readData_20 : decode prog_9_method_27_code 20 = .ok (.if_icmp .ge 44, 3) := by decide +kernel
theorem dd_Reader_readData_23 : decode prog_9_method_27_code 23 = .ok (.iload_n 2, 1) := by decide +kernel
theorem dd_Reader_readData_24 : decode prog_9_method_27_code 24 = .ok (.bipush 64, 2) := by decide +kernel
theorem dd_Reader_readData_26 : decode prog_9_method_27_code 26 = .ok (.invokestatic 139, 3) := by decide +kernel
theorem dd_Reader_readData_29 : decode prog_9_method_27_code 29 = .ok (.istore_n 3, 1) := by decide +kernel
theorem dd_Reader_readData_30 : decode prog_9_method_27_code 30 = .ok (.aload_n 0, 1) := by decide +kernel
theorem dd_Reader_readData_31 : decode prog_9_method_27_code 31 = .ok (.getfield 9, 3) := by decide +kernel
theorem dd_Reader_readData_34 : decode prog_9_method_27_code 34 = .ok (.getfield 226, 3) := by decide +kernel
theorem dd_Reader_readData_37 : decode prog_9_method_27_code 37 = .ok (.getfield 199, 3) := by decide +kernel
theorem dd_Reader_readData_40 : decode prog_9_method_27_code 40 = .ok (.iload_n 3, 1) := by decide +kernel
theorem dd_Reader_readData_41 : decode prog_9_method_27_code 41 = .ok (.aload_n 0, 1) := by decide +kernel
theorem dd_Reader_readData_42 : decode prog_9_method_27_code 42 = .ok (.invokevirtual 212, 3) := by decide +kernel
theorem dd_Reader_readData_45 : decode prog_9_method_27_code 45 = .ok (.lastore, 1) := by decide +kernel
theorem dd_Reader_readData_46 : decode prog_9_method_27_code 46 = .ok (.aload_n 0, 1) := by decide +kernel
theorem dd_Reader_readData_47 : decode prog_9_method_27_code 47 = .ok (.aload_n 0, 1) := by decide +kernel
theorem dd_Reader_readData_48 : decode prog_9_method_27_code 48 = .ok (.getfield 9, 3) := by decide +kernel
theorem dd_Reader_readData_51 : decode prog_9_method_27_code 51 = .ok (.getfield 226, 3) := by decide +kernel
theorem dd_Reader_readData_54 : decode prog_9_method_27_code 54 = .ok (.iload_n 3, 1) := by decide +kernel
theorem dd_Reader_readData_55 : decode prog_9_method_27_code 55 = .ok (.invokevirtual 206, 3) := by decide +kernel
theorem dd_Reader_readData_58 : decode prog_9_method_27_code 58 = .ok (.iinc 2 1, 3) := by decide +kernel
theorem dd_Reader_readData_61 : decode prog_9_method_27_code 61 = .ok (.goto (-43), 3) := by decide +kernel
theorem dd_Reader_readData_64 : decode prog_9_method_27_code 64 = .ok (.return_, 1) := by decide +kernel
theorem dd_Reader_readFunctions_0 : decode prog_9_method_17_code 0 = .ok (.aload_n 0, 1) := by decide +kernel
theorem dd_Reader_readFunctions_1 : decode prog_9_method_17_code 1 = .ok (.invokevirtual 78, 3) := by decide +kernel
theorem dd_Reader_readFunctions_4 : decode prog_9_method_17_code 4 = .ok (.istore_n 1, 1) := by decide +kernel
theorem dd_Reader_readFunctions_5 : decode prog_9_method_17_code 5 = .ok (.aload_n 0, 1) := by decide +kernel
theorem dd_Reader_readFunctions_6 : decode prog_9_method_17_code 6 = .ok (.getfield 9, 3) := by decide +kernel
theorem dd_Reader_readFunctions_9 : decode prog_9_method_17_code 9 = .ok (.getfield 168, 3) := by decide +kernel
theorem dd_Reader_readFunctions_12 : decode prog_9_method_17_code 12 = .ok (.iload_n 1, 1) := by decide +kernel
theorem dd_Reader_readFunctions_13 : decode prog_9_method_17_code 13 = .ok (.putfield 172, 3) := by decide +kernel
theorem dd_Reader_readFunctions_16 : decode prog_9_method_17_code 16 = .ok (.iconst 0, 1) := by decide +kernel
theorem dd_Reader_readFunctions_17 : decode prog_9_method_17_code 17 = .ok (.istore_n 2, 1) := by decide +kernel
theorem dd_Reader_readFunctions_18 : decode prog_9_method_17_code 18 = .ok (.iload_n 2, 1) := by decide +kernel
theorem dd_Reader_readFunctions_19 : decode prog_9_method_17_code 19 = .ok (.iload_n 1, 1) := by decide +kernel
theorem dd_Reader_readFunctions_20 : decode prog_9_method_17_code 20 = .ok (.if_icmp .ge 30, 3) := by decide +kernel
theorem dd_Reader_readFunctions_23 : decode prog_9_method_17_code 23 = .ok (.aload_n 0, 1) := by decide +kernel
theorem dd_Reader_readFunctions_24 : decode prog_9_method_17_code 24 = .ok (.getfield 9, 3) := by decide +kernel
theorem dd_Reader_readFunctions_27 : decode prog_9_method_17_code 27 = .ok (.getfield 168, 3) := by decide +kernel
theorem dd_Reader_readFunctions_30 : decode prog_9_method_17_code 30 = .ok (.getfield 175, 3) := by decide +kernel
theorem dd_Reader_readFunctions_33 : decode prog_9_method_17_code 33 = .ok (.iload_n 2, 1) := by decide +kernel
theorem dd_Reader_readFunctions_34 : decode prog_9_method_17_code 34 = .ok (.bipush 64, 2) := by decide +kernel
theorem dd_Reader_readFunctions_36 : decode prog_9_method_17_code 36 = .ok (.invokestatic 139, 3) := by decide +kernel
theorem dd_Reader_readFunctions_39 : decode prog_9_method_17_code 39 = .ok (.aload_n 0, 1) := by decide +kernel
theorem dd_Reader_readFunctions_40 : decode prog_9_method_17_code 40 = .ok (.invokevirtual 78, 3) := by decide +kernel
theorem dd_Reader_readFunctions_43 : decode prog_9_method_17_code 43 = .ok (.iastore, 1) := by decide +kernel
theorem dd_Reader_readFunctions_44 : decode prog_9_method_17_code 44 = .ok (.iinc 2 1, 3) := by decide +kernel
theorem dd_Reader_readFunctions_47 : decode prog_9_method_17_code 47 = .ok (.goto (-29), 3) := by decide +kernel
theorem dd_Reader_readFunctions_50 : decode prog_9_method_17_code 50 = .ok (.return_, 1) := by decide +kernel
theorem dd_Reader_readLimits_0 : decode prog_9_method_20_code 0 = .ok (.aload_n 0, 1) := by decide +kernel
theorem dd_Reader_readLimits_1 : decode prog_9_method_20_code 1 = .ok (.invokevirtual 165, 3) := by decide +kernel
theorem dd_Reader_readLimits_4 : decode prog_9_method_20_code 4 = .ok (.istore_n 3, 1) := by decide +kernel
theorem dd_Reader_readLimits_5 : decode prog_9_method_20_code 5 = .ok (.aload_n 1, 1) := by decide +kernel
theorem dd_Reader_readLimits_6 : decode prog_9_method_20_code 6 = .ok (.getfield 189, 3) := by decide +kernel
theorem dd_Reader_readLimits_9 : decode prog_9_method_20_code 9 = .ok (.iload_n 2, 1) := by decide +kernel
theorem dd_Reader_readLimits_10 : decode prog_9_method_20_code 10 = .ok (.aload_n 0, 1) := by decide +kernel
theorem dd_Reader_readLimits_11 : decode prog_9_method_20_code 11 = .ok (.invokevirtual 78, 3) := by decide +kernel
theorem dd_Reader_readLimits_14 : decode prog_9_method_20_code 14 = .ok (.iastore, 1) := by decide +kernel
theorem dd_Reader_readLimits_15 : decode prog_9_method_20_code 15 = .ok (.aload_n 1, 1) := by decide +kernel
theorem dd_Reader_readLimits_16 : decode prog_9_method_20_code 16 = .ok (.getfield 192, 3) := by decide +kernel
theorem dd_Reader_readLimits_19 : decode prog_9_method_20_code 19 = .ok (.iload_n 2, 1) := by decide +kernel
theorem dd_Reader_readLimits_20 : decode prog_9_method_20_code 20 = .ok (.iload_n 3, 1) := by decide +kernel
theorem dd_Reader_readLimits_21 : decode prog_9_method_20_code 21 = .ok (.iconst 1, 1) := by decide +kernel
theorem dd_Reader_readLimits_22 : decode prog_9_method_20_code 22 = .ok (.if_icmp .ne 10, 3) := by decide +kernel
theorem dd_Reader_readLimits_25 : decode prog_9_method_20_code 25 = .ok (.aload_n 0, 1) := by decide +kernel
theorem dd_Reader_readLimits_26 : decode prog_9_method_20_code 26 = .ok (.invokevirtual 78, 3) := by decide +kernel
theorem dd_Reader_readLimits_29 : decode prog_9_method_20_code 29 = .ok (.goto 5, 3) := by decide +kernel
theorem dd_Reader_readLimits_32 : decode prog_9_method_20_code 32 = .ok (.ldc 195, 2) := by decide +kernel
theorem dd_Reader_readLimits_34 : decode prog_9_method_20_code 34 = .ok (.iastore, 1) := by decide +kernel
theorem dd_Reader_readLimits_35 : decode prog_9_method_20_code 35 = .ok (.return_, 1) := by decide +kernel
theorem dd_Reader_readTables_0 : decode prog_9_method_18_code 0 = .ok (.aload_n 0, 1) := by decide +kernel
theorem dd_Reader_readTables_1 : decode prog_9_method_18_code 1 = .ok (.invokevirtual 78, 3) := by decide +kernel
theorem dd_Reader_readTables_4 : decode prog_9_method_18_code 4 = .ok (.istore_n 1, 1) := by decide +kernel
theorem dd_Reader_readTables_5 : decode prog_9_method_18_code 5 = .ok (.aload_n 0, 1) := by decide +kernel
theorem dd_Reader_readTables_6 : decode prog_9_method_18_code 6 = .ok (.getfield 9, 3) := by decide +kernel
theorem dd_Reader_readTables_9 : decode prog_9_method_18_code 9 = .ok (.getfield 176, 3) := by decide +kernel
theorem dd_Reader_readTables_12 : decode prog_9_method_18_code 12 = .ok (.iload_n 1, 1) := by decide +kernel
theorem dd_Reader_readTables_13 : decode prog_9_method_18_code 13 = .ok (.putfield 172, 3) := by decide +kernel
theorem dd_Reader_readTables_16 : decode prog_9_method_18_code 16 = .ok (.iconst 0, 1) := by decide +kernel
theorem dd_Reader_readTables_17 : decode prog_9_method_18_code 17 = .ok (.istore_n 2, 1) := by decide +kernel
theorem dd_Reader_readTables_18 : decode prog_9_method_18_code 18 = .ok (.iload_n 2, 1) := by decide +kernel
theorem dd_Reader_readTables_19 : decode prog_9_method_18_code 19 = .ok (.iload_n 1, 1) := by decide +kernel
theorem dd_Reader_readTables_20 : decode prog_9_method_18_code 20 = .ok (.if_icmp .ge 32, 3) := by decide +kernel
theorem dd_Reader_readTables_23 : decode prog_9_method_18_code 23 = .ok (.aload_n 0, 1) := by decide +kernel
theorem dd_Reader_readTables_24 : decode prog_9_method_18_code 24 = .ok (.bipush 112, 2) := by decide +kernel
theorem dd_Reader_readTables_26 : decode prog_9_method_18_code 26 = .ok (.invokevirtual 179, 3) := by decide +kernel
theorem dd_Reader_readTables_29 : decode prog_9_method_18_code 29 = .ok (.aload_n 0, 1) := by decide +kernel
theorem dd_Reader_readTables_30 : decode prog_9_method_18_code 30 = .ok (.aload_n 0, 1) := by decide +kernel
theorem dd_Reader_readTables_31 : decode prog_9_method_18_code 31 = .ok (.getfield 9, 3) := by decide +kernel
theorem dd_Reader_readTables_34 : decode prog_9_method_18_code 34 = .ok (.getfield 176, 3) := by decide +kernel
theorem dd_Reader_readTables_37 : decode prog_9_method_18_code 37 = .ok (.iload_n 2, 1) := by decide +kernel
theorem dd_Reader_readTables_38 : decode prog_9_method_18_code 38 = .ok (.bipush 64, 2) := by decide +kernel
theorem dd_Reader_readTables_40 : decode prog_9_method_18_code 40 = .ok (.invokestatic 139, 3) := by decide +kernel
theorem dd_Reader_readTables_43 : decode prog_9_method_18_code 43 = .ok (.invokevirtual 182, 3) := by decide +kernel
theorem dd_Reader_readTables_46 : decode prog_9_method_18_code 46 = .ok (.iinc 2 1, 3) := by decide +kernel
theorem dd_Reader_readTables_49 : decode prog_9_method_18_code 49 = .ok (.goto (-31), 3) := by decide +kernel
theorem dd_Reader_readTables_52 : decode prog_9_method_18_code 52 = .ok (.return_, 1) := by decide +kernel
theorem dd_Reader_readMemories_0 : decode prog_9_method_19_code 0 = .ok (.aload_n 0, 1) := by decide +kernel
theorem dd_Reader_readMemories_1 : decode prog_9_method_19_code 1 = .ok (.invokevirtual 78, 3) := by decide +kernel
theorem dd_Reader_readMemories_4 : decode prog_9_method_19_code 4 = .ok (.istore_n 1, 1) := by decide +kernel
theorem dd_Reader_readMemories_5 : decode prog_9_method_19_code 5 = .ok (.aload_n 0, 1) := by decide +kernel
theorem dd_Reader_readMemories_6 : decode prog_9_method_19_code 6 = .ok (.getfield 9, 3) := by decide +kernel
theorem dd_Reader_readMemories_9 : decode prog_9_method_19_code 9 = .ok (.getfield 186, 3) := by decide +kernel
theorem dd_Reader_readMemories_12 : decode prog_9_method_19_code 12 = .ok (.iload_n 1, 1) := by decide +kernel
theorem dd_Reader_readMemories_13 : decode prog_9_method_19_code 13 = .ok (.putfield 172, 3) := by decide +kernel
theorem dd_Reader_readMemories_16 : decode prog_9_method_19_code 16 = .ok (.iconst 0, 1) := by decide +kernel
theorem dd_Reader_readMemories_17 : decode prog_9_method_19_code 17 = .ok (.istore_n 2, 1) := by decide +kernel
theorem dd_Reader_readMemories_18 : decode prog_9_method_19_code 18 = .ok (.iload_n 2, 1) := by decide +kernel
theorem dd_Reader_readMemories_19 : decode prog_9_method_19_code 19 = .ok (.iload_n 1, 1) := by decide +kernel
theorem dd_Reader_readMemories_20 : decode prog_9_method_19_code 20 = .ok (.if_icmp .ge 26, 3) := by decide +kernel
theorem dd_Reader_readMemories_23 : decode prog_9_method_19_code 23 = .ok (.aload_n 0, 1) := by decide +kernel
theorem dd_Reader_readMemories_24 : decode prog_9_method_19_code 24 = .ok (.aload_n 0, 1) := by decide +kernel
theorem dd_Reader_readMemories_25 : decode prog_9_method_19_code 25 = .ok (.getfield 9, 3) := by decide +kernel
theorem dd_Reader_readMemories_28 : decode prog_9_method_19_code 28 = .ok (.getfield 186, 3) := by decide +kernel
theorem dd_Reader_readMemories_31 : decode prog_9_method_19_code 31 = .ok (.iload_n 2, 1) := by decide +kernel
theorem dd_Reader_readMemories_32 : decode prog_9_method_19_code 32 = .ok (.bipush 64, 2) := by decide +kernel
theorem dd_Reader_readMemories_34 : decode prog_9_method_19_code 34 = .ok (.invokestatic 139, 3) := by decide +kernel
theorem dd_Reader_readMemories_37 : decode prog_9_method_19_code 37 = .ok (.invokevirtual 182, 3) := by decide +kernel
theorem dd_Reader_readMemories_40 : decode prog_9_method_19_code 40 = .ok (.iinc 2 1, 3) := by decide +kernel
theorem dd_Reader_readMemories_43 : decode prog_9_method_19_code 43 = .ok (.goto (-25), 3) := by decide +kernel
theorem dd_Reader_readMemories_46 : decode prog_9_method_19_code 46 = .ok (.return_, 1) := by decide +kernel
theorem dd_Reader_readGlobals_0 : decode prog_9_method_21_code 0 = .ok (.aload_n 0, 1) := by decide +kernel
theorem dd_Reader_readGlobals_1 : decode prog_9_method_21_code 1 = .ok (.getfield 9, 3) := by decide +kernel
theorem dd_Reader_readGlobals_4 : decode prog_9_method_21_code 4 = .ok (.getfield 196, 3) := by decide +kernel
theorem dd_Reader_readGlobals_7 : decode prog_9_method_21_code 7 = .ok (.astore_n 1, 1) := by decide +kernel
theorem dd_Reader_readGlobals_8 : decode prog_9_method_21_code 8 = .ok (.aload_n 0, 1) := by decide +kernel
theorem dd_Reader_readGlobals_9 : decode prog_9_method_21_code 9 = .ok (.invokevirtual 78, 3) := by decide +kernel
theorem dd_Reader_readGlobals_12 : decode prog_9_method_21_code 12 = .ok (.istore_n 2, 1) := by decide +kernel
theorem dd_Reader_readGlobals_13 : decode prog_9_method_21_code 13 = .ok (.aload_n 1, 1) := by decide +kernel
theorem dd_Reader_readGlobals_14 : decode prog_9_method_21_code 14 = .ok (.iload_n 2, 1) := by decide +kernel
theorem dd_Reader_readGlobals_15 : decode prog_9_method_21_code 15 = .ok (.putfield 172, 3) := by decide +kernel
theorem dd_Reader_readGlobals_18 : decode prog_9_method_21_code 18 = .ok (.iconst 0, 1) := by decide +kernel
theorem dd_Reader_readGlobals_19 : decode prog_9_method_21_code 19 = .ok (.istore_n 3, 1) := by decide +kernel
theorem dd_Reader_readGlobals_20 : decode prog_9_method_21_code 20 = .ok (.iload_n 3, 1) := by decide +kernel
theorem dd_Reader_readGlobals_21 : decode prog_9_method_21_code 21 = .ok (.iload_n 2, 1) := by decide +kernel
theorem dd_Reader_readGlobals_22 : decode prog_9_method_21_code 22 = .ok (.if_icmp .ge 156, 3) := by decide +kernel
theorem dd_Reader_readGlobals_25 : decode prog_9_method_21_code 25 = .ok (.iload_n 3, 1) := by decide +kernel
theorem dd_Reader_readGlobals_26 : decode prog_9_method_21_code 26 = .ok (.bipush 64, 2) := by decide +kernel
theorem dd_Reader_readGlobals_28 : decode prog_9_method_21_code 28 = .ok (.invokestatic 139, 3) := by decide +kernel
theorem dd_Reader_readGlobals_31 : decode prog_9_method_21_code 31 = .ok (.istore 4, 2) := by decide +kernel
theorem dd_Reader_readGlobals_33 : decode prog_9_method_21_code 33 = .ok (.aload_n 1, 1) := by decide +kernel
theorem dd_Reader_readGlobals_34 : decode prog_9_method_21_code 34 = .ok (.getfield 175, 3) := by decide +kernel
theorem dd_Reader_readGlobals_37 : decode prog_9_method_21_code 37 = .ok (.iload 4, 2) := by decide +kernel
theorem dd_Reader_readGlobals_39 : decode prog_9_method_21_code 39 = .ok (.aload_n 0, 1) := by decide +kernel
theorem dd_Reader_readGlobals_40 : decode prog_9_method_21_code 40 = .ok (.invokevirtual 133, 3) := by decide +kernel
theorem dd_Reader_readGlobals_43 : decode prog_9_method_21_code 43 = .ok (.iastore, 1) := by decide +kernel
theorem dd_Reader_readGlobals_44 : decode prog_9_method_21_code 44 = .ok (.aload_n 1, 1) := by decide +kernel
theorem dd_Reader_readGlobals_45 : decode prog_9_method_21_code 45 = .ok (.getfield 189, 3) := by decide +kernel
theorem dd_Reader_readGlobals_48 : decode prog_9_method_21_code 48 = .ok (.iload 4, 2) := by decide +kernel
theorem dd_Reader_readGlobals_50 : decode prog_9_method_21_code 50 = .ok (.aload_n 0, 1) := by decide +kernel
theorem dd_Reader_readGlobals_51 : decode prog_9_method_21_code 51 = .ok (.invokevirtual 165, 3) := by decide +kernel
theorem dd_Reader_readGlobals_54 : decode prog_9_method_21_code 54 = .ok (.iastore, 1) := by decide +kernel
theorem dd_Reader_readGlobals_55 : decode prog_9_method_21_code 55 = .ok (.aload_n 0, 1) := by decide +kernel
theorem dd_Reader_readGlobals_56 : decode prog_9_method_21_code 56 = .ok (.invokevirtual 49, 3) := by decide +kernel
theorem dd_Reader_readGlobals_59 : decode prog_9_method_21_code 59 = .ok (.lookupswitch 99 #[(65, 33), (66, 57), (208, 81)], 33) := by decide +kernel
theorem dd_Reader_readGlobals_92 : decode prog_9_method_21_code 92 = .ok (.aload_n 1, 1) := by decide +kernel
theorem dd_Reader_readGlobals_93 : decode prog_9_method_21_code 93 = .ok (.getfield 192, 3) := by decide +kernel
theorem dd_Reader_readGlobals_96 : decode prog_9_method_21_code 96 = .ok (.iload 4, 2) := by decide +kernel
theorem dd_Reader_readGlobals_98 : decode prog_9_method_21_code 98 = .ok (.iconst 1, 1) := by decide +kernel
theorem dd_Reader_readGlobals_99 : decode prog_9_method_21_code 99 = .ok (.iastore, 1) := by decide +kernel
theorem dd_Reader_readGlobals_100 : decode prog_9_method_21_code 100 = .ok (.aload_n 1, 1) := by decide +kernel
theorem dd_Reader_readGlobals_101 : decode prog_9_method_21_code 101 = .ok (.getfield 199, 3) := by decide +kernel
theorem dd_Reader_readGlobals_104 : decode prog_9_method_21_code 104 = .ok (.iload 4, 2) := by decide +kernel
theorem dd_Reader_readGlobals_106 : decode prog_9_method_21_code 106 = .ok (.aload_n 0, 1) := by decide +kernel
theorem dd_Reader_readGlobals_107 : decode prog_9_method_21_code 107 = .ok (.bipush 32, 2) := by decide +kernel
theorem dd_Reader_readGlobals_109 : decode prog_9_method_21_code 109 = .ok (.invokevirtual 120, 3) := by decide +kernel
theorem dd_Reader_readGlobals_112 : decode prog_9_method_21_code 112 = .ok (.lastore, 1) := by decide +kernel
theorem dd_Reader_readGlobals_113 : decode prog_9_method_21_code 113 = .ok (.goto 53, 3) := by decide +kernel
theorem dd_Reader_readGlobals_116 : decode prog_9_method_21_code 116 = .ok (.aload_n 1, 1) := by decide +kernel
theorem dd_Reader_readGlobals_117 : decode prog_9_method_21_code 117 = .ok (.getfield 192, 3) := by decide +kernel
theorem dd_Reader_readGlobals_120 : decode prog_9_method_21_code 120 = .ok (.iload 4, 2) := by decide +kernel
theorem dd_Reader_readGlobals_122 : decode prog_9_method_21_code 122 = .ok (.iconst 2, 1) := by decide +kernel
theorem dd_Reader_readGlobals_123 : decode prog_9_method_21_code 123 = .ok (.iastore, 1) := by decide +kernel
theorem dd_Reader_readGlobals_124 : decode prog_9_method_21_code 124 = .ok (.aload_n 1, 1) := by decide +kernel
theorem dd_Reader_readGlobals_125 : decode prog_9_method_21_code 125 = .ok (.getfield 199, 3) := by decide +kernel
theorem dd_Reader_readGlobals_128 : decode prog_9_method_21_code 128 = .ok (.iload 4, 2) := by decide +kernel
theorem dd_Reader_readGlobals_130 : decode prog_9_method_21_code 130 = .ok (.aload_n 0, 1) := by decide +kernel
theorem dd_Reader_readGlobals_131 : decode prog_9_method_21_code 131 = .ok (.bipush 64, 2) := by decide +kernel
theorem dd_Reader_readGlobals_133 : decode prog_9_method_21_code 133 = .ok (.invokevirtual 120, 3) := by decide +kernel
theorem dd_Reader_readGlobals_136 : decode prog_9_method_21_code 136 = .ok (.lastore, 1) := by decide +kernel
theorem dd_Reader_readGlobals_137 : decode prog_9_method_21_code 137 = .ok (.goto 29, 3) := by decide +kernel
theorem dd_Reader_readGlobals_140 : decode prog_9_method_21_code 140 = .ok (.aload_n 1, 1) := by decide +kernel
theorem dd_Reader_readGlobals_141 : decode prog_9_method_21_code 141 = .ok (.getfield 192, 3) := by decide +kernel
theorem dd_Reader_readGlobals_144 : decode prog_9_method_21_code 144 = .ok (.iload 4, 2) := by decide +kernel
theorem dd_Reader_readGlobals_146 : decode prog_9_method_21_code 146 = .ok (.aload_n 0, 1) := by decide +kernel
theorem dd_Reader_readGlobals_147 : decode prog_9_method_21_code 147 = .ok (.invokevirtual 130, 3) := by decide +kernel
theorem dd_Reader_readGlobals_150 : decode prog_9_method_21_code 150 = .ok (.iconst 1, 1) := by decide +kernel
theorem dd_Reader_readGlobals_151 : decode prog_9_method_21_code 151 = .ok (.invokestatic 126, 3) := by decide +kernel
theorem dd_Reader_readGlobals_154 : decode prog_9_method_21_code 154 = .ok (.iastore, 1) := by decide +kernel
theorem dd_Reader_readGlobals_155 : decode prog_9_method_21_code 155 = .ok (.goto 11, 3) := by decide +kernel
theorem dd_Reader_readGlobals_158 : decode prog_9_method_21_code 158 = .ok (.new 53, 3) := by decide +kernel
theorem dd_Reader_readGlobals_161 : decode prog_9_method_21_code 161 = .ok (.dup, 1) := by decide +kernel
theorem dd_Reader_readGlobals_162 : decode prog_9_method_21_code 162 = .ok (.invokespecial 55, 3) := by decide +kernel
theorem dd_Reader_readGlobals_165 : decode prog_9_method_21_code 165 = .ok (.athrow, 1) := by decide +kernel
theorem dd_Reader_readGlobals_166 : decode prog_9_method_21_code 166 = .ok (.aload_n 0, 1) := by decide +kernel
theorem dd_Reader_readGlobals_167 : decode prog_9_method_21_code 167 = .ok (.bipush 11, 2) := by decide +kernel
theorem dd_Reader_readGlobals_169 : decode prog_9_method_21_code 169 = .ok (.invokevirtual 179, 3) := by decide +kernel
theorem dd_Reader_readGlobals_172 : decode prog_9_method_21_code 172 = .ok (.iinc 3 1, 3) := by decide +kernel
theorem dd_Reader_readGlobals_175 : decode prog_9_method_21_code 175 = .ok (.goto (-155), 3) := by decide +kernel
theorem dd_Reader_readGlobals_178 : decode prog_9_method_21_code 178 = .ok (.return_, 1) := by decide +kernel
theorem dd_Reader_readExports_0 : decode prog_9_method_22_code 0 = .ok (.aload_n 0, 1) := by decide +kernel
theorem dd_Reader_readExports_1 : decode prog_9_method_22_code 1 = .ok (.invokevirtual 78, 3) := by decide +kernel
theorem dd_Reader_readExports_4 : decode prog_9_method_22_code 4 = .ok (.istore_n 1, 1) := by decide +kernel
theorem dd_Reader_readExports_5 : decode prog_9_method_22_code 5 = .ok (.aload_n 0, 1) := by decide +kernel
theorem dd_Reader_readExports_6 : decode prog_9_method_22_code 6 = .ok (.getfield 9, 3) := by decide +kernel
theorem dd_Reader_readExports_9 : decode prog_9_method_22_code 9 = .ok (.getfield 203, 3) := by decide +kernel
theorem dd_Reader_readExports_12 : decode prog_9_method_22_code 12 = .ok (.iload_n 1, 1) := by decide +kernel
theorem dd_Reader_readExports_13 : decode prog_9_method_22_code 13 = .ok (.putfield 172, 3) := by decide +kernel
theorem dd_Reader_readExports_16 : decode prog_9_method_22_code 16 = .ok (.iconst 0, 1) := by decide +kernel
theorem dd_Reader_readExports_17 : decode prog_9_method_22_code 17 = .ok (.istore_n 2, 1) := by decide +kernel
theorem dd_Reader_readExports_18 : decode prog_9_method_22_code 18 = .ok (.iload_n 2, 1) := by decide +kernel
theorem dd_Reader_readExports_19 : decode prog_9_method_22_code 19 = .ok (.iload_n 1, 1) := by decide +kernel
theorem dd_Reader_readExports_20 : decode prog_9_method_22_code 20 = .ok (.if_icmp .ge 79, 3) := by decide +kernel
theorem dd_Reader_readExports_23 : decode prog_9_method_22_code 23 = .ok (.iload_n 2, 1) := by decide +kernel
theorem dd_Reader_readExports_24 : decode prog_9_method_22_code 24 = .ok (.bipush 64, 2) := by decide +kernel
theorem dd_Reader_readExports_26 : decode prog_9_method_22_code 26 = .ok (.invokestatic 139, 3) := by decide +kernel
theorem dd_Reader_readExports_29 : decode prog_9_method_22_code 29 = .ok (.istore_n 3, 1) := by decide +kernel
theorem dd_Reader_readExports_30 : decode prog_9_method_22_code 30 = .ok (.aload_n 0, 1) := by decide +kernel
theorem dd_Reader_readExports_31 : decode prog_9_method_22_code 31 = .ok (.aload_n 0, 1) := by decide +kernel
theorem dd_Reader_readExports_32 : decode prog_9_method_22_code 32 = .ok (.getfield 9, 3) := by decide +kernel
theorem dd_Reader_readExports_35 : decode prog_9_method_22_code 35 = .ok (.getfield 203, 3) := by decide +kernel
theorem dd_Reader_readExports_38 : decode prog_9_method_22_code 38 = .ok (.iload_n 3, 1) := by decide +kernel
theorem dd_Reader_readExports_39 : decode prog_9_method_22_code 39 = .ok (.invokevirtual 206, 3) := by decide +kernel
theorem dd_Reader_readExports_42 : decode prog_9_method_22_code 42 = .ok (.aload_n 0, 1) := by decide +kernel
theorem dd_Reader_readExports_43 : decode prog_9_method_22_code 43 = .ok (.invokevirtual 49, 3) := by decide +kernel
theorem dd_Reader_readExports_46 : decode prog_9_method_22_code 46 = .ok (.istore 4, 2) := by decide +kernel
theorem dd_Reader_readExports_48 : decode prog_9_method_22_code 48 = .ok (.iload 4, 2) := by decide +kernel
theorem dd_Reader_readExports_50 : decode prog_9_method_22_code 50 = .ok (.iconst 3, 1) := by decide +kernel
theorem dd_Reader_readExports_51 : decode prog_9_method_22_code 51 = .ok (.if_icmp .le 11, 3) := by decide +kernel
theorem dd_Reader_readExports_54 : decode prog_9_method_22_code 54 = .ok (.new 53, 3) := by decide +kernel
theorem dd_Reader_readExports_57 : decode prog_9_method_22_code 57 = .ok (.dup, 1) := by decide +kernel
theorem dd_Reader_readExports_58 : decode prog_9_method_22_code 58 = .ok (.invokespecial 55, 3) := by decide +kernel
theorem dd_Reader_readExports_61 : decode prog_9_method_22_code 61 = .ok (.athrow, 1) := by decide +kernel
theorem dd_Reader_readExports_62 : decode prog_9_method_22_code 62 = .ok (.aload_n 0, 1) := by decide +kernel
theorem dd_Reader_readExports_63 : decode prog_9_method_22_code 63 = .ok (.getfield 9, 3) := by decide +kernel
theorem dd_Reader_readExports_66 : decode prog_9_method_22_code 66 = .ok (.getfield 203, 3) := by decide +kernel
theorem dd_Reader_readExports_69 : decode prog_9_method_22_code 69 = .ok (.getfield 175, 3) := by decide +kernel
theorem dd_Reader_readExports_72 : decode prog_9_method_22_code 72 = .ok (.iload_n 3, 1) := by decide +kernel
theorem dd_Reader_readExports_73 : decode prog_9_method_22_code 73 = .ok (.iload 4, 2) := by decide +kernel
theorem dd_Reader_readExports_75 : decode prog_9_method_22_code 75 = .ok (.iastore, 1) := by decide +kernel
theorem dd_Reader_readExports_76 : decode prog_9_method_22_code 76 = .ok (.aload_n 0, 1) := by decide +kernel
theorem dd_Reader_readExports_77 : decode prog_9_method_22_code 77 = .ok (.getfield 9, 3) := by decide +kernel
theorem dd_Reader_readExports_80 : decode prog_9_method_22_code 80 = .ok (.getfield 203, 3) := by decide +kernel
theorem dd_Reader_readExports_83 : decode prog_9_method_22_code 83 = .ok (.getfield 199, 3) := by decide +kernel
theorem dd_Reader_readExports_86 : decode prog_9_method_22_code 86 = .ok (.iload_n 3, 1) := by decide +kernel
theorem dd_Reader_readExports_87 : decode prog_9_method_22_code 87 = .ok (.aload_n 0, 1) := by decide +kernel
theorem dd_Reader_readExports_88 : decode prog_9_method_22_code 88 = .ok (.invokevirtual 78, 3) := by decide +kernel
theorem dd_Reader_readExports_91 : decode prog_9_method_22_code 91 = .ok (.i2l, 1) := by decide +kernel
theorem dd_Reader_readExports_92 : decode prog_9_method_22_code 92 = .ok (.lastore, 1) := by decide +kernel
theorem dd_Reader_readExports_93 : decode prog_9_method_22_code 93 = .ok (.iinc 2 1, 3) := by decide +kernel
theorem dd_Reader_readExports_96 : decode prog_9_method_22_code 96 = .ok (.goto (-78), 3) := by decide +kernel
theorem dd_Reader_readExports_99 : decode prog_9_method_22_code 99 = .ok (.return_, 1) := by decide +kernel
theorem dd_Code_addNumber_0 : decode prog_3_method_3_code 0 = .ok (.aload_n 0, 1) := by decide +kernel
theorem dd_Code_addNumber_1 : decode prog_3_method_3_code 1 = .ok (.getfield 36, 3) := by decide +kernel
theorem dd_Code_addNumber_4 : decode prog_3_method_3_code 4 = .ok (.sipush 8192, 3) := by decide +kernel
theorem dd_Code_addNumber_7 : decode prog_3_method_3_code 7 = .ok (.if_icmp .ge 23, 3) := by decide +kernel
theorem dd_Code_addNumber_10 : decode prog_3_method_3_code 10 = .ok (.aload_n 0, 1) := by decide +kernel
theorem dd_Code_addNumber_11 : decode prog_3_method_3_code 11 = .ok (.getfield 29, 3) := by decide +kernel
theorem dd_Code_addNumber_14 : decode prog_3_method_3_code 14 = .ok (.aload_n 0, 1) := by decide +kernel
theorem dd_Code_addNumber_15 : decode prog_3_method_3_code 15 = .ok (.getfield 36, 3) := by decide +kernel
theorem dd_Code_addNumber_18 : decode prog_3_method_3_code 18 = .ok (.iload_n 1, 1) := by decide +kernel
theorem dd_Code_addNumber_19 : decode prog_3_method_3_code 19 = .ok (.iastore, 1) := by decide +kernel
theorem dd_Code_addNumber_20 : decode prog_3_method_3_code 20 = .ok (.aload_n 0, 1) := by decide +kernel
theorem dd_Code_addNumber_21 : decode prog_3_method_3_code 21 = .ok (.dup, 1) := by decide +kernel
theorem dd_Code_addNumber_22 : decode prog_3_method_3_code 22 = .ok (.getfield 36, 3) := by decide +kernel
theorem dd_Code_addNumber_25 : decode prog_3_method_3_code 25 = .ok (.iconst 1, 1) := by decide +kernel
theorem dd_Code_addNumber_26 : decode prog_3_method_3_code 26 = .ok (.iadd, 1) := by decide +kernel
theorem dd_Code_addNumber_27 : decode prog_3_method_3_code 27 = .ok (.putfield 36, 3) := by decide +kernel
theorem dd_Code_addNumber_30 : decode prog_3_method_3_code 30 = .ok (.return_, 1) := by decide +kernel
theorem dd_Reader_readNumbers_0 : decode prog_9_method_26_code 0 = .ok (.aload_n 0, 1) := by decide +kernel
theorem dd_Reader_readNumbers_1 : decode prog_9_method_26_code 1 = .ok (.invokevirtual 78, 3) := by decide +kernel
theorem dd_Reader_readNumbers_4 : decode prog_9_method_26_code 4 = .ok (.istore_n 1, 1) := by decide +kernel
theorem dd_Reader_readNumbers_5 : decode prog_9_method_26_code 5 = .ok (.iconst 0, 1) := by decide +kernel
theorem dd_Reader_readNumbers_6 : decode prog_9_method_26_code 6 = .ok (.istore_n 2, 1) := by decide +kernel
theorem dd_Reader_readNumbers_7 : decode prog_9_method_26_code 7 = .ok (.iload_n 2, 1) := by decide +kernel
theorem dd_Reader_readNumbers_8 : decode prog_9_method_26_code 8 = .ok (.iload_n 1, 1) := by decide +kernel
theorem dd_Reader_readNumbers_9 : decode prog_9_method_26_code 9 = .ok (.if_icmp .ge 20, 3) := by decide +kernel
theorem dd_Reader_readNumbers_12 : decode prog_9_method_26_code 12 = .ok (.aload_n 0, 1) := by decide +kernel
theorem dd_Reader_readNumbers_13 : decode prog_9_method_26_code 13 = .ok (.getfield 31, 3) := by decide +kernel
theorem dd_Reader_readNumbers_16 : decode prog_9_method_26_code 16 = .ok (.aload_n 0, 1) := by decide +kernel
theorem dd_Reader_readNumbers_17 : decode prog_9_method_26_code 17 = .ok (.invokevirtual 78, 3) := by decide +kernel
theorem dd_Reader_readNumbers_20 : decode prog_9_method_26_code 20 = .ok (.invokevirtual 223, 3) := by decide +kernel
theorem dd_Reader_readNumbers_23 : decode prog_9_method_26_code 23 = .ok (.iinc 2 1, 3) := by decide +kernel
theorem dd_Reader_readNumbers_26 : decode prog_9_method_26_code 26 = .ok (.goto (-19), 3) := by decide +kernel
theorem dd_Reader_readNumbers_29 : decode prog_9_method_26_code 29 = .ok (.iload_n 1, 1) := by decide +kernel
theorem dd_Reader_readNumbers_30 : decode prog_9_method_26_code 30 = .ok (.ireturn, 1) := by decide +kernel
theorem dd_Reader_readElements_0 : decode prog_9_method_25_code 0 = .ok (.aload_n 0, 1) := by decide +kernel
theorem dd_Reader_readElements_1 : decode prog_9_method_25_code 1 = .ok (.getfield 9, 3) := by decide +kernel
theorem dd_Reader_readElements_4 : decode prog_9_method_25_code 4 = .ok (.getfield 209, 3) := by decide +kernel
theorem dd_Reader_readElements_7 : decode prog_9_method_25_code 7 = .ok (.astore_n 1, 1) := by decide +kernel
theorem dd_Reader_readElements_8 : decode prog_9_method_25_code 8 = .ok (.aload_n 0, 1) := by decide +kernel
theorem dd_Reader_readElements_9 : decode prog_9_method_25_code 9 = .ok (.invokevirtual 78, 3) := by decide +kernel
theorem dd_Reader_readElements_12 : decode prog_9_method_25_code 12 = .ok (.istore_n 2, 1) := by decide +kernel
theorem dd_Reader_readElements_13 : decode prog_9_method_25_code 13 = .ok (.aload_n 1, 1) := by decide +kernel
theorem dd_Reader_readElements_14 : decode prog_9_method_25_code 14 = .ok (.iload_n 2, 1) := by decide +kernel
theorem dd_Reader_readElements_15 : decode prog_9_method_25_code 15 = .ok (.putfield 172, 3) := by decide +kernel
theorem dd_Reader_readElements_18 : decode prog_9_method_25_code 18 = .ok (.iconst 0, 1) := by decide +kernel
theorem dd_Reader_readElements_19 : decode prog_9_method_25_code 19 = .ok (.istore_n 3, 1) := by decide +kernel
theorem dd_Reader_readElements_20 : decode prog_9_method_25_code 20 = .ok (.iload_n 3, 1) := by decide +kernel
theorem dd_Reader_readElements_21 : decode prog_9_method_25_code 21 = .ok (.iload_n 2, 1) := by decide +kernel
theorem dd_Reader_readElements_22 : decode prog_9_method_25_code 22 = .ok (.if_icmp .ge 53, 3) := by decide +kernel
theorem dd_Reader_readElements_25 : decode prog_9_method_25_code 25 = .ok (.iload_n 3, 1) := by decide +kernel
theorem dd_Reader_readElements_26 : decode prog_9_method_25_code 26 = .ok (.bipush 64, 2) := by decide +kernel
theorem dd_Reader_readElements_28 : decode prog_9_method_25_code 28 = .ok (.invokestatic 139, 3) := by decide +kernel
theorem dd_Reader_readElements_31 : decode prog_9_method_25_code 31 = .ok (.istore 4, 2) := by decide +kernel
theorem dd_Reader_readElements_33 : decode prog_9_method_25_code 33 = .ok (.aload_n 1, 1) := by decide +kernel
theorem dd_Reader_readElements_34 : decode prog_9_method_25_code 34 = .ok (.getfield 199, 3) := by decide +kernel
theorem dd_Reader_readElements_37 : decode prog_9_method_25_code 37 = .ok (.iload 4, 2) := by decide +kernel
theorem dd_Reader_readElements_39 : decode prog_9_method_25_code 39 = .ok (.aload_n 0, 1) := by decide +kernel
theorem dd_Reader_readElements_40 : decode prog_9_method_25_code 40 = .ok (.invokevirtual 212, 3) := by decide +kernel
theorem dd_Reader_readElements_43 : decode prog_9_method_25_code 43 = .ok (.lastore, 1) := by decide +kernel
theorem dd_Reader_readElements_44 : decode prog_9_method_25_code 44 = .ok (.aload_n 1, 1) := by decide +kernel
theorem dd_Reader_readElements_45 : decode prog_9_method_25_code 45 = .ok (.getfield 189, 3) := by decide +kernel
theorem dd_Reader_readElements_48 : decode prog_9_method_25_code 48 = .ok (.iload 4, 2) := by decide +kernel
theorem dd_Reader_readElements_50 : decode prog_9_method_25_code 50 = .ok (.aload_n 0, 1) := by decide +kernel
theorem dd_Reader_readElements_51 : decode prog_9_method_25_code 51 = .ok (.getfield 31, 3) := by decide +kernel
theorem dd_Reader_readElements_54 : decode prog_9_method_25_code 54 = .ok (.getfield 215, 3) := by decide +kernel
theorem dd_Reader_readElements_57 : decode prog_9_method_25_code 57 = .ok (.iastore, 1) := by decide +kernel
theorem dd_Reader_readElements_58 : decode prog_9_method_25_code 58 = .ok (.aload_n 1, 1) := by decide +kernel
theorem dd_Reader_readElements_59 : decode prog_9_method_25_code 59 = .ok (.getfield 192, 3) := by decide +kernel
theorem dd_Reader_readElements_62 : decode prog_9_method_25_code 62 = .ok (.iload 4, 2) := by decide +kernel
theorem dd_Reader_readElements_64 : decode prog_9_method_25_code 64 = .ok (.aload_n 0, 1) := by decide +kernel
theorem dd_Reader_readElements_65 : decode prog_9_method_25_code 65 = .ok (.invokevirtual 220, 3) := by decide +kernel
theorem dd_Reader_readElements_68 : decode prog_9_method_25_code 68 = .ok (.iastore, 1) := by decide +kernel
theorem dd_Reader_readElements_69 : decode prog_9_method_25_code 69 = .ok (.iinc 3 1, 3) := by decide +kernel
theorem dd_Reader_readElements_72 : decode prog_9_method_25_code 72 = .ok (.goto (-52), 3) := by decide +kernel
theorem dd_Reader_readElements_75 : decode prog_9_method_25_code 75 = .ok (.return_, 1) := by decide +kernel
theorem dd_Code_add_0 : decode prog_3_method_2_code 0 = .ok (.aload_n 0, 1) := by decide +kernel
theorem dd_Code_add_1 : decode prog_3_method_2_code 1 = .ok (.getfield 32, 3) := by decide +kernel
theorem dd_Code_add_4 : decode prog_3_method_2_code 4 = .ok (.sipush 8192, 3) := by decide +kernel
theorem dd_Code_add_7 : decode prog_3_method_2_code 7 = .ok (.if_icmp .ge 44, 3) := by decide +kernel
theorem dd_Code_add_10 : decode prog_3_method_2_code 10 = .ok (.aload_n 0, 1) := by decide +kernel
theorem dd_Code_add_11 : decode prog_3_method_2_code 11 = .ok (.getfield 9, 3) := by decide +kernel
theorem dd_Code_add_14 : decode prog_3_method_2_code 14 = .ok (.aload_n 0, 1) := by decide +kernel
theorem dd_Code_add_15 : decode prog_3_method_2_code 15 = .ok (.getfield 32, 3) := by decide +kernel
theorem dd_Code_add_18 : decode prog_3_method_2_code 18 = .ok (.iload_n 1, 1) := by decide +kernel
theorem dd_Code_add_19 : decode prog_3_method_2_code 19 = .ok (.i2s, 1) := by decide +kernel
theorem dd_Code_add_20 : decode prog_3_method_2_code 20 = .ok (.sastore, 1) := by decide +kernel
theorem dd_Code_add_21 : decode prog_3_method_2_code 21 = .ok (.aload_n 0, 1) := by decide +kernel
theorem dd_Code_add_22 : decode prog_3_method_2_code 22 = .ok (.getfield 15, 3) := by decide +kernel
theorem dd_Code_add_25 : decode prog_3_method_2_code 25 = .ok (.aload_n 0, 1) := by decide +kernel
theorem dd_Code_add_26 : decode prog_3_method_2_code 26 = .ok (.getfield 32, 3) := by decide +kernel
theorem dd_Code_add_29 : decode prog_3_method_2_code 29 = .ok (.iload_n 2, 1) := by decide +kernel
theorem dd_Code_add_30 : decode prog_3_method_2_code 30 = .ok (.iastore, 1) := by decide +kernel
theorem dd_Code_add_31 : decode prog_3_method_2_code 31 = .ok (.aload_n 0, 1) := by decide +kernel
theorem dd_Code_add_32 : decode prog_3_method_2_code 32 = .ok (.getfield 19, 3) := by decide +kernel
theorem dd_Code_add_35 : decode prog_3_method_2_code 35 = .ok (.aload_n 0, 1) := by decide +kernel
theorem dd_Code_add_36 : decode prog_3_method_2_code 36 = .ok (.getfield 32, 3) := by decide +kernel
theorem dd_Code_add_39 : decode prog_3_method_2_code 39 = .ok (.lload_n 3, 1) := by decide +kernel
theorem dd_Code_add_40 : decode prog_3_method_2_code 40 = .ok (.lastore, 1) := by decide +kernel
theorem dd_Code_add_41 : decode prog_3_method_2_code 41 = .ok (.aload_n 0, 1) := by decide +kernel
theorem dd_Code_add_42 : decode prog_3_method_2_code 42 = .ok (.dup, 1) := by decide +kernel
theorem dd_Code_add_43 : decode prog_3_method_2_code 43 = .ok (.getfield 32, 3) := by decide +kernel
theorem dd_Code_add_46 : decode prog_3_method_2_code 46 = .ok (.iconst 1, 1) := by decide +kernel
theorem dd_Code_add_47 : decode prog_3_method_2_code 47 = .ok (.iadd, 1) := by decide +kernel
theorem dd_Code_add_48 : decode prog_3_method_2_code 48 = .ok (.putfield 32, 3) := by decide +kernel
theorem dd_Code_add_51 : decode prog_3_method_2_code 51 = .ok (.return_, 1) := by decide +kernel
theorem dd_Code_opened_0 : decode prog_3_method_4_code 0 = .ok (.aload_n 0, 1) := by decide +kernel
theorem dd_Code_opened_1 : decode prog_3_method_4_code 1 = .ok (.getfield 23, 3) := by decide +kernel
theorem dd_Code_opened_4 : decode prog_3_method_4_code 4 = .ok (.aload_n 0, 1) := by decide +kernel
theorem dd_Code_opened_5 : decode prog_3_method_4_code 5 = .ok (.getfield 32, 3) := by decide +kernel
theorem dd_Code_opened_8 : decode prog_3_method_4_code 8 = .ok (.iconst 1, 1) := by decide +kernel
theorem dd_Code_opened_9 : decode prog_3_method_4_code 9 = .ok (.isub, 1) := by decide +kernel
theorem dd_Code_opened_10 : decode prog_3_method_4_code 10 = .ok (.iload_n 1, 1) := by decide +kernel
theorem dd_Code_opened_11 : decode prog_3_method_4_code 11 = .ok (.iastore, 1) := by decide +kernel
theorem dd_Code_opened_12 : decode prog_3_method_4_code 12 = .ok (.aload_n 0, 1) := by decide +kernel
theorem dd_Code_opened_13 : decode prog_3_method_4_code 13 = .ok (.getfield 32, 3) := by decide +kernel
theorem dd_Code_opened_16 : decode prog_3_method_4_code 16 = .ok (.iconst 1, 1) := by decide +kernel
theorem dd_Code_opened_17 : decode prog_3_method_4_code 17 = .ok (.isub, 1) := by decide +kernel
theorem dd_Code_opened_18 : decode prog_3_method_4_code 18 = .ok (.ireturn, 1) := by decide +kernel
theorem dd_Reader_readLocals_0 : decode prog_9_method_29_code 0 = .ok (.aload_n 0, 1) := by decide +kernel
theorem dd_Reader_readLocals_1 : decode prog_9_method_29_code 1 = .ok (.invokevirtual 78, 3) := by decide +kernel
theorem dd_Reader_readLocals_4 : decode prog_9_method_29_code 4 = .ok (.istore_n 1, 1) := by decide +kernel
theorem dd_Reader_readLocals_5 : decode prog_9_method_29_code 5 = .ok (.iconst 0, 1) := by decide +kernel
theorem dd_Reader_readLocals_6 : decode prog_9_method_29_code 6 = .ok (.istore_n 2, 1) := by decide +kernel
theorem dd_Reader_readLocals_7 : decode prog_9_method_29_code 7 = .ok (.iload_n 2, 1) := by decide +kernel
theorem dd_Reader_readLocals_8 : decode prog_9_method_29_code 8 = .ok (.iload_n 1, 1) := by decide +kernel
theorem dd_Reader_readLocals_9 : decode prog_9_method_29_code 9 = .ok (.if_icmp .ge 29, 3) := by decide +kernel
theorem dd_Reader_readLocals_12 : decode prog_9_method_29_code 12 = .ok (.aload_n 0, 1) := by decide +kernel
theorem dd_Reader_readLocals_13 : decode prog_9_method_29_code 13 = .ok (.invokevirtual 78, 3) := by decide +kernel
theorem dd_Reader_readLocals_16 : decode prog_9_method_29_code 16 = .ok (.istore_n 3, 1) := by decide +kernel
theorem dd_Reader_readLocals_17 : decode prog_9_method_29_code 17 = .ok (.aload_n 0, 1) := by decide +kernel
theorem dd_Reader_readLocals_18 : decode prog_9_method_29_code 18 = .ok (.getfield 31, 3) := by decide +kernel
theorem dd_Reader_readLocals_21 : decode prog_9_method_29_code 21 = .ok (.bipush 8, 2) := by decide +kernel
theorem dd_Reader_readLocals_23 : decode prog_9_method_29_code 23 = .ok (.iload_n 3, 1) := by decide +kernel
theorem dd_Reader_readLocals_24 : decode prog_9_method_29_code 24 = .ok (.aload_n 0, 1) := by decide +kernel
theorem dd_Reader_readLocals_25 : decode prog_9_method_29_code 25 = .ok (.invokevirtual 133, 3) := by decide +kernel
theorem dd_Reader_readLocals_28 : decode prog_9_method_29_code 28 = .ok (.i2l, 1) := by decide +kernel
theorem dd_Reader_readLocals_29 : decode prog_9_method_29_code 29 = .ok (.invokevirtual 235, 3) := by decide +kernel
theorem dd_Reader_readLocals_32 : decode prog_9_method_29_code 32 = .ok (.iinc 2 1, 3) := by decide +kernel
theorem dd_Reader_readLocals_35 : decode prog_9_method_29_code 35 = .ok (.goto (-28), 3) := by decide +kernel
theorem dd_Reader_readLocals_38 : decode prog_9_method_29_code 38 = .ok (.return_, 1) := by decide +kernel
theorem dd_Reader_readBlockType_0 : decode prog_9_method_13_code 0 = .ok (.aload_n 0, 1) := by decide +kernel
theorem dd_Reader_readBlockType_1 : decode prog_9_method_13_code 1 = .ok (.invokevirtual 115, 3) := by decide +kernel
theorem dd_Reader_readBlockType_4 : decode prog_9_method_13_code 4 = .ok (.lookupswitch 85 #[(64, 68), (99, 80), (100, 80), (108, 80), (109, 80), (126, 80), (127, 80)], 68) := by decide +kernel
theorem dd_Reader_readBlockType_72 : decode prog_9_method_13_code 72 = .ok (.aload_n 0, 1) := by decide +kernel
theorem dd_Reader_readBlockType_73 : decode prog_9_method_13_code 73 = .ok (.dup, 1) := by decide +kernel
theorem dd_Reader_readBlockType_74 : decode prog_9_method_13_code 74 = .ok (.getfield 38, 3) := by decide +kernel
theorem dd_Reader_readBlockType_77 : decode prog_9_method_13_code 77 = .ok (.iconst 1, 1) := by decide +kernel
theorem dd_Reader_readBlockType_78 : decode prog_9_method_13_code 78 = .ok (.iadd, 1) := by decide +kernel
theorem dd_Reader_readBlockType_79 : decode prog_9_method_13_code 79 = .ok (.putfield 38, 3) := by decide +kernel
theorem dd_Reader_readBlockType_82 : decode prog_9_method_13_code 82 = .ok (.iconst 0, 1) := by decide +kernel
theorem dd_Reader_readBlockType_83 : decode prog_9_method_13_code 83 = .ok (.ireturn, 1) := by decide +kernel
theorem dd_Reader_readBlockType_84 : decode prog_9_method_13_code 84 = .ok (.aload_n 0, 1) := by decide +kernel
theorem dd_Reader_readBlockType_85 : decode prog_9_method_13_code 85 = .ok (.invokevirtual 133, 3) := by decide +kernel
theorem dd_Reader_readBlockType_88 : decode prog_9_method_13_code 88 = .ok (.ireturn, 1) := by decide +kernel
theorem dd_Reader_readBlockType_89 : decode prog_9_method_13_code 89 = .ok (.aload_n 0, 1) := by decide +kernel
theorem dd_Reader_readBlockType_90 : decode prog_9_method_13_code 90 = .ok (.bipush 33, 2) := by decide +kernel
theorem dd_Reader_readBlockType_92 : decode prog_9_method_13_code 92 = .ok (.invokevirtual 120, 3) := by decide +kernel
theorem dd_Reader_readBlockType_95 : decode prog_9_method_13_code 95 = .ok (.lstore_n 1, 1) := by decide +kernel
theorem dd_Reader_readBlockType_96 : decode prog_9_method_13_code 96 = .ok (.lload_n 1, 1) := by decide +kernel
theorem dd_Reader_readBlockType_97 : decode prog_9_method_13_code 97 = .ok (.lconst 0, 1) := by decide +kernel
theorem dd_Reader_readBlockType_98 : decode prog_9_method_13_code 98 = .ok (.lcmp, 1) := by decide +kernel
theorem dd_Reader_readBlockType_99 : decode prog_9_method_13_code 99 = .ok (.ifCond .ge 11, 3) := by decide +kernel
theorem dd_Reader_readBlockType_102 : decode prog_9_method_13_code 102 = .ok (.new 53, 3) := by decide +kernel
theorem dd_Reader_readBlockType_105 : decode prog_9_method_13_code 105 = .ok (.dup, 1) := by decide +kernel
theorem dd_Reader_readBlockType_106 : decode prog_9_method_13_code 106 = .ok (.invokespecial 55, 3) := by decide +kernel
theorem dd_Reader_readBlockType_109 : decode prog_9_method_13_code 109 = .ok (.athrow, 1) := by decide +kernel
theorem dd_Reader_readBlockType_110 : decode prog_9_method_13_code 110 = .ok (.sipush 1024, 3) := by decide +kernel
theorem dd_Reader_readBlockType_113 : decode prog_9_method_13_code 113 = .ok (.lload_n 1, 1) := by decide +kernel
theorem dd_Reader_readBlockType_114 : decode prog_9_method_13_code 114 = .ok (.ldc2_w 124, 3) := by decide +kernel
theorem dd_Reader_readBlockType_117 : decode prog_9_method_13_code 117 = .ok (.invokestatic 111, 3) := by decide +kernel
theorem dd_Reader_readBlockType_120 : decode prog_9_method_13_code 120 = .ok (.l2i, 1) := by decide +kernel
theorem dd_Reader_readBlockType_121 : decode prog_9_method_13_code 121 = .ok (.iadd, 1) := by decide +kernel
theorem dd_Reader_readBlockType_122 : decode prog_9_method_13_code 122 = .ok (.ireturn, 1) := by decide +kernel
