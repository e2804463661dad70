theorem dJ6_bitCount_0f7a4_0 : decode cJ6_bitCount_0f7a4 0 = .ok (.iload_n 0, 1) := by decide +kernel
theorem dJ6_bitCount_0f7a4_1 : decode cJ6_bitCount_0f7a4 1 = .ok (.iload_n 0, 1) := by decide +kernel
theorem dJ6_bitCount_0f7a4_2 : decode cJ6_bitCount_0f7a4 2 = .ok (.iconst 1, 1) := by decide +kernel
theorem dJ6_bitCount_0f7a4_3 : decode cJ6_bitCount_0f7a4 3 = .ok (.iushr, 1) := by decide +kernel
theorem dJ6_bitCount_0f7a4_4 : decode cJ6_bitCount_0f7a4 4 = .ok (.ldc_w 265, 3) := by decide +kernel
theorem dJ6_bitCount_0f7a4_7 : decode cJ6_bitCount_0f7a4 7 = .ok (.iand, 1) := by decide +kernel
theorem dJ6_bitCount_0f7a4_8 : decode cJ6_bitCount_0f7a4 8 = .ok (.isub, 1) := by decide +kernel
theorem dJ6_bitCount_0f7a4_9 : decode cJ6_bitCount_0f7a4 9 = .ok (.istore_n 0, 1) := by decide +kernel
theorem dJ6_bitCount_0f7a4_10 : decode cJ6_bitCount_0f7a4 10 = .ok (.iload_n 0, 1) := by decide +kernel
theorem dJ6_bitCount_0f7a4_11 : decode cJ6_bitCount_0f7a4 11 = .ok (.ldc_w 266, 3) := by decide +kernel
theorem dJ6_bitCount_0f7a4_14 : decode cJ6_bitCount_0f7a4 14 = .ok (.iand, 1) := by decide +kernel
theorem dJ6_bitCount_0f7a4_15 : decode cJ6_bitCount_0f7a4 15 = .ok (.iload_n 0, 1) := by decide +kernel
theorem dJ6_bitCount_0f7a4_16 : decode cJ6_bitCount_0f7a4 16 = .ok (.iconst 2, 1) := by decide +kernel
theorem dJ6_bitCount_0f7a4_17 : decode cJ6_bitCount_0f7a4 17 = .ok (.iushr, 1) := by decide +kernel
theorem dJ6_bitCount_0f7a4_18 : decode cJ6_bitCount_0f7a4 18 = .ok (.ldc_w 266, 3) := by decide +kernel
theorem dJ6_bitCount_0f7a4_21 : decode cJ6_bitCount_0f7a4 21 = .ok (.iand, 1) := by decide +kernel
theorem dJ6_bitCount_0f7a4_22 : decode cJ6_bitCount_0f7a4 22 = .ok (.iadd, 1) := by decide +kernel
theorem dJ6_bitCount_0f7a4_23 : decode cJ6_bitCount_0f7a4 23 = .ok (.istore_n 0, 1) := by decide +kernel
theorem dJ6_bitCount_0f7a4_24 : decode cJ6_bitCount_0f7a4 24 = .ok (.iload_n 0, 1) := by decide +kernel
theorem dJ6_bitCount_0f7a4_25 : decode cJ6_bitCount_0f7a4 25 = .ok (.iload_n 0, 1) := by decide +kernel
theorem dJ6_bitCount_0f7a4_26 : decode cJ6_bitCount_0f7a4 26 = .ok (.iconst 4, 1) := by decide +kernel
theorem dJ6_bitCount_0f7a4_27 : decode cJ6_bitCount_0f7a4 27 = .ok (.iushr, 1) := by decide +kernel
theorem dJ6_bitCount_0f7a4_28 : decode cJ6_bitCount_0f7a4 28 = .ok (.iadd, 1) := by decide +kernel
theorem dJ6_bitCount_0f7a4_29 : decode cJ6_bitCount_0f7a4 29 = .ok (.ldc_w 267, 3) := by decide +kernel
theorem dJ6_bitCount_0f7a4_32 : decode cJ6_bitCount_0f7a4 32 = .ok (.iand, 1) := by decide +kernel
theorem dJ6_bitCount_0f7a4_33 : decode cJ6_bitCount_0f7a4 33 = .ok (.istore_n 0, 1) := by decide +kernel
theorem dJ6_bitCount_0f7a4_34 : decode cJ6_bitCount_0f7a4 34 = .ok (.iload_n 0, 1) := by decide +kernel
theorem dJ6_bitCount_0f7a4_35 : decode cJ6_bitCount_0f7a4 35 = .ok (.iload_n 0, 1) := by decide +kernel
theorem dJ6_bitCount_0f7a4_36 : decode cJ6_bitCount_0f7a4 36 = .ok (.bipush 8, 2) := by decide +kernel
theorem dJ6_bitCount_0f7a4_38 : decode cJ6_bitCount_0f7a4 38 = .ok (.iushr, 1) := by decide +kernel
theorem dJ6_bitCount_0f7a4_39 : decode cJ6_bitCount_0f7a4 39 = .ok (.iadd, 1) := by decide +kernel
theorem dJ6_bitCount_0f7a4_40 : decode cJ6_bitCount_0f7a4 40 = .ok (.istore_n 0, 1) := by decide +kernel
theorem dJ6_bitCount_0f7a4_41 : decode cJ6_bitCount_0f7a4 41 = .ok (.iload_n 0, 1) := by decide +kernel
theorem dJ6_bitCount_0f7a4_42 : decode cJ6_bitCount_0f7a4 42 = .ok (.iload_n 0, 1) := by decide +kernel
theorem dJ6_bitCount_0f7a4_43 : decode cJ6_bitCount_0f7a4 43 = .ok (.bipush 16, 2) := by decide +kernel
theorem dJ6_bitCount_0f7a4_45 : decode cJ6_bitCount_0f7a4 45 = .ok (.iushr, 1) := by decide +kernel
theorem dJ6_bitCount_0f7a4_46 : decode cJ6_bitCount_0f7a4 46 = .ok (.iadd, 1) := by decide +kernel
theorem dJ6_bitCount_0f7a4_47 : decode cJ6_bitCount_0f7a4 47 = .ok (.istore_n 0, 1) := by decide +kernel
theorem dJ6_bitCount_0f7a4_48 : decode cJ6_bitCount_0f7a4 48 = .ok (.iload_n 0, 1) := by decide +kernel
theorem dJ6_bitCount_0f7a4_49 : decode cJ6_bitCount_0f7a4 49 = .ok (.bipush 63, 2) := by decide +kernel
theorem dJ6_bitCount_0f7a4_51 : decode cJ6_bitCount_0f7a4 51 = .ok (.iand, 1) := by decide +kernel
theorem dJ6_bitCount_0f7a4_52 : decode cJ6_bitCount_0f7a4 52 = .ok (.ireturn, 1) := by decide +kernel
theorem dJ6_numberOfTrailingZeros_0f7a4_0 : decode cJ6_numberOfTrailingZeros_0f7a4 0 = .ok (.iload_n 0, 1) := by decide +kernel
theorem dJ6_numberOfTrailingZeros_0f7a4_1 : decode cJ6_numberOfTrailingZeros_0f7a4 1 = .ok (.iconst (-1), 1) := by decide +kernel
theorem dJ6_numberOfTrailingZeros_0f7a4_2 : decode cJ6_numberOfTrailingZeros_0f7a4 2 = .ok (.ixor, 1) := by decide +kernel
theorem dJ6_numberOfTrailingZeros_0f7a4_3 : decode cJ6_numberOfTrailingZeros_0f7a4 3 = .ok (.iload_n 0, 1) := by decide +kernel
theorem dJ6_numberOfTrailingZeros_0f7a4_4 : decode cJ6_numberOfTrailingZeros_0f7a4 4 = .ok (.iconst 1, 1) := by decide +kernel
theorem dJ6_numberOfTrailingZeros_0f7a4_5 : decode cJ6_numberOfTrailingZeros_0f7a4 5 = .ok (.isub, 1) := by decide +kernel
theorem dJ6_numberOfTrailingZeros_0f7a4_6 : decode cJ6_numberOfTrailingZeros_0f7a4 6 = .ok (.iand, 1) := by decide +kernel
theorem dJ6_numberOfTrailingZeros_0f7a4_7 : decode cJ6_numberOfTrailingZeros_0f7a4 7 = .ok (.istore_n 0, 1) := by decide +kernel
theorem dJ6_numberOfTrailingZeros_0f7a4_8 : decode cJ6_numberOfTrailingZeros_0f7a4 8 = .ok (.iload_n 0, 1) := by decide +kernel
theorem dJ6_numberOfTrailingZeros_0f7a4_9 : decode cJ6_numberOfTrailingZeros_0f7a4 9 = .ok (.ifCond .gt 8, 3) := by decide +kernel
theorem dJ6_numberOfTrailingZeros_0f7a4_12 : decode cJ6_numberOfTrailingZeros_0f7a4 12 = .ok (.iload_n 0, 1) := by decide +kernel
theorem dJ6_numberOfTrailingZeros_0f7a4_13 : decode cJ6_numberOfTrailingZeros_0f7a4 13 = .ok (.bipush 32, 2) := by decide +kernel
theorem dJ6_numberOfTrailingZeros_0f7a4_15 : decode cJ6_numberOfTrailingZeros_0f7a4 15 = .ok (.iand, 1) := by decide +kernel
theorem dJ6_numberOfTrailingZeros_0f7a4_16 : decode cJ6_numberOfTrailingZeros_0f7a4 16 = .ok (.ireturn, 1) := by decide +kernel
theorem dJ6_numberOfTrailingZeros_0f7a4_17 : decode cJ6_numberOfTrailingZeros_0f7a4 17 = .ok (.iconst 1, 1) := by decide +kernel
theorem dJ6_numberOfTrailingZeros_0f7a4_18 : decode cJ6_numberOfTrailingZeros_0f7a4 18 = .ok (.istore_n 1, 1) := by decide +kernel
theorem dJ6_numberOfTrailingZeros_0f7a4_19 : decode cJ6_numberOfTrailingZeros_0f7a4 19 = .ok (.iload_n 0, 1) := by decide +kernel
theorem dJ6_numberOfTrailingZeros_0f7a4_20 : decode cJ6_numberOfTrailingZeros_0f7a4 20 = .ok (.ldc_w 264, 3) := by decide +kernel
theorem dJ6_numberOfTrailingZeros_0f7a4_23 : decode cJ6_numberOfTrailingZeros_0f7a4 23 = .ok (.if_icmp .le 11, 3) := by decide +kernel
theorem dJ6_numberOfTrailingZeros_0f7a4_26 : decode cJ6_numberOfTrailingZeros_0f7a4 26 = .ok (.iinc 1 16, 3) := by decide +kernel
theorem dJ6_numberOfTrailingZeros_0f7a4_29 : decode cJ6_numberOfTrailingZeros_0f7a4 29 = .ok (.iload_n 0, 1) := by decide +kernel
theorem dJ6_numberOfTrailingZeros_0f7a4_30 : decode cJ6_numberOfTrailingZeros_0f7a4 30 = .ok (.bipush 16, 2) := by decide +kernel
theorem dJ6_numberOfTrailingZeros_0f7a4_32 : decode cJ6_numberOfTrailingZeros_0f7a4 32 = .ok (.iushr, 1) := by decide +kernel
theorem dJ6_numberOfTrailingZeros_0f7a4_33 : decode cJ6_numberOfTrailingZeros_0f7a4 33 = .ok (.istore_n 0, 1) := by decide +kernel
theorem dJ6_numberOfTrailingZeros_0f7a4_34 : decode cJ6_numberOfTrailingZeros_0f7a4 34 = .ok (.iload_n 0, 1) := by decide +kernel
theorem dJ6_numberOfTrailingZeros_0f7a4_35 : decode cJ6_numberOfTrailingZeros_0f7a4 35 = .ok (.sipush 256, 3) := by decide +kernel
theorem dJ6_numberOfTrailingZeros_0f7a4_38 : decode cJ6_numberOfTrailingZeros_0f7a4 38 = .ok (.if_icmp .le 11, 3) := by decide +kernel
theorem dJ6_numberOfTrailingZeros_0f7a4_41 : decode cJ6_numberOfTrailingZeros_0f7a4 41 = .ok (.iinc 1 8, 3) := by decide +kernel
theorem dJ6_numberOfTrailingZeros_0f7a4_44 : decode cJ6_numberOfTrailingZeros_0f7a4 44 = .ok (.iload_n 0, 1) := by decide +kernel
theorem dJ6_numberOfTrailingZeros_0f7a4_45 : decode cJ6_numberOfTrailingZeros_0f7a4 45 = .ok (.bipush 8, 2) := by decide +kernel
theorem dJ6_numberOfTrailingZeros_0f7a4_47 : decode cJ6_numberOfTrailingZeros_0f7a4 47 = .ok (.iushr, 1) := by decide +kernel
theorem dJ6_numberOfTrailingZeros_0f7a4_48 : decode cJ6_numberOfTrailingZeros_0f7a4 48 = .ok (.istore_n 0, 1) := by decide +kernel
theorem dJ6_numberOfTrailingZeros_0f7a4_49 : decode cJ6_numberOfTrailingZeros_0f7a4 49 = .ok (.iload_n 0, 1) := by decide +kernel
theorem dJ6_numberOfTrailingZeros_0f7a4_50 : decode cJ6_numberOfTrailingZeros_0f7a4 50 = .ok (.bipush 16, 2) := by decide +kernel
theorem dJ6_numberOfTrailingZeros_0f7a4_52 : decode cJ6_numberOfTrailingZeros_0f7a4 52 = .ok (.if_icmp .le 10, 3) := by decide +kernel
theorem dJ6_numberOfTrailingZeros_0f7a4_55 : decode cJ6_numberOfTrailingZeros_0f7a4 55 = .ok (.iinc 1 4, 3) := by decide +kernel
theorem dJ6_numberOfTrailingZeros_0f7a4_58 : decode cJ6_numberOfTrailingZeros_0f7a4 58 = .ok (.iload_n 0, 1) := by decide +kernel
theorem dJ6_numberOfTrailingZeros_0f7a4_59 : decode cJ6_numberOfTrailingZeros_0f7a4 59 = .ok (.iconst 4, 1) := by decide +kernel
theorem dJ6_numberOfTrailingZeros_0f7a4_60 : decode cJ6_numberOfTrailingZeros_0f7a4 60 = .ok (.iushr, 1) := by decide +kernel
theorem dJ6_numberOfTrailingZeros_0f7a4_61 : decode cJ6_numberOfTrailingZeros_0f7a4 61 = .ok (.istore_n 0, 1) := by decide +kernel
theorem dJ6_numberOfTrailingZeros_0f7a4_62 : decode cJ6_numberOfTrailingZeros_0f7a4 62 = .ok (.iload_n 0, 1) := by decide +kernel
theorem dJ6_numberOfTrailingZeros_0f7a4_63 : decode cJ6_numberOfTrailingZeros_0f7a4 63 = .ok (.iconst 4, 1) := by decide +kernel
theorem dJ6_numberOfTrailingZeros_0f7a4_64 : decode cJ6_numberOfTrailingZeros_0f7a4 64 = .ok (.if_icmp .le 10, 3) := by decide +kernel
theorem dJ6_numberOfTrailingZeros_0f7a4_67 : decode cJ6_numberOfTrailingZeros_0f7a4 67 = .ok (.iinc 1 2, 3) := by decide +kernel
theorem dJ6_numberOfTrailingZeros_0f7a4_70 : decode cJ6_numberOfTrailingZeros_0f7a4 70 = .ok (.iload_n 0, 1) := by decide +kernel
theorem dJ6_numberOfTrailingZeros_0f7a4_71 : decode cJ6_numberOfTrailingZeros_0f7a4 71 = .ok (.iconst 2, 1) := by decide +kernel
theorem dJ6_numberOfTrailingZeros_0f7a4_72 : decode cJ6_numberOfTrailingZeros_0f7a4 72 = .ok (.iushr, 1) := by decide +kernel
theorem dJ6_numberOfTrailingZeros_0f7a4_73 : decode cJ6_numberOfTrailingZeros_0f7a4 73 = .ok (.istore_n 0, 1) := by decide +kernel
theorem dJ6_numberOfTrailingZeros_0f7a4_74 : decode cJ6_numberOfTrailingZeros_0f7a4 74 = .ok (.iload_n 1, 1) := by decide +kernel
theorem dJ6_numberOfTrailingZeros_0f7a4_75 : decode cJ6_numberOfTrailingZeros_0f7a4 75 = .ok (.iload_n 0, 1) := by decide +kernel
theorem dJ6_numberOfTrailingZeros_0f7a4_76 : decode cJ6_numberOfTrailingZeros_0f7a4 76 = .ok (.iconst 1, 1) := by decide +kernel
theorem dJ6_numberOfTrailingZeros_0f7a4_77 : decode cJ6_numberOfTrailingZeros_0f7a4 77 = .ok (.iushr, 1) := by decide +kernel
theorem dJ6_numberOfTrailingZeros_0f7a4_78 : decode cJ6_numberOfTrailingZeros_0f7a4 78 = .ok (.iadd, 1) := by decide +kernel
theorem dJ6_numberOfTrailingZeros_0f7a4_79 : decode cJ6_numberOfTrailingZeros_0f7a4 79 = .ok (.ireturn, 1) := by decide +kernel
theorem dJ7_fill_53178_0 : decode cJ7_fill_53178 0 = .ok (.iconst 0, 1) := by decide +kernel
theorem dJ7_fill_53178_1 : decode cJ7_fill_53178 1 = .ok (.istore_n 2, 1) := by decide +kernel
theorem dJ7_fill_53178_2 : decode cJ7_fill_53178 2 = .ok (.aload_n 0, 1) := by decide +kernel
theorem dJ7_fill_53178_3 : decode cJ7_fill_53178 3 = .ok (.arraylength, 1) := by decide +kernel
theorem dJ7_fill_53178_4 : decode cJ7_fill_53178 4 = .ok (.istore_n 3, 1) := by decide +kernel
theorem dJ7_fill_53178_5 : decode cJ7_fill_53178 5 = .ok (.iload_n 2, 1) := by decide +kernel
theorem dJ7_fill_53178_6 : decode cJ7_fill_53178 6 = .ok (.iload_n 3, 1) := by decide +kernel
theorem dJ7_fill_53178_7 : decode cJ7_fill_53178 7 = .ok (.if_icmp .ge 13, 3) := by decide +kernel
theorem dJ7_fill_53178_10 : decode cJ7_fill_53178 10 = .ok (.aload_n 0, 1) := by decide +kernel
theorem dJ7_fill_53178_11 : decode cJ7_fill_53178 11 = .ok (.iload_n 2, 1) := by decide +kernel
theorem dJ7_fill_53178_12 : decode cJ7_fill_53178 12 = .ok (.iload_n 1, 1) := by decide +kernel
theorem dJ7_fill_53178_13 : decode cJ7_fill_53178 13 = .ok (.iastore, 1) := by decide +kernel
theorem dJ7_fill_53178_14 : decode cJ7_fill_53178 14 = .ok (.iinc 2 1, 3) := by decide +kernel
theorem dJ7_fill_53178_17 : decode cJ7_fill_53178 17 = .ok (.goto (-12), 3) := by decide +kernel
theorem dJ7_fill_53178_20 : decode cJ7_fill_53178 20 = .ok (.return_, 1) := by decide +kernel
theorem dJ7_rangeCheck_23922_0 : decode cJ7_rangeCheck_23922 0 = .ok (.iload_n 1, 1) := by decide +kernel
theorem dJ7_rangeCheck_23922_1 : decode cJ7_rangeCheck_23922 1 = .ok (.iload_n 2, 1) := by decide +kernel
theorem dJ7_rangeCheck_23922_2 : decode cJ7_rangeCheck_23922 2 = .ok (.if_icmp .le 44, 3) := by decide +kernel
theorem dJ7_rangeCheck_23922_5 : decode cJ7_rangeCheck_23922 5 = .ok (.new 43, 3) := by decide +kernel
theorem dJ7_rangeCheck_23922_8 : decode cJ7_rangeCheck_23922 8 = .ok (.dup, 1) := by decide +kernel
theorem dJ7_rangeCheck_23922_9 : decode cJ7_rangeCheck_23922 9 = .ok (.new 45, 3) := by decide +kernel
theorem dJ7_rangeCheck_23922_12 : decode cJ7_rangeCheck_23922 12 = .ok (.dup, 1) := by decide +kernel
theorem dJ7_rangeCheck_23922_13 : decode cJ7_rangeCheck_23922 13 = .ok (.invokespecial 47, 3) := by decide +kernel
theorem dJ7_rangeCheck_23922_16 : decode cJ7_rangeCheck_23922 16 = .ok (.ldc 48, 2) := by decide +kernel
theorem dJ7_rangeCheck_23922_18 : decode cJ7_rangeCheck_23922 18 = .ok (.invokevirtual 50, 3) := by decide +kernel
theorem dJ7_rangeCheck_23922_21 : decode cJ7_rangeCheck_23922 21 = .ok (.iload_n 1, 1) := by decide +kernel
theorem dJ7_rangeCheck_23922_22 : decode cJ7_rangeCheck_23922 22 = .ok (.invokevirtual 54, 3) := by decide +kernel
theorem dJ7_rangeCheck_23922_25 : decode cJ7_rangeCheck_23922 25 = .ok (.ldc 57, 2) := by decide +kernel
theorem dJ7_rangeCheck_23922_27 : decode cJ7_rangeCheck_23922 27 = .ok (.invokevirtual 50, 3) := by decide +kernel
theorem dJ7_rangeCheck_23922_30 : decode cJ7_rangeCheck_23922 30 = .ok (.iload_n 2, 1) := by decide +kernel
theorem dJ7_rangeCheck_23922_31 : decode cJ7_rangeCheck_23922 31 = .ok (.invokevirtual 54, 3) := by decide +kernel
theorem dJ7_rangeCheck_23922_34 : decode cJ7_rangeCheck_23922 34 = .ok (.ldc 59, 2) := by decide +kernel
theorem dJ7_rangeCheck_23922_36 : decode cJ7_rangeCheck_23922 36 = .ok (.invokevirtual 50, 3) := by decide +kernel
theorem dJ7_rangeCheck_23922_39 : decode cJ7_rangeCheck_23922 39 = .ok (.invokevirtual 61, 3) := by decide +kernel
theorem dJ7_rangeCheck_23922_42 : decode cJ7_rangeCheck_23922 42 = .ok (.invokespecial 65, 3) := by decide +kernel
theorem dJ7_rangeCheck_23922_45 : decode cJ7_rangeCheck_23922 45 = .ok (.athrow, 1) := by decide +kernel
theorem dJ7_rangeCheck_23922_46 : decode cJ7_rangeCheck_23922 46 = .ok (.iload_n 1, 1) := by decide +kernel
theorem dJ7_rangeCheck_23922_47 : decode cJ7_rangeCheck_23922 47 = .ok (.ifCond .ge 12, 3) := by decide +kernel
theorem dJ7_rangeCheck_23922_50 : decode cJ7_rangeCheck_23922 50 = .ok (.new 68, 3) := by decide +kernel
theorem dJ7_rangeCheck_23922_53 : decode cJ7_rangeCheck_23922 53 = .ok (.dup, 1) := by decide +kernel
theorem dJ7_rangeCheck_23922_54 : decode cJ7_rangeCheck_23922 54 = .ok (.iload_n 1, 1) := by decide +kernel
theorem dJ7_rangeCheck_23922_55 : decode cJ7_rangeCheck_23922 55 = .ok (.invokespecial 70, 3) := by decide +kernel
theorem dJ7_rangeCheck_23922_58 : decode cJ7_rangeCheck_23922 58 = .ok (.athrow, 1) := by decide +kernel
theorem dJ7_rangeCheck_23922_59 : decode cJ7_rangeCheck_23922 59 = .ok (.iload_n 2, 1) := by decide +kernel
theorem dJ7_rangeCheck_23922_60 : decode cJ7_rangeCheck_23922 60 = .ok (.iload_n 0, 1) := by decide +kernel
theorem dJ7_rangeCheck_23922_61 : decode cJ7_rangeCheck_23922 61 = .ok (.if_icmp .le 12, 3) := by decide +kernel
theorem dJ7_rangeCheck_23922_64 : decode cJ7_rangeCheck_23922 64 = .ok (.new 68, 3) := by decide +kernel
theorem dJ7_rangeCheck_23922_67 : decode cJ7_rangeCheck_23922 67 = .ok (.dup, 1) := by decide +kernel
theorem dJ7_rangeCheck_23922_68 : decode cJ7_rangeCheck_23922 68 = .ok (.iload_n 2, 1) := by decide +kernel
theorem dJ7_rangeCheck_23922_69 : decode cJ7_rangeCheck_23922 69 = .ok (.invokespecial 70, 3) := by decide +kernel
theorem dJ7_rangeCheck_23922_72 : decode cJ7_rangeCheck_23922 72 = .ok (.athrow, 1) := by decide +kernel
theorem dJ7_rangeCheck_23922_73 : decode cJ7_rangeCheck_23922 73 = .ok (.return_, 1) := by decide +kernel
theorem dJ7_fill_fda19_0 : decode cJ7_fill_fda19 0 = .ok (.aload_n 0, 1) := by decide +kernel
theorem dJ7_fill_fda19_1 : decode cJ7_fill_fda19 1 = .ok (.arraylength, 1) := by decide +kernel
theorem dJ7_fill_fda19_2 : decode cJ7_fill_fda19 2 = .ok (.iload_n 1, 1) := by decide +kernel
theorem dJ7_fill_fda19_3 : decode cJ7_fill_fda19 3 = .ok (.iload_n 2, 1) := by decide +kernel
theorem dJ7_fill_fda19_4 : decode cJ7_fill_fda19 4 = .ok (.invokestatic 13, 3) := by decide +kernel
theorem dJ7_fill_fda19_7 : decode cJ7_fill_fda19 7 = .ok (.iload_n 1, 1) := by decide +kernel
theorem dJ7_fill_fda19_8 : decode cJ7_fill_fda19 8 = .ok (.istore 4, 2) := by decide +kernel
theorem dJ7_fill_fda19_10 : decode cJ7_fill_fda19 10 = .ok (.iload 4, 2) := by decide +kernel
theorem dJ7_fill_fda19_12 : decode cJ7_fill_fda19 12 = .ok (.iload_n 2, 1) := by decide +kernel
theorem dJ7_fill_fda19_13 : decode cJ7_fill_fda19 13 = .ok (.if_icmp .ge 14, 3) := by decide +kernel
theorem dJ7_fill_fda19_16 : decode cJ7_fill_fda19 16 = .ok (.aload_n 0, 1) := by decide +kernel
theorem dJ7_fill_fda19_17 : decode cJ7_fill_fda19 17 = .ok (.iload 4, 2) := by decide +kernel
theorem dJ7_fill_fda19_19 : decode cJ7_fill_fda19 19 = .ok (.iload_n 3, 1) := by decide +kernel
theorem dJ7_fill_fda19_20 : decode cJ7_fill_fda19 20 = .ok (.iastore, 1) := by decide +kernel
theorem dJ7_fill_fda19_21 : decode cJ7_fill_fda19 21 = .ok (.iinc 4 1, 3) := by decide +kernel
theorem dJ7_fill_fda19_24 : decode cJ7_fill_fda19 24 = .ok (.goto (-14), 3) := by decide +kernel
theorem dJ7_fill_fda19_27 : decode cJ7_fill_fda19 27 = .ok (.return_, 1) := by decide +kernel
theorem dX10_settle_0 : decode cX10_settle 0 = .ok (.aload_n 0, 1) := by decide +kernel
theorem dX10_settle_1 : decode cX10_settle 1 = .ok (.getfield 11, 3) := by decide +kernel
theorem dX10_settle_4 : decode cX10_settle 4 = .ok (.bipush 119, 2) := by decide +kernel
theorem dX10_settle_6 : decode cX10_settle 6 = .ok (.iload_n 1, 1) := by decide +kernel
theorem dX10_settle_7 : decode cX10_settle 7 = .ok (.bipush 6, 2) := by decide +kernel
theorem dX10_settle_9 : decode cX10_settle 9 = .ok (.imul, 1) := by decide +kernel
theorem dX10_settle_10 : decode cX10_settle 10 = .ok (.iadd, 1) := by decide +kernel
theorem dX10_settle_11 : decode cX10_settle 11 = .ok (.iload_n 2, 1) := by decide +kernel
theorem dX10_settle_12 : decode cX10_settle 12 = .ok (.iadd, 1) := by decide +kernel
theorem dX10_settle_13 : decode cX10_settle 13 = .ok (.iconst (-1), 1) := by decide +kernel
theorem dX10_settle_14 : decode cX10_settle 14 = .ok (.iastore, 1) := by decide +kernel
theorem dX10_settle_15 : decode cX10_settle 15 = .ok (.return_, 1) := by decide +kernel
theorem dX10_since_0 : decode cX10_since 0 = .ok (.aload_n 0, 1) := by decide +kernel
theorem dX10_since_1 : decode cX10_since 1 = .ok (.getfield 11, 3) := by decide +kernel
theorem dX10_since_4 : decode cX10_since 4 = .ok (.sipush 155, 3) := by decide +kernel
theorem dX10_since_7 : decode cX10_since 7 = .ok (.iload_n 1, 1) := by decide +kernel
theorem dX10_since_8 : decode cX10_since 8 = .ok (.bipush 6, 2) := by decide +kernel
theorem dX10_since_10 : decode cX10_since 10 = .ok (.imul, 1) := by decide +kernel
theorem dX10_since_11 : decode cX10_since 11 = .ok (.iadd, 1) := by decide +kernel
theorem dX10_since_12 : decode cX10_since 12 = .ok (.iload_n 2, 1) := by decide +kernel
theorem dX10_since_13 : decode cX10_since 13 = .ok (.iadd, 1) := by decide +kernel
theorem dX10_since_14 : decode cX10_since 14 = .ok (.iaload, 1) := by decide +kernel
theorem dX10_since_15 : decode cX10_since 15 = .ok (.ireturn, 1) := by decide +kernel
theorem dX10_stand_0 : decode cX10_stand 0 = .ok (.aload_n 0, 1) := by decide +kernel
theorem dX10_stand_1 : decode cX10_stand 1 = .ok (.getfield 11, 3) := by decide +kernel
theorem dX10_stand_4 : decode cX10_stand 4 = .ok (.bipush 119, 2) := by decide +kernel
theorem dX10_stand_6 : decode cX10_stand 6 = .ok (.iload_n 1, 1) := by decide +kernel
theorem dX10_stand_7 : decode cX10_stand 7 = .ok (.bipush 6, 2) := by decide +kernel
theorem dX10_stand_9 : decode cX10_stand 9 = .ok (.imul, 1) := by decide +kernel
theorem dX10_stand_10 : decode cX10_stand 10 = .ok (.iadd, 1) := by decide +kernel
theorem dX10_stand_11 : decode cX10_stand 11 = .ok (.iload_n 2, 1) := by decide +kernel
theorem dX10_stand_12 : decode cX10_stand 12 = .ok (.iadd, 1) := by decide +kernel
theorem dX10_stand_13 : decode cX10_stand 13 = .ok (.iload_n 3, 1) := by decide +kernel
theorem dX10_stand_14 : decode cX10_stand 14 = .ok (.iastore, 1) := by decide +kernel
theorem dX10_stand_15 : decode cX10_stand 15 = .ok (.aload_n 0, 1) := by decide +kernel
theorem dX10_stand_16 : decode cX10_stand 16 = .ok (.getfield 11, 3) := by decide +kernel
theorem dX10_stand_19 : decode cX10_stand 19 = .ok (.sipush 155, 3) := by decide +kernel
theorem dX10_stand_22 : decode cX10_stand 22 = .ok (.iload_n 1, 1) := by decide +kernel
theorem dX10_stand_23 : decode cX10_stand 23 = .ok (.bipush 6, 2) := by decide +kernel
theorem dX10_stand_25 : decode cX10_stand 25 = .ok (.imul, 1) := by decide +kernel
theorem dX10_stand_26 : decode cX10_stand 26 = .ok (.iadd, 1) := by decide +kernel
theorem dX10_stand_27 : decode cX10_stand 27 = .ok (.iload_n 2, 1) := by decide +kernel
theorem dX10_stand_28 : decode cX10_stand 28 = .ok (.iadd, 1) := by decide +kernel
theorem dX10_stand_29 : decode cX10_stand 29 = .ok (.iload 4, 2) := by decide +kernel
theorem dX10_stand_31 : decode cX10_stand 31 = .ok (.iastore, 1) := by decide +kernel
theorem dX10_stand_32 : decode cX10_stand 32 = .ok (.return_, 1) := by decide +kernel
theorem dX10_term_0 : decode cX10_term 0 = .ok (.aload_n 0, 1) := by decide +kernel
theorem dX10_term_1 : decode cX10_term 1 = .ok (.getfield 11, 3) := by decide +kernel
theorem dX10_term_4 : decode cX10_term 4 = .ok (.iload_n 1, 1) := by decide +kernel
theorem dX10_term_5 : decode cX10_term 5 = .ok (.iaload, 1) := by decide +kernel
theorem dX10_term_6 : decode cX10_term 6 = .ok (.ireturn, 1) := by decide +kernel
theorem dX10_worthOwed_0 : decode cX10_worthOwed 0 = .ok (.aload_n 0, 1) := by decide +kernel
theorem dX10_worthOwed_1 : decode cX10_worthOwed 1 = .ok (.getfield 11, 3) := by decide +kernel
theorem dX10_worthOwed_4 : decode cX10_worthOwed 4 = .ok (.bipush 119, 2) := by decide +kernel
theorem dX10_worthOwed_6 : decode cX10_worthOwed 6 = .ok (.iload_n 1, 1) := by decide +kernel
theorem dX10_worthOwed_7 : decode cX10_worthOwed 7 = .ok (.bipush 6, 2) := by decide +kernel
theorem dX10_worthOwed_9 : decode cX10_worthOwed 9 = .ok (.imul, 1) := by decide +kernel
theorem dX10_worthOwed_10 : decode cX10_worthOwed 10 = .ok (.iadd, 1) := by decide +kernel
theorem dX10_worthOwed_11 : decode cX10_worthOwed 11 = .ok (.iload_n 2, 1) := by decide +kernel
theorem dX10_worthOwed_12 : decode cX10_worthOwed 12 = .ok (.iadd, 1) := by decide +kernel
theorem dX10_worthOwed_13 : decode cX10_worthOwed 13 = .ok (.iaload, 1) := by decide +kernel
theorem dX10_worthOwed_14 : decode cX10_worthOwed 14 = .ok (.ireturn, 1) := by decide +kernel
theorem dX0_challenge_0 : decode cX0_challenge 0 = .ok (.aload_n 0, 1) := by decide +kernel
theorem dX0_challenge_1 : decode cX0_challenge 1 = .ok (.iload_n 1, 1) := by decide +kernel
theorem dX0_challenge_2 : decode cX0_challenge 2 = .ok (.iload_n 2, 1) := by decide +kernel
theorem dX0_challenge_3 : decode cX0_challenge 3 = .ok (.invokevirtual 56, 3) := by decide +kernel
theorem dX0_challenge_6 : decode cX0_challenge 6 = .ok (.istore 4, 2) := by decide +kernel
theorem dX0_challenge_8 : decode cX0_challenge 8 = .ok (.iload 4, 2) := by decide +kernel
theorem dX0_challenge_10 : decode cX0_challenge 10 = .ok (.iconst (-1), 1) := by decide +kernel
theorem dX0_challenge_11 : decode cX0_challenge 11 = .ok (.if_icmp .eq 16, 3) := by decide +kernel
theorem dX0_challenge_14 : decode cX0_challenge 14 = .ok (.iload_n 3, 1) := by decide +kernel
theorem dX0_challenge_15 : decode cX0_challenge 15 = .ok (.iload 4, 2) := by decide +kernel
theorem dX0_challenge_17 : decode cX0_challenge 17 = .ok (.if_icmp .gt 4, 3) := by decide +kernel
theorem dX0_challenge_20 : decode cX0_challenge 20 = .ok (.return_, 1) := by decide +kernel
theorem dX0_challenge_21 : decode cX0_challenge 21 = .ok (.aload_n 0, 1) := by decide +kernel
theorem dX0_challenge_22 : decode cX0_challenge 22 = .ok (.iload_n 1, 1) := by decide +kernel
theorem dX0_challenge_23 : decode cX0_challenge 23 = .ok (.iload_n 2, 1) := by decide +kernel
theorem dX0_challenge_24 : decode cX0_challenge 24 = .ok (.invokevirtual 59, 3) := by decide +kernel
theorem dX0_challenge_27 : decode cX0_challenge 27 = .ok (.aload_n 0, 1) := by decide +kernel
theorem dX0_challenge_28 : decode cX0_challenge 28 = .ok (.iload_n 2, 1) := by decide +kernel
theorem dX0_challenge_29 : decode cX0_challenge 29 = .ok (.iload_n 1, 1) := by decide +kernel
theorem dX0_challenge_30 : decode cX0_challenge 30 = .ok (.invokevirtual 56, 3) := by decide +kernel
theorem dX0_challenge_33 : decode cX0_challenge 33 = .ok (.istore 5, 2) := by decide +kernel
theorem dX0_challenge_35 : decode cX0_challenge 35 = .ok (.iload 5, 2) := by decide +kernel
theorem dX0_challenge_37 : decode cX0_challenge 37 = .ok (.iconst (-1), 1) := by decide +kernel
theorem dX0_challenge_38 : decode cX0_challenge 38 = .ok (.if_icmp .ne 18, 3) := by decide +kernel
theorem dX0_challenge_41 : decode cX0_challenge 41 = .ok (.aload_n 0, 1) := by decide +kernel
theorem dX0_challenge_42 : decode cX0_challenge 42 = .ok (.iload_n 2, 1) := by decide +kernel
theorem dX0_challenge_43 : decode cX0_challenge 43 = .ok (.iload_n 1, 1) := by decide +kernel
theorem dX0_challenge_44 : decode cX0_challenge 44 = .ok (.iload_n 3, 1) := by decide +kernel
theorem dX0_challenge_45 : decode cX0_challenge 45 = .ok (.aload_n 0, 1) := by decide +kernel
theorem dX0_challenge_46 : decode cX0_challenge 46 = .ok (.iconst 0, 1) := by decide +kernel
theorem dX0_challenge_47 : decode cX0_challenge 47 = .ok (.invokevirtual 62, 3) := by decide +kernel
theorem dX0_challenge_50 : decode cX0_challenge 50 = .ok (.invokevirtual 66, 3) := by decide +kernel
theorem dX0_challenge_53 : decode cX0_challenge 53 = .ok (.goto 21, 3) := by decide +kernel
theorem dX0_challenge_56 : decode cX0_challenge 56 = .ok (.aload_n 0, 1) := by decide +kernel
theorem dX0_challenge_57 : decode cX0_challenge 57 = .ok (.iload_n 2, 1) := by decide +kernel
theorem dX0_challenge_58 : decode cX0_challenge 58 = .ok (.iload_n 1, 1) := by decide +kernel
theorem dX0_challenge_59 : decode cX0_challenge 59 = .ok (.iload 5, 2) := by decide +kernel
theorem dX0_challenge_61 : decode cX0_challenge 61 = .ok (.iload_n 3, 1) := by decide +kernel
theorem dX0_challenge_62 : decode cX0_challenge 62 = .ok (.invokestatic 70, 3) := by decide +kernel
theorem dX0_challenge_65 : decode cX0_challenge 65 = .ok (.aload_n 0, 1) := by decide +kernel
theorem dX0_challenge_66 : decode cX0_challenge 66 = .ok (.iload_n 2, 1) := by decide +kernel
theorem dX0_challenge_67 : decode cX0_challenge 67 = .ok (.iload_n 1, 1) := by decide +kernel
theorem dX0_challenge_68 : decode cX0_challenge 68 = .ok (.invokevirtual 75, 3) := by decide +kernel
theorem dX0_challenge_71 : decode cX0_challenge 71 = .ok (.invokevirtual 66, 3) := by decide +kernel
theorem dX0_challenge_74 : decode cX0_challenge 74 = .ok (.return_, 1) := by decide +kernel
theorem dX0_draw_0 : decode cX0_draw 0 = .ok (.aload_n 0, 1) := by decide +kernel
theorem dX0_draw_1 : decode cX0_draw 1 = .ok (.aload_n 0, 1) := by decide +kernel
theorem dX0_draw_2 : decode cX0_draw 2 = .ok (.getfield 18, 3) := by decide +kernel
theorem dX0_draw_5 : decode cX0_draw 5 = .ok (.ldc2_w 122, 3) := by decide +kernel
theorem dX0_draw_8 : decode cX0_draw 8 = .ok (.lmul, 1) := by decide +kernel
theorem dX0_draw_9 : decode cX0_draw 9 = .ok (.ldc2_w 124, 3) := by decide +kernel
theorem dX0_draw_12 : decode cX0_draw 12 = .ok (.ladd, 1) := by decide +kernel
theorem dX0_draw_13 : decode cX0_draw 13 = .ok (.ldc2_w 126, 3) := by decide +kernel
theorem dX0_draw_16 : decode cX0_draw 16 = .ok (.lrem, 1) := by decide +kernel
theorem dX0_draw_17 : decode cX0_draw 17 = .ok (.putfield 18, 3) := by decide +kernel
theorem dX0_draw_20 : decode cX0_draw 20 = .ok (.iload_n 1, 1) := by decide +kernel
theorem dX0_draw_21 : decode cX0_draw 21 = .ok (.ifCond .le 14, 3) := by decide +kernel
theorem dX0_draw_24 : decode cX0_draw 24 = .ok (.aload_n 0, 1) := by decide +kernel
theorem dX0_draw_25 : decode cX0_draw 25 = .ok (.getfield 18, 3) := by decide +kernel
theorem dX0_draw_28 : decode cX0_draw 28 = .ok (.iload_n 1, 1) := by decide +kernel
theorem dX0_draw_29 : decode cX0_draw 29 = .ok (.i2l, 1) := by decide +kernel
theorem dX0_draw_30 : decode cX0_draw 30 = .ok (.lrem, 1) := by decide +kernel
theorem dX0_draw_31 : decode cX0_draw 31 = .ok (.l2i, 1) := by decide +kernel
theorem dX0_draw_32 : decode cX0_draw 32 = .ok (.goto 4, 3) := by decide +kernel
theorem dX0_draw_35 : decode cX0_draw 35 = .ok (.iconst 0, 1) := by decide +kernel
theorem dX0_draw_36 : decode cX0_draw 36 = .ok (.ireturn, 1) := by decide +kernel
theorem dX10_many_0 : decode cX10_many 0 = .ok (.aload_n 0, 1) := by decide +kernel
theorem dX10_many_1 : decode cX10_many 1 = .ok (.getfield 11, 3) := by decide +kernel
theorem dX10_many_4 : decode cX10_many 4 = .ok (.sipush 191, 3) := by decide +kernel
theorem dX10_many_7 : decode cX10_many 7 = .ok (.iload_n 1, 1) := by decide +kernel
theorem dX10_many_8 : decode cX10_many 8 = .ok (.iadd, 1) := by decide +kernel
theorem dX10_many_9 : decode cX10_many 9 = .ok (.iaload, 1) := by decide +kernel
theorem dX10_many_10 : decode cX10_many 10 = .ok (.ireturn, 1) := by decide +kernel
theorem dX0_dropAllOf_0 : decode cX0_dropAllOf 0 = .ok (.iconst 0, 1) := by decide +kernel
theorem dX0_dropAllOf_1 : decode cX0_dropAllOf 1 = .ok (.istore_n 2, 1) := by decide +kernel
theorem dX0_dropAllOf_2 : decode cX0_dropAllOf 2 = .ok (.iload_n 2, 1) := by decide +kernel
theorem dX0_dropAllOf_3 : decode cX0_dropAllOf 3 = .ok (.aload_n 0, 1) := by decide +kernel
theorem dX0_dropAllOf_4 : decode cX0_dropAllOf 4 = .ok (.iconst 0, 1) := by decide +kernel
theorem dX0_dropAllOf_5 : decode cX0_dropAllOf 5 = .ok (.invokevirtual 81, 3) := by decide +kernel
theorem dX0_dropAllOf_8 : decode cX0_dropAllOf 8 = .ok (.if_icmp .ge 21, 3) := by decide +kernel
theorem dX0_dropAllOf_11 : decode cX0_dropAllOf 11 = .ok (.aload_n 0, 1) := by decide +kernel
theorem dX0_dropAllOf_12 : decode cX0_dropAllOf 12 = .ok (.iload_n 1, 1) := by decide +kernel
theorem dX0_dropAllOf_13 : decode cX0_dropAllOf 13 = .ok (.iload_n 2, 1) := by decide +kernel
theorem dX0_dropAllOf_14 : decode cX0_dropAllOf 14 = .ok (.invokevirtual 59, 3) := by decide +kernel
theorem dX0_dropAllOf_17 : decode cX0_dropAllOf 17 = .ok (.aload_n 0, 1) := by decide +kernel
theorem dX0_dropAllOf_18 : decode cX0_dropAllOf 18 = .ok (.iload_n 2, 1) := by decide +kernel
theorem dX0_dropAllOf_19 : decode cX0_dropAllOf 19 = .ok (.iload_n 1, 1) := by decide +kernel
theorem dX0_dropAllOf_20 : decode cX0_dropAllOf 20 = .ok (.invokevirtual 59, 3) := by decide +kernel
theorem dX0_dropAllOf_23 : decode cX0_dropAllOf 23 = .ok (.iinc 2 1, 3) := by decide +kernel
theorem dX0_dropAllOf_26 : decode cX0_dropAllOf 26 = .ok (.goto (-24), 3) := by decide +kernel
theorem dX0_dropAllOf_29 : decode cX0_dropAllOf 29 = .ok (.return_, 1) := by decide +kernel
theorem dX10_goodAt_0 : decode cX10_goodAt 0 = .ok (.aload_n 0, 1) := by decide +kernel
theorem dX10_goodAt_1 : decode cX10_goodAt 1 = .ok (.getfield 11, 3) := by decide +kernel
theorem dX10_goodAt_4 : decode cX10_goodAt 4 = .ok (.bipush 39, 2) := by decide +kernel
theorem dX10_goodAt_6 : decode cX10_goodAt 6 = .ok (.iload_n 1, 1) := by decide +kernel
theorem dX10_goodAt_7 : decode cX10_goodAt 7 = .ok (.iconst 5, 1) := by decide +kernel
theorem dX10_goodAt_8 : decode cX10_goodAt 8 = .ok (.imul, 1) := by decide +kernel
theorem dX10_goodAt_9 : decode cX10_goodAt 9 = .ok (.iadd, 1) := by decide +kernel
theorem dX10_goodAt_10 : decode cX10_goodAt 10 = .ok (.iload_n 2, 1) := by decide +kernel
theorem dX10_goodAt_11 : decode cX10_goodAt 11 = .ok (.iadd, 1) := by decide +kernel
theorem dX10_goodAt_12 : decode cX10_goodAt 12 = .ok (.iaload, 1) := by decide +kernel
theorem dX10_goodAt_13 : decode cX10_goodAt 13 = .ok (.ireturn, 1) := by decide +kernel
theorem dX10_oneMoreOf_0 : decode cX10_oneMoreOf 0 = .ok (.aload_n 0, 1) := by decide +kernel
theorem dX10_oneMoreOf_1 : decode cX10_oneMoreOf 1 = .ok (.getfield 11, 3) := by decide +kernel
theorem dX10_oneMoreOf_4 : decode cX10_oneMoreOf 4 = .ok (.iconst 3, 1) := by decide +kernel
theorem dX10_oneMoreOf_5 : decode cX10_oneMoreOf 5 = .ok (.iload_n 1, 1) := by decide +kernel
theorem dX10_oneMoreOf_6 : decode cX10_oneMoreOf 6 = .ok (.bipush 6, 2) := by decide +kernel
theorem dX10_oneMoreOf_8 : decode cX10_oneMoreOf 8 = .ok (.imul, 1) := by decide +kernel
theorem dX10_oneMoreOf_9 : decode cX10_oneMoreOf 9 = .ok (.iadd, 1) := by decide +kernel
theorem dX10_oneMoreOf_10 : decode cX10_oneMoreOf 10 = .ok (.iload_n 2, 1) := by decide +kernel
theorem dX10_oneMoreOf_11 : decode cX10_oneMoreOf 11 = .ok (.iadd, 1) := by decide +kernel
theorem dX10_oneMoreOf_12 : decode cX10_oneMoreOf 12 = .ok (.dup2, 1) := by decide +kernel
theorem dX10_oneMoreOf_13 : decode cX10_oneMoreOf 13 = .ok (.iaload, 1) := by decide +kernel
theorem dX10_oneMoreOf_14 : decode cX10_oneMoreOf 14 = .ok (.iconst 1, 1) := by decide +kernel
theorem dX10_oneMoreOf_15 : decode cX10_oneMoreOf 15 = .ok (.iadd, 1) := by decide +kernel
theorem dX10_oneMoreOf_16 : decode cX10_oneMoreOf 16 = .ok (.iastore, 1) := by decide +kernel
theorem dX10_oneMoreOf_17 : decode cX10_oneMoreOf 17 = .ok (.return_, 1) := by decide +kernel
theorem dX10_setGood_0 : decode cX10_setGood 0 = .ok (.aload_n 0, 1) := by decide +kernel
theorem dX10_setGood_1 : decode cX10_setGood 1 = .ok (.getfield 11, 3) := by decide +kernel
theorem dX10_setGood_4 : decode cX10_setGood 4 = .ok (.bipush 39, 2) := by decide +kernel
theorem dX10_setGood_6 : decode cX10_setGood 6 = .ok (.iload_n 1, 1) := by decide +kernel
theorem dX10_setGood_7 : decode cX10_setGood 7 = .ok (.iconst 5, 1) := by decide +kernel
theorem dX10_setGood_8 : decode cX10_setGood 8 = .ok (.imul, 1) := by decide +kernel
theorem dX10_setGood_9 : decode cX10_setGood 9 = .ok (.iadd, 1) := by decide +kernel
theorem dX10_setGood_10 : decode cX10_setGood 10 = .ok (.iload_n 2, 1) := by decide +kernel
theorem dX10_setGood_11 : decode cX10_setGood 11 = .ok (.iadd, 1) := by decide +kernel
theorem dX10_setGood_12 : decode cX10_setGood 12 = .ok (.iload_n 3, 1) := by decide +kernel
theorem dX10_setGood_13 : decode cX10_setGood 13 = .ok (.iastore, 1) := by decide +kernel
theorem dX10_setGood_14 : decode cX10_setGood 14 = .ok (.return_, 1) := by decide +kernel
theorem dX10_lawInForce_0 : decode cX10_lawInForce 0 = .ok (.aload_n 0, 1) := by decide +kernel
theorem dX10_lawInForce_1 : decode cX10_lawInForce 1 = .ok (.getfield 11, 3) := by decide +kernel
theorem dX10_lawInForce_4 : decode cX10_lawInForce 4 = .ok (.sipush 196, 3) := by decide +kernel
theorem dX10_lawInForce_7 : decode cX10_lawInForce 7 = .ok (.iaload, 1) := by decide +kernel
theorem dX10_lawInForce_8 : decode cX10_lawInForce 8 = .ok (.istore_n 1, 1) := by decide +kernel
theorem dX10_lawInForce_9 : decode cX10_lawInForce 9 = .ok (.iload_n 1, 1) := by decide +kernel
theorem dX10_lawInForce_10 : decode cX10_lawInForce 10 = .ok (.ifCond .lt 24, 3) := by decide +kernel
theorem dX10_lawInForce_13 : decode cX10_lawInForce 13 = .ok (.iload_n 1, 1) := by decide +kernel
theorem dX10_lawInForce_14 : decode cX10_lawInForce 14 = .ok (.aload_n 0, 1) := by decide +kernel
theorem dX10_lawInForce_15 : decode cX10_lawInForce 15 = .ok (.getfield 11, 3) := by decide +kernel
theorem dX10_lawInForce_18 : decode cX10_lawInForce 18 = .ok (.sipush 195, 3) := by decide +kernel
theorem dX10_lawInForce_21 : decode cX10_lawInForce 21 = .ok (.iaload, 1) := by decide +kernel
theorem dX10_lawInForce_22 : decode cX10_lawInForce 22 = .ok (.if_icmp .ge 12, 3) := by decide +kernel
theorem dX10_lawInForce_25 : decode cX10_lawInForce 25 = .ok (.aload_n 0, 1) := by decide +kernel
theorem dX10_lawInForce_26 : decode cX10_lawInForce 26 = .ok (.getfield 17, 3) := by decide +kernel
theorem dX10_lawInForce_29 : decode cX10_lawInForce 29 = .ok (.iload_n 1, 1) := by decide +kernel
theorem dX10_lawInForce_30 : decode cX10_lawInForce 30 = .ok (.aaload, 1) := by decide +kernel
theorem dX10_lawInForce_31 : decode cX10_lawInForce 31 = .ok (.goto 4, 3) := by decide +kernel
theorem dX10_lawInForce_34 : decode cX10_lawInForce 34 = .ok (.aconst_null, 1) := by decide +kernel
theorem dX10_lawInForce_35 : decode cX10_lawInForce 35 = .ok (.areturn, 1) := by decide +kernel
theorem dX2_ask_0 : decode cX2_ask 0 = .ok (.aload_n 0, 1) := by decide +kernel
theorem dX2_ask_1 : decode cX2_ask 1 = .ok (.getfield 11, 3) := by decide +kernel
theorem dX2_ask_4 : decode cX2_ask 4 = .ok (.iconst 0, 1) := by decide +kernel
theorem dX2_ask_5 : decode cX2_ask 5 = .ok (.iload_n 2, 1) := by decide +kernel
theorem dX2_ask_6 : decode cX2_ask 6 = .ok (.iastore, 1) := by decide +kernel
theorem dX2_ask_7 : decode cX2_ask 7 = .ok (.aload_n 0, 1) := by decide +kernel
theorem dX2_ask_8 : decode cX2_ask 8 = .ok (.getfield 11, 3) := by decide +kernel
theorem dX2_ask_11 : decode cX2_ask 11 = .ok (.iconst 1, 1) := by decide +kernel
theorem dX2_ask_12 : decode cX2_ask 12 = .ok (.aload_n 1, 1) := by decide +kernel
theorem dX2_ask_13 : decode cX2_ask 13 = .ok (.iload_n 2, 1) := by decide +kernel
theorem dX2_ask_14 : decode cX2_ask 14 = .ok (.iconst 2, 1) := by decide +kernel
theorem dX2_ask_15 : decode cX2_ask 15 = .ok (.invokevirtual 39, 3) := by decide +kernel
theorem dX2_ask_18 : decode cX2_ask 18 = .ok (.iastore, 1) := by decide +kernel
theorem dX2_ask_19 : decode cX2_ask 19 = .ok (.aload_n 0, 1) := by decide +kernel
theorem dX2_ask_20 : decode cX2_ask 20 = .ok (.getfield 11, 3) := by decide +kernel
theorem dX2_ask_23 : decode cX2_ask 23 = .ok (.iconst 2, 1) := by decide +kernel
theorem dX2_ask_24 : decode cX2_ask 24 = .ok (.aload_n 1, 1) := by decide +kernel
theorem dX2_ask_25 : decode cX2_ask 25 = .ok (.iload_n 2, 1) := by decide +kernel
theorem dX2_ask_26 : decode cX2_ask 26 = .ok (.iconst 3, 1) := by decide +kernel
theorem dX2_ask_27 : decode cX2_ask 27 = .ok (.invokevirtual 39, 3) := by decide +kernel
theorem dX2_ask_30 : decode cX2_ask 30 = .ok (.iastore, 1) := by decide +kernel
theorem dX2_ask_31 : decode cX2_ask 31 = .ok (.aload_n 0, 1) := by decide +kernel
theorem dX2_ask_32 : decode cX2_ask 32 = .ok (.getfield 11, 3) := by decide +kernel
theorem dX2_ask_35 : decode cX2_ask 35 = .ok (.iconst 3, 1) := by decide +kernel
theorem dX2_ask_36 : decode cX2_ask 36 = .ok (.aload_n 1, 1) := by decide +kernel
theorem dX2_ask_37 : decode cX2_ask 37 = .ok (.iload_n 2, 1) := by decide +kernel
theorem dX2_ask_38 : decode cX2_ask 38 = .ok (.iconst 4, 1) := by decide +kernel
theorem dX2_ask_39 : decode cX2_ask 39 = .ok (.invokevirtual 39, 3) := by decide +kernel
theorem dX2_ask_42 : decode cX2_ask 42 = .ok (.iastore, 1) := by decide +kernel
theorem dX2_ask_43 : decode cX2_ask 43 = .ok (.aload_n 0, 1) := by decide +kernel
theorem dX2_ask_44 : decode cX2_ask 44 = .ok (.getfield 11, 3) := by decide +kernel
theorem dX2_ask_47 : decode cX2_ask 47 = .ok (.iconst 4, 1) := by decide +kernel
theorem dX2_ask_48 : decode cX2_ask 48 = .ok (.iconst (-1), 1) := by decide +kernel
theorem dX2_ask_49 : decode cX2_ask 49 = .ok (.iastore, 1) := by decide +kernel
theorem dX2_ask_50 : decode cX2_ask 50 = .ok (.aload_n 0, 1) := by decide +kernel
theorem dX2_ask_51 : decode cX2_ask 51 = .ok (.getfield 11, 3) := by decide +kernel
theorem dX2_ask_54 : decode cX2_ask 54 = .ok (.iconst 5, 1) := by decide +kernel
theorem dX2_ask_55 : decode cX2_ask 55 = .ok (.iconst (-1), 1) := by decide +kernel
theorem dX2_ask_56 : decode cX2_ask 56 = .ok (.iastore, 1) := by decide +kernel
theorem dX2_ask_57 : decode cX2_ask 57 = .ok (.aload_n 0, 1) := by decide +kernel
theorem dX2_ask_58 : decode cX2_ask 58 = .ok (.getfield 11, 3) := by decide +kernel
theorem dX2_ask_61 : decode cX2_ask 61 = .ok (.bipush 6, 2) := by decide +kernel
theorem dX2_ask_63 : decode cX2_ask 63 = .ok (.iload_n 3, 1) := by decide +kernel
theorem dX2_ask_64 : decode cX2_ask 64 = .ok (.iastore, 1) := by decide +kernel
theorem dX2_ask_65 : decode cX2_ask 65 = .ok (.aload_n 0, 1) := by decide +kernel
theorem dX2_ask_66 : decode cX2_ask 66 = .ok (.getfield 11, 3) := by decide +kernel
theorem dX2_ask_69 : decode cX2_ask 69 = .ok (.bipush 7, 2) := by decide +kernel
theorem dX2_ask_71 : decode cX2_ask 71 = .ok (.iconst (-1), 1) := by decide +kernel
theorem dX2_ask_72 : decode cX2_ask 72 = .ok (.iastore, 1) := by decide +kernel
theorem dX2_ask_73 : decode cX2_ask 73 = .ok (.aload_n 0, 1) := by decide +kernel
theorem dX2_ask_74 : decode cX2_ask 74 = .ok (.getfield 11, 3) := by decide +kernel
theorem dX2_ask_77 : decode cX2_ask 77 = .ok (.bipush 8, 2) := by decide +kernel
theorem dX2_ask_79 : decode cX2_ask 79 = .ok (.aload_n 1, 1) := by decide +kernel
theorem dX2_ask_80 : decode cX2_ask 80 = .ok (.iconst 2, 1) := by decide +kernel
theorem dX2_ask_81 : decode cX2_ask 81 = .ok (.invokevirtual 25, 3) := by decide +kernel
theorem dX2_ask_84 : decode cX2_ask 84 = .ok (.iastore, 1) := by decide +kernel
theorem dX2_ask_85 : decode cX2_ask 85 = .ok (.return_, 1) := by decide +kernel
theorem dX8_clauses_0 : decode cX8_clauses 0 = .ok (.aload_n 0, 1) := by decide +kernel
theorem dX8_clauses_1 : decode cX8_clauses 1 = .ok (.getfield 29, 3) := by decide +kernel
theorem dX8_clauses_4 : decode cX8_clauses 4 = .ok (.ireturn, 1) := by decide +kernel
theorem dX8_value_0 : decode cX8_value 0 = .ok (.iconst 0, 1) := by decide +kernel
theorem dX8_value_1 : decode cX8_value 1 = .ok (.istore 5, 2) := by decide +kernel
theorem dX8_value_3 : decode cX8_value 3 = .ok (.iload_n 1, 1) := by decide +kernel
theorem dX8_value_4 : decode cX8_value 4 = .ok (.ifCond .ge 7, 3) := by decide +kernel
theorem dX8_value_7 : decode cX8_value 7 = .ok (.iconst 0, 1) := by decide +kernel
theorem dX8_value_8 : decode cX8_value 8 = .ok (.goto 4, 3) := by decide +kernel
theorem dX8_value_11 : decode cX8_value 11 = .ok (.iload_n 1, 1) := by decide +kernel
theorem dX8_value_12 : decode cX8_value 12 = .ok (.istore 6, 2) := by decide +kernel
theorem dX8_value_14 : decode cX8_value 14 = .ok (.iload_n 2, 1) := by decide +kernel
theorem dX8_value_15 : decode cX8_value 15 = .ok (.aload_n 0, 1) := by decide +kernel
theorem dX8_value_16 : decode cX8_value 16 = .ok (.getfield 25, 3) := by decide +kernel
theorem dX8_value_19 : decode cX8_value 19 = .ok (.if_icmp .le 10, 3) := by decide +kernel
theorem dX8_value_22 : decode cX8_value 22 = .ok (.aload_n 0, 1) := by decide +kernel
theorem dX8_value_23 : decode cX8_value 23 = .ok (.getfield 25, 3) := by decide +kernel
theorem dX8_value_26 : decode cX8_value 26 = .ok (.goto 4, 3) := by decide +kernel
theorem dX8_value_29 : decode cX8_value 29 = .ok (.iload_n 2, 1) := by decide +kernel
theorem dX8_value_30 : decode cX8_value 30 = .ok (.istore 7, 2) := by decide +kernel
theorem dX8_value_32 : decode cX8_value 32 = .ok (.iload 6, 2) := by decide +kernel
theorem dX8_value_34 : decode cX8_value 34 = .ok (.iload 7, 2) := by decide +kernel
theorem dX8_value_36 : decode cX8_value 36 = .ok (.if_icmp .ge 430, 3) := by decide +kernel
theorem dX8_value_39 : decode cX8_value 39 = .ok (.aload_n 0, 1) := by decide +kernel
theorem dX8_value_40 : decode cX8_value 40 = .ok (.getfield 13, 3) := by decide +kernel
theorem dX8_value_43 : decode cX8_value 43 = .ok (.iload 6, 2) := by decide +kernel
theorem dX8_value_45 : decode cX8_value 45 = .ok (.iaload, 1) := by decide +kernel
theorem dX8_value_46 : decode cX8_value 46 = .ok (.istore 8, 2) := by decide +kernel
theorem dX8_value_48 : decode cX8_value 48 = .ok (.aload_n 0, 1) := by decide +kernel
theorem dX8_value_49 : decode cX8_value 49 = .ok (.getfield 19, 3) := by decide +kernel
theorem dX8_value_52 : decode cX8_value 52 = .ok (.iload 6, 2) := by decide +kernel
theorem dX8_value_54 : decode cX8_value 54 = .ok (.iaload, 1) := by decide +kernel
theorem dX8_value_55 : decode cX8_value 55 = .ok (.istore 9, 2) := by decide +kernel
theorem dX8_value_57 : decode cX8_value 57 = .ok (.iinc 6 1, 3) := by decide +kernel
theorem dX8_value_60 : decode cX8_value 60 = .ok (.iload 8, 2) := by decide +kernel
theorem dX8_value_62 : decode cX8_value 62 = .ok (.ifCond .eq 9, 3) := by decide +kernel
theorem dX8_value_65 : decode cX8_value 65 = .ok (.iload 8, 2) := by decide +kernel
theorem dX8_value_67 : decode cX8_value 67 = .ok (.iconst 1, 1) := by decide +kernel
theorem dX8_value_68 : decode cX8_value 68 = .ok (.if_icmp .ne 58, 3) := by decide +kernel
theorem dX8_value_71 : decode cX8_value 71 = .ok (.iload 5, 2) := by decide +kernel
theorem dX8_value_73 : decode cX8_value 73 = .ok (.aload 4, 2) := by decide +kernel
theorem dX8_value_75 : decode cX8_value 75 = .ok (.arraylength, 1) := by decide +kernel
theorem dX8_value_76 : decode cX8_value 76 = .ok (.if_icmp .ge 21, 3) := by decide +kernel
theorem dX8_value_79 : decode cX8_value 79 = .ok (.iload 8, 2) := by decide +kernel
theorem dX8_value_81 : decode cX8_value 81 = .ok (.iconst 1, 1) := by decide +kernel
theorem dX8_value_82 : decode cX8_value 82 = .ok (.if_icmp .ne 18, 3) := by decide +kernel
theorem dX8_value_85 : decode cX8_value 85 = .ok (.iload 9, 2) := by decide +kernel
theorem dX8_value_87 : decode cX8_value 87 = .ok (.ifCond .lt 10, 3) := by decide +kernel
theorem dX8_value_90 : decode cX8_value 90 = .ok (.iload 9, 2) := by decide +kernel
theorem dX8_value_92 : decode cX8_value 92 = .ok (.aload_n 3, 1) := by decide +kernel
theorem dX8_value_93 : decode cX8_value 93 = .ok (.arraylength, 1) := by decide +kernel
theorem dX8_value_94 : decode cX8_value 94 = .ok (.if_icmp .lt 6, 3) := by decide +kernel
theorem dX8_value_97 : decode cX8_value 97 = .ok (.ldc 51, 2) := by decide +kernel
theorem dX8_value_99 : decode cX8_value 99 = .ok (.ireturn, 1) := by decide +kernel
theorem dX8_value_100 : decode cX8_value 100 = .ok (.aload 4, 2) := by decide +kernel
theorem dX8_value_102 : decode cX8_value 102 = .ok (.iload 5, 2) := by decide +kernel
theorem dX8_value_104 : decode cX8_value 104 = .ok (.iload 8, 2) := by decide +kernel
theorem dX8_value_106 : decode cX8_value 106 = .ok (.iconst 1, 1) := by decide +kernel
theorem dX8_value_107 : decode cX8_value 107 = .ok (.if_icmp .ne 10, 3) := by decide +kernel
theorem dX8_value_110 : decode cX8_value 110 = .ok (.aload_n 3, 1) := by decide +kernel
theorem dX8_value_111 : decode cX8_value 111 = .ok (.iload 9, 2) := by decide +kernel
theorem dX8_value_113 : decode cX8_value 113 = .ok (.iaload, 1) := by decide +kernel
theorem dX8_value_114 : decode cX8_value 114 = .ok (.goto 5, 3) := by decide +kernel
theorem dX8_value_117 : decode cX8_value 117 = .ok (.iload 9, 2) := by decide +kernel
theorem dX8_value_119 : decode cX8_value 119 = .ok (.iastore, 1) := by decide +kernel
theorem dX8_value_120 : decode cX8_value 120 = .ok (.iinc 5 1, 3) := by decide +kernel
theorem dX8_value_123 : decode cX8_value 123 = .ok (.goto 340, 3) := by decide +kernel
theorem dX8_value_126 : decode cX8_value 126 = .ok (.iload 5, 2) := by decide +kernel
theorem dX8_value_128 : decode cX8_value 128 = .ok (.iload 8, 2) := by decide +kernel
theorem dX8_value_130 : decode cX8_value 130 = .ok (.bipush 9, 2) := by decide +kernel
theorem dX8_value_132 : decode cX8_value 132 = .ok (.if_icmp .gt 7, 3) := by decide +kernel
theorem dX8_value_135 : decode cX8_value 135 = .ok (.iconst 2, 1) := by decide +kernel
theorem dX8_value_136 : decode cX8_value 136 = .ok (.goto 4, 3) := by decide +kernel
theorem dX8_value_139 : decode cX8_value 139 = .ok (.iconst 1, 1) := by decide +kernel
theorem dX8_value_140 : decode cX8_value 140 = .ok (.if_icmp .ge 6, 3) := by decide +kernel
theorem dX8_value_143 : decode cX8_value 143 = .ok (.ldc 51, 2) := by decide +kernel
theorem dX8_value_145 : decode cX8_value 145 = .ok (.ireturn, 1) := by decide +kernel
theorem dX8_value_146 : decode cX8_value 146 = .ok (.iload 8, 2) := by decide +kernel
theorem dX8_value_148 : decode cX8_value 148 = .ok (.bipush 10, 2) := by decide +kernel
theorem dX8_value_150 : decode cX8_value 150 = .ok (.if_icmp .ne 22, 3) := by decide +kernel
theorem dX8_value_153 : decode cX8_value 153 = .ok (.aload 4, 2) := by decide +kernel
theorem dX8_value_155 : decode cX8_value 155 = .ok (.iload 5, 2) := by decide +kernel
theorem dX8_value_157 : decode cX8_value 157 = .ok (.iconst 1, 1) := by decide +kernel
theorem dX8_value_158 : decode cX8_value 158 = .ok (.isub, 1) := by decide +kernel
theorem dX8_value_159 : decode cX8_value 159 = .ok (.iconst 1, 1) := by decide +kernel
theorem dX8_value_160 : decode cX8_value 160 = .ok (.aload 4, 2) := by decide +kernel
theorem dX8_value_162 : decode cX8_value 162 = .ok (.iload 5, 2) := by decide +kernel
theorem dX8_value_164 : decode cX8_value 164 = .ok (.iconst 1, 1) := by decide +kernel
theorem dX8_value_165 : decode cX8_value 165 = .ok (.isub, 1) := by decide +kernel
theorem dX8_value_166 : decode cX8_value 166 = .ok (.iaload, 1) := by decide +kernel
theorem dX8_value_167 : decode cX8_value 167 = .ok (.isub, 1) := by decide +kernel
theorem dX8_value_168 : decode cX8_value 168 = .ok (.iastore, 1) := by decide +kernel
theorem dX8_value_169 : decode cX8_value 169 = .ok (.goto 294, 3) := by decide +kernel
theorem dX8_value_172 : decode cX8_value 172 = .ok (.iload 8, 2) := by decide +kernel
theorem dX8_value_174 : decode cX8_value 174 = .ok (.bipush 11, 2) := by decide +kernel
theorem dX8_value_176 : decode cX8_value 176 = .ok (.if_icmp .eq 10, 3) := by decide +kernel
theorem dX8_value_179 : decode cX8_value 179 = .ok (.iload 8, 2) := by decide +kernel
theorem dX8_value_181 : decode cX8_value 181 = .ok (.bipush 12, 2) := by decide +kernel
theorem dX8_value_183 : decode cX8_value 183 = .ok (.if_icmp .ne 59, 3) := by decide +kernel
theorem dX8_value_186 : decode cX8_value 186 = .ok (.aload 4, 2) := by decide +kernel
theorem dX8_value_188 : decode cX8_value 188 = .ok (.iload 5, 2) := by decide +kernel
theorem dX8_value_190 : decode cX8_value 190 = .ok (.iconst 1, 1) := by decide +kernel
theorem dX8_value_191 : decode cX8_value 191 = .ok (.isub, 1) := by decide +kernel
theorem dX8_value_192 : decode cX8_value 192 = .ok (.iaload, 1) := by decide +kernel
theorem dX8_value_193 : decode cX8_value 193 = .ok (.iconst 1, 1) := by decide +kernel
theorem dX8_value_194 : decode cX8_value 194 = .ok (.if_icmp .ne 7, 3) := by decide +kernel
theorem dX8_value_197 : decode cX8_value 197 = .ok (.iconst 1, 1) := by decide +kernel
theorem dX8_value_198 : decode cX8_value 198 = .ok (.goto 4, 3) := by decide +kernel
theorem dX8_value_201 : decode cX8_value 201 = .ok (.iconst 0, 1) := by decide +kernel
theorem dX8_value_202 : decode cX8_value 202 = .ok (.iload 8, 2) := by decide +kernel
theorem dX8_value_204 : decode cX8_value 204 = .ok (.bipush 12, 2) := by decide +kernel
theorem dX8_value_206 : decode cX8_value 206 = .ok (.if_icmp .ne 7, 3) := by decide +kernel
theorem dX8_value_209 : decode cX8_value 209 = .ok (.iconst 1, 1) := by decide +kernel
theorem dX8_value_210 : decode cX8_value 210 = .ok (.goto 4, 3) := by decide +kernel
theorem dX8_value_213 : decode cX8_value 213 = .ok (.iconst 0, 1) := by decide +kernel
theorem dX8_value_214 : decode cX8_value 214 = .ok (.if_icmp .ne 22, 3) := by decide +kernel
theorem dX8_value_217 : decode cX8_value 217 = .ok (.iload 9, 2) := by decide +kernel
theorem dX8_value_219 : decode cX8_value 219 = .ok (.iload 6, 2) := by decide +kernel
theorem dX8_value_221 : decode cX8_value 221 = .ok (.if_icmp .le 8, 3) := by decide +kernel
theorem dX8_value_224 : decode cX8_value 224 = .ok (.iload 9, 2) := by decide +kernel
theorem dX8_value_226 : decode cX8_value 226 = .ok (.goto 5, 3) := by decide +kernel
theorem dX8_value_229 : decode cX8_value 229 = .ok (.iload 6, 2) := by decide +kernel
theorem dX8_value_231 : decode cX8_value 231 = .ok (.istore 6, 2) := by decide +kernel
theorem dX8_value_233 : decode cX8_value 233 = .ok (.goto 230, 3) := by decide +kernel
theorem dX8_value_236 : decode cX8_value 236 = .ok (.iinc 5 (-1), 3) := by decide +kernel
theorem dX8_value_239 : decode cX8_value 239 = .ok (.goto 224, 3) := by decide +kernel
theorem dX8_value_242 : decode cX8_value 242 = .ok (.aload 4, 2) := by decide +kernel
theorem dX8_value_244 : decode cX8_value 244 = .ok (.iload 5, 2) := by decide +kernel
theorem dX8_value_246 : decode cX8_value 246 = .ok (.iconst 1, 1) := by decide +kernel
theorem dX8_value_247 : decode cX8_value 247 = .ok (.isub, 1) := by decide +kernel
theorem dX8_value_248 : decode cX8_value 248 = .ok (.iaload, 1) := by decide +kernel
theorem dX8_value_249 : decode cX8_value 249 = .ok (.i2l, 1) := by decide +kernel
theorem dX8_value_250 : decode cX8_value 250 = .ok (.lstore 10, 2) := by decide +kernel
theorem dX8_value_252 : decode cX8_value 252 = .ok (.aload 4, 2) := by decide +kernel
theorem dX8_value_254 : decode cX8_value 254 = .ok (.iload 5, 2) := by decide +kernel
theorem dX8_value_256 : decode cX8_value 256 = .ok (.iconst 2, 1) := by decide +kernel
theorem dX8_value_257 : decode cX8_value 257 = .ok (.isub, 1) := by decide +kernel
theorem dX8_value_258 : decode cX8_value 258 = .ok (.iaload, 1) := by decide +kernel
theorem dX8_value_259 : decode cX8_value 259 = .ok (.i2l, 1) := by decide +kernel
theorem dX8_value_260 : decode cX8_value 260 = .ok (.lstore 12, 2) := by decide +kernel
theorem dX8_value_262 : decode cX8_value 262 = .ok (.lload 10, 2) := by decide +kernel
theorem dX8_value_264 : decode cX8_value 264 = .ok (.lconst 0, 1) := by decide +kernel
theorem dX8_value_265 : decode cX8_value 265 = .ok (.lcmp, 1) := by decide +kernel
theorem dX8_value_266 : decode cX8_value 266 = .ok (.ifCond .ne 19, 3) := by decide +kernel
theorem dX8_value_269 : decode cX8_value 269 = .ok (.iload 8, 2) := by decide +kernel
theorem dX8_value_271 : decode cX8_value 271 = .ok (.iconst 5, 1) := by decide +kernel
theorem dX8_value_272 : decode cX8_value 272 = .ok (.if_icmp .eq 10, 3) := by decide +kernel
theorem dX8_value_275 : decode cX8_value 275 = .ok (.iload 8, 2) := by decide +kernel
theorem dX8_value_277 : decode cX8_value 277 = .ok (.bipush 6, 2) := by decide +kernel
theorem dX8_value_279 : decode cX8_value 279 = .ok (.if_icmp .ne 6, 3) := by decide +kernel
theorem dX8_value_282 : decode cX8_value 282 = .ok (.ldc 51, 2) := by decide +kernel
theorem dX8_value_284 : decode cX8_value 284 = .ok (.ireturn, 1) := by decide +kernel
theorem dX8_value_285 : decode cX8_value 285 = .ok (.iload 8, 2) := by decide +kernel
theorem dX8_value_287 : decode cX8_value 287 = .ok (.tableswitch 127 2 8 #[41, 51, 61, 71, 81, 91, 109], 41) := by decide +kernel
theorem dX8_value_328 : decode cX8_value 328 = .ok (.lload 12, 2) := by decide +kernel
theorem dX8_value_330 : decode cX8_value 330 = .ok (.lload 10, 2) := by decide +kernel
theorem dX8_value_332 : decode cX8_value 332 = .ok (.ladd, 1) := by decide +kernel
theorem dX8_value_333 : decode cX8_value 333 = .ok (.lstore 14, 2) := by decide +kernel
theorem dX8_value_335 : decode cX8_value 335 = .ok (.goto 94, 3) := by decide +kernel
theorem dX8_value_338 : decode cX8_value 338 = .ok (.lload 12, 2) := by decide +kernel
theorem dX8_value_340 : decode cX8_value 340 = .ok (.lload 10, 2) := by decide +kernel
theorem dX8_value_342 : decode cX8_value 342 = .ok (.lsub, 1) := by decide +kernel
theorem dX8_value_343 : decode cX8_value 343 = .ok (.lstore 14, 2) := by decide +kernel
theorem dX8_value_345 : decode cX8_value 345 = .ok (.goto 84, 3) := by decide +kernel
theorem dX8_value_348 : decode cX8_value 348 = .ok (.lload 12, 2) := by decide +kernel
theorem dX8_value_350 : decode cX8_value 350 = .ok (.lload 10, 2) := by decide +kernel
theorem dX8_value_352 : decode cX8_value 352 = .ok (.lmul, 1) := by decide +kernel
theorem dX8_value_353 : decode cX8_value 353 = .ok (.lstore 14, 2) := by decide +kernel
theorem dX8_value_355 : decode cX8_value 355 = .ok (.goto 74, 3) := by decide +kernel
theorem dX8_value_358 : decode cX8_value 358 = .ok (.lload 12, 2) := by decide +kernel
theorem dX8_value_360 : decode cX8_value 360 = .ok (.lload 10, 2) := by decide +kernel
theorem dX8_value_362 : decode cX8_value 362 = .ok (.ldiv, 1) := by decide +kernel
theorem dX8_value_363 : decode cX8_value 363 = .ok (.lstore 14, 2) := by decide +kernel
theorem dX8_value_365 : decode cX8_value 365 = .ok (.goto 64, 3) := by decide +kernel
theorem dX8_value_368 : decode cX8_value 368 = .ok (.lload 12, 2) := by decide +kernel
theorem dX8_value_370 : decode cX8_value 370 = .ok (.lload 10, 2) := by decide +kernel
theorem dX8_value_372 : decode cX8_value 372 = .ok (.lrem, 1) := by decide +kernel
theorem dX8_value_373 : decode cX8_value 373 = .ok (.lstore 14, 2) := by decide +kernel
theorem dX8_value_375 : decode cX8_value 375 = .ok (.goto 54, 3) := by decide +kernel
theorem dX8_value_378 : decode cX8_value 378 = .ok (.lload 12, 2) := by decide +kernel
theorem dX8_value_380 : decode cX8_value 380 = .ok (.lload 10, 2) := by decide +kernel
theorem dX8_value_382 : decode cX8_value 382 = .ok (.lcmp, 1) := by decide +kernel
theorem dX8_value_383 : decode cX8_value 383 = .ok (.ifCond .ge 7, 3) := by decide +kernel
theorem dX8_value_386 : decode cX8_value 386 = .ok (.lconst 1, 1) := by decide +kernel
theorem dX8_value_387 : decode cX8_value 387 = .ok (.goto 4, 3) := by decide +kernel
theorem dX8_value_390 : decode cX8_value 390 = .ok (.lconst 0, 1) := by decide +kernel
theorem dX8_value_391 : decode cX8_value 391 = .ok (.lstore 14, 2) := by decide +kernel
theorem dX8_value_393 : decode cX8_value 393 = .ok (.goto 36, 3) := by decide +kernel
theorem dX8_value_396 : decode cX8_value 396 = .ok (.lload 12, 2) := by decide +kernel
theorem dX8_value_398 : decode cX8_value 398 = .ok (.lload 10, 2) := by decide +kernel
theorem dX8_value_400 : decode cX8_value 400 = .ok (.lcmp, 1) := by decide +kernel
theorem dX8_value_401 : decode cX8_value 401 = .ok (.ifCond .le 7, 3) := by decide +kernel
theorem dX8_value_404 : decode cX8_value 404 = .ok (.lconst 1, 1) := by decide +kernel
theorem dX8_value_405 : decode cX8_value 405 = .ok (.goto 4, 3) := by decide +kernel
theorem dX8_value_408 : decode cX8_value 408 = .ok (.lconst 0, 1) := by decide +kernel
theorem dX8_value_409 : decode cX8_value 409 = .ok (.lstore 14, 2) := by decide +kernel
theorem dX8_value_411 : decode cX8_value 411 = .ok (.goto 18, 3) := by decide +kernel
theorem dX8_value_414 : decode cX8_value 414 = .ok (.lload 12, 2) := by decide +kernel
theorem dX8_value_416 : decode cX8_value 416 = .ok (.lload 10, 2) := by decide +kernel
theorem dX8_value_418 : decode cX8_value 418 = .ok (.lcmp, 1) := by decide +kernel
theorem dX8_value_419 : decode cX8_value 419 = .ok (.ifCond .ne 7, 3) := by decide +kernel
theorem dX8_value_422 : decode cX8_value 422 = .ok (.lconst 1, 1) := by decide +kernel
theorem dX8_value_423 : decode cX8_value 423 = .ok (.goto 4, 3) := by decide +kernel
theorem dX8_value_426 : decode cX8_value 426 = .ok (.lconst 0, 1) := by decide +kernel
theorem dX8_value_427 : decode cX8_value 427 = .ok (.lstore 14, 2) := by decide +kernel
theorem dX8_value_429 : decode cX8_value 429 = .ok (.lload 14, 2) := by decide +kernel
theorem dX8_value_431 : decode cX8_value 431 = .ok (.ldc2_w 52, 3) := by decide +kernel
theorem dX8_value_434 : decode cX8_value 434 = .ok (.lcmp, 1) := by decide +kernel
theorem dX8_value_435 : decode cX8_value 435 = .ok (.ifCond .gt 12, 3) := by decide +kernel
theorem dX8_value_438 : decode cX8_value 438 = .ok (.lload 14, 2) := by decide +kernel
theorem dX8_value_440 : decode cX8_value 440 = .ok (.ldc2_w 54, 3) := by decide +kernel
theorem dX8_value_443 : decode cX8_value 443 = .ok (.lcmp, 1) := by decide +kernel
theorem dX8_value_444 : decode cX8_value 444 = .ok (.ifCond .ge 6, 3) := by decide +kernel
theorem dX8_value_447 : decode cX8_value 447 = .ok (.ldc 51, 2) := by decide +kernel
theorem dX8_value_449 : decode cX8_value 449 = .ok (.ireturn, 1) := by decide +kernel
theorem dX8_value_450 : decode cX8_value 450 = .ok (.iinc 5 (-1), 3) := by decide +kernel
theorem dX8_value_453 : decode cX8_value 453 = .ok (.aload 4, 2) := by decide +kernel
theorem dX8_value_455 : decode cX8_value 455 = .ok (.iload 5, 2) := by decide +kernel
theorem dX8_value_457 : decode cX8_value 457 = .ok (.iconst 1, 1) := by decide +kernel
theorem dX8_value_458 : decode cX8_value 458 = .ok (.isub, 1) := by decide +kernel
theorem dX8_value_459 : decode cX8_value 459 = .ok (.lload 14, 2) := by decide +kernel
theorem dX8_value_461 : decode cX8_value 461 = .ok (.l2i, 1) := by decide +kernel
theorem dX8_value_462 : decode cX8_value 462 = .ok (.iastore, 1) := by decide +kernel
theorem dX8_value_463 : decode cX8_value 463 = .ok (.goto (-431), 3) := by decide +kernel
theorem dX8_value_466 : decode cX8_value 466 = .ok (.iload 5, 2) := by decide +kernel
theorem dX8_value_468 : decode cX8_value 468 = .ok (.iconst 1, 1) := by decide +kernel
theorem dX8_value_469 : decode cX8_value 469 = .ok (.if_icmp .ne 10, 3) := by decide +kernel
theorem dX8_value_472 : decode cX8_value 472 = .ok (.aload 4, 2) := by decide +kernel
theorem dX8_value_474 : decode cX8_value 474 = .ok (.iconst 0, 1) := by decide +kernel
theorem dX8_value_475 : decode cX8_value 475 = .ok (.iaload, 1) := by decide +kernel
theorem dX8_value_476 : decode cX8_value 476 = .ok (.goto 5, 3) := by decide +kernel
theorem dX8_value_479 : decode cX8_value 479 = .ok (.ldc 51, 2) := by decide +kernel
theorem dX8_value_481 : decode cX8_value 481 = .ok (.ireturn, 1) := by decide +kernel
theorem dX8_isSo_0 : decode cX8_isSo 0 = .ok (.iload_n 1, 1) := by decide +kernel
theorem dX8_isSo_1 : decode cX8_isSo 1 = .ok (.bipush 8, 2) := by decide +kernel
theorem dX8_isSo_3 : decode cX8_isSo 3 = .ok (.imul, 1) := by decide +kernel
theorem dX8_isSo_4 : decode cX8_isSo 4 = .ok (.iconst 2, 1) := by decide +kernel
theorem dX8_isSo_5 : decode cX8_isSo 5 = .ok (.iadd, 1) := by decide +kernel
theorem dX8_isSo_6 : decode cX8_isSo 6 = .ok (.istore 4, 2) := by decide +kernel
theorem dX8_isSo_8 : decode cX8_isSo 8 = .ok (.aload_n 0, 1) := by decide +kernel
theorem dX8_isSo_9 : decode cX8_isSo 9 = .ok (.getfield 22, 3) := by decide +kernel
theorem dX8_isSo_12 : decode cX8_isSo 12 = .ok (.iload 4, 2) := by decide +kernel
theorem dX8_isSo_14 : decode cX8_isSo 14 = .ok (.iaload, 1) := by decide +kernel
theorem dX8_isSo_15 : decode cX8_isSo 15 = .ok (.aload_n 0, 1) := by decide +kernel
theorem dX8_isSo_16 : decode cX8_isSo 16 = .ok (.getfield 22, 3) := by decide +kernel
theorem dX8_isSo_19 : decode cX8_isSo 19 = .ok (.iload 4, 2) := by decide +kernel
theorem dX8_isSo_21 : decode cX8_isSo 21 = .ok (.iconst 1, 1) := by decide +kernel
theorem dX8_isSo_22 : decode cX8_isSo 22 = .ok (.iadd, 1) := by decide +kernel
theorem dX8_isSo_23 : decode cX8_isSo 23 = .ok (.iaload, 1) := by decide +kernel
theorem dX8_isSo_24 : decode cX8_isSo 24 = .ok (.if_icmp .lt 5, 3) := by decide +kernel
theorem dX8_isSo_27 : decode cX8_isSo 27 = .ok (.iconst 1, 1) := by decide +kernel
theorem dX8_isSo_28 : decode cX8_isSo 28 = .ok (.ireturn, 1) := by decide +kernel
theorem dX8_isSo_29 : decode cX8_isSo 29 = .ok (.aload_n 0, 1) := by decide +kernel
theorem dX8_isSo_30 : decode cX8_isSo 30 = .ok (.aload_n 0, 1) := by decide +kernel
theorem dX8_isSo_31 : decode cX8_isSo 31 = .ok (.getfield 22, 3) := by decide +kernel
theorem dX8_isSo_34 : decode cX8_isSo 34 = .ok (.iload 4, 2) := by decide +kernel
theorem dX8_isSo_36 : decode cX8_isSo 36 = .ok (.iaload, 1) := by decide +kernel
theorem dX8_isSo_37 : decode cX8_isSo 37 = .ok (.aload_n 0, 1) := by decide +kernel
theorem dX8_isSo_38 : decode cX8_isSo 38 = .ok (.getfield 22, 3) := by decide +kernel
theorem dX8_isSo_41 : decode cX8_isSo 41 = .ok (.iload 4, 2) := by decide +kernel
theorem dX8_isSo_43 : decode cX8_isSo 43 = .ok (.iconst 1, 1) := by decide +kernel
theorem dX8_isSo_44 : decode cX8_isSo 44 = .ok (.iadd, 1) := by decide +kernel
theorem dX8_isSo_45 : decode cX8_isSo 45 = .ok (.iaload, 1) := by decide +kernel
theorem dX8_isSo_46 : decode cX8_isSo 46 = .ok (.aload_n 2, 1) := by decide +kernel
theorem dX8_isSo_47 : decode cX8_isSo 47 = .ok (.aload_n 3, 1) := by decide +kernel
theorem dX8_isSo_48 : decode cX8_isSo 48 = .ok (.invokevirtual 47, 3) := by decide +kernel
theorem dX8_isSo_51 : decode cX8_isSo 51 = .ok (.iconst 1, 1) := by decide +kernel
theorem dX8_isSo_52 : decode cX8_isSo 52 = .ok (.if_icmp .ne 7, 3) := by decide +kernel
theorem dX8_isSo_55 : decode cX8_isSo 55 = .ok (.iconst 1, 1) := by decide +kernel
theorem dX8_isSo_56 : decode cX8_isSo 56 = .ok (.goto 4, 3) := by decide +kernel
theorem dX8_isSo_59 : decode cX8_isSo 59 = .ok (.iconst 0, 1) := by decide +kernel
theorem dX8_isSo_60 : decode cX8_isSo 60 = .ok (.ireturn, 1) := by decide +kernel
theorem dX8_part_0 : decode cX8_part 0 = .ok (.aload_n 0, 1) := by decide +kernel
theorem dX8_part_1 : decode cX8_part 1 = .ok (.getfield 22, 3) := by decide +kernel
theorem dX8_part_4 : decode cX8_part 4 = .ok (.iload_n 1, 1) := by decide +kernel
theorem dX8_part_5 : decode cX8_part 5 = .ok (.bipush 8, 2) := by decide +kernel
theorem dX8_part_7 : decode cX8_part 7 = .ok (.imul, 1) := by decide +kernel
theorem dX8_part_8 : decode cX8_part 8 = .ok (.iload_n 2, 1) := by decide +kernel
theorem dX8_part_9 : decode cX8_part 9 = .ok (.iadd, 1) := by decide +kernel
theorem dX8_part_10 : decode cX8_part 10 = .ok (.iaload, 1) := by decide +kernel
theorem dX8_part_11 : decode cX8_part 11 = .ok (.ireturn, 1) := by decide +kernel
theorem dX8_sum_0 : decode cX8_sum 0 = .ok (.iload_n 1, 1) := by decide +kernel
theorem dX8_sum_1 : decode cX8_sum 1 = .ok (.bipush 8, 2) := by decide +kernel
theorem dX8_sum_3 : decode cX8_sum 3 = .ok (.imul, 1) := by decide +kernel
theorem dX8_sum_4 : decode cX8_sum 4 = .ok (.iload_n 2, 1) := by decide +kernel
theorem dX8_sum_5 : decode cX8_sum 5 = .ok (.iadd, 1) := by decide +kernel
theorem dX8_sum_6 : decode cX8_sum 6 = .ok (.istore 5, 2) := by decide +kernel
theorem dX8_sum_8 : decode cX8_sum 8 = .ok (.aload_n 0, 1) := by decide +kernel
theorem dX8_sum_9 : decode cX8_sum 9 = .ok (.aload_n 0, 1) := by decide +kernel
theorem dX8_sum_10 : decode cX8_sum 10 = .ok (.getfield 22, 3) := by decide +kernel
theorem dX8_sum_13 : decode cX8_sum 13 = .ok (.iload 5, 2) := by decide +kernel
theorem dX8_sum_15 : decode cX8_sum 15 = .ok (.iaload, 1) := by decide +kernel
theorem dX8_sum_16 : decode cX8_sum 16 = .ok (.aload_n 0, 1) := by decide +kernel
theorem dX8_sum_17 : decode cX8_sum 17 = .ok (.getfield 22, 3) := by decide +kernel
theorem dX8_sum_20 : decode cX8_sum 20 = .ok (.iload 5, 2) := by decide +kernel
theorem dX8_sum_22 : decode cX8_sum 22 = .ok (.iconst 1, 1) := by decide +kernel
theorem dX8_sum_23 : decode cX8_sum 23 = .ok (.iadd, 1) := by decide +kernel
theorem dX8_sum_24 : decode cX8_sum 24 = .ok (.iaload, 1) := by decide +kernel
theorem dX8_sum_25 : decode cX8_sum 25 = .ok (.aload_n 3, 1) := by decide +kernel
theorem dX8_sum_26 : decode cX8_sum 26 = .ok (.aload 4, 2) := by decide +kernel
theorem dX8_sum_28 : decode cX8_sum 28 = .ok (.invokevirtual 47, 3) := by decide +kernel
theorem dX8_sum_31 : decode cX8_sum 31 = .ok (.ireturn, 1) := by decide +kernel
theorem dX2_told_0 : decode cX2_told 0 = .ok (.aload_n 1, 1) := by decide +kernel
theorem dX2_told_1 : decode cX2_told 1 = .ok (.ifnonnull 5, 3) := by decide +kernel
theorem dX2_told_4 : decode cX2_told 4 = .ok (.iload_n 3, 1) := by decide +kernel
theorem dX2_told_5 : decode cX2_told 5 = .ok (.ireturn, 1) := by decide +kernel
theorem dX2_told_6 : decode cX2_told 6 = .ok (.aload_n 1, 1) := by decide +kernel
theorem dX2_told_7 : decode cX2_told 7 = .ok (.invokevirtual 47, 3) := by decide +kernel
theorem dX2_told_10 : decode cX2_told 10 = .ok (.iconst 1, 1) := by decide +kernel
theorem dX2_told_11 : decode cX2_told 11 = .ok (.isub, 1) := by decide +kernel
theorem dX2_told_12 : decode cX2_told 12 = .ok (.istore 5, 2) := by decide +kernel
theorem dX2_told_14 : decode cX2_told 14 = .ok (.iload 5, 2) := by decide +kernel
theorem dX2_told_16 : decode cX2_told 16 = .ok (.ifCond .lt 73, 3) := by decide +kernel
theorem dX2_told_19 : decode cX2_told 19 = .ok (.aload_n 1, 1) := by decide +kernel
theorem dX2_told_20 : decode cX2_told 20 = .ok (.iload 5, 2) := by decide +kernel
theorem dX2_told_22 : decode cX2_told 22 = .ok (.iconst 0, 1) := by decide +kernel
theorem dX2_told_23 : decode cX2_told 23 = .ok (.invokevirtual 51, 3) := by decide +kernel
theorem dX2_told_26 : decode cX2_told 26 = .ok (.iload_n 2, 1) := by decide +kernel
theorem dX2_told_27 : decode cX2_told 27 = .ok (.if_icmp .ne 56, 3) := by decide +kernel
theorem dX2_told_30 : decode cX2_told 30 = .ok (.aload_n 1, 1) := by decide +kernel
theorem dX2_told_31 : decode cX2_told 31 = .ok (.iload 5, 2) := by decide +kernel
theorem dX2_told_33 : decode cX2_told 33 = .ok (.aload_n 0, 1) := by decide +kernel
theorem dX2_told_34 : decode cX2_told 34 = .ok (.getfield 11, 3) := by decide +kernel
theorem dX2_told_37 : decode cX2_told 37 = .ok (.aload_n 0, 1) := by decide +kernel
theorem dX2_told_38 : decode cX2_told 38 = .ok (.getfield 17, 3) := by decide +kernel
theorem dX2_told_41 : decode cX2_told 41 = .ok (.invokevirtual 54, 3) := by decide +kernel
theorem dX2_told_44 : decode cX2_told 44 = .ok (.ifCond .eq 39, 3) := by decide +kernel
theorem dX2_told_47 : decode cX2_told 47 = .ok (.aload_n 1, 1) := by decide +kernel
theorem dX2_told_48 : decode cX2_told 48 = .ok (.iload 5, 2) := by decide +kernel
theorem dX2_told_50 : decode cX2_told 50 = .ok (.iconst 4, 1) := by decide +kernel
theorem dX2_told_51 : decode cX2_told 51 = .ok (.aload_n 0, 1) := by decide +kernel
theorem dX2_told_52 : decode cX2_told 52 = .ok (.getfield 11, 3) := by decide +kernel
theorem dX2_told_55 : decode cX2_told 55 = .ok (.aload_n 0, 1) := by decide +kernel
theorem dX2_told_56 : decode cX2_told 56 = .ok (.getfield 17, 3) := by decide +kernel
theorem dX2_told_59 : decode cX2_told 59 = .ok (.invokevirtual 61, 3) := by decide +kernel
theorem dX2_told_62 : decode cX2_told 62 = .ok (.istore 6, 2) := by decide +kernel
theorem dX2_told_64 : decode cX2_told 64 = .ok (.iload 6, 2) := by decide +kernel
theorem dX2_told_66 : decode cX2_told 66 = .ok (.ldc 65, 2) := by decide +kernel
theorem dX2_told_68 : decode cX2_told 68 = .ok (.if_icmp .eq 15, 3) := by decide +kernel
theorem dX2_told_71 : decode cX2_told 71 = .ok (.iconst 0, 1) := by decide +kernel
theorem dX2_told_72 : decode cX2_told 72 = .ok (.iload 4, 2) := by decide +kernel
theorem dX2_told_74 : decode cX2_told 74 = .ok (.iload 6, 2) := by decide +kernel
theorem dX2_told_76 : decode cX2_told 76 = .ok (.invokestatic 66, 3) := by decide +kernel
theorem dX2_told_79 : decode cX2_told 79 = .ok (.invokestatic 71, 3) := by decide +kernel
theorem dX2_told_82 : decode cX2_told 82 = .ok (.ireturn, 1) := by decide +kernel
theorem dX2_told_83 : decode cX2_told 83 = .ok (.iinc 5 (-1), 3) := by decide +kernel
theorem dX2_told_86 : decode cX2_told 86 = .ok (.goto (-72), 3) := by decide +kernel
theorem dX2_told_89 : decode cX2_told 89 = .ok (.iload_n 3, 1) := by decide +kernel
theorem dX2_told_90 : decode cX2_told 90 = .ok (.ireturn, 1) := by decide +kernel
theorem dX2_worth_0 : decode cX2_worth 0 = .ok (.aload_n 0, 1) := by decide +kernel
theorem dX2_worth_1 : decode cX2_worth 1 = .ok (.aload_n 1, 1) := by decide +kernel
theorem dX2_worth_2 : decode cX2_worth 2 = .ok (.iload_n 2, 1) := by decide +kernel
theorem dX2_worth_3 : decode cX2_worth 3 = .ok (.aload_n 1, 1) := by decide +kernel
theorem dX2_worth_4 : decode cX2_worth 4 = .ok (.iconst 0, 1) := by decide +kernel
theorem dX2_worth_5 : decode cX2_worth 5 = .ok (.invokevirtual 25, 3) := by decide +kernel
theorem dX2_worth_8 : decode cX2_worth 8 = .ok (.invokevirtual 29, 3) := by decide +kernel
theorem dX2_worth_11 : decode cX2_worth 11 = .ok (.aload_n 0, 1) := by decide +kernel
theorem dX2_worth_12 : decode cX2_worth 12 = .ok (.getfield 11, 3) := by decide +kernel
theorem dX2_worth_15 : decode cX2_worth 15 = .ok (.iconst 4, 1) := by decide +kernel
theorem dX2_worth_16 : decode cX2_worth 16 = .ok (.iload_n 3, 1) := by decide +kernel
theorem dX2_worth_17 : decode cX2_worth 17 = .ok (.iastore, 1) := by decide +kernel
theorem dX2_worth_18 : decode cX2_worth 18 = .ok (.aload_n 0, 1) := by decide +kernel
theorem dX2_worth_19 : decode cX2_worth 19 = .ok (.getfield 11, 3) := by decide +kernel
theorem dX2_worth_22 : decode cX2_worth 22 = .ok (.iconst 5, 1) := by decide +kernel
theorem dX2_worth_23 : decode cX2_worth 23 = .ok (.iload 4, 2) := by decide +kernel
theorem dX2_worth_25 : decode cX2_worth 25 = .ok (.iastore, 1) := by decide +kernel
theorem dX2_worth_26 : decode cX2_worth 26 = .ok (.aload_n 0, 1) := by decide +kernel
theorem dX2_worth_27 : decode cX2_worth 27 = .ok (.aload_n 1, 1) := by decide +kernel
theorem dX2_worth_28 : decode cX2_worth 28 = .ok (.invokevirtual 33, 3) := by decide +kernel
theorem dX2_worth_31 : decode cX2_worth 31 = .ok (.sipush 256, 3) := by decide +kernel
theorem dX2_worth_34 : decode cX2_worth 34 = .ok (.aload_n 1, 1) := by decide +kernel
theorem dX2_worth_35 : decode cX2_worth 35 = .ok (.iload_n 2, 1) := by decide +kernel
theorem dX2_worth_36 : decode cX2_worth 36 = .ok (.iconst 2, 1) := by decide +kernel
theorem dX2_worth_37 : decode cX2_worth 37 = .ok (.invokevirtual 39, 3) := by decide +kernel
theorem dX2_worth_40 : decode cX2_worth 40 = .ok (.sipush 999, 3) := by decide +kernel
theorem dX2_worth_43 : decode cX2_worth 43 = .ok (.invokevirtual 43, 3) := by decide +kernel
theorem dX2_worth_46 : decode cX2_worth 46 = .ok (.ireturn, 1) := by decide +kernel
theorem dX0_hand_0 : decode cX0_hand 0 = .ok (.aload_n 1, 1) := by decide +kernel
theorem dX0_hand_1 : decode cX0_hand 1 = .ok (.iload_n 2, 1) := by decide +kernel
theorem dX0_hand_2 : decode cX0_hand 2 = .ok (.iconst 0, 1) := by decide +kernel
theorem dX0_hand_3 : decode cX0_hand 3 = .ok (.invokevirtual 26, 3) := by decide +kernel
theorem dX0_hand_6 : decode cX0_hand 6 = .ok (.istore 4, 2) := by decide +kernel
theorem dX0_hand_8 : decode cX0_hand 8 = .ok (.aload_n 0, 1) := by decide +kernel
theorem dX0_hand_9 : decode cX0_hand 9 = .ok (.getfield 22, 3) := by decide +kernel
theorem dX0_hand_12 : decode cX0_hand 12 = .ok (.aload_n 1, 1) := by decide +kernel
theorem dX0_hand_13 : decode cX0_hand 13 = .ok (.iload_n 2, 1) := by decide +kernel
theorem dX0_hand_14 : decode cX0_hand 14 = .ok (.iload 4, 2) := by decide +kernel
theorem dX0_hand_16 : decode cX0_hand 16 = .ok (.iload_n 3, 1) := by decide +kernel
theorem dX0_hand_17 : decode cX0_hand 17 = .ok (.invokevirtual 40, 3) := by decide +kernel
theorem dX0_hand_20 : decode cX0_hand 20 = .ok (.istore 5, 2) := by decide +kernel
theorem dX0_hand_22 : decode cX0_hand 22 = .ok (.aload_n 1, 1) := by decide +kernel
theorem dX0_hand_23 : decode cX0_hand 23 = .ok (.iload_n 2, 1) := by decide +kernel
theorem dX0_hand_24 : decode cX0_hand 24 = .ok (.iconst 0, 1) := by decide +kernel
theorem dX0_hand_25 : decode cX0_hand 25 = .ok (.iload_n 3, 1) := by decide +kernel
theorem dX0_hand_26 : decode cX0_hand 26 = .ok (.invokevirtual 44, 3) := by decide +kernel
theorem dX0_hand_29 : decode cX0_hand 29 = .ok (.aload_n 1, 1) := by decide +kernel
theorem dX0_hand_30 : decode cX0_hand 30 = .ok (.iload_n 2, 1) := by decide +kernel
theorem dX0_hand_31 : decode cX0_hand 31 = .ok (.iconst 4, 1) := by decide +kernel
theorem dX0_hand_32 : decode cX0_hand 32 = .ok (.aload_n 1, 1) := by decide +kernel
theorem dX0_hand_33 : decode cX0_hand 33 = .ok (.iload_n 2, 1) := by decide +kernel
theorem dX0_hand_34 : decode cX0_hand 34 = .ok (.iconst 4, 1) := by decide +kernel
theorem dX0_hand_35 : decode cX0_hand 35 = .ok (.invokevirtual 26, 3) := by decide +kernel
theorem dX0_hand_38 : decode cX0_hand 38 = .ok (.iconst 1, 1) := by decide +kernel
theorem dX0_hand_39 : decode cX0_hand 39 = .ok (.iadd, 1) := by decide +kernel
theorem dX0_hand_40 : decode cX0_hand 40 = .ok (.invokevirtual 44, 3) := by decide +kernel
theorem dX0_hand_43 : decode cX0_hand 43 = .ok (.aload_n 1, 1) := by decide +kernel
theorem dX0_hand_44 : decode cX0_hand 44 = .ok (.iload_n 2, 1) := by decide +kernel
theorem dX0_hand_45 : decode cX0_hand 45 = .ok (.iconst 1, 1) := by decide +kernel
theorem dX0_hand_46 : decode cX0_hand 46 = .ok (.invokevirtual 26, 3) := by decide +kernel
theorem dX0_hand_49 : decode cX0_hand 49 = .ok (.iload 4, 2) := by decide +kernel
theorem dX0_hand_51 : decode cX0_hand 51 = .ok (.if_icmp .eq 13, 3) := by decide +kernel
theorem dX0_hand_54 : decode cX0_hand 54 = .ok (.aload_n 1, 1) := by decide +kernel
theorem dX0_hand_55 : decode cX0_hand 55 = .ok (.iload 4, 2) := by decide +kernel
theorem dX0_hand_57 : decode cX0_hand 57 = .ok (.iconst 3, 1) := by decide +kernel
theorem dX0_hand_58 : decode cX0_hand 58 = .ok (.invokevirtual 48, 3) := by decide +kernel
theorem dX0_hand_61 : decode cX0_hand 61 = .ok (.goto 12, 3) := by decide +kernel
theorem dX0_hand_64 : decode cX0_hand 64 = .ok (.aload_n 1, 1) := by decide +kernel
theorem dX0_hand_65 : decode cX0_hand 65 = .ok (.iload 4, 2) := by decide +kernel
theorem dX0_hand_67 : decode cX0_hand 67 = .ok (.iload_n 3, 1) := by decide +kernel
theorem dX0_hand_68 : decode cX0_hand 68 = .ok (.iload 5, 2) := by decide +kernel
theorem dX0_hand_70 : decode cX0_hand 70 = .ok (.invokestatic 52, 3) := by decide +kernel
theorem dX0_hand_73 : decode cX0_hand 73 = .ok (.iload 5, 2) := by decide +kernel
theorem dX0_hand_75 : decode cX0_hand 75 = .ok (.ireturn, 1) := by decide +kernel
theorem dX0_latestDrawn_0 : decode cX0_latestDrawn 0 = .ok (.aload_n 0, 1) := by decide +kernel
theorem dX0_latestDrawn_1 : decode cX0_latestDrawn 1 = .ok (.getfield 12, 3) := by decide +kernel
theorem dX0_latestDrawn_4 : decode cX0_latestDrawn 4 = .ok (.areturn, 1) := by decide +kernel
theorem dX0_loseOld_0 : decode cX0_loseOld 0 = .ok (.iconst 0, 1) := by decide +kernel
theorem dX0_loseOld_1 : decode cX0_loseOld 1 = .ok (.istore_n 2, 1) := by decide +kernel
theorem dX0_loseOld_2 : decode cX0_loseOld 2 = .ok (.iload_n 2, 1) := by decide +kernel
theorem dX0_loseOld_3 : decode cX0_loseOld 3 = .ok (.aload_n 0, 1) := by decide +kernel
theorem dX0_loseOld_4 : decode cX0_loseOld 4 = .ok (.iconst 0, 1) := by decide +kernel
theorem dX0_loseOld_5 : decode cX0_loseOld 5 = .ok (.invokevirtual 81, 3) := by decide +kernel
theorem dX0_loseOld_8 : decode cX0_loseOld 8 = .ok (.if_icmp .ge 64, 3) := by decide +kernel
theorem dX0_loseOld_11 : decode cX0_loseOld 11 = .ok (.iconst 0, 1) := by decide +kernel
theorem dX0_loseOld_12 : decode cX0_loseOld 12 = .ok (.istore_n 3, 1) := by decide +kernel
theorem dX0_loseOld_13 : decode cX0_loseOld 13 = .ok (.iload_n 3, 1) := by decide +kernel
theorem dX0_loseOld_14 : decode cX0_loseOld 14 = .ok (.aload_n 0, 1) := by decide +kernel
theorem dX0_loseOld_15 : decode cX0_loseOld 15 = .ok (.iconst 0, 1) := by decide +kernel
theorem dX0_loseOld_16 : decode cX0_loseOld 16 = .ok (.invokevirtual 81, 3) := by decide +kernel
theorem dX0_loseOld_19 : decode cX0_loseOld 19 = .ok (.if_icmp .ge 47, 3) := by decide +kernel
theorem dX0_loseOld_22 : decode cX0_loseOld 22 = .ok (.aload_n 0, 1) := by decide +kernel
theorem dX0_loseOld_23 : decode cX0_loseOld 23 = .ok (.iload_n 2, 1) := by decide +kernel
theorem dX0_loseOld_24 : decode cX0_loseOld 24 = .ok (.iload_n 3, 1) := by decide +kernel
theorem dX0_loseOld_25 : decode cX0_loseOld 25 = .ok (.invokevirtual 56, 3) := by decide +kernel
theorem dX0_loseOld_28 : decode cX0_loseOld 28 = .ok (.iconst (-1), 1) := by decide +kernel
theorem dX0_loseOld_29 : decode cX0_loseOld 29 = .ok (.if_icmp .eq 31, 3) := by decide +kernel
theorem dX0_loseOld_32 : decode cX0_loseOld 32 = .ok (.aload_n 0, 1) := by decide +kernel
theorem dX0_loseOld_33 : decode cX0_loseOld 33 = .ok (.iload_n 2, 1) := by decide +kernel
theorem dX0_loseOld_34 : decode cX0_loseOld 34 = .ok (.iload_n 3, 1) := by decide +kernel
theorem dX0_loseOld_35 : decode cX0_loseOld 35 = .ok (.invokevirtual 75, 3) := by decide +kernel
theorem dX0_loseOld_38 : decode cX0_loseOld 38 = .ok (.iload_n 1, 1) := by decide +kernel
theorem dX0_loseOld_39 : decode cX0_loseOld 39 = .ok (.if_icmp .gt 21, 3) := by decide +kernel
theorem dX0_loseOld_42 : decode cX0_loseOld 42 = .ok (.aload_n 0, 1) := by decide +kernel
theorem dX0_loseOld_43 : decode cX0_loseOld 43 = .ok (.iload_n 2, 1) := by decide +kernel
theorem dX0_loseOld_44 : decode cX0_loseOld 44 = .ok (.iconst 4, 1) := by decide +kernel
theorem dX0_loseOld_45 : decode cX0_loseOld 45 = .ok (.invokevirtual 48, 3) := by decide +kernel
theorem dX0_loseOld_48 : decode cX0_loseOld 48 = .ok (.aload_n 0, 1) := by decide +kernel
theorem dX0_loseOld_49 : decode cX0_loseOld 49 = .ok (.iload_n 3, 1) := by decide +kernel
theorem dX0_loseOld_50 : decode cX0_loseOld 50 = .ok (.iconst 5, 1) := by decide +kernel
theorem dX0_loseOld_51 : decode cX0_loseOld 51 = .ok (.invokevirtual 48, 3) := by decide +kernel
theorem dX0_loseOld_54 : decode cX0_loseOld 54 = .ok (.aload_n 0, 1) := by decide +kernel
theorem dX0_loseOld_55 : decode cX0_loseOld 55 = .ok (.iload_n 2, 1) := by decide +kernel
theorem dX0_loseOld_56 : decode cX0_loseOld 56 = .ok (.iload_n 3, 1) := by decide +kernel
theorem dX0_loseOld_57 : decode cX0_loseOld 57 = .ok (.invokevirtual 59, 3) := by decide +kernel
theorem dX0_loseOld_60 : decode cX0_loseOld 60 = .ok (.iinc 3 1, 3) := by decide +kernel
theorem dX0_loseOld_63 : decode cX0_loseOld 63 = .ok (.goto (-50), 3) := by decide +kernel
theorem dX0_loseOld_66 : decode cX0_loseOld 66 = .ok (.iinc 2 1, 3) := by decide +kernel
theorem dX0_loseOld_69 : decode cX0_loseOld 69 = .ok (.goto (-67), 3) := by decide +kernel
theorem dX0_loseOld_72 : decode cX0_loseOld 72 = .ok (.return_, 1) := by decide +kernel
theorem dX10_isRuined_0 : decode cX10_isRuined 0 = .ok (.aload_n 0, 1) := by decide +kernel
theorem dX10_isRuined_1 : decode cX10_isRuined 1 = .ok (.getfield 11, 3) := by decide +kernel
theorem dX10_isRuined_4 : decode cX10_isRuined 4 = .ok (.iconst 3, 1) := by decide +kernel
theorem dX10_isRuined_5 : decode cX10_isRuined 5 = .ok (.iload_n 1, 1) := by decide +kernel
theorem dX10_isRuined_6 : decode cX10_isRuined 6 = .ok (.bipush 6, 2) := by decide +kernel
theorem dX10_isRuined_8 : decode cX10_isRuined 8 = .ok (.imul, 1) := by decide +kernel
theorem dX10_isRuined_9 : decode cX10_isRuined 9 = .ok (.iadd, 1) := by decide +kernel
theorem dX10_isRuined_10 : decode cX10_isRuined 10 = .ok (.iconst 2, 1) := by decide +kernel
theorem dX10_isRuined_11 : decode cX10_isRuined 11 = .ok (.iadd, 1) := by decide +kernel
theorem dX10_isRuined_12 : decode cX10_isRuined 12 = .ok (.iaload, 1) := by decide +kernel
theorem dX10_isRuined_13 : decode cX10_isRuined 13 = .ok (.ifCond .eq 7, 3) := by decide +kernel
theorem dX10_isRuined_16 : decode cX10_isRuined 16 = .ok (.iconst 1, 1) := by decide +kernel
theorem dX10_isRuined_17 : decode cX10_isRuined 17 = .ok (.goto 4, 3) := by decide +kernel
theorem dX10_isRuined_20 : decode cX10_isRuined 20 = .ok (.iconst 0, 1) := by decide +kernel
theorem dX10_isRuined_21 : decode cX10_isRuined 21 = .ok (.ireturn, 1) := by decide +kernel
theorem dX2_bars_0 : decode cX2_bars 0 = .ok (.aload_n 1, 1) := by decide +kernel
theorem dX2_bars_1 : decode cX2_bars 1 = .ok (.invokevirtual 33, 3) := by decide +kernel
theorem dX2_bars_4 : decode cX2_bars 4 = .ok (.astore 5, 2) := by decide +kernel
theorem dX2_bars_6 : decode cX2_bars 6 = .ok (.aload 5, 2) := by decide +kernel
theorem dX2_bars_8 : decode cX2_bars 8 = .ok (.ifnonnull 5, 3) := by decide +kernel
theorem dX2_bars_11 : decode cX2_bars 11 = .ok (.iconst 0, 1) := by decide +kernel
theorem dX2_bars_12 : decode cX2_bars 12 = .ok (.ireturn, 1) := by decide +kernel
theorem dX2_bars_13 : decode cX2_bars 13 = .ok (.aload_n 0, 1) := by decide +kernel
theorem dX2_bars_14 : decode cX2_bars 14 = .ok (.aload_n 1, 1) := by decide +kernel
theorem dX2_bars_15 : decode cX2_bars 15 = .ok (.iload_n 2, 1) := by decide +kernel
theorem dX2_bars_16 : decode cX2_bars 16 = .ok (.aload_n 1, 1) := by decide +kernel
theorem dX2_bars_17 : decode cX2_bars 17 = .ok (.iconst 0, 1) := by decide +kernel
theorem dX2_bars_18 : decode cX2_bars 18 = .ok (.invokevirtual 25, 3) := by decide +kernel
theorem dX2_bars_21 : decode cX2_bars 21 = .ok (.invokevirtual 29, 3) := by decide +kernel
theorem dX2_bars_24 : decode cX2_bars 24 = .ok (.aload_n 0, 1) := by decide +kernel
theorem dX2_bars_25 : decode cX2_bars 25 = .ok (.getfield 11, 3) := by decide +kernel
theorem dX2_bars_28 : decode cX2_bars 28 = .ok (.iconst 4, 1) := by decide +kernel
theorem dX2_bars_29 : decode cX2_bars 29 = .ok (.iload_n 3, 1) := by decide +kernel
theorem dX2_bars_30 : decode cX2_bars 30 = .ok (.iastore, 1) := by decide +kernel
theorem dX2_bars_31 : decode cX2_bars 31 = .ok (.aload_n 0, 1) := by decide +kernel
theorem dX2_bars_32 : decode cX2_bars 32 = .ok (.getfield 11, 3) := by decide +kernel
theorem dX2_bars_35 : decode cX2_bars 35 = .ok (.iconst 5, 1) := by decide +kernel
theorem dX2_bars_36 : decode cX2_bars 36 = .ok (.iload 4, 2) := by decide +kernel
theorem dX2_bars_38 : decode cX2_bars 38 = .ok (.iastore, 1) := by decide +kernel
theorem dX2_bars_39 : decode cX2_bars 39 = .ok (.iconst 0, 1) := by decide +kernel
theorem dX2_bars_40 : decode cX2_bars 40 = .ok (.istore 6, 2) := by decide +kernel
theorem dX2_bars_42 : decode cX2_bars 42 = .ok (.iload 6, 2) := by decide +kernel
theorem dX2_bars_44 : decode cX2_bars 44 = .ok (.aload 5, 2) := by decide +kernel
theorem dX2_bars_46 : decode cX2_bars 46 = .ok (.invokevirtual 47, 3) := by decide +kernel
theorem dX2_bars_49 : decode cX2_bars 49 = .ok (.if_icmp .ge 43, 3) := by decide +kernel
theorem dX2_bars_52 : decode cX2_bars 52 = .ok (.aload 5, 2) := by decide +kernel
theorem dX2_bars_54 : decode cX2_bars 54 = .ok (.iload 6, 2) := by decide +kernel
theorem dX2_bars_56 : decode cX2_bars 56 = .ok (.iconst 0, 1) := by decide +kernel
theorem dX2_bars_57 : decode cX2_bars 57 = .ok (.invokevirtual 51, 3) := by decide +kernel
theorem dX2_bars_60 : decode cX2_bars 60 = .ok (.sipush 258, 3) := by decide +kernel
theorem dX2_bars_63 : decode cX2_bars 63 = .ok (.if_icmp .ne 23, 3) := by decide +kernel
theorem dX2_bars_66 : decode cX2_bars 66 = .ok (.aload 5, 2) := by decide +kernel
theorem dX2_bars_68 : decode cX2_bars 68 = .ok (.iload 6, 2) := by decide +kernel
theorem dX2_bars_70 : decode cX2_bars 70 = .ok (.aload_n 0, 1) := by decide +kernel
theorem dX2_bars_71 : decode cX2_bars 71 = .ok (.getfield 11, 3) := by decide +kernel
theorem dX2_bars_74 : decode cX2_bars 74 = .ok (.aload_n 0, 1) := by decide +kernel
theorem dX2_bars_75 : decode cX2_bars 75 = .ok (.getfield 17, 3) := by decide +kernel
theorem dX2_bars_78 : decode cX2_bars 78 = .ok (.invokevirtual 54, 3) := by decide +kernel
theorem dX2_bars_81 : decode cX2_bars 81 = .ok (.ifCond .eq 5, 3) := by decide +kernel
theorem dX2_bars_84 : decode cX2_bars 84 = .ok (.iconst 1, 1) := by decide +kernel
theorem dX2_bars_85 : decode cX2_bars 85 = .ok (.ireturn, 1) := by decide +kernel
theorem dX2_bars_86 : decode cX2_bars 86 = .ok (.iinc 6 1, 3) := by decide +kernel
theorem dX2_bars_89 : decode cX2_bars 89 = .ok (.goto (-47), 3) := by decide +kernel
theorem dX2_bars_92 : decode cX2_bars 92 = .ok (.iconst 0, 1) := by decide +kernel
theorem dX2_bars_93 : decode cX2_bars 93 = .ok (.ireturn, 1) := by decide +kernel
theorem dX0_mayGive_0 : decode cX0_mayGive 0 = .ok (.aload_n 1, 1) := by decide +kernel
theorem dX0_mayGive_1 : decode cX0_mayGive 1 = .ok (.iload_n 2, 1) := by decide +kernel
theorem dX0_mayGive_2 : decode cX0_mayGive 2 = .ok (.iconst 0, 1) := by decide +kernel
theorem dX0_mayGive_3 : decode cX0_mayGive 3 = .ok (.invokevirtual 26, 3) := by decide +kernel
theorem dX0_mayGive_6 : decode cX0_mayGive 6 = .ok (.istore 4, 2) := by decide +kernel
theorem dX0_mayGive_8 : decode cX0_mayGive 8 = .ok (.iload 4, 2) := by decide +kernel
theorem dX0_mayGive_10 : decode cX0_mayGive 10 = .ok (.iload_n 3, 1) := by decide +kernel
theorem dX0_mayGive_11 : decode cX0_mayGive 11 = .ok (.if_icmp .eq 39, 3) := by decide +kernel
theorem dX0_mayGive_14 : decode cX0_mayGive 14 = .ok (.aload_n 1, 1) := by decide +kernel
theorem dX0_mayGive_15 : decode cX0_mayGive 15 = .ok (.iload 4, 2) := by decide +kernel
theorem dX0_mayGive_17 : decode cX0_mayGive 17 = .ok (.invokevirtual 30, 3) := by decide +kernel
theorem dX0_mayGive_20 : decode cX0_mayGive 20 = .ok (.ifCond .ne 30, 3) := by decide +kernel
theorem dX0_mayGive_23 : decode cX0_mayGive 23 = .ok (.aload_n 1, 1) := by decide +kernel
theorem dX0_mayGive_24 : decode cX0_mayGive 24 = .ok (.iload_n 3, 1) := by decide +kernel
theorem dX0_mayGive_25 : decode cX0_mayGive 25 = .ok (.invokevirtual 30, 3) := by decide +kernel
theorem dX0_mayGive_28 : decode cX0_mayGive 28 = .ok (.ifCond .ne 22, 3) := by decide +kernel
theorem dX0_mayGive_31 : decode cX0_mayGive 31 = .ok (.aload_n 0, 1) := by decide +kernel
theorem dX0_mayGive_32 : decode cX0_mayGive 32 = .ok (.getfield 22, 3) := by decide +kernel
theorem dX0_mayGive_35 : decode cX0_mayGive 35 = .ok (.aload_n 1, 1) := by decide +kernel
theorem dX0_mayGive_36 : decode cX0_mayGive 36 = .ok (.iload_n 2, 1) := by decide +kernel
theorem dX0_mayGive_37 : decode cX0_mayGive 37 = .ok (.iload 4, 2) := by decide +kernel
theorem dX0_mayGive_39 : decode cX0_mayGive 39 = .ok (.iload_n 3, 1) := by decide +kernel
theorem dX0_mayGive_40 : decode cX0_mayGive 40 = .ok (.invokevirtual 34, 3) := by decide +kernel
theorem dX0_mayGive_43 : decode cX0_mayGive 43 = .ok (.ifCond .ne 7, 3) := by decide +kernel
theorem dX0_mayGive_46 : decode cX0_mayGive 46 = .ok (.iconst 1, 1) := by decide +kernel
theorem dX0_mayGive_47 : decode cX0_mayGive 47 = .ok (.goto 4, 3) := by decide +kernel
theorem dX0_mayGive_50 : decode cX0_mayGive 50 = .ok (.iconst 0, 1) := by decide +kernel
theorem dX0_mayGive_51 : decode cX0_mayGive 51 = .ok (.ireturn, 1) := by decide +kernel
theorem dX10_lordAt_0 : decode cX10_lordAt 0 = .ok (.aload_n 0, 1) := by decide +kernel
theorem dX10_lordAt_1 : decode cX10_lordAt 1 = .ok (.getfield 11, 3) := by decide +kernel
theorem dX10_lordAt_4 : decode cX10_lordAt 4 = .ok (.iconst 3, 1) := by decide +kernel
theorem dX10_lordAt_5 : decode cX10_lordAt 5 = .ok (.iload_n 1, 1) := by decide +kernel
theorem dX10_lordAt_6 : decode cX10_lordAt 6 = .ok (.bipush 6, 2) := by decide +kernel
theorem dX10_lordAt_8 : decode cX10_lordAt 8 = .ok (.imul, 1) := by decide +kernel
theorem dX10_lordAt_9 : decode cX10_lordAt 9 = .ok (.iadd, 1) := by decide +kernel
theorem dX10_lordAt_10 : decode cX10_lordAt 10 = .ok (.iload_n 2, 1) := by decide +kernel
theorem dX10_lordAt_11 : decode cX10_lordAt 11 = .ok (.iadd, 1) := by decide +kernel
theorem dX10_lordAt_12 : decode cX10_lordAt 12 = .ok (.iaload, 1) := by decide +kernel
theorem dX10_lordAt_13 : decode cX10_lordAt 13 = .ok (.ireturn, 1) := by decide +kernel
theorem dX10_setLord_0 : decode cX10_setLord 0 = .ok (.aload_n 0, 1) := by decide +kernel
theorem dX10_setLord_1 : decode cX10_setLord 1 = .ok (.getfield 11, 3) := by decide +kernel
theorem dX10_setLord_4 : decode cX10_setLord 4 = .ok (.iconst 3, 1) := by decide +kernel
theorem dX10_setLord_5 : decode cX10_setLord 5 = .ok (.iload_n 1, 1) := by decide +kernel
theorem dX10_setLord_6 : decode cX10_setLord 6 = .ok (.bipush 6, 2) := by decide +kernel
theorem dX10_setLord_8 : decode cX10_setLord 8 = .ok (.imul, 1) := by decide +kernel
theorem dX10_setLord_9 : decode cX10_setLord 9 = .ok (.iadd, 1) := by decide +kernel
theorem dX10_setLord_10 : decode cX10_setLord 10 = .ok (.iload_n 2, 1) := by decide +kernel
theorem dX10_setLord_11 : decode cX10_setLord 11 = .ok (.iadd, 1) := by decide +kernel
theorem dX10_setLord_12 : decode cX10_setLord 12 = .ok (.iload_n 3, 1) := by decide +kernel
theorem dX10_setLord_13 : decode cX10_setLord 13 = .ok (.iastore, 1) := by decide +kernel
theorem dX10_setLord_14 : decode cX10_setLord 14 = .ok (.return_, 1) := by decide +kernel
theorem dX10_setTerm_0 : decode cX10_setTerm 0 = .ok (.aload_n 0, 1) := by decide +kernel
theorem dX10_setTerm_1 : decode cX10_setTerm 1 = .ok (.getfield 11, 3) := by decide +kernel
theorem dX10_setTerm_4 : decode cX10_setTerm 4 = .ok (.iload_n 1, 1) := by decide +kernel
theorem dX10_setTerm_5 : decode cX10_setTerm 5 = .ok (.iload_n 2, 1) := by decide +kernel
theorem dX10_setTerm_6 : decode cX10_setTerm 6 = .ok (.iastore, 1) := by decide +kernel
theorem dX10_setTerm_7 : decode cX10_setTerm 7 = .ok (.return_, 1) := by decide +kernel
theorem dX2_upkeep_0 : decode cX2_upkeep 0 = .ok (.iconst 0, 1) := by decide +kernel
theorem dX2_upkeep_1 : decode cX2_upkeep 1 = .ok (.istore 4, 2) := by decide +kernel
theorem dX2_upkeep_3 : decode cX2_upkeep 3 = .ok (.iconst 0, 1) := by decide +kernel
theorem dX2_upkeep_4 : decode cX2_upkeep 4 = .ok (.istore 5, 2) := by decide +kernel
theorem dX2_upkeep_6 : decode cX2_upkeep 6 = .ok (.iload 5, 2) := by decide +kernel
theorem dX2_upkeep_8 : decode cX2_upkeep 8 = .ok (.aload_n 1, 1) := by decide +kernel
theorem dX2_upkeep_9 : decode cX2_upkeep 9 = .ok (.iconst 1, 1) := by decide +kernel
theorem dX2_upkeep_10 : decode cX2_upkeep 10 = .ok (.invokevirtual 58, 3) := by decide +kernel
theorem dX2_upkeep_13 : decode cX2_upkeep 13 = .ok (.if_icmp .ge 60, 3) := by decide +kernel
theorem dX2_upkeep_16 : decode cX2_upkeep 16 = .ok (.aload_n 1, 1) := by decide +kernel
theorem dX2_upkeep_17 : decode cX2_upkeep 17 = .ok (.iload 5, 2) := by decide +kernel
theorem dX2_upkeep_19 : decode cX2_upkeep 19 = .ok (.iconst 0, 1) := by decide +kernel
theorem dX2_upkeep_20 : decode cX2_upkeep 20 = .ok (.invokevirtual 39, 3) := by decide +kernel
theorem dX2_upkeep_23 : decode cX2_upkeep 23 = .ok (.iload_n 2, 1) := by decide +kernel
theorem dX2_upkeep_24 : decode cX2_upkeep 24 = .ok (.if_icmp .ne 43, 3) := by decide +kernel
theorem dX2_upkeep_27 : decode cX2_upkeep 27 = .ok (.aload_n 0, 1) := by decide +kernel
theorem dX2_upkeep_28 : decode cX2_upkeep 28 = .ok (.aload_n 1, 1) := by decide +kernel
theorem dX2_upkeep_29 : decode cX2_upkeep 29 = .ok (.iload 5, 2) := by decide +kernel
theorem dX2_upkeep_31 : decode cX2_upkeep 31 = .ok (.iload_n 3, 1) := by decide +kernel
theorem dX2_upkeep_32 : decode cX2_upkeep 32 = .ok (.invokevirtual 29, 3) := by decide +kernel
theorem dX2_upkeep_35 : decode cX2_upkeep 35 = .ok (.aload_n 0, 1) := by decide +kernel
theorem dX2_upkeep_36 : decode cX2_upkeep 36 = .ok (.getfield 11, 3) := by decide +kernel
theorem dX2_upkeep_39 : decode cX2_upkeep 39 = .ok (.iconst 5, 1) := by decide +kernel
theorem dX2_upkeep_40 : decode cX2_upkeep 40 = .ok (.iload_n 2, 1) := by decide +kernel
theorem dX2_upkeep_41 : decode cX2_upkeep 41 = .ok (.iastore, 1) := by decide +kernel
theorem dX2_upkeep_42 : decode cX2_upkeep 42 = .ok (.iload 4, 2) := by decide +kernel
theorem dX2_upkeep_44 : decode cX2_upkeep 44 = .ok (.aload_n 0, 1) := by decide +kernel
theorem dX2_upkeep_45 : decode cX2_upkeep 45 = .ok (.aload_n 1, 1) := by decide +kernel
theorem dX2_upkeep_46 : decode cX2_upkeep 46 = .ok (.invokevirtual 33, 3) := by decide +kernel
theorem dX2_upkeep_49 : decode cX2_upkeep 49 = .ok (.sipush 257, 3) := by decide +kernel
theorem dX2_upkeep_52 : decode cX2_upkeep 52 = .ok (.aload_n 1, 1) := by decide +kernel
theorem dX2_upkeep_53 : decode cX2_upkeep 53 = .ok (.iload 5, 2) := by decide +kernel
theorem dX2_upkeep_55 : decode cX2_upkeep 55 = .ok (.iconst 3, 1) := by decide +kernel
theorem dX2_upkeep_56 : decode cX2_upkeep 56 = .ok (.invokevirtual 39, 3) := by decide +kernel
theorem dX2_upkeep_59 : decode cX2_upkeep 59 = .ok (.bipush 99, 2) := by decide +kernel
theorem dX2_upkeep_61 : decode cX2_upkeep 61 = .ok (.invokevirtual 43, 3) := by decide +kernel
theorem dX2_upkeep_64 : decode cX2_upkeep 64 = .ok (.iadd, 1) := by decide +kernel
theorem dX2_upkeep_65 : decode cX2_upkeep 65 = .ok (.istore 4, 2) := by decide +kernel
theorem dX2_upkeep_67 : decode cX2_upkeep 67 = .ok (.iinc 5 1, 3) := by decide +kernel
theorem dX2_upkeep_70 : decode cX2_upkeep 70 = .ok (.goto (-64), 3) := by decide +kernel
theorem dX2_upkeep_73 : decode cX2_upkeep 73 = .ok (.iload 4, 2) := by decide +kernel
theorem dX2_upkeep_75 : decode cX2_upkeep 75 = .ok (.ireturn, 1) := by decide +kernel
theorem dX0_passYear_0 : decode cX0_passYear 0 = .ok (.aload_n 1, 1) := by decide +kernel
theorem dX0_passYear_1 : decode cX0_passYear 1 = .ok (.iconst 0, 1) := by decide +kernel
theorem dX0_passYear_2 : decode cX0_passYear 2 = .ok (.invokevirtual 62, 3) := by decide +kernel
theorem dX0_passYear_5 : decode cX0_passYear 5 = .ok (.iconst 1, 1) := by decide +kernel
theorem dX0_passYear_6 : decode cX0_passYear 6 = .ok (.iadd, 1) := by decide +kernel
theorem dX0_passYear_7 : decode cX0_passYear 7 = .ok (.istore_n 3, 1) := by decide +kernel
theorem dX0_passYear_8 : decode cX0_passYear 8 = .ok (.aload_n 1, 1) := by decide +kernel
theorem dX0_passYear_9 : decode cX0_passYear 9 = .ok (.iconst 0, 1) := by decide +kernel
theorem dX0_passYear_10 : decode cX0_passYear 10 = .ok (.iload_n 3, 1) := by decide +kernel
theorem dX0_passYear_11 : decode cX0_passYear 11 = .ok (.invokevirtual 78, 3) := by decide +kernel
theorem dX0_passYear_14 : decode cX0_passYear 14 = .ok (.iconst 0, 1) := by decide +kernel
theorem dX0_passYear_15 : decode cX0_passYear 15 = .ok (.istore 4, 2) := by decide +kernel
theorem dX0_passYear_17 : decode cX0_passYear 17 = .ok (.iconst 0, 1) := by decide +kernel
theorem dX0_passYear_18 : decode cX0_passYear 18 = .ok (.istore 5, 2) := by decide +kernel
theorem dX0_passYear_20 : decode cX0_passYear 20 = .ok (.iload 5, 2) := by decide +kernel
theorem dX0_passYear_22 : decode cX0_passYear 22 = .ok (.aload_n 1, 1) := by decide +kernel
theorem dX0_passYear_23 : decode cX0_passYear 23 = .ok (.iconst 0, 1) := by decide +kernel
theorem dX0_passYear_24 : decode cX0_passYear 24 = .ok (.invokevirtual 81, 3) := by decide +kernel
theorem dX0_passYear_27 : decode cX0_passYear 27 = .ok (.if_icmp .ge 117, 3) := by decide +kernel
theorem dX0_passYear_30 : decode cX0_passYear 30 = .ok (.iload_n 2, 1) := by decide +kernel
theorem dX0_passYear_31 : decode cX0_passYear 31 = .ok (.iload 5, 2) := by decide +kernel
theorem dX0_passYear_33 : decode cX0_passYear 33 = .ok (.ishr, 1) := by decide +kernel
theorem dX0_passYear_34 : decode cX0_passYear 34 = .ok (.iconst 1, 1) := by decide +kernel
theorem dX0_passYear_35 : decode cX0_passYear 35 = .ok (.iand, 1) := by decide +kernel
theorem dX0_passYear_36 : decode cX0_passYear 36 = .ok (.iconst 1, 1) := by decide +kernel
theorem dX0_passYear_37 : decode cX0_passYear 37 = .ok (.if_icmp .ne 7, 3) := by decide +kernel
theorem dX0_passYear_40 : decode cX0_passYear 40 = .ok (.iconst 0, 1) := by decide +kernel
theorem dX0_passYear_41 : decode cX0_passYear 41 = .ok (.goto 10, 3) := by decide +kernel
theorem dX0_passYear_44 : decode cX0_passYear 44 = .ok (.aload_n 1, 1) := by decide +kernel
theorem dX0_passYear_45 : decode cX0_passYear 45 = .ok (.iload 5, 2) := by decide +kernel
theorem dX0_passYear_47 : decode cX0_passYear 47 = .ok (.iconst 1, 1) := by decide +kernel
theorem dX0_passYear_48 : decode cX0_passYear 48 = .ok (.invokevirtual 84, 3) := by decide +kernel
theorem dX0_passYear_51 : decode cX0_passYear 51 = .ok (.istore 6, 2) := by decide +kernel
theorem dX0_passYear_53 : decode cX0_passYear 53 = .ok (.sipush 9999, 3) := by decide +kernel
theorem dX0_passYear_56 : decode cX0_passYear 56 = .ok (.aload_n 1, 1) := by decide +kernel
theorem dX0_passYear_57 : decode cX0_passYear 57 = .ok (.iload 5, 2) := by decide +kernel
theorem dX0_passYear_59 : decode cX0_passYear 59 = .ok (.iconst 0, 1) := by decide +kernel
theorem dX0_passYear_60 : decode cX0_passYear 60 = .ok (.invokevirtual 84, 3) := by decide +kernel
theorem dX0_passYear_63 : decode cX0_passYear 63 = .ok (.iload 6, 2) := by decide +kernel
theorem dX0_passYear_65 : decode cX0_passYear 65 = .ok (.iadd, 1) := by decide +kernel
theorem dX0_passYear_66 : decode cX0_passYear 66 = .ok (.invokestatic 87, 3) := by decide +kernel
theorem dX0_passYear_69 : decode cX0_passYear 69 = .ok (.istore 7, 2) := by decide +kernel
theorem dX0_passYear_71 : decode cX0_passYear 71 = .ok (.iload 7, 2) := by decide +kernel
theorem dX0_passYear_73 : decode cX0_passYear 73 = .ok (.aload_n 0, 1) := by decide +kernel
theorem dX0_passYear_74 : decode cX0_passYear 74 = .ok (.getfield 22, 3) := by decide +kernel
theorem dX0_passYear_77 : decode cX0_passYear 77 = .ok (.aload_n 1, 1) := by decide +kernel
theorem dX0_passYear_78 : decode cX0_passYear 78 = .ok (.iload 5, 2) := by decide +kernel
theorem dX0_passYear_80 : decode cX0_passYear 80 = .ok (.iload_n 3, 1) := by decide +kernel
theorem dX0_passYear_81 : decode cX0_passYear 81 = .ok (.invokevirtual 90, 3) := by decide +kernel
theorem dX0_passYear_84 : decode cX0_passYear 84 = .ok (.isub, 1) := by decide +kernel
theorem dX0_passYear_85 : decode cX0_passYear 85 = .ok (.istore 8, 2) := by decide +kernel
theorem dX0_passYear_87 : decode cX0_passYear 87 = .ok (.aload_n 1, 1) := by decide +kernel
theorem dX0_passYear_88 : decode cX0_passYear 88 = .ok (.iload 5, 2) := by decide +kernel
theorem dX0_passYear_90 : decode cX0_passYear 90 = .ok (.iconst 0, 1) := by decide +kernel
theorem dX0_passYear_91 : decode cX0_passYear 91 = .ok (.iconst 0, 1) := by decide +kernel
theorem dX0_passYear_92 : decode cX0_passYear 92 = .ok (.iload 8, 2) := by decide +kernel
theorem dX0_passYear_94 : decode cX0_passYear 94 = .ok (.invokestatic 70, 3) := by decide +kernel
theorem dX0_passYear_97 : decode cX0_passYear 97 = .ok (.invokevirtual 94, 3) := by decide +kernel
theorem dX0_passYear_100 : decode cX0_passYear 100 = .ok (.iload 8, 2) := by decide +kernel
theorem dX0_passYear_102 : decode cX0_passYear 102 = .ok (.ifCond .ge 36, 3) := by decide +kernel
theorem dX0_passYear_105 : decode cX0_passYear 105 = .ok (.iload 4, 2) := by decide +kernel
theorem dX0_passYear_107 : decode cX0_passYear 107 = .ok (.aload_n 1, 1) := by decide +kernel
theorem dX0_passYear_108 : decode cX0_passYear 108 = .ok (.iload 5, 2) := by decide +kernel
theorem dX0_passYear_110 : decode cX0_passYear 110 = .ok (.invokevirtual 30, 3) := by decide +kernel
theorem dX0_passYear_113 : decode cX0_passYear 113 = .ok (.ifCond .eq 7, 3) := by decide +kernel
theorem dX0_passYear_116 : decode cX0_passYear 116 = .ok (.iconst 0, 1) := by decide +kernel
theorem dX0_passYear_117 : decode cX0_passYear 117 = .ok (.goto 4, 3) := by decide +kernel
theorem dX0_passYear_120 : decode cX0_passYear 120 = .ok (.iconst 1, 1) := by decide +kernel
theorem dX0_passYear_121 : decode cX0_passYear 121 = .ok (.iadd, 1) := by decide +kernel
theorem dX0_passYear_122 : decode cX0_passYear 122 = .ok (.istore 4, 2) := by decide +kernel
theorem dX0_passYear_124 : decode cX0_passYear 124 = .ok (.aload_n 1, 1) := by decide +kernel
theorem dX0_passYear_125 : decode cX0_passYear 125 = .ok (.iload 5, 2) := by decide +kernel
theorem dX0_passYear_127 : decode cX0_passYear 127 = .ok (.iconst 2, 1) := by decide +kernel
theorem dX0_passYear_128 : decode cX0_passYear 128 = .ok (.iconst 1, 1) := by decide +kernel
theorem dX0_passYear_129 : decode cX0_passYear 129 = .ok (.invokevirtual 94, 3) := by decide +kernel
theorem dX0_passYear_132 : decode cX0_passYear 132 = .ok (.aload_n 1, 1) := by decide +kernel
theorem dX0_passYear_133 : decode cX0_passYear 133 = .ok (.iload 5, 2) := by decide +kernel
theorem dX0_passYear_135 : decode cX0_passYear 135 = .ok (.invokestatic 97, 3) := by decide +kernel
theorem dX0_passYear_138 : decode cX0_passYear 138 = .ok (.iinc 5 1, 3) := by decide +kernel
theorem dX0_passYear_141 : decode cX0_passYear 141 = .ok (.goto (-121), 3) := by decide +kernel
theorem dX0_passYear_144 : decode cX0_passYear 144 = .ok (.aload_n 1, 1) := by decide +kernel
theorem dX0_passYear_145 : decode cX0_passYear 145 = .ok (.iload_n 3, 1) := by decide +kernel
theorem dX0_passYear_146 : decode cX0_passYear 146 = .ok (.aload_n 1, 1) := by decide +kernel
theorem dX0_passYear_147 : decode cX0_passYear 147 = .ok (.iconst 1, 1) := by decide +kernel
theorem dX0_passYear_148 : decode cX0_passYear 148 = .ok (.invokevirtual 62, 3) := by decide +kernel
theorem dX0_passYear_151 : decode cX0_passYear 151 = .ok (.isub, 1) := by decide +kernel
theorem dX0_passYear_152 : decode cX0_passYear 152 = .ok (.invokestatic 101, 3) := by decide +kernel
theorem dX0_passYear_155 : decode cX0_passYear 155 = .ok (.iload 4, 2) := by decide +kernel
theorem dX0_passYear_157 : decode cX0_passYear 157 = .ok (.ireturn, 1) := by decide +kernel
theorem dX10_copyFrom_0 : decode cX10_copyFrom 0 = .ok (.aload_n 1, 1) := by decide +kernel
theorem dX10_copyFrom_1 : decode cX10_copyFrom 1 = .ok (.getfield 11, 3) := by decide +kernel
theorem dX10_copyFrom_4 : decode cX10_copyFrom 4 = .ok (.iconst 0, 1) := by decide +kernel
theorem dX10_copyFrom_5 : decode cX10_copyFrom 5 = .ok (.aload_n 0, 1) := by decide +kernel
theorem dX10_copyFrom_6 : decode cX10_copyFrom 6 = .ok (.getfield 11, 3) := by decide +kernel
theorem dX10_copyFrom_9 : decode cX10_copyFrom 9 = .ok (.iconst 0, 1) := by decide +kernel
theorem dX10_copyFrom_10 : decode cX10_copyFrom 10 = .ok (.sipush 266, 3) := by decide +kernel
theorem dX10_copyFrom_13 : decode cX10_copyFrom 13 = .ok (.invokestatic 31, 3) := by decide +kernel
theorem dX10_copyFrom_16 : decode cX10_copyFrom 16 = .ok (.iconst 0, 1) := by decide +kernel
theorem dX10_copyFrom_17 : decode cX10_copyFrom 17 = .ok (.istore_n 2, 1) := by decide +kernel
theorem dX10_copyFrom_18 : decode cX10_copyFrom 18 = .ok (.iload_n 2, 1) := by decide +kernel
theorem dX10_copyFrom_19 : decode cX10_copyFrom 19 = .ok (.bipush 6, 2) := by decide +kernel
theorem dX10_copyFrom_21 : decode cX10_copyFrom 21 = .ok (.if_icmp .ge 21, 3) := by decide +kernel
theorem dX10_copyFrom_24 : decode cX10_copyFrom 24 = .ok (.aload_n 0, 1) := by decide +kernel
theorem dX10_copyFrom_25 : decode cX10_copyFrom 25 = .ok (.getfield 17, 3) := by decide +kernel
theorem dX10_copyFrom_28 : decode cX10_copyFrom 28 = .ok (.iload_n 2, 1) := by decide +kernel
theorem dX10_copyFrom_29 : decode cX10_copyFrom 29 = .ok (.aload_n 1, 1) := by decide +kernel
theorem dX10_copyFrom_30 : decode cX10_copyFrom 30 = .ok (.getfield 17, 3) := by decide +kernel
theorem dX10_copyFrom_33 : decode cX10_copyFrom 33 = .ok (.iload_n 2, 1) := by decide +kernel
theorem dX10_copyFrom_34 : decode cX10_copyFrom 34 = .ok (.aaload, 1) := by decide +kernel
theorem dX10_copyFrom_35 : decode cX10_copyFrom 35 = .ok (.aastore, 1) := by decide +kernel
theorem dX10_copyFrom_36 : decode cX10_copyFrom 36 = .ok (.iinc 2 1, 3) := by decide +kernel
theorem dX10_copyFrom_39 : decode cX10_copyFrom 39 = .ok (.goto (-21), 3) := by decide +kernel
theorem dX10_copyFrom_42 : decode cX10_copyFrom 42 = .ok (.return_, 1) := by decide +kernel
theorem dX0_playOut_0 : decode cX0_playOut 0 = .ok (.aload_n 0, 1) := by decide +kernel
theorem dX0_playOut_1 : decode cX0_playOut 1 = .ok (.getfield 12, 3) := by decide +kernel
theorem dX0_playOut_4 : decode cX0_playOut 4 = .ok (.aload_n 1, 1) := by decide +kernel
theorem dX0_playOut_5 : decode cX0_playOut 5 = .ok (.invokevirtual 104, 3) := by decide +kernel
theorem dX0_playOut_8 : decode cX0_playOut 8 = .ok (.aload_n 0, 1) := by decide +kernel
theorem dX0_playOut_9 : decode cX0_playOut 9 = .ok (.iload_n 2, 1) := by decide +kernel
theorem dX0_playOut_10 : decode cX0_playOut 10 = .ok (.i2l, 1) := by decide +kernel
theorem dX0_playOut_11 : decode cX0_playOut 11 = .ok (.putfield 18, 3) := by decide +kernel
theorem dX0_playOut_14 : decode cX0_playOut 14 = .ok (.aload_n 0, 1) := by decide +kernel
theorem dX0_playOut_15 : decode cX0_playOut 15 = .ok (.getfield 12, 3) := by decide +kernel
theorem dX0_playOut_18 : decode cX0_playOut 18 = .ok (.iconst 0, 1) := by decide +kernel
theorem dX0_playOut_19 : decode cX0_playOut 19 = .ok (.invokevirtual 81, 3) := by decide +kernel
theorem dX0_playOut_22 : decode cX0_playOut 22 = .ok (.istore 4, 2) := by decide +kernel
theorem dX0_playOut_24 : decode cX0_playOut 24 = .ok (.aload_n 0, 1) := by decide +kernel
theorem dX0_playOut_25 : decode cX0_playOut 25 = .ok (.getfield 12, 3) := by decide +kernel
theorem dX0_playOut_28 : decode cX0_playOut 28 = .ok (.iconst 1, 1) := by decide +kernel
theorem dX0_playOut_29 : decode cX0_playOut 29 = .ok (.invokevirtual 81, 3) := by decide +kernel
theorem dX0_playOut_32 : decode cX0_playOut 32 = .ok (.istore 5, 2) := by decide +kernel
theorem dX0_playOut_34 : decode cX0_playOut 34 = .ok (.iconst 0, 1) := by decide +kernel
theorem dX0_playOut_35 : decode cX0_playOut 35 = .ok (.istore 6, 2) := by decide +kernel
theorem dX0_playOut_37 : decode cX0_playOut 37 = .ok (.iconst 0, 1) := by decide +kernel
theorem dX0_playOut_38 : decode cX0_playOut 38 = .ok (.istore 7, 2) := by decide +kernel
theorem dX0_playOut_40 : decode cX0_playOut 40 = .ok (.iload 7, 2) := by decide +kernel
theorem dX0_playOut_42 : decode cX0_playOut 42 = .ok (.iload_n 3, 1) := by decide +kernel
theorem dX0_playOut_43 : decode cX0_playOut 43 = .ok (.if_icmp .ge 129, 3) := by decide +kernel
theorem dX0_playOut_46 : decode cX0_playOut 46 = .ok (.iload 5, 2) := by decide +kernel
theorem dX0_playOut_48 : decode cX0_playOut 48 = .ok (.ifCond .le 50, 3) := by decide +kernel
theorem dX0_playOut_51 : decode cX0_playOut 51 = .ok (.aload_n 0, 1) := by decide +kernel
theorem dX0_playOut_52 : decode cX0_playOut 52 = .ok (.iload 5, 2) := by decide +kernel
theorem dX0_playOut_54 : decode cX0_playOut 54 = .ok (.invokevirtual 108, 3) := by decide +kernel
theorem dX0_playOut_57 : decode cX0_playOut 57 = .ok (.istore 8, 2) := by decide +kernel
theorem dX0_playOut_59 : decode cX0_playOut 59 = .ok (.aload_n 0, 1) := by decide +kernel
theorem dX0_playOut_60 : decode cX0_playOut 60 = .ok (.iload 4, 2) := by decide +kernel
theorem dX0_playOut_62 : decode cX0_playOut 62 = .ok (.invokevirtual 108, 3) := by decide +kernel
theorem dX0_playOut_65 : decode cX0_playOut 65 = .ok (.istore 9, 2) := by decide +kernel
theorem dX0_playOut_67 : decode cX0_playOut 67 = .ok (.aload_n 0, 1) := by decide +kernel
theorem dX0_playOut_68 : decode cX0_playOut 68 = .ok (.aload_n 0, 1) := by decide +kernel
theorem dX0_playOut_69 : decode cX0_playOut 69 = .ok (.getfield 12, 3) := by decide +kernel
theorem dX0_playOut_72 : decode cX0_playOut 72 = .ok (.iload 8, 2) := by decide +kernel
theorem dX0_playOut_74 : decode cX0_playOut 74 = .ok (.iload 9, 2) := by decide +kernel
theorem dX0_playOut_76 : decode cX0_playOut 76 = .ok (.invokevirtual 111, 3) := by decide +kernel
theorem dX0_playOut_79 : decode cX0_playOut 79 = .ok (.ifCond .eq 19, 3) := by decide +kernel
theorem dX0_playOut_82 : decode cX0_playOut 82 = .ok (.aload_n 0, 1) := by decide +kernel
theorem dX0_playOut_83 : decode cX0_playOut 83 = .ok (.aload_n 0, 1) := by decide +kernel
theorem dX0_playOut_84 : decode cX0_playOut 84 = .ok (.getfield 12, 3) := by decide +kernel
theorem dX0_playOut_87 : decode cX0_playOut 87 = .ok (.iload 8, 2) := by decide +kernel
theorem dX0_playOut_89 : decode cX0_playOut 89 = .ok (.iload 9, 2) := by decide +kernel
theorem dX0_playOut_91 : decode cX0_playOut 91 = .ok (.invokevirtual 115, 3) := by decide +kernel
theorem dX0_playOut_94 : decode cX0_playOut 94 = .ok (.pop, 1) := by decide +kernel
theorem dX0_playOut_95 : decode cX0_playOut 95 = .ok (.iinc 6 1, 3) := by decide +kernel
theorem dX0_playOut_98 : decode cX0_playOut 98 = .ok (.iconst 0, 1) := by decide +kernel
theorem dX0_playOut_99 : decode cX0_playOut 99 = .ok (.istore 8, 2) := by decide +kernel
theorem dX0_playOut_101 : decode cX0_playOut 101 = .ok (.iconst 0, 1) := by decide +kernel
theorem dX0_playOut_102 : decode cX0_playOut 102 = .ok (.istore 9, 2) := by decide +kernel
theorem dX0_playOut_104 : decode cX0_playOut 104 = .ok (.iload 9, 2) := by decide +kernel
theorem dX0_playOut_106 : decode cX0_playOut 106 = .ok (.iload 4, 2) := by decide +kernel
theorem dX0_playOut_108 : decode cX0_playOut 108 = .ok (.if_icmp .ge 30, 3) := by decide +kernel
theorem dX0_playOut_111 : decode cX0_playOut 111 = .ok (.iload 8, 2) := by decide +kernel
theorem dX0_playOut_113 : decode cX0_playOut 113 = .ok (.aload_n 0, 1) := by decide +kernel
theorem dX0_playOut_114 : decode cX0_playOut 114 = .ok (.iconst 3, 1) := by decide +kernel
theorem dX0_playOut_115 : decode cX0_playOut 115 = .ok (.invokevirtual 108, 3) := by decide +kernel
theorem dX0_playOut_118 : decode cX0_playOut 118 = .ok (.ifCond .ne 10, 3) := by decide +kernel
theorem dX0_playOut_121 : decode cX0_playOut 121 = .ok (.iconst 1, 1) := by decide +kernel
theorem dX0_playOut_122 : decode cX0_playOut 122 = .ok (.iload 9, 2) := by decide +kernel
theorem dX0_playOut_124 : decode cX0_playOut 124 = .ok (.ishl, 1) := by decide +kernel
theorem dX0_playOut_125 : decode cX0_playOut 125 = .ok (.goto 4, 3) := by decide +kernel
theorem dX0_playOut_128 : decode cX0_playOut 128 = .ok (.iconst 0, 1) := by decide +kernel
theorem dX0_playOut_129 : decode cX0_playOut 129 = .ok (.ior, 1) := by decide +kernel
theorem dX0_playOut_130 : decode cX0_playOut 130 = .ok (.istore 8, 2) := by decide +kernel
theorem dX0_playOut_132 : decode cX0_playOut 132 = .ok (.iinc 9 1, 3) := by decide +kernel
theorem dX0_playOut_135 : decode cX0_playOut 135 = .ok (.goto (-31), 3) := by decide +kernel
theorem dX0_playOut_138 : decode cX0_playOut 138 = .ok (.aload_n 0, 1) := by decide +kernel
theorem dX0_playOut_139 : decode cX0_playOut 139 = .ok (.getfield 12, 3) := by decide +kernel
theorem dX0_playOut_142 : decode cX0_playOut 142 = .ok (.iconst 0, 1) := by decide +kernel
theorem dX0_playOut_143 : decode cX0_playOut 143 = .ok (.invokevirtual 62, 3) := by decide +kernel
theorem dX0_playOut_146 : decode cX0_playOut 146 = .ok (.sipush 999, 3) := by decide +kernel
theorem dX0_playOut_149 : decode cX0_playOut 149 = .ok (.if_icmp .lt 6, 3) := by decide +kernel
theorem dX0_playOut_152 : decode cX0_playOut 152 = .ok (.goto 20, 3) := by decide +kernel
theorem dX0_playOut_155 : decode cX0_playOut 155 = .ok (.aload_n 0, 1) := by decide +kernel
theorem dX0_playOut_156 : decode cX0_playOut 156 = .ok (.aload_n 0, 1) := by decide +kernel
theorem dX0_playOut_157 : decode cX0_playOut 157 = .ok (.getfield 12, 3) := by decide +kernel
theorem dX0_playOut_160 : decode cX0_playOut 160 = .ok (.iload 8, 2) := by decide +kernel
theorem dX0_playOut_162 : decode cX0_playOut 162 = .ok (.invokevirtual 118, 3) := by decide +kernel
theorem dX0_playOut_165 : decode cX0_playOut 165 = .ok (.pop, 1) := by decide +kernel
theorem dX0_playOut_166 : decode cX0_playOut 166 = .ok (.iinc 7 1, 3) := by decide +kernel
theorem dX0_playOut_169 : decode cX0_playOut 169 = .ok (.goto (-129), 3) := by decide +kernel
theorem dX0_playOut_172 : decode cX0_playOut 172 = .ok (.iload 6, 2) := by decide +kernel
theorem dX0_playOut_174 : decode cX0_playOut 174 = .ok (.ireturn, 1) := by decide +kernel
theorem dX10_addGood_0 : decode cX10_addGood 0 = .ok (.aload_n 0, 1) := by decide +kernel
theorem dX10_addGood_1 : decode cX10_addGood 1 = .ok (.getfield 11, 3) := by decide +kernel
theorem dX10_addGood_4 : decode cX10_addGood 4 = .ok (.sipush 192, 3) := by decide +kernel
theorem dX10_addGood_7 : decode cX10_addGood 7 = .ok (.dup2, 1) := by decide +kernel
theorem dX10_addGood_8 : decode cX10_addGood 8 = .ok (.iaload, 1) := by decide +kernel
theorem dX10_addGood_9 : decode cX10_addGood 9 = .ok (.dup_x2, 1) := by decide +kernel
theorem dX10_addGood_10 : decode cX10_addGood 10 = .ok (.iconst 1, 1) := by decide +kernel
theorem dX10_addGood_11 : decode cX10_addGood 11 = .ok (.iadd, 1) := by decide +kernel
theorem dX10_addGood_12 : decode cX10_addGood 12 = .ok (.iastore, 1) := by decide +kernel
theorem dX10_addGood_13 : decode cX10_addGood 13 = .ok (.istore 4, 2) := by decide +kernel
theorem dX10_addGood_15 : decode cX10_addGood 15 = .ok (.bipush 39, 2) := by decide +kernel
theorem dX10_addGood_17 : decode cX10_addGood 17 = .ok (.iload 4, 2) := by decide +kernel
theorem dX10_addGood_19 : decode cX10_addGood 19 = .ok (.iconst 5, 1) := by decide +kernel
theorem dX10_addGood_20 : decode cX10_addGood 20 = .ok (.imul, 1) := by decide +kernel
theorem dX10_addGood_21 : decode cX10_addGood 21 = .ok (.iadd, 1) := by decide +kernel
theorem dX10_addGood_22 : decode cX10_addGood 22 = .ok (.istore 5, 2) := by decide +kernel
theorem dX10_addGood_24 : decode cX10_addGood 24 = .ok (.aload_n 0, 1) := by decide +kernel
theorem dX10_addGood_25 : decode cX10_addGood 25 = .ok (.getfield 11, 3) := by decide +kernel
theorem dX10_addGood_28 : decode cX10_addGood 28 = .ok (.iload 5, 2) := by decide +kernel
theorem dX10_addGood_30 : decode cX10_addGood 30 = .ok (.iconst 0, 1) := by decide +kernel
theorem dX10_addGood_31 : decode cX10_addGood 31 = .ok (.iadd, 1) := by decide +kernel
theorem dX10_addGood_32 : decode cX10_addGood 32 = .ok (.iload_n 1, 1) := by decide +kernel
theorem dX10_addGood_33 : decode cX10_addGood 33 = .ok (.iastore, 1) := by decide +kernel
theorem dX10_addGood_34 : decode cX10_addGood 34 = .ok (.aload_n 0, 1) := by decide +kernel
theorem dX10_addGood_35 : decode cX10_addGood 35 = .ok (.getfield 11, 3) := by decide +kernel
theorem dX10_addGood_38 : decode cX10_addGood 38 = .ok (.iload 5, 2) := by decide +kernel
theorem dX10_addGood_40 : decode cX10_addGood 40 = .ok (.iconst 1, 1) := by decide +kernel
theorem dX10_addGood_41 : decode cX10_addGood 41 = .ok (.iadd, 1) := by decide +kernel
theorem dX10_addGood_42 : decode cX10_addGood 42 = .ok (.iload_n 1, 1) := by decide +kernel
theorem dX10_addGood_43 : decode cX10_addGood 43 = .ok (.iastore, 1) := by decide +kernel
theorem dX10_addGood_44 : decode cX10_addGood 44 = .ok (.aload_n 0, 1) := by decide +kernel
theorem dX10_addGood_45 : decode cX10_addGood 45 = .ok (.getfield 11, 3) := by decide +kernel
theorem dX10_addGood_48 : decode cX10_addGood 48 = .ok (.iload 5, 2) := by decide +kernel
theorem dX10_addGood_50 : decode cX10_addGood 50 = .ok (.iconst 2, 1) := by decide +kernel
theorem dX10_addGood_51 : decode cX10_addGood 51 = .ok (.iadd, 1) := by decide +kernel
theorem dX10_addGood_52 : decode cX10_addGood 52 = .ok (.iload_n 2, 1) := by decide +kernel
theorem dX10_addGood_53 : decode cX10_addGood 53 = .ok (.iastore, 1) := by decide +kernel
theorem dX10_addGood_54 : decode cX10_addGood 54 = .ok (.aload_n 0, 1) := by decide +kernel
theorem dX10_addGood_55 : decode cX10_addGood 55 = .ok (.getfield 11, 3) := by decide +kernel
theorem dX10_addGood_58 : decode cX10_addGood 58 = .ok (.iload 5, 2) := by decide +kernel
theorem dX10_addGood_60 : decode cX10_addGood 60 = .ok (.iconst 3, 1) := by decide +kernel
theorem dX10_addGood_61 : decode cX10_addGood 61 = .ok (.iadd, 1) := by decide +kernel
theorem dX10_addGood_62 : decode cX10_addGood 62 = .ok (.iload_n 3, 1) := by decide +kernel
theorem dX10_addGood_63 : decode cX10_addGood 63 = .ok (.iastore, 1) := by decide +kernel
theorem dX10_addGood_64 : decode cX10_addGood 64 = .ok (.aload_n 0, 1) := by decide +kernel
theorem dX10_addGood_65 : decode cX10_addGood 65 = .ok (.getfield 11, 3) := by decide +kernel
theorem dX10_addGood_68 : decode cX10_addGood 68 = .ok (.iload 5, 2) := by decide +kernel
theorem dX10_addGood_70 : decode cX10_addGood 70 = .ok (.iconst 4, 1) := by decide +kernel
theorem dX10_addGood_71 : decode cX10_addGood 71 = .ok (.iadd, 1) := by decide +kernel
theorem dX10_addGood_72 : decode cX10_addGood 72 = .ok (.iconst 0, 1) := by decide +kernel
theorem dX10_addGood_73 : decode cX10_addGood 73 = .ok (.iastore, 1) := by decide +kernel
theorem dX10_addGood_74 : decode cX10_addGood 74 = .ok (.iload 4, 2) := by decide +kernel
theorem dX10_addGood_76 : decode cX10_addGood 76 = .ok (.ireturn, 1) := by decide +kernel
theorem dX10_addHerald_0 : decode cX10_addHerald 0 = .ok (.aload_n 0, 1) := by decide +kernel
theorem dX10_addHerald_1 : decode cX10_addHerald 1 = .ok (.getfield 11, 3) := by decide +kernel
theorem dX10_addHerald_4 : decode cX10_addHerald 4 = .ok (.sipush 193, 3) := by decide +kernel
theorem dX10_addHerald_7 : decode cX10_addHerald 7 = .ok (.dup2, 1) := by decide +kernel
theorem dX10_addHerald_8 : decode cX10_addHerald 8 = .ok (.iaload, 1) := by decide +kernel
theorem dX10_addHerald_9 : decode cX10_addHerald 9 = .ok (.dup_x2, 1) := by decide +kernel
theorem dX10_addHerald_10 : decode cX10_addHerald 10 = .ok (.iconst 1, 1) := by decide +kernel
theorem dX10_addHerald_11 : decode cX10_addHerald 11 = .ok (.iadd, 1) := by decide +kernel
theorem dX10_addHerald_12 : decode cX10_addHerald 12 = .ok (.iastore, 1) := by decide +kernel
theorem dX10_addHerald_13 : decode cX10_addHerald 13 = .ok (.istore_n 2, 1) := by decide +kernel
theorem dX10_addHerald_14 : decode cX10_addHerald 14 = .ok (.aload_n 0, 1) := by decide +kernel
theorem dX10_addHerald_15 : decode cX10_addHerald 15 = .ok (.getfield 11, 3) := by decide +kernel
theorem dX10_addHerald_18 : decode cX10_addHerald 18 = .ok (.sipush 213, 3) := by decide +kernel
theorem dX10_addHerald_21 : decode cX10_addHerald 21 = .ok (.iload_n 2, 1) := by decide +kernel
theorem dX10_addHerald_22 : decode cX10_addHerald 22 = .ok (.iadd, 1) := by decide +kernel
theorem dX10_addHerald_23 : decode cX10_addHerald 23 = .ok (.iload_n 1, 1) := by decide +kernel
theorem dX10_addHerald_24 : decode cX10_addHerald 24 = .ok (.iastore, 1) := by decide +kernel
theorem dX10_addHerald_25 : decode cX10_addHerald 25 = .ok (.iload_n 2, 1) := by decide +kernel
theorem dX10_addHerald_26 : decode cX10_addHerald 26 = .ok (.ireturn, 1) := by decide +kernel
theorem dX10_addLaw_0 : decode cX10_addLaw 0 = .ok (.aload_n 0, 1) := by decide +kernel
theorem dX10_addLaw_1 : decode cX10_addLaw 1 = .ok (.getfield 11, 3) := by decide +kernel
theorem dX10_addLaw_4 : decode cX10_addLaw 4 = .ok (.sipush 195, 3) := by decide +kernel
theorem dX10_addLaw_7 : decode cX10_addLaw 7 = .ok (.dup2, 1) := by decide +kernel
theorem dX10_addLaw_8 : decode cX10_addLaw 8 = .ok (.iaload, 1) := by decide +kernel
theorem dX10_addLaw_9 : decode cX10_addLaw 9 = .ok (.dup_x2, 1) := by decide +kernel
theorem dX10_addLaw_10 : decode cX10_addLaw 10 = .ok (.iconst 1, 1) := by decide +kernel
theorem dX10_addLaw_11 : decode cX10_addLaw 11 = .ok (.iadd, 1) := by decide +kernel
theorem dX10_addLaw_12 : decode cX10_addLaw 12 = .ok (.iastore, 1) := by decide +kernel
theorem dX10_addLaw_13 : decode cX10_addLaw 13 = .ok (.istore_n 2, 1) := by decide +kernel
theorem dX10_addLaw_14 : decode cX10_addLaw 14 = .ok (.aload_n 0, 1) := by decide +kernel
theorem dX10_addLaw_15 : decode cX10_addLaw 15 = .ok (.getfield 17, 3) := by decide +kernel
theorem dX10_addLaw_18 : decode cX10_addLaw 18 = .ok (.iload_n 2, 1) := by decide +kernel
theorem dX10_addLaw_19 : decode cX10_addLaw 19 = .ok (.aload_n 1, 1) := by decide +kernel
theorem dX10_addLaw_20 : decode cX10_addLaw 20 = .ok (.aastore, 1) := by decide +kernel
theorem dX10_addLaw_21 : decode cX10_addLaw 21 = .ok (.iload_n 2, 1) := by decide +kernel
theorem dX10_addLaw_22 : decode cX10_addLaw 22 = .ok (.ireturn, 1) := by decide +kernel
theorem dX10_addLord_0 : decode cX10_addLord 0 = .ok (.aload_n 0, 1) := by decide +kernel
theorem dX10_addLord_1 : decode cX10_addLord 1 = .ok (.getfield 11, 3) := by decide +kernel
theorem dX10_addLord_4 : decode cX10_addLord 4 = .ok (.sipush 191, 3) := by decide +kernel
theorem dX10_addLord_7 : decode cX10_addLord 7 = .ok (.dup2, 1) := by decide +kernel
theorem dX10_addLord_8 : decode cX10_addLord 8 = .ok (.iaload, 1) := by decide +kernel
theorem dX10_addLord_9 : decode cX10_addLord 9 = .ok (.dup_x2, 1) := by decide +kernel
theorem dX10_addLord_10 : decode cX10_addLord 10 = .ok (.iconst 1, 1) := by decide +kernel
theorem dX10_addLord_11 : decode cX10_addLord 11 = .ok (.iadd, 1) := by decide +kernel
theorem dX10_addLord_12 : decode cX10_addLord 12 = .ok (.iastore, 1) := by decide +kernel
theorem dX10_addLord_13 : decode cX10_addLord 13 = .ok (.istore_n 3, 1) := by decide +kernel
theorem dX10_addLord_14 : decode cX10_addLord 14 = .ok (.iconst 3, 1) := by decide +kernel
theorem dX10_addLord_15 : decode cX10_addLord 15 = .ok (.iload_n 3, 1) := by decide +kernel
theorem dX10_addLord_16 : decode cX10_addLord 16 = .ok (.bipush 6, 2) := by decide +kernel
theorem dX10_addLord_18 : decode cX10_addLord 18 = .ok (.imul, 1) := by decide +kernel
theorem dX10_addLord_19 : decode cX10_addLord 19 = .ok (.iadd, 1) := by decide +kernel
theorem dX10_addLord_20 : decode cX10_addLord 20 = .ok (.istore 4, 2) := by decide +kernel
theorem dX10_addLord_22 : decode cX10_addLord 22 = .ok (.aload_n 0, 1) := by decide +kernel
theorem dX10_addLord_23 : decode cX10_addLord 23 = .ok (.getfield 11, 3) := by decide +kernel
theorem dX10_addLord_26 : decode cX10_addLord 26 = .ok (.iload 4, 2) := by decide +kernel
theorem dX10_addLord_28 : decode cX10_addLord 28 = .ok (.iload 4, 2) := by decide +kernel
theorem dX10_addLord_30 : decode cX10_addLord 30 = .ok (.bipush 6, 2) := by decide +kernel
theorem dX10_addLord_32 : decode cX10_addLord 32 = .ok (.iadd, 1) := by decide +kernel
theorem dX10_addLord_33 : decode cX10_addLord 33 = .ok (.iconst 0, 1) := by decide +kernel
theorem dX10_addLord_34 : decode cX10_addLord 34 = .ok (.invokestatic 25, 3) := by decide +kernel
theorem dX10_addLord_37 : decode cX10_addLord 37 = .ok (.aload_n 0, 1) := by decide +kernel
theorem dX10_addLord_38 : decode cX10_addLord 38 = .ok (.getfield 11, 3) := by decide +kernel
theorem dX10_addLord_41 : decode cX10_addLord 41 = .ok (.iload 4, 2) := by decide +kernel
theorem dX10_addLord_43 : decode cX10_addLord 43 = .ok (.iconst 0, 1) := by decide +kernel
theorem dX10_addLord_44 : decode cX10_addLord 44 = .ok (.iadd, 1) := by decide +kernel
theorem dX10_addLord_45 : decode cX10_addLord 45 = .ok (.iload_n 1, 1) := by decide +kernel
theorem dX10_addLord_46 : decode cX10_addLord 46 = .ok (.iastore, 1) := by decide +kernel
theorem dX10_addLord_47 : decode cX10_addLord 47 = .ok (.aload_n 0, 1) := by decide +kernel
theorem dX10_addLord_48 : decode cX10_addLord 48 = .ok (.getfield 11, 3) := by decide +kernel
theorem dX10_addLord_51 : decode cX10_addLord 51 = .ok (.iload 4, 2) := by decide +kernel
theorem dX10_addLord_53 : decode cX10_addLord 53 = .ok (.iconst 1, 1) := by decide +kernel
theorem dX10_addLord_54 : decode cX10_addLord 54 = .ok (.iadd, 1) := by decide +kernel
theorem dX10_addLord_55 : decode cX10_addLord 55 = .ok (.iload_n 2, 1) := by decide +kernel
theorem dX10_addLord_56 : decode cX10_addLord 56 = .ok (.iastore, 1) := by decide +kernel
theorem dX10_addLord_57 : decode cX10_addLord 57 = .ok (.iload_n 3, 1) := by decide +kernel
theorem dX10_addLord_58 : decode cX10_addLord 58 = .ok (.ireturn, 1) := by decide +kernel
theorem dX10_addRoad_0 : decode cX10_addRoad 0 = .ok (.aload_n 0, 1) := by decide +kernel
theorem dX10_addRoad_1 : decode cX10_addRoad 1 = .ok (.getfield 11, 3) := by decide +kernel
theorem dX10_addRoad_4 : decode cX10_addRoad 4 = .ok (.sipush 194, 3) := by decide +kernel
theorem dX10_addRoad_7 : decode cX10_addRoad 7 = .ok (.dup2, 1) := by decide +kernel
theorem dX10_addRoad_8 : decode cX10_addRoad 8 = .ok (.iaload, 1) := by decide +kernel
theorem dX10_addRoad_9 : decode cX10_addRoad 9 = .ok (.dup_x2, 1) := by decide +kernel
theorem dX10_addRoad_10 : decode cX10_addRoad 10 = .ok (.iconst 1, 1) := by decide +kernel
theorem dX10_addRoad_11 : decode cX10_addRoad 11 = .ok (.iadd, 1) := by decide +kernel
theorem dX10_addRoad_12 : decode cX10_addRoad 12 = .ok (.iastore, 1) := by decide +kernel
theorem dX10_addRoad_13 : decode cX10_addRoad 13 = .ok (.istore 5, 2) := by decide +kernel
theorem dX10_addRoad_15 : decode cX10_addRoad 15 = .ok (.sipush 218, 3) := by decide +kernel
theorem dX10_addRoad_18 : decode cX10_addRoad 18 = .ok (.iload 5, 2) := by decide +kernel
theorem dX10_addRoad_20 : decode cX10_addRoad 20 = .ok (.iconst 4, 1) := by decide +kernel
theorem dX10_addRoad_21 : decode cX10_addRoad 21 = .ok (.imul, 1) := by decide +kernel
theorem dX10_addRoad_22 : decode cX10_addRoad 22 = .ok (.iadd, 1) := by decide +kernel
theorem dX10_addRoad_23 : decode cX10_addRoad 23 = .ok (.istore 6, 2) := by decide +kernel
theorem dX10_addRoad_25 : decode cX10_addRoad 25 = .ok (.aload_n 0, 1) := by decide +kernel
theorem dX10_addRoad_26 : decode cX10_addRoad 26 = .ok (.getfield 11, 3) := by decide +kernel
theorem dX10_addRoad_29 : decode cX10_addRoad 29 = .ok (.iload 6, 2) := by decide +kernel
theorem dX10_addRoad_31 : decode cX10_addRoad 31 = .ok (.iconst 0, 1) := by decide +kernel
theorem dX10_addRoad_32 : decode cX10_addRoad 32 = .ok (.iadd, 1) := by decide +kernel
theorem dX10_addRoad_33 : decode cX10_addRoad 33 = .ok (.iload_n 1, 1) := by decide +kernel
theorem dX10_addRoad_34 : decode cX10_addRoad 34 = .ok (.iastore, 1) := by decide +kernel
theorem dX10_addRoad_35 : decode cX10_addRoad 35 = .ok (.aload_n 0, 1) := by decide +kernel
theorem dX10_addRoad_36 : decode cX10_addRoad 36 = .ok (.getfield 11, 3) := by decide +kernel
theorem dX10_addRoad_39 : decode cX10_addRoad 39 = .ok (.iload 6, 2) := by decide +kernel
theorem dX10_addRoad_41 : decode cX10_addRoad 41 = .ok (.iconst 1, 1) := by decide +kernel
theorem dX10_addRoad_42 : decode cX10_addRoad 42 = .ok (.iadd, 1) := by decide +kernel
theorem dX10_addRoad_43 : decode cX10_addRoad 43 = .ok (.iload_n 2, 1) := by decide +kernel
theorem dX10_addRoad_44 : decode cX10_addRoad 44 = .ok (.iastore, 1) := by decide +kernel
theorem dX10_addRoad_45 : decode cX10_addRoad 45 = .ok (.aload_n 0, 1) := by decide +kernel
theorem dX10_addRoad_46 : decode cX10_addRoad 46 = .ok (.getfield 11, 3) := by decide +kernel
theorem dX10_addRoad_49 : decode cX10_addRoad 49 = .ok (.iload 6, 2) := by decide +kernel
theorem dX10_addRoad_51 : decode cX10_addRoad 51 = .ok (.iconst 2, 1) := by decide +kernel
theorem dX10_addRoad_52 : decode cX10_addRoad 52 = .ok (.iadd, 1) := by decide +kernel
theorem dX10_addRoad_53 : decode cX10_addRoad 53 = .ok (.iload_n 3, 1) := by decide +kernel
theorem dX10_addRoad_54 : decode cX10_addRoad 54 = .ok (.iastore, 1) := by decide +kernel
theorem dX10_addRoad_55 : decode cX10_addRoad 55 = .ok (.aload_n 0, 1) := by decide +kernel
theorem dX10_addRoad_56 : decode cX10_addRoad 56 = .ok (.getfield 11, 3) := by decide +kernel
theorem dX10_addRoad_59 : decode cX10_addRoad 59 = .ok (.iload 6, 2) := by decide +kernel
theorem dX10_addRoad_61 : decode cX10_addRoad 61 = .ok (.iconst 3, 1) := by decide +kernel
theorem dX10_addRoad_62 : decode cX10_addRoad 62 = .ok (.iadd, 1) := by decide +kernel
theorem dX10_addRoad_63 : decode cX10_addRoad 63 = .ok (.iload 4, 2) := by decide +kernel
theorem dX10_addRoad_65 : decode cX10_addRoad 65 = .ok (.iastore, 1) := by decide +kernel
theorem dX10_addRoad_66 : decode cX10_addRoad 66 = .ok (.iload 5, 2) := by decide +kernel
theorem dX10_addRoad_68 : decode cX10_addRoad 68 = .ok (.ireturn, 1) := by decide +kernel
theorem dX10_greatestCreditor_0 : decode cX10_greatestCreditor 0 = .ok (.iconst (-1), 1) := by decide +kernel
theorem dX10_greatestCreditor_1 : decode cX10_greatestCreditor 1 = .ok (.istore_n 2, 1) := by decide +kernel
theorem dX10_greatestCreditor_2 : decode cX10_greatestCreditor 2 = .ok (.iconst (-1), 1) := by decide +kernel
theorem dX10_greatestCreditor_3 : decode cX10_greatestCreditor 3 = .ok (.istore_n 3, 1) := by decide +kernel
theorem dX10_greatestCreditor_4 : decode cX10_greatestCreditor 4 = .ok (.iconst 0, 1) := by decide +kernel
theorem dX10_greatestCreditor_5 : decode cX10_greatestCreditor 5 = .ok (.istore 4, 2) := by decide +kernel
theorem dX10_greatestCreditor_7 : decode cX10_greatestCreditor 7 = .ok (.iload 4, 2) := by decide +kernel
theorem dX10_greatestCreditor_9 : decode cX10_greatestCreditor 9 = .ok (.bipush 6, 2) := by decide +kernel
theorem dX10_greatestCreditor_11 : decode cX10_greatestCreditor 11 = .ok (.if_icmp .ge 31, 3) := by decide +kernel
theorem dX10_greatestCreditor_14 : decode cX10_greatestCreditor 14 = .ok (.aload_n 0, 1) := by decide +kernel
theorem dX10_greatestCreditor_15 : decode cX10_greatestCreditor 15 = .ok (.iload_n 1, 1) := by decide +kernel
theorem dX10_greatestCreditor_16 : decode cX10_greatestCreditor 16 = .ok (.iload 4, 2) := by decide +kernel
theorem dX10_greatestCreditor_18 : decode cX10_greatestCreditor 18 = .ok (.invokevirtual 51, 3) := by decide +kernel
theorem dX10_greatestCreditor_21 : decode cX10_greatestCreditor 21 = .ok (.iload_n 3, 1) := by decide +kernel
theorem dX10_greatestCreditor_22 : decode cX10_greatestCreditor 22 = .ok (.if_icmp .le 14, 3) := by decide +kernel
theorem dX10_greatestCreditor_25 : decode cX10_greatestCreditor 25 = .ok (.aload_n 0, 1) := by decide +kernel
theorem dX10_greatestCreditor_26 : decode cX10_greatestCreditor 26 = .ok (.iload_n 1, 1) := by decide +kernel
theorem dX10_greatestCreditor_27 : decode cX10_greatestCreditor 27 = .ok (.iload 4, 2) := by decide +kernel
theorem dX10_greatestCreditor_29 : decode cX10_greatestCreditor 29 = .ok (.invokevirtual 51, 3) := by decide +kernel
theorem dX10_greatestCreditor_32 : decode cX10_greatestCreditor 32 = .ok (.istore_n 3, 1) := by decide +kernel
theorem dX10_greatestCreditor_33 : decode cX10_greatestCreditor 33 = .ok (.iload 4, 2) := by decide +kernel
theorem dX10_greatestCreditor_35 : decode cX10_greatestCreditor 35 = .ok (.istore_n 2, 1) := by decide +kernel
theorem dX10_greatestCreditor_36 : decode cX10_greatestCreditor 36 = .ok (.iinc 4 1, 3) := by decide +kernel
theorem dX10_greatestCreditor_39 : decode cX10_greatestCreditor 39 = .ok (.goto (-32), 3) := by decide +kernel
theorem dX10_greatestCreditor_42 : decode cX10_greatestCreditor 42 = .ok (.iload_n 2, 1) := by decide +kernel
theorem dX10_greatestCreditor_43 : decode cX10_greatestCreditor 43 = .ok (.ireturn, 1) := by decide +kernel
theorem dX10_held_0 : decode cX10_held 0 = .ok (.iconst 0, 1) := by decide +kernel
theorem dX10_held_1 : decode cX10_held 1 = .ok (.istore_n 2, 1) := by decide +kernel
theorem dX10_held_2 : decode cX10_held 2 = .ok (.iconst 0, 1) := by decide +kernel
theorem dX10_held_3 : decode cX10_held 3 = .ok (.istore_n 3, 1) := by decide +kernel
theorem dX10_held_4 : decode cX10_held 4 = .ok (.iload_n 3, 1) := by decide +kernel
theorem dX10_held_5 : decode cX10_held 5 = .ok (.aload_n 0, 1) := by decide +kernel
theorem dX10_held_6 : decode cX10_held 6 = .ok (.iconst 1, 1) := by decide +kernel
theorem dX10_held_7 : decode cX10_held 7 = .ok (.invokevirtual 45, 3) := by decide +kernel
theorem dX10_held_10 : decode cX10_held 10 = .ok (.if_icmp .ge 22, 3) := by decide +kernel
theorem dX10_held_13 : decode cX10_held 13 = .ok (.aload_n 0, 1) := by decide +kernel
theorem dX10_held_14 : decode cX10_held 14 = .ok (.iload_n 3, 1) := by decide +kernel
theorem dX10_held_15 : decode cX10_held 15 = .ok (.iconst 0, 1) := by decide +kernel
theorem dX10_held_16 : decode cX10_held 16 = .ok (.invokevirtual 48, 3) := by decide +kernel
theorem dX10_held_19 : decode cX10_held 19 = .ok (.iload_n 1, 1) := by decide +kernel
theorem dX10_held_20 : decode cX10_held 20 = .ok (.if_icmp .ne 6, 3) := by decide +kernel
theorem dX10_held_23 : decode cX10_held 23 = .ok (.iinc 2 1, 3) := by decide +kernel
theorem dX10_held_26 : decode cX10_held 26 = .ok (.iinc 3 1, 3) := by decide +kernel
theorem dX10_held_29 : decode cX10_held 29 = .ok (.goto (-25), 3) := by decide +kernel
theorem dX10_held_32 : decode cX10_held 32 = .ok (.iload_n 2, 1) := by decide +kernel
theorem dX10_held_33 : decode cX10_held 33 = .ok (.ireturn, 1) := by decide +kernel
theorem dX10_inForce_0 : decode cX10_inForce 0 = .ok (.aload_n 0, 1) := by decide +kernel
theorem dX10_inForce_1 : decode cX10_inForce 1 = .ok (.getfield 11, 3) := by decide +kernel
theorem dX10_inForce_4 : decode cX10_inForce 4 = .ok (.sipush 196, 3) := by decide +kernel
theorem dX10_inForce_7 : decode cX10_inForce 7 = .ok (.iaload, 1) := by decide +kernel
theorem dX10_inForce_8 : decode cX10_inForce 8 = .ok (.ireturn, 1) := by decide +kernel
theorem dX10_isGood_0 : decode cX10_isGood 0 = .ok (.iload_n 1, 1) := by decide +kernel
theorem dX10_isGood_1 : decode cX10_isGood 1 = .ok (.ifCond .lt 19, 3) := by decide +kernel
theorem dX10_isGood_4 : decode cX10_isGood 4 = .ok (.iload_n 1, 1) := by decide +kernel
theorem dX10_isGood_5 : decode cX10_isGood 5 = .ok (.aload_n 0, 1) := by decide +kernel
theorem dX10_isGood_6 : decode cX10_isGood 6 = .ok (.getfield 11, 3) := by decide +kernel
theorem dX10_isGood_9 : decode cX10_isGood 9 = .ok (.sipush 192, 3) := by decide +kernel
theorem dX10_isGood_12 : decode cX10_isGood 12 = .ok (.iaload, 1) := by decide +kernel
theorem dX10_isGood_13 : decode cX10_isGood 13 = .ok (.if_icmp .ge 7, 3) := by decide +kernel
theorem dX10_isGood_16 : decode cX10_isGood 16 = .ok (.iconst 1, 1) := by decide +kernel
theorem dX10_isGood_17 : decode cX10_isGood 17 = .ok (.goto 4, 3) := by decide +kernel
theorem dX10_isGood_20 : decode cX10_isGood 20 = .ok (.iconst 0, 1) := by decide +kernel
theorem dX10_isGood_21 : decode cX10_isGood 21 = .ok (.ireturn, 1) := by decide +kernel
theorem dX10_isKept_0 : decode cX10_isKept 0 = .ok (.aload_n 0, 1) := by decide +kernel
theorem dX10_isKept_1 : decode cX10_isKept 1 = .ok (.getfield 21, 3) := by decide +kernel
theorem dX10_isKept_4 : decode cX10_isKept 4 = .ok (.ireturn, 1) := by decide +kernel
theorem dX10_isLord_0 : decode cX10_isLord 0 = .ok (.iload_n 1, 1) := by decide +kernel
theorem dX10_isLord_1 : decode cX10_isLord 1 = .ok (.ifCond .lt 19, 3) := by decide +kernel
theorem dX10_isLord_4 : decode cX10_isLord 4 = .ok (.iload_n 1, 1) := by decide +kernel
theorem dX10_isLord_5 : decode cX10_isLord 5 = .ok (.aload_n 0, 1) := by decide +kernel
theorem dX10_isLord_6 : decode cX10_isLord 6 = .ok (.getfield 11, 3) := by decide +kernel
theorem dX10_isLord_9 : decode cX10_isLord 9 = .ok (.sipush 191, 3) := by decide +kernel
theorem dX10_isLord_12 : decode cX10_isLord 12 = .ok (.iaload, 1) := by decide +kernel
theorem dX10_isLord_13 : decode cX10_isLord 13 = .ok (.if_icmp .ge 7, 3) := by decide +kernel
theorem dX10_isLord_16 : decode cX10_isLord 16 = .ok (.iconst 1, 1) := by decide +kernel
theorem dX10_isLord_17 : decode cX10_isLord 17 = .ok (.goto 4, 3) := by decide +kernel
theorem dX10_isLord_20 : decode cX10_isLord 20 = .ok (.iconst 0, 1) := by decide +kernel
theorem dX10_isLord_21 : decode cX10_isLord 21 = .ok (.ireturn, 1) := by decide +kernel
theorem dX10_isOwnedAndHeld_0 : decode cX10_isOwnedAndHeld 0 = .ok (.bipush 39, 2) := by decide +kernel
theorem dX10_isOwnedAndHeld_2 : decode cX10_isOwnedAndHeld 2 = .ok (.iload_n 1, 1) := by decide +kernel
theorem dX10_isOwnedAndHeld_3 : decode cX10_isOwnedAndHeld 3 = .ok (.iconst 5, 1) := by decide +kernel
theorem dX10_isOwnedAndHeld_4 : decode cX10_isOwnedAndHeld 4 = .ok (.imul, 1) := by decide +kernel
theorem dX10_isOwnedAndHeld_5 : decode cX10_isOwnedAndHeld 5 = .ok (.iadd, 1) := by decide +kernel
theorem dX10_isOwnedAndHeld_6 : decode cX10_isOwnedAndHeld 6 = .ok (.istore_n 3, 1) := by decide +kernel
theorem dX10_isOwnedAndHeld_7 : decode cX10_isOwnedAndHeld 7 = .ok (.aload_n 0, 1) := by decide +kernel
theorem dX10_isOwnedAndHeld_8 : decode cX10_isOwnedAndHeld 8 = .ok (.getfield 11, 3) := by decide +kernel
theorem dX10_isOwnedAndHeld_11 : decode cX10_isOwnedAndHeld 11 = .ok (.iload_n 3, 1) := by decide +kernel
theorem dX10_isOwnedAndHeld_12 : decode cX10_isOwnedAndHeld 12 = .ok (.iconst 0, 1) := by decide +kernel
theorem dX10_isOwnedAndHeld_13 : decode cX10_isOwnedAndHeld 13 = .ok (.iadd, 1) := by decide +kernel
theorem dX10_isOwnedAndHeld_14 : decode cX10_isOwnedAndHeld 14 = .ok (.iaload, 1) := by decide +kernel
theorem dX10_isOwnedAndHeld_15 : decode cX10_isOwnedAndHeld 15 = .ok (.iload_n 2, 1) := by decide +kernel
theorem dX10_isOwnedAndHeld_16 : decode cX10_isOwnedAndHeld 16 = .ok (.if_icmp .ne 19, 3) := by decide +kernel
theorem dX10_isOwnedAndHeld_19 : decode cX10_isOwnedAndHeld 19 = .ok (.aload_n 0, 1) := by decide +kernel
theorem dX10_isOwnedAndHeld_20 : decode cX10_isOwnedAndHeld 20 = .ok (.getfield 11, 3) := by decide +kernel
theorem dX10_isOwnedAndHeld_23 : decode cX10_isOwnedAndHeld 23 = .ok (.iload_n 3, 1) := by decide +kernel
theorem dX10_isOwnedAndHeld_24 : decode cX10_isOwnedAndHeld 24 = .ok (.iconst 1, 1) := by decide +kernel
theorem dX10_isOwnedAndHeld_25 : decode cX10_isOwnedAndHeld 25 = .ok (.iadd, 1) := by decide +kernel
theorem dX10_isOwnedAndHeld_26 : decode cX10_isOwnedAndHeld 26 = .ok (.iaload, 1) := by decide +kernel
theorem dX10_isOwnedAndHeld_27 : decode cX10_isOwnedAndHeld 27 = .ok (.iload_n 2, 1) := by decide +kernel
theorem dX10_isOwnedAndHeld_28 : decode cX10_isOwnedAndHeld 28 = .ok (.if_icmp .ne 7, 3) := by decide +kernel
theorem dX10_isOwnedAndHeld_31 : decode cX10_isOwnedAndHeld 31 = .ok (.iconst 1, 1) := by decide +kernel
theorem dX10_isOwnedAndHeld_32 : decode cX10_isOwnedAndHeld 32 = .ok (.goto 4, 3) := by decide +kernel
theorem dX10_isOwnedAndHeld_35 : decode cX10_isOwnedAndHeld 35 = .ok (.iconst 0, 1) := by decide +kernel
theorem dX10_isOwnedAndHeld_36 : decode cX10_isOwnedAndHeld 36 = .ok (.ireturn, 1) := by decide +kernel
theorem dX10_markKept_0 : decode cX10_markKept 0 = .ok (.aload_n 0, 1) := by decide +kernel
theorem dX10_markKept_1 : decode cX10_markKept 1 = .ok (.iconst 1, 1) := by decide +kernel
theorem dX10_markKept_2 : decode cX10_markKept 2 = .ok (.putfield 21, 3) := by decide +kernel
theorem dX10_markKept_5 : decode cX10_markKept 5 = .ok (.return_, 1) := by decide +kernel
theorem dX10_price_0 : decode cX10_price 0 = .ok (.aload_n 0, 1) := by decide +kernel
theorem dX10_price_1 : decode cX10_price 1 = .ok (.getfield 11, 3) := by decide +kernel
theorem dX10_price_4 : decode cX10_price 4 = .ok (.sipush 213, 3) := by decide +kernel
theorem dX10_price_7 : decode cX10_price 7 = .ok (.iload_n 1, 1) := by decide +kernel
theorem dX10_price_8 : decode cX10_price 8 = .ok (.iadd, 1) := by decide +kernel
theorem dX10_price_9 : decode cX10_price 9 = .ok (.iaload, 1) := by decide +kernel
theorem dX10_price_10 : decode cX10_price 10 = .ok (.ireturn, 1) := by decide +kernel
theorem dX10_restoreFrom_0 : decode cX10_restoreFrom 0 = .ok (.aload_n 1, 1) := by decide +kernel
theorem dX10_restoreFrom_1 : decode cX10_restoreFrom 1 = .ok (.iload_n 2, 1) := by decide +kernel
theorem dX10_restoreFrom_2 : decode cX10_restoreFrom 2 = .ok (.aload_n 0, 1) := by decide +kernel
theorem dX10_restoreFrom_3 : decode cX10_restoreFrom 3 = .ok (.getfield 11, 3) := by decide +kernel
theorem dX10_restoreFrom_6 : decode cX10_restoreFrom 6 = .ok (.iconst 0, 1) := by decide +kernel
theorem dX10_restoreFrom_7 : decode cX10_restoreFrom 7 = .ok (.sipush 191, 3) := by decide +kernel
theorem dX10_restoreFrom_10 : decode cX10_restoreFrom 10 = .ok (.invokestatic 31, 3) := by decide +kernel
theorem dX10_restoreFrom_13 : decode cX10_restoreFrom 13 = .ok (.return_, 1) := by decide +kernel
theorem dX10_roadAt_0 : decode cX10_roadAt 0 = .ok (.aload_n 0, 1) := by decide +kernel
theorem dX10_roadAt_1 : decode cX10_roadAt 1 = .ok (.getfield 11, 3) := by decide +kernel
theorem dX10_roadAt_4 : decode cX10_roadAt 4 = .ok (.sipush 218, 3) := by decide +kernel
theorem dX10_roadAt_7 : decode cX10_roadAt 7 = .ok (.iload_n 1, 1) := by decide +kernel
theorem dX10_roadAt_8 : decode cX10_roadAt 8 = .ok (.iconst 4, 1) := by decide +kernel
theorem dX10_roadAt_9 : decode cX10_roadAt 9 = .ok (.imul, 1) := by decide +kernel
theorem dX10_roadAt_10 : decode cX10_roadAt 10 = .ok (.iadd, 1) := by decide +kernel
theorem dX10_roadAt_11 : decode cX10_roadAt 11 = .ok (.iload_n 2, 1) := by decide +kernel
theorem dX10_roadAt_12 : decode cX10_roadAt 12 = .ok (.iadd, 1) := by decide +kernel
theorem dX10_roadAt_13 : decode cX10_roadAt 13 = .ok (.iaload, 1) := by decide +kernel
theorem dX10_roadAt_14 : decode cX10_roadAt 14 = .ok (.ireturn, 1) := by decide +kernel
theorem dX10_saveTo_0 : decode cX10_saveTo 0 = .ok (.aload_n 0, 1) := by decide +kernel
theorem dX10_saveTo_1 : decode cX10_saveTo 1 = .ok (.getfield 11, 3) := by decide +kernel
theorem dX10_saveTo_4 : decode cX10_saveTo 4 = .ok (.iconst 0, 1) := by decide +kernel
theorem dX10_saveTo_5 : decode cX10_saveTo 5 = .ok (.aload_n 1, 1) := by decide +kernel
theorem dX10_saveTo_6 : decode cX10_saveTo 6 = .ok (.iload_n 2, 1) := by decide +kernel
theorem dX10_saveTo_7 : decode cX10_saveTo 7 = .ok (.sipush 191, 3) := by decide +kernel
theorem dX10_saveTo_10 : decode cX10_saveTo 10 = .ok (.invokestatic 31, 3) := by decide +kernel
theorem dX10_saveTo_13 : decode cX10_saveTo 13 = .ok (.return_, 1) := by decide +kernel
theorem dX10_seenOf_0 : decode cX10_seenOf 0 = .ok (.iload_n 2, 1) := by decide +kernel
theorem dX10_seenOf_1 : decode cX10_seenOf 1 = .ok (.ifCond .lt 15, 3) := by decide +kernel
theorem dX10_seenOf_4 : decode cX10_seenOf 4 = .ok (.iload_n 2, 1) := by decide +kernel
theorem dX10_seenOf_5 : decode cX10_seenOf 5 = .ok (.iconst 5, 1) := by decide +kernel
theorem dX10_seenOf_6 : decode cX10_seenOf 6 = .ok (.if_icmp .gt 10, 3) := by decide +kernel
theorem dX10_seenOf_9 : decode cX10_seenOf 9 = .ok (.aload_n 0, 1) := by decide +kernel
theorem dX10_seenOf_10 : decode cX10_seenOf 10 = .ok (.iload_n 1, 1) := by decide +kernel
theorem dX10_seenOf_11 : decode cX10_seenOf 11 = .ok (.iload_n 2, 1) := by decide +kernel
theorem dX10_seenOf_12 : decode cX10_seenOf 12 = .ok (.invokevirtual 37, 3) := by decide +kernel
theorem dX10_seenOf_15 : decode cX10_seenOf 15 = .ok (.ireturn, 1) := by decide +kernel
theorem dX10_seenOf_16 : decode cX10_seenOf 16 = .ok (.iload_n 2, 1) := by decide +kernel
theorem dX10_seenOf_17 : decode cX10_seenOf 17 = .ok (.bipush 6, 2) := by decide +kernel
theorem dX10_seenOf_19 : decode cX10_seenOf 19 = .ok (.if_icmp .ne 11, 3) := by decide +kernel
theorem dX10_seenOf_22 : decode cX10_seenOf 22 = .ok (.aload_n 0, 1) := by decide +kernel
theorem dX10_seenOf_23 : decode cX10_seenOf 23 = .ok (.iload_n 1, 1) := by decide +kernel
theorem dX10_seenOf_24 : decode cX10_seenOf 24 = .ok (.invokevirtual 41, 3) := by decide +kernel
theorem dX10_seenOf_27 : decode cX10_seenOf 27 = .ok (.goto 4, 3) := by decide +kernel
theorem dX10_seenOf_30 : decode cX10_seenOf 30 = .ok (.iconst (-1), 1) := by decide +kernel
theorem dX10_seenOf_31 : decode cX10_seenOf 31 = .ok (.ireturn, 1) := by decide +kernel
theorem dX10_setForce_0 : decode cX10_setForce 0 = .ok (.aload_n 0, 1) := by decide +kernel
theorem dX10_setForce_1 : decode cX10_setForce 1 = .ok (.getfield 11, 3) := by decide +kernel
theorem dX10_setForce_4 : decode cX10_setForce 4 = .ok (.sipush 196, 3) := by decide +kernel
theorem dX10_setForce_7 : decode cX10_setForce 7 = .ok (.iload_n 1, 1) := by decide +kernel
theorem dX10_setForce_8 : decode cX10_setForce 8 = .ok (.iastore, 1) := by decide +kernel
theorem dX10_setForce_9 : decode cX10_setForce 9 = .ok (.return_, 1) := by decide +kernel
theorem dX10_standingAgainst_0 : decode cX10_standingAgainst 0 = .ok (.iconst 0, 1) := by decide +kernel
theorem dX10_standingAgainst_1 : decode cX10_standingAgainst 1 = .ok (.istore_n 2, 1) := by decide +kernel
theorem dX10_standingAgainst_2 : decode cX10_standingAgainst 2 = .ok (.iconst 0, 1) := by decide +kernel
theorem dX10_standingAgainst_3 : decode cX10_standingAgainst 3 = .ok (.istore_n 3, 1) := by decide +kernel
theorem dX10_standingAgainst_4 : decode cX10_standingAgainst 4 = .ok (.iload_n 3, 1) := by decide +kernel
theorem dX10_standingAgainst_5 : decode cX10_standingAgainst 5 = .ok (.bipush 6, 2) := by decide +kernel
theorem dX10_standingAgainst_7 : decode cX10_standingAgainst 7 = .ok (.if_icmp .ge 22, 3) := by decide +kernel
theorem dX10_standingAgainst_10 : decode cX10_standingAgainst 10 = .ok (.aload_n 0, 1) := by decide +kernel
theorem dX10_standingAgainst_11 : decode cX10_standingAgainst 11 = .ok (.iload_n 1, 1) := by decide +kernel
theorem dX10_standingAgainst_12 : decode cX10_standingAgainst 12 = .ok (.iload_n 3, 1) := by decide +kernel
theorem dX10_standingAgainst_13 : decode cX10_standingAgainst 13 = .ok (.invokevirtual 51, 3) := by decide +kernel
theorem dX10_standingAgainst_16 : decode cX10_standingAgainst 16 = .ok (.iconst (-1), 1) := by decide +kernel
theorem dX10_standingAgainst_17 : decode cX10_standingAgainst 17 = .ok (.if_icmp .eq 6, 3) := by decide +kernel
theorem dX10_standingAgainst_20 : decode cX10_standingAgainst 20 = .ok (.iinc 2 1, 3) := by decide +kernel
theorem dX10_standingAgainst_23 : decode cX10_standingAgainst 23 = .ok (.iinc 3 1, 3) := by decide +kernel
theorem dX10_standingAgainst_26 : decode cX10_standingAgainst 26 = .ok (.goto (-22), 3) := by decide +kernel
theorem dX10_standingAgainst_29 : decode cX10_standingAgainst 29 = .ok (.iload_n 2, 1) := by decide +kernel
theorem dX10_standingAgainst_30 : decode cX10_standingAgainst 30 = .ok (.ireturn, 1) := by decide +kernel
theorem dX10_standing_0 : decode cX10_standing 0 = .ok (.iconst 0, 1) := by decide +kernel
theorem dX10_standing_1 : decode cX10_standing 1 = .ok (.istore_n 1, 1) := by decide +kernel
theorem dX10_standing_2 : decode cX10_standing 2 = .ok (.iconst 0, 1) := by decide +kernel
theorem dX10_standing_3 : decode cX10_standing 3 = .ok (.istore_n 2, 1) := by decide +kernel
theorem dX10_standing_4 : decode cX10_standing 4 = .ok (.iload_n 2, 1) := by decide +kernel
theorem dX10_standing_5 : decode cX10_standing 5 = .ok (.bipush 6, 2) := by decide +kernel
theorem dX10_standing_7 : decode cX10_standing 7 = .ok (.if_icmp .ge 17, 3) := by decide +kernel
theorem dX10_standing_10 : decode cX10_standing 10 = .ok (.iload_n 1, 1) := by decide +kernel
theorem dX10_standing_11 : decode cX10_standing 11 = .ok (.aload_n 0, 1) := by decide +kernel
theorem dX10_standing_12 : decode cX10_standing 12 = .ok (.iload_n 2, 1) := by decide +kernel
theorem dX10_standing_13 : decode cX10_standing 13 = .ok (.invokevirtual 54, 3) := by decide +kernel
theorem dX10_standing_16 : decode cX10_standing 16 = .ok (.iadd, 1) := by decide +kernel
theorem dX10_standing_17 : decode cX10_standing 17 = .ok (.istore_n 1, 1) := by decide +kernel
theorem dX10_standing_18 : decode cX10_standing 18 = .ok (.iinc 2 1, 3) := by decide +kernel
theorem dX10_standing_21 : decode cX10_standing 21 = .ok (.goto (-17), 3) := by decide +kernel
theorem dX10_standing_24 : decode cX10_standing 24 = .ok (.iload_n 1, 1) := by decide +kernel
theorem dX10_standing_25 : decode cX10_standing 25 = .ok (.ireturn, 1) := by decide +kernel
theorem dX10_tellHolder_0 : decode cX10_tellHolder 0 = .ok (.aload_n 0, 1) := by decide +kernel
theorem dX10_tellHolder_1 : decode cX10_tellHolder 1 = .ok (.getfield 11, 3) := by decide +kernel
theorem dX10_tellHolder_4 : decode cX10_tellHolder 4 = .ok (.sipush 197, 3) := by decide +kernel
theorem dX10_tellHolder_7 : decode cX10_tellHolder 7 = .ok (.iload_n 1, 1) := by decide +kernel
theorem dX10_tellHolder_8 : decode cX10_tellHolder 8 = .ok (.iadd, 1) := by decide +kernel
theorem dX10_tellHolder_9 : decode cX10_tellHolder 9 = .ok (.iload_n 2, 1) := by decide +kernel
theorem dX10_tellHolder_10 : decode cX10_tellHolder 10 = .ok (.iastore, 1) := by decide +kernel
theorem dX10_tellHolder_11 : decode cX10_tellHolder 11 = .ok (.return_, 1) := by decide +kernel
theorem dX10_toldHolder_0 : decode cX10_toldHolder 0 = .ok (.aload_n 0, 1) := by decide +kernel
theorem dX10_toldHolder_1 : decode cX10_toldHolder 1 = .ok (.getfield 11, 3) := by decide +kernel
theorem dX10_toldHolder_4 : decode cX10_toldHolder 4 = .ok (.sipush 197, 3) := by decide +kernel
theorem dX10_toldHolder_7 : decode cX10_toldHolder 7 = .ok (.iload_n 1, 1) := by decide +kernel
theorem dX10_toldHolder_8 : decode cX10_toldHolder 8 = .ok (.iadd, 1) := by decide +kernel
theorem dX10_toldHolder_9 : decode cX10_toldHolder 9 = .ok (.iaload, 1) := by decide +kernel
theorem dX10_toldHolder_10 : decode cX10_toldHolder 10 = .ok (.ireturn, 1) := by decide +kernel
theorem dX11_accept_0 : decode cX11_accept 0 = .ok (.aload_n 0, 1) := by decide +kernel
theorem dX11_accept_1 : decode cX11_accept 1 = .ok (.iconst 0, 1) := by decide +kernel
theorem dX11_accept_2 : decode cX11_accept 2 = .ok (.putfield 93, 3) := by decide +kernel
theorem dX11_accept_5 : decode cX11_accept 5 = .ok (.iload_n 1, 1) := by decide +kernel
theorem dX11_accept_6 : decode cX11_accept 6 = .ok (.ireturn, 1) := by decide +kernel
theorem dX11_asks_0 : decode cX11_asks 0 = .ok (.aload_n 0, 1) := by decide +kernel
theorem dX11_asks_1 : decode cX11_asks 1 = .ok (.getfield 10, 3) := by decide +kernel
theorem dX11_asks_4 : decode cX11_asks 4 = .ok (.iload_n 1, 1) := by decide +kernel
theorem dX11_asks_5 : decode cX11_asks 5 = .ok (.invokevirtual 146, 3) := by decide +kernel
theorem dX11_asks_8 : decode cX11_asks 8 = .ok (.ifCond .eq 14, 3) := by decide +kernel
theorem dX11_asks_11 : decode cX11_asks 11 = .ok (.aload_n 0, 1) := by decide +kernel
theorem dX11_asks_12 : decode cX11_asks 12 = .ok (.getfield 10, 3) := by decide +kernel
theorem dX11_asks_15 : decode cX11_asks 15 = .ok (.iload_n 2, 1) := by decide +kernel
theorem dX11_asks_16 : decode cX11_asks 16 = .ok (.invokevirtual 121, 3) := by decide +kernel
theorem dX11_asks_19 : decode cX11_asks 19 = .ok (.ifCond .ne 5, 3) := by decide +kernel
theorem dX11_asks_22 : decode cX11_asks 22 = .ok (.iconst (-1), 1) := by decide +kernel
theorem dX11_asks_23 : decode cX11_asks 23 = .ok (.ireturn, 1) := by decide +kernel
theorem dX11_asks_24 : decode cX11_asks 24 = .ok (.aload_n 0, 1) := by decide +kernel
theorem dX11_asks_25 : decode cX11_asks 25 = .ok (.getfield 10, 3) := by decide +kernel
theorem dX11_asks_28 : decode cX11_asks 28 = .ok (.iload_n 1, 1) := by decide +kernel
theorem dX11_asks_29 : decode cX11_asks 29 = .ok (.iconst 0, 1) := by decide +kernel
theorem dX11_asks_30 : decode cX11_asks 30 = .ok (.invokevirtual 149, 3) := by decide +kernel
theorem dX11_asks_33 : decode cX11_asks 33 = .ok (.istore 4, 2) := by decide +kernel
theorem dX11_asks_35 : decode cX11_asks 35 = .ok (.iload 4, 2) := by decide +kernel
theorem dX11_asks_37 : decode cX11_asks 37 = .ok (.iload_n 2, 1) := by decide +kernel
theorem dX11_asks_38 : decode cX11_asks 38 = .ok (.if_icmp .ne 5, 3) := by decide +kernel
theorem dX11_asks_41 : decode cX11_asks 41 = .ok (.iconst (-1), 1) := by decide +kernel
theorem dX11_asks_42 : decode cX11_asks 42 = .ok (.ireturn, 1) := by decide +kernel
theorem dX11_asks_43 : decode cX11_asks 43 = .ok (.iload_n 3, 1) := by decide +kernel
theorem dX11_asks_44 : decode cX11_asks 44 = .ok (.tableswitch 88 0 2 #[28, 44, 68], 28) := by decide +kernel
theorem dX11_asks_72 : decode cX11_asks 72 = .ok (.aload_n 0, 1) := by decide +kernel
theorem dX11_asks_73 : decode cX11_asks 73 = .ok (.getfield 39, 3) := by decide +kernel
theorem dX11_asks_76 : decode cX11_asks 76 = .ok (.aload_n 0, 1) := by decide +kernel
theorem dX11_asks_77 : decode cX11_asks 77 = .ok (.getfield 10, 3) := by decide +kernel
theorem dX11_asks_80 : decode cX11_asks 80 = .ok (.iload_n 1, 1) := by decide +kernel
theorem dX11_asks_81 : decode cX11_asks 81 = .ok (.iload 4, 2) := by decide +kernel
theorem dX11_asks_83 : decode cX11_asks 83 = .ok (.iload_n 2, 1) := by decide +kernel
theorem dX11_asks_84 : decode cX11_asks 84 = .ok (.invokevirtual 216, 3) := by decide +kernel
theorem dX11_asks_87 : decode cX11_asks 87 = .ok (.ireturn, 1) := by decide +kernel
theorem dX11_asks_88 : decode cX11_asks 88 = .ok (.aload_n 0, 1) := by decide +kernel
theorem dX11_asks_89 : decode cX11_asks 89 = .ok (.getfield 39, 3) := by decide +kernel
theorem dX11_asks_92 : decode cX11_asks 92 = .ok (.aload_n 0, 1) := by decide +kernel
theorem dX11_asks_93 : decode cX11_asks 93 = .ok (.getfield 10, 3) := by decide +kernel
theorem dX11_asks_96 : decode cX11_asks 96 = .ok (.iload_n 1, 1) := by decide +kernel
theorem dX11_asks_97 : decode cX11_asks 97 = .ok (.iload 4, 2) := by decide +kernel
theorem dX11_asks_99 : decode cX11_asks 99 = .ok (.iload_n 2, 1) := by decide +kernel
theorem dX11_asks_100 : decode cX11_asks 100 = .ok (.invokevirtual 219, 3) := by decide +kernel
theorem dX11_asks_103 : decode cX11_asks 103 = .ok (.ifCond .eq 7, 3) := by decide +kernel
theorem dX11_asks_106 : decode cX11_asks 106 = .ok (.iconst 1, 1) := by decide +kernel
theorem dX11_asks_107 : decode cX11_asks 107 = .ok (.goto 4, 3) := by decide +kernel
theorem dX11_asks_110 : decode cX11_asks 110 = .ok (.iconst 0, 1) := by decide +kernel
theorem dX11_asks_111 : decode cX11_asks 111 = .ok (.ireturn, 1) := by decide +kernel
theorem dX11_asks_112 : decode cX11_asks 112 = .ok (.aload_n 0, 1) := by decide +kernel
theorem dX11_asks_113 : decode cX11_asks 113 = .ok (.getfield 10, 3) := by decide +kernel
theorem dX11_asks_116 : decode cX11_asks 116 = .ok (.iload_n 1, 1) := by decide +kernel
theorem dX11_asks_117 : decode cX11_asks 117 = .ok (.iconst 1, 1) := by decide +kernel
theorem dX11_asks_118 : decode cX11_asks 118 = .ok (.invokevirtual 149, 3) := by decide +kernel
theorem dX11_asks_121 : decode cX11_asks 121 = .ok (.iload 4, 2) := by decide +kernel
theorem dX11_asks_123 : decode cX11_asks 123 = .ok (.if_icmp .eq 7, 3) := by decide +kernel
theorem dX11_asks_126 : decode cX11_asks 126 = .ok (.iconst 1, 1) := by decide +kernel
theorem dX11_asks_127 : decode cX11_asks 127 = .ok (.goto 4, 3) := by decide +kernel
theorem dX11_asks_130 : decode cX11_asks 130 = .ok (.iconst 0, 1) := by decide +kernel
theorem dX11_asks_131 : decode cX11_asks 131 = .ok (.ireturn, 1) := by decide +kernel
theorem dX11_asks_132 : decode cX11_asks 132 = .ok (.iconst (-1), 1) := by decide +kernel
theorem dX11_asks_133 : decode cX11_asks 133 = .ok (.ireturn, 1) := by decide +kernel
theorem dX11_within_0 : decode cX11_within 0 = .ok (.iload_n 0, 1) := by decide +kernel
theorem dX11_within_1 : decode cX11_within 1 = .ok (.iload_n 1, 1) := by decide +kernel
theorem dX11_within_2 : decode cX11_within 2 = .ok (.if_icmp .lt 12, 3) := by decide +kernel
theorem dX11_within_5 : decode cX11_within 5 = .ok (.iload_n 0, 1) := by decide +kernel
theorem dX11_within_6 : decode cX11_within 6 = .ok (.iload_n 2, 1) := by decide +kernel
theorem dX11_within_7 : decode cX11_within 7 = .ok (.if_icmp .gt 7, 3) := by decide +kernel
theorem dX11_within_10 : decode cX11_within 10 = .ok (.iconst 1, 1) := by decide +kernel
theorem dX11_within_11 : decode cX11_within 11 = .ok (.goto 4, 3) := by decide +kernel
theorem dX11_within_14 : decode cX11_within 14 = .ok (.iconst 0, 1) := by decide +kernel
theorem dX11_within_15 : decode cX11_within 15 = .ok (.ireturn, 1) := by decide +kernel
theorem dX2_costs_0 : decode cX2_costs 0 = .ok (.aload_n 0, 1) := by decide +kernel
theorem dX2_costs_1 : decode cX2_costs 1 = .ok (.aload_n 1, 1) := by decide +kernel
theorem dX2_costs_2 : decode cX2_costs 2 = .ok (.iload_n 2, 1) := by decide +kernel
theorem dX2_costs_3 : decode cX2_costs 3 = .ok (.iload 4, 2) := by decide +kernel
theorem dX2_costs_5 : decode cX2_costs 5 = .ok (.invokevirtual 29, 3) := by decide +kernel
theorem dX2_costs_8 : decode cX2_costs 8 = .ok (.aload_n 0, 1) := by decide +kernel
theorem dX2_costs_9 : decode cX2_costs 9 = .ok (.getfield 11, 3) := by decide +kernel
theorem dX2_costs_12 : decode cX2_costs 12 = .ok (.iconst 5, 1) := by decide +kernel
theorem dX2_costs_13 : decode cX2_costs 13 = .ok (.iload_n 3, 1) := by decide +kernel
theorem dX2_costs_14 : decode cX2_costs 14 = .ok (.iastore, 1) := by decide +kernel
theorem dX2_costs_15 : decode cX2_costs 15 = .ok (.aload_n 0, 1) := by decide +kernel
theorem dX2_costs_16 : decode cX2_costs 16 = .ok (.aload_n 1, 1) := by decide +kernel
theorem dX2_costs_17 : decode cX2_costs 17 = .ok (.invokevirtual 33, 3) := by decide +kernel
theorem dX2_costs_20 : decode cX2_costs 20 = .ok (.sipush 257, 3) := by decide +kernel
theorem dX2_costs_23 : decode cX2_costs 23 = .ok (.aload_n 1, 1) := by decide +kernel
theorem dX2_costs_24 : decode cX2_costs 24 = .ok (.iload_n 2, 1) := by decide +kernel
theorem dX2_costs_25 : decode cX2_costs 25 = .ok (.iconst 3, 1) := by decide +kernel
theorem dX2_costs_26 : decode cX2_costs 26 = .ok (.invokevirtual 39, 3) := by decide +kernel
theorem dX2_costs_29 : decode cX2_costs 29 = .ok (.bipush 99, 2) := by decide +kernel
theorem dX2_costs_31 : decode cX2_costs 31 = .ok (.invokevirtual 43, 3) := by decide +kernel
theorem dX2_costs_34 : decode cX2_costs 34 = .ok (.ireturn, 1) := by decide +kernel
theorem dX11_at_0 : decode cX11_at 0 = .ok (.aload_n 0, 1) := by decide +kernel
theorem dX11_at_1 : decode cX11_at 1 = .ok (.getfield 10, 3) := by decide +kernel
theorem dX11_at_4 : decode cX11_at 4 = .ok (.iload_n 1, 1) := by decide +kernel
theorem dX11_at_5 : decode cX11_at 5 = .ok (.invokevirtual 146, 3) := by decide +kernel
theorem dX11_at_8 : decode cX11_at 8 = .ok (.ifCond .eq 12, 3) := by decide +kernel
theorem dX11_at_11 : decode cX11_at 11 = .ok (.iload_n 2, 1) := by decide +kernel
theorem dX11_at_12 : decode cX11_at 12 = .ok (.iconst 0, 1) := by decide +kernel
theorem dX11_at_13 : decode cX11_at 13 = .ok (.iconst 5, 1) := by decide +kernel
theorem dX11_at_14 : decode cX11_at 14 = .ok (.invokestatic 100, 3) := by decide +kernel
theorem dX11_at_17 : decode cX11_at 17 = .ok (.ifCond .ne 5, 3) := by decide +kernel
theorem dX11_at_20 : decode cX11_at 20 = .ok (.iconst (-1), 1) := by decide +kernel
theorem dX11_at_21 : decode cX11_at 21 = .ok (.ireturn, 1) := by decide +kernel
theorem dX11_at_22 : decode cX11_at 22 = .ok (.iload_n 2, 1) := by decide +kernel
theorem dX11_at_23 : decode cX11_at 23 = .ok (.iconst 5, 1) := by decide +kernel
theorem dX11_at_24 : decode cX11_at 24 = .ok (.if_icmp .ne 33, 3) := by decide +kernel
theorem dX11_at_27 : decode cX11_at 27 = .ok (.aload_n 0, 1) := by decide +kernel
theorem dX11_at_28 : decode cX11_at 28 = .ok (.getfield 39, 3) := by decide +kernel
theorem dX11_at_31 : decode cX11_at 31 = .ok (.aload_n 0, 1) := by decide +kernel
theorem dX11_at_32 : decode cX11_at 32 = .ok (.getfield 10, 3) := by decide +kernel
theorem dX11_at_35 : decode cX11_at 35 = .ok (.iload_n 1, 1) := by decide +kernel
theorem dX11_at_36 : decode cX11_at 36 = .ok (.aload_n 0, 1) := by decide +kernel
theorem dX11_at_37 : decode cX11_at 37 = .ok (.getfield 10, 3) := by decide +kernel
theorem dX11_at_40 : decode cX11_at 40 = .ok (.iload_n 1, 1) := by decide +kernel
theorem dX11_at_41 : decode cX11_at 41 = .ok (.iconst 0, 1) := by decide +kernel
theorem dX11_at_42 : decode cX11_at 42 = .ok (.invokevirtual 149, 3) := by decide +kernel
theorem dX11_at_45 : decode cX11_at 45 = .ok (.aload_n 0, 1) := by decide +kernel
theorem dX11_at_46 : decode cX11_at 46 = .ok (.getfield 10, 3) := by decide +kernel
theorem dX11_at_49 : decode cX11_at 49 = .ok (.iconst 0, 1) := by decide +kernel
theorem dX11_at_50 : decode cX11_at 50 = .ok (.invokevirtual 125, 3) := by decide +kernel
theorem dX11_at_53 : decode cX11_at 53 = .ok (.invokevirtual 152, 3) := by decide +kernel
theorem dX11_at_56 : decode cX11_at 56 = .ok (.ireturn, 1) := by decide +kernel
theorem dX11_at_57 : decode cX11_at 57 = .ok (.aload_n 0, 1) := by decide +kernel
theorem dX11_at_58 : decode cX11_at 58 = .ok (.getfield 10, 3) := by decide +kernel
theorem dX11_at_61 : decode cX11_at 61 = .ok (.iload_n 1, 1) := by decide +kernel
theorem dX11_at_62 : decode cX11_at 62 = .ok (.iload_n 2, 1) := by decide +kernel
theorem dX11_at_63 : decode cX11_at 63 = .ok (.invokevirtual 149, 3) := by decide +kernel
theorem dX11_at_66 : decode cX11_at 66 = .ok (.ireturn, 1) := by decide +kernel
theorem dX11_refuse_0 : decode cX11_refuse 0 = .ok (.aload_n 0, 1) := by decide +kernel
theorem dX11_refuse_1 : decode cX11_refuse 1 = .ok (.iload_n 1, 1) := by decide +kernel
theorem dX11_refuse_2 : decode cX11_refuse 2 = .ok (.putfield 93, 3) := by decide +kernel
theorem dX11_refuse_5 : decode cX11_refuse 5 = .ok (.iload_n 1, 1) := by decide +kernel
theorem dX11_refuse_6 : decode cX11_refuse 6 = .ok (.ifCond .ge 24, 3) := by decide +kernel
theorem dX11_refuse_9 : decode cX11_refuse 9 = .ok (.iload_n 1, 1) := by decide +kernel
theorem dX11_refuse_10 : decode cX11_refuse 10 = .ok (.aload_n 0, 1) := by decide +kernel
theorem dX11_refuse_11 : decode cX11_refuse 11 = .ok (.getfield 89, 3) := by decide +kernel
theorem dX11_refuse_14 : decode cX11_refuse 14 = .ok (.arraylength, 1) := by decide +kernel
theorem dX11_refuse_15 : decode cX11_refuse 15 = .ok (.ineg, 1) := by decide +kernel
theorem dX11_refuse_16 : decode cX11_refuse 16 = .ok (.if_icmp .le 14, 3) := by decide +kernel
theorem dX11_refuse_19 : decode cX11_refuse 19 = .ok (.aload_n 0, 1) := by decide +kernel
theorem dX11_refuse_20 : decode cX11_refuse 20 = .ok (.getfield 89, 3) := by decide +kernel
theorem dX11_refuse_23 : decode cX11_refuse 23 = .ok (.iload_n 1, 1) := by decide +kernel
theorem dX11_refuse_24 : decode cX11_refuse 24 = .ok (.ineg, 1) := by decide +kernel
theorem dX11_refuse_25 : decode cX11_refuse 25 = .ok (.dup2, 1) := by decide +kernel
theorem dX11_refuse_26 : decode cX11_refuse 26 = .ok (.iaload, 1) := by decide +kernel
theorem dX11_refuse_27 : decode cX11_refuse 27 = .ok (.iconst 1, 1) := by decide +kernel
theorem dX11_refuse_28 : decode cX11_refuse 28 = .ok (.iadd, 1) := by decide +kernel
theorem dX11_refuse_29 : decode cX11_refuse 29 = .ok (.iastore, 1) := by decide +kernel
theorem dX11_refuse_30 : decode cX11_refuse 30 = .ok (.iload_n 1, 1) := by decide +kernel
theorem dX11_refuse_31 : decode cX11_refuse 31 = .ok (.ireturn, 1) := by decide +kernel
theorem dX4_keep_0 : decode cX4_keep 0 = .ok (.aload_n 1, 1) := by decide +kernel
theorem dX4_keep_1 : decode cX4_keep 1 = .ok (.aload_n 0, 1) := by decide +kernel
theorem dX4_keep_2 : decode cX4_keep 2 = .ok (.getfield 13, 3) := by decide +kernel
theorem dX4_keep_5 : decode cX4_keep 5 = .ok (.aload_n 0, 1) := by decide +kernel
theorem dX4_keep_6 : decode cX4_keep 6 = .ok (.getfield 20, 3) := by decide +kernel
theorem dX4_keep_9 : decode cX4_keep 9 = .ok (.sipush 191, 3) := by decide +kernel
theorem dX4_keep_12 : decode cX4_keep 12 = .ok (.imul, 1) := by decide +kernel
theorem dX4_keep_13 : decode cX4_keep 13 = .ok (.invokevirtual 33, 3) := by decide +kernel
theorem dX4_keep_16 : decode cX4_keep 16 = .ok (.aload_n 0, 1) := by decide +kernel
theorem dX4_keep_17 : decode cX4_keep 17 = .ok (.getfield 17, 3) := by decide +kernel
theorem dX4_keep_20 : decode cX4_keep 20 = .ok (.aload_n 0, 1) := by decide +kernel
theorem dX4_keep_21 : decode cX4_keep 21 = .ok (.getfield 20, 3) := by decide +kernel
theorem dX4_keep_24 : decode cX4_keep 24 = .ok (.iload_n 2, 1) := by decide +kernel
theorem dX4_keep_25 : decode cX4_keep 25 = .ok (.iastore, 1) := by decide +kernel
theorem dX4_keep_26 : decode cX4_keep 26 = .ok (.aload_n 0, 1) := by decide +kernel
theorem dX4_keep_27 : decode cX4_keep 27 = .ok (.aload_n 0, 1) := by decide +kernel
theorem dX4_keep_28 : decode cX4_keep 28 = .ok (.getfield 20, 3) := by decide +kernel
theorem dX4_keep_31 : decode cX4_keep 31 = .ok (.iconst 1, 1) := by decide +kernel
theorem dX4_keep_32 : decode cX4_keep 32 = .ok (.iadd, 1) := by decide +kernel
theorem dX4_keep_33 : decode cX4_keep 33 = .ok (.bipush 16, 2) := by decide +kernel
theorem dX4_keep_35 : decode cX4_keep 35 = .ok (.irem, 1) := by decide +kernel
theorem dX4_keep_36 : decode cX4_keep 36 = .ok (.putfield 20, 3) := by decide +kernel
theorem dX4_keep_39 : decode cX4_keep 39 = .ok (.aload_n 0, 1) := by decide +kernel
theorem dX4_keep_40 : decode cX4_keep 40 = .ok (.aload_n 0, 1) := by decide +kernel
theorem dX4_keep_41 : decode cX4_keep 41 = .ok (.getfield 24, 3) := by decide +kernel
theorem dX4_keep_44 : decode cX4_keep 44 = .ok (.iconst 1, 1) := by decide +kernel
theorem dX4_keep_45 : decode cX4_keep 45 = .ok (.iadd, 1) := by decide +kernel
theorem dX4_keep_46 : decode cX4_keep 46 = .ok (.bipush 16, 2) := by decide +kernel
theorem dX4_keep_48 : decode cX4_keep 48 = .ok (.invokestatic 37, 3) := by decide +kernel
theorem dX4_keep_51 : decode cX4_keep 51 = .ok (.putfield 24, 3) := by decide +kernel
theorem dX4_keep_54 : decode cX4_keep 54 = .ok (.return_, 1) := by decide +kernel
theorem dX11_await_0 : decode cX11_await 0 = .ok (.aload_n 0, 1) := by decide +kernel
theorem dX11_await_1 : decode cX11_await 1 = .ok (.getfield 10, 3) := by decide +kernel
theorem dX11_await_4 : decode cX11_await 4 = .ok (.iconst 0, 1) := by decide +kernel
theorem dX11_await_5 : decode cX11_await 5 = .ok (.invokevirtual 125, 3) := by decide +kernel
theorem dX11_await_8 : decode cX11_await 8 = .ok (.sipush 999, 3) := by decide +kernel
theorem dX11_await_11 : decode cX11_await 11 = .ok (.if_icmp .lt 10, 3) := by decide +kernel
theorem dX11_await_14 : decode cX11_await 14 = .ok (.aload_n 0, 1) := by decide +kernel
theorem dX11_await_15 : decode cX11_await 15 = .ok (.bipush (-3), 2) := by decide +kernel
theorem dX11_await_17 : decode cX11_await 17 = .ok (.invokevirtual 104, 3) := by decide +kernel
theorem dX11_await_20 : decode cX11_await 20 = .ok (.ireturn, 1) := by decide +kernel
theorem dX11_await_21 : decode cX11_await 21 = .ok (.aload_n 0, 1) := by decide +kernel
theorem dX11_await_22 : decode cX11_await 22 = .ok (.getfield 25, 3) := by decide +kernel
theorem dX11_await_25 : decode cX11_await 25 = .ok (.aload_n 0, 1) := by decide +kernel
theorem dX11_await_26 : decode cX11_await 26 = .ok (.getfield 10, 3) := by decide +kernel
theorem dX11_await_29 : decode cX11_await 29 = .ok (.iconst 1, 1) := by decide +kernel
theorem dX11_await_30 : decode cX11_await 30 = .ok (.invokevirtual 227, 3) := by decide +kernel
theorem dX11_await_33 : decode cX11_await 33 = .ok (.aload_n 0, 1) := by decide +kernel
theorem dX11_await_34 : decode cX11_await 34 = .ok (.aload_n 0, 1) := by decide +kernel
theorem dX11_await_35 : decode cX11_await 35 = .ok (.getfield 48, 3) := by decide +kernel
theorem dX11_await_38 : decode cX11_await 38 = .ok (.aload_n 0, 1) := by decide +kernel
theorem dX11_await_39 : decode cX11_await 39 = .ok (.getfield 10, 3) := by decide +kernel
theorem dX11_await_42 : decode cX11_await 42 = .ok (.iconst 0, 1) := by decide +kernel
theorem dX11_await_43 : decode cX11_await 43 = .ok (.invokevirtual 234, 3) := by decide +kernel
theorem dX11_await_46 : decode cX11_await 46 = .ok (.invokevirtual 118, 3) := by decide +kernel
theorem dX11_await_49 : decode cX11_await 49 = .ok (.ireturn, 1) := by decide +kernel
theorem dX4_clear_0 : decode cX4_clear 0 = .ok (.aload_n 0, 1) := by decide +kernel
theorem dX4_clear_1 : decode cX4_clear 1 = .ok (.iconst 0, 1) := by decide +kernel
theorem dX4_clear_2 : decode cX4_clear 2 = .ok (.putfield 24, 3) := by decide +kernel
theorem dX4_clear_5 : decode cX4_clear 5 = .ok (.return_, 1) := by decide +kernel
theorem dX11_back_0 : decode cX11_back 0 = .ok (.iload_n 1, 1) := by decide +kernel
theorem dX11_back_1 : decode cX11_back 1 = .ok (.iconst 0, 1) := by decide +kernel
theorem dX11_back_2 : decode cX11_back 2 = .ok (.iconst 1, 1) := by decide +kernel
theorem dX11_back_3 : decode cX11_back 3 = .ok (.invokestatic 100, 3) := by decide +kernel
theorem dX11_back_6 : decode cX11_back 6 = .ok (.ifCond .ne 9, 3) := by decide +kernel
theorem dX11_back_9 : decode cX11_back 9 = .ok (.aload_n 0, 1) := by decide +kernel
theorem dX11_back_10 : decode cX11_back 10 = .ok (.iconst (-1), 1) := by decide +kernel
theorem dX11_back_11 : decode cX11_back 11 = .ok (.invokevirtual 104, 3) := by decide +kernel
theorem dX11_back_14 : decode cX11_back 14 = .ok (.ireturn, 1) := by decide +kernel
theorem dX11_back_15 : decode cX11_back 15 = .ok (.iload_n 1, 1) := by decide +kernel
theorem dX11_back_16 : decode cX11_back 16 = .ok (.ifCond .ne 10, 3) := by decide +kernel
theorem dX11_back_19 : decode cX11_back 19 = .ok (.aload_n 0, 1) := by decide +kernel
theorem dX11_back_20 : decode cX11_back 20 = .ok (.getfield 16, 3) := by decide +kernel
theorem dX11_back_23 : decode cX11_back 23 = .ok (.goto 7, 3) := by decide +kernel
theorem dX11_back_26 : decode cX11_back 26 = .ok (.aload_n 0, 1) := by decide +kernel
theorem dX11_back_27 : decode cX11_back 27 = .ok (.getfield 19, 3) := by decide +kernel
theorem dX11_back_30 : decode cX11_back 30 = .ok (.astore_n 2, 1) := by decide +kernel
theorem dX11_back_31 : decode cX11_back 31 = .ok (.aload_n 2, 1) := by decide +kernel
theorem dX11_back_32 : decode cX11_back 32 = .ok (.invokevirtual 309, 3) := by decide +kernel
theorem dX11_back_35 : decode cX11_back 35 = .ok (.ifCond .ne 10, 3) := by decide +kernel
theorem dX11_back_38 : decode cX11_back 38 = .ok (.aload_n 0, 1) := by decide +kernel
theorem dX11_back_39 : decode cX11_back 39 = .ok (.bipush (-2), 2) := by decide +kernel
theorem dX11_back_41 : decode cX11_back 41 = .ok (.invokevirtual 104, 3) := by decide +kernel
theorem dX11_back_44 : decode cX11_back 44 = .ok (.ireturn, 1) := by decide +kernel
theorem dX11_back_45 : decode cX11_back 45 = .ok (.aload_n 0, 1) := by decide +kernel
theorem dX11_back_46 : decode cX11_back 46 = .ok (.getfield 10, 3) := by decide +kernel
theorem dX11_back_49 : decode cX11_back 49 = .ok (.aload_n 2, 1) := by decide +kernel
theorem dX11_back_50 : decode cX11_back 50 = .ok (.invokevirtual 302, 3) := by decide +kernel
theorem dX11_back_53 : decode cX11_back 53 = .ok (.aload_n 0, 1) := by decide +kernel
theorem dX11_back_54 : decode cX11_back 54 = .ok (.getfield 25, 3) := by decide +kernel
theorem dX11_back_57 : decode cX11_back 57 = .ok (.invokevirtual 111, 3) := by decide +kernel
theorem dX11_back_60 : decode cX11_back 60 = .ok (.aload_n 0, 1) := by decide +kernel
theorem dX11_back_61 : decode cX11_back 61 = .ok (.iconst 0, 1) := by decide +kernel
theorem dX11_back_62 : decode cX11_back 62 = .ok (.invokevirtual 118, 3) := by decide +kernel
theorem dX11_back_65 : decode cX11_back 65 = .ok (.ireturn, 1) := by decide +kernel
theorem dX6_beating_0 : decode cX6_beating 0 = .ok (.iconst (-1), 1) := by decide +kernel
theorem dX6_beating_1 : decode cX6_beating 1 = .ok (.istore 5, 2) := by decide +kernel
theorem dX6_beating_3 : decode cX6_beating 3 = .ok (.iconst 0, 1) := by decide +kernel
theorem dX6_beating_4 : decode cX6_beating 4 = .ok (.istore 6, 2) := by decide +kernel
theorem dX6_beating_6 : decode cX6_beating 6 = .ok (.iload 6, 2) := by decide +kernel
theorem dX6_beating_8 : decode cX6_beating 8 = .ok (.aload_n 1, 1) := by decide +kernel
theorem dX6_beating_9 : decode cX6_beating 9 = .ok (.iconst 1, 1) := by decide +kernel
theorem dX6_beating_10 : decode cX6_beating 10 = .ok (.invokevirtual 44, 3) := by decide +kernel
theorem dX6_beating_13 : decode cX6_beating 13 = .ok (.if_icmp .ge 39, 3) := by decide +kernel
theorem dX6_beating_16 : decode cX6_beating 16 = .ok (.aload_n 1, 1) := by decide +kernel
theorem dX6_beating_17 : decode cX6_beating 17 = .ok (.iload 6, 2) := by decide +kernel
theorem dX6_beating_19 : decode cX6_beating 19 = .ok (.iconst 0, 1) := by decide +kernel
theorem dX6_beating_20 : decode cX6_beating 20 = .ok (.invokevirtual 54, 3) := by decide +kernel
theorem dX6_beating_23 : decode cX6_beating 23 = .ok (.iload_n 3, 1) := by decide +kernel
theorem dX6_beating_24 : decode cX6_beating 24 = .ok (.if_icmp .ne 22, 3) := by decide +kernel
theorem dX6_beating_27 : decode cX6_beating 27 = .ok (.iload 5, 2) := by decide +kernel
theorem dX6_beating_29 : decode cX6_beating 29 = .ok (.aload_n 0, 1) := by decide +kernel
theorem dX6_beating_30 : decode cX6_beating 30 = .ok (.getfield 38, 3) := by decide +kernel
theorem dX6_beating_33 : decode cX6_beating 33 = .ok (.aload_n 1, 1) := by decide +kernel
theorem dX6_beating_34 : decode cX6_beating 34 = .ok (.iload 6, 2) := by decide +kernel
theorem dX6_beating_36 : decode cX6_beating 36 = .ok (.iload_n 3, 1) := by decide +kernel
theorem dX6_beating_37 : decode cX6_beating 37 = .ok (.iload_n 2, 1) := by decide +kernel
theorem dX6_beating_38 : decode cX6_beating 38 = .ok (.invokevirtual 89, 3) := by decide +kernel
theorem dX6_beating_41 : decode cX6_beating 41 = .ok (.invokestatic 93, 3) := by decide +kernel
theorem dX6_beating_44 : decode cX6_beating 44 = .ok (.istore 5, 2) := by decide +kernel
theorem dX6_beating_46 : decode cX6_beating 46 = .ok (.iinc 6 1, 3) := by decide +kernel
theorem dX6_beating_49 : decode cX6_beating 49 = .ok (.goto (-43), 3) := by decide +kernel
theorem dX6_beating_52 : decode cX6_beating 52 = .ok (.iconst 0, 1) := by decide +kernel
theorem dX6_beating_53 : decode cX6_beating 53 = .ok (.istore 6, 2) := by decide +kernel
theorem dX6_beating_55 : decode cX6_beating 55 = .ok (.iconst 0, 1) := by decide +kernel
theorem dX6_beating_56 : decode cX6_beating 56 = .ok (.istore 7, 2) := by decide +kernel
theorem dX6_beating_58 : decode cX6_beating 58 = .ok (.iload 7, 2) := by decide +kernel
theorem dX6_beating_60 : decode cX6_beating 60 = .ok (.aload_n 1, 1) := by decide +kernel
theorem dX6_beating_61 : decode cX6_beating 61 = .ok (.iconst 1, 1) := by decide +kernel
theorem dX6_beating_62 : decode cX6_beating 62 = .ok (.invokevirtual 44, 3) := by decide +kernel
theorem dX6_beating_65 : decode cX6_beating 65 = .ok (.if_icmp .ge 50, 3) := by decide +kernel
theorem dX6_beating_68 : decode cX6_beating 68 = .ok (.aload_n 1, 1) := by decide +kernel
theorem dX6_beating_69 : decode cX6_beating 69 = .ok (.iload 7, 2) := by decide +kernel
theorem dX6_beating_71 : decode cX6_beating 71 = .ok (.iconst 0, 1) := by decide +kernel
theorem dX6_beating_72 : decode cX6_beating 72 = .ok (.invokevirtual 54, 3) := by decide +kernel
theorem dX6_beating_75 : decode cX6_beating 75 = .ok (.iload_n 2, 1) := by decide +kernel
theorem dX6_beating_76 : decode cX6_beating 76 = .ok (.if_icmp .ne 33, 3) := by decide +kernel
theorem dX6_beating_79 : decode cX6_beating 79 = .ok (.aload_n 0, 1) := by decide +kernel
theorem dX6_beating_80 : decode cX6_beating 80 = .ok (.getfield 38, 3) := by decide +kernel
theorem dX6_beating_83 : decode cX6_beating 83 = .ok (.aload_n 1, 1) := by decide +kernel
theorem dX6_beating_84 : decode cX6_beating 84 = .ok (.iload 7, 2) := by decide +kernel
theorem dX6_beating_86 : decode cX6_beating 86 = .ok (.iload_n 2, 1) := by decide +kernel
theorem dX6_beating_87 : decode cX6_beating 87 = .ok (.iload_n 3, 1) := by decide +kernel
theorem dX6_beating_88 : decode cX6_beating 88 = .ok (.invokevirtual 89, 3) := by decide +kernel
theorem dX6_beating_91 : decode cX6_beating 91 = .ok (.iload 5, 2) := by decide +kernel
theorem dX6_beating_93 : decode cX6_beating 93 = .ok (.if_icmp .le 16, 3) := by decide +kernel
theorem dX6_beating_96 : decode cX6_beating 96 = .ok (.iload 6, 2) := by decide +kernel
theorem dX6_beating_98 : decode cX6_beating 98 = .ok (.iload 4, 2) := by decide +kernel
theorem dX6_beating_100 : decode cX6_beating 100 = .ok (.if_icmp .ne 6, 3) := by decide +kernel
theorem dX6_beating_103 : decode cX6_beating 103 = .ok (.iload 7, 2) := by decide +kernel
theorem dX6_beating_105 : decode cX6_beating 105 = .ok (.ireturn, 1) := by decide +kernel
theorem dX6_beating_106 : decode cX6_beating 106 = .ok (.iinc 6 1, 3) := by decide +kernel
theorem dX6_beating_109 : decode cX6_beating 109 = .ok (.iinc 7 1, 3) := by decide +kernel
theorem dX6_beating_112 : decode cX6_beating 112 = .ok (.goto (-54), 3) := by decide +kernel
theorem dX6_beating_115 : decode cX6_beating 115 = .ok (.iload 4, 2) := by decide +kernel
theorem dX6_beating_117 : decode cX6_beating 117 = .ok (.iconst (-1), 1) := by decide +kernel
theorem dX6_beating_118 : decode cX6_beating 118 = .ok (.if_icmp .ne 8, 3) := by decide +kernel
theorem dX6_beating_121 : decode cX6_beating 121 = .ok (.iload 6, 2) := by decide +kernel
theorem dX6_beating_123 : decode cX6_beating 123 = .ok (.goto 4, 3) := by decide +kernel
theorem dX6_beating_126 : decode cX6_beating 126 = .ok (.iconst (-1), 1) := by decide +kernel
theorem dX6_beating_127 : decode cX6_beating 127 = .ok (.ireturn, 1) := by decide +kernel
theorem dX11_beats_0 : decode cX11_beats 0 = .ok (.aload_n 0, 1) := by decide +kernel
theorem dX11_beats_1 : decode cX11_beats 1 = .ok (.getfield 10, 3) := by decide +kernel
theorem dX11_beats_4 : decode cX11_beats 4 = .ok (.iload_n 1, 1) := by decide +kernel
theorem dX11_beats_5 : decode cX11_beats 5 = .ok (.invokevirtual 121, 3) := by decide +kernel
theorem dX11_beats_8 : decode cX11_beats 8 = .ok (.ifCond .eq 24, 3) := by decide +kernel
theorem dX11_beats_11 : decode cX11_beats 11 = .ok (.aload_n 0, 1) := by decide +kernel
theorem dX11_beats_12 : decode cX11_beats 12 = .ok (.getfield 10, 3) := by decide +kernel
theorem dX11_beats_15 : decode cX11_beats 15 = .ok (.iload_n 2, 1) := by decide +kernel
theorem dX11_beats_16 : decode cX11_beats 16 = .ok (.invokevirtual 121, 3) := by decide +kernel
theorem dX11_beats_19 : decode cX11_beats 19 = .ok (.ifCond .eq 13, 3) := by decide +kernel
theorem dX11_beats_22 : decode cX11_beats 22 = .ok (.iload_n 1, 1) := by decide +kernel
theorem dX11_beats_23 : decode cX11_beats 23 = .ok (.iload_n 2, 1) := by decide +kernel
theorem dX11_beats_24 : decode cX11_beats 24 = .ok (.if_icmp .eq 8, 3) := by decide +kernel
theorem dX11_beats_27 : decode cX11_beats 27 = .ok (.iload_n 3, 1) := by decide +kernel
theorem dX11_beats_28 : decode cX11_beats 28 = .ok (.iconst (-1), 1) := by decide +kernel
theorem dX11_beats_29 : decode cX11_beats 29 = .ok (.if_icmp .ge 5, 3) := by decide +kernel
theorem dX11_beats_32 : decode cX11_beats 32 = .ok (.iconst (-1), 1) := by decide +kernel
theorem dX11_beats_33 : decode cX11_beats 33 = .ok (.ireturn, 1) := by decide +kernel
theorem dX11_beats_34 : decode cX11_beats 34 = .ok (.aload_n 0, 1) := by decide +kernel
theorem dX11_beats_35 : decode cX11_beats 35 = .ok (.getfield 85, 3) := by decide +kernel
theorem dX11_beats_38 : decode cX11_beats 38 = .ok (.aload_n 0, 1) := by decide +kernel
theorem dX11_beats_39 : decode cX11_beats 39 = .ok (.getfield 10, 3) := by decide +kernel
theorem dX11_beats_42 : decode cX11_beats 42 = .ok (.iload_n 1, 1) := by decide +kernel
theorem dX11_beats_43 : decode cX11_beats 43 = .ok (.iload_n 2, 1) := by decide +kernel
theorem dX11_beats_44 : decode cX11_beats 44 = .ok (.iload_n 3, 1) := by decide +kernel
theorem dX11_beats_45 : decode cX11_beats 45 = .ok (.invokevirtual 291, 3) := by decide +kernel
theorem dX11_beats_48 : decode cX11_beats 48 = .ok (.ireturn, 1) := by decide +kernel
theorem dX2_voice_0 : decode cX2_voice 0 = .ok (.aload_n 0, 1) := by decide +kernel
theorem dX2_voice_1 : decode cX2_voice 1 = .ok (.aload_n 1, 1) := by decide +kernel
theorem dX2_voice_2 : decode cX2_voice 2 = .ok (.iload_n 3, 1) := by decide +kernel
theorem dX2_voice_3 : decode cX2_voice 3 = .ok (.aload_n 1, 1) := by decide +kernel
theorem dX2_voice_4 : decode cX2_voice 4 = .ok (.iconst 0, 1) := by decide +kernel
theorem dX2_voice_5 : decode cX2_voice 5 = .ok (.invokevirtual 25, 3) := by decide +kernel
theorem dX2_voice_8 : decode cX2_voice 8 = .ok (.invokevirtual 29, 3) := by decide +kernel
theorem dX2_voice_11 : decode cX2_voice 11 = .ok (.aload_n 0, 1) := by decide +kernel
theorem dX2_voice_12 : decode cX2_voice 12 = .ok (.getfield 11, 3) := by decide +kernel
theorem dX2_voice_15 : decode cX2_voice 15 = .ok (.bipush 7, 2) := by decide +kernel
theorem dX2_voice_17 : decode cX2_voice 17 = .ok (.iload_n 2, 1) := by decide +kernel
theorem dX2_voice_18 : decode cX2_voice 18 = .ok (.iastore, 1) := by decide +kernel
theorem dX2_voice_19 : decode cX2_voice 19 = .ok (.aload_n 0, 1) := by decide +kernel
theorem dX2_voice_20 : decode cX2_voice 20 = .ok (.aload_n 1, 1) := by decide +kernel
theorem dX2_voice_21 : decode cX2_voice 21 = .ok (.invokevirtual 33, 3) := by decide +kernel
theorem dX2_voice_24 : decode cX2_voice 24 = .ok (.sipush 256, 3) := by decide +kernel
theorem dX2_voice_27 : decode cX2_voice 27 = .ok (.aload_n 1, 1) := by decide +kernel
theorem dX2_voice_28 : decode cX2_voice 28 = .ok (.iload_n 3, 1) := by decide +kernel
theorem dX2_voice_29 : decode cX2_voice 29 = .ok (.iconst 2, 1) := by decide +kernel
theorem dX2_voice_30 : decode cX2_voice 30 = .ok (.invokevirtual 39, 3) := by decide +kernel
theorem dX2_voice_33 : decode cX2_voice 33 = .ok (.sipush 999, 3) := by decide +kernel
theorem dX2_voice_36 : decode cX2_voice 36 = .ok (.invokevirtual 43, 3) := by decide +kernel
theorem dX2_voice_39 : decode cX2_voice 39 = .ok (.ireturn, 1) := by decide +kernel
theorem dX2_hear_0 : decode cX2_hear 0 = .ok (.aload_n 1, 1) := by decide +kernel
theorem dX2_hear_1 : decode cX2_hear 1 = .ok (.iconst 2, 1) := by decide +kernel
theorem dX2_hear_2 : decode cX2_hear 2 = .ok (.invokevirtual 58, 3) := by decide +kernel
theorem dX2_hear_5 : decode cX2_hear 5 = .ok (.iconst 5, 1) := by decide +kernel
theorem dX2_hear_6 : decode cX2_hear 6 = .ok (.invokestatic 66, 3) := by decide +kernel
theorem dX2_hear_9 : decode cX2_hear 9 = .ok (.istore_n 3, 1) := by decide +kernel
theorem dX2_hear_10 : decode cX2_hear 10 = .ok (.iconst 0, 1) := by decide +kernel
theorem dX2_hear_11 : decode cX2_hear 11 = .ok (.istore 4, 2) := by decide +kernel
theorem dX2_hear_13 : decode cX2_hear 13 = .ok (.iload 4, 2) := by decide +kernel
theorem dX2_hear_15 : decode cX2_hear 15 = .ok (.iload_n 3, 1) := by decide +kernel
theorem dX2_hear_16 : decode cX2_hear 16 = .ok (.if_icmp .ge 24, 3) := by decide +kernel
theorem dX2_hear_19 : decode cX2_hear 19 = .ok (.aload_n 0, 1) := by decide +kernel
theorem dX2_hear_20 : decode cX2_hear 20 = .ok (.getfield 20, 3) := by decide +kernel
theorem dX2_hear_23 : decode cX2_hear 23 = .ok (.iload 4, 2) := by decide +kernel
theorem dX2_hear_25 : decode cX2_hear 25 = .ok (.aload_n 0, 1) := by decide +kernel
theorem dX2_hear_26 : decode cX2_hear 26 = .ok (.aload_n 1, 1) := by decide +kernel
theorem dX2_hear_27 : decode cX2_hear 27 = .ok (.iload 4, 2) := by decide +kernel
theorem dX2_hear_29 : decode cX2_hear 29 = .ok (.iload_n 2, 1) := by decide +kernel
theorem dX2_hear_30 : decode cX2_hear 30 = .ok (.invokevirtual 74, 3) := by decide +kernel
theorem dX2_hear_33 : decode cX2_hear 33 = .ok (.iastore, 1) := by decide +kernel
theorem dX2_hear_34 : decode cX2_hear 34 = .ok (.iinc 4 1, 3) := by decide +kernel
theorem dX2_hear_37 : decode cX2_hear 37 = .ok (.goto (-24), 3) := by decide +kernel
theorem dX2_hear_40 : decode cX2_hear 40 = .ok (.iload_n 3, 1) := by decide +kernel
theorem dX2_hear_41 : decode cX2_hear 41 = .ok (.ireturn, 1) := by decide +kernel
theorem dX2_middle_0 : decode cX2_middle 0 = .ok (.aload_n 0, 1) := by decide +kernel
theorem dX2_middle_1 : decode cX2_middle 1 = .ok (.aload_n 1, 1) := by decide +kernel
theorem dX2_middle_2 : decode cX2_middle 2 = .ok (.iload_n 2, 1) := by decide +kernel
theorem dX2_middle_3 : decode cX2_middle 3 = .ok (.invokevirtual 78, 3) := by decide +kernel
theorem dX2_middle_6 : decode cX2_middle 6 = .ok (.istore_n 3, 1) := by decide +kernel
theorem dX2_middle_7 : decode cX2_middle 7 = .ok (.iconst 1, 1) := by decide +kernel
theorem dX2_middle_8 : decode cX2_middle 8 = .ok (.istore 4, 2) := by decide +kernel
theorem dX2_middle_10 : decode cX2_middle 10 = .ok (.iload 4, 2) := by decide +kernel
theorem dX2_middle_12 : decode cX2_middle 12 = .ok (.iload_n 3, 1) := by decide +kernel
theorem dX2_middle_13 : decode cX2_middle 13 = .ok (.if_icmp .ge 72, 3) := by decide +kernel
theorem dX2_middle_16 : decode cX2_middle 16 = .ok (.aload_n 0, 1) := by decide +kernel
theorem dX2_middle_17 : decode cX2_middle 17 = .ok (.getfield 20, 3) := by decide +kernel
theorem dX2_middle_20 : decode cX2_middle 20 = .ok (.iload 4, 2) := by decide +kernel
theorem dX2_middle_22 : decode cX2_middle 22 = .ok (.iaload, 1) := by decide +kernel
theorem dX2_middle_23 : decode cX2_middle 23 = .ok (.istore 5, 2) := by decide +kernel
theorem dX2_middle_25 : decode cX2_middle 25 = .ok (.iload 4, 2) := by decide +kernel
theorem dX2_middle_27 : decode cX2_middle 27 = .ok (.istore 6, 2) := by decide +kernel
theorem dX2_middle_29 : decode cX2_middle 29 = .ok (.iload 6, 2) := by decide +kernel
theorem dX2_middle_31 : decode cX2_middle 31 = .ok (.ifCond .le 39, 3) := by decide +kernel
theorem dX2_middle_34 : decode cX2_middle 34 = .ok (.aload_n 0, 1) := by decide +kernel
theorem dX2_middle_35 : decode cX2_middle 35 = .ok (.getfield 20, 3) := by decide +kernel
theorem dX2_middle_38 : decode cX2_middle 38 = .ok (.iload 6, 2) := by decide +kernel
theorem dX2_middle_40 : decode cX2_middle 40 = .ok (.iconst 1, 1) := by decide +kernel
theorem dX2_middle_41 : decode cX2_middle 41 = .ok (.isub, 1) := by decide +kernel
theorem dX2_middle_42 : decode cX2_middle 42 = .ok (.iaload, 1) := by decide +kernel
theorem dX2_middle_43 : decode cX2_middle 43 = .ok (.iload 5, 2) := by decide +kernel
theorem dX2_middle_45 : decode cX2_middle 45 = .ok (.if_icmp .le 25, 3) := by decide +kernel
theorem dX2_middle_48 : decode cX2_middle 48 = .ok (.aload_n 0, 1) := by decide +kernel
theorem dX2_middle_49 : decode cX2_middle 49 = .ok (.getfield 20, 3) := by decide +kernel
theorem dX2_middle_52 : decode cX2_middle 52 = .ok (.iload 6, 2) := by decide +kernel
theorem dX2_middle_54 : decode cX2_middle 54 = .ok (.aload_n 0, 1) := by decide +kernel
theorem dX2_middle_55 : decode cX2_middle 55 = .ok (.getfield 20, 3) := by decide +kernel
theorem dX2_middle_58 : decode cX2_middle 58 = .ok (.iload 6, 2) := by decide +kernel
theorem dX2_middle_60 : decode cX2_middle 60 = .ok (.iconst 1, 1) := by decide +kernel
theorem dX2_middle_61 : decode cX2_middle 61 = .ok (.isub, 1) := by decide +kernel
theorem dX2_middle_62 : decode cX2_middle 62 = .ok (.iaload, 1) := by decide +kernel
theorem dX2_middle_63 : decode cX2_middle 63 = .ok (.iastore, 1) := by decide +kernel
theorem dX2_middle_64 : decode cX2_middle 64 = .ok (.iinc 6 (-1), 3) := by decide +kernel
theorem dX2_middle_67 : decode cX2_middle 67 = .ok (.goto (-38), 3) := by decide +kernel
theorem dX2_middle_70 : decode cX2_middle 70 = .ok (.aload_n 0, 1) := by decide +kernel
theorem dX2_middle_71 : decode cX2_middle 71 = .ok (.getfield 20, 3) := by decide +kernel
theorem dX2_middle_74 : decode cX2_middle 74 = .ok (.iload 6, 2) := by decide +kernel
theorem dX2_middle_76 : decode cX2_middle 76 = .ok (.iload 5, 2) := by decide +kernel
theorem dX2_middle_78 : decode cX2_middle 78 = .ok (.iastore, 1) := by decide +kernel
theorem dX2_middle_79 : decode cX2_middle 79 = .ok (.iinc 4 1, 3) := by decide +kernel
theorem dX2_middle_82 : decode cX2_middle 82 = .ok (.goto (-72), 3) := by decide +kernel
theorem dX2_middle_85 : decode cX2_middle 85 = .ok (.iload_n 3, 1) := by decide +kernel
theorem dX2_middle_86 : decode cX2_middle 86 = .ok (.ifCond .le 16, 3) := by decide +kernel
theorem dX2_middle_89 : decode cX2_middle 89 = .ok (.aload_n 0, 1) := by decide +kernel
theorem dX2_middle_90 : decode cX2_middle 90 = .ok (.getfield 20, 3) := by decide +kernel
theorem dX2_middle_93 : decode cX2_middle 93 = .ok (.iload_n 3, 1) := by decide +kernel
theorem dX2_middle_94 : decode cX2_middle 94 = .ok (.iconst 1, 1) := by decide +kernel
theorem dX2_middle_95 : decode cX2_middle 95 = .ok (.isub, 1) := by decide +kernel
theorem dX2_middle_96 : decode cX2_middle 96 = .ok (.iconst 2, 1) := by decide +kernel
theorem dX2_middle_97 : decode cX2_middle 97 = .ok (.idiv, 1) := by decide +kernel
theorem dX2_middle_98 : decode cX2_middle 98 = .ok (.iaload, 1) := by decide +kernel
theorem dX2_middle_99 : decode cX2_middle 99 = .ok (.goto 4, 3) := by decide +kernel
theorem dX2_middle_102 : decode cX2_middle 102 = .ok (.iconst (-1), 1) := by decide +kernel
theorem dX2_middle_103 : decode cX2_middle 103 = .ok (.ireturn, 1) := by decide +kernel
theorem dX2_cheapestBribe_0 : decode cX2_cheapestBribe 0 = .ok (.aload_n 0, 1) := by decide +kernel
theorem dX2_cheapestBribe_1 : decode cX2_cheapestBribe 1 = .ok (.aload_n 1, 1) := by decide +kernel
theorem dX2_cheapestBribe_2 : decode cX2_cheapestBribe 2 = .ok (.iload_n 3, 1) := by decide +kernel
theorem dX2_cheapestBribe_3 : decode cX2_cheapestBribe 3 = .ok (.invokevirtual 82, 3) := by decide +kernel
theorem dX2_cheapestBribe_6 : decode cX2_cheapestBribe 6 = .ok (.iconst 1, 1) := by decide +kernel
theorem dX2_cheapestBribe_7 : decode cX2_cheapestBribe 7 = .ok (.iadd, 1) := by decide +kernel
theorem dX2_cheapestBribe_8 : decode cX2_cheapestBribe 8 = .ok (.istore 5, 2) := by decide +kernel
theorem dX2_cheapestBribe_10 : decode cX2_cheapestBribe 10 = .ok (.iload 5, 2) := by decide +kernel
theorem dX2_cheapestBribe_12 : decode cX2_cheapestBribe 12 = .ok (.sipush 999, 3) := by decide +kernel
theorem dX2_cheapestBribe_15 : decode cX2_cheapestBribe 15 = .ok (.if_icmp .gt 14, 3) := by decide +kernel
theorem dX2_cheapestBribe_18 : decode cX2_cheapestBribe 18 = .ok (.iload 4, 2) := by decide +kernel
theorem dX2_cheapestBribe_20 : decode cX2_cheapestBribe 20 = .ok (.ifCond .lt 9, 3) := by decide +kernel
theorem dX2_cheapestBribe_23 : decode cX2_cheapestBribe 23 = .ok (.iload 4, 2) := by decide +kernel
theorem dX2_cheapestBribe_25 : decode cX2_cheapestBribe 25 = .ok (.iconst 1, 1) := by decide +kernel
theorem dX2_cheapestBribe_26 : decode cX2_cheapestBribe 26 = .ok (.if_icmp .le 5, 3) := by decide +kernel
theorem dX2_cheapestBribe_29 : decode cX2_cheapestBribe 29 = .ok (.iconst (-1), 1) := by decide +kernel
theorem dX2_cheapestBribe_30 : decode cX2_cheapestBribe 30 = .ok (.ireturn, 1) := by decide +kernel
theorem dX2_cheapestBribe_31 : decode cX2_cheapestBribe 31 = .ok (.aload_n 0, 1) := by decide +kernel
theorem dX2_cheapestBribe_32 : decode cX2_cheapestBribe 32 = .ok (.aload_n 1, 1) := by decide +kernel
theorem dX2_cheapestBribe_33 : decode cX2_cheapestBribe 33 = .ok (.iload_n 2, 1) := by decide +kernel
theorem dX2_cheapestBribe_34 : decode cX2_cheapestBribe 34 = .ok (.invokevirtual 78, 3) := by decide +kernel
theorem dX2_cheapestBribe_37 : decode cX2_cheapestBribe 37 = .ok (.istore 6, 2) := by decide +kernel
theorem dX2_cheapestBribe_39 : decode cX2_cheapestBribe 39 = .ok (.iload 6, 2) := by decide +kernel
theorem dX2_cheapestBribe_41 : decode cX2_cheapestBribe 41 = .ok (.iload 6, 2) := by decide +kernel
theorem dX2_cheapestBribe_43 : decode cX2_cheapestBribe 43 = .ok (.iconst 1, 1) := by decide +kernel
theorem dX2_cheapestBribe_44 : decode cX2_cheapestBribe 44 = .ok (.isub, 1) := by decide +kernel
theorem dX2_cheapestBribe_45 : decode cX2_cheapestBribe 45 = .ok (.iconst 2, 1) := by decide +kernel
theorem dX2_cheapestBribe_46 : decode cX2_cheapestBribe 46 = .ok (.idiv, 1) := by decide +kernel
theorem dX2_cheapestBribe_47 : decode cX2_cheapestBribe 47 = .ok (.isub, 1) := by decide +kernel
theorem dX2_cheapestBribe_48 : decode cX2_cheapestBribe 48 = .ok (.istore 7, 2) := by decide +kernel
theorem dX2_cheapestBribe_50 : decode cX2_cheapestBribe 50 = .ok (.iconst (-1), 1) := by decide +kernel
theorem dX2_cheapestBribe_51 : decode cX2_cheapestBribe 51 = .ok (.istore 8, 2) := by decide +kernel
theorem dX2_cheapestBribe_53 : decode cX2_cheapestBribe 53 = .ok (.iconst 0, 1) := by decide +kernel
theorem dX2_cheapestBribe_54 : decode cX2_cheapestBribe 54 = .ok (.istore 9, 2) := by decide +kernel
theorem dX2_cheapestBribe_56 : decode cX2_cheapestBribe 56 = .ok (.iconst 0, 1) := by decide +kernel
theorem dX2_cheapestBribe_57 : decode cX2_cheapestBribe 57 = .ok (.istore 10, 2) := by decide +kernel
theorem dX2_cheapestBribe_59 : decode cX2_cheapestBribe 59 = .ok (.iload 10, 2) := by decide +kernel
theorem dX2_cheapestBribe_61 : decode cX2_cheapestBribe 61 = .ok (.iconst 1, 1) := by decide +kernel
theorem dX2_cheapestBribe_62 : decode cX2_cheapestBribe 62 = .ok (.iload 6, 2) := by decide +kernel
theorem dX2_cheapestBribe_64 : decode cX2_cheapestBribe 64 = .ok (.ishl, 1) := by decide +kernel
theorem dX2_cheapestBribe_65 : decode cX2_cheapestBribe 65 = .ok (.if_icmp .ge 139, 3) := by decide +kernel
theorem dX2_cheapestBribe_68 : decode cX2_cheapestBribe 68 = .ok (.iconst 0, 1) := by decide +kernel
theorem dX2_cheapestBribe_69 : decode cX2_cheapestBribe 69 = .ok (.istore 11, 2) := by decide +kernel
theorem dX2_cheapestBribe_71 : decode cX2_cheapestBribe 71 = .ok (.iconst 0, 1) := by decide +kernel
theorem dX2_cheapestBribe_72 : decode cX2_cheapestBribe 72 = .ok (.istore 12, 2) := by decide +kernel
theorem dX2_cheapestBribe_74 : decode cX2_cheapestBribe 74 = .ok (.iconst 0, 1) := by decide +kernel
theorem dX2_cheapestBribe_75 : decode cX2_cheapestBribe 75 = .ok (.istore 13, 2) := by decide +kernel
theorem dX2_cheapestBribe_77 : decode cX2_cheapestBribe 77 = .ok (.iload 13, 2) := by decide +kernel
theorem dX2_cheapestBribe_79 : decode cX2_cheapestBribe 79 = .ok (.iload 6, 2) := by decide +kernel
theorem dX2_cheapestBribe_81 : decode cX2_cheapestBribe 81 = .ok (.if_icmp .ge 89, 3) := by decide +kernel
theorem dX2_cheapestBribe_84 : decode cX2_cheapestBribe 84 = .ok (.iload 10, 2) := by decide +kernel
theorem dX2_cheapestBribe_86 : decode cX2_cheapestBribe 86 = .ok (.iload 13, 2) := by decide +kernel
theorem dX2_cheapestBribe_88 : decode cX2_cheapestBribe 88 = .ok (.ishr, 1) := by decide +kernel
theorem dX2_cheapestBribe_89 : decode cX2_cheapestBribe 89 = .ok (.iconst 1, 1) := by decide +kernel
theorem dX2_cheapestBribe_90 : decode cX2_cheapestBribe 90 = .ok (.iand, 1) := by decide +kernel
theorem dX2_cheapestBribe_91 : decode cX2_cheapestBribe 91 = .ok (.iconst 1, 1) := by decide +kernel
theorem dX2_cheapestBribe_92 : decode cX2_cheapestBribe 92 = .ok (.if_icmp .ne 7, 3) := by decide +kernel
theorem dX2_cheapestBribe_95 : decode cX2_cheapestBribe 95 = .ok (.iconst 1, 1) := by decide +kernel
theorem dX2_cheapestBribe_96 : decode cX2_cheapestBribe 96 = .ok (.goto 4, 3) := by decide +kernel
theorem dX2_cheapestBribe_99 : decode cX2_cheapestBribe 99 = .ok (.iconst 0, 1) := by decide +kernel
theorem dX2_cheapestBribe_100 : decode cX2_cheapestBribe 100 = .ok (.istore 14, 2) := by decide +kernel
theorem dX2_cheapestBribe_102 : decode cX2_cheapestBribe 102 = .ok (.iload 11, 2) := by decide +kernel
theorem dX2_cheapestBribe_104 : decode cX2_cheapestBribe 104 = .ok (.iload 14, 2) := by decide +kernel
theorem dX2_cheapestBribe_106 : decode cX2_cheapestBribe 106 = .ok (.ifCond .ne 15, 3) := by decide +kernel
theorem dX2_cheapestBribe_109 : decode cX2_cheapestBribe 109 = .ok (.aload_n 0, 1) := by decide +kernel
theorem dX2_cheapestBribe_110 : decode cX2_cheapestBribe 110 = .ok (.getfield 20, 3) := by decide +kernel
theorem dX2_cheapestBribe_113 : decode cX2_cheapestBribe 113 = .ok (.iload 13, 2) := by decide +kernel
theorem dX2_cheapestBribe_115 : decode cX2_cheapestBribe 115 = .ok (.iaload, 1) := by decide +kernel
theorem dX2_cheapestBribe_116 : decode cX2_cheapestBribe 116 = .ok (.iload 5, 2) := by decide +kernel
theorem dX2_cheapestBribe_118 : decode cX2_cheapestBribe 118 = .ok (.if_icmp .lt 7, 3) := by decide +kernel
theorem dX2_cheapestBribe_121 : decode cX2_cheapestBribe 121 = .ok (.iconst 1, 1) := by decide +kernel
theorem dX2_cheapestBribe_122 : decode cX2_cheapestBribe 122 = .ok (.goto 4, 3) := by decide +kernel
theorem dX2_cheapestBribe_125 : decode cX2_cheapestBribe 125 = .ok (.iconst 0, 1) := by decide +kernel
theorem dX2_cheapestBribe_126 : decode cX2_cheapestBribe 126 = .ok (.iadd, 1) := by decide +kernel
theorem dX2_cheapestBribe_127 : decode cX2_cheapestBribe 127 = .ok (.istore 11, 2) := by decide +kernel
theorem dX2_cheapestBribe_129 : decode cX2_cheapestBribe 129 = .ok (.iload 12, 2) := by decide +kernel
theorem dX2_cheapestBribe_131 : decode cX2_cheapestBribe 131 = .ok (.iload 14, 2) := by decide +kernel
theorem dX2_cheapestBribe_133 : decode cX2_cheapestBribe 133 = .ok (.ifCond .eq 27, 3) := by decide +kernel
theorem dX2_cheapestBribe_136 : decode cX2_cheapestBribe 136 = .ok (.iconst 0, 1) := by decide +kernel
theorem dX2_cheapestBribe_137 : decode cX2_cheapestBribe 137 = .ok (.iload 5, 2) := by decide +kernel
theorem dX2_cheapestBribe_139 : decode cX2_cheapestBribe 139 = .ok (.aload_n 0, 1) := by decide +kernel
theorem dX2_cheapestBribe_140 : decode cX2_cheapestBribe 140 = .ok (.getfield 20, 3) := by decide +kernel
theorem dX2_cheapestBribe_143 : decode cX2_cheapestBribe 143 = .ok (.iload 13, 2) := by decide +kernel
theorem dX2_cheapestBribe_145 : decode cX2_cheapestBribe 145 = .ok (.iaload, 1) := by decide +kernel
theorem dX2_cheapestBribe_146 : decode cX2_cheapestBribe 146 = .ok (.isub, 1) := by decide +kernel
theorem dX2_cheapestBribe_147 : decode cX2_cheapestBribe 147 = .ok (.invokestatic 71, 3) := by decide +kernel
theorem dX2_cheapestBribe_150 : decode cX2_cheapestBribe 150 = .ok (.aload_n 1, 1) := by decide +kernel
theorem dX2_cheapestBribe_151 : decode cX2_cheapestBribe 151 = .ok (.iload 13, 2) := by decide +kernel
theorem dX2_cheapestBribe_153 : decode cX2_cheapestBribe 153 = .ok (.invokevirtual 85, 3) := by decide +kernel
theorem dX2_cheapestBribe_156 : decode cX2_cheapestBribe 156 = .ok (.imul, 1) := by decide +kernel
theorem dX2_cheapestBribe_157 : decode cX2_cheapestBribe 157 = .ok (.goto 4, 3) := by decide +kernel
theorem dX2_cheapestBribe_160 : decode cX2_cheapestBribe 160 = .ok (.iconst 0, 1) := by decide +kernel
theorem dX2_cheapestBribe_161 : decode cX2_cheapestBribe 161 = .ok (.iadd, 1) := by decide +kernel
theorem dX2_cheapestBribe_162 : decode cX2_cheapestBribe 162 = .ok (.istore 12, 2) := by decide +kernel
theorem dX2_cheapestBribe_164 : decode cX2_cheapestBribe 164 = .ok (.iinc 13 1, 3) := by decide +kernel
theorem dX2_cheapestBribe_167 : decode cX2_cheapestBribe 167 = .ok (.goto (-90), 3) := by decide +kernel
theorem dX2_cheapestBribe_170 : decode cX2_cheapestBribe 170 = .ok (.iload 11, 2) := by decide +kernel
theorem dX2_cheapestBribe_172 : decode cX2_cheapestBribe 172 = .ok (.iload 7, 2) := by decide +kernel
theorem dX2_cheapestBribe_174 : decode cX2_cheapestBribe 174 = .ok (.if_icmp .lt 24, 3) := by decide +kernel
theorem dX2_cheapestBribe_177 : decode cX2_cheapestBribe 177 = .ok (.iload 8, 2) := by decide +kernel
theorem dX2_cheapestBribe_179 : decode cX2_cheapestBribe 179 = .ok (.iconst (-1), 1) := by decide +kernel
theorem dX2_cheapestBribe_180 : decode cX2_cheapestBribe 180 = .ok (.if_icmp .eq 10, 3) := by decide +kernel
theorem dX2_cheapestBribe_183 : decode cX2_cheapestBribe 183 = .ok (.iload 12, 2) := by decide +kernel
theorem dX2_cheapestBribe_185 : decode cX2_cheapestBribe 185 = .ok (.iload 8, 2) := by decide +kernel
theorem dX2_cheapestBribe_187 : decode cX2_cheapestBribe 187 = .ok (.if_icmp .ge 11, 3) := by decide +kernel
theorem dX2_cheapestBribe_190 : decode cX2_cheapestBribe 190 = .ok (.iload 12, 2) := by decide +kernel
theorem dX2_cheapestBribe_192 : decode cX2_cheapestBribe 192 = .ok (.istore 8, 2) := by decide +kernel
theorem dX2_cheapestBribe_194 : decode cX2_cheapestBribe 194 = .ok (.iload 10, 2) := by decide +kernel
theorem dX2_cheapestBribe_196 : decode cX2_cheapestBribe 196 = .ok (.istore 9, 2) := by decide +kernel
theorem dX2_cheapestBribe_198 : decode cX2_cheapestBribe 198 = .ok (.iinc 10 1, 3) := by decide +kernel
theorem dX2_cheapestBribe_201 : decode cX2_cheapestBribe 201 = .ok (.goto (-142), 3) := by decide +kernel
theorem dX2_cheapestBribe_204 : decode cX2_cheapestBribe 204 = .ok (.iload 4, 2) := by decide +kernel
theorem dX2_cheapestBribe_206 : decode cX2_cheapestBribe 206 = .ok (.ifCond .ne 8, 3) := by decide +kernel
theorem dX2_cheapestBribe_209 : decode cX2_cheapestBribe 209 = .ok (.iload 8, 2) := by decide +kernel
theorem dX2_cheapestBribe_211 : decode cX2_cheapestBribe 211 = .ok (.goto 5, 3) := by decide +kernel
theorem dX2_cheapestBribe_214 : decode cX2_cheapestBribe 214 = .ok (.iload 9, 2) := by decide +kernel
theorem dX2_cheapestBribe_216 : decode cX2_cheapestBribe 216 = .ok (.ireturn, 1) := by decide +kernel
theorem dX11_bribe_0 : decode cX11_bribe 0 = .ok (.aload_n 0, 1) := by decide +kernel
theorem dX11_bribe_1 : decode cX11_bribe 1 = .ok (.getfield 10, 3) := by decide +kernel
theorem dX11_bribe_4 : decode cX11_bribe 4 = .ok (.iload_n 1, 1) := by decide +kernel
theorem dX11_bribe_5 : decode cX11_bribe 5 = .ok (.invokevirtual 146, 3) := by decide +kernel
theorem dX11_bribe_8 : decode cX11_bribe 8 = .ok (.ifCond .eq 30, 3) := by decide +kernel
theorem dX11_bribe_11 : decode cX11_bribe 11 = .ok (.aload_n 0, 1) := by decide +kernel
theorem dX11_bribe_12 : decode cX11_bribe 12 = .ok (.getfield 10, 3) := by decide +kernel
theorem dX11_bribe_15 : decode cX11_bribe 15 = .ok (.iload_n 2, 1) := by decide +kernel
theorem dX11_bribe_16 : decode cX11_bribe 16 = .ok (.invokevirtual 146, 3) := by decide +kernel
theorem dX11_bribe_19 : decode cX11_bribe 19 = .ok (.ifCond .eq 19, 3) := by decide +kernel
theorem dX11_bribe_22 : decode cX11_bribe 22 = .ok (.iload_n 1, 1) := by decide +kernel
theorem dX11_bribe_23 : decode cX11_bribe 23 = .ok (.iload_n 2, 1) := by decide +kernel
theorem dX11_bribe_24 : decode cX11_bribe 24 = .ok (.if_icmp .eq 14, 3) := by decide +kernel
theorem dX11_bribe_27 : decode cX11_bribe 27 = .ok (.aload_n 0, 1) := by decide +kernel
theorem dX11_bribe_28 : decode cX11_bribe 28 = .ok (.getfield 10, 3) := by decide +kernel
theorem dX11_bribe_31 : decode cX11_bribe 31 = .ok (.iconst 2, 1) := by decide +kernel
theorem dX11_bribe_32 : decode cX11_bribe 32 = .ok (.invokevirtual 108, 3) := by decide +kernel
theorem dX11_bribe_35 : decode cX11_bribe 35 = .ok (.ifCond .ne 5, 3) := by decide +kernel
theorem dX11_bribe_38 : decode cX11_bribe 38 = .ok (.iconst (-1), 1) := by decide +kernel
theorem dX11_bribe_39 : decode cX11_bribe 39 = .ok (.ireturn, 1) := by decide +kernel
theorem dX11_bribe_40 : decode cX11_bribe 40 = .ok (.aload_n 0, 1) := by decide +kernel
theorem dX11_bribe_41 : decode cX11_bribe 41 = .ok (.getfield 39, 3) := by decide +kernel
theorem dX11_bribe_44 : decode cX11_bribe 44 = .ok (.aload_n 0, 1) := by decide +kernel
theorem dX11_bribe_45 : decode cX11_bribe 45 = .ok (.getfield 10, 3) := by decide +kernel
theorem dX11_bribe_48 : decode cX11_bribe 48 = .ok (.iload_n 1, 1) := by decide +kernel
theorem dX11_bribe_49 : decode cX11_bribe 49 = .ok (.iload_n 2, 1) := by decide +kernel
theorem dX11_bribe_50 : decode cX11_bribe 50 = .ok (.iload_n 3, 1) := by decide +kernel
theorem dX11_bribe_51 : decode cX11_bribe 51 = .ok (.invokevirtual 272, 3) := by decide +kernel
theorem dX11_bribe_54 : decode cX11_bribe 54 = .ok (.ireturn, 1) := by decide +kernel
theorem dX11_comes_0 : decode cX11_comes 0 = .ok (.aload_n 0, 1) := by decide +kernel
theorem dX11_comes_1 : decode cX11_comes 1 = .ok (.getfield 10, 3) := by decide +kernel
theorem dX11_comes_4 : decode cX11_comes 4 = .ok (.iload_n 1, 1) := by decide +kernel
theorem dX11_comes_5 : decode cX11_comes 5 = .ok (.invokevirtual 121, 3) := by decide +kernel
theorem dX11_comes_8 : decode cX11_comes 8 = .ok (.ifCond .eq 32, 3) := by decide +kernel
theorem dX11_comes_11 : decode cX11_comes 11 = .ok (.iload_n 2, 1) := by decide +kernel
theorem dX11_comes_12 : decode cX11_comes 12 = .ok (.bipush 99, 2) := by decide +kernel
theorem dX11_comes_14 : decode cX11_comes 14 = .ok (.if_icmp .gt 26, 3) := by decide +kernel
theorem dX11_comes_17 : decode cX11_comes 17 = .ok (.iload_n 3, 1) := by decide +kernel
theorem dX11_comes_18 : decode cX11_comes 18 = .ok (.bipush 20, 2) := by decide +kernel
theorem dX11_comes_20 : decode cX11_comes 20 = .ok (.if_icmp .gt 20, 3) := by decide +kernel
theorem dX11_comes_23 : decode cX11_comes 23 = .ok (.aload_n 0, 1) := by decide +kernel
theorem dX11_comes_24 : decode cX11_comes 24 = .ok (.getfield 10, 3) := by decide +kernel
theorem dX11_comes_27 : decode cX11_comes 27 = .ok (.iconst 1, 1) := by decide +kernel
theorem dX11_comes_28 : decode cX11_comes 28 = .ok (.invokevirtual 108, 3) := by decide +kernel
theorem dX11_comes_31 : decode cX11_comes 31 = .ok (.bipush 16, 2) := by decide +kernel
theorem dX11_comes_33 : decode cX11_comes 33 = .ok (.if_icmp .ge 7, 3) := by decide +kernel
theorem dX11_comes_36 : decode cX11_comes 36 = .ok (.iconst 1, 1) := by decide +kernel
theorem dX11_comes_37 : decode cX11_comes 37 = .ok (.goto 4, 3) := by decide +kernel
theorem dX11_comes_40 : decode cX11_comes 40 = .ok (.iconst 0, 1) := by decide +kernel
theorem dX11_comes_41 : decode cX11_comes 41 = .ok (.istore 4, 2) := by decide +kernel
theorem dX11_comes_43 : decode cX11_comes 43 = .ok (.iload 4, 2) := by decide +kernel
theorem dX11_comes_45 : decode cX11_comes 45 = .ok (.ifCond .eq 14, 3) := by decide +kernel
theorem dX11_comes_48 : decode cX11_comes 48 = .ok (.aload_n 0, 1) := by decide +kernel
theorem dX11_comes_49 : decode cX11_comes 49 = .ok (.getfield 10, 3) := by decide +kernel
theorem dX11_comes_52 : decode cX11_comes 52 = .ok (.iload_n 1, 1) := by decide +kernel
theorem dX11_comes_53 : decode cX11_comes 53 = .ok (.iload_n 2, 1) := by decide +kernel
theorem dX11_comes_54 : decode cX11_comes 54 = .ok (.iload_n 3, 1) := by decide +kernel
theorem dX11_comes_55 : decode cX11_comes 55 = .ok (.invokevirtual 142, 3) := by decide +kernel
theorem dX11_comes_58 : decode cX11_comes 58 = .ok (.pop, 1) := by decide +kernel
theorem dX11_comes_59 : decode cX11_comes 59 = .ok (.iload 4, 2) := by decide +kernel
theorem dX11_comes_61 : decode cX11_comes 61 = .ok (.ireturn, 1) := by decide +kernel
theorem dX4_size_0 : decode cX4_size 0 = .ok (.aload_n 0, 1) := by decide +kernel
theorem dX4_size_1 : decode cX4_size 1 = .ok (.getfield 24, 3) := by decide +kernel
theorem dX4_size_4 : decode cX4_size 4 = .ok (.ireturn, 1) := by decide +kernel
theorem dX5_length_0 : decode cX5_length 0 = .ok (.aload_n 0, 1) := by decide +kernel
theorem dX5_length_1 : decode cX5_length 1 = .ok (.getfield 33, 3) := by decide +kernel
theorem dX5_length_4 : decode cX5_length 4 = .ok (.ireturn, 1) := by decide +kernel
theorem dX11_count_0 : decode cX11_count 0 = .ok (.iload_n 1, 1) := by decide +kernel
theorem dX11_count_1 : decode cX11_count 1 = .ok (.iconst 0, 1) := by decide +kernel
theorem dX11_count_2 : decode cX11_count 2 = .ok (.iconst 4, 1) := by decide +kernel
theorem dX11_count_3 : decode cX11_count 3 = .ok (.invokestatic 100, 3) := by decide +kernel
theorem dX11_count_6 : decode cX11_count 6 = .ok (.ifCond .eq 12, 3) := by decide +kernel
theorem dX11_count_9 : decode cX11_count 9 = .ok (.aload_n 0, 1) := by decide +kernel
theorem dX11_count_10 : decode cX11_count 10 = .ok (.getfield 10, 3) := by decide +kernel
theorem dX11_count_13 : decode cX11_count 13 = .ok (.iload_n 1, 1) := by decide +kernel
theorem dX11_count_14 : decode cX11_count 14 = .ok (.invokevirtual 108, 3) := by decide +kernel
theorem dX11_count_17 : decode cX11_count 17 = .ok (.ireturn, 1) := by decide +kernel
theorem dX11_count_18 : decode cX11_count 18 = .ok (.iload_n 1, 1) := by decide +kernel
theorem dX11_count_19 : decode cX11_count 19 = .ok (.bipush 14, 2) := by decide +kernel
theorem dX11_count_21 : decode cX11_count 21 = .ok (.bipush 16, 2) := by decide +kernel
theorem dX11_count_23 : decode cX11_count 23 = .ok (.invokestatic 100, 3) := by decide +kernel
theorem dX11_count_26 : decode cX11_count 26 = .ok (.ifCond .eq 15, 3) := by decide +kernel
theorem dX11_count_29 : decode cX11_count 29 = .ok (.aload_n 0, 1) := by decide +kernel
theorem dX11_count_30 : decode cX11_count 30 = .ok (.getfield 10, 3) := by decide +kernel
theorem dX11_count_33 : decode cX11_count 33 = .ok (.iload_n 1, 1) := by decide +kernel
theorem dX11_count_34 : decode cX11_count 34 = .ok (.bipush 14, 2) := by decide +kernel
theorem dX11_count_36 : decode cX11_count 36 = .ok (.isub, 1) := by decide +kernel
theorem dX11_count_37 : decode cX11_count 37 = .ok (.invokevirtual 125, 3) := by decide +kernel
theorem dX11_count_40 : decode cX11_count 40 = .ok (.ireturn, 1) := by decide +kernel
theorem dX11_count_41 : decode cX11_count 41 = .ok (.iload_n 1, 1) := by decide +kernel
theorem dX11_count_42 : decode cX11_count 42 = .ok (.tableswitch 118 5 13 #[50, 58, 66, 74, 81, 88, 95, 102, 110], 50) := by decide +kernel
theorem dX11_count_92 : decode cX11_count 92 = .ok (.aload_n 0, 1) := by decide +kernel
theorem dX11_count_93 : decode cX11_count 93 = .ok (.getfield 10, 3) := by decide +kernel
theorem dX11_count_96 : decode cX11_count 96 = .ok (.invokevirtual 313, 3) := by decide +kernel
theorem dX11_count_99 : decode cX11_count 99 = .ok (.ireturn, 1) := by decide +kernel
theorem dX11_count_100 : decode cX11_count 100 = .ok (.aload_n 0, 1) := by decide +kernel
theorem dX11_count_101 : decode cX11_count 101 = .ok (.getfield 25, 3) := by decide +kernel
theorem dX11_count_104 : decode cX11_count 104 = .ok (.invokevirtual 316, 3) := by decide +kernel
theorem dX11_count_107 : decode cX11_count 107 = .ok (.ireturn, 1) := by decide +kernel
theorem dX11_count_108 : decode cX11_count 108 = .ok (.aload_n 0, 1) := by decide +kernel
theorem dX11_count_109 : decode cX11_count 109 = .ok (.getfield 32, 3) := by decide +kernel
theorem dX11_count_112 : decode cX11_count 112 = .ok (.invokevirtual 167, 3) := by decide +kernel
theorem dX11_count_115 : decode cX11_count 115 = .ok (.ireturn, 1) := by decide +kernel
theorem dX11_count_116 : decode cX11_count 116 = .ok (.aload_n 0, 1) := by decide +kernel
theorem dX11_count_117 : decode cX11_count 117 = .ok (.getfield 89, 3) := by decide +kernel
theorem dX11_count_120 : decode cX11_count 120 = .ok (.iconst 1, 1) := by decide +kernel
theorem dX11_count_121 : decode cX11_count 121 = .ok (.iaload, 1) := by decide +kernel
theorem dX11_count_122 : decode cX11_count 122 = .ok (.ireturn, 1) := by decide +kernel
theorem dX11_count_123 : decode cX11_count 123 = .ok (.aload_n 0, 1) := by decide +kernel
theorem dX11_count_124 : decode cX11_count 124 = .ok (.getfield 89, 3) := by decide +kernel
theorem dX11_count_127 : decode cX11_count 127 = .ok (.iconst 2, 1) := by decide +kernel
theorem dX11_count_128 : decode cX11_count 128 = .ok (.iaload, 1) := by decide +kernel
theorem dX11_count_129 : decode cX11_count 129 = .ok (.ireturn, 1) := by decide +kernel
theorem dX11_count_130 : decode cX11_count 130 = .ok (.aload_n 0, 1) := by decide +kernel
theorem dX11_count_131 : decode cX11_count 131 = .ok (.getfield 89, 3) := by decide +kernel
theorem dX11_count_134 : decode cX11_count 134 = .ok (.iconst 3, 1) := by decide +kernel
theorem dX11_count_135 : decode cX11_count 135 = .ok (.iaload, 1) := by decide +kernel
theorem dX11_count_136 : decode cX11_count 136 = .ok (.ireturn, 1) := by decide +kernel
theorem dX11_count_137 : decode cX11_count 137 = .ok (.aload_n 0, 1) := by decide +kernel
theorem dX11_count_138 : decode cX11_count 138 = .ok (.getfield 89, 3) := by decide +kernel
theorem dX11_count_141 : decode cX11_count 141 = .ok (.iconst 5, 1) := by decide +kernel
theorem dX11_count_142 : decode cX11_count 142 = .ok (.iaload, 1) := by decide +kernel
theorem dX11_count_143 : decode cX11_count 143 = .ok (.ireturn, 1) := by decide +kernel
theorem dX11_count_144 : decode cX11_count 144 = .ok (.aload_n 0, 1) := by decide +kernel
theorem dX11_count_145 : decode cX11_count 145 = .ok (.getfield 89, 3) := by decide +kernel
theorem dX11_count_148 : decode cX11_count 148 = .ok (.bipush 6, 2) := by decide +kernel
theorem dX11_count_150 : decode cX11_count 150 = .ok (.iaload, 1) := by decide +kernel
theorem dX11_count_151 : decode cX11_count 151 = .ok (.ireturn, 1) := by decide +kernel
theorem dX11_count_152 : decode cX11_count 152 = .ok (.aload_n 0, 1) := by decide +kernel
theorem dX11_count_153 : decode cX11_count 153 = .ok (.getfield 10, 3) := by decide +kernel
theorem dX11_count_156 : decode cX11_count 156 = .ok (.invokevirtual 210, 3) := by decide +kernel
theorem dX11_count_159 : decode cX11_count 159 = .ok (.ireturn, 1) := by decide +kernel
theorem dX11_count_160 : decode cX11_count 160 = .ok (.iconst (-1), 1) := by decide +kernel
theorem dX11_count_161 : decode cX11_count 161 = .ok (.ireturn, 1) := by decide +kernel
theorem dX11_debt_0 : decode cX11_debt 0 = .ok (.aload_n 0, 1) := by decide +kernel
theorem dX11_debt_1 : decode cX11_debt 1 = .ok (.getfield 10, 3) := by decide +kernel
theorem dX11_debt_4 : decode cX11_debt 4 = .ok (.iload_n 1, 1) := by decide +kernel
theorem dX11_debt_5 : decode cX11_debt 5 = .ok (.invokevirtual 121, 3) := by decide +kernel
theorem dX11_debt_8 : decode cX11_debt 8 = .ok (.ifCond .eq 27, 3) := by decide +kernel
theorem dX11_debt_11 : decode cX11_debt 11 = .ok (.aload_n 0, 1) := by decide +kernel
theorem dX11_debt_12 : decode cX11_debt 12 = .ok (.getfield 10, 3) := by decide +kernel
theorem dX11_debt_15 : decode cX11_debt 15 = .ok (.iload_n 2, 1) := by decide +kernel
theorem dX11_debt_16 : decode cX11_debt 16 = .ok (.invokevirtual 121, 3) := by decide +kernel
theorem dX11_debt_19 : decode cX11_debt 19 = .ok (.ifCond .eq 16, 3) := by decide +kernel
theorem dX11_debt_22 : decode cX11_debt 22 = .ok (.aload_n 0, 1) := by decide +kernel
theorem dX11_debt_23 : decode cX11_debt 23 = .ok (.getfield 10, 3) := by decide +kernel
theorem dX11_debt_26 : decode cX11_debt 26 = .ok (.iload_n 1, 1) := by decide +kernel
theorem dX11_debt_27 : decode cX11_debt 27 = .ok (.iload_n 2, 1) := by decide +kernel
theorem dX11_debt_28 : decode cX11_debt 28 = .ok (.invokevirtual 242, 3) := by decide +kernel
theorem dX11_debt_31 : decode cX11_debt 31 = .ok (.iconst (-1), 1) := by decide +kernel
theorem dX11_debt_32 : decode cX11_debt 32 = .ok (.if_icmp .ne 5, 3) := by decide +kernel
theorem dX11_debt_35 : decode cX11_debt 35 = .ok (.iconst (-1), 1) := by decide +kernel
theorem dX11_debt_36 : decode cX11_debt 36 = .ok (.ireturn, 1) := by decide +kernel
theorem dX11_debt_37 : decode cX11_debt 37 = .ok (.iload_n 3, 1) := by decide +kernel
theorem dX11_debt_38 : decode cX11_debt 38 = .ok (.lookupswitch 46 #[(0, 26), (1, 36)], 26) := by decide +kernel
theorem dX11_debt_64 : decode cX11_debt 64 = .ok (.aload_n 0, 1) := by decide +kernel
theorem dX11_debt_65 : decode cX11_debt 65 = .ok (.getfield 10, 3) := by decide +kernel
theorem dX11_debt_68 : decode cX11_debt 68 = .ok (.iload_n 1, 1) := by decide +kernel
theorem dX11_debt_69 : decode cX11_debt 69 = .ok (.iload_n 2, 1) := by decide +kernel
theorem dX11_debt_70 : decode cX11_debt 70 = .ok (.invokevirtual 242, 3) := by decide +kernel
theorem dX11_debt_73 : decode cX11_debt 73 = .ok (.ireturn, 1) := by decide +kernel
theorem dX11_debt_74 : decode cX11_debt 74 = .ok (.aload_n 0, 1) := by decide +kernel
theorem dX11_debt_75 : decode cX11_debt 75 = .ok (.getfield 10, 3) := by decide +kernel
theorem dX11_debt_78 : decode cX11_debt 78 = .ok (.iload_n 1, 1) := by decide +kernel
theorem dX11_debt_79 : decode cX11_debt 79 = .ok (.iload_n 2, 1) := by decide +kernel
theorem dX11_debt_80 : decode cX11_debt 80 = .ok (.invokevirtual 245, 3) := by decide +kernel
theorem dX11_debt_83 : decode cX11_debt 83 = .ok (.ireturn, 1) := by decide +kernel
theorem dX11_debt_84 : decode cX11_debt 84 = .ok (.iconst (-1), 1) := by decide +kernel
theorem dX11_debt_85 : decode cX11_debt 85 = .ok (.ireturn, 1) := by decide +kernel
theorem dX11_drawn_0 : decode cX11_drawn 0 = .ok (.aload_n 0, 1) := by decide +kernel
theorem dX11_drawn_1 : decode cX11_drawn 1 = .ok (.getfield 48, 3) := by decide +kernel
theorem dX11_drawn_4 : decode cX11_drawn 4 = .ok (.invokevirtual 298, 3) := by decide +kernel
theorem dX11_drawn_7 : decode cX11_drawn 7 = .ok (.astore_n 3, 1) := by decide +kernel
theorem dX11_drawn_8 : decode cX11_drawn 8 = .ok (.aload_n 3, 1) := by decide +kernel
theorem dX11_drawn_9 : decode cX11_drawn 9 = .ok (.iload_n 1, 1) := by decide +kernel
theorem dX11_drawn_10 : decode cX11_drawn 10 = .ok (.invokevirtual 121, 3) := by decide +kernel
theorem dX11_drawn_13 : decode cX11_drawn 13 = .ok (.ifCond .eq 12, 3) := by decide +kernel
theorem dX11_drawn_16 : decode cX11_drawn 16 = .ok (.aload_n 3, 1) := by decide +kernel
theorem dX11_drawn_17 : decode cX11_drawn 17 = .ok (.iload_n 1, 1) := by decide +kernel
theorem dX11_drawn_18 : decode cX11_drawn 18 = .ok (.iload_n 2, 1) := by decide +kernel
theorem dX11_drawn_19 : decode cX11_drawn 19 = .ok (.invokevirtual 132, 3) := by decide +kernel
theorem dX11_drawn_22 : decode cX11_drawn 22 = .ok (.goto 4, 3) := by decide +kernel
theorem dX11_drawn_25 : decode cX11_drawn 25 = .ok (.iconst (-1), 1) := by decide +kernel
theorem dX11_drawn_26 : decode cX11_drawn 26 = .ok (.ireturn, 1) := by decide +kernel
theorem dX11_dross_0 : decode cX11_dross 0 = .ok (.aload_n 0, 1) := by decide +kernel
theorem dX11_dross_1 : decode cX11_dross 1 = .ok (.getfield 97, 3) := by decide +kernel
theorem dX11_dross_4 : decode cX11_dross 4 = .ok (.ireturn, 1) := by decide +kernel
theorem dX1_gather_0 : decode cX1_gather 0 = .ok (.aload_n 0, 1) := by decide +kernel
theorem dX1_gather_1 : decode cX1_gather 1 = .ok (.getfield 24, 3) := by decide +kernel
theorem dX1_gather_4 : decode cX1_gather 4 = .ok (.iload_n 2, 1) := by decide +kernel
theorem dX1_gather_5 : decode cX1_gather 5 = .ok (.aload_n 1, 1) := by decide +kernel
theorem dX1_gather_6 : decode cX1_gather 6 = .ok (.iload_n 3, 1) := by decide +kernel
theorem dX1_gather_7 : decode cX1_gather 7 = .ok (.iconst 0, 1) := by decide +kernel
theorem dX1_gather_8 : decode cX1_gather 8 = .ok (.invokevirtual 52, 3) := by decide +kernel
theorem dX1_gather_11 : decode cX1_gather 11 = .ok (.iastore, 1) := by decide +kernel
theorem dX1_gather_12 : decode cX1_gather 12 = .ok (.aload_n 0, 1) := by decide +kernel
theorem dX1_gather_13 : decode cX1_gather 13 = .ok (.getfield 21, 3) := by decide +kernel
theorem dX1_gather_16 : decode cX1_gather 16 = .ok (.iload_n 2, 1) := by decide +kernel
theorem dX1_gather_17 : decode cX1_gather 17 = .ok (.iconst 0, 1) := by decide +kernel
theorem dX1_gather_18 : decode cX1_gather 18 = .ok (.iastore, 1) := by decide +kernel
theorem dX1_gather_19 : decode cX1_gather 19 = .ok (.aload_n 1, 1) := by decide +kernel
theorem dX1_gather_20 : decode cX1_gather 20 = .ok (.iconst 0, 1) := by decide +kernel
theorem dX1_gather_21 : decode cX1_gather 21 = .ok (.invokevirtual 56, 3) := by decide +kernel
theorem dX1_gather_24 : decode cX1_gather 24 = .ok (.istore 5, 2) := by decide +kernel
theorem dX1_gather_26 : decode cX1_gather 26 = .ok (.iconst 0, 1) := by decide +kernel
theorem dX1_gather_27 : decode cX1_gather 27 = .ok (.istore 6, 2) := by decide +kernel
theorem dX1_gather_29 : decode cX1_gather 29 = .ok (.iconst 0, 1) := by decide +kernel
theorem dX1_gather_30 : decode cX1_gather 30 = .ok (.istore 7, 2) := by decide +kernel
theorem dX1_gather_32 : decode cX1_gather 32 = .ok (.iload 7, 2) := by decide +kernel
theorem dX1_gather_34 : decode cX1_gather 34 = .ok (.aload_n 1, 1) := by decide +kernel
theorem dX1_gather_35 : decode cX1_gather 35 = .ok (.iconst 1, 1) := by decide +kernel
theorem dX1_gather_36 : decode cX1_gather 36 = .ok (.invokevirtual 60, 3) := by decide +kernel
theorem dX1_gather_39 : decode cX1_gather 39 = .ok (.if_icmp .ge 118, 3) := by decide +kernel
theorem dX1_gather_42 : decode cX1_gather 42 = .ok (.iload 6, 2) := by decide +kernel
theorem dX1_gather_44 : decode cX1_gather 44 = .ok (.bipush 6, 2) := by decide +kernel
theorem dX1_gather_46 : decode cX1_gather 46 = .ok (.if_icmp .ge 111, 3) := by decide +kernel
theorem dX1_gather_49 : decode cX1_gather 49 = .ok (.aload_n 1, 1) := by decide +kernel
theorem dX1_gather_50 : decode cX1_gather 50 = .ok (.iload 7, 2) := by decide +kernel
theorem dX1_gather_52 : decode cX1_gather 52 = .ok (.iload_n 3, 1) := by decide +kernel
theorem dX1_gather_53 : decode cX1_gather 53 = .ok (.invokevirtual 62, 3) := by decide +kernel
theorem dX1_gather_56 : decode cX1_gather 56 = .ok (.ifCond .eq 95, 3) := by decide +kernel
theorem dX1_gather_59 : decode cX1_gather 59 = .ok (.iinc 6 1, 3) := by decide +kernel
theorem dX1_gather_62 : decode cX1_gather 62 = .ok (.aload_n 0, 1) := by decide +kernel
theorem dX1_gather_63 : decode cX1_gather 63 = .ok (.getfield 27, 3) := by decide +kernel
theorem dX1_gather_66 : decode cX1_gather 66 = .ok (.aload_n 1, 1) := by decide +kernel
theorem dX1_gather_67 : decode cX1_gather 67 = .ok (.iload 7, 2) := by decide +kernel
theorem dX1_gather_69 : decode cX1_gather 69 = .ok (.iload_n 3, 1) := by decide +kernel
theorem dX1_gather_70 : decode cX1_gather 70 = .ok (.iload 4, 2) := by decide +kernel
theorem dX1_gather_72 : decode cX1_gather 72 = .ok (.invokevirtual 66, 3) := by decide +kernel
theorem dX1_gather_75 : decode cX1_gather 75 = .ok (.ifCond .ne 76, 3) := by decide +kernel
theorem dX1_gather_78 : decode cX1_gather 78 = .ok (.iload_n 2, 1) := by decide +kernel
theorem dX1_gather_79 : decode cX1_gather 79 = .ok (.bipush 6, 2) := by decide +kernel
theorem dX1_gather_81 : decode cX1_gather 81 = .ok (.imul, 1) := by decide +kernel
theorem dX1_gather_82 : decode cX1_gather 82 = .ok (.aload_n 0, 1) := by decide +kernel
theorem dX1_gather_83 : decode cX1_gather 83 = .ok (.getfield 21, 3) := by decide +kernel
theorem dX1_gather_86 : decode cX1_gather 86 = .ok (.iload_n 2, 1) := by decide +kernel
theorem dX1_gather_87 : decode cX1_gather 87 = .ok (.iaload, 1) := by decide +kernel
theorem dX1_gather_88 : decode cX1_gather 88 = .ok (.iadd, 1) := by decide +kernel
theorem dX1_gather_89 : decode cX1_gather 89 = .ok (.istore 8, 2) := by decide +kernel
theorem dX1_gather_91 : decode cX1_gather 91 = .ok (.aload_n 0, 1) := by decide +kernel
theorem dX1_gather_92 : decode cX1_gather 92 = .ok (.getfield 11, 3) := by decide +kernel
theorem dX1_gather_95 : decode cX1_gather 95 = .ok (.iload 8, 2) := by decide +kernel
theorem dX1_gather_97 : decode cX1_gather 97 = .ok (.iload 7, 2) := by decide +kernel
theorem dX1_gather_99 : decode cX1_gather 99 = .ok (.iastore, 1) := by decide +kernel
theorem dX1_gather_100 : decode cX1_gather 100 = .ok (.aload_n 0, 1) := by decide +kernel
theorem dX1_gather_101 : decode cX1_gather 101 = .ok (.getfield 15, 3) := by decide +kernel
theorem dX1_gather_104 : decode cX1_gather 104 = .ok (.iload 8, 2) := by decide +kernel
theorem dX1_gather_106 : decode cX1_gather 106 = .ok (.aload_n 0, 1) := by decide +kernel
theorem dX1_gather_107 : decode cX1_gather 107 = .ok (.getfield 27, 3) := by decide +kernel
theorem dX1_gather_110 : decode cX1_gather 110 = .ok (.aload_n 1, 1) := by decide +kernel
theorem dX1_gather_111 : decode cX1_gather 111 = .ok (.iload 7, 2) := by decide +kernel
theorem dX1_gather_113 : decode cX1_gather 113 = .ok (.iload_n 3, 1) := by decide +kernel
theorem dX1_gather_114 : decode cX1_gather 114 = .ok (.iload 4, 2) := by decide +kernel
theorem dX1_gather_116 : decode cX1_gather 116 = .ok (.invokevirtual 72, 3) := by decide +kernel
theorem dX1_gather_119 : decode cX1_gather 119 = .ok (.iastore, 1) := by decide +kernel
theorem dX1_gather_120 : decode cX1_gather 120 = .ok (.aload_n 0, 1) := by decide +kernel
theorem dX1_gather_121 : decode cX1_gather 121 = .ok (.getfield 18, 3) := by decide +kernel
theorem dX1_gather_124 : decode cX1_gather 124 = .ok (.iload 8, 2) := by decide +kernel
theorem dX1_gather_126 : decode cX1_gather 126 = .ok (.aload_n 0, 1) := by decide +kernel
theorem dX1_gather_127 : decode cX1_gather 127 = .ok (.getfield 27, 3) := by decide +kernel
theorem dX1_gather_130 : decode cX1_gather 130 = .ok (.aload_n 1, 1) := by decide +kernel
theorem dX1_gather_131 : decode cX1_gather 131 = .ok (.iload 7, 2) := by decide +kernel
theorem dX1_gather_133 : decode cX1_gather 133 = .ok (.iload 4, 2) := by decide +kernel
theorem dX1_gather_135 : decode cX1_gather 135 = .ok (.iload 5, 2) := by decide +kernel
theorem dX1_gather_137 : decode cX1_gather 137 = .ok (.invokevirtual 76, 3) := by decide +kernel
theorem dX1_gather_140 : decode cX1_gather 140 = .ok (.iastore, 1) := by decide +kernel
theorem dX1_gather_141 : decode cX1_gather 141 = .ok (.aload_n 0, 1) := by decide +kernel
theorem dX1_gather_142 : decode cX1_gather 142 = .ok (.getfield 21, 3) := by decide +kernel
theorem dX1_gather_145 : decode cX1_gather 145 = .ok (.iload_n 2, 1) := by decide +kernel
theorem dX1_gather_146 : decode cX1_gather 146 = .ok (.dup2, 1) := by decide +kernel
theorem dX1_gather_147 : decode cX1_gather 147 = .ok (.iaload, 1) := by decide +kernel
theorem dX1_gather_148 : decode cX1_gather 148 = .ok (.iconst 1, 1) := by decide +kernel
theorem dX1_gather_149 : decode cX1_gather 149 = .ok (.iadd, 1) := by decide +kernel
theorem dX1_gather_150 : decode cX1_gather 150 = .ok (.iastore, 1) := by decide +kernel
theorem dX1_gather_151 : decode cX1_gather 151 = .ok (.iinc 7 1, 3) := by decide +kernel
theorem dX1_gather_154 : decode cX1_gather 154 = .ok (.goto (-122), 3) := by decide +kernel
theorem dX1_gather_157 : decode cX1_gather 157 = .ok (.return_, 1) := by decide +kernel
theorem dX1_lowestPossible_0 : decode cX1_lowestPossible 0 = .ok (.iconst 0, 1) := by decide +kernel
theorem dX1_lowestPossible_1 : decode cX1_lowestPossible 1 = .ok (.istore_n 3, 1) := by decide +kernel
theorem dX1_lowestPossible_2 : decode cX1_lowestPossible 2 = .ok (.iload_n 3, 1) := by decide +kernel
theorem dX1_lowestPossible_3 : decode cX1_lowestPossible 3 = .ok (.aload_n 0, 1) := by decide +kernel
theorem dX1_lowestPossible_4 : decode cX1_lowestPossible 4 = .ok (.getfield 21, 3) := by decide +kernel
theorem dX1_lowestPossible_7 : decode cX1_lowestPossible 7 = .ok (.iload_n 1, 1) := by decide +kernel
theorem dX1_lowestPossible_8 : decode cX1_lowestPossible 8 = .ok (.iaload, 1) := by decide +kernel
theorem dX1_lowestPossible_9 : decode cX1_lowestPossible 9 = .ok (.if_icmp .ge 31, 3) := by decide +kernel
theorem dX1_lowestPossible_12 : decode cX1_lowestPossible 12 = .ok (.aload_n 0, 1) := by decide +kernel
theorem dX1_lowestPossible_13 : decode cX1_lowestPossible 13 = .ok (.getfield 15, 3) := by decide +kernel
theorem dX1_lowestPossible_16 : decode cX1_lowestPossible 16 = .ok (.iload_n 1, 1) := by decide +kernel
theorem dX1_lowestPossible_17 : decode cX1_lowestPossible 17 = .ok (.bipush 6, 2) := by decide +kernel
theorem dX1_lowestPossible_19 : decode cX1_lowestPossible 19 = .ok (.imul, 1) := by decide +kernel
theorem dX1_lowestPossible_20 : decode cX1_lowestPossible 20 = .ok (.iload_n 3, 1) := by decide +kernel
theorem dX1_lowestPossible_21 : decode cX1_lowestPossible 21 = .ok (.iadd, 1) := by decide +kernel
theorem dX1_lowestPossible_22 : decode cX1_lowestPossible 22 = .ok (.iaload, 1) := by decide +kernel
theorem dX1_lowestPossible_23 : decode cX1_lowestPossible 23 = .ok (.iload_n 2, 1) := by decide +kernel
theorem dX1_lowestPossible_24 : decode cX1_lowestPossible 24 = .ok (.if_icmp .le 10, 3) := by decide +kernel
theorem dX1_lowestPossible_27 : decode cX1_lowestPossible 27 = .ok (.iload_n 1, 1) := by decide +kernel
theorem dX1_lowestPossible_28 : decode cX1_lowestPossible 28 = .ok (.bipush 6, 2) := by decide +kernel
theorem dX1_lowestPossible_30 : decode cX1_lowestPossible 30 = .ok (.imul, 1) := by decide +kernel
theorem dX1_lowestPossible_31 : decode cX1_lowestPossible 31 = .ok (.iload_n 3, 1) := by decide +kernel
theorem dX1_lowestPossible_32 : decode cX1_lowestPossible 32 = .ok (.iadd, 1) := by decide +kernel
theorem dX1_lowestPossible_33 : decode cX1_lowestPossible 33 = .ok (.ireturn, 1) := by decide +kernel
theorem dX1_lowestPossible_34 : decode cX1_lowestPossible 34 = .ok (.iinc 3 1, 3) := by decide +kernel
theorem dX1_lowestPossible_37 : decode cX1_lowestPossible 37 = .ok (.goto (-35), 3) := by decide +kernel
theorem dX1_lowestPossible_40 : decode cX1_lowestPossible 40 = .ok (.iconst (-1), 1) := by decide +kernel
theorem dX1_lowestPossible_41 : decode cX1_lowestPossible 41 = .ok (.ireturn, 1) := by decide +kernel
theorem dX1_winsBy_0 : decode cX1_winsBy 0 = .ok (.iload_n 3, 1) := by decide +kernel
theorem dX1_winsBy_1 : decode cX1_winsBy 1 = .ok (.aload_n 0, 1) := by decide +kernel
theorem dX1_winsBy_2 : decode cX1_winsBy 2 = .ok (.getfield 18, 3) := by decide +kernel
theorem dX1_winsBy_5 : decode cX1_winsBy 5 = .ok (.iload_n 1, 1) := by decide +kernel
theorem dX1_winsBy_6 : decode cX1_winsBy 6 = .ok (.iaload, 1) := by decide +kernel
theorem dX1_winsBy_7 : decode cX1_winsBy 7 = .ok (.isub, 1) := by decide +kernel
theorem dX1_winsBy_8 : decode cX1_winsBy 8 = .ok (.istore 5, 2) := by decide +kernel
theorem dX1_winsBy_10 : decode cX1_winsBy 10 = .ok (.iload 5, 2) := by decide +kernel
theorem dX1_winsBy_12 : decode cX1_winsBy 12 = .ok (.ifCond .lt 29, 3) := by decide +kernel
theorem dX1_winsBy_15 : decode cX1_winsBy 15 = .ok (.aload_n 0, 1) := by decide +kernel
theorem dX1_winsBy_16 : decode cX1_winsBy 16 = .ok (.iconst 1, 1) := by decide +kernel
theorem dX1_winsBy_17 : decode cX1_winsBy 17 = .ok (.iload_n 1, 1) := by decide +kernel
theorem dX1_winsBy_18 : decode cX1_winsBy 18 = .ok (.bipush 6, 2) := by decide +kernel
theorem dX1_winsBy_20 : decode cX1_winsBy 20 = .ok (.idiv, 1) := by decide +kernel
theorem dX1_winsBy_21 : decode cX1_winsBy 21 = .ok (.isub, 1) := by decide +kernel
theorem dX1_winsBy_22 : decode cX1_winsBy 22 = .ok (.aload_n 0, 1) := by decide +kernel
theorem dX1_winsBy_23 : decode cX1_winsBy 23 = .ok (.getfield 15, 3) := by decide +kernel
theorem dX1_winsBy_26 : decode cX1_winsBy 26 = .ok (.iload_n 1, 1) := by decide +kernel
theorem dX1_winsBy_27 : decode cX1_winsBy 27 = .ok (.iaload, 1) := by decide +kernel
theorem dX1_winsBy_28 : decode cX1_winsBy 28 = .ok (.iload 5, 2) := by decide +kernel
theorem dX1_winsBy_30 : decode cX1_winsBy 30 = .ok (.iload_n 2, 1) := by decide +kernel
theorem dX1_winsBy_31 : decode cX1_winsBy 31 = .ok (.iload 4, 2) := by decide +kernel
theorem dX1_winsBy_33 : decode cX1_winsBy 33 = .ok (.iconst 1, 1) := by decide +kernel
theorem dX1_winsBy_34 : decode cX1_winsBy 34 = .ok (.iadd, 1) := by decide +kernel
theorem dX1_winsBy_35 : decode cX1_winsBy 35 = .ok (.invokevirtual 35, 3) := by decide +kernel
theorem dX1_winsBy_38 : decode cX1_winsBy 38 = .ok (.ifCond .ne 7, 3) := by decide +kernel
theorem dX1_winsBy_41 : decode cX1_winsBy 41 = .ok (.iconst 1, 1) := by decide +kernel
theorem dX1_winsBy_42 : decode cX1_winsBy 42 = .ok (.goto 4, 3) := by decide +kernel
theorem dX1_winsBy_45 : decode cX1_winsBy 45 = .ok (.iconst 0, 1) := by decide +kernel
theorem dX1_winsBy_46 : decode cX1_winsBy 46 = .ok (.ireturn, 1) := by decide +kernel
theorem dX1_lowestWinning_0 : decode cX1_lowestWinning 0 = .ok (.iconst 0, 1) := by decide +kernel
theorem dX1_lowestWinning_1 : decode cX1_lowestWinning 1 = .ok (.istore 5, 2) := by decide +kernel
theorem dX1_lowestWinning_3 : decode cX1_lowestWinning 3 = .ok (.iload 5, 2) := by decide +kernel
theorem dX1_lowestWinning_5 : decode cX1_lowestWinning 5 = .ok (.aload_n 0, 1) := by decide +kernel
theorem dX1_lowestWinning_6 : decode cX1_lowestWinning 6 = .ok (.getfield 21, 3) := by decide +kernel
theorem dX1_lowestWinning_9 : decode cX1_lowestWinning 9 = .ok (.iload_n 1, 1) := by decide +kernel
theorem dX1_lowestWinning_10 : decode cX1_lowestWinning 10 = .ok (.iaload, 1) := by decide +kernel
theorem dX1_lowestWinning_11 : decode cX1_lowestWinning 11 = .ok (.if_icmp .ge 45, 3) := by decide +kernel
theorem dX1_lowestWinning_14 : decode cX1_lowestWinning 14 = .ok (.iload_n 1, 1) := by decide +kernel
theorem dX1_lowestWinning_15 : decode cX1_lowestWinning 15 = .ok (.bipush 6, 2) := by decide +kernel
theorem dX1_lowestWinning_17 : decode cX1_lowestWinning 17 = .ok (.imul, 1) := by decide +kernel
theorem dX1_lowestWinning_18 : decode cX1_lowestWinning 18 = .ok (.iload 5, 2) := by decide +kernel
theorem dX1_lowestWinning_20 : decode cX1_lowestWinning 20 = .ok (.iadd, 1) := by decide +kernel
theorem dX1_lowestWinning_21 : decode cX1_lowestWinning 21 = .ok (.istore 6, 2) := by decide +kernel
theorem dX1_lowestWinning_23 : decode cX1_lowestWinning 23 = .ok (.aload_n 0, 1) := by decide +kernel
theorem dX1_lowestWinning_24 : decode cX1_lowestWinning 24 = .ok (.getfield 15, 3) := by decide +kernel
theorem dX1_lowestWinning_27 : decode cX1_lowestWinning 27 = .ok (.iload 6, 2) := by decide +kernel
theorem dX1_lowestWinning_29 : decode cX1_lowestWinning 29 = .ok (.iaload, 1) := by decide +kernel
theorem dX1_lowestWinning_30 : decode cX1_lowestWinning 30 = .ok (.iload_n 2, 1) := by decide +kernel
theorem dX1_lowestWinning_31 : decode cX1_lowestWinning 31 = .ok (.if_icmp .le 19, 3) := by decide +kernel
theorem dX1_lowestWinning_34 : decode cX1_lowestWinning 34 = .ok (.aload_n 0, 1) := by decide +kernel
theorem dX1_lowestWinning_35 : decode cX1_lowestWinning 35 = .ok (.iload 6, 2) := by decide +kernel
theorem dX1_lowestWinning_37 : decode cX1_lowestWinning 37 = .ok (.iload_n 3, 1) := by decide +kernel
theorem dX1_lowestWinning_38 : decode cX1_lowestWinning 38 = .ok (.iload 4, 2) := by decide +kernel
theorem dX1_lowestWinning_40 : decode cX1_lowestWinning 40 = .ok (.iconst 0, 1) := by decide +kernel
theorem dX1_lowestWinning_41 : decode cX1_lowestWinning 41 = .ok (.invokevirtual 78, 3) := by decide +kernel
theorem dX1_lowestWinning_44 : decode cX1_lowestWinning 44 = .ok (.ifCond .eq 6, 3) := by decide +kernel
theorem dX1_lowestWinning_47 : decode cX1_lowestWinning 47 = .ok (.iload 6, 2) := by decide +kernel
theorem dX1_lowestWinning_49 : decode cX1_lowestWinning 49 = .ok (.ireturn, 1) := by decide +kernel
theorem dX1_lowestWinning_50 : decode cX1_lowestWinning 50 = .ok (.iinc 5 1, 3) := by decide +kernel
theorem dX1_lowestWinning_53 : decode cX1_lowestWinning 53 = .ok (.goto (-50), 3) := by decide +kernel
theorem dX1_lowestWinning_56 : decode cX1_lowestWinning 56 = .ok (.iconst (-1), 1) := by decide +kernel
theorem dX1_lowestWinning_57 : decode cX1_lowestWinning 57 = .ok (.ireturn, 1) := by decide +kernel
theorem dX1_length_0 : decode cX1_length 0 = .ok (.aload_n 0, 1) := by decide +kernel
theorem dX1_length_1 : decode cX1_length 1 = .ok (.getfield 24, 3) := by decide +kernel
theorem dX1_length_4 : decode cX1_length 4 = .ok (.iconst 0, 1) := by decide +kernel
theorem dX1_length_5 : decode cX1_length 5 = .ok (.iaload, 1) := by decide +kernel
theorem dX1_length_6 : decode cX1_length 6 = .ok (.istore_n 1, 1) := by decide +kernel
theorem dX1_length_7 : decode cX1_length 7 = .ok (.aload_n 0, 1) := by decide +kernel
theorem dX1_length_8 : decode cX1_length 8 = .ok (.getfield 24, 3) := by decide +kernel
theorem dX1_length_11 : decode cX1_length 11 = .ok (.iconst 1, 1) := by decide +kernel
theorem dX1_length_12 : decode cX1_length 12 = .ok (.iaload, 1) := by decide +kernel
theorem dX1_length_13 : decode cX1_length 13 = .ok (.istore_n 2, 1) := by decide +kernel
theorem dX1_length_14 : decode cX1_length 14 = .ok (.iconst (-1), 1) := by decide +kernel
theorem dX1_length_15 : decode cX1_length 15 = .ok (.istore_n 3, 1) := by decide +kernel
theorem dX1_length_16 : decode cX1_length 16 = .ok (.iconst 0, 1) := by decide +kernel
theorem dX1_length_17 : decode cX1_length 17 = .ok (.istore 4, 2) := by decide +kernel
theorem dX1_length_19 : decode cX1_length 19 = .ok (.iload 4, 2) := by decide +kernel
theorem dX1_length_21 : decode cX1_length 21 = .ok (.bipush 12, 2) := by decide +kernel
theorem dX1_length_23 : decode cX1_length 23 = .ok (.if_icmp .ge 84, 3) := by decide +kernel
theorem dX1_length_26 : decode cX1_length 26 = .ok (.iload 4, 2) := by decide +kernel
theorem dX1_length_28 : decode cX1_length 28 = .ok (.iconst 2, 1) := by decide +kernel
theorem dX1_length_29 : decode cX1_length 29 = .ok (.irem, 1) := by decide +kernel
theorem dX1_length_30 : decode cX1_length 30 = .ok (.istore 5, 2) := by decide +kernel
theorem dX1_length_32 : decode cX1_length 32 = .ok (.aload_n 0, 1) := by decide +kernel
theorem dX1_length_33 : decode cX1_length 33 = .ok (.iload 5, 2) := by decide +kernel
theorem dX1_length_35 : decode cX1_length 35 = .ok (.iload_n 3, 1) := by decide +kernel
theorem dX1_length_36 : decode cX1_length 36 = .ok (.iload_n 1, 1) := by decide +kernel
theorem dX1_length_37 : decode cX1_length 37 = .ok (.iload_n 2, 1) := by decide +kernel
theorem dX1_length_38 : decode cX1_length 38 = .ok (.invokevirtual 43, 3) := by decide +kernel
theorem dX1_length_41 : decode cX1_length 41 = .ok (.istore 6, 2) := by decide +kernel
theorem dX1_length_43 : decode cX1_length 43 = .ok (.iload 6, 2) := by decide +kernel
theorem dX1_length_45 : decode cX1_length 45 = .ok (.iconst (-1), 1) := by decide +kernel
theorem dX1_length_46 : decode cX1_length 46 = .ok (.if_icmp .ne 12, 3) := by decide +kernel
theorem dX1_length_49 : decode cX1_length 49 = .ok (.aload_n 0, 1) := by decide +kernel
theorem dX1_length_50 : decode cX1_length 50 = .ok (.iload 5, 2) := by decide +kernel
theorem dX1_length_52 : decode cX1_length 52 = .ok (.iload_n 3, 1) := by decide +kernel
theorem dX1_length_53 : decode cX1_length 53 = .ok (.invokevirtual 82, 3) := by decide +kernel
theorem dX1_length_56 : decode cX1_length 56 = .ok (.istore 6, 2) := by decide +kernel
theorem dX1_length_58 : decode cX1_length 58 = .ok (.iload 6, 2) := by decide +kernel
theorem dX1_length_60 : decode cX1_length 60 = .ok (.iconst (-1), 1) := by decide +kernel
theorem dX1_length_61 : decode cX1_length 61 = .ok (.if_icmp .ne 6, 3) := by decide +kernel
theorem dX1_length_64 : decode cX1_length 64 = .ok (.iload 4, 2) := by decide +kernel
theorem dX1_length_66 : decode cX1_length 66 = .ok (.ireturn, 1) := by decide +kernel
theorem dX1_length_67 : decode cX1_length 67 = .ok (.iload_n 2, 1) := by decide +kernel
theorem dX1_length_68 : decode cX1_length 68 = .ok (.aload_n 0, 1) := by decide +kernel
theorem dX1_length_69 : decode cX1_length 69 = .ok (.getfield 18, 3) := by decide +kernel
theorem dX1_length_72 : decode cX1_length 72 = .ok (.iload 6, 2) := by decide +kernel
theorem dX1_length_74 : decode cX1_length 74 = .ok (.iaload, 1) := by decide +kernel
theorem dX1_length_75 : decode cX1_length 75 = .ok (.isub, 1) := by decide +kernel
theorem dX1_length_76 : decode cX1_length 76 = .ok (.istore 7, 2) := by decide +kernel
theorem dX1_length_78 : decode cX1_length 78 = .ok (.iload 7, 2) := by decide +kernel
theorem dX1_length_80 : decode cX1_length 80 = .ok (.ifCond .ge 8, 3) := by decide +kernel
theorem dX1_length_83 : decode cX1_length 83 = .ok (.iload 4, 2) := by decide +kernel
theorem dX1_length_85 : decode cX1_length 85 = .ok (.iconst 1, 1) := by decide +kernel
theorem dX1_length_86 : decode cX1_length 86 = .ok (.iadd, 1) := by decide +kernel
theorem dX1_length_87 : decode cX1_length 87 = .ok (.ireturn, 1) := by decide +kernel
theorem dX1_length_88 : decode cX1_length 88 = .ok (.aload_n 0, 1) := by decide +kernel
theorem dX1_length_89 : decode cX1_length 89 = .ok (.getfield 15, 3) := by decide +kernel
theorem dX1_length_92 : decode cX1_length 92 = .ok (.iload 6, 2) := by decide +kernel
theorem dX1_length_94 : decode cX1_length 94 = .ok (.iaload, 1) := by decide +kernel
theorem dX1_length_95 : decode cX1_length 95 = .ok (.istore_n 3, 1) := by decide +kernel
theorem dX1_length_96 : decode cX1_length 96 = .ok (.iload_n 1, 1) := by decide +kernel
theorem dX1_length_97 : decode cX1_length 97 = .ok (.istore_n 2, 1) := by decide +kernel
theorem dX1_length_98 : decode cX1_length 98 = .ok (.iload 7, 2) := by decide +kernel
theorem dX1_length_100 : decode cX1_length 100 = .ok (.istore_n 1, 1) := by decide +kernel
theorem dX1_length_101 : decode cX1_length 101 = .ok (.iinc 4 1, 3) := by decide +kernel
theorem dX1_length_104 : decode cX1_length 104 = .ok (.goto (-85), 3) := by decide +kernel
theorem dX1_length_107 : decode cX1_length 107 = .ok (.bipush 12, 2) := by decide +kernel
theorem dX1_length_109 : decode cX1_length 109 = .ok (.ireturn, 1) := by decide +kernel
theorem dX1_winning_0 : decode cX1_winning 0 = .ok (.iconst 0, 1) := by decide +kernel
theorem dX1_winning_1 : decode cX1_winning 1 = .ok (.istore_n 1, 1) := by decide +kernel
theorem dX1_winning_2 : decode cX1_winning 2 = .ok (.iconst 0, 1) := by decide +kernel
theorem dX1_winning_3 : decode cX1_winning 3 = .ok (.istore_n 2, 1) := by decide +kernel
theorem dX1_winning_4 : decode cX1_winning 4 = .ok (.iload_n 2, 1) := by decide +kernel
theorem dX1_winning_5 : decode cX1_winning 5 = .ok (.aload_n 0, 1) := by decide +kernel
theorem dX1_winning_6 : decode cX1_winning 6 = .ok (.getfield 21, 3) := by decide +kernel
theorem dX1_winning_9 : decode cX1_winning 9 = .ok (.iconst 0, 1) := by decide +kernel
theorem dX1_winning_10 : decode cX1_winning 10 = .ok (.iaload, 1) := by decide +kernel
theorem dX1_winning_11 : decode cX1_winning 11 = .ok (.if_icmp .ge 38, 3) := by decide +kernel
theorem dX1_winning_14 : decode cX1_winning 14 = .ok (.iload_n 1, 1) := by decide +kernel
theorem dX1_winning_15 : decode cX1_winning 15 = .ok (.aload_n 0, 1) := by decide +kernel
theorem dX1_winning_16 : decode cX1_winning 16 = .ok (.iload_n 2, 1) := by decide +kernel
theorem dX1_winning_17 : decode cX1_winning 17 = .ok (.aload_n 0, 1) := by decide +kernel
theorem dX1_winning_18 : decode cX1_winning 18 = .ok (.getfield 24, 3) := by decide +kernel
theorem dX1_winning_21 : decode cX1_winning 21 = .ok (.iconst 0, 1) := by decide +kernel
theorem dX1_winning_22 : decode cX1_winning 22 = .ok (.iaload, 1) := by decide +kernel
theorem dX1_winning_23 : decode cX1_winning 23 = .ok (.aload_n 0, 1) := by decide +kernel
theorem dX1_winning_24 : decode cX1_winning 24 = .ok (.getfield 24, 3) := by decide +kernel
theorem dX1_winning_27 : decode cX1_winning 27 = .ok (.iconst 1, 1) := by decide +kernel
theorem dX1_winning_28 : decode cX1_winning 28 = .ok (.iaload, 1) := by decide +kernel
theorem dX1_winning_29 : decode cX1_winning 29 = .ok (.iconst 0, 1) := by decide +kernel
theorem dX1_winning_30 : decode cX1_winning 30 = .ok (.invokevirtual 78, 3) := by decide +kernel
theorem dX1_winning_33 : decode cX1_winning 33 = .ok (.ifCond .eq 7, 3) := by decide +kernel
theorem dX1_winning_36 : decode cX1_winning 36 = .ok (.iconst 1, 1) := by decide +kernel
theorem dX1_winning_37 : decode cX1_winning 37 = .ok (.goto 4, 3) := by decide +kernel
theorem dX1_winning_40 : decode cX1_winning 40 = .ok (.iconst 0, 1) := by decide +kernel
theorem dX1_winning_41 : decode cX1_winning 41 = .ok (.iadd, 1) := by decide +kernel
theorem dX1_winning_42 : decode cX1_winning 42 = .ok (.istore_n 1, 1) := by decide +kernel
theorem dX1_winning_43 : decode cX1_winning 43 = .ok (.iinc 2 1, 3) := by decide +kernel
theorem dX1_winning_46 : decode cX1_winning 46 = .ok (.goto (-42), 3) := by decide +kernel
theorem dX1_winning_49 : decode cX1_winning 49 = .ok (.iload_n 1, 1) := by decide +kernel
theorem dX1_winning_50 : decode cX1_winning 50 = .ok (.ireturn, 1) := by decide +kernel
theorem dX1_wins_0 : decode cX1_wins 0 = .ok (.iconst 0, 1) := by decide +kernel
theorem dX1_wins_1 : decode cX1_wins 1 = .ok (.istore 6, 2) := by decide +kernel
theorem dX1_wins_3 : decode cX1_wins 3 = .ok (.iload 6, 2) := by decide +kernel
theorem dX1_wins_5 : decode cX1_wins 5 = .ok (.aload_n 0, 1) := by decide +kernel
theorem dX1_wins_6 : decode cX1_wins 6 = .ok (.getfield 21, 3) := by decide +kernel
theorem dX1_wins_9 : decode cX1_wins 9 = .ok (.iload_n 1, 1) := by decide +kernel
theorem dX1_wins_10 : decode cX1_wins 10 = .ok (.iaload, 1) := by decide +kernel
theorem dX1_wins_11 : decode cX1_wins 11 = .ok (.if_icmp .ge 52, 3) := by decide +kernel
theorem dX1_wins_14 : decode cX1_wins 14 = .ok (.iload 5, 2) := by decide +kernel
theorem dX1_wins_16 : decode cX1_wins 16 = .ok (.bipush 12, 2) := by decide +kernel
theorem dX1_wins_18 : decode cX1_wins 18 = .ok (.if_icmp .gt 45, 3) := by decide +kernel
theorem dX1_wins_21 : decode cX1_wins 21 = .ok (.iload_n 1, 1) := by decide +kernel
theorem dX1_wins_22 : decode cX1_wins 22 = .ok (.bipush 6, 2) := by decide +kernel
theorem dX1_wins_24 : decode cX1_wins 24 = .ok (.imul, 1) := by decide +kernel
theorem dX1_wins_25 : decode cX1_wins 25 = .ok (.iload 6, 2) := by decide +kernel
theorem dX1_wins_27 : decode cX1_wins 27 = .ok (.iadd, 1) := by decide +kernel
theorem dX1_wins_28 : decode cX1_wins 28 = .ok (.istore 7, 2) := by decide +kernel
theorem dX1_wins_30 : decode cX1_wins 30 = .ok (.aload_n 0, 1) := by decide +kernel
theorem dX1_wins_31 : decode cX1_wins 31 = .ok (.getfield 15, 3) := by decide +kernel
theorem dX1_wins_34 : decode cX1_wins 34 = .ok (.iload 7, 2) := by decide +kernel
theorem dX1_wins_36 : decode cX1_wins 36 = .ok (.iaload, 1) := by decide +kernel
theorem dX1_wins_37 : decode cX1_wins 37 = .ok (.iload_n 2, 1) := by decide +kernel
theorem dX1_wins_38 : decode cX1_wins 38 = .ok (.if_icmp .le 19, 3) := by decide +kernel
theorem dX1_wins_41 : decode cX1_wins 41 = .ok (.aload_n 0, 1) := by decide +kernel
theorem dX1_wins_42 : decode cX1_wins 42 = .ok (.iload 7, 2) := by decide +kernel
theorem dX1_wins_44 : decode cX1_wins 44 = .ok (.iload_n 3, 1) := by decide +kernel
theorem dX1_wins_45 : decode cX1_wins 45 = .ok (.iload 4, 2) := by decide +kernel
theorem dX1_wins_47 : decode cX1_wins 47 = .ok (.iload 5, 2) := by decide +kernel
theorem dX1_wins_49 : decode cX1_wins 49 = .ok (.invokevirtual 78, 3) := by decide +kernel
theorem dX1_wins_52 : decode cX1_wins 52 = .ok (.ifCond .eq 5, 3) := by decide +kernel
theorem dX1_wins_55 : decode cX1_wins 55 = .ok (.iconst 1, 1) := by decide +kernel
theorem dX1_wins_56 : decode cX1_wins 56 = .ok (.ireturn, 1) := by decide +kernel
theorem dX1_wins_57 : decode cX1_wins 57 = .ok (.iinc 6 1, 3) := by decide +kernel
theorem dX1_wins_60 : decode cX1_wins 60 = .ok (.goto (-57), 3) := by decide +kernel
theorem dX1_wins_63 : decode cX1_wins 63 = .ok (.iconst 0, 1) := by decide +kernel
theorem dX1_wins_64 : decode cX1_wins 64 = .ok (.ireturn, 1) := by decide +kernel
theorem dX1_answer_0 : decode cX1_answer 0 = .ok (.aload_n 0, 1) := by decide +kernel
theorem dX1_answer_1 : decode cX1_answer 1 = .ok (.aload_n 1, 1) := by decide +kernel
theorem dX1_answer_2 : decode cX1_answer 2 = .ok (.iconst 0, 1) := by decide +kernel
theorem dX1_answer_3 : decode cX1_answer 3 = .ok (.iload_n 2, 1) := by decide +kernel
theorem dX1_answer_4 : decode cX1_answer 4 = .ok (.iload_n 3, 1) := by decide +kernel
theorem dX1_answer_5 : decode cX1_answer 5 = .ok (.invokevirtual 31, 3) := by decide +kernel
theorem dX1_answer_8 : decode cX1_answer 8 = .ok (.aload_n 0, 1) := by decide +kernel
theorem dX1_answer_9 : decode cX1_answer 9 = .ok (.aload_n 1, 1) := by decide +kernel
theorem dX1_answer_10 : decode cX1_answer 10 = .ok (.iconst 1, 1) := by decide +kernel
theorem dX1_answer_11 : decode cX1_answer 11 = .ok (.iload_n 3, 1) := by decide +kernel
theorem dX1_answer_12 : decode cX1_answer 12 = .ok (.iload_n 2, 1) := by decide +kernel
theorem dX1_answer_13 : decode cX1_answer 13 = .ok (.invokevirtual 31, 3) := by decide +kernel
theorem dX1_answer_16 : decode cX1_answer 16 = .ok (.iload 4, 2) := by decide +kernel
theorem dX1_answer_18 : decode cX1_answer 18 = .ok (.tableswitch 106 0 3 #[30, 58, 63, 101], 30) := by decide +kernel
theorem dX1_answer_48 : decode cX1_answer 48 = .ok (.aload_n 0, 1) := by decide +kernel
theorem dX1_answer_49 : decode cX1_answer 49 = .ok (.iconst 0, 1) := by decide +kernel
theorem dX1_answer_50 : decode cX1_answer 50 = .ok (.iconst (-1), 1) := by decide +kernel
theorem dX1_answer_51 : decode cX1_answer 51 = .ok (.aload_n 0, 1) := by decide +kernel
theorem dX1_answer_52 : decode cX1_answer 52 = .ok (.getfield 24, 3) := by decide +kernel
theorem dX1_answer_55 : decode cX1_answer 55 = .ok (.iconst 0, 1) := by decide +kernel
theorem dX1_answer_56 : decode cX1_answer 56 = .ok (.iaload, 1) := by decide +kernel
theorem dX1_answer_57 : decode cX1_answer 57 = .ok (.aload_n 0, 1) := by decide +kernel
theorem dX1_answer_58 : decode cX1_answer 58 = .ok (.getfield 24, 3) := by decide +kernel
theorem dX1_answer_61 : decode cX1_answer 61 = .ok (.iconst 1, 1) := by decide +kernel
theorem dX1_answer_62 : decode cX1_answer 62 = .ok (.iaload, 1) := by decide +kernel
theorem dX1_answer_63 : decode cX1_answer 63 = .ok (.iconst 0, 1) := by decide +kernel
theorem dX1_answer_64 : decode cX1_answer 64 = .ok (.invokevirtual 35, 3) := by decide +kernel
theorem dX1_answer_67 : decode cX1_answer 67 = .ok (.ifCond .eq 7, 3) := by decide +kernel
theorem dX1_answer_70 : decode cX1_answer 70 = .ok (.iload_n 2, 1) := by decide +kernel
theorem dX1_answer_71 : decode cX1_answer 71 = .ok (.goto 4, 3) := by decide +kernel
theorem dX1_answer_74 : decode cX1_answer 74 = .ok (.iload_n 3, 1) := by decide +kernel
theorem dX1_answer_75 : decode cX1_answer 75 = .ok (.ireturn, 1) := by decide +kernel
theorem dX1_answer_76 : decode cX1_answer 76 = .ok (.aload_n 0, 1) := by decide +kernel
theorem dX1_answer_77 : decode cX1_answer 77 = .ok (.invokevirtual 39, 3) := by decide +kernel
theorem dX1_answer_80 : decode cX1_answer 80 = .ok (.ireturn, 1) := by decide +kernel
theorem dX1_answer_81 : decode cX1_answer 81 = .ok (.aload_n 0, 1) := by decide +kernel
theorem dX1_answer_82 : decode cX1_answer 82 = .ok (.iconst 0, 1) := by decide +kernel
theorem dX1_answer_83 : decode cX1_answer 83 = .ok (.iconst (-1), 1) := by decide +kernel
theorem dX1_answer_84 : decode cX1_answer 84 = .ok (.aload_n 0, 1) := by decide +kernel
theorem dX1_answer_85 : decode cX1_answer 85 = .ok (.getfield 24, 3) := by decide +kernel
theorem dX1_answer_88 : decode cX1_answer 88 = .ok (.iconst 0, 1) := by decide +kernel
theorem dX1_answer_89 : decode cX1_answer 89 = .ok (.iaload, 1) := by decide +kernel
theorem dX1_answer_90 : decode cX1_answer 90 = .ok (.aload_n 0, 1) := by decide +kernel
theorem dX1_answer_91 : decode cX1_answer 91 = .ok (.getfield 24, 3) := by decide +kernel
theorem dX1_answer_94 : decode cX1_answer 94 = .ok (.iconst 1, 1) := by decide +kernel
theorem dX1_answer_95 : decode cX1_answer 95 = .ok (.iaload, 1) := by decide +kernel
theorem dX1_answer_96 : decode cX1_answer 96 = .ok (.invokevirtual 43, 3) := by decide +kernel
theorem dX1_answer_99 : decode cX1_answer 99 = .ok (.istore 5, 2) := by decide +kernel
theorem dX1_answer_101 : decode cX1_answer 101 = .ok (.iload 5, 2) := by decide +kernel
theorem dX1_answer_103 : decode cX1_answer 103 = .ok (.iconst (-1), 1) := by decide +kernel
theorem dX1_answer_104 : decode cX1_answer 104 = .ok (.if_icmp .ne 7, 3) := by decide +kernel
theorem dX1_answer_107 : decode cX1_answer 107 = .ok (.iconst (-1), 1) := by decide +kernel
theorem dX1_answer_108 : decode cX1_answer 108 = .ok (.goto 10, 3) := by decide +kernel
theorem dX1_answer_111 : decode cX1_answer 111 = .ok (.aload_n 0, 1) := by decide +kernel
theorem dX1_answer_112 : decode cX1_answer 112 = .ok (.getfield 11, 3) := by decide +kernel
theorem dX1_answer_115 : decode cX1_answer 115 = .ok (.iload 5, 2) := by decide +kernel
theorem dX1_answer_117 : decode cX1_answer 117 = .ok (.iaload, 1) := by decide +kernel
theorem dX1_answer_118 : decode cX1_answer 118 = .ok (.ireturn, 1) := by decide +kernel
theorem dX1_answer_119 : decode cX1_answer 119 = .ok (.aload_n 0, 1) := by decide +kernel
theorem dX1_answer_120 : decode cX1_answer 120 = .ok (.invokevirtual 47, 3) := by decide +kernel
theorem dX1_answer_123 : decode cX1_answer 123 = .ok (.ireturn, 1) := by decide +kernel
theorem dX1_answer_124 : decode cX1_answer 124 = .ok (.iconst (-1), 1) := by decide +kernel
theorem dX1_answer_125 : decode cX1_answer 125 = .ok (.ireturn, 1) := by decide +kernel
theorem dX11_duel_0 : decode cX11_duel 0 = .ok (.aload_n 0, 1) := by decide +kernel
theorem dX11_duel_1 : decode cX11_duel 1 = .ok (.getfield 10, 3) := by decide +kernel
theorem dX11_duel_4 : decode cX11_duel 4 = .ok (.iload_n 1, 1) := by decide +kernel
theorem dX11_duel_5 : decode cX11_duel 5 = .ok (.invokevirtual 121, 3) := by decide +kernel
theorem dX11_duel_8 : decode cX11_duel 8 = .ok (.ifCond .eq 19, 3) := by decide +kernel
theorem dX11_duel_11 : decode cX11_duel 11 = .ok (.aload_n 0, 1) := by decide +kernel
theorem dX11_duel_12 : decode cX11_duel 12 = .ok (.getfield 10, 3) := by decide +kernel
theorem dX11_duel_15 : decode cX11_duel 15 = .ok (.iload_n 2, 1) := by decide +kernel
