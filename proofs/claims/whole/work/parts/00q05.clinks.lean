theorem dX0_init_0 : decode cX0_init 0 = .ok (.aload_n 0, 1) := by decide +kernel
theorem dX0_init_1 : decode cX0_init 1 = .ok (.invokespecial 3, 3) := by decide +kernel
theorem dX0_init_4 : decode cX0_init 4 = .ok (.aload_n 0, 1) := by decide +kernel
theorem dX0_init_5 : decode cX0_init 5 = .ok (.new 9, 3) := by decide +kernel
theorem dX0_init_8 : decode cX0_init 8 = .ok (.dup, 1) := by decide +kernel
theorem dX0_init_9 : decode cX0_init 9 = .ok (.invokespecial 11, 3) := by decide +kernel
theorem dX0_init_12 : decode cX0_init 12 = .ok (.putfield 12, 3) := by decide +kernel
theorem dX0_init_15 : decode cX0_init 15 = .ok (.aload_n 0, 1) := by decide +kernel
theorem dX0_init_16 : decode cX0_init 16 = .ok (.lconst 0, 1) := by decide +kernel
theorem dX0_init_17 : decode cX0_init 17 = .ok (.putfield 18, 3) := by decide +kernel
theorem dX0_init_20 : decode cX0_init 20 = .ok (.aload_n 0, 1) := by decide +kernel
theorem dX0_init_21 : decode cX0_init 21 = .ok (.aload_n 1, 1) := by decide +kernel
theorem dX0_init_22 : decode cX0_init 22 = .ok (.putfield 22, 3) := by decide +kernel
theorem dX0_init_25 : decode cX0_init 25 = .ok (.return_, 1) := by decide +kernel
theorem dX1_init_0 : decode cX1_init 0 = .ok (.aload_n 0, 1) := by decide +kernel
theorem dX1_init_1 : decode cX1_init 1 = .ok (.invokespecial 3, 3) := by decide +kernel
theorem dX1_init_4 : decode cX1_init 4 = .ok (.aload_n 0, 1) := by decide +kernel
theorem dX1_init_5 : decode cX1_init 5 = .ok (.bipush 12, 2) := by decide +kernel
theorem dX1_init_7 : decode cX1_init 7 = .ok (.newarray .int, 2) := by decide +kernel
theorem dX1_init_9 : decode cX1_init 9 = .ok (.putfield 11, 3) := by decide +kernel
theorem dX1_init_12 : decode cX1_init 12 = .ok (.aload_n 0, 1) := by decide +kernel
theorem dX1_init_13 : decode cX1_init 13 = .ok (.bipush 12, 2) := by decide +kernel
theorem dX1_init_15 : decode cX1_init 15 = .ok (.newarray .int, 2) := by decide +kernel
theorem dX1_init_17 : decode cX1_init 17 = .ok (.putfield 15, 3) := by decide +kernel
theorem dX1_init_20 : decode cX1_init 20 = .ok (.aload_n 0, 1) := by decide +kernel
theorem dX1_init_21 : decode cX1_init 21 = .ok (.bipush 12, 2) := by decide +kernel
theorem dX1_init_23 : decode cX1_init 23 = .ok (.newarray .int, 2) := by decide +kernel
theorem dX1_init_25 : decode cX1_init 25 = .ok (.putfield 18, 3) := by decide +kernel
theorem dX1_init_28 : decode cX1_init 28 = .ok (.aload_n 0, 1) := by decide +kernel
theorem dX1_init_29 : decode cX1_init 29 = .ok (.iconst 2, 1) := by decide +kernel
theorem dX1_init_30 : decode cX1_init 30 = .ok (.newarray .int, 2) := by decide +kernel
theorem dX1_init_32 : decode cX1_init 32 = .ok (.putfield 21, 3) := by decide +kernel
theorem dX1_init_35 : decode cX1_init 35 = .ok (.aload_n 0, 1) := by decide +kernel
theorem dX1_init_36 : decode cX1_init 36 = .ok (.iconst 2, 1) := by decide +kernel
theorem dX1_init_37 : decode cX1_init 37 = .ok (.newarray .int, 2) := by decide +kernel
theorem dX1_init_39 : decode cX1_init 39 = .ok (.putfield 24, 3) := by decide +kernel
theorem dX1_init_42 : decode cX1_init 42 = .ok (.aload_n 0, 1) := by decide +kernel
theorem dX1_init_43 : decode cX1_init 43 = .ok (.aload_n 1, 1) := by decide +kernel
theorem dX1_init_44 : decode cX1_init 44 = .ok (.putfield 27, 3) := by decide +kernel
theorem dX1_init_47 : decode cX1_init 47 = .ok (.return_, 1) := by decide +kernel
theorem dX2_init_0 : decode cX2_init 0 = .ok (.aload_n 0, 1) := by decide +kernel
theorem dX2_init_1 : decode cX2_init 1 = .ok (.invokespecial 3, 3) := by decide +kernel
theorem dX2_init_4 : decode cX2_init 4 = .ok (.aload_n 0, 1) := by decide +kernel
theorem dX2_init_5 : decode cX2_init 5 = .ok (.bipush 9, 2) := by decide +kernel
theorem dX2_init_7 : decode cX2_init 7 = .ok (.newarray .int, 2) := by decide +kernel
theorem dX2_init_9 : decode cX2_init 9 = .ok (.putfield 11, 3) := by decide +kernel
theorem dX2_init_12 : decode cX2_init 12 = .ok (.aload_n 0, 1) := by decide +kernel
theorem dX2_init_13 : decode cX2_init 13 = .ok (.bipush 32, 2) := by decide +kernel
theorem dX2_init_15 : decode cX2_init 15 = .ok (.newarray .int, 2) := by decide +kernel
theorem dX2_init_17 : decode cX2_init 17 = .ok (.putfield 17, 3) := by decide +kernel
theorem dX2_init_20 : decode cX2_init 20 = .ok (.aload_n 0, 1) := by decide +kernel
theorem dX2_init_21 : decode cX2_init 21 = .ok (.iconst 5, 1) := by decide +kernel
theorem dX2_init_22 : decode cX2_init 22 = .ok (.newarray .int, 2) := by decide +kernel
theorem dX2_init_24 : decode cX2_init 24 = .ok (.putfield 20, 3) := by decide +kernel
theorem dX2_init_27 : decode cX2_init 27 = .ok (.return_, 1) := by decide +kernel
theorem dX3_init_0 : decode cX3_init 0 = .ok (.aload_n 0, 1) := by decide +kernel
theorem dX3_init_1 : decode cX3_init 1 = .ok (.invokespecial 5, 3) := by decide +kernel
theorem dX3_init_4 : decode cX3_init 4 = .ok (.aload_n 0, 1) := by decide +kernel
theorem dX3_init_5 : decode cX3_init 5 = .ok (.new 11, 3) := by decide +kernel
theorem dX3_init_8 : decode cX3_init 8 = .ok (.dup, 1) := by decide +kernel
theorem dX3_init_9 : decode cX3_init 9 = .ok (.invokespecial 13, 3) := by decide +kernel
theorem dX3_init_12 : decode cX3_init 12 = .ok (.putfield 14, 3) := by decide +kernel
theorem dX3_init_15 : decode cX3_init 15 = .ok (.aload_n 0, 1) := by decide +kernel
theorem dX3_init_16 : decode cX3_init 16 = .ok (.new 18, 3) := by decide +kernel
theorem dX3_init_19 : decode cX3_init 19 = .ok (.dup, 1) := by decide +kernel
theorem dX3_init_20 : decode cX3_init 20 = .ok (.invokespecial 20, 3) := by decide +kernel
theorem dX3_init_23 : decode cX3_init 23 = .ok (.putfield 21, 3) := by decide +kernel
theorem dX3_init_26 : decode cX3_init 26 = .ok (.aload_n 0, 1) := by decide +kernel
theorem dX3_init_27 : decode cX3_init 27 = .ok (.bipush 32, 2) := by decide +kernel
theorem dX3_init_29 : decode cX3_init 29 = .ok (.newarray .int, 2) := by decide +kernel
theorem dX3_init_31 : decode cX3_init 31 = .ok (.putfield 25, 3) := by decide +kernel
theorem dX3_init_34 : decode cX3_init 34 = .ok (.aload_n 0, 1) := by decide +kernel
theorem dX3_init_35 : decode cX3_init 35 = .ok (.bipush 32, 2) := by decide +kernel
theorem dX3_init_37 : decode cX3_init 37 = .ok (.newarray .int, 2) := by decide +kernel
theorem dX3_init_39 : decode cX3_init 39 = .ok (.putfield 31, 3) := by decide +kernel
theorem dX3_init_42 : decode cX3_init 42 = .ok (.aload_n 0, 1) := by decide +kernel
theorem dX3_init_43 : decode cX3_init 43 = .ok (.iconst (-1), 1) := by decide +kernel
theorem dX3_init_44 : decode cX3_init 44 = .ok (.putfield 34, 3) := by decide +kernel
theorem dX3_init_47 : decode cX3_init 47 = .ok (.aload_n 0, 1) := by decide +kernel
theorem dX3_init_48 : decode cX3_init 48 = .ok (.iconst 0, 1) := by decide +kernel
theorem dX3_init_49 : decode cX3_init 49 = .ok (.putfield 38, 3) := by decide +kernel
theorem dX3_init_52 : decode cX3_init 52 = .ok (.aload_n 0, 1) := by decide +kernel
theorem dX3_init_53 : decode cX3_init 53 = .ok (.iconst (-1), 1) := by decide +kernel
theorem dX3_init_54 : decode cX3_init 54 = .ok (.putfield 41, 3) := by decide +kernel
theorem dX3_init_57 : decode cX3_init 57 = .ok (.aload_n 0, 1) := by decide +kernel
theorem dX3_init_58 : decode cX3_init 58 = .ok (.aload_n 1, 1) := by decide +kernel
theorem dX3_init_59 : decode cX3_init 59 = .ok (.putfield 44, 3) := by decide +kernel
theorem dX3_init_62 : decode cX3_init 62 = .ok (.return_, 1) := by decide +kernel
theorem dX4_init_0 : decode cX4_init 0 = .ok (.aload_n 0, 1) := by decide +kernel
theorem dX4_init_1 : decode cX4_init 1 = .ok (.invokespecial 3, 3) := by decide +kernel
theorem dX4_init_4 : decode cX4_init 4 = .ok (.aload_n 0, 1) := by decide +kernel
theorem dX4_init_5 : decode cX4_init 5 = .ok (.sipush 3056, 3) := by decide +kernel
theorem dX4_init_8 : decode cX4_init 8 = .ok (.newarray .int, 2) := by decide +kernel
theorem dX4_init_10 : decode cX4_init 10 = .ok (.putfield 13, 3) := by decide +kernel
theorem dX4_init_13 : decode cX4_init 13 = .ok (.aload_n 0, 1) := by decide +kernel
theorem dX4_init_14 : decode cX4_init 14 = .ok (.bipush 16, 2) := by decide +kernel
theorem dX4_init_16 : decode cX4_init 16 = .ok (.newarray .int, 2) := by decide +kernel
theorem dX4_init_18 : decode cX4_init 18 = .ok (.putfield 17, 3) := by decide +kernel
theorem dX4_init_21 : decode cX4_init 21 = .ok (.aload_n 0, 1) := by decide +kernel
theorem dX4_init_22 : decode cX4_init 22 = .ok (.iconst 0, 1) := by decide +kernel
theorem dX4_init_23 : decode cX4_init 23 = .ok (.putfield 20, 3) := by decide +kernel
theorem dX4_init_26 : decode cX4_init 26 = .ok (.aload_n 0, 1) := by decide +kernel
theorem dX4_init_27 : decode cX4_init 27 = .ok (.iconst 0, 1) := by decide +kernel
theorem dX4_init_28 : decode cX4_init 28 = .ok (.putfield 24, 3) := by decide +kernel
theorem dX4_init_31 : decode cX4_init 31 = .ok (.return_, 1) := by decide +kernel
theorem dX5_init_0 : decode cX5_init 0 = .ok (.aload_n 0, 1) := by decide +kernel
theorem dX5_init_1 : decode cX5_init 1 = .ok (.invokespecial 5, 3) := by decide +kernel
theorem dX5_init_4 : decode cX5_init 4 = .ok (.aload_n 0, 1) := by decide +kernel
theorem dX5_init_5 : decode cX5_init 5 = .ok (.sipush 400, 3) := by decide +kernel
theorem dX5_init_8 : decode cX5_init 8 = .ok (.newarray .int, 2) := by decide +kernel
theorem dX5_init_10 : decode cX5_init 10 = .ok (.putfield 11, 3) := by decide +kernel
theorem dX5_init_13 : decode cX5_init 13 = .ok (.aload_n 0, 1) := by decide +kernel
theorem dX5_init_14 : decode cX5_init 14 = .ok (.sipush 401, 3) := by decide +kernel
theorem dX5_init_17 : decode cX5_init 17 = .ok (.newarray .int, 2) := by decide +kernel
theorem dX5_init_19 : decode cX5_init 19 = .ok (.putfield 15, 3) := by decide +kernel
theorem dX5_init_22 : decode cX5_init 22 = .ok (.aload_n 0, 1) := by decide +kernel
theorem dX5_init_23 : decode cX5_init 23 = .ok (.sipush 401, 3) := by decide +kernel
theorem dX5_init_26 : decode cX5_init 26 = .ok (.newarray .int, 2) := by decide +kernel
theorem dX5_init_28 : decode cX5_init 28 = .ok (.putfield 18, 3) := by decide +kernel
theorem dX5_init_31 : decode cX5_init 31 = .ok (.aload_n 0, 1) := by decide +kernel
theorem dX5_init_32 : decode cX5_init 32 = .ok (.sipush 401, 3) := by decide +kernel
theorem dX5_init_35 : decode cX5_init 35 = .ok (.newarray .int, 2) := by decide +kernel
theorem dX5_init_37 : decode cX5_init 37 = .ok (.putfield 21, 3) := by decide +kernel
theorem dX5_init_40 : decode cX5_init 40 = .ok (.aload_n 0, 1) := by decide +kernel
theorem dX5_init_41 : decode cX5_init 41 = .ok (.new 24, 3) := by decide +kernel
theorem dX5_init_44 : decode cX5_init 44 = .ok (.dup, 1) := by decide +kernel
theorem dX5_init_45 : decode cX5_init 45 = .ok (.sipush 400, 3) := by decide +kernel
theorem dX5_init_48 : decode cX5_init 48 = .ok (.bipush 12, 2) := by decide +kernel
theorem dX5_init_50 : decode cX5_init 50 = .ok (.invokespecial 26, 3) := by decide +kernel
theorem dX5_init_53 : decode cX5_init 53 = .ok (.putfield 29, 3) := by decide +kernel
theorem dX5_init_56 : decode cX5_init 56 = .ok (.aload_n 0, 1) := by decide +kernel
theorem dX5_init_57 : decode cX5_init 57 = .ok (.iconst 0, 1) := by decide +kernel
theorem dX5_init_58 : decode cX5_init 58 = .ok (.putfield 33, 3) := by decide +kernel
theorem dX5_init_61 : decode cX5_init 61 = .ok (.aload_n 0, 1) := by decide +kernel
theorem dX5_init_62 : decode cX5_init 62 = .ok (.iconst (-1), 1) := by decide +kernel
theorem dX5_init_63 : decode cX5_init 63 = .ok (.putfield 37, 3) := by decide +kernel
theorem dX5_init_66 : decode cX5_init 66 = .ok (.aload_n 0, 1) := by decide +kernel
theorem dX5_init_67 : decode cX5_init 67 = .ok (.iconst 0, 1) := by decide +kernel
theorem dX5_init_68 : decode cX5_init 68 = .ok (.putfield 40, 3) := by decide +kernel
theorem dX5_init_71 : decode cX5_init 71 = .ok (.aload_n 0, 1) := by decide +kernel
theorem dX5_init_72 : decode cX5_init 72 = .ok (.iconst 0, 1) := by decide +kernel
theorem dX5_init_73 : decode cX5_init 73 = .ok (.putfield 44, 3) := by decide +kernel
theorem dX5_init_76 : decode cX5_init 76 = .ok (.aload_n 0, 1) := by decide +kernel
theorem dX5_init_77 : decode cX5_init 77 = .ok (.iconst 0, 1) := by decide +kernel
theorem dX5_init_78 : decode cX5_init 78 = .ok (.putfield 47, 3) := by decide +kernel
theorem dX5_init_81 : decode cX5_init 81 = .ok (.aload_n 0, 1) := by decide +kernel
theorem dX5_init_82 : decode cX5_init 82 = .ok (.iconst (-1), 1) := by decide +kernel
theorem dX5_init_83 : decode cX5_init 83 = .ok (.putfield 50, 3) := by decide +kernel
theorem dX5_init_86 : decode cX5_init 86 = .ok (.return_, 1) := by decide +kernel
theorem dX6_init_0 : decode cX6_init 0 = .ok (.aload_n 0, 1) := by decide +kernel
theorem dX6_init_1 : decode cX6_init 1 = .ok (.invokespecial 5, 3) := by decide +kernel
theorem dX6_init_4 : decode cX6_init 4 = .ok (.aload_n 0, 1) := by decide +kernel
theorem dX6_init_5 : decode cX6_init 5 = .ok (.sipush 576, 3) := by decide +kernel
theorem dX6_init_8 : decode cX6_init 8 = .ok (.newarray .boolean, 2) := by decide +kernel
theorem dX6_init_10 : decode cX6_init 10 = .ok (.putfield 11, 3) := by decide +kernel
theorem dX6_init_13 : decode cX6_init 13 = .ok (.aload_n 0, 1) := by decide +kernel
theorem dX6_init_14 : decode cX6_init 14 = .ok (.sipush 384, 3) := by decide +kernel
theorem dX6_init_17 : decode cX6_init 17 = .ok (.newarray .int, 2) := by decide +kernel
theorem dX6_init_19 : decode cX6_init 19 = .ok (.putfield 15, 3) := by decide +kernel
theorem dX6_init_22 : decode cX6_init 22 = .ok (.aload_n 0, 1) := by decide +kernel
theorem dX6_init_23 : decode cX6_init 23 = .ok (.bipush 16, 2) := by decide +kernel
theorem dX6_init_25 : decode cX6_init 25 = .ok (.newarray .int, 2) := by decide +kernel
theorem dX6_init_27 : decode cX6_init 27 = .ok (.putfield 19, 3) := by decide +kernel
theorem dX6_init_30 : decode cX6_init 30 = .ok (.aload_n 0, 1) := by decide +kernel
theorem dX6_init_31 : decode cX6_init 31 = .ok (.iconst 4, 1) := by decide +kernel
theorem dX6_init_32 : decode cX6_init 32 = .ok (.newarray .int, 2) := by decide +kernel
theorem dX6_init_34 : decode cX6_init 34 = .ok (.putfield 22, 3) := by decide +kernel
theorem dX6_init_37 : decode cX6_init 37 = .ok (.aload_n 0, 1) := by decide +kernel
theorem dX6_init_38 : decode cX6_init 38 = .ok (.iconst 0, 1) := by decide +kernel
theorem dX6_init_39 : decode cX6_init 39 = .ok (.putfield 25, 3) := by decide +kernel
theorem dX6_init_42 : decode cX6_init 42 = .ok (.aload_n 0, 1) := by decide +kernel
theorem dX6_init_43 : decode cX6_init 43 = .ok (.iconst 0, 1) := by decide +kernel
theorem dX6_init_44 : decode cX6_init 44 = .ok (.putfield 29, 3) := by decide +kernel
theorem dX6_init_47 : decode cX6_init 47 = .ok (.aload_n 0, 1) := by decide +kernel
theorem dX6_init_48 : decode cX6_init 48 = .ok (.iconst (-1), 1) := by decide +kernel
theorem dX6_init_49 : decode cX6_init 49 = .ok (.putfield 32, 3) := by decide +kernel
theorem dX6_init_52 : decode cX6_init 52 = .ok (.aload_n 0, 1) := by decide +kernel
theorem dX6_init_53 : decode cX6_init 53 = .ok (.iconst (-1), 1) := by decide +kernel
theorem dX6_init_54 : decode cX6_init 54 = .ok (.putfield 35, 3) := by decide +kernel
theorem dX6_init_57 : decode cX6_init 57 = .ok (.aload_n 0, 1) := by decide +kernel
theorem dX6_init_58 : decode cX6_init 58 = .ok (.aload_n 1, 1) := by decide +kernel
theorem dX6_init_59 : decode cX6_init 59 = .ok (.putfield 38, 3) := by decide +kernel
theorem dX6_init_62 : decode cX6_init 62 = .ok (.return_, 1) := by decide +kernel
theorem dX7_init_0 : decode cX7_init 0 = .ok (.aload_n 0, 1) := by decide +kernel
theorem dX7_init_1 : decode cX7_init 1 = .ok (.invokespecial 3, 3) := by decide +kernel
theorem dX7_init_4 : decode cX7_init 4 = .ok (.aload_n 0, 1) := by decide +kernel
theorem dX7_init_5 : decode cX7_init 5 = .ok (.bipush 10, 2) := by decide +kernel
theorem dX7_init_7 : decode cX7_init 7 = .ok (.newarray .int, 2) := by decide +kernel
theorem dX7_init_9 : decode cX7_init 9 = .ok (.putfield 11, 3) := by decide +kernel
theorem dX7_init_12 : decode cX7_init 12 = .ok (.aload_n 0, 1) := by decide +kernel
theorem dX7_init_13 : decode cX7_init 13 = .ok (.bipush 10, 2) := by decide +kernel
theorem dX7_init_15 : decode cX7_init 15 = .ok (.newarray .int, 2) := by decide +kernel
theorem dX7_init_17 : decode cX7_init 17 = .ok (.putfield 15, 3) := by decide +kernel
theorem dX7_init_20 : decode cX7_init 20 = .ok (.aload_n 0, 1) := by decide +kernel
theorem dX7_init_21 : decode cX7_init 21 = .ok (.bipush 90, 2) := by decide +kernel
theorem dX7_init_23 : decode cX7_init 23 = .ok (.newarray .int, 2) := by decide +kernel
theorem dX7_init_25 : decode cX7_init 25 = .ok (.putfield 18, 3) := by decide +kernel
theorem dX7_init_28 : decode cX7_init 28 = .ok (.aload_n 0, 1) := by decide +kernel
theorem dX7_init_29 : decode cX7_init 29 = .ok (.bipush 9, 2) := by decide +kernel
theorem dX7_init_31 : decode cX7_init 31 = .ok (.newarray .int, 2) := by decide +kernel
theorem dX7_init_33 : decode cX7_init 33 = .ok (.putfield 21, 3) := by decide +kernel
theorem dX7_init_36 : decode cX7_init 36 = .ok (.aload_n 0, 1) := by decide +kernel
theorem dX7_init_37 : decode cX7_init 37 = .ok (.iconst 0, 1) := by decide +kernel
theorem dX7_init_38 : decode cX7_init 38 = .ok (.putfield 24, 3) := by decide +kernel
theorem dX7_init_41 : decode cX7_init 41 = .ok (.aload_n 0, 1) := by decide +kernel
theorem dX7_init_42 : decode cX7_init 42 = .ok (.iconst 0, 1) := by decide +kernel
theorem dX7_init_43 : decode cX7_init 43 = .ok (.putfield 28, 3) := by decide +kernel
theorem dX7_init_46 : decode cX7_init 46 = .ok (.aload_n 0, 1) := by decide +kernel
theorem dX7_init_47 : decode cX7_init 47 = .ok (.iconst 0, 1) := by decide +kernel
theorem dX7_init_48 : decode cX7_init 48 = .ok (.putfield 31, 3) := by decide +kernel
theorem dX7_init_51 : decode cX7_init 51 = .ok (.aload_n 0, 1) := by decide +kernel
theorem dX7_init_52 : decode cX7_init 52 = .ok (.aload_n 1, 1) := by decide +kernel
theorem dX7_init_53 : decode cX7_init 53 = .ok (.putfield 34, 3) := by decide +kernel
theorem dX7_init_56 : decode cX7_init 56 = .ok (.return_, 1) := by decide +kernel
theorem dX8_init_0 : decode cX8_init 0 = .ok (.aload_n 0, 1) := by decide +kernel
theorem dX8_init_1 : decode cX8_init 1 = .ok (.invokespecial 1, 3) := by decide +kernel
theorem dX8_init_4 : decode cX8_init 4 = .ok (.aload_n 0, 1) := by decide +kernel
theorem dX8_init_5 : decode cX8_init 5 = .ok (.iload_n 1, 1) := by decide +kernel
theorem dX8_init_6 : decode cX8_init 6 = .ok (.iconst 0, 1) := by decide +kernel
theorem dX8_init_7 : decode cX8_init 7 = .ok (.invokestatic 7, 3) := by decide +kernel
theorem dX8_init_10 : decode cX8_init 10 = .ok (.newarray .int, 2) := by decide +kernel
theorem dX8_init_12 : decode cX8_init 12 = .ok (.putfield 13, 3) := by decide +kernel
theorem dX8_init_15 : decode cX8_init 15 = .ok (.aload_n 0, 1) := by decide +kernel
theorem dX8_init_16 : decode cX8_init 16 = .ok (.iload_n 1, 1) := by decide +kernel
theorem dX8_init_17 : decode cX8_init 17 = .ok (.iconst 0, 1) := by decide +kernel
theorem dX8_init_18 : decode cX8_init 18 = .ok (.invokestatic 7, 3) := by decide +kernel
theorem dX8_init_21 : decode cX8_init 21 = .ok (.newarray .int, 2) := by decide +kernel
theorem dX8_init_23 : decode cX8_init 23 = .ok (.putfield 19, 3) := by decide +kernel
theorem dX8_init_26 : decode cX8_init 26 = .ok (.aload_n 0, 1) := by decide +kernel
theorem dX8_init_27 : decode cX8_init 27 = .ok (.iload_n 2, 1) := by decide +kernel
theorem dX8_init_28 : decode cX8_init 28 = .ok (.iconst 0, 1) := by decide +kernel
theorem dX8_init_29 : decode cX8_init 29 = .ok (.invokestatic 7, 3) := by decide +kernel
theorem dX8_init_32 : decode cX8_init 32 = .ok (.bipush 8, 2) := by decide +kernel
theorem dX8_init_34 : decode cX8_init 34 = .ok (.imul, 1) := by decide +kernel
theorem dX8_init_35 : decode cX8_init 35 = .ok (.newarray .int, 2) := by decide +kernel
theorem dX8_init_37 : decode cX8_init 37 = .ok (.putfield 22, 3) := by decide +kernel
theorem dX8_init_40 : decode cX8_init 40 = .ok (.aload_n 0, 1) := by decide +kernel
theorem dX8_init_41 : decode cX8_init 41 = .ok (.iconst 0, 1) := by decide +kernel
theorem dX8_init_42 : decode cX8_init 42 = .ok (.putfield 25, 3) := by decide +kernel
theorem dX8_init_45 : decode cX8_init 45 = .ok (.aload_n 0, 1) := by decide +kernel
theorem dX8_init_46 : decode cX8_init 46 = .ok (.iconst 0, 1) := by decide +kernel
theorem dX8_init_47 : decode cX8_init 47 = .ok (.putfield 29, 3) := by decide +kernel
theorem dX8_init_50 : decode cX8_init 50 = .ok (.return_, 1) := by decide +kernel
theorem dX9_init_0 : decode cX9_init 0 = .ok (.aload_n 0, 1) := by decide +kernel
theorem dX9_init_1 : decode cX9_init 1 = .ok (.invokespecial 3, 3) := by decide +kernel
theorem dX9_init_4 : decode cX9_init 4 = .ok (.aload_n 0, 1) := by decide +kernel
theorem dX9_init_5 : decode cX9_init 5 = .ok (.bipush 36, 2) := by decide +kernel
theorem dX9_init_7 : decode cX9_init 7 = .ok (.newarray .int, 2) := by decide +kernel
theorem dX9_init_9 : decode cX9_init 9 = .ok (.putfield 9, 3) := by decide +kernel
theorem dX9_init_12 : decode cX9_init 12 = .ok (.aload_n 0, 1) := by decide +kernel
theorem dX9_init_13 : decode cX9_init 13 = .ok (.bipush 36, 2) := by decide +kernel
theorem dX9_init_15 : decode cX9_init 15 = .ok (.newarray .int, 2) := by decide +kernel
theorem dX9_init_17 : decode cX9_init 17 = .ok (.putfield 15, 3) := by decide +kernel
theorem dX9_init_20 : decode cX9_init 20 = .ok (.aload_n 0, 1) := by decide +kernel
theorem dX9_init_21 : decode cX9_init 21 = .ok (.bipush 6, 2) := by decide +kernel
theorem dX9_init_23 : decode cX9_init 23 = .ok (.newarray .int, 2) := by decide +kernel
theorem dX9_init_25 : decode cX9_init 25 = .ok (.putfield 18, 3) := by decide +kernel
theorem dX9_init_28 : decode cX9_init 28 = .ok (.aload_n 0, 1) := by decide +kernel
theorem dX9_init_29 : decode cX9_init 29 = .ok (.bipush 6, 2) := by decide +kernel
theorem dX9_init_31 : decode cX9_init 31 = .ok (.newarray .int, 2) := by decide +kernel
theorem dX9_init_33 : decode cX9_init 33 = .ok (.putfield 21, 3) := by decide +kernel
theorem dX9_init_36 : decode cX9_init 36 = .ok (.aload_n 0, 1) := by decide +kernel
theorem dX9_init_37 : decode cX9_init 37 = .ok (.iconst 0, 1) := by decide +kernel
theorem dX9_init_38 : decode cX9_init 38 = .ok (.putfield 24, 3) := by decide +kernel
theorem dX9_init_41 : decode cX9_init 41 = .ok (.aload_n 0, 1) := by decide +kernel
theorem dX9_init_42 : decode cX9_init 42 = .ok (.iconst 0, 1) := by decide +kernel
theorem dX9_init_43 : decode cX9_init 43 = .ok (.putfield 28, 3) := by decide +kernel
theorem dX9_init_46 : decode cX9_init 46 = .ok (.aload_n 0, 1) := by decide +kernel
theorem dX9_init_47 : decode cX9_init 47 = .ok (.iconst 0, 1) := by decide +kernel
theorem dX9_init_48 : decode cX9_init 48 = .ok (.putfield 31, 3) := by decide +kernel
theorem dX9_init_51 : decode cX9_init 51 = .ok (.aload_n 0, 1) := by decide +kernel
theorem dX9_init_52 : decode cX9_init 52 = .ok (.iconst 0, 1) := by decide +kernel
theorem dX9_init_53 : decode cX9_init 53 = .ok (.putfield 34, 3) := by decide +kernel
theorem dX9_init_56 : decode cX9_init 56 = .ok (.aload_n 0, 1) := by decide +kernel
theorem dX9_init_57 : decode cX9_init 57 = .ok (.iconst (-1), 1) := by decide +kernel
theorem dX9_init_58 : decode cX9_init 58 = .ok (.putfield 37, 3) := by decide +kernel
theorem dX9_init_61 : decode cX9_init 61 = .ok (.return_, 1) := by decide +kernel
theorem dX10_init_0 : decode cX10_init 0 = .ok (.aload_n 0, 1) := by decide +kernel
theorem dX10_init_1 : decode cX10_init 1 = .ok (.invokespecial 5, 3) := by decide +kernel
theorem dX10_init_4 : decode cX10_init 4 = .ok (.aload_n 0, 1) := by decide +kernel
theorem dX10_init_5 : decode cX10_init 5 = .ok (.sipush 266, 3) := by decide +kernel
theorem dX10_init_8 : decode cX10_init 8 = .ok (.newarray .int, 2) := by decide +kernel
theorem dX10_init_10 : decode cX10_init 10 = .ok (.putfield 11, 3) := by decide +kernel
theorem dX10_init_13 : decode cX10_init 13 = .ok (.aload_n 0, 1) := by decide +kernel
theorem dX10_init_14 : decode cX10_init 14 = .ok (.bipush 6, 2) := by decide +kernel
theorem dX10_init_16 : decode cX10_init 16 = .ok (.anewarray 15, 3) := by decide +kernel
theorem dX10_init_19 : decode cX10_init 19 = .ok (.putfield 17, 3) := by decide +kernel
theorem dX10_init_22 : decode cX10_init 22 = .ok (.aload_n 0, 1) := by decide +kernel
theorem dX10_init_23 : decode cX10_init 23 = .ok (.iconst 0, 1) := by decide +kernel
theorem dX10_init_24 : decode cX10_init 24 = .ok (.putfield 21, 3) := by decide +kernel
theorem dX10_init_27 : decode cX10_init 27 = .ok (.aload_n 0, 1) := by decide +kernel
theorem dX10_init_28 : decode cX10_init 28 = .ok (.getfield 11, 3) := by decide +kernel
theorem dX10_init_31 : decode cX10_init 31 = .ok (.iconst 1, 1) := by decide +kernel
theorem dX10_init_32 : decode cX10_init 32 = .ok (.iconst 1, 1) := by decide +kernel
theorem dX10_init_33 : decode cX10_init 33 = .ok (.iastore, 1) := by decide +kernel
theorem dX10_init_34 : decode cX10_init 34 = .ok (.aload_n 0, 1) := by decide +kernel
theorem dX10_init_35 : decode cX10_init 35 = .ok (.getfield 11, 3) := by decide +kernel
theorem dX10_init_38 : decode cX10_init 38 = .ok (.sipush 196, 3) := by decide +kernel
theorem dX10_init_41 : decode cX10_init 41 = .ok (.iconst (-1), 1) := by decide +kernel
theorem dX10_init_42 : decode cX10_init 42 = .ok (.iastore, 1) := by decide +kernel
theorem dX10_init_43 : decode cX10_init 43 = .ok (.aload_n 0, 1) := by decide +kernel
theorem dX10_init_44 : decode cX10_init 44 = .ok (.getfield 11, 3) := by decide +kernel
theorem dX10_init_47 : decode cX10_init 47 = .ok (.bipush 119, 2) := by decide +kernel
theorem dX10_init_49 : decode cX10_init 49 = .ok (.sipush 155, 3) := by decide +kernel
theorem dX10_init_52 : decode cX10_init 52 = .ok (.iconst (-1), 1) := by decide +kernel
theorem dX10_init_53 : decode cX10_init 53 = .ok (.invokestatic 25, 3) := by decide +kernel
theorem dX10_init_56 : decode cX10_init 56 = .ok (.aload_n 0, 1) := by decide +kernel
theorem dX10_init_57 : decode cX10_init 57 = .ok (.getfield 11, 3) := by decide +kernel
theorem dX10_init_60 : decode cX10_init 60 = .ok (.sipush 197, 3) := by decide +kernel
theorem dX10_init_63 : decode cX10_init 63 = .ok (.sipush 213, 3) := by decide +kernel
theorem dX10_init_66 : decode cX10_init 66 = .ok (.iconst (-1), 1) := by decide +kernel
theorem dX10_init_67 : decode cX10_init 67 = .ok (.invokestatic 25, 3) := by decide +kernel
theorem dX10_init_70 : decode cX10_init 70 = .ok (.return_, 1) := by decide +kernel
theorem dX11_init_0 : decode cX11_init 0 = .ok (.aload_n 0, 1) := by decide +kernel
theorem dX11_init_1 : decode cX11_init 1 = .ok (.invokespecial 1, 3) := by decide +kernel
theorem dX11_init_4 : decode cX11_init 4 = .ok (.aload_n 0, 1) := by decide +kernel
theorem dX11_init_5 : decode cX11_init 5 = .ok (.new 7, 3) := by decide +kernel
theorem dX11_init_8 : decode cX11_init 8 = .ok (.dup, 1) := by decide +kernel
theorem dX11_init_9 : decode cX11_init 9 = .ok (.invokespecial 9, 3) := by decide +kernel
theorem dX11_init_12 : decode cX11_init 12 = .ok (.putfield 10, 3) := by decide +kernel
theorem dX11_init_15 : decode cX11_init 15 = .ok (.aload_n 0, 1) := by decide +kernel
theorem dX11_init_16 : decode cX11_init 16 = .ok (.new 7, 3) := by decide +kernel
theorem dX11_init_19 : decode cX11_init 19 = .ok (.dup, 1) := by decide +kernel
theorem dX11_init_20 : decode cX11_init 20 = .ok (.invokespecial 9, 3) := by decide +kernel
theorem dX11_init_23 : decode cX11_init 23 = .ok (.putfield 16, 3) := by decide +kernel
theorem dX11_init_26 : decode cX11_init 26 = .ok (.aload_n 0, 1) := by decide +kernel
theorem dX11_init_27 : decode cX11_init 27 = .ok (.new 7, 3) := by decide +kernel
theorem dX11_init_30 : decode cX11_init 30 = .ok (.dup, 1) := by decide +kernel
theorem dX11_init_31 : decode cX11_init 31 = .ok (.invokespecial 9, 3) := by decide +kernel
theorem dX11_init_34 : decode cX11_init 34 = .ok (.putfield 19, 3) := by decide +kernel
theorem dX11_init_37 : decode cX11_init 37 = .ok (.aload_n 0, 1) := by decide +kernel
theorem dX11_init_38 : decode cX11_init 38 = .ok (.new 22, 3) := by decide +kernel
theorem dX11_init_41 : decode cX11_init 41 = .ok (.dup, 1) := by decide +kernel
theorem dX11_init_42 : decode cX11_init 42 = .ok (.invokespecial 24, 3) := by decide +kernel
theorem dX11_init_45 : decode cX11_init 45 = .ok (.putfield 25, 3) := by decide +kernel
theorem dX11_init_48 : decode cX11_init 48 = .ok (.aload_n 0, 1) := by decide +kernel
theorem dX11_init_49 : decode cX11_init 49 = .ok (.new 29, 3) := by decide +kernel
theorem dX11_init_52 : decode cX11_init 52 = .ok (.dup, 1) := by decide +kernel
theorem dX11_init_53 : decode cX11_init 53 = .ok (.invokespecial 31, 3) := by decide +kernel
theorem dX11_init_56 : decode cX11_init 56 = .ok (.putfield 32, 3) := by decide +kernel
theorem dX11_init_59 : decode cX11_init 59 = .ok (.aload_n 0, 1) := by decide +kernel
theorem dX11_init_60 : decode cX11_init 60 = .ok (.new 36, 3) := by decide +kernel
theorem dX11_init_63 : decode cX11_init 63 = .ok (.dup, 1) := by decide +kernel
theorem dX11_init_64 : decode cX11_init 64 = .ok (.invokespecial 38, 3) := by decide +kernel
theorem dX11_init_67 : decode cX11_init 67 = .ok (.putfield 39, 3) := by decide +kernel
theorem dX11_init_70 : decode cX11_init 70 = .ok (.aload_n 0, 1) := by decide +kernel
theorem dX11_init_71 : decode cX11_init 71 = .ok (.new 43, 3) := by decide +kernel
theorem dX11_init_74 : decode cX11_init 74 = .ok (.dup, 1) := by decide +kernel
theorem dX11_init_75 : decode cX11_init 75 = .ok (.aload_n 0, 1) := by decide +kernel
theorem dX11_init_76 : decode cX11_init 76 = .ok (.getfield 39, 3) := by decide +kernel
theorem dX11_init_79 : decode cX11_init 79 = .ok (.invokespecial 45, 3) := by decide +kernel
theorem dX11_init_82 : decode cX11_init 82 = .ok (.putfield 48, 3) := by decide +kernel
theorem dX11_init_85 : decode cX11_init 85 = .ok (.aload_n 0, 1) := by decide +kernel
theorem dX11_init_86 : decode cX11_init 86 = .ok (.new 52, 3) := by decide +kernel
theorem dX11_init_89 : decode cX11_init 89 = .ok (.dup, 1) := by decide +kernel
theorem dX11_init_90 : decode cX11_init 90 = .ok (.aload_n 0, 1) := by decide +kernel
theorem dX11_init_91 : decode cX11_init 91 = .ok (.getfield 48, 3) := by decide +kernel
theorem dX11_init_94 : decode cX11_init 94 = .ok (.invokespecial 54, 3) := by decide +kernel
theorem dX11_init_97 : decode cX11_init 97 = .ok (.putfield 57, 3) := by decide +kernel
theorem dX11_init_100 : decode cX11_init 100 = .ok (.aload_n 0, 1) := by decide +kernel
theorem dX11_init_101 : decode cX11_init 101 = .ok (.new 61, 3) := by decide +kernel
theorem dX11_init_104 : decode cX11_init 104 = .ok (.dup, 1) := by decide +kernel
theorem dX11_init_105 : decode cX11_init 105 = .ok (.aload_n 0, 1) := by decide +kernel
theorem dX11_init_106 : decode cX11_init 106 = .ok (.getfield 39, 3) := by decide +kernel
theorem dX11_init_109 : decode cX11_init 109 = .ok (.invokespecial 63, 3) := by decide +kernel
theorem dX11_init_112 : decode cX11_init 112 = .ok (.putfield 64, 3) := by decide +kernel
theorem dX11_init_115 : decode cX11_init 115 = .ok (.aload_n 0, 1) := by decide +kernel
theorem dX11_init_116 : decode cX11_init 116 = .ok (.new 68, 3) := by decide +kernel
theorem dX11_init_119 : decode cX11_init 119 = .ok (.dup, 1) := by decide +kernel
theorem dX11_init_120 : decode cX11_init 120 = .ok (.aload_n 0, 1) := by decide +kernel
theorem dX11_init_121 : decode cX11_init 121 = .ok (.getfield 39, 3) := by decide +kernel
theorem dX11_init_124 : decode cX11_init 124 = .ok (.invokespecial 70, 3) := by decide +kernel
theorem dX11_init_127 : decode cX11_init 127 = .ok (.putfield 71, 3) := by decide +kernel
theorem dX11_init_130 : decode cX11_init 130 = .ok (.aload_n 0, 1) := by decide +kernel
theorem dX11_init_131 : decode cX11_init 131 = .ok (.new 75, 3) := by decide +kernel
theorem dX11_init_134 : decode cX11_init 134 = .ok (.dup, 1) := by decide +kernel
theorem dX11_init_135 : decode cX11_init 135 = .ok (.invokespecial 77, 3) := by decide +kernel
theorem dX11_init_138 : decode cX11_init 138 = .ok (.putfield 78, 3) := by decide +kernel
theorem dX11_init_141 : decode cX11_init 141 = .ok (.aload_n 0, 1) := by decide +kernel
theorem dX11_init_142 : decode cX11_init 142 = .ok (.new 82, 3) := by decide +kernel
theorem dX11_init_145 : decode cX11_init 145 = .ok (.dup, 1) := by decide +kernel
theorem dX11_init_146 : decode cX11_init 146 = .ok (.aload_n 0, 1) := by decide +kernel
theorem dX11_init_147 : decode cX11_init 147 = .ok (.getfield 39, 3) := by decide +kernel
theorem dX11_init_150 : decode cX11_init 150 = .ok (.invokespecial 84, 3) := by decide +kernel
theorem dX11_init_153 : decode cX11_init 153 = .ok (.putfield 85, 3) := by decide +kernel
theorem dX11_init_156 : decode cX11_init 156 = .ok (.aload_n 0, 1) := by decide +kernel
theorem dX11_init_157 : decode cX11_init 157 = .ok (.bipush 7, 2) := by decide +kernel
theorem dX11_init_159 : decode cX11_init 159 = .ok (.newarray .int, 2) := by decide +kernel
theorem dX11_init_161 : decode cX11_init 161 = .ok (.putfield 89, 3) := by decide +kernel
theorem dX11_init_164 : decode cX11_init 164 = .ok (.aload_n 0, 1) := by decide +kernel
theorem dX11_init_165 : decode cX11_init 165 = .ok (.iconst 0, 1) := by decide +kernel
theorem dX11_init_166 : decode cX11_init 166 = .ok (.putfield 93, 3) := by decide +kernel
theorem dX11_init_169 : decode cX11_init 169 = .ok (.aload_n 0, 1) := by decide +kernel
theorem dX11_init_170 : decode cX11_init 170 = .ok (.iconst 0, 1) := by decide +kernel
theorem dX11_init_171 : decode cX11_init 171 = .ok (.putfield 97, 3) := by decide +kernel
theorem dX11_init_174 : decode cX11_init 174 = .ok (.return_, 1) := by decide +kernel
theorem dX12_init_0 : decode cX12_init 0 = .ok (.aload_n 0, 1) := by decide +kernel
theorem dX12_init_1 : decode cX12_init 1 = .ok (.invokespecial 1, 3) := by decide +kernel
theorem dX12_init_4 : decode cX12_init 4 = .ok (.aload_n 0, 1) := by decide +kernel
theorem dX12_init_5 : decode cX12_init 5 = .ok (.bipush 7, 2) := by decide +kernel
theorem dX12_init_7 : decode cX12_init 7 = .ok (.newarray .int, 2) := by decide +kernel
theorem dX12_init_9 : decode cX12_init 9 = .ok (.putfield 7, 3) := by decide +kernel
theorem dX12_init_12 : decode cX12_init 12 = .ok (.aload_n 0, 1) := by decide +kernel
theorem dX12_init_13 : decode cX12_init 13 = .ok (.sipush 5670, 3) := by decide +kernel
theorem dX12_init_16 : decode cX12_init 16 = .ok (.newarray .int, 2) := by decide +kernel
theorem dX12_init_18 : decode cX12_init 18 = .ok (.putfield 13, 3) := by decide +kernel
theorem dX12_init_21 : decode cX12_init 21 = .ok (.aload_n 0, 1) := by decide +kernel
theorem dX12_init_22 : decode cX12_init 22 = .ok (.sipush 11340, 3) := by decide +kernel
theorem dX12_init_25 : decode cX12_init 25 = .ok (.newarray .int, 2) := by decide +kernel
theorem dX12_init_27 : decode cX12_init 27 = .ok (.putfield 16, 3) := by decide +kernel
theorem dX12_init_30 : decode cX12_init 30 = .ok (.aload_n 0, 1) := by decide +kernel
theorem dX12_init_31 : decode cX12_init 31 = .ok (.iconst 2, 1) := by decide +kernel
theorem dX12_init_32 : decode cX12_init 32 = .ok (.newarray .boolean, 2) := by decide +kernel
theorem dX12_init_34 : decode cX12_init 34 = .ok (.putfield 19, 3) := by decide +kernel
theorem dX12_init_37 : decode cX12_init 37 = .ok (.aload_n 0, 1) := by decide +kernel
theorem dX12_init_38 : decode cX12_init 38 = .ok (.sipush 4860, 3) := by decide +kernel
theorem dX12_init_41 : decode cX12_init 41 = .ok (.newarray .int, 2) := by decide +kernel
theorem dX12_init_43 : decode cX12_init 43 = .ok (.putfield 23, 3) := by decide +kernel
theorem dX12_init_46 : decode cX12_init 46 = .ok (.aload_n 0, 1) := by decide +kernel
theorem dX12_init_47 : decode cX12_init 47 = .ok (.bipush 16, 2) := by decide +kernel
theorem dX12_init_49 : decode cX12_init 49 = .ok (.newarray .int, 2) := by decide +kernel
theorem dX12_init_51 : decode cX12_init 51 = .ok (.putfield 26, 3) := by decide +kernel
theorem dX12_init_54 : decode cX12_init 54 = .ok (.aload_n 0, 1) := by decide +kernel
theorem dX12_init_55 : decode cX12_init 55 = .ok (.sipush 4320, 3) := by decide +kernel
theorem dX12_init_58 : decode cX12_init 58 = .ok (.newarray .int, 2) := by decide +kernel
theorem dX12_init_60 : decode cX12_init 60 = .ok (.putfield 29, 3) := by decide +kernel
theorem dX12_init_63 : decode cX12_init 63 = .ok (.aload_n 0, 1) := by decide +kernel
theorem dX12_init_64 : decode cX12_init 64 = .ok (.bipush 16, 2) := by decide +kernel
theorem dX12_init_66 : decode cX12_init 66 = .ok (.newarray .int, 2) := by decide +kernel
theorem dX12_init_68 : decode cX12_init 68 = .ok (.putfield 32, 3) := by decide +kernel
theorem dX12_init_71 : decode cX12_init 71 = .ok (.aload_n 0, 1) := by decide +kernel
theorem dX12_init_72 : decode cX12_init 72 = .ok (.sipush 400, 3) := by decide +kernel
theorem dX12_init_75 : decode cX12_init 75 = .ok (.newarray .int, 2) := by decide +kernel
theorem dX12_init_77 : decode cX12_init 77 = .ok (.putfield 35, 3) := by decide +kernel
theorem dX12_init_80 : decode cX12_init 80 = .ok (.aload_n 0, 1) := by decide +kernel
theorem dX12_init_81 : decode cX12_init 81 = .ok (.iconst (-1), 1) := by decide +kernel
theorem dX12_init_82 : decode cX12_init 82 = .ok (.putfield 38, 3) := by decide +kernel
theorem dX12_init_85 : decode cX12_init 85 = .ok (.aload_n 0, 1) := by decide +kernel
theorem dX12_init_86 : decode cX12_init 86 = .ok (.bipush 96, 2) := by decide +kernel
theorem dX12_init_88 : decode cX12_init 88 = .ok (.newarray .int, 2) := by decide +kernel
theorem dX12_init_90 : decode cX12_init 90 = .ok (.putfield 42, 3) := by decide +kernel
theorem dX12_init_93 : decode cX12_init 93 = .ok (.aload_n 0, 1) := by decide +kernel
theorem dX12_init_94 : decode cX12_init 94 = .ok (.sipush 400, 3) := by decide +kernel
theorem dX12_init_97 : decode cX12_init 97 = .ok (.newarray .int, 2) := by decide +kernel
theorem dX12_init_99 : decode cX12_init 99 = .ok (.putfield 45, 3) := by decide +kernel
theorem dX12_init_102 : decode cX12_init 102 = .ok (.aload_n 0, 1) := by decide +kernel
theorem dX12_init_103 : decode cX12_init 103 = .ok (.sipush 400, 3) := by decide +kernel
theorem dX12_init_106 : decode cX12_init 106 = .ok (.newarray .int, 2) := by decide +kernel
theorem dX12_init_108 : decode cX12_init 108 = .ok (.putfield 48, 3) := by decide +kernel
theorem dX12_init_111 : decode cX12_init 111 = .ok (.aload_n 0, 1) := by decide +kernel
theorem dX12_init_112 : decode cX12_init 112 = .ok (.sipush 400, 3) := by decide +kernel
theorem dX12_init_115 : decode cX12_init 115 = .ok (.newarray .int, 2) := by decide +kernel
theorem dX12_init_117 : decode cX12_init 117 = .ok (.putfield 51, 3) := by decide +kernel
theorem dX12_init_120 : decode cX12_init 120 = .ok (.aload_n 0, 1) := by decide +kernel
theorem dX12_init_121 : decode cX12_init 121 = .ok (.sipush 400, 3) := by decide +kernel
theorem dX12_init_124 : decode cX12_init 124 = .ok (.newarray .int, 2) := by decide +kernel
theorem dX12_init_126 : decode cX12_init 126 = .ok (.putfield 54, 3) := by decide +kernel
theorem dX12_init_129 : decode cX12_init 129 = .ok (.aload_n 0, 1) := by decide +kernel
theorem dX12_init_130 : decode cX12_init 130 = .ok (.bipush 9, 2) := by decide +kernel
theorem dX12_init_132 : decode cX12_init 132 = .ok (.newarray .long, 2) := by decide +kernel
theorem dX12_init_134 : decode cX12_init 134 = .ok (.dup, 1) := by decide +kernel
theorem dX12_init_135 : decode cX12_init 135 = .ok (.iconst 0, 1) := by decide +kernel
theorem dX12_init_136 : decode cX12_init 136 = .ok (.ldc2_w 57, 3) := by decide +kernel
theorem dX12_init_139 : decode cX12_init 139 = .ok (.lastore, 1) := by decide +kernel
theorem dX12_init_140 : decode cX12_init 140 = .ok (.dup, 1) := by decide +kernel
theorem dX12_init_141 : decode cX12_init 141 = .ok (.iconst 1, 1) := by decide +kernel
theorem dX12_init_142 : decode cX12_init 142 = .ok (.ldc2_w 59, 3) := by decide +kernel
theorem dX12_init_145 : decode cX12_init 145 = .ok (.lastore, 1) := by decide +kernel
theorem dX12_init_146 : decode cX12_init 146 = .ok (.dup, 1) := by decide +kernel
theorem dX12_init_147 : decode cX12_init 147 = .ok (.iconst 2, 1) := by decide +kernel
theorem dX12_init_148 : decode cX12_init 148 = .ok (.ldc2_w 61, 3) := by decide +kernel
theorem dX12_init_151 : decode cX12_init 151 = .ok (.lastore, 1) := by decide +kernel
theorem dX12_init_152 : decode cX12_init 152 = .ok (.dup, 1) := by decide +kernel
theorem dX12_init_153 : decode cX12_init 153 = .ok (.iconst 3, 1) := by decide +kernel
theorem dX12_init_154 : decode cX12_init 154 = .ok (.ldc2_w 63, 3) := by decide +kernel
theorem dX12_init_157 : decode cX12_init 157 = .ok (.lastore, 1) := by decide +kernel
theorem dX12_init_158 : decode cX12_init 158 = .ok (.dup, 1) := by decide +kernel
theorem dX12_init_159 : decode cX12_init 159 = .ok (.iconst 4, 1) := by decide +kernel
theorem dX12_init_160 : decode cX12_init 160 = .ok (.ldc2_w 65, 3) := by decide +kernel
theorem dX12_init_163 : decode cX12_init 163 = .ok (.lastore, 1) := by decide +kernel
theorem dX12_init_164 : decode cX12_init 164 = .ok (.dup, 1) := by decide +kernel
theorem dX12_init_165 : decode cX12_init 165 = .ok (.iconst 5, 1) := by decide +kernel
theorem dX12_init_166 : decode cX12_init 166 = .ok (.ldc2_w 67, 3) := by decide +kernel
theorem dX12_init_169 : decode cX12_init 169 = .ok (.lastore, 1) := by decide +kernel
theorem dX12_init_170 : decode cX12_init 170 = .ok (.dup, 1) := by decide +kernel
theorem dX12_init_171 : decode cX12_init 171 = .ok (.bipush 6, 2) := by decide +kernel
theorem dX12_init_173 : decode cX12_init 173 = .ok (.ldc2_w 69, 3) := by decide +kernel
theorem dX12_init_176 : decode cX12_init 176 = .ok (.lastore, 1) := by decide +kernel
theorem dX12_init_177 : decode cX12_init 177 = .ok (.dup, 1) := by decide +kernel
theorem dX12_init_178 : decode cX12_init 178 = .ok (.bipush 7, 2) := by decide +kernel
theorem dX12_init_180 : decode cX12_init 180 = .ok (.ldc2_w 71, 3) := by decide +kernel
theorem dX12_init_183 : decode cX12_init 183 = .ok (.lastore, 1) := by decide +kernel
theorem dX12_init_184 : decode cX12_init 184 = .ok (.dup, 1) := by decide +kernel
theorem dX12_init_185 : decode cX12_init 185 = .ok (.bipush 8, 2) := by decide +kernel
theorem dX12_init_187 : decode cX12_init 187 = .ok (.ldc2_w 73, 3) := by decide +kernel
theorem dX12_init_190 : decode cX12_init 190 = .ok (.lastore, 1) := by decide +kernel
theorem dX12_init_191 : decode cX12_init 191 = .ok (.putfield 75, 3) := by decide +kernel
theorem dX12_init_194 : decode cX12_init 194 = .ok (.aload_n 0, 1) := by decide +kernel
theorem dX12_init_195 : decode cX12_init 195 = .ok (.bipush 7, 2) := by decide +kernel
theorem dX12_init_197 : decode cX12_init 197 = .ok (.newarray .long, 2) := by decide +kernel
theorem dX12_init_199 : decode cX12_init 199 = .ok (.dup, 1) := by decide +kernel
theorem dX12_init_200 : decode cX12_init 200 = .ok (.iconst 0, 1) := by decide +kernel
theorem dX12_init_201 : decode cX12_init 201 = .ok (.ldc2_w 69, 3) := by decide +kernel
theorem dX12_init_204 : decode cX12_init 204 = .ok (.lastore, 1) := by decide +kernel
theorem dX12_init_205 : decode cX12_init 205 = .ok (.dup, 1) := by decide +kernel
theorem dX12_init_206 : decode cX12_init 206 = .ok (.iconst 1, 1) := by decide +kernel
theorem dX12_init_207 : decode cX12_init 207 = .ok (.ldc2_w 79, 3) := by decide +kernel
theorem dX12_init_210 : decode cX12_init 210 = .ok (.lastore, 1) := by decide +kernel
theorem dX12_init_211 : decode cX12_init 211 = .ok (.dup, 1) := by decide +kernel
theorem dX12_init_212 : decode cX12_init 212 = .ok (.iconst 2, 1) := by decide +kernel
theorem dX12_init_213 : decode cX12_init 213 = .ok (.ldc2_w 81, 3) := by decide +kernel
theorem dX12_init_216 : decode cX12_init 216 = .ok (.lastore, 1) := by decide +kernel
theorem dX12_init_217 : decode cX12_init 217 = .ok (.dup, 1) := by decide +kernel
theorem dX12_init_218 : decode cX12_init 218 = .ok (.iconst 3, 1) := by decide +kernel
theorem dX12_init_219 : decode cX12_init 219 = .ok (.ldc2_w 83, 3) := by decide +kernel
theorem dX12_init_222 : decode cX12_init 222 = .ok (.lastore, 1) := by decide +kernel
theorem dX12_init_223 : decode cX12_init 223 = .ok (.dup, 1) := by decide +kernel
theorem dX12_init_224 : decode cX12_init 224 = .ok (.iconst 4, 1) := by decide +kernel
theorem dX12_init_225 : decode cX12_init 225 = .ok (.ldc2_w 85, 3) := by decide +kernel
theorem dX12_init_228 : decode cX12_init 228 = .ok (.lastore, 1) := by decide +kernel
theorem dX12_init_229 : decode cX12_init 229 = .ok (.dup, 1) := by decide +kernel
theorem dX12_init_230 : decode cX12_init 230 = .ok (.iconst 5, 1) := by decide +kernel
theorem dX12_init_231 : decode cX12_init 231 = .ok (.ldc2_w 87, 3) := by decide +kernel
theorem dX12_init_234 : decode cX12_init 234 = .ok (.lastore, 1) := by decide +kernel
theorem dX12_init_235 : decode cX12_init 235 = .ok (.dup, 1) := by decide +kernel
theorem dX12_init_236 : decode cX12_init 236 = .ok (.bipush 6, 2) := by decide +kernel
theorem dX12_init_238 : decode cX12_init 238 = .ok (.ldc2_w 89, 3) := by decide +kernel
theorem dX12_init_241 : decode cX12_init 241 = .ok (.lastore, 1) := by decide +kernel
theorem dX12_init_242 : decode cX12_init 242 = .ok (.putfield 91, 3) := by decide +kernel
theorem dX12_init_245 : decode cX12_init 245 = .ok (.aload_n 0, 1) := by decide +kernel
theorem dX12_init_246 : decode cX12_init 246 = .ok (.bipush 13, 2) := by decide +kernel
theorem dX12_init_248 : decode cX12_init 248 = .ok (.newarray .long, 2) := by decide +kernel
theorem dX12_init_250 : decode cX12_init 250 = .ok (.putfield 94, 3) := by decide +kernel
theorem dX12_init_253 : decode cX12_init 253 = .ok (.aload_n 0, 1) := by decide +kernel
theorem dX12_init_254 : decode cX12_init 254 = .ok (.bipush 13, 2) := by decide +kernel
theorem dX12_init_256 : decode cX12_init 256 = .ok (.newarray .long, 2) := by decide +kernel
theorem dX12_init_258 : decode cX12_init 258 = .ok (.putfield 97, 3) := by decide +kernel
theorem dX12_init_261 : decode cX12_init 261 = .ok (.aload_n 0, 1) := by decide +kernel
theorem dX12_init_262 : decode cX12_init 262 = .ok (.sipush 400, 3) := by decide +kernel
theorem dX12_init_265 : decode cX12_init 265 = .ok (.newarray .long, 2) := by decide +kernel
theorem dX12_init_267 : decode cX12_init 267 = .ok (.putfield 100, 3) := by decide +kernel
theorem dX12_init_270 : decode cX12_init 270 = .ok (.aload_n 0, 1) := by decide +kernel
theorem dX12_init_271 : decode cX12_init 271 = .ok (.bipush 12, 2) := by decide +kernel
theorem dX12_init_273 : decode cX12_init 273 = .ok (.newarray .int, 2) := by decide +kernel
theorem dX12_init_275 : decode cX12_init 275 = .ok (.putfield 103, 3) := by decide +kernel
theorem dX12_init_278 : decode cX12_init 278 = .ok (.aload_n 0, 1) := by decide +kernel
theorem dX12_init_279 : decode cX12_init 279 = .ok (.bipush 12, 2) := by decide +kernel
theorem dX12_init_281 : decode cX12_init 281 = .ok (.newarray .int, 2) := by decide +kernel
theorem dX12_init_283 : decode cX12_init 283 = .ok (.putfield 106, 3) := by decide +kernel
theorem dX12_init_286 : decode cX12_init 286 = .ok (.aload_n 0, 1) := by decide +kernel
theorem dX12_init_287 : decode cX12_init 287 = .ok (.bipush 12, 2) := by decide +kernel
theorem dX12_init_289 : decode cX12_init 289 = .ok (.newarray .int, 2) := by decide +kernel
theorem dX12_init_291 : decode cX12_init 291 = .ok (.putfield 109, 3) := by decide +kernel
theorem dX12_init_294 : decode cX12_init 294 = .ok (.aload_n 0, 1) := by decide +kernel
theorem dX12_init_295 : decode cX12_init 295 = .ok (.sipush 4096, 3) := by decide +kernel
theorem dX12_init_298 : decode cX12_init 298 = .ok (.newarray .boolean, 2) := by decide +kernel
theorem dX12_init_300 : decode cX12_init 300 = .ok (.putfield 112, 3) := by decide +kernel
theorem dX12_init_303 : decode cX12_init 303 = .ok (.aload_n 0, 1) := by decide +kernel
theorem dX12_init_304 : decode cX12_init 304 = .ok (.iconst 2, 1) := by decide +kernel
theorem dX12_init_305 : decode cX12_init 305 = .ok (.newarray .int, 2) := by decide +kernel
theorem dX12_init_307 : decode cX12_init 307 = .ok (.putfield 115, 3) := by decide +kernel
theorem dX12_init_310 : decode cX12_init 310 = .ok (.aload_n 0, 1) := by decide +kernel
theorem dX12_init_311 : decode cX12_init 311 = .ok (.bipush 100, 2) := by decide +kernel
theorem dX12_init_313 : decode cX12_init 313 = .ok (.newarray .int, 2) := by decide +kernel
theorem dX12_init_315 : decode cX12_init 315 = .ok (.putfield 118, 3) := by decide +kernel
theorem dX12_init_318 : decode cX12_init 318 = .ok (.aload_n 0, 1) := by decide +kernel
theorem dX12_init_319 : decode cX12_init 319 = .ok (.bipush 10, 2) := by decide +kernel
theorem dX12_init_321 : decode cX12_init 321 = .ok (.newarray .int, 2) := by decide +kernel
theorem dX12_init_323 : decode cX12_init 323 = .ok (.putfield 121, 3) := by decide +kernel
theorem dX12_init_326 : decode cX12_init 326 = .ok (.aload_n 0, 1) := by decide +kernel
theorem dX12_init_327 : decode cX12_init 327 = .ok (.bipush 90, 2) := by decide +kernel
theorem dX12_init_329 : decode cX12_init 329 = .ok (.newarray .int, 2) := by decide +kernel
theorem dX12_init_331 : decode cX12_init 331 = .ok (.putfield 124, 3) := by decide +kernel
theorem dX12_init_334 : decode cX12_init 334 = .ok (.aload_n 0, 1) := by decide +kernel
theorem dX12_init_335 : decode cX12_init 335 = .ok (.iconst 5, 1) := by decide +kernel
theorem dX12_init_336 : decode cX12_init 336 = .ok (.newarray .int, 2) := by decide +kernel
theorem dX12_init_338 : decode cX12_init 338 = .ok (.putfield 127, 3) := by decide +kernel
theorem dX12_init_341 : decode cX12_init 341 = .ok (.aload_n 0, 1) := by decide +kernel
theorem dX12_init_342 : decode cX12_init 342 = .ok (.bipush 6, 2) := by decide +kernel
theorem dX12_init_344 : decode cX12_init 344 = .ok (.newarray .int, 2) := by decide +kernel
theorem dX12_init_346 : decode cX12_init 346 = .ok (.putfield 130, 3) := by decide +kernel
theorem dX12_init_349 : decode cX12_init 349 = .ok (.aload_n 0, 1) := by decide +kernel
theorem dX12_init_350 : decode cX12_init 350 = .ok (.bipush 6, 2) := by decide +kernel
theorem dX12_init_352 : decode cX12_init 352 = .ok (.newarray .int, 2) := by decide +kernel
theorem dX12_init_354 : decode cX12_init 354 = .ok (.putfield 133, 3) := by decide +kernel
theorem dX12_init_357 : decode cX12_init 357 = .ok (.aload_n 0, 1) := by decide +kernel
theorem dX12_init_358 : decode cX12_init 358 = .ok (.bipush 6, 2) := by decide +kernel
theorem dX12_init_360 : decode cX12_init 360 = .ok (.newarray .int, 2) := by decide +kernel
theorem dX12_init_362 : decode cX12_init 362 = .ok (.putfield 136, 3) := by decide +kernel
theorem dX12_init_365 : decode cX12_init 365 = .ok (.aload_n 0, 1) := by decide +kernel
theorem dX12_init_366 : decode cX12_init 366 = .ok (.bipush 6, 2) := by decide +kernel
theorem dX12_init_368 : decode cX12_init 368 = .ok (.newarray .int, 2) := by decide +kernel
theorem dX12_init_370 : decode cX12_init 370 = .ok (.putfield 139, 3) := by decide +kernel
theorem dX12_init_373 : decode cX12_init 373 = .ok (.aload_n 0, 1) := by decide +kernel
theorem dX12_init_374 : decode cX12_init 374 = .ok (.sipush 576, 3) := by decide +kernel
theorem dX12_init_377 : decode cX12_init 377 = .ok (.newarray .boolean, 2) := by decide +kernel
theorem dX12_init_379 : decode cX12_init 379 = .ok (.putfield 142, 3) := by decide +kernel
theorem dX12_init_382 : decode cX12_init 382 = .ok (.aload_n 0, 1) := by decide +kernel
theorem dX12_init_383 : decode cX12_init 383 = .ok (.bipush 16, 2) := by decide +kernel
theorem dX12_init_385 : decode cX12_init 385 = .ok (.newarray .int, 2) := by decide +kernel
theorem dX12_init_387 : decode cX12_init 387 = .ok (.putfield 145, 3) := by decide +kernel
theorem dX12_init_390 : decode cX12_init 390 = .ok (.aload_n 0, 1) := by decide +kernel
theorem dX12_init_391 : decode cX12_init 391 = .ok (.iconst 3, 1) := by decide +kernel
theorem dX12_init_392 : decode cX12_init 392 = .ok (.newarray .int, 2) := by decide +kernel
theorem dX12_init_394 : decode cX12_init 394 = .ok (.putfield 148, 3) := by decide +kernel
theorem dX12_init_397 : decode cX12_init 397 = .ok (.aload_n 0, 1) := by decide +kernel
theorem dX12_init_398 : decode cX12_init 398 = .ok (.iconst 3, 1) := by decide +kernel
theorem dX12_init_399 : decode cX12_init 399 = .ok (.newarray .int, 2) := by decide +kernel
theorem dX12_init_401 : decode cX12_init 401 = .ok (.putfield 151, 3) := by decide +kernel
theorem dX12_init_404 : decode cX12_init 404 = .ok (.aload_n 0, 1) := by decide +kernel
theorem dX12_init_405 : decode cX12_init 405 = .ok (.iconst 3, 1) := by decide +kernel
theorem dX12_init_406 : decode cX12_init 406 = .ok (.newarray .int, 2) := by decide +kernel
theorem dX12_init_408 : decode cX12_init 408 = .ok (.putfield 154, 3) := by decide +kernel
theorem dX12_init_411 : decode cX12_init 411 = .ok (.aload_n 0, 1) := by decide +kernel
theorem dX12_init_412 : decode cX12_init 412 = .ok (.bipush 96, 2) := by decide +kernel
theorem dX12_init_414 : decode cX12_init 414 = .ok (.newarray .int, 2) := by decide +kernel
theorem dX12_init_416 : decode cX12_init 416 = .ok (.putfield 157, 3) := by decide +kernel
theorem dX12_init_419 : decode cX12_init 419 = .ok (.aload_n 0, 1) := by decide +kernel
theorem dX12_init_420 : decode cX12_init 420 = .ok (.iconst (-1), 1) := by decide +kernel
theorem dX12_init_421 : decode cX12_init 421 = .ok (.putfield 160, 3) := by decide +kernel
theorem dX12_init_424 : decode cX12_init 424 = .ok (.aload_n 0, 1) := by decide +kernel
theorem dX12_init_425 : decode cX12_init 425 = .ok (.bipush 42, 2) := by decide +kernel
theorem dX12_init_427 : decode cX12_init 427 = .ok (.newarray .int, 2) := by decide +kernel
theorem dX12_init_429 : decode cX12_init 429 = .ok (.putfield 163, 3) := by decide +kernel
theorem dX12_init_432 : decode cX12_init 432 = .ok (.aload_n 0, 1) := by decide +kernel
theorem dX12_init_433 : decode cX12_init 433 = .ok (.getfield 13, 3) := by decide +kernel
theorem dX12_init_436 : decode cX12_init 436 = .ok (.iconst 5, 1) := by decide +kernel
theorem dX12_init_437 : decode cX12_init 437 = .ok (.iconst (-1), 1) := by decide +kernel
theorem dX12_init_438 : decode cX12_init 438 = .ok (.iastore, 1) := by decide +kernel
theorem dX12_init_439 : decode cX12_init 439 = .ok (.aload_n 0, 1) := by decide +kernel
theorem dX12_init_440 : decode cX12_init 440 = .ok (.getfield 13, 3) := by decide +kernel
theorem dX12_init_443 : decode cX12_init 443 = .ok (.bipush 7, 2) := by decide +kernel
theorem dX12_init_445 : decode cX12_init 445 = .ok (.iconst 1, 1) := by decide +kernel
theorem dX12_init_446 : decode cX12_init 446 = .ok (.iastore, 1) := by decide +kernel
theorem dX12_init_447 : decode cX12_init 447 = .ok (.iconst 0, 1) := by decide +kernel
theorem dX12_init_448 : decode cX12_init 448 = .ok (.istore_n 1, 1) := by decide +kernel
theorem dX12_init_449 : decode cX12_init 449 = .ok (.iload_n 1, 1) := by decide +kernel
theorem dX12_init_450 : decode cX12_init 450 = .ok (.bipush 36, 2) := by decide +kernel
theorem dX12_init_452 : decode cX12_init 452 = .ok (.if_icmp .ge 22, 3) := by decide +kernel
theorem dX12_init_455 : decode cX12_init 455 = .ok (.aload_n 0, 1) := by decide +kernel
theorem dX12_init_456 : decode cX12_init 456 = .ok (.getfield 13, 3) := by decide +kernel
theorem dX12_init_459 : decode cX12_init 459 = .ok (.sipush 141, 3) := by decide +kernel
theorem dX12_init_462 : decode cX12_init 462 = .ok (.iconst 2, 1) := by decide +kernel
theorem dX12_init_463 : decode cX12_init 463 = .ok (.iload_n 1, 1) := by decide +kernel
theorem dX12_init_464 : decode cX12_init 464 = .ok (.imul, 1) := by decide +kernel
theorem dX12_init_465 : decode cX12_init 465 = .ok (.iadd, 1) := by decide +kernel
theorem dX12_init_466 : decode cX12_init 466 = .ok (.iconst (-1), 1) := by decide +kernel
theorem dX12_init_467 : decode cX12_init 467 = .ok (.iastore, 1) := by decide +kernel
theorem dX12_init_468 : decode cX12_init 468 = .ok (.iinc 1 1, 3) := by decide +kernel
theorem dX12_init_471 : decode cX12_init 471 = .ok (.goto (-22), 3) := by decide +kernel
theorem dX12_init_474 : decode cX12_init 474 = .ok (.return_, 1) := by decide +kernel
theorem dX8_trimmed_0 : decode cX8_trimmed 0 = .ok (.new 14, 3) := by decide +kernel
theorem dX8_trimmed_3 : decode cX8_trimmed 3 = .ok (.dup, 1) := by decide +kernel
theorem dX8_trimmed_4 : decode cX8_trimmed 4 = .ok (.aload_n 0, 1) := by decide +kernel
theorem dX8_trimmed_5 : decode cX8_trimmed 5 = .ok (.getfield 25, 3) := by decide +kernel
theorem dX8_trimmed_8 : decode cX8_trimmed 8 = .ok (.aload_n 0, 1) := by decide +kernel
theorem dX8_trimmed_9 : decode cX8_trimmed 9 = .ok (.getfield 29, 3) := by decide +kernel
theorem dX8_trimmed_12 : decode cX8_trimmed 12 = .ok (.invokespecial 38, 3) := by decide +kernel
theorem dX8_trimmed_15 : decode cX8_trimmed 15 = .ok (.astore_n 1, 1) := by decide +kernel
theorem dX8_trimmed_16 : decode cX8_trimmed 16 = .ok (.aload_n 0, 1) := by decide +kernel
theorem dX8_trimmed_17 : decode cX8_trimmed 17 = .ok (.getfield 13, 3) := by decide +kernel
theorem dX8_trimmed_20 : decode cX8_trimmed 20 = .ok (.iconst 0, 1) := by decide +kernel
theorem dX8_trimmed_21 : decode cX8_trimmed 21 = .ok (.aload_n 1, 1) := by decide +kernel
theorem dX8_trimmed_22 : decode cX8_trimmed 22 = .ok (.getfield 13, 3) := by decide +kernel
theorem dX8_trimmed_25 : decode cX8_trimmed 25 = .ok (.iconst 0, 1) := by decide +kernel
theorem dX8_trimmed_26 : decode cX8_trimmed 26 = .ok (.aload_n 0, 1) := by decide +kernel
theorem dX8_trimmed_27 : decode cX8_trimmed 27 = .ok (.getfield 25, 3) := by decide +kernel
theorem dX8_trimmed_30 : decode cX8_trimmed 30 = .ok (.invokestatic 41, 3) := by decide +kernel
theorem dX8_trimmed_33 : decode cX8_trimmed 33 = .ok (.aload_n 0, 1) := by decide +kernel
theorem dX8_trimmed_34 : decode cX8_trimmed 34 = .ok (.getfield 19, 3) := by decide +kernel
theorem dX8_trimmed_37 : decode cX8_trimmed 37 = .ok (.iconst 0, 1) := by decide +kernel
theorem dX8_trimmed_38 : decode cX8_trimmed 38 = .ok (.aload_n 1, 1) := by decide +kernel
theorem dX8_trimmed_39 : decode cX8_trimmed 39 = .ok (.getfield 19, 3) := by decide +kernel
theorem dX8_trimmed_42 : decode cX8_trimmed 42 = .ok (.iconst 0, 1) := by decide +kernel
theorem dX8_trimmed_43 : decode cX8_trimmed 43 = .ok (.aload_n 0, 1) := by decide +kernel
theorem dX8_trimmed_44 : decode cX8_trimmed 44 = .ok (.getfield 25, 3) := by decide +kernel
theorem dX8_trimmed_47 : decode cX8_trimmed 47 = .ok (.invokestatic 41, 3) := by decide +kernel
theorem dX8_trimmed_50 : decode cX8_trimmed 50 = .ok (.aload_n 0, 1) := by decide +kernel
theorem dX8_trimmed_51 : decode cX8_trimmed 51 = .ok (.getfield 22, 3) := by decide +kernel
theorem dX8_trimmed_54 : decode cX8_trimmed 54 = .ok (.iconst 0, 1) := by decide +kernel
theorem dX8_trimmed_55 : decode cX8_trimmed 55 = .ok (.aload_n 1, 1) := by decide +kernel
theorem dX8_trimmed_56 : decode cX8_trimmed 56 = .ok (.getfield 22, 3) := by decide +kernel
theorem dX8_trimmed_59 : decode cX8_trimmed 59 = .ok (.iconst 0, 1) := by decide +kernel
theorem dX8_trimmed_60 : decode cX8_trimmed 60 = .ok (.aload_n 0, 1) := by decide +kernel
theorem dX8_trimmed_61 : decode cX8_trimmed 61 = .ok (.getfield 29, 3) := by decide +kernel
theorem dX8_trimmed_64 : decode cX8_trimmed 64 = .ok (.bipush 8, 2) := by decide +kernel
theorem dX8_trimmed_66 : decode cX8_trimmed 66 = .ok (.imul, 1) := by decide +kernel
theorem dX8_trimmed_67 : decode cX8_trimmed 67 = .ok (.invokestatic 41, 3) := by decide +kernel
theorem dX8_trimmed_70 : decode cX8_trimmed 70 = .ok (.aload_n 1, 1) := by decide +kernel
theorem dX8_trimmed_71 : decode cX8_trimmed 71 = .ok (.aload_n 0, 1) := by decide +kernel
theorem dX8_trimmed_72 : decode cX8_trimmed 72 = .ok (.getfield 25, 3) := by decide +kernel
theorem dX8_trimmed_75 : decode cX8_trimmed 75 = .ok (.putfield 25, 3) := by decide +kernel
theorem dX8_trimmed_78 : decode cX8_trimmed 78 = .ok (.aload_n 1, 1) := by decide +kernel
theorem dX8_trimmed_79 : decode cX8_trimmed 79 = .ok (.aload_n 0, 1) := by decide +kernel
theorem dX8_trimmed_80 : decode cX8_trimmed 80 = .ok (.getfield 29, 3) := by decide +kernel
theorem dX8_trimmed_83 : decode cX8_trimmed 83 = .ok (.putfield 29, 3) := by decide +kernel
theorem dX8_trimmed_86 : decode cX8_trimmed 86 = .ok (.aload_n 1, 1) := by decide +kernel
theorem dX8_trimmed_87 : decode cX8_trimmed 87 = .ok (.areturn, 1) := by decide +kernel
theorem dX11_law_0 : decode cX11_law 0 = .ok (.aload_n 0, 1) := by decide +kernel
theorem dX11_law_1 : decode cX11_law 1 = .ok (.getfield 10, 3) := by decide +kernel
theorem dX11_law_4 : decode cX11_law 4 = .ok (.iconst 4, 1) := by decide +kernel
theorem dX11_law_5 : decode cX11_law 5 = .ok (.invokevirtual 108, 3) := by decide +kernel
theorem dX11_law_8 : decode cX11_law 8 = .ok (.bipush 6, 2) := by decide +kernel
theorem dX11_law_10 : decode cX11_law 10 = .ok (.if_icmp .lt 18, 3) := by decide +kernel
theorem dX11_law_13 : decode cX11_law 13 = .ok (.aload_n 0, 1) := by decide +kernel
theorem dX11_law_14 : decode cX11_law 14 = .ok (.getfield 32, 3) := by decide +kernel
theorem dX11_law_17 : decode cX11_law 17 = .ok (.iconst 0, 1) := by decide +kernel
theorem dX11_law_18 : decode cX11_law 18 = .ok (.invokevirtual 171, 3) := by decide +kernel
theorem dX11_law_21 : decode cX11_law 21 = .ok (.aload_n 0, 1) := by decide +kernel
theorem dX11_law_22 : decode cX11_law 22 = .ok (.bipush (-5), 2) := by decide +kernel
theorem dX11_law_24 : decode cX11_law 24 = .ok (.invokevirtual 104, 3) := by decide +kernel
theorem dX11_law_27 : decode cX11_law 27 = .ok (.ireturn, 1) := by decide +kernel
theorem dX11_law_28 : decode cX11_law 28 = .ok (.aload_n 0, 1) := by decide +kernel
theorem dX11_law_29 : decode cX11_law 29 = .ok (.getfield 32, 3) := by decide +kernel
theorem dX11_law_32 : decode cX11_law 32 = .ok (.iconst 1, 1) := by decide +kernel
theorem dX11_law_33 : decode cX11_law 33 = .ok (.invokevirtual 180, 3) := by decide +kernel
theorem dX11_law_36 : decode cX11_law 36 = .ok (.istore_n 1, 1) := by decide +kernel
theorem dX11_law_37 : decode cX11_law 37 = .ok (.aload_n 0, 1) := by decide +kernel
theorem dX11_law_38 : decode cX11_law 38 = .ok (.getfield 32, 3) := by decide +kernel
theorem dX11_law_41 : decode cX11_law 41 = .ok (.iconst 0, 1) := by decide +kernel
theorem dX11_law_42 : decode cX11_law 42 = .ok (.invokevirtual 171, 3) := by decide +kernel
theorem dX11_law_45 : decode cX11_law 45 = .ok (.iload_n 1, 1) := by decide +kernel
theorem dX11_law_46 : decode cX11_law 46 = .ok (.ifCond .eq 27, 3) := by decide +kernel
theorem dX11_law_49 : decode cX11_law 49 = .ok (.aload_n 0, 1) := by decide +kernel
theorem dX11_law_50 : decode cX11_law 50 = .ok (.aload_n 0, 1) := by decide +kernel
theorem dX11_law_51 : decode cX11_law 51 = .ok (.getfield 10, 3) := by decide +kernel
theorem dX11_law_54 : decode cX11_law 54 = .ok (.aload_n 0, 1) := by decide +kernel
theorem dX11_law_55 : decode cX11_law 55 = .ok (.getfield 32, 3) := by decide +kernel
theorem dX11_law_58 : decode cX11_law 58 = .ok (.invokevirtual 184, 3) := by decide +kernel
theorem dX11_law_61 : decode cX11_law 61 = .ok (.invokevirtual 188, 3) := by decide +kernel
theorem dX11_law_64 : decode cX11_law 64 = .ok (.invokevirtual 193, 3) := by decide +kernel
theorem dX11_law_67 : decode cX11_law 67 = .ok (.invokevirtual 118, 3) := by decide +kernel
theorem dX11_law_70 : decode cX11_law 70 = .ok (.goto 9, 3) := by decide +kernel
theorem dX11_law_73 : decode cX11_law 73 = .ok (.aload_n 0, 1) := by decide +kernel
theorem dX11_law_74 : decode cX11_law 74 = .ok (.bipush (-6), 2) := by decide +kernel
theorem dX11_law_76 : decode cX11_law 76 = .ok (.invokevirtual 104, 3) := by decide +kernel
theorem dX11_law_79 : decode cX11_law 79 = .ok (.ireturn, 1) := by decide +kernel
/-! links for the constructors -/
theorem wd_156 : Cond.methodLink "GiftDuel" 1 ⟨"java/lang/Object", "<init>", "()V"⟩ ∈ lw_g := lw_g1 27 rfl rfl
theorem wd_157 : Cond.instanceMethod ⟨"java/lang/Object", "<init>", "()V"⟩ ∈ lw_g := lw_g1 28 rfl rfl
theorem wd_158 : Cond.code ⟨"java/lang/Object", "<init>", "()V"⟩ object_method_1_code 1 none ∈ lw_g := lw_g1 29 rfl rfl
theorem wd_159 : Cond.classLink "GiftDuel" 7 "GiftDuel$World" ∈ lw_g := lw_g1 30 rfl rfl
theorem wd_160 : Cond.instantiable "GiftDuel$World" 3 ∈ lw_g := lw_g1 31 rfl rfl
theorem wd_161 : Cond.methodLink "GiftDuel" 9 ⟨"GiftDuel$World", "<init>", "()V"⟩ ∈ lw_g := lw_g1 32 rfl rfl
theorem wd_162 : Cond.instanceMethod ⟨"GiftDuel$World", "<init>", "()V"⟩ ∈ lw_g := lw_g1 33 rfl rfl
theorem wd_163 : Cond.code ⟨"GiftDuel$World", "<init>", "()V"⟩ prog_12_method_1_code 1 none ∈ lw_g := lw_g1 34 rfl rfl
theorem wd_164 : Cond.methodLink "GiftDuel$World" 5 ⟨"java/lang/Object", "<init>", "()V"⟩ ∈ lw_g := lw_g1 35 rfl rfl
theorem wd_165 : Cond.classLink "GiftDuel$World" 15 "GiftDuel$Text" ∈ lw_g := lw_g1 36 rfl rfl
theorem wd_183 : Cond.arrayClass .int ∈ lw_g := lw_g1 54 rfl rfl
theorem wd_184 : Cond.classLink "GiftDuel" 22 "GiftDuel$Past" ∈ lw_g := lw_g1 55 rfl rfl
theorem wd_185 : Cond.instantiable "GiftDuel$Past" 4 ∈ lw_g := lw_g1 56 rfl rfl
theorem wd_187 : Cond.instanceMethod ⟨"GiftDuel$Past", "<init>", "()V"⟩ ∈ lw_g := lw_g1 58 rfl rfl
theorem wd_188 : Cond.code ⟨"GiftDuel$Past", "<init>", "()V"⟩ prog_6_method_1_code 1 none ∈ lw_g := lw_g1 59 rfl rfl
theorem wd_189 : Cond.methodLink "GiftDuel$Past" 3 ⟨"java/lang/Object", "<init>", "()V"⟩ ∈ lw_g := lw_g1 60 rfl rfl
theorem wd_203 : Cond.classLink "GiftDuel" 29 "GiftDuel$Reader" ∈ lw_g := lw_g1 74 rfl rfl
theorem wd_204 : Cond.instantiable "GiftDuel$Reader" 11 ∈ lw_g := lw_g1 75 rfl rfl
theorem wd_206 : Cond.instanceMethod ⟨"GiftDuel$Reader", "<init>", "()V"⟩ ∈ lw_g := lw_g1 77 rfl rfl
theorem wd_207 : Cond.code ⟨"GiftDuel$Reader", "<init>", "()V"⟩ prog_7_method_1_code 1 none ∈ lw_g := lw_g1 78 rfl rfl
theorem wd_208 : Cond.methodLink "GiftDuel$Reader" 5 ⟨"java/lang/Object", "<init>", "()V"⟩ ∈ lw_g := lw_g1 79 rfl rfl
theorem wd_209 : Cond.classLink "GiftDuel$Reader" 24 "GiftDuel$Text" ∈ lw_g := lw_g1 80 rfl rfl
theorem wd_210 : Cond.instantiable "GiftDuel$Text" 5 ∈ lw_g := lw_g1 81 rfl rfl
theorem wd_211 : Cond.methodLink "GiftDuel$Reader" 26 ⟨"GiftDuel$Text", "<init>", "(II)V"⟩ ∈ lw_g := lw_g1 82 rfl rfl
theorem wd_212 : Cond.instanceMethod ⟨"GiftDuel$Text", "<init>", "(II)V"⟩ ∈ lw_g := lw_g1 83 rfl rfl
theorem wd_213 : Cond.code ⟨"GiftDuel$Text", "<init>", "(II)V"⟩ prog_10_method_1_code 3 none ∈ lw_g := lw_g1 84 rfl rfl
theorem wd_214 : Cond.methodLink "GiftDuel$Text" 1 ⟨"java/lang/Object", "<init>", "()V"⟩ ∈ lw_g := lw_g1 85 rfl rfl
theorem wd_215 : Cond.methodLink "GiftDuel$Text" 7 ⟨"java/lang/Math", "max", "(II)I"⟩ ∈ lw_g := lw_g1 86 rfl rfl
theorem wd_268 : Cond.classLink "GiftDuel" 36 "GiftDuel$Judge" ∈ lw_g := lw_g1 139 rfl rfl
theorem wd_269 : Cond.instantiable "GiftDuel$Judge" 3 ∈ lw_g := lw_g1 140 rfl rfl
theorem wd_271 : Cond.instanceMethod ⟨"GiftDuel$Judge", "<init>", "()V"⟩ ∈ lw_g := lw_g1 142 rfl rfl
theorem wd_272 : Cond.code ⟨"GiftDuel$Judge", "<init>", "()V"⟩ prog_4_method_1_code 1 none ∈ lw_g := lw_g1 143 rfl rfl
theorem wd_273 : Cond.methodLink "GiftDuel$Judge" 3 ⟨"java/lang/Object", "<init>", "()V"⟩ ∈ lw_g := lw_g1 144 rfl rfl
theorem wd_284 : Cond.classLink "GiftDuel" 43 "GiftDuel$Deeds" ∈ lw_g := lw_g1 155 rfl rfl
theorem wd_285 : Cond.instantiable "GiftDuel$Deeds" 3 ∈ lw_g := lw_g1 156 rfl rfl
theorem wd_286 : Cond.methodLink "GiftDuel" 45 ⟨"GiftDuel$Deeds", "<init>", "(LGiftDuel$Judge;)V"⟩ ∈ lw_g := lw_g1 157 rfl rfl
theorem wd_287 : Cond.instanceMethod ⟨"GiftDuel$Deeds", "<init>", "(LGiftDuel$Judge;)V"⟩ ∈ lw_g := lw_g1 158 rfl rfl
theorem wd_288 : Cond.code ⟨"GiftDuel$Deeds", "<init>", "(LGiftDuel$Judge;)V"⟩ prog_2_method_1_code 2 none ∈ lw_g := lw_g1 159 rfl rfl
theorem wd_289 : Cond.methodLink "GiftDuel$Deeds" 3 ⟨"java/lang/Object", "<init>", "()V"⟩ ∈ lw_g := lw_g1 160 rfl rfl
theorem wd_290 : Cond.classLink "GiftDuel$Deeds" 9 "GiftDuel$World" ∈ lw_g := lw_g1 161 rfl rfl
theorem wd_291 : Cond.methodLink "GiftDuel$Deeds" 11 ⟨"GiftDuel$World", "<init>", "()V"⟩ ∈ lw_g := lw_g1 162 rfl rfl
theorem wd_302 : Cond.classLink "GiftDuel" 52 "GiftDuel$Orders" ∈ lw_g := lw_g1 173 rfl rfl
theorem wd_303 : Cond.instantiable "GiftDuel$Orders" 8 ∈ lw_g := lw_g1 174 rfl rfl
theorem wd_304 : Cond.methodLink "GiftDuel" 54 ⟨"GiftDuel$Orders", "<init>", "(LGiftDuel$Deeds;)V"⟩ ∈ lw_g := lw_g1 175 rfl rfl
theorem wd_305 : Cond.instanceMethod ⟨"GiftDuel$Orders", "<init>", "(LGiftDuel$Deeds;)V"⟩ ∈ lw_g := lw_g1 176 rfl rfl
theorem wd_306 : Cond.code ⟨"GiftDuel$Orders", "<init>", "(LGiftDuel$Deeds;)V"⟩ prog_5_method_1_code 2 none ∈ lw_g := lw_g1 177 rfl rfl
theorem wd_307 : Cond.methodLink "GiftDuel$Orders" 5 ⟨"java/lang/Object", "<init>", "()V"⟩ ∈ lw_g := lw_g1 178 rfl rfl
theorem wd_308 : Cond.classLink "GiftDuel$Orders" 11 "GiftDuel$World" ∈ lw_g := lw_g1 179 rfl rfl
theorem wd_309 : Cond.methodLink "GiftDuel$Orders" 13 ⟨"GiftDuel$World", "<init>", "()V"⟩ ∈ lw_g := lw_g1 180 rfl rfl
theorem wd_310 : Cond.classLink "GiftDuel$Orders" 18 "GiftDuel$Past" ∈ lw_g := lw_g1 181 rfl rfl
theorem wd_337 : Cond.classLink "GiftDuel" 61 "GiftDuel$Duels" ∈ lw_g := lw_g1 208 rfl rfl
theorem wd_338 : Cond.instantiable "GiftDuel$Duels" 6 ∈ lw_g := lw_g1 209 rfl rfl
theorem wd_339 : Cond.methodLink "GiftDuel" 63 ⟨"GiftDuel$Duels", "<init>", "(LGiftDuel$Judge;)V"⟩ ∈ lw_g := lw_g1 210 rfl rfl
theorem wd_340 : Cond.instanceMethod ⟨"GiftDuel$Duels", "<init>", "(LGiftDuel$Judge;)V"⟩ ∈ lw_g := lw_g1 211 rfl rfl
theorem wd_341 : Cond.code ⟨"GiftDuel$Duels", "<init>", "(LGiftDuel$Judge;)V"⟩ prog_3_method_1_code 2 none ∈ lw_g := lw_g1 212 rfl rfl
theorem wd_342 : Cond.methodLink "GiftDuel$Duels" 3 ⟨"java/lang/Object", "<init>", "()V"⟩ ∈ lw_g := lw_g1 213 rfl rfl
theorem wd_362 : Cond.classLink "GiftDuel" 68 "GiftDuel$Sieges" ∈ lw_g := lw_g1 233 rfl rfl
theorem wd_363 : Cond.instantiable "GiftDuel$Sieges" 8 ∈ lw_g := lw_g1 234 rfl rfl
theorem wd_364 : Cond.methodLink "GiftDuel" 70 ⟨"GiftDuel$Sieges", "<init>", "(LGiftDuel$Judge;)V"⟩ ∈ lw_g := lw_g1 235 rfl rfl
theorem wd_365 : Cond.instanceMethod ⟨"GiftDuel$Sieges", "<init>", "(LGiftDuel$Judge;)V"⟩ ∈ lw_g := lw_g1 236 rfl rfl
theorem wd_366 : Cond.code ⟨"GiftDuel$Sieges", "<init>", "(LGiftDuel$Judge;)V"⟩ prog_9_method_1_code 2 none ∈ lw_g := lw_g1 237 rfl rfl
theorem wd_367 : Cond.methodLink "GiftDuel$Sieges" 3 ⟨"java/lang/Object", "<init>", "()V"⟩ ∈ lw_g := lw_g1 238 rfl rfl
theorem wd_393 : Cond.classLink "GiftDuel" 75 "GiftDuel$Ways" ∈ lw_g := lw_g2 24 rfl rfl
theorem wd_394 : Cond.instantiable "GiftDuel$Ways" 9 ∈ lw_g := lw_g2 25 rfl rfl
theorem wd_396 : Cond.instanceMethod ⟨"GiftDuel$Ways", "<init>", "()V"⟩ ∈ lw_g := lw_g2 27 rfl rfl
theorem wd_397 : Cond.code ⟨"GiftDuel$Ways", "<init>", "()V"⟩ prog_11_method_1_code 1 none ∈ lw_g := lw_g2 28 rfl rfl
theorem wd_398 : Cond.methodLink "GiftDuel$Ways" 3 ⟨"java/lang/Object", "<init>", "()V"⟩ ∈ lw_g := lw_g2 29 rfl rfl
theorem wd_427 : Cond.classLink "GiftDuel" 82 "GiftDuel$Shelves" ∈ lw_g := lw_g2 58 rfl rfl
theorem wd_428 : Cond.instantiable "GiftDuel$Shelves" 9 ∈ lw_g := lw_g2 59 rfl rfl
theorem wd_429 : Cond.methodLink "GiftDuel" 84 ⟨"GiftDuel$Shelves", "<init>", "(LGiftDuel$Judge;)V"⟩ ∈ lw_g := lw_g2 60 rfl rfl
theorem wd_430 : Cond.instanceMethod ⟨"GiftDuel$Shelves", "<init>", "(LGiftDuel$Judge;)V"⟩ ∈ lw_g := lw_g2 61 rfl rfl
theorem wd_431 : Cond.code ⟨"GiftDuel$Shelves", "<init>", "(LGiftDuel$Judge;)V"⟩ prog_8_method_1_code 2 none ∈ lw_g := lw_g2 62 rfl rfl
theorem wd_432 : Cond.methodLink "GiftDuel$Shelves" 5 ⟨"java/lang/Object", "<init>", "()V"⟩ ∈ lw_g := lw_g2 63 rfl rfl
theorem wd_461 : Cond.arrayClass .boolean ∈ lw_g := lw_g2 92 rfl rfl
theorem wd_1377 : Cond.methodLink "GiftDuelModel" 1 ⟨"java/lang/Object", "<init>", "()V"⟩ ∈ lw_g := lw_g6 48 rfl rfl
theorem wd_1378 : Cond.constantLong "GiftDuelModel" 57 245220 ∈ lw_g := lw_g6 49 rfl rfl
theorem wd_1379 : Cond.constantLong "GiftDuelModel" 59 67173 ∈ lw_g := lw_g6 50 rfl rfl
theorem wd_1380 : Cond.constantLong "GiftDuelModel" 61 365744 ∈ lw_g := lw_g6 51 rfl rfl
theorem wd_1381 : Cond.constantLong "GiftDuelModel" 63 7657646 ∈ lw_g := lw_g6 52 rfl rfl
theorem wd_1382 : Cond.constantLong "GiftDuelModel" 65 7657650 ∈ lw_g := lw_g6 53 rfl rfl
theorem wd_1384 : Cond.constantLong "GiftDuelModel" 69 824370 ∈ lw_g := lw_g6 55 rfl rfl
theorem wd_1385 : Cond.constantLong "GiftDuelModel" 71 274269572 ∈ lw_g := lw_g6 56 rfl rfl
theorem wd_1386 : Cond.constantLong "GiftDuelModel" 73 441828 ∈ lw_g := lw_g6 57 rfl rfl
theorem wd_1387 : Cond.constantLong "GiftDuelModel" 79 7847059 ∈ lw_g := lw_g6 58 rfl rfl
theorem wd_1388 : Cond.constantLong "GiftDuelModel" 81 146885 ∈ lw_g := lw_g6 59 rfl rfl
theorem wd_1389 : Cond.constantLong "GiftDuelModel" 83 394868 ∈ lw_g := lw_g6 60 rfl rfl
theorem wd_1390 : Cond.constantLong "GiftDuelModel" 85 7931182 ∈ lw_g := lw_g6 61 rfl rfl
theorem wd_1391 : Cond.constantLong "GiftDuelModel" 87 284561586 ∈ lw_g := lw_g6 62 rfl rfl
theorem wd_1392 : Cond.constantLong "GiftDuelModel" 89 515236 ∈ lw_g := lw_g6 63 rfl rfl
theorem wd_1613 : Cond.arrayClass .long ∈ lw_g := lw_g7 44 rfl rfl
theorem ac_I : Cond.arrayClass .int ∈ lw_g := wd_183
theorem ac_J : Cond.arrayClass .long ∈ lw_g := wd_1613
theorem ac_Z : Cond.arrayClass .boolean ∈ lw_g := wd_461
theorem bp_100 : (Int8.ofInt 100).toInt32 = Int32.ofInt 100 := by decide +kernel
theorem bp_13 : (Int8.ofInt 13).toInt32 = Int32.ofInt 13 := by decide +kernel
theorem bp_90 : (Int8.ofInt 90).toInt32 = Int32.ofInt 90 := by decide +kernel
theorem bp_96 : (Int8.ofInt 96).toInt32 = Int32.ofInt 96 := by decide +kernel
theorem ci_RX0_11 : m_CI RX0 11 yX10_init := ⟨wd_291, wd_162, rfl⟩
theorem ci_RX11_45 : m_CI RX11 45 yX0_init := ⟨wd_286, wd_287, rfl⟩
theorem ci_RX11_54 : m_CI RX11 54 yX3_init := ⟨wd_304, wd_305, rfl⟩
theorem ci_RX11_63 : m_CI RX11 63 yX1_init := ⟨wd_339, wd_340, rfl⟩
theorem ci_RX11_70 : m_CI RX11 70 yX7_init := ⟨wd_364, wd_365, rfl⟩
theorem ci_RX11_84 : m_CI RX11 84 yX6_init := ⟨wd_429, wd_430, rfl⟩
theorem ci_RX11_9 : m_CI RX11 9 yX10_init := ⟨wd_161, wd_162, rfl⟩
theorem ci_RX3_13 : m_CI RX3 13 yX10_init := ⟨wd_309, wd_162, rfl⟩
theorem ci_RX5_26 : m_CI RX5 26 yX8_init := ⟨wd_211, wd_212, rfl⟩
theorem cw_X0_init : m_CW yX0_init cX0_init 2 none 1 := ⟨wd_138, wd_288, by decide +kernel, by decide⟩
theorem cw_X10_init : m_CW yX10_init cX10_init 1 none 0 := ⟨wd_131, wd_163, by decide +kernel, by decide⟩
theorem cw_X1_init : m_CW yX1_init cX1_init 2 none 1 := ⟨wd_140, wd_341, by decide +kernel, by decide⟩
theorem cw_X2_init : m_CW yX2_init cX2_init 1 none 0 := ⟨wd_137, wd_272, by decide +kernel, by decide⟩
theorem cw_X3_init : m_CW yX3_init cX3_init 2 none 1 := ⟨wd_139, wd_306, by decide +kernel, by decide⟩
theorem cw_X4_init : m_CW yX4_init cX4_init 1 none 0 := ⟨wd_133, wd_188, by decide +kernel, by decide⟩
theorem cw_X5_init : m_CW yX5_init cX5_init 1 none 0 := ⟨wd_134, wd_207, by decide +kernel, by decide⟩
theorem cw_X6_init : m_CW yX6_init cX6_init 2 none 1 := ⟨wd_143, wd_431, by decide +kernel, by decide⟩
theorem cw_X7_init : m_CW yX7_init cX7_init 2 none 1 := ⟨wd_141, wd_366, by decide +kernel, by decide⟩
theorem cw_X8_init : m_CW yX8_init cX8_init 3 none 2 := ⟨wd_135, wd_213, by decide +kernel, by decide⟩
theorem cw_X9_init : m_CW yX9_init cX9_init 1 none 0 := ⟨wd_142, wd_397, by decide +kernel, by decide⟩
theorem kc_RX12_57 : Cond.constantLong RX12 57 (Int64.ofInt 245220) ∈ lw_g := wd_1378
theorem kc_RX12_59 : Cond.constantLong RX12 59 (Int64.ofInt 67173) ∈ lw_g := wd_1379
theorem kc_RX12_61 : Cond.constantLong RX12 61 (Int64.ofInt 365744) ∈ lw_g := wd_1380
theorem kc_RX12_63 : Cond.constantLong RX12 63 (Int64.ofInt 7657646) ∈ lw_g := wd_1381
theorem kc_RX12_65 : Cond.constantLong RX12 65 (Int64.ofInt 7657650) ∈ lw_g := wd_1382
theorem kc_RX12_69 : Cond.constantLong RX12 69 (Int64.ofInt 824370) ∈ lw_g := wd_1384
theorem kc_RX12_71 : Cond.constantLong RX12 71 (Int64.ofInt 274269572) ∈ lw_g := wd_1385
theorem kc_RX12_73 : Cond.constantLong RX12 73 (Int64.ofInt 441828) ∈ lw_g := wd_1386
theorem kc_RX12_79 : Cond.constantLong RX12 79 (Int64.ofInt 7847059) ∈ lw_g := wd_1387
theorem kc_RX12_81 : Cond.constantLong RX12 81 (Int64.ofInt 146885) ∈ lw_g := wd_1388
theorem kc_RX12_83 : Cond.constantLong RX12 83 (Int64.ofInt 394868) ∈ lw_g := wd_1389
theorem kc_RX12_85 : Cond.constantLong RX12 85 (Int64.ofInt 7931182) ∈ lw_g := wd_1390
theorem kc_RX12_87 : Cond.constantLong RX12 87 (Int64.ofInt 284561586) ∈ lw_g := wd_1391
theorem kc_RX12_89 : Cond.constantLong RX12 89 (Int64.ofInt 515236) ∈ lw_g := wd_1392
theorem ml_RX0_3 : Cond.methodLink RX0 3 Lib.objectInit ∈ lw_g := wd_289
theorem ml_RX10_5 : Cond.methodLink RX10 5 Lib.objectInit ∈ lw_g := wd_164
theorem ml_RX11_1 : Cond.methodLink RX11 1 Lib.objectInit ∈ lw_g := wd_156
theorem ml_RX12_1 : Cond.methodLink RX12 1 Lib.objectInit ∈ lw_g := wd_1377
theorem ml_RX1_3 : Cond.methodLink RX1 3 Lib.objectInit ∈ lw_g := wd_342
theorem ml_RX2_3 : Cond.methodLink RX2 3 Lib.objectInit ∈ lw_g := wd_273
theorem ml_RX3_5 : Cond.methodLink RX3 5 Lib.objectInit ∈ lw_g := wd_307
theorem ml_RX4_3 : Cond.methodLink RX4 3 Lib.objectInit ∈ lw_g := wd_189
theorem ml_RX5_5 : Cond.methodLink RX5 5 Lib.objectInit ∈ lw_g := wd_208
theorem ml_RX6_5 : Cond.methodLink RX6 5 Lib.objectInit ∈ lw_g := wd_432
theorem ml_RX7_3 : Cond.methodLink RX7 3 Lib.objectInit ∈ lw_g := wd_367
theorem ml_RX8_1 : Cond.methodLink RX8 1 Lib.objectInit ∈ lw_g := wd_214
theorem ml_RX8_7 : Cond.methodLink RX8 7 Lib.Math.max.name ∈ lw_g := wd_215
theorem ml_RX9_3 : Cond.methodLink RX9 3 Lib.objectInit ∈ lw_g := wd_398
theorem oi_c : Cond.code Lib.objectInit ⟨#[0xb1]⟩ 1 none ∈ lw_g := wd_158
theorem oi_i : Cond.instanceMethod Lib.objectInit ∈ lw_g := wd_157
theorem sp_11340 : (Int16.ofInt 11340).toInt32 = Int32.ofInt 11340 := by decide +kernel
theorem sp_3056 : (Int16.ofInt 3056).toInt32 = Int32.ofInt 3056 := by decide +kernel
theorem sp_384 : (Int16.ofInt 384).toInt32 = Int32.ofInt 384 := by decide +kernel
theorem sp_401 : (Int16.ofInt 401).toInt32 = Int32.ofInt 401 := by decide +kernel
theorem sp_4096 : (Int16.ofInt 4096).toInt32 = Int32.ofInt 4096 := by decide +kernel
theorem sp_4860 : (Int16.ofInt 4860).toInt32 = Int32.ofInt 4860 := by decide +kernel
theorem tkX0 : ∀ j, j < 3 → m_tok (m_ty 0 j) = true := by decide
theorem tkX1 : ∀ j, j < 6 → m_tok (m_ty 1 j) = true := by decide
theorem tkX2 : ∀ j, j < 3 → m_tok (m_ty 2 j) = true := by decide
theorem tkX3 : ∀ j, j < 8 → m_tok (m_ty 3 j) = true := by decide
theorem tkX4 : ∀ j, j < 4 → m_tok (m_ty 4 j) = true := by decide
theorem tkX5 : ∀ j, j < 11 → m_tok (m_ty 5 j) = true := by decide
theorem tkX6 : ∀ j, j < 9 → m_tok (m_ty 6 j) = true := by decide
theorem tkX7 : ∀ j, j < 8 → m_tok (m_ty 7 j) = true := by decide
theorem tkX8 : ∀ j, j < 5 → m_tok (m_ty 8 j) = true := by decide
theorem tkX9 : ∀ j, j < 9 → m_tok (m_ty 9 j) = true := by decide
theorem tkX10 : ∀ j, j < 3 → m_tok (m_ty 10 j) = true := by decide
theorem tkX11 : ∀ j, j < 15 → m_tok (m_ty 11 j) = true := by decide
theorem tkX12 : ∀ j, j < 73 → m_tok (m_ty 12 j) = true := by decide
