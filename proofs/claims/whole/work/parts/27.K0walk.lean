theorem dX0_init_0 : decode cX0_init 0 = .ok (.aload_n 0, 1) := by decide +kernel
theorem dX0_init_1 : decode cX0_init 1 = .ok (.invokespecial 3, 3) := by decide +kernel
theorem dX0_init_4 : decode cX0_init 4 = .ok (.aload_n 0, 1) := by decide +kernel
theorem dX0_init_5 : decode cX0_init 5 = .ok (.iconst 0, 1) := by decide +kernel
theorem dX0_init_6 : decode cX0_init 6 = .ok (.putfield 9, 3) := by decide +kernel
theorem dX0_init_9 : decode cX0_init 9 = .ok (.aload_n 0, 1) := by decide +kernel
theorem dX0_init_10 : decode cX0_init 10 = .ok (.bipush 7, 2) := by decide +kernel
theorem dX0_init_12 : decode cX0_init 12 = .ok (.newarray .int, 2) := by decide +kernel
theorem dX0_init_14 : decode cX0_init 14 = .ok (.putfield 15, 3) := by decide +kernel
theorem dX0_init_17 : decode cX0_init 17 = .ok (.aload_n 0, 1) := by decide +kernel
theorem dX0_init_18 : decode cX0_init 18 = .ok (.iconst 0, 1) := by decide +kernel
theorem dX0_init_19 : decode cX0_init 19 = .ok (.putfield 19, 3) := by decide +kernel
theorem dX0_init_22 : decode cX0_init 22 = .ok (.aload_n 0, 1) := by decide +kernel
theorem dX0_init_23 : decode cX0_init 23 = .ok (.bipush 32, 2) := by decide +kernel
theorem dX0_init_25 : decode cX0_init 25 = .ok (.newarray .int, 2) := by decide +kernel
theorem dX0_init_27 : decode cX0_init 27 = .ok (.putfield 22, 3) := by decide +kernel
theorem dX0_init_30 : decode cX0_init 30 = .ok (.aload_n 0, 1) := by decide +kernel
theorem dX0_init_31 : decode cX0_init 31 = .ok (.bipush 32, 2) := by decide +kernel
theorem dX0_init_33 : decode cX0_init 33 = .ok (.newarray .int, 2) := by decide +kernel
theorem dX0_init_35 : decode cX0_init 35 = .ok (.putfield 25, 3) := by decide +kernel
theorem dX0_init_38 : decode cX0_init 38 = .ok (.return_, 1) := by decide +kernel
theorem dX2_init_0 : decode cX2_init 0 = .ok (.aload_n 0, 1) := by decide +kernel
theorem dX2_init_1 : decode cX2_init 1 = .ok (.invokespecial 3, 3) := by decide +kernel
theorem dX2_init_4 : decode cX2_init 4 = .ok (.aload_n 0, 1) := by decide +kernel
theorem dX2_init_5 : decode cX2_init 5 = .ok (.iconst 4, 1) := by decide +kernel
theorem dX2_init_6 : decode cX2_init 6 = .ok (.newarray .int, 2) := by decide +kernel
theorem dX2_init_8 : decode cX2_init 8 = .ok (.dup, 1) := by decide +kernel
theorem dX2_init_9 : decode cX2_init 9 = .ok (.iconst 0, 1) := by decide +kernel
theorem dX2_init_10 : decode cX2_init 10 = .ok (.bipush 8, 2) := by decide +kernel
theorem dX2_init_12 : decode cX2_init 12 = .ok (.iastore, 1) := by decide +kernel
theorem dX2_init_13 : decode cX2_init 13 = .ok (.dup, 1) := by decide +kernel
theorem dX2_init_14 : decode cX2_init 14 = .ok (.iconst 1, 1) := by decide +kernel
theorem dX2_init_15 : decode cX2_init 15 = .ok (.bipush 8, 2) := by decide +kernel
theorem dX2_init_17 : decode cX2_init 17 = .ok (.iastore, 1) := by decide +kernel
theorem dX2_init_18 : decode cX2_init 18 = .ok (.dup, 1) := by decide +kernel
theorem dX2_init_19 : decode cX2_init 19 = .ok (.iconst 2, 1) := by decide +kernel
theorem dX2_init_20 : decode cX2_init 20 = .ok (.bipush 8, 2) := by decide +kernel
theorem dX2_init_22 : decode cX2_init 22 = .ok (.iastore, 1) := by decide +kernel
theorem dX2_init_23 : decode cX2_init 23 = .ok (.dup, 1) := by decide +kernel
theorem dX2_init_24 : decode cX2_init 24 = .ok (.iconst 3, 1) := by decide +kernel
theorem dX2_init_25 : decode cX2_init 25 = .ok (.bipush 8, 2) := by decide +kernel
theorem dX2_init_27 : decode cX2_init 27 = .ok (.iastore, 1) := by decide +kernel
theorem dX2_init_28 : decode cX2_init 28 = .ok (.putfield 9, 3) := by decide +kernel
theorem dX2_init_31 : decode cX2_init 31 = .ok (.aload_n 0, 1) := by decide +kernel
theorem dX2_init_32 : decode cX2_init 32 = .ok (.iconst 0, 1) := by decide +kernel
theorem dX2_init_33 : decode cX2_init 33 = .ok (.putfield 15, 3) := by decide +kernel
theorem dX2_init_36 : decode cX2_init 36 = .ok (.aload_n 0, 1) := by decide +kernel
theorem dX2_init_37 : decode cX2_init 37 = .ok (.iconst 1, 1) := by decide +kernel
theorem dX2_init_38 : decode cX2_init 38 = .ok (.putfield 19, 3) := by decide +kernel
theorem dX2_init_41 : decode cX2_init 41 = .ok (.aload_n 0, 1) := by decide +kernel
theorem dX2_init_42 : decode cX2_init 42 = .ok (.iconst 4, 1) := by decide +kernel
theorem dX2_init_43 : decode cX2_init 43 = .ok (.newarray .int, 2) := by decide +kernel
theorem dX2_init_45 : decode cX2_init 45 = .ok (.putfield 22, 3) := by decide +kernel
theorem dX2_init_48 : decode cX2_init 48 = .ok (.return_, 1) := by decide +kernel
theorem dX3_init_0 : decode cX3_init 0 = .ok (.aload_n 0, 1) := by decide +kernel
theorem dX3_init_1 : decode cX3_init 1 = .ok (.invokespecial 3, 3) := by decide +kernel
theorem dX3_init_4 : decode cX3_init 4 = .ok (.aload_n 0, 1) := by decide +kernel
theorem dX3_init_5 : decode cX3_init 5 = .ok (.sipush 6561, 3) := by decide +kernel
theorem dX3_init_8 : decode cX3_init 8 = .ok (.newarray .int, 2) := by decide +kernel
theorem dX3_init_10 : decode cX3_init 10 = .ok (.putfield 9, 3) := by decide +kernel
theorem dX3_init_13 : decode cX3_init 13 = .ok (.aload_n 0, 1) := by decide +kernel
theorem dX3_init_14 : decode cX3_init 14 = .ok (.iconst 0, 1) := by decide +kernel
theorem dX3_init_15 : decode cX3_init 15 = .ok (.putfield 15, 3) := by decide +kernel
theorem dX3_init_18 : decode cX3_init 18 = .ok (.return_, 1) := by decide +kernel
theorem dX5_init_0 : decode cX5_init 0 = .ok (.aload_n 0, 1) := by decide +kernel
theorem dX5_init_1 : decode cX5_init 1 = .ok (.invokespecial 3, 3) := by decide +kernel
theorem dX5_init_4 : decode cX5_init 4 = .ok (.aload_n 0, 1) := by decide +kernel
theorem dX5_init_5 : decode cX5_init 5 = .ok (.bipush 8, 2) := by decide +kernel
theorem dX5_init_7 : decode cX5_init 7 = .ok (.newarray .int, 2) := by decide +kernel
theorem dX5_init_9 : decode cX5_init 9 = .ok (.putfield 9, 3) := by decide +kernel
theorem dX5_init_12 : decode cX5_init 12 = .ok (.aload_n 0, 1) := by decide +kernel
theorem dX5_init_13 : decode cX5_init 13 = .ok (.bipush 8, 2) := by decide +kernel
theorem dX5_init_15 : decode cX5_init 15 = .ok (.newarray .int, 2) := by decide +kernel
theorem dX5_init_17 : decode cX5_init 17 = .ok (.putfield 15, 3) := by decide +kernel
theorem dX5_init_20 : decode cX5_init 20 = .ok (.aload_n 0, 1) := by decide +kernel
theorem dX5_init_21 : decode cX5_init 21 = .ok (.bipush 8, 2) := by decide +kernel
theorem dX5_init_23 : decode cX5_init 23 = .ok (.newarray .int, 2) := by decide +kernel
theorem dX5_init_25 : decode cX5_init 25 = .ok (.putfield 18, 3) := by decide +kernel
theorem dX5_init_28 : decode cX5_init 28 = .ok (.aload_n 0, 1) := by decide +kernel
theorem dX5_init_29 : decode cX5_init 29 = .ok (.bipush 8, 2) := by decide +kernel
theorem dX5_init_31 : decode cX5_init 31 = .ok (.newarray .int, 2) := by decide +kernel
theorem dX5_init_33 : decode cX5_init 33 = .ok (.putfield 21, 3) := by decide +kernel
theorem dX5_init_36 : decode cX5_init 36 = .ok (.aload_n 0, 1) := by decide +kernel
theorem dX5_init_37 : decode cX5_init 37 = .ok (.bipush 8, 2) := by decide +kernel
theorem dX5_init_39 : decode cX5_init 39 = .ok (.newarray .int, 2) := by decide +kernel
theorem dX5_init_41 : decode cX5_init 41 = .ok (.putfield 24, 3) := by decide +kernel
theorem dX5_init_44 : decode cX5_init 44 = .ok (.aload_n 0, 1) := by decide +kernel
theorem dX5_init_45 : decode cX5_init 45 = .ok (.bipush 8, 2) := by decide +kernel
theorem dX5_init_47 : decode cX5_init 47 = .ok (.anewarray 27, 3) := by decide +kernel
theorem dX5_init_50 : decode cX5_init 50 = .ok (.putfield 29, 3) := by decide +kernel
theorem dX5_init_53 : decode cX5_init 53 = .ok (.aload_n 0, 1) := by decide +kernel
theorem dX5_init_54 : decode cX5_init 54 = .ok (.sipush 8192, 3) := by decide +kernel
theorem dX5_init_57 : decode cX5_init 57 = .ok (.newarray .byte, 2) := by decide +kernel
theorem dX5_init_59 : decode cX5_init 59 = .ok (.putfield 33, 3) := by decide +kernel
theorem dX5_init_62 : decode cX5_init 62 = .ok (.aload_n 0, 1) := by decide +kernel
theorem dX5_init_63 : decode cX5_init 63 = .ok (.bipush 6, 2) := by decide +kernel
theorem dX5_init_65 : decode cX5_init 65 = .ok (.newarray .int, 2) := by decide +kernel
theorem dX5_init_67 : decode cX5_init 67 = .ok (.putfield 37, 3) := by decide +kernel
theorem dX5_init_70 : decode cX5_init 70 = .ok (.aload_n 0, 1) := by decide +kernel
theorem dX5_init_71 : decode cX5_init 71 = .ok (.iconst 2, 1) := by decide +kernel
theorem dX5_init_72 : decode cX5_init 72 = .ok (.iconst 2, 1) := by decide +kernel
theorem dX5_init_73 : decode cX5_init 73 = .ok (.invokevirtual 40, 3) := by decide +kernel
theorem dX5_init_76 : decode cX5_init 76 = .ok (.return_, 1) := by decide +kernel
theorem dX6_init_0 : decode cX6_init 0 = .ok (.aload_n 0, 1) := by decide +kernel
theorem dX6_init_1 : decode cX6_init 1 = .ok (.invokespecial 3, 3) := by decide +kernel
theorem dX6_init_4 : decode cX6_init 4 = .ok (.aload_n 0, 1) := by decide +kernel
theorem dX6_init_5 : decode cX6_init 5 = .ok (.iconst 0, 1) := by decide +kernel
theorem dX6_init_6 : decode cX6_init 6 = .ok (.putfield 9, 3) := by decide +kernel
theorem dX6_init_9 : decode cX6_init 9 = .ok (.aload_n 0, 1) := by decide +kernel
theorem dX6_init_10 : decode cX6_init 10 = .ok (.iconst (-1), 1) := by decide +kernel
theorem dX6_init_11 : decode cX6_init 11 = .ok (.putfield 15, 3) := by decide +kernel
theorem dX6_init_14 : decode cX6_init 14 = .ok (.aload_n 0, 1) := by decide +kernel
theorem dX6_init_15 : decode cX6_init 15 = .ok (.bipush 8, 2) := by decide +kernel
theorem dX6_init_17 : decode cX6_init 17 = .ok (.anewarray 18, 3) := by decide +kernel
theorem dX6_init_20 : decode cX6_init 20 = .ok (.putfield 20, 3) := by decide +kernel
theorem dX6_init_23 : decode cX6_init 23 = .ok (.aload_n 0, 1) := by decide +kernel
theorem dX6_init_24 : decode cX6_init 24 = .ok (.iconst 0, 1) := by decide +kernel
theorem dX6_init_25 : decode cX6_init 25 = .ok (.newarray .int, 2) := by decide +kernel
theorem dX6_init_27 : decode cX6_init 27 = .ok (.putfield 24, 3) := by decide +kernel
theorem dX6_init_30 : decode cX6_init 30 = .ok (.aload_n 0, 1) := by decide +kernel
theorem dX6_init_31 : decode cX6_init 31 = .ok (.iconst 0, 1) := by decide +kernel
theorem dX6_init_32 : decode cX6_init 32 = .ok (.putfield 28, 3) := by decide +kernel
theorem dX6_init_35 : decode cX6_init 35 = .ok (.aload_n 0, 1) := by decide +kernel
theorem dX6_init_36 : decode cX6_init 36 = .ok (.iconst 0, 1) := by decide +kernel
theorem dX6_init_37 : decode cX6_init 37 = .ok (.putfield 31, 3) := by decide +kernel
theorem dX6_init_40 : decode cX6_init 40 = .ok (.aload_n 0, 1) := by decide +kernel
theorem dX6_init_41 : decode cX6_init 41 = .ok (.iconst 0, 1) := by decide +kernel
theorem dX6_init_42 : decode cX6_init 42 = .ok (.putfield 34, 3) := by decide +kernel
theorem dX6_init_45 : decode cX6_init 45 = .ok (.aload_n 0, 1) := by decide +kernel
theorem dX6_init_46 : decode cX6_init 46 = .ok (.iconst 0, 1) := by decide +kernel
theorem dX6_init_47 : decode cX6_init 47 = .ok (.putfield 37, 3) := by decide +kernel
theorem dX6_init_50 : decode cX6_init 50 = .ok (.aload_n 0, 1) := by decide +kernel
theorem dX6_init_51 : decode cX6_init 51 = .ok (.sipush 128, 3) := by decide +kernel
theorem dX6_init_54 : decode cX6_init 54 = .ok (.putfield 40, 3) := by decide +kernel
theorem dX6_init_57 : decode cX6_init 57 = .ok (.aload_n 0, 1) := by decide +kernel
theorem dX6_init_58 : decode cX6_init 58 = .ok (.iconst 0, 1) := by decide +kernel
theorem dX6_init_59 : decode cX6_init 59 = .ok (.putfield 43, 3) := by decide +kernel
theorem dX6_init_62 : decode cX6_init 62 = .ok (.aload_n 0, 1) := by decide +kernel
theorem dX6_init_63 : decode cX6_init 63 = .ok (.sipush 500, 3) := by decide +kernel
theorem dX6_init_66 : decode cX6_init 66 = .ok (.newarray .int, 2) := by decide +kernel
theorem dX6_init_68 : decode cX6_init 68 = .ok (.putfield 46, 3) := by decide +kernel
theorem dX6_init_71 : decode cX6_init 71 = .ok (.aload_n 0, 1) := by decide +kernel
theorem dX6_init_72 : decode cX6_init 72 = .ok (.sipush 500, 3) := by decide +kernel
theorem dX6_init_75 : decode cX6_init 75 = .ok (.newarray .int, 2) := by decide +kernel
theorem dX6_init_77 : decode cX6_init 77 = .ok (.putfield 49, 3) := by decide +kernel
theorem dX6_init_80 : decode cX6_init 80 = .ok (.aload_n 0, 1) := by decide +kernel
theorem dX6_init_81 : decode cX6_init 81 = .ok (.sipush 500, 3) := by decide +kernel
theorem dX6_init_84 : decode cX6_init 84 = .ok (.newarray .int, 2) := by decide +kernel
theorem dX6_init_86 : decode cX6_init 86 = .ok (.putfield 52, 3) := by decide +kernel
theorem dX6_init_89 : decode cX6_init 89 = .ok (.aload_n 0, 1) := by decide +kernel
theorem dX6_init_90 : decode cX6_init 90 = .ok (.iconst 0, 1) := by decide +kernel
theorem dX6_init_91 : decode cX6_init 91 = .ok (.putfield 55, 3) := by decide +kernel
theorem dX6_init_94 : decode cX6_init 94 = .ok (.return_, 1) := by decide +kernel
theorem dX7_init_0 : decode cX7_init 0 = .ok (.aload_n 0, 1) := by decide +kernel
theorem dX7_init_1 : decode cX7_init 1 = .ok (.invokespecial 3, 3) := by decide +kernel
theorem dX7_init_4 : decode cX7_init 4 = .ok (.aload_n 0, 1) := by decide +kernel
theorem dX7_init_5 : decode cX7_init 5 = .ok (.bipush 8, 2) := by decide +kernel
theorem dX7_init_7 : decode cX7_init 7 = .ok (.newarray .int, 2) := by decide +kernel
theorem dX7_init_9 : decode cX7_init 9 = .ok (.putfield 9, 3) := by decide +kernel
theorem dX7_init_12 : decode cX7_init 12 = .ok (.aload_n 0, 1) := by decide +kernel
theorem dX7_init_13 : decode cX7_init 13 = .ok (.bipush 8, 2) := by decide +kernel
theorem dX7_init_15 : decode cX7_init 15 = .ok (.newarray .int, 2) := by decide +kernel
theorem dX7_init_17 : decode cX7_init 17 = .ok (.putfield 15, 3) := by decide +kernel
theorem dX7_init_20 : decode cX7_init 20 = .ok (.return_, 1) := by decide +kernel
theorem dX8_init_0 : decode cX8_init 0 = .ok (.aload_n 0, 1) := by decide +kernel
theorem dX8_init_1 : decode cX8_init 1 = .ok (.invokespecial 3, 3) := by decide +kernel
theorem dX8_init_4 : decode cX8_init 4 = .ok (.aload_n 0, 1) := by decide +kernel
theorem dX8_init_5 : decode cX8_init 5 = .ok (.iconst (-1), 1) := by decide +kernel
theorem dX8_init_6 : decode cX8_init 6 = .ok (.putfield 9, 3) := by decide +kernel
theorem dX8_init_9 : decode cX8_init 9 = .ok (.aload_n 0, 1) := by decide +kernel
theorem dX8_init_10 : decode cX8_init 10 = .ok (.sipush 8192, 3) := by decide +kernel
theorem dX8_init_13 : decode cX8_init 13 = .ok (.newarray .byte, 2) := by decide +kernel
theorem dX8_init_15 : decode cX8_init 15 = .ok (.putfield 15, 3) := by decide +kernel
theorem dX8_init_18 : decode cX8_init 18 = .ok (.aload_n 0, 1) := by decide +kernel
theorem dX8_init_19 : decode cX8_init 19 = .ok (.sipush 5000, 3) := by decide +kernel
theorem dX8_init_22 : decode cX8_init 22 = .ok (.newarray .short, 2) := by decide +kernel
theorem dX8_init_24 : decode cX8_init 24 = .ok (.putfield 19, 3) := by decide +kernel
theorem dX8_init_27 : decode cX8_init 27 = .ok (.aload_n 0, 1) := by decide +kernel
theorem dX8_init_28 : decode cX8_init 28 = .ok (.sipush 5000, 3) := by decide +kernel
theorem dX8_init_31 : decode cX8_init 31 = .ok (.newarray .byte, 2) := by decide +kernel
theorem dX8_init_33 : decode cX8_init 33 = .ok (.putfield 23, 3) := by decide +kernel
theorem dX8_init_36 : decode cX8_init 36 = .ok (.return_, 1) := by decide +kernel
theorem dX9_init_0 : decode cX9_init 0 = .ok (.aload_n 0, 1) := by decide +kernel
theorem dX9_init_1 : decode cX9_init 1 = .ok (.invokespecial 3, 3) := by decide +kernel
theorem dX9_init_4 : decode cX9_init 4 = .ok (.aload_n 0, 1) := by decide +kernel
theorem dX9_init_5 : decode cX9_init 5 = .ok (.bipush 8, 2) := by decide +kernel
theorem dX9_init_7 : decode cX9_init 7 = .ok (.newarray .int, 2) := by decide +kernel
theorem dX9_init_9 : decode cX9_init 9 = .ok (.putfield 9, 3) := by decide +kernel
theorem dX9_init_12 : decode cX9_init 12 = .ok (.aload_n 0, 1) := by decide +kernel
theorem dX9_init_13 : decode cX9_init 13 = .ok (.iconst 0, 1) := by decide +kernel
theorem dX9_init_14 : decode cX9_init 14 = .ok (.putfield 15, 3) := by decide +kernel
theorem dX9_init_17 : decode cX9_init 17 = .ok (.aload_n 0, 1) := by decide +kernel
theorem dX9_init_18 : decode cX9_init 18 = .ok (.bipush 8, 2) := by decide +kernel
theorem dX9_init_20 : decode cX9_init 20 = .ok (.newarray .int, 2) := by decide +kernel
theorem dX9_init_22 : decode cX9_init 22 = .ok (.putfield 19, 3) := by decide +kernel
theorem dX9_init_25 : decode cX9_init 25 = .ok (.aload_n 0, 1) := by decide +kernel
theorem dX9_init_26 : decode cX9_init 26 = .ok (.sipush 256, 3) := by decide +kernel
theorem dX9_init_29 : decode cX9_init 29 = .ok (.newarray .int, 2) := by decide +kernel
theorem dX9_init_31 : decode cX9_init 31 = .ok (.putfield 22, 3) := by decide +kernel
theorem dX9_init_34 : decode cX9_init 34 = .ok (.aload_n 0, 1) := by decide +kernel
theorem dX9_init_35 : decode cX9_init 35 = .ok (.bipush 9, 2) := by decide +kernel
theorem dX9_init_37 : decode cX9_init 37 = .ok (.newarray .boolean, 2) := by decide +kernel
theorem dX9_init_39 : decode cX9_init 39 = .ok (.putfield 25, 3) := by decide +kernel
theorem dX9_init_42 : decode cX9_init 42 = .ok (.return_, 1) := by decide +kernel
theorem dX4_init_0 : decode cX4_init 0 = .ok (.aload_n 0, 1) := by decide +kernel
theorem dX4_init_1 : decode cX4_init 1 = .ok (.invokespecial 3, 3) := by decide +kernel
theorem dX4_init_4 : decode cX4_init 4 = .ok (.aload_n 0, 1) := by decide +kernel
theorem dX4_init_5 : decode cX4_init 5 = .ok (.sipush 1280, 3) := by decide +kernel
theorem dX4_init_8 : decode cX4_init 8 = .ok (.newarray .int, 2) := by decide +kernel
theorem dX4_init_10 : decode cX4_init 10 = .ok (.putfield 11, 3) := by decide +kernel
theorem dX4_init_13 : decode cX4_init 13 = .ok (.aload_n 0, 1) := by decide +kernel
theorem dX4_init_14 : decode cX4_init 14 = .ok (.new 15, 3) := by decide +kernel
theorem dX4_init_17 : decode cX4_init 17 = .ok (.dup, 1) := by decide +kernel
theorem dX4_init_18 : decode cX4_init 18 = .ok (.invokespecial 17, 3) := by decide +kernel
theorem dX4_init_21 : decode cX4_init 21 = .ok (.putfield 18, 3) := by decide +kernel
theorem dX4_init_24 : decode cX4_init 24 = .ok (.aload_n 0, 1) := by decide +kernel
theorem dX4_init_25 : decode cX4_init 25 = .ok (.new 15, 3) := by decide +kernel
theorem dX4_init_28 : decode cX4_init 28 = .ok (.dup, 1) := by decide +kernel
theorem dX4_init_29 : decode cX4_init 29 = .ok (.invokespecial 17, 3) := by decide +kernel
theorem dX4_init_32 : decode cX4_init 32 = .ok (.putfield 22, 3) := by decide +kernel
theorem dX4_init_35 : decode cX4_init 35 = .ok (.return_, 1) := by decide +kernel
theorem dX10_keep_0 : decode cX10_keep 0 = .ok (.iload_n 1, 1) := by decide +kernel
theorem dX10_keep_1 : decode cX10_keep 1 = .ok (.ifCond .lt 8, 3) := by decide +kernel
theorem dX10_keep_4 : decode cX10_keep 4 = .ok (.iload_n 1, 1) := by decide +kernel
theorem dX10_keep_5 : decode cX10_keep 5 = .ok (.iconst 4, 1) := by decide +kernel
theorem dX10_keep_6 : decode cX10_keep 6 = .ok (.if_icmp .lt 5, 3) := by decide +kernel
theorem dX10_keep_9 : decode cX10_keep 9 = .ok (.iconst 0, 1) := by decide +kernel
theorem dX10_keep_10 : decode cX10_keep 10 = .ok (.ireturn, 1) := by decide +kernel
theorem dX10_keep_11 : decode cX10_keep 11 = .ok (.aload_n 0, 1) := by decide +kernel
theorem dX10_keep_12 : decode cX10_keep 12 = .ok (.getfield 19, 3) := by decide +kernel
theorem dX10_keep_15 : decode cX10_keep 15 = .ok (.iload_n 1, 1) := by decide +kernel
theorem dX10_keep_16 : decode cX10_keep 16 = .ok (.aaload, 1) := by decide +kernel
theorem dX10_keep_17 : decode cX10_keep 17 = .ok (.ifnonnull 16, 3) := by decide +kernel
theorem dX10_keep_20 : decode cX10_keep 20 = .ok (.aload_n 0, 1) := by decide +kernel
theorem dX10_keep_21 : decode cX10_keep 21 = .ok (.getfield 19, 3) := by decide +kernel
theorem dX10_keep_24 : decode cX10_keep 24 = .ok (.iload_n 1, 1) := by decide +kernel
theorem dX10_keep_25 : decode cX10_keep 25 = .ok (.new 7, 3) := by decide +kernel
theorem dX10_keep_28 : decode cX10_keep 28 = .ok (.dup, 1) := by decide +kernel
theorem dX10_keep_29 : decode cX10_keep 29 = .ok (.invokespecial 9, 3) := by decide +kernel
theorem dX10_keep_32 : decode cX10_keep 32 = .ok (.aastore, 1) := by decide +kernel
theorem dX10_keep_33 : decode cX10_keep 33 = .ok (.aload_n 0, 1) := by decide +kernel
theorem dX10_keep_34 : decode cX10_keep 34 = .ok (.getfield 19, 3) := by decide +kernel
theorem dX10_keep_37 : decode cX10_keep 37 = .ok (.iload_n 1, 1) := by decide +kernel
theorem dX10_keep_38 : decode cX10_keep 38 = .ok (.aaload, 1) := by decide +kernel
theorem dX10_keep_39 : decode cX10_keep 39 = .ok (.aload_n 0, 1) := by decide +kernel
theorem dX10_keep_40 : decode cX10_keep 40 = .ok (.getfield 10, 3) := by decide +kernel
theorem dX10_keep_43 : decode cX10_keep 43 = .ok (.invokevirtual 283, 3) := by decide +kernel
theorem dX10_keep_46 : decode cX10_keep 46 = .ok (.iconst 1, 1) := by decide +kernel
theorem dX10_keep_47 : decode cX10_keep 47 = .ok (.ireturn, 1) := by decide +kernel
section
variable {p : Program} {l : Launch} {e : Env} {R : Room} {s : State} {m : MethodId} {args : Array Value} {below : List Frame} {meth : Method} {c : Code} {D : va_G} {cA : Nat → ClassId} {z : Nat} {A : Nat → Prop} {J : HJ}
theorem cCov_init {l : Launch} {D : va_G} {cA : Nat → ClassId} {z sz : Nat} {I : HI} {T : HR} {F : HR} {L : HL} {r0 : Nat} {Q : HI → HR → HR → HL → Prop} (hs0 : (r0, 7, 0) ∈ L) (hsz0 : sz = z + (r0 + 1)) (h : Cov_init I T F L r0 Q) : Met l yX0_init (hws0 yX0_init cX0_init 1 none) { frames := 1, cells := 3, slots := 71, locals := 100 } (hPc D cA z EvC (I, J, T, F, L) sz [.ref (z + r0)]) (va_Qv (pBv J Q) (hB D cA z (hA z L sz)) (hA z L sz)) 3 71 (hA z L sz) := by
  refine hm_met (I, J, T, F, L) [.ref (z + r0)] rfl (by decide) (Nat.le_of_ble_eq_true rfl) ?_
  intro p e s m below meth c ls X hr hlk hnm hxt hsz hw hl
  have hl : lv_has ls 1 [(0, .ref (z + r0))] := hl
  have hnm : meth.name = "<init>" := hnm
  have hR : 1 ≤ ({ frames := 1, cells := 3, slots := 71, locals := 100 } : Room).frames ∧ 100 ≤ ({ frames := 1, cells := 3, slots := 71, locals := 100 } : Room).locals := ⟨Nat.le_refl _, Nat.le_refl _⟩
  have hRc : 3 ≤ ({ frames := 1, cells := 3, slots := 71, locals := 100 } : Room).cells ∧ 71 ≤ ({ frames := 1, cells := 3, slots := 71, locals := 100 } : Room).slots := ⟨Nat.le_refl _, Nat.le_refl _⟩
  generalize ({ frames := 1, cells := 3, slots := 71, locals := 100 } : Room) = R at hR hRc ⊢
  have hsz1 : s.heap.size = z + (r0 + 1) := hsz.trans hsz0
  clear hsz hsz0
  generalize (hA z L sz) = A at hw ⊢
  have hx := X.1
  have hb := X.2.1
  unfold Cov_init at h
  refine lv_aload_n hx hb dX0_init_0 rfl (lv_at hl 0 rfl) ?_
  refine hm_obj X kw396 hl.1 ⟨Nat.le_trans (Nat.le_of_ble_eq_true rfl) hR.1, Nat.le_trans (Nat.le_of_ble_eq_true rfl) hR.2⟩ dX0_init_1 ?_
  refine lv_aload_n hx hb dX0_init_4 rfl (lv_at hl 0 rfl) ?_
  refine lv_iconst (v := 0) hx hb dX0_init_5 (by decide) ?_
  refine hm_puti X hw lk_0_9 hs0 rfl rfl dX0_init_6 (fun H locs hw => ?_)
  refine lv_aload_n hx hb dX0_init_9 rfl (lv_at hl 0 rfl) ?_
  refine lv_bipush (v := 7) hx hb dX0_init_10 (by decide) ?_
  refine hm_szK (n0 := r0 + 1) (N := r0) (q := r0 + 1) (hW_lt hw _ hs0) hsz1 rfl rfl (fun ehq1 => ?_)
  refine hm_newa0 (N := 7) X hw ehq1 (by decide) (by decide) (by decide) (Nat.le_trans (Nat.le_of_ble_eq_true rfl) hRc.1) (Nat.le_trans (Nat.le_of_ble_eq_true rfl) hRc.2) dX0_init_12 (fun H hsz hw => ?_)
  have hs0 := List.mem_append_left [(r0 + 1, 0, 7)] hs0
  have ehs2 := mem_last L ((r0 + 1, 0, 7))
  refine hm_putr X hw lk_0_15 (fun _ => ⟨hnm, TX0, 5, rfl, rfl⟩) hs0 rfl rfl dX0_init_14 (fun H locs hw => ?_)
  refine lv_aload_n hx hb dX0_init_17 rfl (lv_at hl 0 rfl) ?_
  refine lv_iconst (v := 0) hx hb dX0_init_18 (by decide) ?_
  refine hm_puti X hw lk_0_19 hs0 rfl rfl dX0_init_19 (fun H locs hw => ?_)
  refine lv_aload_n hx hb dX0_init_22 rfl (lv_at hl 0 rfl) ?_
  refine lv_bipush (v := 32) hx hb dX0_init_23 (by decide) ?_
  refine hm_szK (n0 := r0 + 1) (N := r0 + 1) (q := r0 + 2) (hW_lt hw _ ehs2) hsz1 rfl rfl (fun ehq3 => ?_)
  refine hm_newa0 (N := 32) X hw ehq3 (by decide) (by decide) (by decide) (Nat.le_trans (Nat.le_of_ble_eq_true rfl) hRc.1) (Nat.le_trans (Nat.le_of_ble_eq_true rfl) hRc.2) dX0_init_25 (fun H hsz hw => ?_)
  have hs0 := List.mem_append_left [(r0 + 2, 0, 32)] hs0
  have ehs2 := List.mem_append_left [(r0 + 2, 0, 32)] ehs2
  have ehs4 := mem_last (L ++ [(r0 + 1, 0, 7)]) ((r0 + 2, 0, 32))
  refine hm_putr X hw lk_0_22 (fun _ => ⟨hnm, TX0, 5, rfl, rfl⟩) hs0 rfl rfl dX0_init_27 (fun H locs hw => ?_)
  refine lv_aload_n hx hb dX0_init_30 rfl (lv_at hl 0 rfl) ?_
  refine lv_bipush (v := 32) hx hb dX0_init_31 (by decide) ?_
  refine hm_szK (n0 := r0 + 1) (N := r0 + 2) (q := r0 + 3) (hW_lt hw _ ehs4) hsz1 rfl rfl (fun ehq5 => ?_)
  refine hm_newa0 (N := 32) X hw ehq5 (by decide) (by decide) (by decide) (Nat.le_trans (Nat.le_of_ble_eq_true rfl) hRc.1) (Nat.le_trans (Nat.le_of_ble_eq_true rfl) hRc.2) dX0_init_33 (fun H hsz hw => ?_)
  have hs0 := List.mem_append_left [(r0 + 3, 0, 32)] hs0
  have ehs2 := List.mem_append_left [(r0 + 3, 0, 32)] ehs2
  have ehs4 := List.mem_append_left [(r0 + 3, 0, 32)] ehs4
  have ehs6 := mem_last ((L ++ [(r0 + 1, 0, 7)]) ++ [(r0 + 2, 0, 32)]) ((r0 + 3, 0, 32))
  refine hm_putr X hw lk_0_25 (fun _ => ⟨hnm, TX0, 5, rfl, rfl⟩) hs0 rfl rfl dX0_init_35 (fun H locs hw => ?_)
  exact hm_vret X hr hlk hw ⟨_, _, _, _, rfl, h⟩ dX0_init_38

theorem cJud_init {l : Launch} {D : va_G} {cA : Nat → ClassId} {z sz : Nat} {I : HI} {T : HR} {F : HR} {L : HL} {r0 : Nat} {Q : HI → HR → HR → HL → Prop} (hs0 : (r0, 9, 0) ∈ L) (hsz0 : sz = z + (r0 + 1)) (h : Jud_init I T F L r0 Q) : Met l yX2_init (hws0 yX2_init cX2_init 1 none) { frames := 1, cells := 2, slots := 8, locals := 100 } (hPc D cA z EvC (I, J, T, F, L) sz [.ref (z + r0)]) (va_Qv (pBv J Q) (hB D cA z (hA z L sz)) (hA z L sz)) 2 8 (hA z L sz) := by
  refine hm_met (I, J, T, F, L) [.ref (z + r0)] rfl (by decide) (Nat.le_of_ble_eq_true rfl) ?_
  intro p e s m below meth c ls X hr hlk hnm hxt hsz hw hl
  have hl : lv_has ls 1 [(0, .ref (z + r0))] := hl
  have hnm : meth.name = "<init>" := hnm
  have hR : 1 ≤ ({ frames := 1, cells := 2, slots := 8, locals := 100 } : Room).frames ∧ 100 ≤ ({ frames := 1, cells := 2, slots := 8, locals := 100 } : Room).locals := ⟨Nat.le_refl _, Nat.le_refl _⟩
  have hRc : 2 ≤ ({ frames := 1, cells := 2, slots := 8, locals := 100 } : Room).cells ∧ 8 ≤ ({ frames := 1, cells := 2, slots := 8, locals := 100 } : Room).slots := ⟨Nat.le_refl _, Nat.le_refl _⟩
  generalize ({ frames := 1, cells := 2, slots := 8, locals := 100 } : Room) = R at hR hRc ⊢
  have hsz1 : s.heap.size = z + (r0 + 1) := hsz.trans hsz0
  clear hsz hsz0
  generalize (hA z L sz) = A at hw ⊢
  have hx := X.1
  have hb := X.2.1
  unfold Jud_init at h
  refine lv_aload_n hx hb dX2_init_0 rfl (lv_at hl 0 rfl) ?_
  refine hm_obj X kw262 hl.1 ⟨Nat.le_trans (Nat.le_of_ble_eq_true rfl) hR.1, Nat.le_trans (Nat.le_of_ble_eq_true rfl) hR.2⟩ dX2_init_1 ?_
  refine lv_aload_n hx hb dX2_init_4 rfl (lv_at hl 0 rfl) ?_
  refine lv_iconst (v := 4) hx hb dX2_init_5 (by decide) ?_
  refine hm_szK (n0 := r0 + 1) (N := r0) (q := r0 + 1) (hW_lt hw _ hs0) hsz1 rfl rfl (fun ehq1 => ?_)
  refine hm_newa0 (N := 4) X hw ehq1 (by decide) (by decide) (by decide) (Nat.le_trans (Nat.le_of_ble_eq_true rfl) hRc.1) (Nat.le_trans (Nat.le_of_ble_eq_true rfl) hRc.2) dX2_init_6 (fun H hsz hw => ?_)
  have hs0 := List.mem_append_left [(r0 + 1, 0, 4)] hs0
  have ehs2 := mem_last L ((r0 + 1, 0, 4))
  refine lv_dup hx hb dX2_init_8 rfl ?_
  refine lv_iconst (v := 0) hx hb dX2_init_9 (by decide) ?_
  refine lv_bipush (v := 8) hx hb dX2_init_10 (by decide) ?_
  refine hm_iast X hw ehs2 (by unfold vp_in; decide) dX2_init_12 (fun H locs hw => ?_)
  refine lv_dup hx hb dX2_init_13 rfl ?_
  refine lv_iconst (v := 1) hx hb dX2_init_14 (by decide) ?_
  refine lv_bipush (v := 8) hx hb dX2_init_15 (by decide) ?_
  refine hm_iast X hw ehs2 (by unfold vp_in; decide) dX2_init_17 (fun H locs hw => ?_)
  refine lv_dup hx hb dX2_init_18 rfl ?_
  refine lv_iconst (v := 2) hx hb dX2_init_19 (by decide) ?_
  refine lv_bipush (v := 8) hx hb dX2_init_20 (by decide) ?_
  refine hm_iast X hw ehs2 (by unfold vp_in; decide) dX2_init_22 (fun H locs hw => ?_)
  refine lv_dup hx hb dX2_init_23 rfl ?_
  refine lv_iconst (v := 3) hx hb dX2_init_24 (by decide) ?_
  refine lv_bipush (v := 8) hx hb dX2_init_25 (by decide) ?_
  refine hm_iast X hw ehs2 (by unfold vp_in; decide) dX2_init_27 (fun H locs hw => ?_)
  refine hm_putr X hw lk_2_9 (fun _ => ⟨hnm, TX2, 4, rfl, rfl⟩) hs0 rfl rfl dX2_init_28 (fun H locs hw => ?_)
  refine lv_aload_n hx hb dX2_init_31 rfl (lv_at hl 0 rfl) ?_
  refine lv_iconst (v := 0) hx hb dX2_init_32 (by decide) ?_
  refine hm_puti X hw lk_2_15 hs0 rfl rfl dX2_init_33 (fun H locs hw => ?_)
  refine lv_aload_n hx hb dX2_init_36 rfl (lv_at hl 0 rfl) ?_
  refine lv_iconst (v := 1) hx hb dX2_init_37 (by decide) ?_
  refine hm_puti X hw lk_2_19 hs0 rfl rfl dX2_init_38 (fun H locs hw => ?_)
  refine lv_aload_n hx hb dX2_init_41 rfl (lv_at hl 0 rfl) ?_
  refine lv_iconst (v := 4) hx hb dX2_init_42 (by decide) ?_
  refine hm_szK (n0 := r0 + 1) (N := r0 + 1) (q := r0 + 2) (hW_lt hw _ ehs2) hsz1 rfl rfl (fun ehq3 => ?_)
  refine hm_newa0 (N := 4) X hw ehq3 (by decide) (by decide) (by decide) (Nat.le_trans (Nat.le_of_ble_eq_true rfl) hRc.1) (Nat.le_trans (Nat.le_of_ble_eq_true rfl) hRc.2) dX2_init_43 (fun H hsz hw => ?_)
  have hs0 := List.mem_append_left [(r0 + 2, 0, 4)] hs0
  have ehs2 := List.mem_append_left [(r0 + 2, 0, 4)] ehs2
  have ehs4 := mem_last (L ++ [(r0 + 1, 0, 4)]) ((r0 + 2, 0, 4))
  refine hm_putr X hw lk_2_22 (fun _ => ⟨hnm, TX2, 4, rfl, rfl⟩) hs0 rfl rfl dX2_init_45 (fun H locs hw => ?_)
  exact hm_vret X hr hlk hw ⟨_, _, _, _, rfl, h⟩ dX2_init_48

theorem cLed_init {l : Launch} {D : va_G} {cA : Nat → ClassId} {z sz : Nat} {I : HI} {T : HR} {F : HR} {L : HL} {r0 : Nat} {Q : HI → HR → HR → HL → Prop} (hs0 : (r0, 10, 0) ∈ L) (hsz0 : sz = z + (r0 + 1)) (h : Led_init I T F L r0 Q) : Met l yX3_init (hws0 yX3_init cX3_init 1 none) { frames := 1, cells := 1, slots := 6561, locals := 100 } (hPc D cA z EvC (I, J, T, F, L) sz [.ref (z + r0)]) (va_Qv (pBv J Q) (hB D cA z (hA z L sz)) (hA z L sz)) 1 6561 (hA z L sz) := by
  refine hm_met (I, J, T, F, L) [.ref (z + r0)] rfl (by decide) (Nat.le_of_ble_eq_true rfl) ?_
  intro p e s m below meth c ls X hr hlk hnm hxt hsz hw hl
  have hl : lv_has ls 1 [(0, .ref (z + r0))] := hl
  have hnm : meth.name = "<init>" := hnm
  have hR : 1 ≤ ({ frames := 1, cells := 1, slots := 6561, locals := 100 } : Room).frames ∧ 100 ≤ ({ frames := 1, cells := 1, slots := 6561, locals := 100 } : Room).locals := ⟨Nat.le_refl _, Nat.le_refl _⟩
  have hRc : 1 ≤ ({ frames := 1, cells := 1, slots := 6561, locals := 100 } : Room).cells ∧ 6561 ≤ ({ frames := 1, cells := 1, slots := 6561, locals := 100 } : Room).slots := ⟨Nat.le_refl _, Nat.le_refl _⟩
  generalize ({ frames := 1, cells := 1, slots := 6561, locals := 100 } : Room) = R at hR hRc ⊢
  have hsz1 : s.heap.size = z + (r0 + 1) := hsz.trans hsz0
  clear hsz hsz0
  generalize (hA z L sz) = A at hw ⊢
  have hx := X.1
  have hb := X.2.1
  unfold Led_init at h
  refine lv_aload_n hx hb dX3_init_0 rfl (lv_at hl 0 rfl) ?_
  refine hm_obj X kw284 hl.1 ⟨Nat.le_trans (Nat.le_of_ble_eq_true rfl) hR.1, Nat.le_trans (Nat.le_of_ble_eq_true rfl) hR.2⟩ dX3_init_1 ?_
  refine lv_aload_n hx hb dX3_init_4 rfl (lv_at hl 0 rfl) ?_
  refine lv_sipush (v := 6561) hx hb dX3_init_5 (by decide) ?_
  refine hm_szK (n0 := r0 + 1) (N := r0) (q := r0 + 1) (hW_lt hw _ hs0) hsz1 rfl rfl (fun ehq1 => ?_)
  refine hm_newa0 (N := 6561) X hw ehq1 (by decide) (by decide) (by decide) (Nat.le_trans (Nat.le_of_ble_eq_true rfl) hRc.1) (Nat.le_trans (Nat.le_of_ble_eq_true rfl) hRc.2) dX3_init_8 (fun H hsz hw => ?_)
  have hs0 := List.mem_append_left [(r0 + 1, 0, 6561)] hs0
  have ehs2 := mem_last L ((r0 + 1, 0, 6561))
  refine hm_putr X hw lk_3_9 (fun _ => ⟨hnm, TX3, 2, rfl, rfl⟩) hs0 rfl rfl dX3_init_10 (fun H locs hw => ?_)
  refine lv_aload_n hx hb dX3_init_13 rfl (lv_at hl 0 rfl) ?_
  refine lv_iconst (v := 0) hx hb dX3_init_14 (by decide) ?_
  refine hm_puti X hw lk_3_15 hs0 rfl rfl dX3_init_15 (fun H locs hw => ?_)
  exact hm_vret X hr hlk hw ⟨_, _, _, _, rfl, h⟩ dX3_init_18

theorem cNet_init {l : Launch} {D : va_G} {cA : Nat → ClassId} {z sz : Nat} {I : HI} {T : HR} {F : HR} {L : HL} {r0 : Nat} {Q : HI → HR → HR → HL → Prop} (hs0 : (r0, 12, 0) ∈ L) (hsz0 : sz = z + (r0 + 1)) (h : Net_init I T F L r0 Q) : Met l yX5_init (hws0 yX5_init cX5_init 1 none) { frames := 5, cells := 8, slots := 8246, locals := 110 } (hPc D cA z EvC (I, J, T, F, L) sz [.ref (z + r0)]) (va_Qv (pBv J Q) (hB D cA z (hA z L sz)) (hA z L sz)) 8 8246 (hA z L sz) := by
  refine hm_met (I, J, T, F, L) [.ref (z + r0)] rfl (by decide) (Nat.le_of_ble_eq_true rfl) ?_
  intro p e s m below meth c ls X hr hlk hnm hxt hsz hw hl
  have hl : lv_has ls 1 [(0, .ref (z + r0))] := hl
  have hnm : meth.name = "<init>" := hnm
  have hR : 5 ≤ ({ frames := 5, cells := 8, slots := 8246, locals := 110 } : Room).frames ∧ 110 ≤ ({ frames := 5, cells := 8, slots := 8246, locals := 110 } : Room).locals := ⟨Nat.le_refl _, Nat.le_refl _⟩
  have hRc : 8 ≤ ({ frames := 5, cells := 8, slots := 8246, locals := 110 } : Room).cells ∧ 8246 ≤ ({ frames := 5, cells := 8, slots := 8246, locals := 110 } : Room).slots := ⟨Nat.le_refl _, Nat.le_refl _⟩
  generalize ({ frames := 5, cells := 8, slots := 8246, locals := 110 } : Room) = R at hR hRc ⊢
  have hsz1 : s.heap.size = z + (r0 + 1) := hsz.trans hsz0
  clear hsz hsz0
  generalize (hA z L sz) = A at hw ⊢
  have hx := X.1
  have hb := X.2.1
  unfold Net_init at h
  refine lv_aload_n hx hb dX5_init_0 rfl (lv_at hl 0 rfl) ?_
  refine hm_obj X kw139 hl.1 ⟨Nat.le_trans (Nat.le_of_ble_eq_true rfl) hR.1, Nat.le_trans (Nat.le_of_ble_eq_true rfl) hR.2⟩ dX5_init_1 ?_
  refine lv_aload_n hx hb dX5_init_4 rfl (lv_at hl 0 rfl) ?_
  refine lv_bipush (v := 8) hx hb dX5_init_5 (by decide) ?_
  refine hm_szK (n0 := r0 + 1) (N := r0) (q := r0 + 1) (hW_lt hw _ hs0) hsz1 rfl rfl (fun ehq1 => ?_)
  refine hm_newa0 (N := 8) X hw ehq1 (by decide) (by decide) (by decide) (Nat.le_trans (Nat.le_of_ble_eq_true rfl) hRc.1) (Nat.le_trans (Nat.le_of_ble_eq_true rfl) hRc.2) dX5_init_7 (fun H hsz hw => ?_)
  have hs0 := List.mem_append_left [(r0 + 1, 0, 8)] hs0
  have ehs2 := mem_last L ((r0 + 1, 0, 8))
  refine hm_putr X hw lk_5_9 (fun _ => ⟨hnm, TX5, 11, rfl, rfl⟩) hs0 rfl rfl dX5_init_9 (fun H locs hw => ?_)
  refine lv_aload_n hx hb dX5_init_12 rfl (lv_at hl 0 rfl) ?_
  refine lv_bipush (v := 8) hx hb dX5_init_13 (by decide) ?_
  refine hm_szK (n0 := r0 + 1) (N := r0 + 1) (q := r0 + 2) (hW_lt hw _ ehs2) hsz1 rfl rfl (fun ehq3 => ?_)
  refine hm_newa0 (N := 8) X hw ehq3 (by decide) (by decide) (by decide) (Nat.le_trans (Nat.le_of_ble_eq_true rfl) hRc.1) (Nat.le_trans (Nat.le_of_ble_eq_true rfl) hRc.2) dX5_init_15 (fun H hsz hw => ?_)
  have hs0 := List.mem_append_left [(r0 + 2, 0, 8)] hs0
  have ehs2 := List.mem_append_left [(r0 + 2, 0, 8)] ehs2
  have ehs4 := mem_last (L ++ [(r0 + 1, 0, 8)]) ((r0 + 2, 0, 8))
  refine hm_putr X hw lk_5_15 (fun _ => ⟨hnm, TX5, 11, rfl, rfl⟩) hs0 rfl rfl dX5_init_17 (fun H locs hw => ?_)
  refine lv_aload_n hx hb dX5_init_20 rfl (lv_at hl 0 rfl) ?_
  refine lv_bipush (v := 8) hx hb dX5_init_21 (by decide) ?_
  refine hm_szK (n0 := r0 + 1) (N := r0 + 2) (q := r0 + 3) (hW_lt hw _ ehs4) hsz1 rfl rfl (fun ehq5 => ?_)
  refine hm_newa0 (N := 8) X hw ehq5 (by decide) (by decide) (by decide) (Nat.le_trans (Nat.le_of_ble_eq_true rfl) hRc.1) (Nat.le_trans (Nat.le_of_ble_eq_true rfl) hRc.2) dX5_init_23 (fun H hsz hw => ?_)
  have hs0 := List.mem_append_left [(r0 + 3, 0, 8)] hs0
  have ehs2 := List.mem_append_left [(r0 + 3, 0, 8)] ehs2
  have ehs4 := List.mem_append_left [(r0 + 3, 0, 8)] ehs4
  have ehs6 := mem_last ((L ++ [(r0 + 1, 0, 8)]) ++ [(r0 + 2, 0, 8)]) ((r0 + 3, 0, 8))
  refine hm_putr X hw lk_5_18 (fun _ => ⟨hnm, TX5, 11, rfl, rfl⟩) hs0 rfl rfl dX5_init_25 (fun H locs hw => ?_)
  refine lv_aload_n hx hb dX5_init_28 rfl (lv_at hl 0 rfl) ?_
  refine lv_bipush (v := 8) hx hb dX5_init_29 (by decide) ?_
  refine hm_szK (n0 := r0 + 1) (N := r0 + 3) (q := r0 + 4) (hW_lt hw _ ehs6) hsz1 rfl rfl (fun ehq7 => ?_)
  refine hm_newa0 (N := 8) X hw ehq7 (by decide) (by decide) (by decide) (Nat.le_trans (Nat.le_of_ble_eq_true rfl) hRc.1) (Nat.le_trans (Nat.le_of_ble_eq_true rfl) hRc.2) dX5_init_31 (fun H hsz hw => ?_)
  have hs0 := List.mem_append_left [(r0 + 4, 0, 8)] hs0
  have ehs2 := List.mem_append_left [(r0 + 4, 0, 8)] ehs2
  have ehs4 := List.mem_append_left [(r0 + 4, 0, 8)] ehs4
  have ehs6 := List.mem_append_left [(r0 + 4, 0, 8)] ehs6
  have ehs8 := mem_last (((L ++ [(r0 + 1, 0, 8)]) ++ [(r0 + 2, 0, 8)]) ++ [(r0 + 3, 0, 8)]) ((r0 + 4, 0, 8))
  refine hm_putr X hw lk_5_21 (fun _ => ⟨hnm, TX5, 11, rfl, rfl⟩) hs0 rfl rfl dX5_init_33 (fun H locs hw => ?_)
  refine lv_aload_n hx hb dX5_init_36 rfl (lv_at hl 0 rfl) ?_
  refine lv_bipush (v := 8) hx hb dX5_init_37 (by decide) ?_
  refine hm_szK (n0 := r0 + 1) (N := r0 + 4) (q := r0 + 5) (hW_lt hw _ ehs8) hsz1 rfl rfl (fun ehq9 => ?_)
  refine hm_newa0 (N := 8) X hw ehq9 (by decide) (by decide) (by decide) (Nat.le_trans (Nat.le_of_ble_eq_true rfl) hRc.1) (Nat.le_trans (Nat.le_of_ble_eq_true rfl) hRc.2) dX5_init_39 (fun H hsz hw => ?_)
  have hs0 := List.mem_append_left [(r0 + 5, 0, 8)] hs0
  have ehs2 := List.mem_append_left [(r0 + 5, 0, 8)] ehs2
  have ehs4 := List.mem_append_left [(r0 + 5, 0, 8)] ehs4
  have ehs6 := List.mem_append_left [(r0 + 5, 0, 8)] ehs6
  have ehs8 := List.mem_append_left [(r0 + 5, 0, 8)] ehs8
  have ehs10 := mem_last ((((L ++ [(r0 + 1, 0, 8)]) ++ [(r0 + 2, 0, 8)]) ++ [(r0 + 3, 0, 8)]) ++ [(r0 + 4, 0, 8)]) ((r0 + 5, 0, 8))
  refine hm_putr X hw lk_5_24 (fun _ => ⟨hnm, TX5, 11, rfl, rfl⟩) hs0 rfl rfl dX5_init_41 (fun H locs hw => ?_)
  refine lv_aload_n hx hb dX5_init_44 rfl (lv_at hl 0 rfl) ?_
  refine lv_bipush (v := 8) hx hb dX5_init_45 (by decide) ?_
  refine hm_szK (n0 := r0 + 1) (N := r0 + 5) (q := r0 + 6) (hW_lt hw _ ehs10) hsz1 rfl rfl (fun ehq11 => ?_)
  refine hm_newq5 (N := 8) X hw kw140 hw.2.2.2.2.2.2.1 ehq11 (by decide) (by decide) (by decide) (Nat.le_trans (Nat.le_of_ble_eq_true rfl) hRc.1) (Nat.le_trans (Nat.le_of_ble_eq_true rfl) hRc.2) dX5_init_47 (fun H hsz hw => ?_)
  have hs0 := List.mem_append_left [(r0 + 6, 5, 8)] hs0
  have ehs2 := List.mem_append_left [(r0 + 6, 5, 8)] ehs2
  have ehs4 := List.mem_append_left [(r0 + 6, 5, 8)] ehs4
  have ehs6 := List.mem_append_left [(r0 + 6, 5, 8)] ehs6
  have ehs8 := List.mem_append_left [(r0 + 6, 5, 8)] ehs8
  have ehs10 := List.mem_append_left [(r0 + 6, 5, 8)] ehs10
  have ehs12 := mem_last (((((L ++ [(r0 + 1, 0, 8)]) ++ [(r0 + 2, 0, 8)]) ++ [(r0 + 3, 0, 8)]) ++ [(r0 + 4, 0, 8)]) ++ [(r0 + 5, 0, 8)]) ((r0 + 6, 5, 8))
  refine hm_putr X hw lk_5_29 (fun _ => ⟨hnm, TX5, 11, rfl, rfl⟩) hs0 rfl rfl dX5_init_50 (fun H locs hw => ?_)
  refine lv_aload_n hx hb dX5_init_53 rfl (lv_at hl 0 rfl) ?_
  refine lv_sipush (v := 8192) hx hb dX5_init_54 (by decide) ?_
  refine hm_szK (n0 := r0 + 1) (N := r0 + 6) (q := r0 + 7) (hW_lt hw _ ehs12) hsz1 rfl rfl (fun ehq13 => ?_)
  refine hm_newa1 (N := 8192) X hw ehq13 (by decide) (by decide) (by decide) (Nat.le_trans (Nat.le_of_ble_eq_true rfl) hRc.1) (Nat.le_trans (Nat.le_of_ble_eq_true rfl) hRc.2) dX5_init_57 (fun H hsz hw => ?_)
  have hs0 := List.mem_append_left [(r0 + 7, 1, 8192)] hs0
  have ehs2 := List.mem_append_left [(r0 + 7, 1, 8192)] ehs2
  have ehs4 := List.mem_append_left [(r0 + 7, 1, 8192)] ehs4
  have ehs6 := List.mem_append_left [(r0 + 7, 1, 8192)] ehs6
  have ehs8 := List.mem_append_left [(r0 + 7, 1, 8192)] ehs8
  have ehs10 := List.mem_append_left [(r0 + 7, 1, 8192)] ehs10
  have ehs12 := List.mem_append_left [(r0 + 7, 1, 8192)] ehs12
  have ehs14 := mem_last ((((((L ++ [(r0 + 1, 0, 8)]) ++ [(r0 + 2, 0, 8)]) ++ [(r0 + 3, 0, 8)]) ++ [(r0 + 4, 0, 8)]) ++ [(r0 + 5, 0, 8)]) ++ [(r0 + 6, 5, 8)]) ((r0 + 7, 1, 8192))
  refine hm_putr X hw lk_5_33 (fun _ => ⟨hnm, TX5, 11, rfl, rfl⟩) hs0 rfl rfl dX5_init_59 (fun H locs hw => ?_)
  refine lv_aload_n hx hb dX5_init_62 rfl (lv_at hl 0 rfl) ?_
  refine lv_bipush (v := 6) hx hb dX5_init_63 (by decide) ?_
  refine hm_szK (n0 := r0 + 1) (N := r0 + 7) (q := r0 + 8) (hW_lt hw _ ehs14) hsz1 rfl rfl (fun ehq15 => ?_)
  refine hm_newa0 (N := 6) X hw ehq15 (by decide) (by decide) (by decide) (Nat.le_trans (Nat.le_of_ble_eq_true rfl) hRc.1) (Nat.le_trans (Nat.le_of_ble_eq_true rfl) hRc.2) dX5_init_65 (fun H hsz hw => ?_)
  have hs0 := List.mem_append_left [(r0 + 8, 0, 6)] hs0
  have ehs2 := List.mem_append_left [(r0 + 8, 0, 6)] ehs2
  have ehs4 := List.mem_append_left [(r0 + 8, 0, 6)] ehs4
  have ehs6 := List.mem_append_left [(r0 + 8, 0, 6)] ehs6
  have ehs8 := List.mem_append_left [(r0 + 8, 0, 6)] ehs8
  have ehs10 := List.mem_append_left [(r0 + 8, 0, 6)] ehs10
  have ehs12 := List.mem_append_left [(r0 + 8, 0, 6)] ehs12
  have ehs14 := List.mem_append_left [(r0 + 8, 0, 6)] ehs14
  have ehs16 := mem_last (((((((L ++ [(r0 + 1, 0, 8)]) ++ [(r0 + 2, 0, 8)]) ++ [(r0 + 3, 0, 8)]) ++ [(r0 + 4, 0, 8)]) ++ [(r0 + 5, 0, 8)]) ++ [(r0 + 6, 5, 8)]) ++ [(r0 + 7, 1, 8192)]) ((r0 + 8, 0, 6))
  refine hm_putr X hw lk_5_37 (fun _ => ⟨hnm, TX5, 11, rfl, rfl⟩) hs0 rfl rfl dX5_init_67 (fun H locs hw => ?_)
  refine lv_aload_n hx hb dX5_init_70 rfl (lv_at hl 0 rfl) ?_
  refine lv_iconst (v := 2) hx hb dX5_init_71 (by decide) ?_
  refine lv_iconst (v := 2) hx hb dX5_init_72 (by decide) ?_
  obtain ⟨hn0, h⟩ := h
  refine hm_callv hw (hm_runV (rest := []) EvC_cl X hw (cNet_open EvC_cl hn0 h) yk_X5_open kw142 rfl hn0.1 rfl hl.1 rfl rfl rfl (Nat.le_of_ble_eq_true rfl) ⟨Nat.le_trans (Nat.le_of_ble_eq_true rfl) hR.1, Nat.le_trans (Nat.le_of_ble_eq_true rfl) hR.2⟩ ⟨Nat.le_trans (Nat.le_of_ble_eq_true rfl) hRc.1, Nat.le_trans (Nat.le_of_ble_eq_true rfl) hRc.2⟩ dX5_init_73) (fun u19 H locs hp hw => ?_)
  obtain ⟨I17, T18, rfl, h⟩ := hp
  exact hm_vret X hr hlk hw ⟨_, _, _, _, rfl, h⟩ dX5_init_76

theorem cRd_init {l : Launch} {D : va_G} {cA : Nat → ClassId} {z sz : Nat} {I : HI} {T : HR} {F : HR} {L : HL} {r0 : Nat} {Q : HI → HR → HR → HL → Prop} (hs0 : (r0, 13, 0) ∈ L) (hsz0 : sz = z + (r0 + 1)) (h : Rd_init I T F L r0 Q) : Met l yX6_init (hws0 yX6_init cX6_init 1 none) { frames := 1, cells := 5, slots := 1508, locals := 100 } (hPc D cA z EvC (I, J, T, F, L) sz [.ref (z + r0)]) (va_Qv (pBv J Q) (hB D cA z (hA z L sz)) (hA z L sz)) 5 1508 (hA z L sz) := by
  refine hm_met (I, J, T, F, L) [.ref (z + r0)] rfl (by decide) (Nat.le_of_ble_eq_true rfl) ?_
  intro p e s m below meth c ls X hr hlk hnm hxt hsz hw hl
  have hl : lv_has ls 1 [(0, .ref (z + r0))] := hl
  have hnm : meth.name = "<init>" := hnm
  have hR : 1 ≤ ({ frames := 1, cells := 5, slots := 1508, locals := 100 } : Room).frames ∧ 100 ≤ ({ frames := 1, cells := 5, slots := 1508, locals := 100 } : Room).locals := ⟨Nat.le_refl _, Nat.le_refl _⟩
  have hRc : 5 ≤ ({ frames := 1, cells := 5, slots := 1508, locals := 100 } : Room).cells ∧ 1508 ≤ ({ frames := 1, cells := 5, slots := 1508, locals := 100 } : Room).slots := ⟨Nat.le_refl _, Nat.le_refl _⟩
  generalize ({ frames := 1, cells := 5, slots := 1508, locals := 100 } : Room) = R at hR hRc ⊢
  have hsz1 : s.heap.size = z + (r0 + 1) := hsz.trans hsz0
  clear hsz hsz0
  generalize (hA z L sz) = A at hw ⊢
  have hx := X.1
  have hb := X.2.1
  unfold Rd_init at h
  refine lv_aload_n hx hb dX6_init_0 rfl (lv_at hl 0 rfl) ?_
  refine hm_obj X kw297 hl.1 ⟨Nat.le_trans (Nat.le_of_ble_eq_true rfl) hR.1, Nat.le_trans (Nat.le_of_ble_eq_true rfl) hR.2⟩ dX6_init_1 ?_
  refine lv_aload_n hx hb dX6_init_4 rfl (lv_at hl 0 rfl) ?_
  refine lv_iconst (v := 0) hx hb dX6_init_5 (by decide) ?_
  refine hm_puti X hw lk_6_9 hs0 rfl rfl dX6_init_6 (fun H locs hw => ?_)
  refine lv_aload_n hx hb dX6_init_9 rfl (lv_at hl 0 rfl) ?_
  refine lv_iconst (v := (-1)) hx hb dX6_init_10 (by decide) ?_
  refine hm_puti X hw lk_6_15 hs0 rfl rfl dX6_init_11 (fun H locs hw => ?_)
  refine lv_aload_n hx hb dX6_init_14 rfl (lv_at hl 0 rfl) ?_
  refine lv_bipush (v := 8) hx hb dX6_init_15 (by decide) ?_
  refine hm_szK (n0 := r0 + 1) (N := r0) (q := r0 + 1) (hW_lt hw _ hs0) hsz1 rfl rfl (fun ehq1 => ?_)
  refine hm_newq5 (N := 8) X hw kw298 hw.2.2.2.2.2.2.1 ehq1 (by decide) (by decide) (by decide) (Nat.le_trans (Nat.le_of_ble_eq_true rfl) hRc.1) (Nat.le_trans (Nat.le_of_ble_eq_true rfl) hRc.2) dX6_init_17 (fun H hsz hw => ?_)
  have hs0 := List.mem_append_left [(r0 + 1, 5, 8)] hs0
  have ehs2 := mem_last L ((r0 + 1, 5, 8))
  refine hm_putr X hw lk_6_20 (fun _ => ⟨hnm, TX6, 14, rfl, rfl⟩) hs0 rfl rfl dX6_init_20 (fun H locs hw => ?_)
  refine lv_aload_n hx hb dX6_init_23 rfl (lv_at hl 0 rfl) ?_
  refine lv_iconst (v := 0) hx hb dX6_init_24 (by decide) ?_
  refine hm_szK (n0 := r0 + 1) (N := r0 + 1) (q := r0 + 2) (hW_lt hw _ ehs2) hsz1 rfl rfl (fun ehq3 => ?_)
  refine hm_newa0 (N := 0) X hw ehq3 (by decide) (by decide) (by decide) (Nat.le_trans (Nat.le_of_ble_eq_true rfl) hRc.1) (Nat.le_trans (Nat.le_of_ble_eq_true rfl) hRc.2) dX6_init_25 (fun H hsz hw => ?_)
  have hs0 := List.mem_append_left [(r0 + 2, 0, 0)] hs0
  have ehs2 := List.mem_append_left [(r0 + 2, 0, 0)] ehs2
  have ehs4 := mem_last (L ++ [(r0 + 1, 5, 8)]) ((r0 + 2, 0, 0))
  refine hm_putr X hw lk_6_24 (fun h9 => (by cases h9)) hs0 rfl rfl dX6_init_27 (fun H locs hw => ?_)
  refine lv_aload_n hx hb dX6_init_30 rfl (lv_at hl 0 rfl) ?_
  refine lv_iconst (v := 0) hx hb dX6_init_31 (by decide) ?_
  refine hm_puti X hw lk_6_28 hs0 rfl rfl dX6_init_32 (fun H locs hw => ?_)
  refine lv_aload_n hx hb dX6_init_35 rfl (lv_at hl 0 rfl) ?_
  refine lv_iconst (v := 0) hx hb dX6_init_36 (by decide) ?_
  refine hm_puti X hw lk_6_31 hs0 rfl rfl dX6_init_37 (fun H locs hw => ?_)
  refine lv_aload_n hx hb dX6_init_40 rfl (lv_at hl 0 rfl) ?_
  refine lv_iconst (v := 0) hx hb dX6_init_41 (by decide) ?_
  refine hm_puti X hw lk_6_34 hs0 rfl rfl dX6_init_42 (fun H locs hw => ?_)
  refine lv_aload_n hx hb dX6_init_45 rfl (lv_at hl 0 rfl) ?_
  refine lv_iconst (v := 0) hx hb dX6_init_46 (by decide) ?_
  refine hm_puti X hw lk_6_37 hs0 rfl rfl dX6_init_47 (fun H locs hw => ?_)
  refine lv_aload_n hx hb dX6_init_50 rfl (lv_at hl 0 rfl) ?_
  refine lv_sipush (v := 128) hx hb dX6_init_51 (by decide) ?_
  refine hm_puti X hw lk_6_40 hs0 rfl rfl dX6_init_54 (fun H locs hw => ?_)
  refine lv_aload_n hx hb dX6_init_57 rfl (lv_at hl 0 rfl) ?_
  refine lv_iconst (v := 0) hx hb dX6_init_58 (by decide) ?_
  refine hm_puti X hw lk_6_43 hs0 rfl rfl dX6_init_59 (fun H locs hw => ?_)
  refine lv_aload_n hx hb dX6_init_62 rfl (lv_at hl 0 rfl) ?_
  refine lv_sipush (v := 500) hx hb dX6_init_63 (by decide) ?_
  refine hm_szK (n0 := r0 + 1) (N := r0 + 2) (q := r0 + 3) (hW_lt hw _ ehs4) hsz1 rfl rfl (fun ehq5 => ?_)
  refine hm_newa0 (N := 500) X hw ehq5 (by decide) (by decide) (by decide) (Nat.le_trans (Nat.le_of_ble_eq_true rfl) hRc.1) (Nat.le_trans (Nat.le_of_ble_eq_true rfl) hRc.2) dX6_init_66 (fun H hsz hw => ?_)
  have hs0 := List.mem_append_left [(r0 + 3, 0, 500)] hs0
  have ehs2 := List.mem_append_left [(r0 + 3, 0, 500)] ehs2
  have ehs4 := List.mem_append_left [(r0 + 3, 0, 500)] ehs4
  have ehs6 := mem_last ((L ++ [(r0 + 1, 5, 8)]) ++ [(r0 + 2, 0, 0)]) ((r0 + 3, 0, 500))
  refine hm_putr X hw lk_6_46 (fun _ => ⟨hnm, TX6, 14, rfl, rfl⟩) hs0 rfl rfl dX6_init_68 (fun H locs hw => ?_)
  refine lv_aload_n hx hb dX6_init_71 rfl (lv_at hl 0 rfl) ?_
  refine lv_sipush (v := 500) hx hb dX6_init_72 (by decide) ?_
  refine hm_szK (n0 := r0 + 1) (N := r0 + 3) (q := r0 + 4) (hW_lt hw _ ehs6) hsz1 rfl rfl (fun ehq7 => ?_)
  refine hm_newa0 (N := 500) X hw ehq7 (by decide) (by decide) (by decide) (Nat.le_trans (Nat.le_of_ble_eq_true rfl) hRc.1) (Nat.le_trans (Nat.le_of_ble_eq_true rfl) hRc.2) dX6_init_75 (fun H hsz hw => ?_)
  have hs0 := List.mem_append_left [(r0 + 4, 0, 500)] hs0
  have ehs2 := List.mem_append_left [(r0 + 4, 0, 500)] ehs2
  have ehs4 := List.mem_append_left [(r0 + 4, 0, 500)] ehs4
  have ehs6 := List.mem_append_left [(r0 + 4, 0, 500)] ehs6
  have ehs8 := mem_last (((L ++ [(r0 + 1, 5, 8)]) ++ [(r0 + 2, 0, 0)]) ++ [(r0 + 3, 0, 500)]) ((r0 + 4, 0, 500))
  refine hm_putr X hw lk_6_49 (fun _ => ⟨hnm, TX6, 14, rfl, rfl⟩) hs0 rfl rfl dX6_init_77 (fun H locs hw => ?_)
  refine lv_aload_n hx hb dX6_init_80 rfl (lv_at hl 0 rfl) ?_
  refine lv_sipush (v := 500) hx hb dX6_init_81 (by decide) ?_
  refine hm_szK (n0 := r0 + 1) (N := r0 + 4) (q := r0 + 5) (hW_lt hw _ ehs8) hsz1 rfl rfl (fun ehq9 => ?_)
  refine hm_newa0 (N := 500) X hw ehq9 (by decide) (by decide) (by decide) (Nat.le_trans (Nat.le_of_ble_eq_true rfl) hRc.1) (Nat.le_trans (Nat.le_of_ble_eq_true rfl) hRc.2) dX6_init_84 (fun H hsz hw => ?_)
  have hs0 := List.mem_append_left [(r0 + 5, 0, 500)] hs0
  have ehs2 := List.mem_append_left [(r0 + 5, 0, 500)] ehs2
  have ehs4 := List.mem_append_left [(r0 + 5, 0, 500)] ehs4
  have ehs6 := List.mem_append_left [(r0 + 5, 0, 500)] ehs6
  have ehs8 := List.mem_append_left [(r0 + 5, 0, 500)] ehs8
  have ehs10 := mem_last ((((L ++ [(r0 + 1, 5, 8)]) ++ [(r0 + 2, 0, 0)]) ++ [(r0 + 3, 0, 500)]) ++ [(r0 + 4, 0, 500)]) ((r0 + 5, 0, 500))
  refine hm_putr X hw lk_6_52 (fun _ => ⟨hnm, TX6, 14, rfl, rfl⟩) hs0 rfl rfl dX6_init_86 (fun H locs hw => ?_)
  refine lv_aload_n hx hb dX6_init_89 rfl (lv_at hl 0 rfl) ?_
  refine lv_iconst (v := 0) hx hb dX6_init_90 (by decide) ?_
  refine hm_puti X hw lk_6_55 hs0 rfl rfl dX6_init_91 (fun H locs hw => ?_)
  exact hm_vret X hr hlk hw ⟨_, _, _, _, rfl, h⟩ dX6_init_94

theorem cSc_init {l : Launch} {D : va_G} {cA : Nat → ClassId} {z sz : Nat} {I : HI} {T : HR} {F : HR} {L : HL} {r0 : Nat} {Q : HI → HR → HR → HL → Prop} (hs0 : (r0, 14, 0) ∈ L) (hsz0 : sz = z + (r0 + 1)) (h : Sc_init I T F L r0 Q) : Met l yX7_init (hws0 yX7_init cX7_init 1 none) { frames := 1, cells := 2, slots := 16, locals := 100 } (hPc D cA z EvC (I, J, T, F, L) sz [.ref (z + r0)]) (va_Qv (pBv J Q) (hB D cA z (hA z L sz)) (hA z L sz)) 2 16 (hA z L sz) := by
  refine hm_met (I, J, T, F, L) [.ref (z + r0)] rfl (by decide) (Nat.le_of_ble_eq_true rfl) ?_
  intro p e s m below meth c ls X hr hlk hnm hxt hsz hw hl
  have hl : lv_has ls 1 [(0, .ref (z + r0))] := hl
  have hnm : meth.name = "<init>" := hnm
  have hR : 1 ≤ ({ frames := 1, cells := 2, slots := 16, locals := 100 } : Room).frames ∧ 100 ≤ ({ frames := 1, cells := 2, slots := 16, locals := 100 } : Room).locals := ⟨Nat.le_refl _, Nat.le_refl _⟩
  have hRc : 2 ≤ ({ frames := 1, cells := 2, slots := 16, locals := 100 } : Room).cells ∧ 16 ≤ ({ frames := 1, cells := 2, slots := 16, locals := 100 } : Room).slots := ⟨Nat.le_refl _, Nat.le_refl _⟩
  generalize ({ frames := 1, cells := 2, slots := 16, locals := 100 } : Room) = R at hR hRc ⊢
  have hsz1 : s.heap.size = z + (r0 + 1) := hsz.trans hsz0
  clear hsz hsz0
  generalize (hA z L sz) = A at hw ⊢
  have hx := X.1
  have hb := X.2.1
  unfold Sc_init at h
  refine lv_aload_n hx hb dX7_init_0 rfl (lv_at hl 0 rfl) ?_
  refine hm_obj X kw243 hl.1 ⟨Nat.le_trans (Nat.le_of_ble_eq_true rfl) hR.1, Nat.le_trans (Nat.le_of_ble_eq_true rfl) hR.2⟩ dX7_init_1 ?_
  refine lv_aload_n hx hb dX7_init_4 rfl (lv_at hl 0 rfl) ?_
  refine lv_bipush (v := 8) hx hb dX7_init_5 (by decide) ?_
  refine hm_szK (n0 := r0 + 1) (N := r0) (q := r0 + 1) (hW_lt hw _ hs0) hsz1 rfl rfl (fun ehq1 => ?_)
  refine hm_newa0 (N := 8) X hw ehq1 (by decide) (by decide) (by decide) (Nat.le_trans (Nat.le_of_ble_eq_true rfl) hRc.1) (Nat.le_trans (Nat.le_of_ble_eq_true rfl) hRc.2) dX7_init_7 (fun H hsz hw => ?_)
  have hs0 := List.mem_append_left [(r0 + 1, 0, 8)] hs0
  have ehs2 := mem_last L ((r0 + 1, 0, 8))
  refine hm_putr X hw lk_7_9 (fun _ => ⟨hnm, TX7, 2, rfl, rfl⟩) hs0 rfl rfl dX7_init_9 (fun H locs hw => ?_)
  refine lv_aload_n hx hb dX7_init_12 rfl (lv_at hl 0 rfl) ?_
  refine lv_bipush (v := 8) hx hb dX7_init_13 (by decide) ?_
  refine hm_szK (n0 := r0 + 1) (N := r0 + 1) (q := r0 + 2) (hW_lt hw _ ehs2) hsz1 rfl rfl (fun ehq3 => ?_)
  refine hm_newa0 (N := 8) X hw ehq3 (by decide) (by decide) (by decide) (Nat.le_trans (Nat.le_of_ble_eq_true rfl) hRc.1) (Nat.le_trans (Nat.le_of_ble_eq_true rfl) hRc.2) dX7_init_15 (fun H hsz hw => ?_)
  have hs0 := List.mem_append_left [(r0 + 2, 0, 8)] hs0
  have ehs2 := List.mem_append_left [(r0 + 2, 0, 8)] ehs2
  have ehs4 := mem_last (L ++ [(r0 + 1, 0, 8)]) ((r0 + 2, 0, 8))
  refine hm_putr X hw lk_7_15 (fun _ => ⟨hnm, TX7, 2, rfl, rfl⟩) hs0 rfl rfl dX7_init_17 (fun H locs hw => ?_)
  exact hm_vret X hr hlk hw ⟨_, _, _, _, rfl, h⟩ dX7_init_20

theorem cSe_init {l : Launch} {D : va_G} {cA : Nat → ClassId} {z sz : Nat} {I : HI} {T : HR} {F : HR} {L : HL} {r0 : Nat} {Q : HI → HR → HR → HL → Prop} (hs0 : (r0, 15, 0) ∈ L) (hsz0 : sz = z + (r0 + 1)) (h : Se_init I T F L r0 Q) : Met l yX8_init (hws0 yX8_init cX8_init 1 none) { frames := 1, cells := 3, slots := 18192, locals := 100 } (hPc D cA z EvC (I, J, T, F, L) sz [.ref (z + r0)]) (va_Qv (pBv J Q) (hB D cA z (hA z L sz)) (hA z L sz)) 3 18192 (hA z L sz) := by
  refine hm_met (I, J, T, F, L) [.ref (z + r0)] rfl (by decide) (Nat.le_of_ble_eq_true rfl) ?_
  intro p e s m below meth c ls X hr hlk hnm hxt hsz hw hl
  have hl : lv_has ls 1 [(0, .ref (z + r0))] := hl
  have hnm : meth.name = "<init>" := hnm
  have hR : 1 ≤ ({ frames := 1, cells := 3, slots := 18192, locals := 100 } : Room).frames ∧ 100 ≤ ({ frames := 1, cells := 3, slots := 18192, locals := 100 } : Room).locals := ⟨Nat.le_refl _, Nat.le_refl _⟩
  have hRc : 3 ≤ ({ frames := 1, cells := 3, slots := 18192, locals := 100 } : Room).cells ∧ 18192 ≤ ({ frames := 1, cells := 3, slots := 18192, locals := 100 } : Room).slots := ⟨Nat.le_refl _, Nat.le_refl _⟩
  generalize ({ frames := 1, cells := 3, slots := 18192, locals := 100 } : Room) = R at hR hRc ⊢
  have hsz1 : s.heap.size = z + (r0 + 1) := hsz.trans hsz0
  clear hsz hsz0
  generalize (hA z L sz) = A at hw ⊢
  have hx := X.1
  have hb := X.2.1
  unfold Se_init at h
  refine lv_aload_n hx hb dX8_init_0 rfl (lv_at hl 0 rfl) ?_
  refine hm_obj X kw350 hl.1 ⟨Nat.le_trans (Nat.le_of_ble_eq_true rfl) hR.1, Nat.le_trans (Nat.le_of_ble_eq_true rfl) hR.2⟩ dX8_init_1 ?_
  refine lv_aload_n hx hb dX8_init_4 rfl (lv_at hl 0 rfl) ?_
  refine lv_iconst (v := (-1)) hx hb dX8_init_5 (by decide) ?_
  refine hm_puti X hw lk_8_9 hs0 rfl rfl dX8_init_6 (fun H locs hw => ?_)
  refine lv_aload_n hx hb dX8_init_9 rfl (lv_at hl 0 rfl) ?_
  refine lv_sipush (v := 8192) hx hb dX8_init_10 (by decide) ?_
  refine hm_szK (n0 := r0 + 1) (N := r0) (q := r0 + 1) (hW_lt hw _ hs0) hsz1 rfl rfl (fun ehq1 => ?_)
  refine hm_newa1 (N := 8192) X hw ehq1 (by decide) (by decide) (by decide) (Nat.le_trans (Nat.le_of_ble_eq_true rfl) hRc.1) (Nat.le_trans (Nat.le_of_ble_eq_true rfl) hRc.2) dX8_init_13 (fun H hsz hw => ?_)
  have hs0 := List.mem_append_left [(r0 + 1, 1, 8192)] hs0
  have ehs2 := mem_last L ((r0 + 1, 1, 8192))
  refine hm_putr X hw lk_8_15 (fun _ => ⟨hnm, TX8, 4, rfl, rfl⟩) hs0 rfl rfl dX8_init_15 (fun H locs hw => ?_)
  refine lv_aload_n hx hb dX8_init_18 rfl (lv_at hl 0 rfl) ?_
  refine lv_sipush (v := 5000) hx hb dX8_init_19 (by decide) ?_
  refine hm_szK (n0 := r0 + 1) (N := r0 + 1) (q := r0 + 2) (hW_lt hw _ ehs2) hsz1 rfl rfl (fun ehq3 => ?_)
  refine hm_newa2 (N := 5000) X hw ehq3 (by decide) (by decide) (by decide) (Nat.le_trans (Nat.le_of_ble_eq_true rfl) hRc.1) (Nat.le_trans (Nat.le_of_ble_eq_true rfl) hRc.2) dX8_init_22 (fun H hsz hw => ?_)
  have hs0 := List.mem_append_left [(r0 + 2, 2, 5000)] hs0
  have ehs2 := List.mem_append_left [(r0 + 2, 2, 5000)] ehs2
  have ehs4 := mem_last (L ++ [(r0 + 1, 1, 8192)]) ((r0 + 2, 2, 5000))
  refine hm_putr X hw lk_8_19 (fun _ => ⟨hnm, TX8, 4, rfl, rfl⟩) hs0 rfl rfl dX8_init_24 (fun H locs hw => ?_)
  refine lv_aload_n hx hb dX8_init_27 rfl (lv_at hl 0 rfl) ?_
  refine lv_sipush (v := 5000) hx hb dX8_init_28 (by decide) ?_
  refine hm_szK (n0 := r0 + 1) (N := r0 + 2) (q := r0 + 3) (hW_lt hw _ ehs4) hsz1 rfl rfl (fun ehq5 => ?_)
  refine hm_newa1 (N := 5000) X hw ehq5 (by decide) (by decide) (by decide) (Nat.le_trans (Nat.le_of_ble_eq_true rfl) hRc.1) (Nat.le_trans (Nat.le_of_ble_eq_true rfl) hRc.2) dX8_init_31 (fun H hsz hw => ?_)
  have hs0 := List.mem_append_left [(r0 + 3, 1, 5000)] hs0
  have ehs2 := List.mem_append_left [(r0 + 3, 1, 5000)] ehs2
  have ehs4 := List.mem_append_left [(r0 + 3, 1, 5000)] ehs4
  have ehs6 := mem_last ((L ++ [(r0 + 1, 1, 8192)]) ++ [(r0 + 2, 2, 5000)]) ((r0 + 3, 1, 5000))
  refine hm_putr X hw lk_8_23 (fun _ => ⟨hnm, TX8, 4, rfl, rfl⟩) hs0 rfl rfl dX8_init_33 (fun H locs hw => ?_)
  exact hm_vret X hr hlk hw ⟨_, _, _, _, rfl, h⟩ dX8_init_36

theorem cSu_init {l : Launch} {D : va_G} {cA : Nat → ClassId} {z sz : Nat} {I : HI} {T : HR} {F : HR} {L : HL} {r0 : Nat} {Q : HI → HR → HR → HL → Prop} (hs0 : (r0, 16, 0) ∈ L) (hsz0 : sz = z + (r0 + 1)) (h : Su_init I T F L r0 Q) : Met l yX9_init (hws0 yX9_init cX9_init 1 none) { frames := 1, cells := 4, slots := 281, locals := 100 } (hPc D cA z EvC (I, J, T, F, L) sz [.ref (z + r0)]) (va_Qv (pBv J Q) (hB D cA z (hA z L sz)) (hA z L sz)) 4 281 (hA z L sz) := by
  refine hm_met (I, J, T, F, L) [.ref (z + r0)] rfl (by decide) (Nat.le_of_ble_eq_true rfl) ?_
  intro p e s m below meth c ls X hr hlk hnm hxt hsz hw hl
  have hl : lv_has ls 1 [(0, .ref (z + r0))] := hl
  have hnm : meth.name = "<init>" := hnm
  have hR : 1 ≤ ({ frames := 1, cells := 4, slots := 281, locals := 100 } : Room).frames ∧ 100 ≤ ({ frames := 1, cells := 4, slots := 281, locals := 100 } : Room).locals := ⟨Nat.le_refl _, Nat.le_refl _⟩
  have hRc : 4 ≤ ({ frames := 1, cells := 4, slots := 281, locals := 100 } : Room).cells ∧ 281 ≤ ({ frames := 1, cells := 4, slots := 281, locals := 100 } : Room).slots := ⟨Nat.le_refl _, Nat.le_refl _⟩
  generalize ({ frames := 1, cells := 4, slots := 281, locals := 100 } : Room) = R at hR hRc ⊢
  have hsz1 : s.heap.size = z + (r0 + 1) := hsz.trans hsz0
  clear hsz hsz0
  generalize (hA z L sz) = A at hw ⊢
  have hx := X.1
  have hb := X.2.1
  unfold Su_init at h
  refine lv_aload_n hx hb dX9_init_0 rfl (lv_at hl 0 rfl) ?_
  refine hm_obj X kw371 hl.1 ⟨Nat.le_trans (Nat.le_of_ble_eq_true rfl) hR.1, Nat.le_trans (Nat.le_of_ble_eq_true rfl) hR.2⟩ dX9_init_1 ?_
  refine lv_aload_n hx hb dX9_init_4 rfl (lv_at hl 0 rfl) ?_
  refine lv_bipush (v := 8) hx hb dX9_init_5 (by decide) ?_
  refine hm_szK (n0 := r0 + 1) (N := r0) (q := r0 + 1) (hW_lt hw _ hs0) hsz1 rfl rfl (fun ehq1 => ?_)
  refine hm_newa0 (N := 8) X hw ehq1 (by decide) (by decide) (by decide) (Nat.le_trans (Nat.le_of_ble_eq_true rfl) hRc.1) (Nat.le_trans (Nat.le_of_ble_eq_true rfl) hRc.2) dX9_init_7 (fun H hsz hw => ?_)
  have hs0 := List.mem_append_left [(r0 + 1, 0, 8)] hs0
  have ehs2 := mem_last L ((r0 + 1, 0, 8))
  refine hm_putr X hw lk_9_9 (fun _ => ⟨hnm, TX9, 5, rfl, rfl⟩) hs0 rfl rfl dX9_init_9 (fun H locs hw => ?_)
  refine lv_aload_n hx hb dX9_init_12 rfl (lv_at hl 0 rfl) ?_
  refine lv_iconst (v := 0) hx hb dX9_init_13 (by decide) ?_
  refine hm_puti X hw lk_9_15 hs0 rfl rfl dX9_init_14 (fun H locs hw => ?_)
  refine lv_aload_n hx hb dX9_init_17 rfl (lv_at hl 0 rfl) ?_
  refine lv_bipush (v := 8) hx hb dX9_init_18 (by decide) ?_
  refine hm_szK (n0 := r0 + 1) (N := r0 + 1) (q := r0 + 2) (hW_lt hw _ ehs2) hsz1 rfl rfl (fun ehq3 => ?_)
  refine hm_newa0 (N := 8) X hw ehq3 (by decide) (by decide) (by decide) (Nat.le_trans (Nat.le_of_ble_eq_true rfl) hRc.1) (Nat.le_trans (Nat.le_of_ble_eq_true rfl) hRc.2) dX9_init_20 (fun H hsz hw => ?_)
  have hs0 := List.mem_append_left [(r0 + 2, 0, 8)] hs0
  have ehs2 := List.mem_append_left [(r0 + 2, 0, 8)] ehs2
  have ehs4 := mem_last (L ++ [(r0 + 1, 0, 8)]) ((r0 + 2, 0, 8))
  refine hm_putr X hw lk_9_19 (fun _ => ⟨hnm, TX9, 5, rfl, rfl⟩) hs0 rfl rfl dX9_init_22 (fun H locs hw => ?_)
  refine lv_aload_n hx hb dX9_init_25 rfl (lv_at hl 0 rfl) ?_
  refine lv_sipush (v := 256) hx hb dX9_init_26 (by decide) ?_
  refine hm_szK (n0 := r0 + 1) (N := r0 + 2) (q := r0 + 3) (hW_lt hw _ ehs4) hsz1 rfl rfl (fun ehq5 => ?_)
  refine hm_newa0 (N := 256) X hw ehq5 (by decide) (by decide) (by decide) (Nat.le_trans (Nat.le_of_ble_eq_true rfl) hRc.1) (Nat.le_trans (Nat.le_of_ble_eq_true rfl) hRc.2) dX9_init_29 (fun H hsz hw => ?_)
  have hs0 := List.mem_append_left [(r0 + 3, 0, 256)] hs0
  have ehs2 := List.mem_append_left [(r0 + 3, 0, 256)] ehs2
  have ehs4 := List.mem_append_left [(r0 + 3, 0, 256)] ehs4
  have ehs6 := mem_last ((L ++ [(r0 + 1, 0, 8)]) ++ [(r0 + 2, 0, 8)]) ((r0 + 3, 0, 256))
  refine hm_putr X hw lk_9_22 (fun _ => ⟨hnm, TX9, 5, rfl, rfl⟩) hs0 rfl rfl dX9_init_31 (fun H locs hw => ?_)
  refine lv_aload_n hx hb dX9_init_34 rfl (lv_at hl 0 rfl) ?_
  refine lv_bipush (v := 9) hx hb dX9_init_35 (by decide) ?_
  refine hm_szK (n0 := r0 + 1) (N := r0 + 3) (q := r0 + 4) (hW_lt hw _ ehs6) hsz1 rfl rfl (fun ehq7 => ?_)
  refine hm_newa3 (N := 9) X hw ehq7 (by decide) (by decide) (by decide) (Nat.le_trans (Nat.le_of_ble_eq_true rfl) hRc.1) (Nat.le_trans (Nat.le_of_ble_eq_true rfl) hRc.2) dX9_init_37 (fun H hsz hw => ?_)
  have hs0 := List.mem_append_left [(r0 + 4, 3, 9)] hs0
  have ehs2 := List.mem_append_left [(r0 + 4, 3, 9)] ehs2
  have ehs4 := List.mem_append_left [(r0 + 4, 3, 9)] ehs4
  have ehs6 := List.mem_append_left [(r0 + 4, 3, 9)] ehs6
  have ehs8 := mem_last (((L ++ [(r0 + 1, 0, 8)]) ++ [(r0 + 2, 0, 8)]) ++ [(r0 + 3, 0, 256)]) ((r0 + 4, 3, 9))
  refine hm_putr X hw lk_9_25 (fun _ => ⟨hnm, TX9, 5, rfl, rfl⟩) hs0 rfl rfl dX9_init_39 (fun H locs hw => ?_)
  exact hm_vret X hr hlk hw ⟨_, _, _, _, rfl, h⟩ dX9_init_42

theorem cMen_init {l : Launch} {D : va_G} {cA : Nat → ClassId} {z sz : Nat} {I : HI} {T : HR} {F : HR} {L : HL} {r0 : Nat} {Q : HI → HR → HR → HL → Prop} (hs0 : (r0, 11, 0) ∈ L) (hsz0 : sz = z + (r0 + 1)) (h : Men_init I T F L r0 Q) : Met l yX4_init (hws0 yX4_init cX4_init 1 none) { frames := 2, cells := 7, slots := 1316, locals := 120 } (hPc D cA z EvC (I, J, T, F, L) sz [.ref (z + r0)]) (va_Qv (pBv J Q) (hB D cA z (hA z L sz)) (hA z L sz)) 7 1316 (hA z L sz) := by
  refine hm_met (I, J, T, F, L) [.ref (z + r0)] rfl (by decide) (Nat.le_of_ble_eq_true rfl) ?_
  intro p e s m below meth c ls X hr hlk hnm hxt hsz hw hl
  have hl : lv_has ls 1 [(0, .ref (z + r0))] := hl
  have hnm : meth.name = "<init>" := hnm
  have hR : 2 ≤ ({ frames := 2, cells := 7, slots := 1316, locals := 120 } : Room).frames ∧ 120 ≤ ({ frames := 2, cells := 7, slots := 1316, locals := 120 } : Room).locals := ⟨Nat.le_refl _, Nat.le_refl _⟩
  have hRc : 7 ≤ ({ frames := 2, cells := 7, slots := 1316, locals := 120 } : Room).cells ∧ 1316 ≤ ({ frames := 2, cells := 7, slots := 1316, locals := 120 } : Room).slots := ⟨Nat.le_refl _, Nat.le_refl _⟩
  generalize ({ frames := 2, cells := 7, slots := 1316, locals := 120 } : Room) = R at hR hRc ⊢
  have hsz1 : s.heap.size = z + (r0 + 1) := hsz.trans hsz0
  clear hsz hsz0
  generalize (hA z L sz) = A at hw ⊢
  have hx := X.1
  have hb := X.2.1
  unfold Men_init at h
  refine lv_aload_n hx hb dX4_init_0 rfl (lv_at hl 0 rfl) ?_
  refine hm_obj X kw420 hl.1 ⟨Nat.le_trans (Nat.le_of_ble_eq_true rfl) hR.1, Nat.le_trans (Nat.le_of_ble_eq_true rfl) hR.2⟩ dX4_init_1 ?_
  refine lv_aload_n hx hb dX4_init_4 rfl (lv_at hl 0 rfl) ?_
  refine lv_sipush (v := 1280) hx hb dX4_init_5 (by decide) ?_
  refine hm_szK (n0 := r0 + 1) (N := r0) (q := r0 + 1) (hW_lt hw _ hs0) hsz1 rfl rfl (fun ehq1 => ?_)
  refine hm_newa0 (N := 1280) X hw ehq1 (by decide) (by decide) (by decide) (Nat.le_trans (Nat.le_of_ble_eq_true rfl) hRc.1) (Nat.le_trans (Nat.le_of_ble_eq_true rfl) hRc.2) dX4_init_8 (fun H hsz hw => ?_)
  have hs0 := List.mem_append_left [(r0 + 1, 0, 1280)] hs0
  have ehs2 := mem_last L ((r0 + 1, 0, 1280))
  refine hm_putr X hw lk_4_11 (fun _ => ⟨hnm, TX4, 3, rfl, rfl⟩) hs0 rfl rfl dX4_init_10 (fun H locs hw => ?_)
  refine lv_aload_n hx hb dX4_init_13 rfl (lv_at hl 0 rfl) ?_
  refine hm_szK (n0 := r0 + 1) (N := r0 + 1) (q := r0 + 2) (hW_lt hw _ ehs2) hsz1 rfl rfl (fun ehq3 => ?_)
  refine hm_newC X hw hn_4_15 ehq3 (Nat.le_trans (Nat.le_of_ble_eq_true rfl) hRc.1) (Nat.le_trans (Nat.le_of_ble_eq_true rfl) hRc.2) dX4_init_14 (fun H hsz hw => ?_)
  have hs0 := List.mem_append_left [(r0 + 2, 14, 0)] hs0
  have ehs2 := List.mem_append_left [(r0 + 2, 14, 0)] ehs2
  have ehs4 := mem_last (L ++ [(r0 + 1, 0, 1280)]) ((r0 + 2, 14, 0))
  refine lv_dup hx hb dX4_init_17 rfl ?_
  refine hm_callvA hw (hm_runIN (rest := [_, _]) EvC_cl X hw (cSc_init ehs4 hsz h) yi_X7_init (hw.2.2.2.2.2.1 _ ng_4_17) rfl hl.1 rfl rfl rfl (Nat.le_of_ble_eq_true rfl) ⟨Nat.le_trans (Nat.le_of_ble_eq_true rfl) hR.1, Nat.le_trans (Nat.le_of_ble_eq_true rfl) hR.2⟩ ⟨Nat.le_trans (Nat.le_of_ble_eq_true rfl) hRc.1, Nat.le_trans (Nat.le_of_ble_eq_true rfl) hRc.2⟩ dX4_init_18) (fun u9 H locs hp hw => ?_)
  obtain ⟨I5, T6, F7, L8, rfl, h⟩ := hp
  obtain ⟨hs0, ehs4, ehs10, h⟩ := h
  refine hm_putr X hw lk_4_18 (fun _ => ⟨hnm, TX4, 3, rfl, rfl⟩) hs0 rfl rfl dX4_init_21 (fun H locs hw => ?_)
  refine lv_aload_n hx hb dX4_init_24 rfl (lv_at hl 0 rfl) ?_
  refine hm_szK (n0 := r0 + 1) (N := r0 + 4) (q := r0 + 5) (hW_lt hw _ ehs10) hsz1 rfl rfl (fun ehq11 => ?_)
  refine hm_newC X hw hn_4_15 ehq11 (Nat.le_trans (Nat.le_of_ble_eq_true rfl) hRc.1) (Nat.le_trans (Nat.le_of_ble_eq_true rfl) hRc.2) dX4_init_25 (fun H hsz hw => ?_)
  have hs0 := List.mem_append_left [(r0 + 5, 14, 0)] hs0
  have ehs4 := List.mem_append_left [(r0 + 5, 14, 0)] ehs4
  have ehs10 := List.mem_append_left [(r0 + 5, 14, 0)] ehs10
  have ehs12 := mem_last L8 ((r0 + 5, 14, 0))
  refine lv_dup hx hb dX4_init_28 rfl ?_
  refine hm_callvA hw (hm_runIN (rest := [_, _]) EvC_cl X hw (cSc_init ehs12 hsz h) yi_X7_init (hw.2.2.2.2.2.1 _ ng_4_17) rfl hl.1 rfl rfl rfl (Nat.le_of_ble_eq_true rfl) ⟨Nat.le_trans (Nat.le_of_ble_eq_true rfl) hR.1, Nat.le_trans (Nat.le_of_ble_eq_true rfl) hR.2⟩ ⟨Nat.le_trans (Nat.le_of_ble_eq_true rfl) hRc.1, Nat.le_trans (Nat.le_of_ble_eq_true rfl) hRc.2⟩ dX4_init_29) (fun u17 H locs hp hw => ?_)
  obtain ⟨I13, T14, F15, L16, rfl, h⟩ := hp
  obtain ⟨hs0, ehs12, ehs18, h⟩ := h
  refine hm_putr X hw lk_4_22 (fun _ => ⟨hnm, TX4, 3, rfl, rfl⟩) hs0 rfl rfl dX4_init_32 (fun H locs hw => ?_)
  exact hm_vret X hr hlk hw ⟨_, _, _, _, rfl, h⟩ dX4_init_35

theorem wkH_keep_b33 {I : HI} {T : HR} {F : HR} {L : HL} {x1 : Int32} {Q : Int32 → HI → HR → HR → HL → Prop} (X : hX p m c s args RX10 cX10_keep 2) (hr : meth.sig.returnType = (some .boolean)) (hlk : meth.locks = false) (hnm : meth.name = "keep") (hR : 6 ≤ R.frames ∧ 130 ≤ R.locals) (hRc : 9 ≤ R.cells ∧ 8257 ≤ R.slots) (hG : Geo F L)  : ∀ {ls : Array Slot} {H : Heap} {locs : List Loc}, H_keep_b33 I T F L x1 Q → hW D cA z EvC (I, J, T, F, L) A s H locs → lv_has ls 2 [(0, .ref (z + 0)), (1, .int x1)] → W p l e R s m args below meth c H locs 9 8257 (MQ below (va_Qi (pB J Q) (hB D cA z A) A) args s 9 8257 A) (F0 m 33 ls []) := by
  have hx := X.1
  have hb := X.2.1
  intro ls H locs h hw hl
  unfold H_keep_b33 at h
  refine lv_aload_n hx hb dX10_keep_33 rfl (lv_at hl 0 rfl) ?_
  refine hm_getr X hw lk_10_19 (gl_0 hG) (gf_0_2 hG) dX10_keep_34 ?_
  refine lv_iload_n hx hb dX10_keep_37 rfl (lv_at hl 1 rfl) ?_
  obtain ⟨hi, h⟩ := h
  refine hm_aldq6 X hw (gl_19 hG) hi dX10_keep_38 ?_
  refine lv_aload_n hx hb dX10_keep_39 rfl (lv_at hl 0 rfl) ?_
  refine hm_getr X hw lk_10_10 (gl_0 hG) (gf_0_0 hG) dX10_keep_40 ?_
  obtain ⟨ef2, he, ehn3, h⟩ := h
  rw [he]
  refine hm_callv hw (hm_runV (rest := []) EvC_cl X hw (cNet_copy EvC_cl ehn3 (geo_net hG) h) yk_X5_copy kw826 rfl ehn3.1 rfl hl.1 rfl rfl rfl (Nat.le_of_ble_eq_true rfl) ⟨Nat.le_trans (Nat.le_of_ble_eq_true rfl) hR.1, Nat.le_trans (Nat.le_of_ble_eq_true rfl) hR.2⟩ ⟨Nat.le_trans (Nat.le_of_ble_eq_true rfl) hRc.1, Nat.le_trans (Nat.le_of_ble_eq_true rfl) hRc.2⟩ dX10_keep_43) (fun u6 H locs hp hw => ?_)
  obtain ⟨I4, T5, rfl, h⟩ := hp
  refine lv_iconst (v := 1) hx hb dX10_keep_46 (by decide) ?_
  exact hm_zret X hr hlk hw zb_1 ⟨_, _, _, _, rfl, h⟩ dX10_keep_47

theorem cH_keep {l : Launch} {D : va_G} {cA : Nat → ClassId} {z sz : Nat} {I : HI} {T : HR} {F : HR} {L : HL} {x1 : Int32} {Q : Int32 → HI → HR → HR → HL → Prop} (hG : Geo F L) (h : H_keep I T F L x1 Q) : Met l yX10_keep (hws0 yX10_keep cX10_keep 2 (some .boolean)) { frames := 6, cells := 9, slots := 8257, locals := 130 } (hPc D cA z EvC (I, J, T, F, L) sz [.ref (z + 0), .int x1]) (va_Qi (pB J Q) (hB D cA z (hA z L sz)) (hA z L sz)) 9 8257 (hA z L sz) := by
  refine hm_met (I, J, T, F, L) [.ref (z + 0), .int x1] rfl (by decide) (Nat.le_of_ble_eq_true rfl) ?_
  intro p e s m below meth c ls X hr hlk hnm hxt hsz hw hl
  have hl : lv_has ls 2 [(0, .ref (z + 0)), (1, .int x1)] := hl
  have hnm : meth.name = "keep" := hnm
  have hR : 6 ≤ ({ frames := 6, cells := 9, slots := 8257, locals := 130 } : Room).frames ∧ 130 ≤ ({ frames := 6, cells := 9, slots := 8257, locals := 130 } : Room).locals := ⟨Nat.le_refl _, Nat.le_refl _⟩
  have hRc : 9 ≤ ({ frames := 6, cells := 9, slots := 8257, locals := 130 } : Room).cells ∧ 8257 ≤ ({ frames := 6, cells := 9, slots := 8257, locals := 130 } : Room).slots := ⟨Nat.le_refl _, Nat.le_refl _⟩
  generalize ({ frames := 6, cells := 9, slots := 8257, locals := 130 } : Room) = R at hR hRc ⊢
  clear hsz
  generalize (hA z L sz) = A at hw ⊢
  have hx := X.1
  have hb := X.2.1
  unfold H_keep at h
  refine lv_iload_n hx hb dX10_keep_0 rfl (lv_at hl 1 rfl) ?_
  refine lv_if_lt (tgt := 9) hx hb dX10_keep_1 (by decide) (fun hc => ?_) (fun hc => ?_)
  · have h := Eq.mp (if_pos hc) h
    refine lv_iconst (v := 0) hx hb dX10_keep_9 (by decide) ?_
    refine W.widen (k := 9) (n := 8257) (Nat.le_of_ble_eq_true rfl) (Nat.le_of_ble_eq_true rfl) ?_
    exact hm_zret X hr hlk hw zb_0 ⟨_, _, _, _, rfl, h⟩ dX10_keep_10
  · have h := Eq.mp (if_neg hc) h
    refine lv_iload_n hx hb dX10_keep_4 rfl (lv_at hl 1 rfl) ?_
    refine lv_iconst (v := 4) hx hb dX10_keep_5 (by decide) ?_
    refine lv_icmp_lt (tgt := 11) hx hb dX10_keep_6 (by decide) (fun hc => ?_) (fun hc => ?_)
    · have h := Eq.mp (if_pos hc) h
      refine lv_aload_n hx hb dX10_keep_11 rfl (lv_at hl 0 rfl) ?_
      refine hm_getr X hw lk_10_19 (gl_0 hG) (gf_0_2 hG) dX10_keep_12 ?_
      refine lv_iload_n hx hb dX10_keep_15 rfl (lv_at hl 1 rfl) ?_
      obtain ⟨hi, h⟩ := h
      refine hm_aldq6 X hw (gl_19 hG) hi dX10_keep_16 ?_
      refine hm_ifnonnull (tgt := 33) hx hb dX10_keep_17 (by decide) (fun ef1 he => ?_) (fun he => ?_)
      · have h := h.2 ef1 he
        refine W.widen (k := 9) (n := 8257) (Nat.le_of_ble_eq_true rfl) (Nat.le_of_ble_eq_true rfl) ?_
        exact wkH_keep_b33 X hr hlk hnm hR hRc hG  h hw (lv_sub hl [0, 1] rfl)
      · have h := h.1 he
        refine lv_aload_n hx hb dX10_keep_20 rfl (lv_at hl 0 rfl) ?_
        refine hm_getr X hw lk_10_19 (gl_0 hG) (gf_0_2 hG) dX10_keep_21 ?_
        refine lv_iload_n hx hb dX10_keep_24 rfl (lv_at hl 1 rfl) ?_
        obtain ⟨eq7, ehq8, ehf9⟩ := hW_q hw (gl_0 hG)
        have h := h eq7 ehf9
        refine hm_newC X hw hn_10_7 ehq8 (Nat.le_trans (Nat.le_of_ble_eq_true rfl) hRc.1) (Nat.le_trans (Nat.le_of_ble_eq_true rfl) hRc.2) dX10_keep_25 (fun H hsz hw => ?_)
        have hG := geo_ext (Ext.up1 (fun _ => none) [(eq7, 12, 0)] ehf9) hG
        have ehs10 := mem_last L ((eq7, 12, 0))
        refine lv_dup hx hb dX10_keep_28 rfl ?_
        refine hm_callvA hw (hm_runI (rest := [_, _, _]) EvC_cl X hw (cNet_init ehs10 hsz h) yi_X5_init kw136 rfl hl.1 rfl rfl rfl (Nat.le_of_ble_eq_true rfl) ⟨Nat.le_trans (Nat.le_of_ble_eq_true rfl) hR.1, Nat.le_trans (Nat.le_of_ble_eq_true rfl) hR.2⟩ ⟨Nat.le_trans (Nat.le_of_ble_eq_true rfl) hRc.1, Nat.le_trans (Nat.le_of_ble_eq_true rfl) hRc.2⟩ dX10_keep_29) (fun u15 H locs hp hw => ?_)
        obtain ⟨I11, T12, F13, L14, rfl, h⟩ := hp
        obtain ⟨hG, ehs10, h⟩ := h
        obtain ⟨hi, h⟩ := h
        refine hm_astq6 (v := (some eq7)) X hw (gl_19 hG) (fun f h => by cases h; exact ehs10) hi dX10_keep_32 (fun H locs hw => ?_)
        exact wkH_keep_b33 X hr hlk hnm hR hRc hG  h hw (lv_sub hl [0, 1] rfl)
    · have h := Eq.mp (if_neg hc) h
      refine lv_iconst (v := 0) hx hb dX10_keep_9 (by decide) ?_
      refine W.widen (k := 9) (n := 8257) (Nat.le_of_ble_eq_true rfl) (Nat.le_of_ble_eq_true rfl) ?_
      exact hm_zret X hr hlk hw zb_0 ⟨_, _, _, _, rfl, h⟩ dX10_keep_10

end
