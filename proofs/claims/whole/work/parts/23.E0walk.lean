theorem dJ7_copyOf_59c91_0 : decode cJ7_copyOf_59c91 0 = .ok (.iload_n 1, 1) := by decide +kernel
theorem dJ7_copyOf_59c91_1 : decode cJ7_copyOf_59c91 1 = .ok (.aload_n 0, 1) := by decide +kernel
theorem dJ7_copyOf_59c91_2 : decode cJ7_copyOf_59c91 2 = .ok (.arraylength, 1) := by decide +kernel
theorem dJ7_copyOf_59c91_3 : decode cJ7_copyOf_59c91 3 = .ok (.if_icmp .ne 11, 3) := by decide +kernel
theorem dJ7_copyOf_59c91_6 : decode cJ7_copyOf_59c91 6 = .ok (.aload_n 0, 1) := by decide +kernel
theorem dJ7_copyOf_59c91_7 : decode cJ7_copyOf_59c91 7 = .ok (.invokevirtual 316, 3) := by decide +kernel
theorem dJ7_copyOf_59c91_10 : decode cJ7_copyOf_59c91 10 = .ok (.checkcast 317, 3) := by decide +kernel
theorem dJ7_copyOf_59c91_13 : decode cJ7_copyOf_59c91 13 = .ok (.areturn, 1) := by decide +kernel
theorem dJ7_copyOf_59c91_14 : decode cJ7_copyOf_59c91 14 = .ok (.iload_n 1, 1) := by decide +kernel
theorem dJ7_copyOf_59c91_15 : decode cJ7_copyOf_59c91 15 = .ok (.newarray .int, 2) := by decide +kernel
theorem dJ7_copyOf_59c91_17 : decode cJ7_copyOf_59c91 17 = .ok (.astore_n 2, 1) := by decide +kernel
theorem dJ7_copyOf_59c91_18 : decode cJ7_copyOf_59c91 18 = .ok (.aload_n 0, 1) := by decide +kernel
theorem dJ7_copyOf_59c91_19 : decode cJ7_copyOf_59c91 19 = .ok (.iconst 0, 1) := by decide +kernel
theorem dJ7_copyOf_59c91_20 : decode cJ7_copyOf_59c91 20 = .ok (.aload_n 2, 1) := by decide +kernel
theorem dJ7_copyOf_59c91_21 : decode cJ7_copyOf_59c91 21 = .ok (.iconst 0, 1) := by decide +kernel
theorem dJ7_copyOf_59c91_22 : decode cJ7_copyOf_59c91 22 = .ok (.aload_n 0, 1) := by decide +kernel
theorem dJ7_copyOf_59c91_23 : decode cJ7_copyOf_59c91 23 = .ok (.arraylength, 1) := by decide +kernel
theorem dJ7_copyOf_59c91_24 : decode cJ7_copyOf_59c91 24 = .ok (.iload_n 1, 1) := by decide +kernel
theorem dJ7_copyOf_59c91_25 : decode cJ7_copyOf_59c91 25 = .ok (.invokestatic 304, 3) := by decide +kernel
theorem dJ7_copyOf_59c91_28 : decode cJ7_copyOf_59c91 28 = .ok (.invokestatic 150, 3) := by decide +kernel
theorem dJ7_copyOf_59c91_31 : decode cJ7_copyOf_59c91 31 = .ok (.aload_n 2, 1) := by decide +kernel
theorem dJ7_copyOf_59c91_32 : decode cJ7_copyOf_59c91 32 = .ok (.areturn, 1) := by decide +kernel
theorem dX1_init_0 : decode cX1_init 0 = .ok (.aload_n 0, 1) := by decide +kernel
theorem dX1_init_1 : decode cX1_init 1 = .ok (.invokespecial 3, 3) := by decide +kernel
theorem dX1_init_4 : decode cX1_init 4 = .ok (.aload_n 0, 1) := by decide +kernel
theorem dX1_init_5 : decode cX1_init 5 = .ok (.aload_n 1, 1) := by decide +kernel
theorem dX1_init_6 : decode cX1_init 6 = .ok (.putfield 9, 3) := by decide +kernel
theorem dX1_init_9 : decode cX1_init 9 = .ok (.aload_n 0, 1) := by decide +kernel
theorem dX1_init_10 : decode cX1_init 10 = .ok (.aload_n 2, 1) := by decide +kernel
theorem dX1_init_11 : decode cX1_init 11 = .ok (.putfield 15, 3) := by decide +kernel
theorem dX1_init_14 : decode cX1_init 14 = .ok (.aload_n 0, 1) := by decide +kernel
theorem dX1_init_15 : decode cX1_init 15 = .ok (.aload_n 3, 1) := by decide +kernel
theorem dX1_init_16 : decode cX1_init 16 = .ok (.putfield 18, 3) := by decide +kernel
theorem dX1_init_19 : decode cX1_init 19 = .ok (.aload_n 0, 1) := by decide +kernel
theorem dX1_init_20 : decode cX1_init 20 = .ok (.iload 4, 2) := by decide +kernel
theorem dX1_init_22 : decode cX1_init 22 = .ok (.putfield 21, 3) := by decide +kernel
theorem dX1_init_25 : decode cX1_init 25 = .ok (.aload_n 0, 1) := by decide +kernel
theorem dX1_init_26 : decode cX1_init 26 = .ok (.aload_n 1, 1) := by decide +kernel
theorem dX1_init_27 : decode cX1_init 27 = .ok (.arraylength, 1) := by decide +kernel
theorem dX1_init_28 : decode cX1_init 28 = .ok (.newarray .int, 2) := by decide +kernel
theorem dX1_init_30 : decode cX1_init 30 = .ok (.putfield 25, 3) := by decide +kernel
theorem dX1_init_33 : decode cX1_init 33 = .ok (.return_, 1) := by decide +kernel
theorem dX1_ofFirstInLine_0 : decode cX1_ofFirstInLine 0 = .ok (.new 10, 3) := by decide +kernel
theorem dX1_ofFirstInLine_3 : decode cX1_ofFirstInLine 3 = .ok (.dup, 1) := by decide +kernel
theorem dX1_ofFirstInLine_4 : decode cX1_ofFirstInLine 4 = .ok (.iconst 1, 1) := by decide +kernel
theorem dX1_ofFirstInLine_5 : decode cX1_ofFirstInLine 5 = .ok (.newarray .int, 2) := by decide +kernel
theorem dX1_ofFirstInLine_7 : decode cX1_ofFirstInLine 7 = .ok (.dup, 1) := by decide +kernel
theorem dX1_ofFirstInLine_8 : decode cX1_ofFirstInLine 8 = .ok (.iconst 0, 1) := by decide +kernel
theorem dX1_ofFirstInLine_9 : decode cX1_ofFirstInLine 9 = .ok (.sipush 149, 3) := by decide +kernel
theorem dX1_ofFirstInLine_12 : decode cX1_ofFirstInLine 12 = .ok (.iastore, 1) := by decide +kernel
theorem dX1_ofFirstInLine_13 : decode cX1_ofFirstInLine 13 = .ok (.iconst 1, 1) := by decide +kernel
theorem dX1_ofFirstInLine_14 : decode cX1_ofFirstInLine 14 = .ok (.newarray .int, 2) := by decide +kernel
theorem dX1_ofFirstInLine_16 : decode cX1_ofFirstInLine 16 = .ok (.dup, 1) := by decide +kernel
theorem dX1_ofFirstInLine_17 : decode cX1_ofFirstInLine 17 = .ok (.iconst 0, 1) := by decide +kernel
theorem dX1_ofFirstInLine_18 : decode cX1_ofFirstInLine 18 = .ok (.iconst 0, 1) := by decide +kernel
theorem dX1_ofFirstInLine_19 : decode cX1_ofFirstInLine 19 = .ok (.iastore, 1) := by decide +kernel
theorem dX1_ofFirstInLine_20 : decode cX1_ofFirstInLine 20 = .ok (.iconst 1, 1) := by decide +kernel
theorem dX1_ofFirstInLine_21 : decode cX1_ofFirstInLine 21 = .ok (.newarray .int, 2) := by decide +kernel
theorem dX1_ofFirstInLine_23 : decode cX1_ofFirstInLine 23 = .ok (.dup, 1) := by decide +kernel
theorem dX1_ofFirstInLine_24 : decode cX1_ofFirstInLine 24 = .ok (.iconst 0, 1) := by decide +kernel
theorem dX1_ofFirstInLine_25 : decode cX1_ofFirstInLine 25 = .ok (.iconst 0, 1) := by decide +kernel
theorem dX1_ofFirstInLine_26 : decode cX1_ofFirstInLine 26 = .ok (.iastore, 1) := by decide +kernel
theorem dX1_ofFirstInLine_27 : decode cX1_ofFirstInLine 27 = .ok (.iconst 0, 1) := by decide +kernel
theorem dX1_ofFirstInLine_28 : decode cX1_ofFirstInLine 28 = .ok (.invokespecial 30, 3) := by decide +kernel
theorem dX1_ofFirstInLine_31 : decode cX1_ofFirstInLine 31 = .ok (.areturn, 1) := by decide +kernel
theorem dX1_ofNextInLine_0 : decode cX1_ofNextInLine 0 = .ok (.bipush 7, 2) := by decide +kernel
theorem dX1_ofNextInLine_2 : decode cX1_ofNextInLine 2 = .ok (.newarray .int, 2) := by decide +kernel
theorem dX1_ofNextInLine_4 : decode cX1_ofNextInLine 4 = .ok (.dup, 1) := by decide +kernel
theorem dX1_ofNextInLine_5 : decode cX1_ofNextInLine 5 = .ok (.iconst 0, 1) := by decide +kernel
theorem dX1_ofNextInLine_6 : decode cX1_ofNextInLine 6 = .ok (.sipush 148, 3) := by decide +kernel
theorem dX1_ofNextInLine_9 : decode cX1_ofNextInLine 9 = .ok (.iastore, 1) := by decide +kernel
theorem dX1_ofNextInLine_10 : decode cX1_ofNextInLine 10 = .ok (.dup, 1) := by decide +kernel
theorem dX1_ofNextInLine_11 : decode cX1_ofNextInLine 11 = .ok (.iconst 1, 1) := by decide +kernel
theorem dX1_ofNextInLine_12 : decode cX1_ofNextInLine 12 = .ok (.sipush 149, 3) := by decide +kernel
theorem dX1_ofNextInLine_15 : decode cX1_ofNextInLine 15 = .ok (.iastore, 1) := by decide +kernel
theorem dX1_ofNextInLine_16 : decode cX1_ofNextInLine 16 = .ok (.dup, 1) := by decide +kernel
theorem dX1_ofNextInLine_17 : decode cX1_ofNextInLine 17 = .ok (.iconst 2, 1) := by decide +kernel
theorem dX1_ofNextInLine_18 : decode cX1_ofNextInLine 18 = .ok (.bipush 45, 2) := by decide +kernel
theorem dX1_ofNextInLine_20 : decode cX1_ofNextInLine 20 = .ok (.iastore, 1) := by decide +kernel
theorem dX1_ofNextInLine_21 : decode cX1_ofNextInLine 21 = .ok (.dup, 1) := by decide +kernel
theorem dX1_ofNextInLine_22 : decode cX1_ofNextInLine 22 = .ok (.iconst 3, 1) := by decide +kernel
theorem dX1_ofNextInLine_23 : decode cX1_ofNextInLine 23 = .ok (.sipush 150, 3) := by decide +kernel
theorem dX1_ofNextInLine_26 : decode cX1_ofNextInLine 26 = .ok (.iastore, 1) := by decide +kernel
theorem dX1_ofNextInLine_27 : decode cX1_ofNextInLine 27 = .ok (.dup, 1) := by decide +kernel
theorem dX1_ofNextInLine_28 : decode cX1_ofNextInLine 28 = .ok (.iconst 4, 1) := by decide +kernel
theorem dX1_ofNextInLine_29 : decode cX1_ofNextInLine 29 = .ok (.sipush 148, 3) := by decide +kernel
theorem dX1_ofNextInLine_32 : decode cX1_ofNextInLine 32 = .ok (.iastore, 1) := by decide +kernel
theorem dX1_ofNextInLine_33 : decode cX1_ofNextInLine 33 = .ok (.dup, 1) := by decide +kernel
theorem dX1_ofNextInLine_34 : decode cX1_ofNextInLine 34 = .ok (.iconst 5, 1) := by decide +kernel
theorem dX1_ofNextInLine_35 : decode cX1_ofNextInLine 35 = .ok (.bipush 45, 2) := by decide +kernel
theorem dX1_ofNextInLine_37 : decode cX1_ofNextInLine 37 = .ok (.iastore, 1) := by decide +kernel
theorem dX1_ofNextInLine_38 : decode cX1_ofNextInLine 38 = .ok (.dup, 1) := by decide +kernel
theorem dX1_ofNextInLine_39 : decode cX1_ofNextInLine 39 = .ok (.bipush 6, 2) := by decide +kernel
theorem dX1_ofNextInLine_41 : decode cX1_ofNextInLine 41 = .ok (.bipush 45, 2) := by decide +kernel
theorem dX1_ofNextInLine_43 : decode cX1_ofNextInLine 43 = .ok (.iastore, 1) := by decide +kernel
theorem dX1_ofNextInLine_44 : decode cX1_ofNextInLine 44 = .ok (.astore_n 0, 1) := by decide +kernel
theorem dX1_ofNextInLine_45 : decode cX1_ofNextInLine 45 = .ok (.bipush 7, 2) := by decide +kernel
theorem dX1_ofNextInLine_47 : decode cX1_ofNextInLine 47 = .ok (.newarray .int, 2) := by decide +kernel
theorem dX1_ofNextInLine_49 : decode cX1_ofNextInLine 49 = .ok (.dup, 1) := by decide +kernel
theorem dX1_ofNextInLine_50 : decode cX1_ofNextInLine 50 = .ok (.iconst 0, 1) := by decide +kernel
theorem dX1_ofNextInLine_51 : decode cX1_ofNextInLine 51 = .ok (.iconst 0, 1) := by decide +kernel
theorem dX1_ofNextInLine_52 : decode cX1_ofNextInLine 52 = .ok (.iastore, 1) := by decide +kernel
theorem dX1_ofNextInLine_53 : decode cX1_ofNextInLine 53 = .ok (.dup, 1) := by decide +kernel
theorem dX1_ofNextInLine_54 : decode cX1_ofNextInLine 54 = .ok (.iconst 1, 1) := by decide +kernel
theorem dX1_ofNextInLine_55 : decode cX1_ofNextInLine 55 = .ok (.iconst 0, 1) := by decide +kernel
theorem dX1_ofNextInLine_56 : decode cX1_ofNextInLine 56 = .ok (.iastore, 1) := by decide +kernel
theorem dX1_ofNextInLine_57 : decode cX1_ofNextInLine 57 = .ok (.dup, 1) := by decide +kernel
theorem dX1_ofNextInLine_58 : decode cX1_ofNextInLine 58 = .ok (.iconst 2, 1) := by decide +kernel
theorem dX1_ofNextInLine_59 : decode cX1_ofNextInLine 59 = .ok (.iconst 0, 1) := by decide +kernel
theorem dX1_ofNextInLine_60 : decode cX1_ofNextInLine 60 = .ok (.iastore, 1) := by decide +kernel
theorem dX1_ofNextInLine_61 : decode cX1_ofNextInLine 61 = .ok (.dup, 1) := by decide +kernel
theorem dX1_ofNextInLine_62 : decode cX1_ofNextInLine 62 = .ok (.iconst 3, 1) := by decide +kernel
theorem dX1_ofNextInLine_63 : decode cX1_ofNextInLine 63 = .ok (.iconst 0, 1) := by decide +kernel
theorem dX1_ofNextInLine_64 : decode cX1_ofNextInLine 64 = .ok (.iastore, 1) := by decide +kernel
theorem dX1_ofNextInLine_65 : decode cX1_ofNextInLine 65 = .ok (.dup, 1) := by decide +kernel
theorem dX1_ofNextInLine_66 : decode cX1_ofNextInLine 66 = .ok (.iconst 4, 1) := by decide +kernel
theorem dX1_ofNextInLine_67 : decode cX1_ofNextInLine 67 = .ok (.iconst 0, 1) := by decide +kernel
theorem dX1_ofNextInLine_68 : decode cX1_ofNextInLine 68 = .ok (.iastore, 1) := by decide +kernel
theorem dX1_ofNextInLine_69 : decode cX1_ofNextInLine 69 = .ok (.dup, 1) := by decide +kernel
theorem dX1_ofNextInLine_70 : decode cX1_ofNextInLine 70 = .ok (.iconst 5, 1) := by decide +kernel
theorem dX1_ofNextInLine_71 : decode cX1_ofNextInLine 71 = .ok (.iconst 3, 1) := by decide +kernel
theorem dX1_ofNextInLine_72 : decode cX1_ofNextInLine 72 = .ok (.iastore, 1) := by decide +kernel
theorem dX1_ofNextInLine_73 : decode cX1_ofNextInLine 73 = .ok (.dup, 1) := by decide +kernel
theorem dX1_ofNextInLine_74 : decode cX1_ofNextInLine 74 = .ok (.bipush 6, 2) := by decide +kernel
theorem dX1_ofNextInLine_76 : decode cX1_ofNextInLine 76 = .ok (.iconst 2, 1) := by decide +kernel
theorem dX1_ofNextInLine_77 : decode cX1_ofNextInLine 77 = .ok (.iastore, 1) := by decide +kernel
theorem dX1_ofNextInLine_78 : decode cX1_ofNextInLine 78 = .ok (.astore_n 1, 1) := by decide +kernel
theorem dX1_ofNextInLine_79 : decode cX1_ofNextInLine 79 = .ok (.bipush 7, 2) := by decide +kernel
theorem dX1_ofNextInLine_81 : decode cX1_ofNextInLine 81 = .ok (.newarray .int, 2) := by decide +kernel
theorem dX1_ofNextInLine_83 : decode cX1_ofNextInLine 83 = .ok (.dup, 1) := by decide +kernel
theorem dX1_ofNextInLine_84 : decode cX1_ofNextInLine 84 = .ok (.iconst 0, 1) := by decide +kernel
theorem dX1_ofNextInLine_85 : decode cX1_ofNextInLine 85 = .ok (.iconst 0, 1) := by decide +kernel
theorem dX1_ofNextInLine_86 : decode cX1_ofNextInLine 86 = .ok (.iastore, 1) := by decide +kernel
theorem dX1_ofNextInLine_87 : decode cX1_ofNextInLine 87 = .ok (.dup, 1) := by decide +kernel
theorem dX1_ofNextInLine_88 : decode cX1_ofNextInLine 88 = .ok (.iconst 1, 1) := by decide +kernel
theorem dX1_ofNextInLine_89 : decode cX1_ofNextInLine 89 = .ok (.iconst 0, 1) := by decide +kernel
theorem dX1_ofNextInLine_90 : decode cX1_ofNextInLine 90 = .ok (.iastore, 1) := by decide +kernel
theorem dX1_ofNextInLine_91 : decode cX1_ofNextInLine 91 = .ok (.dup, 1) := by decide +kernel
theorem dX1_ofNextInLine_92 : decode cX1_ofNextInLine 92 = .ok (.iconst 2, 1) := by decide +kernel
theorem dX1_ofNextInLine_93 : decode cX1_ofNextInLine 93 = .ok (.iconst 1, 1) := by decide +kernel
theorem dX1_ofNextInLine_94 : decode cX1_ofNextInLine 94 = .ok (.iastore, 1) := by decide +kernel
theorem dX1_ofNextInLine_95 : decode cX1_ofNextInLine 95 = .ok (.dup, 1) := by decide +kernel
theorem dX1_ofNextInLine_96 : decode cX1_ofNextInLine 96 = .ok (.iconst 3, 1) := by decide +kernel
theorem dX1_ofNextInLine_97 : decode cX1_ofNextInLine 97 = .ok (.iconst 0, 1) := by decide +kernel
theorem dX1_ofNextInLine_98 : decode cX1_ofNextInLine 98 = .ok (.iastore, 1) := by decide +kernel
theorem dX1_ofNextInLine_99 : decode cX1_ofNextInLine 99 = .ok (.dup, 1) := by decide +kernel
theorem dX1_ofNextInLine_100 : decode cX1_ofNextInLine 100 = .ok (.iconst 4, 1) := by decide +kernel
theorem dX1_ofNextInLine_101 : decode cX1_ofNextInLine 101 = .ok (.iconst 0, 1) := by decide +kernel
theorem dX1_ofNextInLine_102 : decode cX1_ofNextInLine 102 = .ok (.iastore, 1) := by decide +kernel
theorem dX1_ofNextInLine_103 : decode cX1_ofNextInLine 103 = .ok (.dup, 1) := by decide +kernel
theorem dX1_ofNextInLine_104 : decode cX1_ofNextInLine 104 = .ok (.iconst 5, 1) := by decide +kernel
theorem dX1_ofNextInLine_105 : decode cX1_ofNextInLine 105 = .ok (.iconst 4, 1) := by decide +kernel
theorem dX1_ofNextInLine_106 : decode cX1_ofNextInLine 106 = .ok (.iastore, 1) := by decide +kernel
theorem dX1_ofNextInLine_107 : decode cX1_ofNextInLine 107 = .ok (.dup, 1) := by decide +kernel
theorem dX1_ofNextInLine_108 : decode cX1_ofNextInLine 108 = .ok (.bipush 6, 2) := by decide +kernel
theorem dX1_ofNextInLine_110 : decode cX1_ofNextInLine 110 = .ok (.iconst 5, 1) := by decide +kernel
theorem dX1_ofNextInLine_111 : decode cX1_ofNextInLine 111 = .ok (.iastore, 1) := by decide +kernel
theorem dX1_ofNextInLine_112 : decode cX1_ofNextInLine 112 = .ok (.astore_n 2, 1) := by decide +kernel
theorem dX1_ofNextInLine_113 : decode cX1_ofNextInLine 113 = .ok (.new 10, 3) := by decide +kernel
theorem dX1_ofNextInLine_116 : decode cX1_ofNextInLine 116 = .ok (.dup, 1) := by decide +kernel
theorem dX1_ofNextInLine_117 : decode cX1_ofNextInLine 117 = .ok (.aload_n 0, 1) := by decide +kernel
theorem dX1_ofNextInLine_118 : decode cX1_ofNextInLine 118 = .ok (.aload_n 1, 1) := by decide +kernel
theorem dX1_ofNextInLine_119 : decode cX1_ofNextInLine 119 = .ok (.aload_n 2, 1) := by decide +kernel
theorem dX1_ofNextInLine_120 : decode cX1_ofNextInLine 120 = .ok (.iconst 0, 1) := by decide +kernel
theorem dX1_ofNextInLine_121 : decode cX1_ofNextInLine 121 = .ok (.invokespecial 30, 3) := by decide +kernel
theorem dX1_ofNextInLine_124 : decode cX1_ofNextInLine 124 = .ok (.areturn, 1) := by decide +kernel
theorem dX6_readRule_0 : decode cX6_readRule 0 = .ok (.aload_n 0, 1) := by decide +kernel
theorem dX6_readRule_1 : decode cX6_readRule 1 = .ok (.invokevirtual 58, 3) := by decide +kernel
theorem dX6_readRule_4 : decode cX6_readRule 4 = .ok (.aload_n 0, 1) := by decide +kernel
theorem dX6_readRule_5 : decode cX6_readRule 5 = .ok (.aload_n 0, 1) := by decide +kernel
theorem dX6_readRule_6 : decode cX6_readRule 6 = .ok (.getfield 31, 3) := by decide +kernel
theorem dX6_readRule_9 : decode cX6_readRule 9 = .ok (.invokevirtual 68, 3) := by decide +kernel
theorem dX6_readRule_12 : decode cX6_readRule 12 = .ok (.istore_n 1, 1) := by decide +kernel
theorem dX6_readRule_13 : decode cX6_readRule 13 = .ok (.iconst 0, 1) := by decide +kernel
theorem dX6_readRule_14 : decode cX6_readRule 14 = .ok (.istore_n 2, 1) := by decide +kernel
theorem dX6_readRule_15 : decode cX6_readRule 15 = .ok (.aload_n 0, 1) := by decide +kernel
theorem dX6_readRule_16 : decode cX6_readRule 16 = .ok (.iconst 0, 1) := by decide +kernel
theorem dX6_readRule_17 : decode cX6_readRule 17 = .ok (.putfield 55, 3) := by decide +kernel
theorem dX6_readRule_20 : decode cX6_readRule 20 = .ok (.aload_n 0, 1) := by decide +kernel
theorem dX6_readRule_21 : decode cX6_readRule 21 = .ok (.getfield 40, 3) := by decide +kernel
theorem dX6_readRule_24 : decode cX6_readRule 24 = .ok (.sipush 142, 3) := by decide +kernel
theorem dX6_readRule_27 : decode cX6_readRule 27 = .ok (.if_icmp .ne 18, 3) := by decide +kernel
theorem dX6_readRule_30 : decode cX6_readRule 30 = .ok (.aload_n 0, 1) := by decide +kernel
theorem dX6_readRule_31 : decode cX6_readRule 31 = .ok (.invokevirtual 58, 3) := by decide +kernel
theorem dX6_readRule_34 : decode cX6_readRule 34 = .ok (.aload_n 0, 1) := by decide +kernel
theorem dX6_readRule_35 : decode cX6_readRule 35 = .ok (.iconst 0, 1) := by decide +kernel
theorem dX6_readRule_36 : decode cX6_readRule 36 = .ok (.invokevirtual 72, 3) := by decide +kernel
theorem dX6_readRule_39 : decode cX6_readRule 39 = .ok (.pop, 1) := by decide +kernel
theorem dX6_readRule_40 : decode cX6_readRule 40 = .ok (.aload_n 0, 1) := by decide +kernel
theorem dX6_readRule_41 : decode cX6_readRule 41 = .ok (.getfield 55, 3) := by decide +kernel
theorem dX6_readRule_44 : decode cX6_readRule 44 = .ok (.istore_n 2, 1) := by decide +kernel
theorem dX6_readRule_45 : decode cX6_readRule 45 = .ok (.aload_n 0, 1) := by decide +kernel
theorem dX6_readRule_46 : decode cX6_readRule 46 = .ok (.sipush 143, 3) := by decide +kernel
theorem dX6_readRule_49 : decode cX6_readRule 49 = .ok (.invokevirtual 75, 3) := by decide +kernel
theorem dX6_readRule_52 : decode cX6_readRule 52 = .ok (.aload_n 0, 1) := by decide +kernel
theorem dX6_readRule_53 : decode cX6_readRule 53 = .ok (.iconst 0, 1) := by decide +kernel
theorem dX6_readRule_54 : decode cX6_readRule 54 = .ok (.invokevirtual 72, 3) := by decide +kernel
theorem dX6_readRule_57 : decode cX6_readRule 57 = .ok (.pop, 1) := by decide +kernel
theorem dX6_readRule_58 : decode cX6_readRule 58 = .ok (.aload_n 0, 1) := by decide +kernel
theorem dX6_readRule_59 : decode cX6_readRule 59 = .ok (.bipush 59, 2) := by decide +kernel
theorem dX6_readRule_61 : decode cX6_readRule 61 = .ok (.invokevirtual 75, 3) := by decide +kernel
theorem dX6_readRule_64 : decode cX6_readRule 64 = .ok (.aload_n 0, 1) := by decide +kernel
theorem dX6_readRule_65 : decode cX6_readRule 65 = .ok (.getfield 40, 3) := by decide +kernel
theorem dX6_readRule_68 : decode cX6_readRule 68 = .ok (.sipush 130, 3) := by decide +kernel
theorem dX6_readRule_71 : decode cX6_readRule 71 = .ok (.if_icmp .eq 50, 3) := by decide +kernel
theorem dX6_readRule_74 : decode cX6_readRule 74 = .ok (.aload_n 0, 1) := by decide +kernel
theorem dX6_readRule_75 : decode cX6_readRule 75 = .ok (.getfield 20, 3) := by decide +kernel
theorem dX6_readRule_78 : decode cX6_readRule 78 = .ok (.iload_n 1, 1) := by decide +kernel
theorem dX6_readRule_79 : decode cX6_readRule 79 = .ok (.new 18, 3) := by decide +kernel
theorem dX6_readRule_82 : decode cX6_readRule 82 = .ok (.dup, 1) := by decide +kernel
theorem dX6_readRule_83 : decode cX6_readRule 83 = .ok (.aload_n 0, 1) := by decide +kernel
theorem dX6_readRule_84 : decode cX6_readRule 84 = .ok (.getfield 46, 3) := by decide +kernel
theorem dX6_readRule_87 : decode cX6_readRule 87 = .ok (.aload_n 0, 1) := by decide +kernel
theorem dX6_readRule_88 : decode cX6_readRule 88 = .ok (.getfield 55, 3) := by decide +kernel
theorem dX6_readRule_91 : decode cX6_readRule 91 = .ok (.invokestatic 78, 3) := by decide +kernel
theorem dX6_readRule_94 : decode cX6_readRule 94 = .ok (.aload_n 0, 1) := by decide +kernel
theorem dX6_readRule_95 : decode cX6_readRule 95 = .ok (.getfield 49, 3) := by decide +kernel
theorem dX6_readRule_98 : decode cX6_readRule 98 = .ok (.aload_n 0, 1) := by decide +kernel
theorem dX6_readRule_99 : decode cX6_readRule 99 = .ok (.getfield 55, 3) := by decide +kernel
theorem dX6_readRule_102 : decode cX6_readRule 102 = .ok (.invokestatic 78, 3) := by decide +kernel
theorem dX6_readRule_105 : decode cX6_readRule 105 = .ok (.aload_n 0, 1) := by decide +kernel
theorem dX6_readRule_106 : decode cX6_readRule 106 = .ok (.getfield 52, 3) := by decide +kernel
theorem dX6_readRule_109 : decode cX6_readRule 109 = .ok (.aload_n 0, 1) := by decide +kernel
theorem dX6_readRule_110 : decode cX6_readRule 110 = .ok (.getfield 55, 3) := by decide +kernel
theorem dX6_readRule_113 : decode cX6_readRule 113 = .ok (.invokestatic 78, 3) := by decide +kernel
theorem dX6_readRule_116 : decode cX6_readRule 116 = .ok (.iload_n 2, 1) := by decide +kernel
theorem dX6_readRule_117 : decode cX6_readRule 117 = .ok (.invokespecial 84, 3) := by decide +kernel
theorem dX6_readRule_120 : decode cX6_readRule 120 = .ok (.aastore, 1) := by decide +kernel
theorem dX6_readRule_121 : decode cX6_readRule 121 = .ok (.return_, 1) := by decide +kernel
section
variable {p : Program} {l : Launch} {e : Env} {R : Room} {s : State} {m : MethodId} {args : Array Value} {below : List Frame} {meth : Method} {c : Code} {D : va_G} {cA : Nat → ClassId} {z : Nat} {A : Nat → Prop} {J : HJ}
theorem cJd_copyOf {l : Launch} {D : va_G} {cA : Nat → ClassId} {z sz : Nat} {I : HI} {T : HR} {F : HR} {L : HL} {r0 : Nat} {n0 : Nat} {x1 : Int32} {Q : Nat → HI → HR → HR → HL → Prop} (hs0 : (r0, 0, n0) ∈ L) (h : Jd_copyOf I T F L r0 n0 x1 Q) : Met l yJ7_copyOf_59c91 (hws0 yJ7_copyOf_59c91 cJ7_copyOf_59c91 3 (some (.array .int))) { frames := 1, cells := 1, slots := nx x1, locals := 100 } (hPc D cA z EvC (I, J, T, F, L) sz [.ref (z + r0), .int x1]) (hQr D cA z (pB J Q) (hA z L sz) (hA z L sz)) 1 (nx x1) (hA z L sz) := by
  refine hm_metF (I, J, T, F, L) [.ref (z + r0), .int x1] rfl (by decide +kernel) (Nat.le_of_ble_eq_true rfl) ?_
  intro p e s m below meth c ls X hr hlk hnm hxt hsz hw hl
  have hl : lv_has ls 3 [(0, .ref (z + r0)), (1, .int x1)] := hl
  have hnm : meth.name = "copyOf" := hnm
  have hR : 1 ≤ ({ frames := 1, cells := 1, slots := nx x1, locals := 100 } : Room).frames ∧ 100 ≤ ({ frames := 1, cells := 1, slots := nx x1, locals := 100 } : Room).locals := ⟨Nat.le_refl _, Nat.le_refl _⟩
  have hRc : 1 ≤ ({ frames := 1, cells := 1, slots := nx x1, locals := 100 } : Room).cells ∧ nx x1 ≤ ({ frames := 1, cells := 1, slots := nx x1, locals := 100 } : Room).slots := ⟨Nat.le_refl _, Nat.le_refl _⟩
  generalize ({ frames := 1, cells := 1, slots := nx x1, locals := 100 } : Room) = R at hR hRc ⊢
  clear hsz
  generalize (hA z L sz) = A at hw ⊢
  have hx := X.1
  have hb := X.2.1
  unfold Jd_copyOf at h
  refine lv_iload_n hx hb dJ7_copyOf_59c91_0 rfl (lv_at hl 1 rfl) ?_
  refine lv_aload_n hx hb dJ7_copyOf_59c91_1 rfl (lv_at hl 0 rfl) ?_
  refine hm_alen0 X hw hs0 dJ7_copyOf_59c91_2 ?_
  refine lv_icmp_ne (tgt := 14) hx hb dJ7_copyOf_59c91_3 (by decide) (fun hc => ?_) (fun hc => ?_)
  · have h := Eq.mp (if_neg hc) h
    refine lv_iload_n hx hb dJ7_copyOf_59c91_14 rfl (lv_at hl 1 rfl) ?_
    obtain ⟨eq1, ehq2, ehf3⟩ := hW_q hw hs0
    have h := h eq1 ehf3
    obtain ⟨hbn, hbm, h⟩ := h
    refine hm_newa0 (N := nx x1) X hw ehq2 hbn rfl (by omega) (Nat.le_trans (Nat.le_of_ble_eq_true rfl) hRc.1) (Nat.le_trans (Nat.le_of_eq (Nat.zero_add _)) hRc.2) dJ7_copyOf_59c91_15 (fun H hsz hw => ?_)
    have hs0 := List.mem_append_left [(eq1, 0, nx x1)] hs0
    have ehs4 := mem_last L ((eq1, 0, nx x1))
    refine lv_astore_n (lv' := [(2, _), (0, _), (1, _)]) hx hb dJ7_copyOf_59c91_17 rfl hl (by decide) rfl (fun ls hl => ?_)
    refine lv_aload_n hx hb dJ7_copyOf_59c91_18 rfl (lv_at hl 1 rfl) ?_
    refine lv_iconst (v := 0) hx hb dJ7_copyOf_59c91_19 (by decide) ?_
    refine lv_aload_n hx hb dJ7_copyOf_59c91_20 rfl (lv_at hl 0 rfl) ?_
    refine lv_iconst (v := 0) hx hb dJ7_copyOf_59c91_21 (by decide) ?_
    refine lv_aload_n hx hb dJ7_copyOf_59c91_22 rfl (lv_at hl 1 rfl) ?_
    refine hm_alen0 X hw hs0 dJ7_copyOf_59c91_23 ?_
    refine lv_iload_n hx hb dJ7_copyOf_59c91_24 rfl (lv_at hl 2 rfl) ?_
    refine hm_calli hw (hm_runS (rest := [_, _, _, _]) EvC_cl X hw (cJd_min EvC_cl h) yk_J9_min_7cf53 kw1026 rfl hl.1 rfl rfl rfl (Nat.le_of_ble_eq_true rfl) ⟨Nat.le_trans (Nat.le_of_ble_eq_true rfl) hR.1, Nat.le_trans (Nat.le_of_ble_eq_true rfl) hR.2⟩ ⟨Nat.le_trans (Nat.le_of_ble_eq_true rfl) hRc.1, Nat.le_trans (Nat.le_of_eq (Nat.zero_add _)) hRc.2⟩ dJ7_copyOf_59c91_25) (fun a5 u6 H locs hp hw => ?_)
    obtain ⟨rfl, h⟩ := hp
    obtain ⟨hq7, hq8, hq9, h⟩ := h
    refine hm_cpy X hw 0 (Or.inl rfl) ⟨hl.2.1, hl.1⟩ kw1027 hs0 ehs4 (by decide) (by decide) hq7 hq8 hq9 (Or.inl rfl) ⟨Nat.le_trans (Nat.le_of_ble_eq_true rfl) hR.1, Nat.le_trans (by decide) hR.2⟩ dJ7_copyOf_59c91_28 (fun H locs hw => ?_)
    refine lv_aload_n hx hb dJ7_copyOf_59c91_31 rfl (lv_at hl 0 rfl) ?_
    refine W.widen (k := 1) (n := nx x1) (Nat.le_of_ble_eq_true rfl) (Nat.le_of_eq (Nat.zero_add _)) ?_
    exact hm_aret X hr (Or.inr ⟨_, rfl⟩) hlk hw ⟨_, _, _, _, rfl, h⟩ dJ7_copyOf_59c91_32
  · have h := Eq.mp (if_pos hc) h
    refine lv_aload_n hx hb dJ7_copyOf_59c91_6 rfl (lv_at hl 0 rfl) ?_
    exact False.elim h

theorem cFrm_init {l : Launch} {D : va_G} {cA : Nat → ClassId} {z sz : Nat} {I : HI} {T : HR} {F : HR} {L : HL} {f0 : Nat} {r1 : Nat} {n1 : Nat} {r2 : Nat} {n2 : Nat} {r3 : Nat} {n3 : Nat} {x4 : Int32} {Q : HI → HR → HR → HL → Prop} (hs0 : (f0, 8, 0) ∈ L) (hs1 : (r1, 0, n1) ∈ L) (hs2 : (r2, 0, n2) ∈ L) (hs3 : (r3, 0, n3) ∈ L) (h : Frm_init I T F L f0 r1 n1 r2 n2 r3 n3 x4 Q) : Met l yX1_init (hws0 yX1_init cX1_init 5 none) { frames := 1, cells := 1, slots := n1, locals := 100 } (hPc D cA z EvC (I, J, T, F, L) sz [.ref (z + f0), .ref (z + r1), .ref (z + r2), .ref (z + r3), .int x4]) (va_Qv (pBv J Q) (hB D cA z (hA z L sz)) (hA z L sz)) 1 n1 (hA z L sz) := by
  refine hm_met (I, J, T, F, L) [.ref (z + f0), .ref (z + r1), .ref (z + r2), .ref (z + r3), .int x4] rfl (by decide) (Nat.le_of_ble_eq_true rfl) ?_
  intro p e s m below meth c ls X hr hlk hnm hxt hsz hw hl
  have hl : lv_has ls 5 [(0, .ref (z + f0)), (1, .ref (z + r1)), (2, .ref (z + r2)), (3, .ref (z + r3)), (4, .int x4)] := hl
  have hnm : meth.name = "<init>" := hnm
  have hR : 1 ≤ ({ frames := 1, cells := 1, slots := n1, locals := 100 } : Room).frames ∧ 100 ≤ ({ frames := 1, cells := 1, slots := n1, locals := 100 } : Room).locals := ⟨Nat.le_refl _, Nat.le_refl _⟩
  have hRc : 1 ≤ ({ frames := 1, cells := 1, slots := n1, locals := 100 } : Room).cells ∧ n1 ≤ ({ frames := 1, cells := 1, slots := n1, locals := 100 } : Room).slots := ⟨Nat.le_refl _, Nat.le_refl _⟩
  generalize ({ frames := 1, cells := 1, slots := n1, locals := 100 } : Room) = R at hR hRc ⊢
  clear hsz
  generalize (hA z L sz) = A at hw ⊢
  have hx := X.1
  have hb := X.2.1
  unfold Frm_init at h
  refine lv_aload_n hx hb dX1_init_0 rfl (lv_at hl 0 rfl) ?_
  refine hm_obj X kw441 hl.1 ⟨Nat.le_trans (Nat.le_of_ble_eq_true rfl) hR.1, Nat.le_trans (Nat.le_of_ble_eq_true rfl) hR.2⟩ dX1_init_1 ?_
  refine lv_aload_n hx hb dX1_init_4 rfl (lv_at hl 0 rfl) ?_
  refine lv_aload_n hx hb dX1_init_5 rfl (lv_at hl 1 rfl) ?_
  refine hm_putr X hw lk_1_9 (fun _ => ⟨hnm, TX1, 5, rfl, rfl⟩) hs0 rfl rfl dX1_init_6 (fun H locs hw => ?_)
  refine lv_aload_n hx hb dX1_init_9 rfl (lv_at hl 0 rfl) ?_
  refine lv_aload_n hx hb dX1_init_10 rfl (lv_at hl 2 rfl) ?_
  refine hm_putr X hw lk_1_15 (fun _ => ⟨hnm, TX1, 5, rfl, rfl⟩) hs0 rfl rfl dX1_init_11 (fun H locs hw => ?_)
  refine lv_aload_n hx hb dX1_init_14 rfl (lv_at hl 0 rfl) ?_
  refine lv_aload_n hx hb dX1_init_15 rfl (lv_at hl 3 rfl) ?_
  refine hm_putr X hw lk_1_18 (fun _ => ⟨hnm, TX1, 5, rfl, rfl⟩) hs0 rfl rfl dX1_init_16 (fun H locs hw => ?_)
  refine lv_aload_n hx hb dX1_init_19 rfl (lv_at hl 0 rfl) ?_
  refine lv_iload hx hb dX1_init_20 (lv_at hl 4 rfl) ?_
  refine hm_putiF X hw lk_1_21 ⟨hnm, TX1, 5, rfl, rfl⟩ hs0 rfl rfl dX1_init_22 (fun H locs hw => ?_)
  refine lv_aload_n hx hb dX1_init_25 rfl (lv_at hl 0 rfl) ?_
  refine lv_aload_n hx hb dX1_init_26 rfl (lv_at hl 1 rfl) ?_
  refine hm_alen0 X hw hs1 dX1_init_27 ?_
  obtain ⟨eq1, ehq2, ehf3⟩ := hW_q hw hs0
  have h := h eq1 ehf3
  obtain ⟨hbn, h⟩ := h
  refine hm_newa0 (N := n1) X hw ehq2 (nI_pos (by omega)) (nI_clamp (by omega)) (by omega) (Nat.le_trans (Nat.le_of_ble_eq_true rfl) hRc.1) (Nat.le_trans (Nat.le_of_eq (Nat.zero_add _)) hRc.2) dX1_init_28 (fun H hsz hw => ?_)
  have hs0 := List.mem_append_left [(eq1, 0, n1)] hs0
  have hs1 := List.mem_append_left [(eq1, 0, n1)] hs1
  have hs2 := List.mem_append_left [(eq1, 0, n1)] hs2
  have hs3 := List.mem_append_left [(eq1, 0, n1)] hs3
  have ehs4 := mem_last L ((eq1, 0, n1))
  refine hm_putr X hw lk_1_25 (fun _ => ⟨hnm, TX1, 5, rfl, rfl⟩) hs0 rfl rfl dX1_init_30 (fun H locs hw => ?_)
  refine W.widen (k := 1) (n := n1) (Nat.le_of_ble_eq_true rfl) (Nat.le_of_eq (Nat.zero_add _)) ?_
  exact hm_vret X hr hlk hw ⟨_, _, _, _, rfl, h⟩ dX1_init_33

theorem cFrm_ofFirstInLine {l : Launch} {D : va_G} {cA : Nat → ClassId} {z sz : Nat} {I : HI} {T : HR} {F : HR} {L : HL}  {Q : Nat → HI → HR → HR → HL → Prop} (hG : Geo F L) (h : Frm_ofFirstInLine I T F L  Q) : Met l yX1_ofFirstInLine (hws0 yX1_ofFirstInLine cX1_ofFirstInLine 0 (some (.object "HatHall$Formula"))) { frames := 2, cells := 5, slots := 9, locals := 124 } (hPc D cA z EvC (I, J, T, F, L) sz []) (hQr D cA z (pB J Q) (hA z L sz) (hA z L sz)) 5 9 (hA z L sz) := by
  refine hm_met (I, J, T, F, L) [] rfl (by decide) (Nat.le_of_ble_eq_true rfl) ?_
  intro p e s m below meth c ls X hr hlk hnm hxt hsz hw hl
  have hl : lv_has ls 0 [] := hl
  have hnm : meth.name = "ofFirstInLine" := hnm
  have hR : 2 ≤ ({ frames := 2, cells := 5, slots := 9, locals := 124 } : Room).frames ∧ 124 ≤ ({ frames := 2, cells := 5, slots := 9, locals := 124 } : Room).locals := ⟨Nat.le_refl _, Nat.le_refl _⟩
  have hRc : 5 ≤ ({ frames := 2, cells := 5, slots := 9, locals := 124 } : Room).cells ∧ 9 ≤ ({ frames := 2, cells := 5, slots := 9, locals := 124 } : Room).slots := ⟨Nat.le_refl _, Nat.le_refl _⟩
  generalize ({ frames := 2, cells := 5, slots := 9, locals := 124 } : Room) = R at hR hRc ⊢
  clear hsz
  generalize (hA z L sz) = A at hw ⊢
  have hx := X.1
  have hb := X.2.1
  unfold Frm_ofFirstInLine at h
  obtain ⟨eq1, ehq2, ehf3⟩ := hW_q hw (gl_0 hG)
  have h := h eq1 ehf3
  refine hm_newC X hw hn_1_10 ehq2 (Nat.le_trans (Nat.le_of_ble_eq_true rfl) hRc.1) (Nat.le_trans (Nat.le_of_ble_eq_true rfl) hRc.2) dX1_ofFirstInLine_0 (fun H hsz hw => ?_)
  have hG := geo_ext (Ext.up1 (fun _ => none) [(eq1, 8, 0)] ehf3) hG
  have ehs4 := mem_last L ((eq1, 8, 0))
  refine lv_dup hx hb dX1_ofFirstInLine_3 rfl ?_
  refine lv_iconst (v := 1) hx hb dX1_ofFirstInLine_4 (by decide) ?_
  obtain ⟨eq5, ehq6, ehf7⟩ := hW_q hw ehs4
  have h := h eq5 ehf7
  refine hm_newa0 (N := 1) X hw ehq6 (by decide) (by decide) (by decide) (Nat.le_trans (Nat.le_of_ble_eq_true rfl) hRc.1) (Nat.le_trans (Nat.le_of_ble_eq_true rfl) hRc.2) dX1_ofFirstInLine_5 (fun H hsz hw => ?_)
  have ehs4 := List.mem_append_left [(eq5, 0, 1)] ehs4
  have hG := geo_ext (Ext.app [(eq5, 0, 1)]) hG
  have ehs8 := mem_last (L ++ [(eq1, 8, 0)]) ((eq5, 0, 1))
  refine lv_dup hx hb dX1_ofFirstInLine_7 rfl ?_
  refine lv_iconst (v := 0) hx hb dX1_ofFirstInLine_8 (by decide) ?_
  refine lv_sipush (v := 149) hx hb dX1_ofFirstInLine_9 (by decide) ?_
  refine hm_iast X hw ehs8 (by unfold vp_in; decide) dX1_ofFirstInLine_12 (fun H locs hw => ?_)
  refine lv_iconst (v := 1) hx hb dX1_ofFirstInLine_13 (by decide) ?_
  obtain ⟨eq9, ehq10, ehf11⟩ := hW_q hw ehs4
  have h := h eq9 ehf11
  refine hm_newa0 (N := 1) X hw ehq10 (by decide) (by decide) (by decide) (Nat.le_trans (Nat.le_of_ble_eq_true rfl) hRc.1) (Nat.le_trans (Nat.le_of_ble_eq_true rfl) hRc.2) dX1_ofFirstInLine_14 (fun H hsz hw => ?_)
  have ehs4 := List.mem_append_left [(eq9, 0, 1)] ehs4
  have ehs8 := List.mem_append_left [(eq9, 0, 1)] ehs8
  have hG := geo_ext (Ext.app [(eq9, 0, 1)]) hG
  have ehs12 := mem_last ((L ++ [(eq1, 8, 0)]) ++ [(eq5, 0, 1)]) ((eq9, 0, 1))
  refine lv_dup hx hb dX1_ofFirstInLine_16 rfl ?_
  refine lv_iconst (v := 0) hx hb dX1_ofFirstInLine_17 (by decide) ?_
  refine lv_iconst (v := 0) hx hb dX1_ofFirstInLine_18 (by decide) ?_
  refine hm_iast X hw ehs12 (by unfold vp_in; decide) dX1_ofFirstInLine_19 (fun H locs hw => ?_)
  refine lv_iconst (v := 1) hx hb dX1_ofFirstInLine_20 (by decide) ?_
  obtain ⟨eq13, ehq14, ehf15⟩ := hW_q hw ehs4
  have h := h eq13 ehf15
  refine hm_newa0 (N := 1) X hw ehq14 (by decide) (by decide) (by decide) (Nat.le_trans (Nat.le_of_ble_eq_true rfl) hRc.1) (Nat.le_trans (Nat.le_of_ble_eq_true rfl) hRc.2) dX1_ofFirstInLine_21 (fun H hsz hw => ?_)
  have ehs4 := List.mem_append_left [(eq13, 0, 1)] ehs4
  have ehs8 := List.mem_append_left [(eq13, 0, 1)] ehs8
  have ehs12 := List.mem_append_left [(eq13, 0, 1)] ehs12
  have hG := geo_ext (Ext.app [(eq13, 0, 1)]) hG
  have ehs16 := mem_last (((L ++ [(eq1, 8, 0)]) ++ [(eq5, 0, 1)]) ++ [(eq9, 0, 1)]) ((eq13, 0, 1))
  refine lv_dup hx hb dX1_ofFirstInLine_23 rfl ?_
  refine lv_iconst (v := 0) hx hb dX1_ofFirstInLine_24 (by decide) ?_
  refine lv_iconst (v := 0) hx hb dX1_ofFirstInLine_25 (by decide) ?_
  refine hm_iast X hw ehs16 (by unfold vp_in; decide) dX1_ofFirstInLine_26 (fun H locs hw => ?_)
  refine lv_iconst (v := 0) hx hb dX1_ofFirstInLine_27 (by decide) ?_
  refine hm_callvA hw (hm_runI (rest := [_]) EvC_cl X hw (cFrm_init ehs4 ehs8 ehs12 ehs16 h) yi_X1_init kw438 rfl hl.1 rfl rfl rfl (Nat.le_of_ble_eq_true rfl) ⟨Nat.le_trans (Nat.le_of_ble_eq_true rfl) hR.1, Nat.le_trans (Nat.le_of_ble_eq_true rfl) hR.2⟩ ⟨Nat.le_trans (Nat.le_of_ble_eq_true rfl) hRc.1, Nat.le_trans (Nat.le_of_ble_eq_true rfl) hRc.2⟩ dX1_ofFirstInLine_28) (fun u21 H locs hp hw => ?_)
  obtain ⟨I17, T18, F19, L20, rfl, h⟩ := hp
  obtain ⟨hG, ehs4, h⟩ := h
  exact hm_aret X hr (Or.inl ⟨_, rfl⟩) hlk hw ⟨_, _, _, _, rfl, h⟩ dX1_ofFirstInLine_31

theorem cFrm_ofNextInLine {l : Launch} {D : va_G} {cA : Nat → ClassId} {z sz : Nat} {I : HI} {T : HR} {F : HR} {L : HL}  {Q : Nat → HI → HR → HR → HL → Prop} (hG : Geo F L) (h : Frm_ofNextInLine I T F L  Q) : Met l yX1_ofNextInLine (hws0 yX1_ofNextInLine cX1_ofNextInLine 3 (some (.object "HatHall$Formula"))) { frames := 2, cells := 5, slots := 33, locals := 124 } (hPc D cA z EvC (I, J, T, F, L) sz []) (hQr D cA z (pB J Q) (hA z L sz) (hA z L sz)) 5 33 (hA z L sz) := by
  refine hm_met (I, J, T, F, L) [] rfl (by decide) (Nat.le_of_ble_eq_true rfl) ?_
  intro p e s m below meth c ls X hr hlk hnm hxt hsz hw hl
  have hl : lv_has ls 3 [] := hl
  have hnm : meth.name = "ofNextInLine" := hnm
  have hR : 2 ≤ ({ frames := 2, cells := 5, slots := 33, locals := 124 } : Room).frames ∧ 124 ≤ ({ frames := 2, cells := 5, slots := 33, locals := 124 } : Room).locals := ⟨Nat.le_refl _, Nat.le_refl _⟩
  have hRc : 5 ≤ ({ frames := 2, cells := 5, slots := 33, locals := 124 } : Room).cells ∧ 33 ≤ ({ frames := 2, cells := 5, slots := 33, locals := 124 } : Room).slots := ⟨Nat.le_refl _, Nat.le_refl _⟩
  generalize ({ frames := 2, cells := 5, slots := 33, locals := 124 } : Room) = R at hR hRc ⊢
  clear hsz
  generalize (hA z L sz) = A at hw ⊢
  have hx := X.1
  have hb := X.2.1
  unfold Frm_ofNextInLine at h
  refine lv_bipush (v := 7) hx hb dX1_ofNextInLine_0 (by decide) ?_
  obtain ⟨eq1, ehq2, ehf3⟩ := hW_q hw (gl_0 hG)
  have h := h eq1 ehf3
  refine hm_newa0 (N := 7) X hw ehq2 (by decide) (by decide) (by decide) (Nat.le_trans (Nat.le_of_ble_eq_true rfl) hRc.1) (Nat.le_trans (Nat.le_of_ble_eq_true rfl) hRc.2) dX1_ofNextInLine_2 (fun H hsz hw => ?_)
  have hG := geo_ext (Ext.app [(eq1, 0, 7)]) hG
  have ehs4 := mem_last L ((eq1, 0, 7))
  refine lv_dup hx hb dX1_ofNextInLine_4 rfl ?_
  refine lv_iconst (v := 0) hx hb dX1_ofNextInLine_5 (by decide) ?_
  refine lv_sipush (v := 148) hx hb dX1_ofNextInLine_6 (by decide) ?_
  refine hm_iast X hw ehs4 (by unfold vp_in; decide) dX1_ofNextInLine_9 (fun H locs hw => ?_)
  refine lv_dup hx hb dX1_ofNextInLine_10 rfl ?_
  refine lv_iconst (v := 1) hx hb dX1_ofNextInLine_11 (by decide) ?_
  refine lv_sipush (v := 149) hx hb dX1_ofNextInLine_12 (by decide) ?_
  refine hm_iast X hw ehs4 (by unfold vp_in; decide) dX1_ofNextInLine_15 (fun H locs hw => ?_)
  refine lv_dup hx hb dX1_ofNextInLine_16 rfl ?_
  refine lv_iconst (v := 2) hx hb dX1_ofNextInLine_17 (by decide) ?_
  refine lv_bipush (v := 45) hx hb dX1_ofNextInLine_18 (by decide) ?_
  refine hm_iast X hw ehs4 (by unfold vp_in; decide) dX1_ofNextInLine_20 (fun H locs hw => ?_)
  refine lv_dup hx hb dX1_ofNextInLine_21 rfl ?_
  refine lv_iconst (v := 3) hx hb dX1_ofNextInLine_22 (by decide) ?_
  refine lv_sipush (v := 150) hx hb dX1_ofNextInLine_23 (by decide) ?_
  refine hm_iast X hw ehs4 (by unfold vp_in; decide) dX1_ofNextInLine_26 (fun H locs hw => ?_)
  refine lv_dup hx hb dX1_ofNextInLine_27 rfl ?_
  refine lv_iconst (v := 4) hx hb dX1_ofNextInLine_28 (by decide) ?_
  refine lv_sipush (v := 148) hx hb dX1_ofNextInLine_29 (by decide) ?_
  refine hm_iast X hw ehs4 (by unfold vp_in; decide) dX1_ofNextInLine_32 (fun H locs hw => ?_)
  refine lv_dup hx hb dX1_ofNextInLine_33 rfl ?_
  refine lv_iconst (v := 5) hx hb dX1_ofNextInLine_34 (by decide) ?_
  refine lv_bipush (v := 45) hx hb dX1_ofNextInLine_35 (by decide) ?_
  refine hm_iast X hw ehs4 (by unfold vp_in; decide) dX1_ofNextInLine_37 (fun H locs hw => ?_)
  refine lv_dup hx hb dX1_ofNextInLine_38 rfl ?_
  refine lv_bipush (v := 6) hx hb dX1_ofNextInLine_39 (by decide) ?_
  refine lv_bipush (v := 45) hx hb dX1_ofNextInLine_41 (by decide) ?_
  refine hm_iast X hw ehs4 (by unfold vp_in; decide) dX1_ofNextInLine_43 (fun H locs hw => ?_)
  refine lv_astore_n (lv' := [(0, _)]) hx hb dX1_ofNextInLine_44 rfl hl (by decide) rfl (fun ls hl => ?_)
  refine lv_bipush (v := 7) hx hb dX1_ofNextInLine_45 (by decide) ?_
  obtain ⟨eq5, ehq6, ehf7⟩ := hW_q hw ehs4
  have h := h eq5 ehf7
  refine hm_newa0 (N := 7) X hw ehq6 (by decide) (by decide) (by decide) (Nat.le_trans (Nat.le_of_ble_eq_true rfl) hRc.1) (Nat.le_trans (Nat.le_of_ble_eq_true rfl) hRc.2) dX1_ofNextInLine_47 (fun H hsz hw => ?_)
  have ehs4 := List.mem_append_left [(eq5, 0, 7)] ehs4
  have hG := geo_ext (Ext.app [(eq5, 0, 7)]) hG
  have ehs8 := mem_last (L ++ [(eq1, 0, 7)]) ((eq5, 0, 7))
  refine lv_dup hx hb dX1_ofNextInLine_49 rfl ?_
  refine lv_iconst (v := 0) hx hb dX1_ofNextInLine_50 (by decide) ?_
  refine lv_iconst (v := 0) hx hb dX1_ofNextInLine_51 (by decide) ?_
  refine hm_iast X hw ehs8 (by unfold vp_in; decide) dX1_ofNextInLine_52 (fun H locs hw => ?_)
  refine lv_dup hx hb dX1_ofNextInLine_53 rfl ?_
  refine lv_iconst (v := 1) hx hb dX1_ofNextInLine_54 (by decide) ?_
  refine lv_iconst (v := 0) hx hb dX1_ofNextInLine_55 (by decide) ?_
  refine hm_iast X hw ehs8 (by unfold vp_in; decide) dX1_ofNextInLine_56 (fun H locs hw => ?_)
  refine lv_dup hx hb dX1_ofNextInLine_57 rfl ?_
  refine lv_iconst (v := 2) hx hb dX1_ofNextInLine_58 (by decide) ?_
  refine lv_iconst (v := 0) hx hb dX1_ofNextInLine_59 (by decide) ?_
  refine hm_iast X hw ehs8 (by unfold vp_in; decide) dX1_ofNextInLine_60 (fun H locs hw => ?_)
  refine lv_dup hx hb dX1_ofNextInLine_61 rfl ?_
  refine lv_iconst (v := 3) hx hb dX1_ofNextInLine_62 (by decide) ?_
  refine lv_iconst (v := 0) hx hb dX1_ofNextInLine_63 (by decide) ?_
  refine hm_iast X hw ehs8 (by unfold vp_in; decide) dX1_ofNextInLine_64 (fun H locs hw => ?_)
  refine lv_dup hx hb dX1_ofNextInLine_65 rfl ?_
  refine lv_iconst (v := 4) hx hb dX1_ofNextInLine_66 (by decide) ?_
  refine lv_iconst (v := 0) hx hb dX1_ofNextInLine_67 (by decide) ?_
  refine hm_iast X hw ehs8 (by unfold vp_in; decide) dX1_ofNextInLine_68 (fun H locs hw => ?_)
  refine lv_dup hx hb dX1_ofNextInLine_69 rfl ?_
  refine lv_iconst (v := 5) hx hb dX1_ofNextInLine_70 (by decide) ?_
  refine lv_iconst (v := 3) hx hb dX1_ofNextInLine_71 (by decide) ?_
  refine hm_iast X hw ehs8 (by unfold vp_in; decide) dX1_ofNextInLine_72 (fun H locs hw => ?_)
  refine lv_dup hx hb dX1_ofNextInLine_73 rfl ?_
  refine lv_bipush (v := 6) hx hb dX1_ofNextInLine_74 (by decide) ?_
  refine lv_iconst (v := 2) hx hb dX1_ofNextInLine_76 (by decide) ?_
  refine hm_iast X hw ehs8 (by unfold vp_in; decide) dX1_ofNextInLine_77 (fun H locs hw => ?_)
  refine lv_astore_n (lv' := [(1, _), (0, _)]) hx hb dX1_ofNextInLine_78 rfl hl (by decide) rfl (fun ls hl => ?_)
  refine lv_bipush (v := 7) hx hb dX1_ofNextInLine_79 (by decide) ?_
  obtain ⟨eq9, ehq10, ehf11⟩ := hW_q hw ehs4
  have h := h eq9 ehf11
  refine hm_newa0 (N := 7) X hw ehq10 (by decide) (by decide) (by decide) (Nat.le_trans (Nat.le_of_ble_eq_true rfl) hRc.1) (Nat.le_trans (Nat.le_of_ble_eq_true rfl) hRc.2) dX1_ofNextInLine_81 (fun H hsz hw => ?_)
  have ehs4 := List.mem_append_left [(eq9, 0, 7)] ehs4
  have ehs8 := List.mem_append_left [(eq9, 0, 7)] ehs8
  have hG := geo_ext (Ext.app [(eq9, 0, 7)]) hG
  have ehs12 := mem_last ((L ++ [(eq1, 0, 7)]) ++ [(eq5, 0, 7)]) ((eq9, 0, 7))
  refine lv_dup hx hb dX1_ofNextInLine_83 rfl ?_
  refine lv_iconst (v := 0) hx hb dX1_ofNextInLine_84 (by decide) ?_
  refine lv_iconst (v := 0) hx hb dX1_ofNextInLine_85 (by decide) ?_
  refine hm_iast X hw ehs12 (by unfold vp_in; decide) dX1_ofNextInLine_86 (fun H locs hw => ?_)
  refine lv_dup hx hb dX1_ofNextInLine_87 rfl ?_
  refine lv_iconst (v := 1) hx hb dX1_ofNextInLine_88 (by decide) ?_
  refine lv_iconst (v := 0) hx hb dX1_ofNextInLine_89 (by decide) ?_
  refine hm_iast X hw ehs12 (by unfold vp_in; decide) dX1_ofNextInLine_90 (fun H locs hw => ?_)
  refine lv_dup hx hb dX1_ofNextInLine_91 rfl ?_
  refine lv_iconst (v := 2) hx hb dX1_ofNextInLine_92 (by decide) ?_
  refine lv_iconst (v := 1) hx hb dX1_ofNextInLine_93 (by decide) ?_
  refine hm_iast X hw ehs12 (by unfold vp_in; decide) dX1_ofNextInLine_94 (fun H locs hw => ?_)
  refine lv_dup hx hb dX1_ofNextInLine_95 rfl ?_
  refine lv_iconst (v := 3) hx hb dX1_ofNextInLine_96 (by decide) ?_
  refine lv_iconst (v := 0) hx hb dX1_ofNextInLine_97 (by decide) ?_
  refine hm_iast X hw ehs12 (by unfold vp_in; decide) dX1_ofNextInLine_98 (fun H locs hw => ?_)
  refine lv_dup hx hb dX1_ofNextInLine_99 rfl ?_
  refine lv_iconst (v := 4) hx hb dX1_ofNextInLine_100 (by decide) ?_
  refine lv_iconst (v := 0) hx hb dX1_ofNextInLine_101 (by decide) ?_
  refine hm_iast X hw ehs12 (by unfold vp_in; decide) dX1_ofNextInLine_102 (fun H locs hw => ?_)
  refine lv_dup hx hb dX1_ofNextInLine_103 rfl ?_
  refine lv_iconst (v := 5) hx hb dX1_ofNextInLine_104 (by decide) ?_
  refine lv_iconst (v := 4) hx hb dX1_ofNextInLine_105 (by decide) ?_
  refine hm_iast X hw ehs12 (by unfold vp_in; decide) dX1_ofNextInLine_106 (fun H locs hw => ?_)
  refine lv_dup hx hb dX1_ofNextInLine_107 rfl ?_
  refine lv_bipush (v := 6) hx hb dX1_ofNextInLine_108 (by decide) ?_
  refine lv_iconst (v := 5) hx hb dX1_ofNextInLine_110 (by decide) ?_
  refine hm_iast X hw ehs12 (by unfold vp_in; decide) dX1_ofNextInLine_111 (fun H locs hw => ?_)
  refine lv_astore_n (lv' := [(2, _), (1, _), (0, _)]) hx hb dX1_ofNextInLine_112 rfl hl (by decide) rfl (fun ls hl => ?_)
  obtain ⟨eq13, ehq14, ehf15⟩ := hW_q hw ehs4
  have h := h eq13 ehf15
  refine hm_newC X hw hn_1_10 ehq14 (Nat.le_trans (Nat.le_of_ble_eq_true rfl) hRc.1) (Nat.le_trans (Nat.le_of_ble_eq_true rfl) hRc.2) dX1_ofNextInLine_113 (fun H hsz hw => ?_)
  have ehs4 := List.mem_append_left [(eq13, 8, 0)] ehs4
  have ehs8 := List.mem_append_left [(eq13, 8, 0)] ehs8
  have ehs12 := List.mem_append_left [(eq13, 8, 0)] ehs12
  have hG := geo_ext (Ext.up1 (fun _ => none) [(eq13, 8, 0)] ehf15) hG
  have ehs16 := mem_last (((L ++ [(eq1, 0, 7)]) ++ [(eq5, 0, 7)]) ++ [(eq9, 0, 7)]) ((eq13, 8, 0))
  refine lv_dup hx hb dX1_ofNextInLine_116 rfl ?_
  refine lv_aload_n hx hb dX1_ofNextInLine_117 rfl (lv_at hl 2 rfl) ?_
  refine lv_aload_n hx hb dX1_ofNextInLine_118 rfl (lv_at hl 1 rfl) ?_
  refine lv_aload_n hx hb dX1_ofNextInLine_119 rfl (lv_at hl 0 rfl) ?_
  refine lv_iconst (v := 0) hx hb dX1_ofNextInLine_120 (by decide) ?_
  refine hm_callvA hw (hm_runI (rest := [_]) EvC_cl X hw (cFrm_init ehs16 ehs4 ehs8 ehs12 h) yi_X1_init kw438 rfl hl.1 rfl rfl rfl (Nat.le_of_ble_eq_true rfl) ⟨Nat.le_trans (Nat.le_of_ble_eq_true rfl) hR.1, Nat.le_trans (Nat.le_of_ble_eq_true rfl) hR.2⟩ ⟨Nat.le_trans (Nat.le_of_ble_eq_true rfl) hRc.1, Nat.le_trans (Nat.le_of_ble_eq_true rfl) hRc.2⟩ dX1_ofNextInLine_121) (fun u21 H locs hp hw => ?_)
  obtain ⟨I17, T18, F19, L20, rfl, h⟩ := hp
  obtain ⟨hG, ehs12, ehs8, ehs4, ehs16, h⟩ := h
  exact hm_aret X hr (Or.inl ⟨_, rfl⟩) hlk hw ⟨_, _, _, _, rfl, h⟩ dX1_ofNextInLine_124

theorem wkRd_readRule_b45 {I : HI} {T : HR} {F : HR} {L : HL} {b : Nat} {x1 : Int32} {x2 : Int32} {Q : HI → HR → HR → HL → Prop} (X : hX p m c s args RX6 cX6_readRule 3) (hr : meth.sig.returnType = none) (hlk : meth.locks = false) (hnm : meth.name = "readRule") (hR : 129 ≤ R.frames ∧ 3447 ≤ R.locals) (hRc : 5 ≤ R.cells ∧ b ≤ R.slots) (hG : Geo F L) (hTx : F 28 3 = some 34)  : ∀ {ls : Array Slot} {H : Heap} {locs : List Loc}, Rd_readRule_b45 I T F L b x1 x2 Q → hW D cA z EvC (I, J, T, F, L) A s H locs → lv_has ls 3 [(0, .ref (z + 28)), (1, .int x1), (2, .int x2)] → W p l e R s m args below meth c H locs 0 0 (MQ below (va_Qv (pBv J Q) (hB D cA z A) A) args s 5 b A) (F0 m 45 ls []) := by
  have hx := X.1
  have hb := X.2.1
  intro ls H locs h hw hl
  unfold Rd_readRule_b45 at h
  refine lv_aload_n hx hb dX6_readRule_45 rfl (lv_at hl 0 rfl) ?_
  refine lv_sipush (v := 143) hx hb dX6_readRule_46 (by decide) ?_
  refine hm_callv hw (hm_runV (rest := []) EvC_cl X hw (cRd_expect hG hTx h) yk_X6_expect kw1008 rfl (gl_28 hG) rfl hl.1 rfl rfl rfl (Nat.le_of_ble_eq_true rfl) ⟨Nat.le_trans (Nat.le_of_ble_eq_true rfl) hR.1, Nat.le_trans (Nat.le_of_ble_eq_true rfl) hR.2⟩ ⟨Nat.le_trans (Nat.le_of_ble_eq_true rfl) hRc.1, Nat.zero_le _⟩ dX6_readRule_49) (fun u7 H locs hp hw => ?_)
  obtain ⟨I6, rfl, h⟩ := hp
  refine lv_aload_n hx hb dX6_readRule_52 rfl (lv_at hl 0 rfl) ?_
  refine lv_iconst (v := 0) hx hb dX6_readRule_53 (by decide) ?_
  refine hm_calli hw (hm_runV (rest := []) EvC_cl X hw (cRd_readOr 8 hG hTx h) yk_X6_readOr kw972 rfl (gl_28 hG) rfl hl.1 rfl rfl rfl (Nat.le_of_ble_eq_true rfl) ⟨Nat.le_trans (Nat.le_of_ble_eq_true rfl) hR.1, Nat.le_trans (Nat.le_of_ble_eq_true rfl) hR.2⟩ ⟨Nat.le_trans (Nat.le_of_ble_eq_true rfl) hRc.1, Nat.zero_le _⟩ dX6_readRule_54) (fun a8 u10 H locs hp hw => ?_)
  obtain ⟨I9, rfl, h⟩ := hp
  refine lv_pop hx hb dX6_readRule_57 rfl ?_
  refine lv_aload_n hx hb dX6_readRule_58 rfl (lv_at hl 0 rfl) ?_
  refine lv_bipush (v := 59) hx hb dX6_readRule_59 (by decide) ?_
  refine hm_callv hw (hm_runV (rest := []) EvC_cl X hw (cRd_expect hG hTx h) yk_X6_expect kw1008 rfl (gl_28 hG) rfl hl.1 rfl rfl rfl (Nat.le_of_ble_eq_true rfl) ⟨Nat.le_trans (Nat.le_of_ble_eq_true rfl) hR.1, Nat.le_trans (Nat.le_of_ble_eq_true rfl) hR.2⟩ ⟨Nat.le_trans (Nat.le_of_ble_eq_true rfl) hRc.1, Nat.zero_le _⟩ dX6_readRule_61) (fun u12 H locs hp hw => ?_)
  obtain ⟨I11, rfl, h⟩ := hp
  refine lv_aload_n hx hb dX6_readRule_64 rfl (lv_at hl 0 rfl) ?_
  refine hm_geti X hw lk_6_40 (gl_28 hG) dX6_readRule_65 ?_
  refine lv_sipush (v := 130) hx hb dX6_readRule_68 (by decide) ?_
  refine lv_icmp_eq (tgt := 121) hx hb dX6_readRule_71 (by decide) (fun hc => ?_) (fun hc => ?_)
  · have h := Eq.mp (if_pos hc) h
    refine W.widen (k := 5) (n := b) (Nat.le_of_ble_eq_true rfl) (Nat.zero_le _) ?_
    exact hm_vret X hr hlk hw ⟨_, _, _, _, rfl, h⟩ dX6_readRule_121
  · have h := Eq.mp (if_neg hc) h
    refine lv_aload_n hx hb dX6_readRule_74 rfl (lv_at hl 0 rfl) ?_
    refine hm_getr X hw lk_6_20 (gl_28 hG) (gf_28_2 hG) dX6_readRule_75 ?_
    refine lv_iload_n hx hb dX6_readRule_78 rfl (lv_at hl 1 rfl) ?_
    obtain ⟨eq13, ehq14, ehf15⟩ := hW_q hw (gl_0 hG)
    have h := h eq13 ehf15
    obtain ⟨hbud, h⟩ := h
    refine hm_newC X hw hn_6_18 ehq14 (Nat.le_trans (Nat.le_of_ble_eq_true rfl) hRc.1) (Nat.le_trans hbud hRc.2) dX6_readRule_79 (fun H hsz hw => ?_)
    have hTx := tx_up1 (fun _ => none) hG ehf15 hTx
    have hG := geo_ext (Ext.up1 (fun _ => none) [(eq13, 8, 0)] ehf15) hG
    have ehs16 := mem_last L ((eq13, 8, 0))
    refine lv_dup hx hb dX6_readRule_82 rfl ?_
    refine lv_aload_n hx hb dX6_readRule_83 rfl (lv_at hl 0 rfl) ?_
    refine hm_getr X hw lk_6_46 (gl_28 hG) (gf_28_10 hG) dX6_readRule_84 ?_
    refine lv_aload_n hx hb dX6_readRule_87 rfl (lv_at hl 0 rfl) ?_
    refine hm_geti X hw lk_6_55 (gl_28 hG) dX6_readRule_88 ?_
    obtain ⟨hbud, h⟩ := h
    refine hm_callrA hw (hm_runS (rest := [_, _, _, _]) EvC_cl X hw (cJd_copyOf (gl_31 hG) h) yk_J7_copyOf_59c91 kw1016 rfl hl.1 rfl rfl rfl (Nat.le_of_ble_eq_true rfl) ⟨Nat.le_trans (Nat.le_of_ble_eq_true rfl) hR.1, Nat.le_trans (Nat.le_of_ble_eq_true rfl) hR.2⟩ ⟨Nat.le_trans (Nat.le_of_ble_eq_true rfl) hRc.1, Nat.le_trans hbud hRc.2⟩ dX6_readRule_91) (fun eq17 u22 H locs hp hw => ?_)
    obtain ⟨I18, T19, F20, L21, rfl, h⟩ := hp
    obtain ⟨hG, hTx, ehs16, ehs23, h⟩ := h
    refine lv_aload_n hx hb dX6_readRule_94 rfl (lv_at hl 0 rfl) ?_
    refine hm_getr X hw lk_6_49 (gl_28 hG) (gf_28_11 hG) dX6_readRule_95 ?_
    refine lv_aload_n hx hb dX6_readRule_98 rfl (lv_at hl 0 rfl) ?_
    refine hm_geti X hw lk_6_55 (gl_28 hG) dX6_readRule_99 ?_
    obtain ⟨hbud, h⟩ := h
    refine hm_callrA hw (hm_runS (rest := [_, _, _, _, _]) EvC_cl X hw (cJd_copyOf (gl_32 hG) h) yk_J7_copyOf_59c91 kw1016 rfl hl.1 rfl rfl rfl (Nat.le_of_ble_eq_true rfl) ⟨Nat.le_trans (Nat.le_of_ble_eq_true rfl) hR.1, Nat.le_trans (Nat.le_of_ble_eq_true rfl) hR.2⟩ ⟨Nat.le_trans (Nat.le_of_ble_eq_true rfl) hRc.1, Nat.le_trans hbud hRc.2⟩ dX6_readRule_102) (fun eq24 u29 H locs hp hw => ?_)
    obtain ⟨I25, T26, F27, L28, rfl, h⟩ := hp
    obtain ⟨hG, hTx, ehs23, ehs16, ehs30, h⟩ := h
    refine lv_aload_n hx hb dX6_readRule_105 rfl (lv_at hl 0 rfl) ?_
    refine hm_getr X hw lk_6_52 (gl_28 hG) (gf_28_12 hG) dX6_readRule_106 ?_
    refine lv_aload_n hx hb dX6_readRule_109 rfl (lv_at hl 0 rfl) ?_
    refine hm_geti X hw lk_6_55 (gl_28 hG) dX6_readRule_110 ?_
    obtain ⟨hbud, h⟩ := h
    refine hm_callrA hw (hm_runS (rest := [_, _, _, _, _, _]) EvC_cl X hw (cJd_copyOf (gl_33 hG) h) yk_J7_copyOf_59c91 kw1016 rfl hl.1 rfl rfl rfl (Nat.le_of_ble_eq_true rfl) ⟨Nat.le_trans (Nat.le_of_ble_eq_true rfl) hR.1, Nat.le_trans (Nat.le_of_ble_eq_true rfl) hR.2⟩ ⟨Nat.le_trans (Nat.le_of_ble_eq_true rfl) hRc.1, Nat.le_trans hbud hRc.2⟩ dX6_readRule_113) (fun eq31 u36 H locs hp hw => ?_)
    obtain ⟨I32, T33, F34, L35, rfl, h⟩ := hp
    obtain ⟨hG, hTx, ehs30, ehs23, ehs16, ehs37, h⟩ := h
    refine lv_iload_n hx hb dX6_readRule_116 rfl (lv_at hl 2 rfl) ?_
    obtain ⟨hbud, h⟩ := h
    refine hm_callvA hw (hm_runI (rest := [_, _, _]) EvC_cl X hw (cFrm_init ehs16 ehs23 ehs30 ehs37 h) yi_X1_init kw1028 rfl hl.1 rfl rfl rfl (Nat.le_of_ble_eq_true rfl) ⟨Nat.le_trans (Nat.le_of_ble_eq_true rfl) hR.1, Nat.le_trans (Nat.le_of_ble_eq_true rfl) hR.2⟩ ⟨Nat.le_trans (Nat.le_of_ble_eq_true rfl) hRc.1, Nat.le_trans hbud hRc.2⟩ dX6_readRule_117) (fun u42 H locs hp hw => ?_)
    obtain ⟨I38, T39, F40, L41, rfl, h⟩ := hp
    obtain ⟨hG, hTx, ehs16, h⟩ := h
    obtain ⟨hi, h⟩ := h
    refine hm_astq5 (v := (some eq13)) X hw (gl_29 hG) (fun f h => by cases h; exact ehs16) hi dX6_readRule_120 (fun H locs hw => ?_)
    refine W.widen (k := 5) (n := b) (Nat.le_of_ble_eq_true rfl) hbud ?_
    exact hm_vret X hr hlk hw ⟨_, _, _, _, rfl, h⟩ dX6_readRule_121

theorem cRd_readRule {l : Launch} {D : va_G} {cA : Nat → ClassId} {z sz : Nat} {I : HI} {T : HR} {F : HR} {L : HL} {b : Nat} {Q : HI → HR → HR → HL → Prop} (hG : Geo F L) (hTx : F 28 3 = some 34) (h : Rd_readRule I T F L b Q) : Met l yX6_readRule (hws0 yX6_readRule cX6_readRule 3 none) { frames := 129, cells := 5, slots := b, locals := 3447 } (hPc D cA z EvC (I, J, T, F, L) sz [.ref (z + 28)]) (va_Qv (pBv J Q) (hB D cA z (hA z L sz)) (hA z L sz)) 5 b (hA z L sz) := by
  refine hm_met (I, J, T, F, L) [.ref (z + 28)] rfl (by decide) (Nat.le_of_ble_eq_true rfl) ?_
  intro p e s m below meth c ls X hr hlk hnm hxt hsz hw hl
  have hl : lv_has ls 3 [(0, .ref (z + 28))] := hl
  have hnm : meth.name = "readRule" := hnm
  have hR : 129 ≤ ({ frames := 129, cells := 5, slots := b, locals := 3447 } : Room).frames ∧ 3447 ≤ ({ frames := 129, cells := 5, slots := b, locals := 3447 } : Room).locals := ⟨Nat.le_refl _, Nat.le_refl _⟩
  have hRc : 5 ≤ ({ frames := 129, cells := 5, slots := b, locals := 3447 } : Room).cells ∧ b ≤ ({ frames := 129, cells := 5, slots := b, locals := 3447 } : Room).slots := ⟨Nat.le_refl _, Nat.le_refl _⟩
  generalize ({ frames := 129, cells := 5, slots := b, locals := 3447 } : Room) = R at hR hRc ⊢
  clear hsz
  generalize (hA z L sz) = A at hw ⊢
  have hx := X.1
  have hb := X.2.1
  unfold Rd_readRule at h
  refine lv_aload_n hx hb dX6_readRule_0 rfl (lv_at hl 0 rfl) ?_
  refine hm_callv hw (hm_runV (rest := []) EvC_cl X hw (cRd_next hG hTx h) yk_X6_next kw886 rfl (gl_28 hG) rfl hl.1 rfl rfl rfl (Nat.le_of_ble_eq_true rfl) ⟨Nat.le_trans (Nat.le_of_ble_eq_true rfl) hR.1, Nat.le_trans (Nat.le_of_ble_eq_true rfl) hR.2⟩ ⟨Nat.le_trans (Nat.le_of_ble_eq_true rfl) hRc.1, Nat.zero_le _⟩ dX6_readRule_1) (fun u2 H locs hp hw => ?_)
  obtain ⟨I1, rfl, h⟩ := hp
  refine lv_aload_n hx hb dX6_readRule_4 rfl (lv_at hl 0 rfl) ?_
  refine lv_aload_n hx hb dX6_readRule_5 rfl (lv_at hl 0 rfl) ?_
  refine hm_geti X hw lk_6_31 (gl_28 hG) dX6_readRule_6 ?_
  refine hm_calli hw (hm_runV (rest := []) EvC_cl X hw (cRd_readNumber hG hTx h) yk_X6_readNumber kw968 rfl (gl_28 hG) rfl hl.1 rfl rfl rfl (Nat.le_of_ble_eq_true rfl) ⟨Nat.le_trans (Nat.le_of_ble_eq_true rfl) hR.1, Nat.le_trans (Nat.le_of_ble_eq_true rfl) hR.2⟩ ⟨Nat.le_trans (Nat.le_of_ble_eq_true rfl) hRc.1, Nat.zero_le _⟩ dX6_readRule_9) (fun a3 u5 H locs hp hw => ?_)
  obtain ⟨I4, rfl, h⟩ := hp
  refine lv_istore_n (lv' := [(1, _), (0, _)]) hx hb dX6_readRule_12 rfl hl (by decide) rfl (fun ls hl => ?_)
  refine lv_iconst (v := 0) hx hb dX6_readRule_13 (by decide) ?_
  refine lv_istore_n (lv' := [(2, _), (1, _), (0, _)]) hx hb dX6_readRule_14 rfl hl (by decide) rfl (fun ls hl => ?_)
  refine lv_aload_n hx hb dX6_readRule_15 rfl (lv_at hl 2 rfl) ?_
  refine lv_iconst (v := 0) hx hb dX6_readRule_16 (by decide) ?_
  refine hm_puti X hw lk_6_55 (gl_28 hG) rfl rfl dX6_readRule_17 (fun H locs hw => ?_)
  refine lv_aload_n hx hb dX6_readRule_20 rfl (lv_at hl 2 rfl) ?_
  refine hm_geti X hw lk_6_40 (gl_28 hG) dX6_readRule_21 ?_
  refine lv_sipush (v := 142) hx hb dX6_readRule_24 (by decide) ?_
  refine lv_icmp_ne (tgt := 45) hx hb dX6_readRule_27 (by decide) (fun hc => ?_) (fun hc => ?_)
  · have h := Eq.mp (if_neg hc) h
    exact wkRd_readRule_b45 X hr hlk hnm hR hRc hG hTx  h hw (lv_sub hl [2, 1, 0] rfl)
  · have h := Eq.mp (if_pos hc) h
    refine lv_aload_n hx hb dX6_readRule_30 rfl (lv_at hl 2 rfl) ?_
    refine hm_callv hw (hm_runV (rest := []) EvC_cl X hw (cRd_next hG hTx h) yk_X6_next kw886 rfl (gl_28 hG) rfl hl.1 rfl rfl rfl (Nat.le_of_ble_eq_true rfl) ⟨Nat.le_trans (Nat.le_of_ble_eq_true rfl) hR.1, Nat.le_trans (Nat.le_of_ble_eq_true rfl) hR.2⟩ ⟨Nat.le_trans (Nat.le_of_ble_eq_true rfl) hRc.1, Nat.zero_le _⟩ dX6_readRule_31) (fun u44 H locs hp hw => ?_)
    obtain ⟨I43, rfl, h⟩ := hp
    refine lv_aload_n hx hb dX6_readRule_34 rfl (lv_at hl 2 rfl) ?_
    refine lv_iconst (v := 0) hx hb dX6_readRule_35 (by decide) ?_
    refine hm_calli hw (hm_runV (rest := []) EvC_cl X hw (cRd_readOr 8 hG hTx h) yk_X6_readOr kw972 rfl (gl_28 hG) rfl hl.1 rfl rfl rfl (Nat.le_of_ble_eq_true rfl) ⟨Nat.le_trans (Nat.le_of_ble_eq_true rfl) hR.1, Nat.le_trans (Nat.le_of_ble_eq_true rfl) hR.2⟩ ⟨Nat.le_trans (Nat.le_of_ble_eq_true rfl) hRc.1, Nat.zero_le _⟩ dX6_readRule_36) (fun a45 u47 H locs hp hw => ?_)
    obtain ⟨I46, rfl, h⟩ := hp
    refine lv_pop hx hb dX6_readRule_39 rfl ?_
    refine lv_aload_n hx hb dX6_readRule_40 rfl (lv_at hl 2 rfl) ?_
    refine hm_geti X hw lk_6_55 (gl_28 hG) dX6_readRule_41 ?_
    refine lv_istore_n (lv' := [(2, _), (1, _), (0, _)]) hx hb dX6_readRule_44 rfl hl (by decide) rfl (fun ls hl => ?_)
    exact wkRd_readRule_b45 X hr hlk hnm hR hRc hG hTx  h hw (lv_sub hl [2, 1, 0] rfl)

end
