theorem dX10_needRow_0 : decode cX10_needRow 0 = .ok (.iload_n 1, 1) := by decide +kernel
theorem dX10_needRow_1 : decode cX10_needRow 1 = .ok (.ifCond .lt 14, 3) := by decide +kernel
theorem dX10_needRow_4 : decode cX10_needRow 4 = .ok (.iload_n 1, 1) := by decide +kernel
theorem dX10_needRow_5 : decode cX10_needRow 5 = .ok (.aload_n 0, 1) := by decide +kernel
theorem dX10_needRow_6 : decode cX10_needRow 6 = .ok (.getfield 10, 3) := by decide +kernel
theorem dX10_needRow_9 : decode cX10_needRow 9 = .ok (.getfield 276, 3) := by decide +kernel
theorem dX10_needRow_12 : decode cX10_needRow 12 = .ok (.if_icmp .lt 14, 3) := by decide +kernel
theorem dX10_needRow_15 : decode cX10_needRow 15 = .ok (.new 186, 3) := by decide +kernel
theorem dX10_needRow_18 : decode cX10_needRow 18 = .ok (.dup, 1) := by decide +kernel
theorem dX10_needRow_19 : decode cX10_needRow 19 = .ok (.ldc_w 365, 3) := by decide +kernel
theorem dX10_needRow_22 : decode cX10_needRow 22 = .ok (.invokespecial 190, 3) := by decide +kernel
theorem dX10_needRow_25 : decode cX10_needRow 25 = .ok (.athrow, 1) := by decide +kernel
theorem dX10_needRow_26 : decode cX10_needRow 26 = .ok (.return_, 1) := by decide +kernel
theorem dX10_in_0 : decode cX10_in 0 = .ok (.aload_n 0, 1) := by decide +kernel
theorem dX10_in_1 : decode cX10_in 1 = .ok (.iload_n 1, 1) := by decide +kernel
theorem dX10_in_2 : decode cX10_in 2 = .ok (.invokevirtual 211, 3) := by decide +kernel
theorem dX10_in_5 : decode cX10_in 5 = .ok (.aload_n 0, 1) := by decide +kernel
theorem dX10_in_6 : decode cX10_in 6 = .ok (.iload_n 2, 1) := by decide +kernel
theorem dX10_in_7 : decode cX10_in 7 = .ok (.invokevirtual 114, 3) := by decide +kernel
theorem dX10_in_10 : decode cX10_in 10 = .ok (.iload_n 3, 1) := by decide +kernel
theorem dX10_in_11 : decode cX10_in 11 = .ok (.ifCond .lt 25, 3) := by decide +kernel
theorem dX10_in_14 : decode cX10_in 14 = .ok (.iload_n 3, 1) := by decide +kernel
theorem dX10_in_15 : decode cX10_in 15 = .ok (.iconst 1, 1) := by decide +kernel
theorem dX10_in_16 : decode cX10_in 16 = .ok (.if_icmp .gt 20, 3) := by decide +kernel
theorem dX10_in_19 : decode cX10_in 19 = .ok (.iload_n 3, 1) := by decide +kernel
theorem dX10_in_20 : decode cX10_in 20 = .ok (.ifCond .ne 26, 3) := by decide +kernel
theorem dX10_in_23 : decode cX10_in 23 = .ok (.aload_n 0, 1) := by decide +kernel
theorem dX10_in_24 : decode cX10_in 24 = .ok (.getfield 10, 3) := by decide +kernel
theorem dX10_in_27 : decode cX10_in 27 = .ok (.getfield 180, 3) := by decide +kernel
theorem dX10_in_30 : decode cX10_in 30 = .ok (.iload_n 2, 1) := by decide +kernel
theorem dX10_in_31 : decode cX10_in 31 = .ok (.iaload, 1) := by decide +kernel
theorem dX10_in_32 : decode cX10_in 32 = .ok (.iconst (-1), 1) := by decide +kernel
theorem dX10_in_33 : decode cX10_in 33 = .ok (.if_icmp .ne 13, 3) := by decide +kernel
theorem dX10_in_36 : decode cX10_in 36 = .ok (.new 186, 3) := by decide +kernel
theorem dX10_in_39 : decode cX10_in 39 = .ok (.dup, 1) := by decide +kernel
theorem dX10_in_40 : decode cX10_in 40 = .ok (.ldc 214, 2) := by decide +kernel
theorem dX10_in_42 : decode cX10_in 42 = .ok (.invokespecial 190, 3) := by decide +kernel
theorem dX10_in_45 : decode cX10_in 45 = .ok (.athrow, 1) := by decide +kernel
theorem dX10_in_46 : decode cX10_in 46 = .ok (.aload_n 0, 1) := by decide +kernel
theorem dX10_in_47 : decode cX10_in 47 = .ok (.getfield 26, 3) := by decide +kernel
theorem dX10_in_50 : decode cX10_in 50 = .ok (.aload_n 0, 1) := by decide +kernel
theorem dX10_in_51 : decode cX10_in 51 = .ok (.getfield 10, 3) := by decide +kernel
theorem dX10_in_54 : decode cX10_in 54 = .ok (.iload_n 1, 1) := by decide +kernel
theorem dX10_in_55 : decode cX10_in 55 = .ok (.invokevirtual 216, 3) := by decide +kernel
theorem dX10_in_58 : decode cX10_in 58 = .ok (.iload_n 3, 1) := by decide +kernel
theorem dX10_in_59 : decode cX10_in 59 = .ok (.ifCond .ne 18, 3) := by decide +kernel
theorem dX10_in_62 : decode cX10_in 62 = .ok (.aload_n 0, 1) := by decide +kernel
theorem dX10_in_63 : decode cX10_in 63 = .ok (.getfield 26, 3) := by decide +kernel
theorem dX10_in_66 : decode cX10_in 66 = .ok (.aload_n 0, 1) := by decide +kernel
theorem dX10_in_67 : decode cX10_in 67 = .ok (.getfield 10, 3) := by decide +kernel
theorem dX10_in_70 : decode cX10_in 70 = .ok (.iload_n 2, 1) := by decide +kernel
theorem dX10_in_71 : decode cX10_in 71 = .ok (.invokevirtual 220, 3) := by decide +kernel
theorem dX10_in_74 : decode cX10_in 74 = .ok (.goto 12, 3) := by decide +kernel
theorem dX10_in_77 : decode cX10_in 77 = .ok (.aload_n 0, 1) := by decide +kernel
theorem dX10_in_78 : decode cX10_in 78 = .ok (.getfield 26, 3) := by decide +kernel
theorem dX10_in_81 : decode cX10_in 81 = .ok (.getfield 224, 3) := by decide +kernel
theorem dX10_in_84 : decode cX10_in 84 = .ok (.iload_n 2, 1) := by decide +kernel
theorem dX10_in_85 : decode cX10_in 85 = .ok (.iaload, 1) := by decide +kernel
theorem dX10_in_86 : decode cX10_in 86 = .ok (.ireturn, 1) := by decide +kernel
theorem dX10_row_0 : decode cX10_row 0 = .ok (.aload_n 0, 1) := by decide +kernel
theorem dX10_row_1 : decode cX10_row 1 = .ok (.iload_n 1, 1) := by decide +kernel
theorem dX10_row_2 : decode cX10_row 2 = .ok (.invokevirtual 211, 3) := by decide +kernel
theorem dX10_row_5 : decode cX10_row 5 = .ok (.aload_n 0, 1) := by decide +kernel
theorem dX10_row_6 : decode cX10_row 6 = .ok (.getfield 26, 3) := by decide +kernel
theorem dX10_row_9 : decode cX10_row 9 = .ok (.aload_n 0, 1) := by decide +kernel
theorem dX10_row_10 : decode cX10_row 10 = .ok (.getfield 10, 3) := by decide +kernel
theorem dX10_row_13 : decode cX10_row 13 = .ok (.iload_n 1, 1) := by decide +kernel
theorem dX10_row_14 : decode cX10_row 14 = .ok (.invokevirtual 216, 3) := by decide +kernel
theorem dX10_row_17 : decode cX10_row 17 = .ok (.iload_n 2, 1) := by decide +kernel
theorem dX10_row_18 : decode cX10_row 18 = .ok (.tableswitch 128 0 3 #[30, 42, 54, 83], 30) := by decide +kernel
theorem dX10_row_48 : decode cX10_row 48 = .ok (.aload_n 0, 1) := by decide +kernel
theorem dX10_row_49 : decode cX10_row 49 = .ok (.getfield 26, 3) := by decide +kernel
theorem dX10_row_52 : decode cX10_row 52 = .ok (.aload_n 0, 1) := by decide +kernel
theorem dX10_row_53 : decode cX10_row 53 = .ok (.getfield 10, 3) := by decide +kernel
theorem dX10_row_56 : decode cX10_row 56 = .ok (.invokevirtual 227, 3) := by decide +kernel
theorem dX10_row_59 : decode cX10_row 59 = .ok (.ireturn, 1) := by decide +kernel
theorem dX10_row_60 : decode cX10_row 60 = .ok (.aload_n 0, 1) := by decide +kernel
theorem dX10_row_61 : decode cX10_row 61 = .ok (.getfield 26, 3) := by decide +kernel
theorem dX10_row_64 : decode cX10_row 64 = .ok (.aload_n 0, 1) := by decide +kernel
theorem dX10_row_65 : decode cX10_row 65 = .ok (.getfield 10, 3) := by decide +kernel
theorem dX10_row_68 : decode cX10_row 68 = .ok (.invokevirtual 231, 3) := by decide +kernel
theorem dX10_row_71 : decode cX10_row 71 = .ok (.ireturn, 1) := by decide +kernel
theorem dX10_row_72 : decode cX10_row 72 = .ok (.aload_n 0, 1) := by decide +kernel
theorem dX10_row_73 : decode cX10_row 73 = .ok (.getfield 33, 3) := by decide +kernel
theorem dX10_row_76 : decode cX10_row 76 = .ok (.aload_n 0, 1) := by decide +kernel
theorem dX10_row_77 : decode cX10_row 77 = .ok (.getfield 26, 3) := by decide +kernel
theorem dX10_row_80 : decode cX10_row 80 = .ok (.aload_n 0, 1) := by decide +kernel
theorem dX10_row_81 : decode cX10_row 81 = .ok (.getfield 10, 3) := by decide +kernel
theorem dX10_row_84 : decode cX10_row 84 = .ok (.getfield 150, 3) := by decide +kernel
theorem dX10_row_87 : decode cX10_row 87 = .ok (.invokevirtual 234, 3) := by decide +kernel
theorem dX10_row_90 : decode cX10_row 90 = .ok (.lconst 0, 1) := by decide +kernel
theorem dX10_row_91 : decode cX10_row 91 = .ok (.lcmp, 1) := by decide +kernel
theorem dX10_row_92 : decode cX10_row 92 = .ok (.ifCond .le 7, 3) := by decide +kernel
theorem dX10_row_95 : decode cX10_row 95 = .ok (.iconst 1, 1) := by decide +kernel
theorem dX10_row_96 : decode cX10_row 96 = .ok (.goto 4, 3) := by decide +kernel
theorem dX10_row_99 : decode cX10_row 99 = .ok (.iconst 0, 1) := by decide +kernel
theorem dX10_row_100 : decode cX10_row 100 = .ok (.ireturn, 1) := by decide +kernel
theorem dX10_row_101 : decode cX10_row 101 = .ok (.aload_n 0, 1) := by decide +kernel
theorem dX10_row_102 : decode cX10_row 102 = .ok (.getfield 33, 3) := by decide +kernel
theorem dX10_row_105 : decode cX10_row 105 = .ok (.aload_n 0, 1) := by decide +kernel
theorem dX10_row_106 : decode cX10_row 106 = .ok (.getfield 26, 3) := by decide +kernel
theorem dX10_row_109 : decode cX10_row 109 = .ok (.aload_n 0, 1) := by decide +kernel
theorem dX10_row_110 : decode cX10_row 110 = .ok (.getfield 10, 3) := by decide +kernel
theorem dX10_row_113 : decode cX10_row 113 = .ok (.invokevirtual 227, 3) := by decide +kernel
theorem dX10_row_116 : decode cX10_row 116 = .ok (.aload_n 0, 1) := by decide +kernel
theorem dX10_row_117 : decode cX10_row 117 = .ok (.getfield 26, 3) := by decide +kernel
theorem dX10_row_120 : decode cX10_row 120 = .ok (.aload_n 0, 1) := by decide +kernel
theorem dX10_row_121 : decode cX10_row 121 = .ok (.getfield 10, 3) := by decide +kernel
theorem dX10_row_124 : decode cX10_row 124 = .ok (.invokevirtual 231, 3) := by decide +kernel
theorem dX10_row_127 : decode cX10_row 127 = .ok (.aload_n 0, 1) := by decide +kernel
theorem dX10_row_128 : decode cX10_row 128 = .ok (.getfield 10, 3) := by decide +kernel
theorem dX10_row_131 : decode cX10_row 131 = .ok (.getfield 150, 3) := by decide +kernel
theorem dX10_row_134 : decode cX10_row 134 = .ok (.invokevirtual 238, 3) := by decide +kernel
theorem dX10_row_137 : decode cX10_row 137 = .ok (.ifCond .eq 7, 3) := by decide +kernel
theorem dX10_row_140 : decode cX10_row 140 = .ok (.iconst 1, 1) := by decide +kernel
theorem dX10_row_141 : decode cX10_row 141 = .ok (.goto 4, 3) := by decide +kernel
theorem dX10_row_144 : decode cX10_row 144 = .ok (.iconst 0, 1) := by decide +kernel
theorem dX10_row_145 : decode cX10_row 145 = .ok (.ireturn, 1) := by decide +kernel
theorem dX10_row_146 : decode cX10_row 146 = .ok (.new 186, 3) := by decide +kernel
theorem dX10_row_149 : decode cX10_row 149 = .ok (.dup, 1) := by decide +kernel
theorem dX10_row_150 : decode cX10_row 150 = .ok (.ldc 242, 2) := by decide +kernel
theorem dX10_row_152 : decode cX10_row 152 = .ok (.invokespecial 190, 3) := by decide +kernel
theorem dX10_row_155 : decode cX10_row 155 = .ok (.athrow, 1) := by decide +kernel
theorem dX10_won_0 : decode cX10_won 0 = .ok (.iload_n 1, 1) := by decide +kernel
theorem dX10_won_1 : decode cX10_won 1 = .ok (.ifCond .lt 8, 3) := by decide +kernel
theorem dX10_won_4 : decode cX10_won 4 = .ok (.iload_n 1, 1) := by decide +kernel
theorem dX10_won_5 : decode cX10_won 5 = .ok (.iconst 3, 1) := by decide +kernel
theorem dX10_won_6 : decode cX10_won 6 = .ok (.if_icmp .le 13, 3) := by decide +kernel
theorem dX10_won_9 : decode cX10_won 9 = .ok (.new 186, 3) := by decide +kernel
theorem dX10_won_12 : decode cX10_won 12 = .ok (.dup, 1) := by decide +kernel
theorem dX10_won_13 : decode cX10_won 13 = .ok (.ldc 244, 2) := by decide +kernel
theorem dX10_won_15 : decode cX10_won 15 = .ok (.invokespecial 190, 3) := by decide +kernel
theorem dX10_won_18 : decode cX10_won 18 = .ok (.athrow, 1) := by decide +kernel
theorem dX10_won_19 : decode cX10_won 19 = .ok (.aload_n 0, 1) := by decide +kernel
theorem dX10_won_20 : decode cX10_won 20 = .ok (.getfield 40, 3) := by decide +kernel
theorem dX10_won_23 : decode cX10_won 23 = .ok (.aload_n 0, 1) := by decide +kernel
theorem dX10_won_24 : decode cX10_won 24 = .ok (.getfield 10, 3) := by decide +kernel
theorem dX10_won_27 : decode cX10_won 27 = .ok (.aload_n 0, 1) := by decide +kernel
theorem dX10_won_28 : decode cX10_won 28 = .ok (.getfield 33, 3) := by decide +kernel
theorem dX10_won_31 : decode cX10_won 31 = .ok (.aload_n 0, 1) := by decide +kernel
theorem dX10_won_32 : decode cX10_won 32 = .ok (.getfield 26, 3) := by decide +kernel
theorem dX10_won_35 : decode cX10_won 35 = .ok (.invokevirtual 246, 3) := by decide +kernel
theorem dX10_won_38 : decode cX10_won 38 = .ok (.iload_n 1, 1) := by decide +kernel
theorem dX10_won_39 : decode cX10_won 39 = .ok (.iconst 1, 1) := by decide +kernel
theorem dX10_won_40 : decode cX10_won 40 = .ok (.if_icmp .eq 8, 3) := by decide +kernel
theorem dX10_won_43 : decode cX10_won 43 = .ok (.iload_n 1, 1) := by decide +kernel
theorem dX10_won_44 : decode cX10_won 44 = .ok (.iconst 3, 1) := by decide +kernel
theorem dX10_won_45 : decode cX10_won 45 = .ok (.if_icmp .ne 7, 3) := by decide +kernel
theorem dX10_won_48 : decode cX10_won 48 = .ok (.iconst 1, 1) := by decide +kernel
theorem dX10_won_49 : decode cX10_won 49 = .ok (.goto 4, 3) := by decide +kernel
theorem dX10_won_52 : decode cX10_won 52 = .ok (.iconst 0, 1) := by decide +kernel
theorem dX10_won_53 : decode cX10_won 53 = .ok (.istore_n 2, 1) := by decide +kernel
theorem dX10_won_54 : decode cX10_won 54 = .ok (.iload_n 1, 1) := by decide +kernel
theorem dX10_won_55 : decode cX10_won 55 = .ok (.iconst 2, 1) := by decide +kernel
theorem dX10_won_56 : decode cX10_won 56 = .ok (.if_icmp .ge 23, 3) := by decide +kernel
theorem dX10_won_59 : decode cX10_won 59 = .ok (.aload_n 0, 1) := by decide +kernel
theorem dX10_won_60 : decode cX10_won 60 = .ok (.getfield 40, 3) := by decide +kernel
theorem dX10_won_63 : decode cX10_won 63 = .ok (.aload_n 0, 1) := by decide +kernel
theorem dX10_won_64 : decode cX10_won 64 = .ok (.getfield 10, 3) := by decide +kernel
theorem dX10_won_67 : decode cX10_won 67 = .ok (.aload_n 0, 1) := by decide +kernel
theorem dX10_won_68 : decode cX10_won 68 = .ok (.getfield 33, 3) := by decide +kernel
theorem dX10_won_71 : decode cX10_won 71 = .ok (.iload_n 2, 1) := by decide +kernel
theorem dX10_won_72 : decode cX10_won 72 = .ok (.invokevirtual 250, 3) := by decide +kernel
theorem dX10_won_75 : decode cX10_won 75 = .ok (.i2l, 1) := by decide +kernel
theorem dX10_won_76 : decode cX10_won 76 = .ok (.goto 23, 3) := by decide +kernel
theorem dX10_won_79 : decode cX10_won 79 = .ok (.aload_n 0, 1) := by decide +kernel
theorem dX10_won_80 : decode cX10_won 80 = .ok (.getfield 40, 3) := by decide +kernel
theorem dX10_won_83 : decode cX10_won 83 = .ok (.aload_n 0, 1) := by decide +kernel
theorem dX10_won_84 : decode cX10_won 84 = .ok (.getfield 10, 3) := by decide +kernel
theorem dX10_won_87 : decode cX10_won 87 = .ok (.aload_n 0, 1) := by decide +kernel
theorem dX10_won_88 : decode cX10_won 88 = .ok (.getfield 33, 3) := by decide +kernel
theorem dX10_won_91 : decode cX10_won 91 = .ok (.aload_n 0, 1) := by decide +kernel
theorem dX10_won_92 : decode cX10_won 92 = .ok (.getfield 26, 3) := by decide +kernel
theorem dX10_won_95 : decode cX10_won 95 = .ok (.iload_n 2, 1) := by decide +kernel
theorem dX10_won_96 : decode cX10_won 96 = .ok (.invokevirtual 254, 3) := by decide +kernel
theorem dX10_won_99 : decode cX10_won 99 = .ok (.lreturn, 1) := by decide +kernel
theorem dX10_rightOf_0 : decode cX10_rightOf 0 = .ok (.aload_n 0, 1) := by decide +kernel
theorem dX10_rightOf_1 : decode cX10_rightOf 1 = .ok (.iload_n 1, 1) := by decide +kernel
theorem dX10_rightOf_2 : decode cX10_rightOf 2 = .ok (.invokevirtual 114, 3) := by decide +kernel
theorem dX10_rightOf_5 : decode cX10_rightOf 5 = .ok (.aload_n 0, 1) := by decide +kernel
theorem dX10_rightOf_6 : decode cX10_rightOf 6 = .ok (.getfield 40, 3) := by decide +kernel
theorem dX10_rightOf_9 : decode cX10_rightOf 9 = .ok (.aload_n 0, 1) := by decide +kernel
theorem dX10_rightOf_10 : decode cX10_rightOf 10 = .ok (.getfield 10, 3) := by decide +kernel
theorem dX10_rightOf_13 : decode cX10_rightOf 13 = .ok (.aload_n 0, 1) := by decide +kernel
theorem dX10_rightOf_14 : decode cX10_rightOf 14 = .ok (.getfield 33, 3) := by decide +kernel
theorem dX10_rightOf_17 : decode cX10_rightOf 17 = .ok (.aload_n 0, 1) := by decide +kernel
theorem dX10_rightOf_18 : decode cX10_rightOf 18 = .ok (.getfield 26, 3) := by decide +kernel
theorem dX10_rightOf_21 : decode cX10_rightOf 21 = .ok (.invokevirtual 246, 3) := by decide +kernel
theorem dX10_rightOf_24 : decode cX10_rightOf 24 = .ok (.aload_n 0, 1) := by decide +kernel
theorem dX10_rightOf_25 : decode cX10_rightOf 25 = .ok (.getfield 40, 3) := by decide +kernel
theorem dX10_rightOf_28 : decode cX10_rightOf 28 = .ok (.aload_n 0, 1) := by decide +kernel
theorem dX10_rightOf_29 : decode cX10_rightOf 29 = .ok (.getfield 10, 3) := by decide +kernel
theorem dX10_rightOf_32 : decode cX10_rightOf 32 = .ok (.iload_n 1, 1) := by decide +kernel
theorem dX10_rightOf_33 : decode cX10_rightOf 33 = .ok (.invokevirtual 265, 3) := by decide +kernel
theorem dX10_rightOf_36 : decode cX10_rightOf 36 = .ok (.ireturn, 1) := by decide +kernel
theorem dX10_worst_0 : decode cX10_worst 0 = .ok (.iload_n 1, 1) := by decide +kernel
theorem dX10_worst_1 : decode cX10_worst 1 = .ok (.ifCond .lt 8, 3) := by decide +kernel
theorem dX10_worst_4 : decode cX10_worst 4 = .ok (.iload_n 1, 1) := by decide +kernel
theorem dX10_worst_5 : decode cX10_worst 5 = .ok (.iconst 1, 1) := by decide +kernel
theorem dX10_worst_6 : decode cX10_worst 6 = .ok (.if_icmp .le 14, 3) := by decide +kernel
theorem dX10_worst_9 : decode cX10_worst 9 = .ok (.new 186, 3) := by decide +kernel
theorem dX10_worst_12 : decode cX10_worst 12 = .ok (.dup, 1) := by decide +kernel
theorem dX10_worst_13 : decode cX10_worst 13 = .ok (.ldc_w 268, 3) := by decide +kernel
theorem dX10_worst_16 : decode cX10_worst 16 = .ok (.invokespecial 190, 3) := by decide +kernel
theorem dX10_worst_19 : decode cX10_worst 19 = .ok (.athrow, 1) := by decide +kernel
theorem dX10_worst_20 : decode cX10_worst 20 = .ok (.aload_n 0, 1) := by decide +kernel
theorem dX10_worst_21 : decode cX10_worst 21 = .ok (.getfield 40, 3) := by decide +kernel
theorem dX10_worst_24 : decode cX10_worst 24 = .ok (.aload_n 0, 1) := by decide +kernel
theorem dX10_worst_25 : decode cX10_worst 25 = .ok (.getfield 10, 3) := by decide +kernel
theorem dX10_worst_28 : decode cX10_worst 28 = .ok (.aload_n 0, 1) := by decide +kernel
theorem dX10_worst_29 : decode cX10_worst 29 = .ok (.getfield 33, 3) := by decide +kernel
theorem dX10_worst_32 : decode cX10_worst 32 = .ok (.aload_n 0, 1) := by decide +kernel
theorem dX10_worst_33 : decode cX10_worst 33 = .ok (.getfield 26, 3) := by decide +kernel
theorem dX10_worst_36 : decode cX10_worst 36 = .ok (.invokevirtual 246, 3) := by decide +kernel
theorem dX10_worst_39 : decode cX10_worst 39 = .ok (.aload_n 0, 1) := by decide +kernel
theorem dX10_worst_40 : decode cX10_worst 40 = .ok (.getfield 40, 3) := by decide +kernel
theorem dX10_worst_43 : decode cX10_worst 43 = .ok (.aload_n 0, 1) := by decide +kernel
theorem dX10_worst_44 : decode cX10_worst 44 = .ok (.getfield 10, 3) := by decide +kernel
theorem dX10_worst_47 : decode cX10_worst 47 = .ok (.invokevirtual 270, 3) := by decide +kernel
theorem dX10_worst_50 : decode cX10_worst 50 = .ok (.istore_n 2, 1) := by decide +kernel
theorem dX10_worst_51 : decode cX10_worst 51 = .ok (.iload_n 1, 1) := by decide +kernel
theorem dX10_worst_52 : decode cX10_worst 52 = .ok (.iconst 1, 1) := by decide +kernel
theorem dX10_worst_53 : decode cX10_worst 53 = .ok (.if_icmp .eq 8, 3) := by decide +kernel
theorem dX10_worst_56 : decode cX10_worst 56 = .ok (.iload_n 2, 1) := by decide +kernel
theorem dX10_worst_57 : decode cX10_worst 57 = .ok (.iconst (-1), 1) := by decide +kernel
theorem dX10_worst_58 : decode cX10_worst 58 = .ok (.if_icmp .ne 7, 3) := by decide +kernel
theorem dX10_worst_61 : decode cX10_worst 61 = .ok (.iload_n 2, 1) := by decide +kernel
theorem dX10_worst_62 : decode cX10_worst 62 = .ok (.goto 11, 3) := by decide +kernel
theorem dX10_worst_65 : decode cX10_worst 65 = .ok (.aload_n 0, 1) := by decide +kernel
theorem dX10_worst_66 : decode cX10_worst 66 = .ok (.getfield 40, 3) := by decide +kernel
theorem dX10_worst_69 : decode cX10_worst 69 = .ok (.iload_n 2, 1) := by decide +kernel
theorem dX10_worst_70 : decode cX10_worst 70 = .ok (.invokevirtual 273, 3) := by decide +kernel
theorem dX10_worst_73 : decode cX10_worst 73 = .ok (.ireturn, 1) := by decide +kernel
theorem dX10_idle_0 : decode cX10_idle 0 = .ok (.aload_n 0, 1) := by decide +kernel
theorem dX10_idle_1 : decode cX10_idle 1 = .ok (.iload_n 1, 1) := by decide +kernel
theorem dX10_idle_2 : decode cX10_idle 2 = .ok (.invokevirtual 114, 3) := by decide +kernel
theorem dX10_idle_5 : decode cX10_idle 5 = .ok (.aload_n 0, 1) := by decide +kernel
theorem dX10_idle_6 : decode cX10_idle 6 = .ok (.getfield 10, 3) := by decide +kernel
theorem dX10_idle_9 : decode cX10_idle 9 = .ok (.getfield 171, 3) := by decide +kernel
theorem dX10_idle_12 : decode cX10_idle 12 = .ok (.iload_n 1, 1) := by decide +kernel
theorem dX10_idle_13 : decode cX10_idle 13 = .ok (.iaload, 1) := by decide +kernel
theorem dX10_idle_14 : decode cX10_idle 14 = .ok (.istore_n 2, 1) := by decide +kernel
theorem dX10_idle_15 : decode cX10_idle 15 = .ok (.iconst 0, 1) := by decide +kernel
theorem dX10_idle_16 : decode cX10_idle 16 = .ok (.istore_n 3, 1) := by decide +kernel
theorem dX10_idle_17 : decode cX10_idle 17 = .ok (.iload_n 3, 1) := by decide +kernel
theorem dX10_idle_18 : decode cX10_idle 18 = .ok (.aload_n 0, 1) := by decide +kernel
theorem dX10_idle_19 : decode cX10_idle 19 = .ok (.getfield 10, 3) := by decide +kernel
theorem dX10_idle_22 : decode cX10_idle 22 = .ok (.getfield 276, 3) := by decide +kernel
theorem dX10_idle_25 : decode cX10_idle 25 = .ok (.if_icmp .ge 43, 3) := by decide +kernel
theorem dX10_idle_28 : decode cX10_idle 28 = .ok (.iload_n 2, 1) := by decide +kernel
theorem dX10_idle_29 : decode cX10_idle 29 = .ok (.ifCond .eq 39, 3) := by decide +kernel
theorem dX10_idle_32 : decode cX10_idle 32 = .ok (.aload_n 0, 1) := by decide +kernel
theorem dX10_idle_33 : decode cX10_idle 33 = .ok (.getfield 26, 3) := by decide +kernel
theorem dX10_idle_36 : decode cX10_idle 36 = .ok (.aload_n 0, 1) := by decide +kernel
theorem dX10_idle_37 : decode cX10_idle 37 = .ok (.getfield 10, 3) := by decide +kernel
theorem dX10_idle_40 : decode cX10_idle 40 = .ok (.iload_n 3, 1) := by decide +kernel
theorem dX10_idle_41 : decode cX10_idle 41 = .ok (.invokevirtual 216, 3) := by decide +kernel
theorem dX10_idle_44 : decode cX10_idle 44 = .ok (.iload_n 2, 1) := by decide +kernel
theorem dX10_idle_45 : decode cX10_idle 45 = .ok (.aload_n 0, 1) := by decide +kernel
theorem dX10_idle_46 : decode cX10_idle 46 = .ok (.getfield 26, 3) := by decide +kernel
theorem dX10_idle_49 : decode cX10_idle 49 = .ok (.aload_n 0, 1) := by decide +kernel
theorem dX10_idle_50 : decode cX10_idle 50 = .ok (.getfield 10, 3) := by decide +kernel
theorem dX10_idle_53 : decode cX10_idle 53 = .ok (.iload_n 1, 1) := by decide +kernel
theorem dX10_idle_54 : decode cX10_idle 54 = .ok (.iload_n 2, 1) := by decide +kernel
theorem dX10_idle_55 : decode cX10_idle 55 = .ok (.invokevirtual 279, 3) := by decide +kernel
theorem dX10_idle_58 : decode cX10_idle 58 = .ok (.iconst (-1), 1) := by decide +kernel
theorem dX10_idle_59 : decode cX10_idle 59 = .ok (.ixor, 1) := by decide +kernel
theorem dX10_idle_60 : decode cX10_idle 60 = .ok (.iand, 1) := by decide +kernel
theorem dX10_idle_61 : decode cX10_idle 61 = .ok (.istore_n 2, 1) := by decide +kernel
theorem dX10_idle_62 : decode cX10_idle 62 = .ok (.iinc 3 1, 3) := by decide +kernel
theorem dX10_idle_65 : decode cX10_idle 65 = .ok (.goto (-48), 3) := by decide +kernel
theorem dX10_idle_68 : decode cX10_idle 68 = .ok (.iload_n 2, 1) := by decide +kernel
theorem dX10_idle_69 : decode cX10_idle 69 = .ok (.ireturn, 1) := by decide +kernel
theorem dX10_otherwise_0 : decode cX10_otherwise 0 = .ok (.aload_n 0, 1) := by decide +kernel
theorem dX10_otherwise_1 : decode cX10_otherwise 1 = .ok (.iload_n 1, 1) := by decide +kernel
theorem dX10_otherwise_2 : decode cX10_otherwise 2 = .ok (.invokevirtual 114, 3) := by decide +kernel
theorem dX10_otherwise_5 : decode cX10_otherwise 5 = .ok (.aload_n 0, 1) := by decide +kernel
theorem dX10_otherwise_6 : decode cX10_otherwise 6 = .ok (.iload_n 2, 1) := by decide +kernel
theorem dX10_otherwise_7 : decode cX10_otherwise 7 = .ok (.invokevirtual 114, 3) := by decide +kernel
theorem dX10_otherwise_10 : decode cX10_otherwise 10 = .ok (.iload_n 1, 1) := by decide +kernel
theorem dX10_otherwise_11 : decode cX10_otherwise 11 = .ok (.iload_n 2, 1) := by decide +kernel
theorem dX10_otherwise_12 : decode cX10_otherwise 12 = .ok (.if_icmp .ne 5, 3) := by decide +kernel
theorem dX10_otherwise_15 : decode cX10_otherwise 15 = .ok (.iconst (-1), 1) := by decide +kernel
theorem dX10_otherwise_16 : decode cX10_otherwise 16 = .ok (.ireturn, 1) := by decide +kernel
theorem dX10_otherwise_17 : decode cX10_otherwise 17 = .ok (.aload_n 0, 1) := by decide +kernel
theorem dX10_otherwise_18 : decode cX10_otherwise 18 = .ok (.getfield 16, 3) := by decide +kernel
theorem dX10_otherwise_21 : decode cX10_otherwise 21 = .ok (.aload_n 0, 1) := by decide +kernel
theorem dX10_otherwise_22 : decode cX10_otherwise 22 = .ok (.getfield 10, 3) := by decide +kernel
theorem dX10_otherwise_25 : decode cX10_otherwise 25 = .ok (.invokevirtual 283, 3) := by decide +kernel
theorem dX10_otherwise_28 : decode cX10_otherwise 28 = .ok (.aload_n 0, 1) := by decide +kernel
theorem dX10_otherwise_29 : decode cX10_otherwise 29 = .ok (.getfield 16, 3) := by decide +kernel
theorem dX10_otherwise_32 : decode cX10_otherwise 32 = .ok (.iload_n 1, 1) := by decide +kernel
theorem dX10_otherwise_33 : decode cX10_otherwise 33 = .ok (.aload_n 0, 1) := by decide +kernel
theorem dX10_otherwise_34 : decode cX10_otherwise 34 = .ok (.getfield 16, 3) := by decide +kernel
theorem dX10_otherwise_37 : decode cX10_otherwise 37 = .ok (.getfield 171, 3) := by decide +kernel
theorem dX10_otherwise_40 : decode cX10_otherwise 40 = .ok (.iload_n 1, 1) := by decide +kernel
theorem dX10_otherwise_41 : decode cX10_otherwise 41 = .ok (.iaload, 1) := by decide +kernel
theorem dX10_otherwise_42 : decode cX10_otherwise 42 = .ok (.iconst 1, 1) := by decide +kernel
theorem dX10_otherwise_43 : decode cX10_otherwise 43 = .ok (.iload_n 2, 1) := by decide +kernel
theorem dX10_otherwise_44 : decode cX10_otherwise 44 = .ok (.ishl, 1) := by decide +kernel
theorem dX10_otherwise_45 : decode cX10_otherwise 45 = .ok (.ixor, 1) := by decide +kernel
theorem dX10_otherwise_46 : decode cX10_otherwise 46 = .ok (.invokevirtual 122, 3) := by decide +kernel
theorem dX10_otherwise_49 : decode cX10_otherwise 49 = .ok (.iconst 0, 1) := by decide +kernel
theorem dX10_otherwise_50 : decode cX10_otherwise 50 = .ok (.istore_n 3, 1) := by decide +kernel
theorem dX10_otherwise_51 : decode cX10_otherwise 51 = .ok (.iconst 0, 1) := by decide +kernel
theorem dX10_otherwise_52 : decode cX10_otherwise 52 = .ok (.istore 4, 2) := by decide +kernel
theorem dX10_otherwise_54 : decode cX10_otherwise 54 = .ok (.iload 4, 2) := by decide +kernel
theorem dX10_otherwise_56 : decode cX10_otherwise 56 = .ok (.aload_n 0, 1) := by decide +kernel
theorem dX10_otherwise_57 : decode cX10_otherwise 57 = .ok (.getfield 16, 3) := by decide +kernel
theorem dX10_otherwise_60 : decode cX10_otherwise 60 = .ok (.getfield 276, 3) := by decide +kernel
theorem dX10_otherwise_63 : decode cX10_otherwise 63 = .ok (.if_icmp .ge 103, 3) := by decide +kernel
theorem dX10_otherwise_66 : decode cX10_otherwise 66 = .ok (.aload_n 0, 1) := by decide +kernel
theorem dX10_otherwise_67 : decode cX10_otherwise 67 = .ok (.getfield 26, 3) := by decide +kernel
theorem dX10_otherwise_70 : decode cX10_otherwise 70 = .ok (.aload_n 0, 1) := by decide +kernel
theorem dX10_otherwise_71 : decode cX10_otherwise 71 = .ok (.getfield 16, 3) := by decide +kernel
theorem dX10_otherwise_74 : decode cX10_otherwise 74 = .ok (.iload 4, 2) := by decide +kernel
theorem dX10_otherwise_76 : decode cX10_otherwise 76 = .ok (.invokevirtual 287, 3) := by decide +kernel
theorem dX10_otherwise_79 : decode cX10_otherwise 79 = .ok (.aload_n 0, 1) := by decide +kernel
theorem dX10_otherwise_80 : decode cX10_otherwise 80 = .ok (.getfield 33, 3) := by decide +kernel
theorem dX10_otherwise_83 : decode cX10_otherwise 83 = .ok (.aload_n 0, 1) := by decide +kernel
theorem dX10_otherwise_84 : decode cX10_otherwise 84 = .ok (.getfield 26, 3) := by decide +kernel
theorem dX10_otherwise_87 : decode cX10_otherwise 87 = .ok (.aload_n 0, 1) := by decide +kernel
theorem dX10_otherwise_88 : decode cX10_otherwise 88 = .ok (.getfield 16, 3) := by decide +kernel
theorem dX10_otherwise_91 : decode cX10_otherwise 91 = .ok (.getfield 150, 3) := by decide +kernel
theorem dX10_otherwise_94 : decode cX10_otherwise 94 = .ok (.invokevirtual 234, 3) := by decide +kernel
theorem dX10_otherwise_97 : decode cX10_otherwise 97 = .ok (.lconst 0, 1) := by decide +kernel
theorem dX10_otherwise_98 : decode cX10_otherwise 98 = .ok (.lcmp, 1) := by decide +kernel
theorem dX10_otherwise_99 : decode cX10_otherwise 99 = .ok (.ifCond .le 61, 3) := by decide +kernel
theorem dX10_otherwise_102 : decode cX10_otherwise 102 = .ok (.aload_n 0, 1) := by decide +kernel
theorem dX10_otherwise_103 : decode cX10_otherwise 103 = .ok (.getfield 26, 3) := by decide +kernel
theorem dX10_otherwise_106 : decode cX10_otherwise 106 = .ok (.aload_n 0, 1) := by decide +kernel
theorem dX10_otherwise_107 : decode cX10_otherwise 107 = .ok (.getfield 16, 3) := by decide +kernel
theorem dX10_otherwise_110 : decode cX10_otherwise 110 = .ok (.invokevirtual 290, 3) := by decide +kernel
theorem dX10_otherwise_113 : decode cX10_otherwise 113 = .ok (.iload_n 3, 1) := by decide +kernel
theorem dX10_otherwise_114 : decode cX10_otherwise 114 = .ok (.aload_n 0, 1) := by decide +kernel
theorem dX10_otherwise_115 : decode cX10_otherwise 115 = .ok (.getfield 33, 3) := by decide +kernel
theorem dX10_otherwise_118 : decode cX10_otherwise 118 = .ok (.aload_n 0, 1) := by decide +kernel
theorem dX10_otherwise_119 : decode cX10_otherwise 119 = .ok (.getfield 26, 3) := by decide +kernel
theorem dX10_otherwise_122 : decode cX10_otherwise 122 = .ok (.aload_n 0, 1) := by decide +kernel
theorem dX10_otherwise_123 : decode cX10_otherwise 123 = .ok (.getfield 16, 3) := by decide +kernel
theorem dX10_otherwise_126 : decode cX10_otherwise 126 = .ok (.invokevirtual 227, 3) := by decide +kernel
theorem dX10_otherwise_129 : decode cX10_otherwise 129 = .ok (.aload_n 0, 1) := by decide +kernel
theorem dX10_otherwise_130 : decode cX10_otherwise 130 = .ok (.getfield 26, 3) := by decide +kernel
theorem dX10_otherwise_133 : decode cX10_otherwise 133 = .ok (.aload_n 0, 1) := by decide +kernel
theorem dX10_otherwise_134 : decode cX10_otherwise 134 = .ok (.getfield 16, 3) := by decide +kernel
theorem dX10_otherwise_137 : decode cX10_otherwise 137 = .ok (.invokevirtual 231, 3) := by decide +kernel
theorem dX10_otherwise_140 : decode cX10_otherwise 140 = .ok (.aload_n 0, 1) := by decide +kernel
theorem dX10_otherwise_141 : decode cX10_otherwise 141 = .ok (.getfield 16, 3) := by decide +kernel
theorem dX10_otherwise_144 : decode cX10_otherwise 144 = .ok (.getfield 150, 3) := by decide +kernel
theorem dX10_otherwise_147 : decode cX10_otherwise 147 = .ok (.invokevirtual 238, 3) := by decide +kernel
theorem dX10_otherwise_150 : decode cX10_otherwise 150 = .ok (.ifCond .eq 7, 3) := by decide +kernel
theorem dX10_otherwise_153 : decode cX10_otherwise 153 = .ok (.iconst 1, 1) := by decide +kernel
theorem dX10_otherwise_154 : decode cX10_otherwise 154 = .ok (.goto 4, 3) := by decide +kernel
theorem dX10_otherwise_157 : decode cX10_otherwise 157 = .ok (.iconst 0, 1) := by decide +kernel
theorem dX10_otherwise_158 : decode cX10_otherwise 158 = .ok (.iadd, 1) := by decide +kernel
theorem dX10_otherwise_159 : decode cX10_otherwise 159 = .ok (.istore_n 3, 1) := by decide +kernel
theorem dX10_otherwise_160 : decode cX10_otherwise 160 = .ok (.iinc 4 1, 3) := by decide +kernel
theorem dX10_otherwise_163 : decode cX10_otherwise 163 = .ok (.goto (-109), 3) := by decide +kernel
theorem dX10_otherwise_166 : decode cX10_otherwise 166 = .ok (.iload_n 3, 1) := by decide +kernel
theorem dX10_otherwise_167 : decode cX10_otherwise 167 = .ok (.ireturn, 1) := by decide +kernel
theorem dX10_needTablesAtOnce_0 : decode cX10_needTablesAtOnce 0 = .ok (.iconst 0, 1) := by decide +kernel
theorem dX10_needTablesAtOnce_1 : decode cX10_needTablesAtOnce 1 = .ok (.istore_n 1, 1) := by decide +kernel
theorem dX10_needTablesAtOnce_2 : decode cX10_needTablesAtOnce 2 = .ok (.iload_n 1, 1) := by decide +kernel
theorem dX10_needTablesAtOnce_3 : decode cX10_needTablesAtOnce 3 = .ok (.aload_n 0, 1) := by decide +kernel
theorem dX10_needTablesAtOnce_4 : decode cX10_needTablesAtOnce 4 = .ok (.getfield 10, 3) := by decide +kernel
theorem dX10_needTablesAtOnce_7 : decode cX10_needTablesAtOnce 7 = .ok (.getfield 150, 3) := by decide +kernel
theorem dX10_needTablesAtOnce_10 : decode cX10_needTablesAtOnce 10 = .ok (.if_icmp .ge 45, 3) := by decide +kernel
theorem dX10_needTablesAtOnce_13 : decode cX10_needTablesAtOnce 13 = .ok (.aload_n 0, 1) := by decide +kernel
theorem dX10_needTablesAtOnce_14 : decode cX10_needTablesAtOnce 14 = .ok (.getfield 10, 3) := by decide +kernel
theorem dX10_needTablesAtOnce_17 : decode cX10_needTablesAtOnce 17 = .ok (.getfield 174, 3) := by decide +kernel
theorem dX10_needTablesAtOnce_20 : decode cX10_needTablesAtOnce 20 = .ok (.iload_n 1, 1) := by decide +kernel
theorem dX10_needTablesAtOnce_21 : decode cX10_needTablesAtOnce 21 = .ok (.iaload, 1) := by decide +kernel
theorem dX10_needTablesAtOnce_22 : decode cX10_needTablesAtOnce 22 = .ok (.ifCond .ne 16, 3) := by decide +kernel
theorem dX10_needTablesAtOnce_25 : decode cX10_needTablesAtOnce 25 = .ok (.aload_n 0, 1) := by decide +kernel
theorem dX10_needTablesAtOnce_26 : decode cX10_needTablesAtOnce 26 = .ok (.getfield 10, 3) := by decide +kernel
theorem dX10_needTablesAtOnce_29 : decode cX10_needTablesAtOnce 29 = .ok (.getfield 180, 3) := by decide +kernel
theorem dX10_needTablesAtOnce_32 : decode cX10_needTablesAtOnce 32 = .ok (.iload_n 1, 1) := by decide +kernel
theorem dX10_needTablesAtOnce_33 : decode cX10_needTablesAtOnce 33 = .ok (.iaload, 1) := by decide +kernel
theorem dX10_needTablesAtOnce_34 : decode cX10_needTablesAtOnce 34 = .ok (.iconst (-1), 1) := by decide +kernel
theorem dX10_needTablesAtOnce_35 : decode cX10_needTablesAtOnce 35 = .ok (.if_icmp .ne 14, 3) := by decide +kernel
theorem dX10_needTablesAtOnce_38 : decode cX10_needTablesAtOnce 38 = .ok (.new 143, 3) := by decide +kernel
theorem dX10_needTablesAtOnce_41 : decode cX10_needTablesAtOnce 41 = .ok (.dup, 1) := by decide +kernel
theorem dX10_needTablesAtOnce_42 : decode cX10_needTablesAtOnce 42 = .ok (.ldc_w 367, 3) := by decide +kernel
theorem dX10_needTablesAtOnce_45 : decode cX10_needTablesAtOnce 45 = .ok (.invokespecial 147, 3) := by decide +kernel
theorem dX10_needTablesAtOnce_48 : decode cX10_needTablesAtOnce 48 = .ok (.athrow, 1) := by decide +kernel
theorem dX10_needTablesAtOnce_49 : decode cX10_needTablesAtOnce 49 = .ok (.iinc 1 1, 3) := by decide +kernel
theorem dX10_needTablesAtOnce_52 : decode cX10_needTablesAtOnce 52 = .ok (.goto (-50), 3) := by decide +kernel
theorem dX10_needTablesAtOnce_55 : decode cX10_needTablesAtOnce 55 = .ok (.return_, 1) := by decide +kernel
theorem dX10_search_0 : decode cX10_search 0 = .ok (.iload_n 1, 1) := by decide +kernel
theorem dX10_search_1 : decode cX10_search 1 = .ok (.ifCond .lt 10, 3) := by decide +kernel
theorem dX10_search_4 : decode cX10_search 4 = .ok (.iload_n 1, 1) := by decide +kernel
theorem dX10_search_5 : decode cX10_search 5 = .ok (.sipush 5000, 3) := by decide +kernel
theorem dX10_search_8 : decode cX10_search 8 = .ok (.if_icmp .le 14, 3) := by decide +kernel
theorem dX10_search_11 : decode cX10_search 11 = .ok (.new 143, 3) := by decide +kernel
theorem dX10_search_14 : decode cX10_search 14 = .ok (.dup, 1) := by decide +kernel
theorem dX10_search_15 : decode cX10_search 15 = .ok (.ldc_w 300, 3) := by decide +kernel
theorem dX10_search_18 : decode cX10_search 18 = .ok (.invokespecial 147, 3) := by decide +kernel
theorem dX10_search_21 : decode cX10_search 21 = .ok (.athrow, 1) := by decide +kernel
theorem dX10_search_22 : decode cX10_search 22 = .ok (.aload_n 0, 1) := by decide +kernel
theorem dX10_search_23 : decode cX10_search 23 = .ok (.invokevirtual 302, 3) := by decide +kernel
theorem dX10_search_26 : decode cX10_search 26 = .ok (.aload_n 0, 1) := by decide +kernel
theorem dX10_search_27 : decode cX10_search 27 = .ok (.getfield 62, 3) := by decide +kernel
theorem dX10_search_30 : decode cX10_search 30 = .ok (.aload_n 0, 1) := by decide +kernel
theorem dX10_search_31 : decode cX10_search 31 = .ok (.getfield 10, 3) := by decide +kernel
theorem dX10_search_34 : decode cX10_search 34 = .ok (.aload_n 0, 1) := by decide +kernel
theorem dX10_search_35 : decode cX10_search 35 = .ok (.getfield 26, 3) := by decide +kernel
theorem dX10_search_38 : decode cX10_search 38 = .ok (.iload_n 1, 1) := by decide +kernel
theorem dX10_search_39 : decode cX10_search 39 = .ok (.invokevirtual 305, 3) := by decide +kernel
theorem dX10_search_42 : decode cX10_search 42 = .ok (.istore_n 2, 1) := by decide +kernel
theorem dX10_search_43 : decode cX10_search 43 = .ok (.iload_n 2, 1) := by decide +kernel
theorem dX10_search_44 : decode cX10_search 44 = .ok (.iconst 1, 1) := by decide +kernel
theorem dX10_search_45 : decode cX10_search 45 = .ok (.if_icmp .ne 21, 3) := by decide +kernel
theorem dX10_search_48 : decode cX10_search 48 = .ok (.aload_n 0, 1) := by decide +kernel
theorem dX10_search_49 : decode cX10_search 49 = .ok (.getfield 62, 3) := by decide +kernel
theorem dX10_search_52 : decode cX10_search 52 = .ok (.aload_n 0, 1) := by decide +kernel
theorem dX10_search_53 : decode cX10_search 53 = .ok (.getfield 10, 3) := by decide +kernel
theorem dX10_search_56 : decode cX10_search 56 = .ok (.invokevirtual 309, 3) := by decide +kernel
theorem dX10_search_59 : decode cX10_search 59 = .ok (.aload_n 0, 1) := by decide +kernel
theorem dX10_search_60 : decode cX10_search 60 = .ok (.getfield 40, 3) := by decide +kernel
theorem dX10_search_63 : decode cX10_search 63 = .ok (.invokevirtual 111, 3) := by decide +kernel
theorem dX10_search_66 : decode cX10_search 66 = .ok (.iload_n 2, 1) := by decide +kernel
theorem dX10_search_67 : decode cX10_search 67 = .ok (.ireturn, 1) := by decide +kernel
theorem dX10_sums_0 : decode cX10_sums 0 = .ok (.aload_n 0, 1) := by decide +kernel
theorem dX10_sums_1 : decode cX10_sums 1 = .ok (.invokevirtual 302, 3) := by decide +kernel
theorem dX10_sums_4 : decode cX10_sums 4 = .ok (.aload_n 0, 1) := by decide +kernel
theorem dX10_sums_5 : decode cX10_sums 5 = .ok (.getfield 10, 3) := by decide +kernel
theorem dX10_sums_8 : decode cX10_sums 8 = .ok (.getfield 276, 3) := by decide +kernel
theorem dX10_sums_11 : decode cX10_sums 11 = .ok (.sipush 256, 3) := by decide +kernel
theorem dX10_sums_14 : decode cX10_sums 14 = .ok (.if_icmp .le 14, 3) := by decide +kernel
theorem dX10_sums_17 : decode cX10_sums 17 = .ok (.new 143, 3) := by decide +kernel
theorem dX10_sums_20 : decode cX10_sums 20 = .ok (.dup, 1) := by decide +kernel
theorem dX10_sums_21 : decode cX10_sums 21 = .ok (.ldc_w 314, 3) := by decide +kernel
theorem dX10_sums_24 : decode cX10_sums 24 = .ok (.invokespecial 147, 3) := by decide +kernel
theorem dX10_sums_27 : decode cX10_sums 27 = .ok (.athrow, 1) := by decide +kernel
theorem dX10_sums_28 : decode cX10_sums 28 = .ok (.aload_n 0, 1) := by decide +kernel
theorem dX10_sums_29 : decode cX10_sums 29 = .ok (.getfield 69, 3) := by decide +kernel
theorem dX10_sums_32 : decode cX10_sums 32 = .ok (.aload_n 0, 1) := by decide +kernel
theorem dX10_sums_33 : decode cX10_sums 33 = .ok (.getfield 10, 3) := by decide +kernel
theorem dX10_sums_36 : decode cX10_sums 36 = .ok (.aload_n 0, 1) := by decide +kernel
theorem dX10_sums_37 : decode cX10_sums 37 = .ok (.getfield 33, 3) := by decide +kernel
theorem dX10_sums_40 : decode cX10_sums 40 = .ok (.aload_n 0, 1) := by decide +kernel
theorem dX10_sums_41 : decode cX10_sums 41 = .ok (.getfield 26, 3) := by decide +kernel
theorem dX10_sums_44 : decode cX10_sums 44 = .ok (.invokevirtual 316, 3) := by decide +kernel
theorem dX10_sums_47 : decode cX10_sums 47 = .ok (.istore_n 1, 1) := by decide +kernel
theorem dX10_sums_48 : decode cX10_sums 48 = .ok (.aload_n 0, 1) := by decide +kernel
theorem dX10_sums_49 : decode cX10_sums 49 = .ok (.getfield 69, 3) := by decide +kernel
theorem dX10_sums_52 : decode cX10_sums 52 = .ok (.aload_n 0, 1) := by decide +kernel
theorem dX10_sums_53 : decode cX10_sums 53 = .ok (.getfield 10, 3) := by decide +kernel
theorem dX10_sums_56 : decode cX10_sums 56 = .ok (.invokevirtual 319, 3) := by decide +kernel
theorem dX10_sums_59 : decode cX10_sums 59 = .ok (.aload_n 0, 1) := by decide +kernel
theorem dX10_sums_60 : decode cX10_sums 60 = .ok (.getfield 40, 3) := by decide +kernel
theorem dX10_sums_63 : decode cX10_sums 63 = .ok (.invokevirtual 111, 3) := by decide +kernel
theorem dX10_sums_66 : decode cX10_sums 66 = .ok (.iload_n 1, 1) := by decide +kernel
theorem dX10_sums_67 : decode cX10_sums 67 = .ok (.ireturn, 1) := by decide +kernel
theorem dX10_constant_0 : decode cX10_constant 0 = .ok (.aload_n 0, 1) := by decide +kernel
theorem dX10_constant_1 : decode cX10_constant 1 = .ok (.iload_n 1, 1) := by decide +kernel
theorem dX10_constant_2 : decode cX10_constant 2 = .ok (.invokevirtual 114, 3) := by decide +kernel
theorem dX10_constant_5 : decode cX10_constant 5 = .ok (.iload_n 1, 1) := by decide +kernel
theorem dX10_constant_6 : decode cX10_constant 6 = .ok (.aload_n 0, 1) := by decide +kernel
theorem dX10_constant_7 : decode cX10_constant 7 = .ok (.getfield 69, 3) := by decide +kernel
theorem dX10_constant_10 : decode cX10_constant 10 = .ok (.getfield 320, 3) := by decide +kernel
theorem dX10_constant_13 : decode cX10_constant 13 = .ok (.if_icmp .lt 14, 3) := by decide +kernel
theorem dX10_constant_16 : decode cX10_constant 16 = .ok (.new 186, 3) := by decide +kernel
theorem dX10_constant_19 : decode cX10_constant 19 = .ok (.dup, 1) := by decide +kernel
theorem dX10_constant_20 : decode cX10_constant 20 = .ok (.ldc_w 323, 3) := by decide +kernel
theorem dX10_constant_23 : decode cX10_constant 23 = .ok (.invokespecial 190, 3) := by decide +kernel
theorem dX10_constant_26 : decode cX10_constant 26 = .ok (.athrow, 1) := by decide +kernel
theorem dX10_constant_27 : decode cX10_constant 27 = .ok (.aload_n 0, 1) := by decide +kernel
theorem dX10_constant_28 : decode cX10_constant 28 = .ok (.getfield 69, 3) := by decide +kernel
theorem dX10_constant_31 : decode cX10_constant 31 = .ok (.getfield 325, 3) := by decide +kernel
theorem dX10_constant_34 : decode cX10_constant 34 = .ok (.iload_n 1, 1) := by decide +kernel
theorem dX10_constant_35 : decode cX10_constant 35 = .ok (.iaload, 1) := by decide +kernel
theorem dX10_constant_36 : decode cX10_constant 36 = .ok (.ireturn, 1) := by decide +kernel
theorem dX10_given_0 : decode cX10_given 0 = .ok (.iload_n 1, 1) := by decide +kernel
theorem dX10_given_1 : decode cX10_given 1 = .ok (.ifCond .lt 14, 3) := by decide +kernel
theorem dX10_given_4 : decode cX10_given 4 = .ok (.iload_n 1, 1) := by decide +kernel
theorem dX10_given_5 : decode cX10_given 5 = .ok (.aload_n 0, 1) := by decide +kernel
theorem dX10_given_6 : decode cX10_given 6 = .ok (.getfield 76, 3) := by decide +kernel
theorem dX10_given_9 : decode cX10_given 9 = .ok (.getfield 331, 3) := by decide +kernel
theorem dX10_given_12 : decode cX10_given 12 = .ok (.if_icmp .lt 14, 3) := by decide +kernel
theorem dX10_given_15 : decode cX10_given 15 = .ok (.new 186, 3) := by decide +kernel
theorem dX10_given_18 : decode cX10_given 18 = .ok (.dup, 1) := by decide +kernel
theorem dX10_given_19 : decode cX10_given 19 = .ok (.ldc_w 334, 3) := by decide +kernel
theorem dX10_given_22 : decode cX10_given 22 = .ok (.invokespecial 190, 3) := by decide +kernel
theorem dX10_given_25 : decode cX10_given 25 = .ok (.athrow, 1) := by decide +kernel
theorem dX10_given_26 : decode cX10_given 26 = .ok (.aload_n 0, 1) := by decide +kernel
theorem dX10_given_27 : decode cX10_given 27 = .ok (.getfield 76, 3) := by decide +kernel
theorem dX10_given_30 : decode cX10_given 30 = .ok (.getfield 336, 3) := by decide +kernel
theorem dX10_given_33 : decode cX10_given 33 = .ok (.iload_n 1, 1) := by decide +kernel
theorem dX10_given_34 : decode cX10_given 34 = .ok (.iaload, 1) := by decide +kernel
theorem dX10_given_35 : decode cX10_given 35 = .ok (.ireturn, 1) := by decide +kernel
theorem dX10_mend_0 : decode cX10_mend 0 = .ok (.iload_n 1, 1) := by decide +kernel
theorem dX10_mend_1 : decode cX10_mend 1 = .ok (.ifCond .lt 9, 3) := by decide +kernel
theorem dX10_mend_4 : decode cX10_mend 4 = .ok (.iload_n 1, 1) := by decide +kernel
theorem dX10_mend_5 : decode cX10_mend 5 = .ok (.bipush 20, 2) := by decide +kernel
theorem dX10_mend_7 : decode cX10_mend 7 = .ok (.if_icmp .le 14, 3) := by decide +kernel
theorem dX10_mend_10 : decode cX10_mend 10 = .ok (.new 143, 3) := by decide +kernel
theorem dX10_mend_13 : decode cX10_mend 13 = .ok (.dup, 1) := by decide +kernel
theorem dX10_mend_14 : decode cX10_mend 14 = .ok (.ldc_w 346, 3) := by decide +kernel
theorem dX10_mend_17 : decode cX10_mend 17 = .ok (.invokespecial 147, 3) := by decide +kernel
theorem dX10_mend_20 : decode cX10_mend 20 = .ok (.athrow, 1) := by decide +kernel
theorem dX10_mend_21 : decode cX10_mend 21 = .ok (.aload_n 0, 1) := by decide +kernel
theorem dX10_mend_22 : decode cX10_mend 22 = .ok (.getfield 10, 3) := by decide +kernel
theorem dX10_mend_25 : decode cX10_mend 25 = .ok (.getfield 276, 3) := by decide +kernel
theorem dX10_mend_28 : decode cX10_mend 28 = .ok (.sipush 256, 3) := by decide +kernel
theorem dX10_mend_31 : decode cX10_mend 31 = .ok (.if_icmp .gt 16, 3) := by decide +kernel
theorem dX10_mend_34 : decode cX10_mend 34 = .ok (.aload_n 0, 1) := by decide +kernel
theorem dX10_mend_35 : decode cX10_mend 35 = .ok (.getfield 10, 3) := by decide +kernel
theorem dX10_mend_38 : decode cX10_mend 38 = .ok (.invokevirtual 348, 3) := by decide +kernel
theorem dX10_mend_41 : decode cX10_mend 41 = .ok (.sipush 256, 3) := by decide +kernel
theorem dX10_mend_44 : decode cX10_mend 44 = .ok (.if_icmp .le 5, 3) := by decide +kernel
theorem dX10_mend_47 : decode cX10_mend 47 = .ok (.iconst (-1), 1) := by decide +kernel
theorem dX10_mend_48 : decode cX10_mend 48 = .ok (.ireturn, 1) := by decide +kernel
theorem dX10_mend_49 : decode cX10_mend 49 = .ok (.iconst 0, 1) := by decide +kernel
theorem dX10_mend_50 : decode cX10_mend 50 = .ok (.istore_n 2, 1) := by decide +kernel
theorem dX10_mend_51 : decode cX10_mend 51 = .ok (.iload_n 2, 1) := by decide +kernel
theorem dX10_mend_52 : decode cX10_mend 52 = .ok (.iload_n 1, 1) := by decide +kernel
theorem dX10_mend_53 : decode cX10_mend 53 = .ok (.if_icmp .ge 27, 3) := by decide +kernel
theorem dX10_mend_56 : decode cX10_mend 56 = .ok (.aload_n 0, 1) := by decide +kernel
theorem dX10_mend_57 : decode cX10_mend 57 = .ok (.getfield 83, 3) := by decide +kernel
theorem dX10_mend_60 : decode cX10_mend 60 = .ok (.aload_n 0, 1) := by decide +kernel
theorem dX10_mend_61 : decode cX10_mend 61 = .ok (.getfield 10, 3) := by decide +kernel
theorem dX10_mend_64 : decode cX10_mend 64 = .ok (.aload_n 0, 1) := by decide +kernel
theorem dX10_mend_65 : decode cX10_mend 65 = .ok (.getfield 33, 3) := by decide +kernel
theorem dX10_mend_68 : decode cX10_mend 68 = .ok (.invokevirtual 351, 3) := by decide +kernel
theorem dX10_mend_71 : decode cX10_mend 71 = .ok (.ifCond .eq 9, 3) := by decide +kernel
theorem dX10_mend_74 : decode cX10_mend 74 = .ok (.iinc 2 1, 3) := by decide +kernel
theorem dX10_mend_77 : decode cX10_mend 77 = .ok (.goto (-26), 3) := by decide +kernel
theorem dX10_mend_80 : decode cX10_mend 80 = .ok (.aload_n 0, 1) := by decide +kernel
theorem dX10_mend_81 : decode cX10_mend 81 = .ok (.getfield 40, 3) := by decide +kernel
theorem dX10_mend_84 : decode cX10_mend 84 = .ok (.invokevirtual 111, 3) := by decide +kernel
theorem dX10_mend_87 : decode cX10_mend 87 = .ok (.iload_n 2, 1) := by decide +kernel
theorem dX10_mend_88 : decode cX10_mend 88 = .ok (.ireturn, 1) := by decide +kernel
theorem dX10_count_0 : decode cX10_count 0 = .ok (.iload_n 1, 1) := by decide +kernel
theorem dX10_count_1 : decode cX10_count 1 = .ok (.tableswitch 96 0 6 #[43, 51, 59, 67, 75, 83, 88], 43) := by decide +kernel
theorem dX10_count_44 : decode cX10_count 44 = .ok (.aload_n 0, 1) := by decide +kernel
theorem dX10_count_45 : decode cX10_count 45 = .ok (.getfield 10, 3) := by decide +kernel
theorem dX10_count_48 : decode cX10_count 48 = .ok (.getfield 150, 3) := by decide +kernel
theorem dX10_count_51 : decode cX10_count 51 = .ok (.ireturn, 1) := by decide +kernel
theorem dX10_count_52 : decode cX10_count 52 = .ok (.aload_n 0, 1) := by decide +kernel
theorem dX10_count_53 : decode cX10_count 53 = .ok (.getfield 10, 3) := by decide +kernel
theorem dX10_count_56 : decode cX10_count 56 = .ok (.getfield 128, 3) := by decide +kernel
theorem dX10_count_59 : decode cX10_count 59 = .ok (.ireturn, 1) := by decide +kernel
theorem dX10_count_60 : decode cX10_count 60 = .ok (.aload_n 0, 1) := by decide +kernel
theorem dX10_count_61 : decode cX10_count 61 = .ok (.getfield 10, 3) := by decide +kernel
theorem dX10_count_64 : decode cX10_count 64 = .ok (.getfield 276, 3) := by decide +kernel
theorem dX10_count_67 : decode cX10_count 67 = .ok (.ireturn, 1) := by decide +kernel
theorem dX10_count_68 : decode cX10_count 68 = .ok (.aload_n 0, 1) := by decide +kernel
theorem dX10_count_69 : decode cX10_count 69 = .ok (.getfield 33, 3) := by decide +kernel
theorem dX10_count_72 : decode cX10_count 72 = .ok (.getfield 134, 3) := by decide +kernel
theorem dX10_count_75 : decode cX10_count 75 = .ok (.ireturn, 1) := by decide +kernel
theorem dX10_count_76 : decode cX10_count 76 = .ok (.aload_n 0, 1) := by decide +kernel
theorem dX10_count_77 : decode cX10_count 77 = .ok (.getfield 33, 3) := by decide +kernel
theorem dX10_count_80 : decode cX10_count 80 = .ok (.getfield 137, 3) := by decide +kernel
theorem dX10_count_83 : decode cX10_count 83 = .ok (.ireturn, 1) := by decide +kernel
theorem dX10_count_84 : decode cX10_count 84 = .ok (.aload_n 0, 1) := by decide +kernel
theorem dX10_count_85 : decode cX10_count 85 = .ok (.getfield 55, 3) := by decide +kernel
theorem dX10_count_88 : decode cX10_count 88 = .ok (.ireturn, 1) := by decide +kernel
theorem dX10_count_89 : decode cX10_count 89 = .ok (.aload_n 0, 1) := by decide +kernel
theorem dX10_count_90 : decode cX10_count 90 = .ok (.getfield 10, 3) := by decide +kernel
theorem dX10_count_93 : decode cX10_count 93 = .ok (.invokevirtual 358, 3) := by decide +kernel
theorem dX10_count_96 : decode cX10_count 96 = .ok (.ireturn, 1) := by decide +kernel
theorem dX10_count_97 : decode cX10_count 97 = .ok (.new 186, 3) := by decide +kernel
theorem dX10_count_100 : decode cX10_count 100 = .ok (.dup, 1) := by decide +kernel
theorem dX10_count_101 : decode cX10_count 101 = .ok (.ldc_w 361, 3) := by decide +kernel
theorem dX10_count_104 : decode cX10_count 104 = .ok (.invokespecial 190, 3) := by decide +kernel
theorem dX10_count_107 : decode cX10_count 107 = .ok (.athrow, 1) := by decide +kernel
section
variable {p : Program} {l : Launch} {e : Env} {R : Room} {s : State} {m : MethodId} {args : Array Value} {below : List Frame} {meth : Method} {c : Code} {D : va_G} {cA : Nat → ClassId} {z : Nat} {A : Nat → Prop} {J : HJ}
theorem wkH_needRow_b15 {I : HI} {T : HR} {F : HR} {L : HL} {Q : Prop} {Xc : Prop} (X : hX p m c s args RX10 cX10_needRow 2) (hr : meth.sig.returnType = none) (hlk : meth.locks = false) (hR : 7 ≤ R.frames ∧ 120 ≤ R.locals) (hRc : 1 ≤ R.cells ∧ 6 ≤ R.slots) (hlt : l.stackTraces = false) (hxt : c.exceptionTable.isEmpty = true) (hG : Geo F L)  : ∀ {ls : Array Slot} {H : Heap} {locs : List Loc}, H_needRow_b15 I Q Xc → hW D cA z EvC (I, J, T, F, L) A s H locs → lv_has ls 2 [] → W p l e R s m args below meth c H locs 0 0 (vx_MQ below (va_Qv (p0v (I, J, T, F, L) Q) (hB D cA z A) A) (vx_X (p0v (I, J, T, F, L) Xc) (pX "java/util/NoSuchElementException" D cA z A) A) args s 1 6 A) (F0 m 15 ls []) := by
  have hx := X.1
  have hb := X.2.1
  intro ls H locs h hw hl
  unfold H_needRow_b15 at h
  exact hm_thrNW (is := 365) (text := "no such row") hlt X hxt hlk hw (by decide) ⟨rfl, h⟩ hl.1 dX10_needRow_15 dX10_needRow_18 dX10_needRow_19 dX10_needRow_22 dX10_needRow_25 ⟨Nat.le_trans (Nat.le_of_ble_eq_true rfl) hR.1, Nat.le_trans (Nat.le_of_ble_eq_true rfl) hR.2⟩ (Nat.le_trans (Nat.le_of_ble_eq_true rfl) hRc.1) (Nat.le_trans (Nat.le_of_ble_eq_true rfl) hRc.2) (Nat.le_of_ble_eq_true rfl) (Nat.le_of_ble_eq_true rfl)

theorem cH_needRow {l : Launch} {D : va_G} {cA : Nat → ClassId} {z sz : Nat} {I : HI} {T : HR} {F : HR} {L : HL} {x1 : Int32} {Q : Prop} {Xc : Prop} (hlt : l.stackTraces = false) (hG : Geo F L) (h : H_needRow I x1 Q Xc) : vx_Met l yX10_needRow (hws0 yX10_needRow cX10_needRow 2 none) { frames := 7, cells := 1, slots := 6, locals := 120 } (hPc D cA z EvC (I, J, T, F, L) sz [.ref (z + 0), .int x1]) (va_Qv (p0v (I, J, T, F, L) Q) (hB D cA z (hA z L sz)) (hA z L sz)) (vx_X (p0v (I, J, T, F, L) Xc) (pX "java/util/NoSuchElementException" D cA z (hA z L sz)) (hA z L sz)) 1 6 (hA z L sz) := by
  refine hm_xmet (I, J, T, F, L) [.ref (z + 0), .int x1] rfl (by decide) (Nat.le_of_ble_eq_true rfl) ?_
  intro p e s m below meth c ls X hr hlk hnm hxt hsz hw hl
  have hl : lv_has ls 2 [(0, .ref (z + 0)), (1, .int x1)] := hl
  have hR : 7 ≤ ({ frames := 7, cells := 1, slots := 6, locals := 120 } : Room).frames ∧ 120 ≤ ({ frames := 7, cells := 1, slots := 6, locals := 120 } : Room).locals := ⟨Nat.le_refl _, Nat.le_refl _⟩
  have hRc : 1 ≤ ({ frames := 7, cells := 1, slots := 6, locals := 120 } : Room).cells ∧ 6 ≤ ({ frames := 7, cells := 1, slots := 6, locals := 120 } : Room).slots := ⟨Nat.le_refl _, Nat.le_refl _⟩
  generalize ({ frames := 7, cells := 1, slots := 6, locals := 120 } : Room) = R at hR hRc ⊢
  clear hsz
  generalize (hA z L sz) = A at hw ⊢
  have hx := X.1
  have hb := X.2.1
  unfold H_needRow at h
  refine lv_iload_n hx hb dX10_needRow_0 rfl (lv_at hl 1 rfl) ?_
  refine lv_if_lt (tgt := 15) hx hb dX10_needRow_1 (by decide) (fun hc => ?_) (fun hc => ?_)
  · have h := Eq.mp (if_pos hc) h
    exact wkH_needRow_b15 X hr hlk hR hRc hlt hxt hG  h hw (lv_sub hl [] rfl)
  · have h := Eq.mp (if_neg hc) h
    refine lv_iload_n hx hb dX10_needRow_4 rfl (lv_at hl 1 rfl) ?_
    refine lv_aload_n hx hb dX10_needRow_5 rfl (lv_at hl 0 rfl) ?_
    refine hm_getr X hw lk_10_10 (gl_0 hG) (gf_0_0 hG) dX10_needRow_6 ?_
    refine hm_geti X hw lk_10_276 (gl_1 hG) dX10_needRow_9 ?_
    refine lv_icmp_lt (tgt := 26) hx hb dX10_needRow_12 (by decide) (fun hc => ?_) (fun hc => ?_)
    · have h := Eq.mp (if_pos hc) h
      refine vx_ret ?_
      refine W.widen (k := 1) (n := 6) (Nat.le_of_ble_eq_true rfl) (Nat.le_of_ble_eq_true rfl) ?_
      exact hm_vret X hr hlk hw ⟨rfl, h⟩ dX10_needRow_26
    · have h := Eq.mp (if_neg hc) h
      exact wkH_needRow_b15 X hr hlk hR hRc hlt hxt hG  h hw (lv_sub hl [] rfl)

theorem wkH_in_b36 {I : HI} {T : HR} {F : HR} {L : HL} {Q : Int32 → HI → Prop} {Xc : HI → Prop} (X : hX p m c s args RX10 cX10_in 4) (hr : meth.sig.returnType = (some .int)) (hlk : meth.locks = false) (hR : 8 ≤ R.frames ∧ 142 ≤ R.locals) (hRc : 3 ≤ R.cells ∧ 18 ≤ R.slots) (hlt : l.stackTraces = false) (hxt : c.exceptionTable.isEmpty = true) (hG : Geo F L)  : ∀ {ls : Array Slot} {H : Heap} {locs : List Loc}, H_in_b36 I T F L Q Xc → hW D cA z EvC (I, J, T, F, L) A s H locs → lv_has ls 4 [] → W p l e R s m args below meth c H locs 2 12 (vx_MQ below (va_Qi (pI J T F L Q) (hB D cA z A) A) (vx_X (pIv J T F L Xc) (pX "java/util/NoSuchElementException" D cA z A) A) args s 3 18 A) (F0 m 36 ls []) := by
  have hx := X.1
  have hb := X.2.1
  intro ls H locs h hw hl
  unfold H_in_b36 at h
  exact hm_thrN (is := 214) (text := "nothing such is known of a wearer in a row") hlt X hxt hlk hw (by decide) ⟨_, rfl, h⟩ hl.1 dX10_in_36 dX10_in_39 dX10_in_40 dX10_in_42 dX10_in_45 ⟨Nat.le_trans (Nat.le_of_ble_eq_true rfl) hR.1, Nat.le_trans (Nat.le_of_ble_eq_true rfl) hR.2⟩ (Nat.le_trans (Nat.le_of_ble_eq_true rfl) hRc.1) (Nat.le_trans (Nat.le_of_ble_eq_true rfl) hRc.2) (Nat.le_of_ble_eq_true rfl) (Nat.le_of_ble_eq_true rfl)

theorem wkH_in_b46 {I : HI} {T : HR} {F : HR} {L : HL} {x1 : Int32} {x2 : Int32} {x3 : Int32} {Q : Int32 → HI → Prop} {Xc : HI → Prop} (X : hX p m c s args RX10 cX10_in 4) (hr : meth.sig.returnType = (some .int)) (hlk : meth.locks = false) (hR : 8 ≤ R.frames ∧ 142 ≤ R.locals) (hRc : 3 ≤ R.cells ∧ 18 ≤ R.slots) (hlt : l.stackTraces = false) (hxt : c.exceptionTable.isEmpty = true) (hG : Geo F L)  : ∀ {ls : Array Slot} {H : Heap} {locs : List Loc}, H_in_b46 I T F L x1 x2 x3 Q Xc → hW D cA z EvC (I, J, T, F, L) A s H locs → lv_has ls 4 [(0, .ref (z + 0)), (1, .int x1), (2, .int x2), (3, .int x3)] → W p l e R s m args below meth c H locs 2 12 (vx_MQ below (va_Qi (pI J T F L Q) (hB D cA z A) A) (vx_X (pIv J T F L Xc) (pX "java/util/NoSuchElementException" D cA z A) A) args s 3 18 A) (F0 m 46 ls []) := by
  have hx := X.1
  have hb := X.2.1
  intro ls H locs h hw hl
  unfold H_in_b46 at h
  refine lv_aload_n hx hb dX10_in_46 rfl (lv_at hl 0 rfl) ?_
  refine hm_getr X hw lk_10_26 (gl_0 hG) (gf_0_3 hG) dX10_in_47 ?_
  refine lv_aload_n hx hb dX10_in_50 rfl (lv_at hl 0 rfl) ?_
  refine hm_getr X hw lk_10_10 (gl_0 hG) (gf_0_0 hG) dX10_in_51 ?_
  refine lv_iload_n hx hb dX10_in_54 rfl (lv_at hl 1 rfl) ?_
  refine hm_callv hw (hm_runV (rest := []) EvC_cl X hw (cSc_play EvC_cl (geo_scene hG) (geo_net hG) h) yk_X7_play kw1077 rfl (gl_20 hG) rfl hl.1 rfl rfl rfl (Nat.le_of_ble_eq_true rfl) ⟨Nat.le_trans (Nat.le_of_ble_eq_true rfl) hR.1, Nat.le_trans (Nat.le_of_ble_eq_true rfl) hR.2⟩ ⟨Nat.le_trans (Nat.le_of_ble_eq_true rfl) hRc.1, Nat.le_trans (Nat.le_of_ble_eq_true rfl) hRc.2⟩ dX10_in_55) (fun u4 H locs hp hw => ?_)
  obtain ⟨I3, rfl, h⟩ := hp
  refine lv_iload_n hx hb dX10_in_58 rfl (lv_at hl 3 rfl) ?_
  refine lv_if_ne (tgt := 77) hx hb dX10_in_59 (by decide) (fun hc => ?_) (fun hc => ?_)
  · have h := Eq.mp (if_neg hc) h
    refine lv_aload_n hx hb dX10_in_77 rfl (lv_at hl 0 rfl) ?_
    refine hm_getr X hw lk_10_26 (gl_0 hG) (gf_0_3 hG) dX10_in_78 ?_
    refine hm_getr X hw lk_10_224 (gl_20 hG) (gf_20_1 hG) dX10_in_81 ?_
    refine lv_iload_n hx hb dX10_in_84 rfl (lv_at hl 2 rfl) ?_
    obtain ⟨hi, h⟩ := h
    refine hm_iald X hw (gl_22 hG) hi dX10_in_85 ?_
    refine vx_ret ?_
    refine W.widen (k := 3) (n := 18) (Nat.le_of_ble_eq_true rfl) (Nat.le_of_ble_eq_true rfl) ?_
    exact hm_iret X hr hlk hw ⟨_, rfl, h⟩ dX10_in_86
  · have h := Eq.mp (if_pos hc) h
    refine lv_aload_n hx hb dX10_in_62 rfl (lv_at hl 0 rfl) ?_
    refine hm_getr X hw lk_10_26 (gl_0 hG) (gf_0_3 hG) dX10_in_63 ?_
    refine lv_aload_n hx hb dX10_in_66 rfl (lv_at hl 0 rfl) ?_
    refine hm_getr X hw lk_10_10 (gl_0 hG) (gf_0_0 hG) dX10_in_67 ?_
    refine lv_iload_n hx hb dX10_in_70 rfl (lv_at hl 2 rfl) ?_
    refine hm_calli hw (hm_runV (rest := []) EvC_cl X hw (cSc_viewOf EvC_cl (geo_scene hG) (geo_net hG) h) yk_X7_viewOf kw1083 rfl (gl_20 hG) rfl hl.1 rfl rfl rfl (Nat.le_of_ble_eq_true rfl) ⟨Nat.le_trans (Nat.le_of_ble_eq_true rfl) hR.1, Nat.le_trans (Nat.le_of_ble_eq_true rfl) hR.2⟩ ⟨Nat.le_trans (Nat.le_of_ble_eq_true rfl) hRc.1, Nat.le_trans (Nat.le_of_ble_eq_true rfl) hRc.2⟩ dX10_in_71) (fun a5 u6 H locs hp hw => ?_)
    obtain ⟨rfl, h⟩ := hp
    refine lv_goto (tgt := 86) hx hb dX10_in_74 (by decide) ?_
    refine vx_ret ?_
    refine W.widen (k := 3) (n := 18) (Nat.le_of_ble_eq_true rfl) (Nat.le_of_ble_eq_true rfl) ?_
    exact hm_iret X hr hlk hw ⟨_, rfl, h⟩ dX10_in_86

theorem cH_in {l : Launch} {D : va_G} {cA : Nat → ClassId} {z sz : Nat} {I : HI} {T : HR} {F : HR} {L : HL} {x1 : Int32} {x2 : Int32} {x3 : Int32} {Q : Int32 → HI → Prop} {Xc : HI → Prop} (hlt : l.stackTraces = false) (hG : Geo F L) (h : H_in I T F L x1 x2 x3 Q Xc) : vx_Met l yX10_in (hws0 yX10_in cX10_in 4 (some .int)) { frames := 8, cells := 3, slots := 18, locals := 142 } (hPc D cA z EvC (I, J, T, F, L) sz [.ref (z + 0), .int x1, .int x2, .int x3]) (va_Qi (pI J T F L Q) (hB D cA z (hA z L sz)) (hA z L sz)) (vx_X (pIv J T F L Xc) (pX "java/util/NoSuchElementException" D cA z (hA z L sz)) (hA z L sz)) 3 18 (hA z L sz) := by
  refine hm_xmet (I, J, T, F, L) [.ref (z + 0), .int x1, .int x2, .int x3] rfl (by decide) (Nat.le_of_ble_eq_true rfl) ?_
  intro p e s m below meth c ls X hr hlk hnm hxt hsz hw hl
  have hl : lv_has ls 4 [(0, .ref (z + 0)), (1, .int x1), (2, .int x2), (3, .int x3)] := hl
  have hR : 8 ≤ ({ frames := 8, cells := 3, slots := 18, locals := 142 } : Room).frames ∧ 142 ≤ ({ frames := 8, cells := 3, slots := 18, locals := 142 } : Room).locals := ⟨Nat.le_refl _, Nat.le_refl _⟩
  have hRc : 3 ≤ ({ frames := 8, cells := 3, slots := 18, locals := 142 } : Room).cells ∧ 18 ≤ ({ frames := 8, cells := 3, slots := 18, locals := 142 } : Room).slots := ⟨Nat.le_refl _, Nat.le_refl _⟩
  generalize ({ frames := 8, cells := 3, slots := 18, locals := 142 } : Room) = R at hR hRc ⊢
  clear hsz
  generalize (hA z L sz) = A at hw ⊢
  have hx := X.1
  have hb := X.2.1
  unfold H_in at h
  refine lv_aload_n hx hb dX10_in_0 rfl (lv_at hl 0 rfl) ?_
  refine lv_iload_n hx hb dX10_in_1 rfl (lv_at hl 1 rfl) ?_
  refine hm_xcallv hw (hm_xrunV (rest := []) EvC_cl X hw (cH_needRow hlt hG h) yk_X10_needRow kw1071 rfl (gl_0 hG) rfl hl.1 rfl rfl rfl (Nat.le_of_ble_eq_true rfl) ⟨Nat.le_trans (Nat.le_of_ble_eq_true rfl) hR.1, Nat.le_trans (Nat.le_of_ble_eq_true rfl) hR.2⟩ ⟨Nat.le_trans (Nat.le_of_ble_eq_true rfl) hRc.1, Nat.le_trans (Nat.le_of_ble_eq_true rfl) hRc.2⟩ dX10_in_2) (fun ce q9 u1 H locs hp hw hq hv hcl => ?_) (fun u1 H locs hp hw => ?_)
  · obtain ⟨rfl, h⟩ := hp
    exact hm_xout hxt hlk hw ⟨_, rfl, h⟩ hq hv hcl (Nat.le_of_ble_eq_true rfl) (Nat.le_of_ble_eq_true rfl)
  obtain ⟨rfl, h⟩ := hp
  refine lv_aload_n hx hb dX10_in_5 rfl (lv_at hl 0 rfl) ?_
  refine lv_iload_n hx hb dX10_in_6 rfl (lv_at hl 2 rfl) ?_
  refine hm_xcallv hw (hm_xrunV (rest := []) EvC_cl X hw (cH_needWearer hlt hG h) yk_X10_needWearer kw843 rfl (gl_0 hG) rfl hl.1 rfl rfl rfl (Nat.le_of_ble_eq_true rfl) ⟨Nat.le_trans (Nat.le_of_ble_eq_true rfl) hR.1, Nat.le_trans (Nat.le_of_ble_eq_true rfl) hR.2⟩ ⟨Nat.le_trans (Nat.le_of_ble_eq_true rfl) hRc.1, Nat.le_trans (Nat.le_of_ble_eq_true rfl) hRc.2⟩ dX10_in_7) (fun ce q9 u2 H locs hp hw hq hv hcl => ?_) (fun u2 H locs hp hw => ?_)
  · obtain ⟨rfl, h⟩ := hp
    exact hm_xout hxt hlk hw ⟨_, rfl, h⟩ hq hv hcl (Nat.le_of_ble_eq_true rfl) (Nat.le_of_ble_eq_true rfl)
  obtain ⟨rfl, h⟩ := hp
  refine lv_iload_n hx hb dX10_in_10 rfl (lv_at hl 3 rfl) ?_
  refine lv_if_lt (tgt := 36) hx hb dX10_in_11 (by decide) (fun hc => ?_) (fun hc => ?_)
  · have h := Eq.mp (if_pos hc) h
    exact wkH_in_b36 X hr hlk hR hRc hlt hxt hG  h hw (lv_sub hl [] rfl)
  · have h := Eq.mp (if_neg hc) h
    refine lv_iload_n hx hb dX10_in_14 rfl (lv_at hl 3 rfl) ?_
    refine lv_iconst (v := 1) hx hb dX10_in_15 (by decide) ?_
    refine lv_icmp_gt (tgt := 36) hx hb dX10_in_16 (by decide) (fun hc => ?_) (fun hc => ?_)
    · have h := Eq.mp (if_pos hc) h
      exact wkH_in_b36 X hr hlk hR hRc hlt hxt hG  h hw (lv_sub hl [] rfl)
    · have h := Eq.mp (if_neg hc) h
      refine lv_iload_n hx hb dX10_in_19 rfl (lv_at hl 3 rfl) ?_
      refine lv_if_ne (tgt := 46) hx hb dX10_in_20 (by decide) (fun hc => ?_) (fun hc => ?_)
      · have h := Eq.mp (if_neg hc) h
        exact wkH_in_b46 X hr hlk hR hRc hlt hxt hG  h hw (lv_sub hl [0, 1, 2, 3] rfl)
      · have h := Eq.mp (if_pos hc) h
        refine lv_aload_n hx hb dX10_in_23 rfl (lv_at hl 0 rfl) ?_
        refine hm_getr X hw lk_10_10 (gl_0 hG) (gf_0_0 hG) dX10_in_24 ?_
        refine hm_getr X hw lk_10_180 (gl_1 hG) (gf_1_6 hG) dX10_in_27 ?_
        refine lv_iload_n hx hb dX10_in_30 rfl (lv_at hl 2 rfl) ?_
        obtain ⟨hi, h⟩ := h
        refine hm_iald X hw (gl_5 hG) hi dX10_in_31 ?_
        refine lv_iconst (v := (-1)) hx hb dX10_in_32 (by decide) ?_
        refine lv_icmp_ne (tgt := 46) hx hb dX10_in_33 (by decide) (fun hc => ?_) (fun hc => ?_)
        · have h := Eq.mp (if_neg hc) h
          exact wkH_in_b46 X hr hlk hR hRc hlt hxt hG  h hw (lv_sub hl [0, 1, 2, 3] rfl)
        · have h := Eq.mp (if_pos hc) h
          exact wkH_in_b36 X hr hlk hR hRc hlt hxt hG  h hw (lv_sub hl [] rfl)

theorem cH_row {l : Launch} {D : va_G} {cA : Nat → ClassId} {z sz : Nat} {I : HI} {T : HR} {F : HR} {L : HL} {x1 : Int32} {x2 : Int32} {Q : Int32 → HI → Prop} {Xc : HI → Prop} (hlt : l.stackTraces = false) (hG : Geo F L) (h : H_row I T F L x1 x2 Q Xc) : vx_Met l yX10_row (hws0 yX10_row cX10_row 3 (some .int)) { frames := 8, cells := 2, slots := 12, locals := 142 } (hPc D cA z EvC (I, J, T, F, L) sz [.ref (z + 0), .int x1, .int x2]) (va_Qi (pI J T F L Q) (hB D cA z (hA z L sz)) (hA z L sz)) (vx_X (pIv J T F L Xc) (pX "java/util/NoSuchElementException" D cA z (hA z L sz)) (hA z L sz)) 2 12 (hA z L sz) := by
  refine hm_xmet (I, J, T, F, L) [.ref (z + 0), .int x1, .int x2] rfl (by decide) (Nat.le_of_ble_eq_true rfl) ?_
  intro p e s m below meth c ls X hr hlk hnm hxt hsz hw hl
  have hl : lv_has ls 3 [(0, .ref (z + 0)), (1, .int x1), (2, .int x2)] := hl
  have hR : 8 ≤ ({ frames := 8, cells := 2, slots := 12, locals := 142 } : Room).frames ∧ 142 ≤ ({ frames := 8, cells := 2, slots := 12, locals := 142 } : Room).locals := ⟨Nat.le_refl _, Nat.le_refl _⟩
  have hRc : 2 ≤ ({ frames := 8, cells := 2, slots := 12, locals := 142 } : Room).cells ∧ 12 ≤ ({ frames := 8, cells := 2, slots := 12, locals := 142 } : Room).slots := ⟨Nat.le_refl _, Nat.le_refl _⟩
  generalize ({ frames := 8, cells := 2, slots := 12, locals := 142 } : Room) = R at hR hRc ⊢
  clear hsz
  generalize (hA z L sz) = A at hw ⊢
  have hx := X.1
  have hb := X.2.1
  unfold H_row at h
  refine lv_aload_n hx hb dX10_row_0 rfl (lv_at hl 0 rfl) ?_
  refine lv_iload_n hx hb dX10_row_1 rfl (lv_at hl 1 rfl) ?_
  refine hm_xcallv hw (hm_xrunV (rest := []) EvC_cl X hw (cH_needRow hlt hG h) yk_X10_needRow kw1071 rfl (gl_0 hG) rfl hl.1 rfl rfl rfl (Nat.le_of_ble_eq_true rfl) ⟨Nat.le_trans (Nat.le_of_ble_eq_true rfl) hR.1, Nat.le_trans (Nat.le_of_ble_eq_true rfl) hR.2⟩ ⟨Nat.le_trans (Nat.le_of_ble_eq_true rfl) hRc.1, Nat.le_trans (Nat.le_of_ble_eq_true rfl) hRc.2⟩ dX10_row_2) (fun ce q9 u1 H locs hp hw hq hv hcl => ?_) (fun u1 H locs hp hw => ?_)
  · obtain ⟨rfl, h⟩ := hp
    exact hm_xout hxt hlk hw ⟨_, rfl, h⟩ hq hv hcl (Nat.le_of_ble_eq_true rfl) (Nat.le_of_ble_eq_true rfl)
  obtain ⟨rfl, h⟩ := hp
  refine lv_aload_n hx hb dX10_row_5 rfl (lv_at hl 0 rfl) ?_
  refine hm_getr X hw lk_10_26 (gl_0 hG) (gf_0_3 hG) dX10_row_6 ?_
  refine lv_aload_n hx hb dX10_row_9 rfl (lv_at hl 0 rfl) ?_
  refine hm_getr X hw lk_10_10 (gl_0 hG) (gf_0_0 hG) dX10_row_10 ?_
  refine lv_iload_n hx hb dX10_row_13 rfl (lv_at hl 1 rfl) ?_
  refine hm_callv hw (hm_runV (rest := []) EvC_cl X hw (cSc_play EvC_cl (geo_scene hG) (geo_net hG) h) yk_X7_play kw1077 rfl (gl_20 hG) rfl hl.1 rfl rfl rfl (Nat.le_of_ble_eq_true rfl) ⟨Nat.le_trans (Nat.le_of_ble_eq_true rfl) hR.1, Nat.le_trans (Nat.le_of_ble_eq_true rfl) hR.2⟩ ⟨Nat.le_trans (Nat.le_of_ble_eq_true rfl) hRc.1, Nat.le_trans (Nat.le_of_ble_eq_true rfl) hRc.2⟩ dX10_row_14) (fun u3 H locs hp hw => ?_)
  obtain ⟨I2, rfl, h⟩ := hp
  refine lv_iload_n hx hb dX10_row_17 rfl (lv_at hl 2 rfl) ?_
  by_cases hc0 : x2 = 0
  · have h := Eq.mp (if_pos hc0) h
    refine lv_tableIn (tgt := 48) (off := 30) hx hb dX10_row_18 (by rw [hc0]; decide) (by rw [hc0]; decide) (by rw [hc0]; decide) (by decide) ?_
    refine lv_aload_n hx hb dX10_row_48 rfl (lv_at hl 0 rfl) ?_
    refine hm_getr X hw lk_10_26 (gl_0 hG) (gf_0_3 hG) dX10_row_49 ?_
    refine lv_aload_n hx hb dX10_row_52 rfl (lv_at hl 0 rfl) ?_
    refine hm_getr X hw lk_10_10 (gl_0 hG) (gf_0_0 hG) dX10_row_53 ?_
    refine hm_calli hw (hm_runV (rest := []) EvC_cl X hw (cSc_rightOnes EvC_cl (geo_scene hG) (geo_net hG) h) yk_X7_rightOnes kw1091 rfl (gl_20 hG) rfl hl.1 rfl rfl rfl (Nat.le_of_ble_eq_true rfl) ⟨Nat.le_trans (Nat.le_of_ble_eq_true rfl) hR.1, Nat.le_trans (Nat.le_of_ble_eq_true rfl) hR.2⟩ ⟨Nat.le_trans (Nat.le_of_ble_eq_true rfl) hRc.1, Nat.le_trans (Nat.le_of_ble_eq_true rfl) hRc.2⟩ dX10_row_56) (fun a4 u5 H locs hp hw => ?_)
    obtain ⟨rfl, h⟩ := hp
    refine vx_ret ?_
    refine W.widen (k := 2) (n := 12) (Nat.le_of_ble_eq_true rfl) (Nat.le_of_ble_eq_true rfl) ?_
    exact hm_iret X hr hlk hw ⟨_, rfl, h⟩ dX10_row_59
  have h := Eq.mp (if_neg hc0) h
  by_cases hc1 : x2 = 1
  · have h := Eq.mp (if_pos hc1) h
    refine lv_tableIn (tgt := 60) (off := 42) hx hb dX10_row_18 (by rw [hc1]; decide) (by rw [hc1]; decide) (by rw [hc1]; decide) (by decide) ?_
    refine lv_aload_n hx hb dX10_row_60 rfl (lv_at hl 0 rfl) ?_
    refine hm_getr X hw lk_10_26 (gl_0 hG) (gf_0_3 hG) dX10_row_61 ?_
    refine lv_aload_n hx hb dX10_row_64 rfl (lv_at hl 0 rfl) ?_
    refine hm_getr X hw lk_10_10 (gl_0 hG) (gf_0_0 hG) dX10_row_65 ?_
    refine hm_calli hw (hm_runV (rest := []) EvC_cl X hw (cSc_wrongOnes EvC_cl (geo_scene hG) (geo_net hG) h) yk_X7_wrongOnes kw1092 rfl (gl_20 hG) rfl hl.1 rfl rfl rfl (Nat.le_of_ble_eq_true rfl) ⟨Nat.le_trans (Nat.le_of_ble_eq_true rfl) hR.1, Nat.le_trans (Nat.le_of_ble_eq_true rfl) hR.2⟩ ⟨Nat.le_trans (Nat.le_of_ble_eq_true rfl) hRc.1, Nat.le_trans (Nat.le_of_ble_eq_true rfl) hRc.2⟩ dX10_row_68) (fun a6 u7 H locs hp hw => ?_)
    obtain ⟨rfl, h⟩ := hp
    refine vx_ret ?_
    refine W.widen (k := 2) (n := 12) (Nat.le_of_ble_eq_true rfl) (Nat.le_of_ble_eq_true rfl) ?_
    exact hm_iret X hr hlk hw ⟨_, rfl, h⟩ dX10_row_71
  have h := Eq.mp (if_neg hc1) h
  by_cases hc2 : x2 = 2
  · have h := Eq.mp (if_pos hc2) h
    refine lv_tableIn (tgt := 72) (off := 54) hx hb dX10_row_18 (by rw [hc2]; decide) (by rw [hc2]; decide) (by rw [hc2]; decide) (by decide) ?_
    refine lv_aload_n hx hb dX10_row_72 rfl (lv_at hl 0 rfl) ?_
    refine hm_getr X hw lk_10_33 (gl_0 hG) (gf_0_4 hG) dX10_row_73 ?_
    refine lv_aload_n hx hb dX10_row_76 rfl (lv_at hl 0 rfl) ?_
    refine hm_getr X hw lk_10_26 (gl_0 hG) (gf_0_3 hG) dX10_row_77 ?_
    refine lv_aload_n hx hb dX10_row_80 rfl (lv_at hl 0 rfl) ?_
    refine hm_getr X hw lk_10_10 (gl_0 hG) (gf_0_0 hG) dX10_row_81 ?_
    refine hm_geti X hw lk_10_150 (gl_1 hG) dX10_row_84 ?_
    refine hm_calll hw (hm_runV (rest := []) EvC_cl X hw (cJud_weigh EvC_cl hG (geo_scene hG) h) yk_X2_weigh kw1093 rfl (gl_23 hG) rfl hl.1 rfl rfl rfl (Nat.le_of_ble_eq_true rfl) ⟨Nat.le_trans (Nat.le_of_ble_eq_true rfl) hR.1, Nat.le_trans (Nat.le_of_ble_eq_true rfl) hR.2⟩ ⟨Nat.le_trans (Nat.le_of_ble_eq_true rfl) hRc.1, Nat.le_trans (Nat.le_of_ble_eq_true rfl) hRc.2⟩ dX10_row_87) (fun a8 u10 H locs hp hw => ?_)
    obtain ⟨I9, rfl, h⟩ := hp
    refine lv_lconst (v := 0) hx hb dX10_row_90 (by decide) ?_
    refine W.lcmp hx hb dX10_row_91 ?_
    refine lv_if_le (tgt := 99) hx hb dX10_row_92 (by decide) (fun hc => ?_) (fun hc => ?_)
    · have h := Eq.mp (if_pos hc) h
      refine lv_iconst (v := 0) hx hb dX10_row_99 (by decide) ?_
      refine vx_ret ?_
      refine W.widen (k := 2) (n := 12) (Nat.le_of_ble_eq_true rfl) (Nat.le_of_ble_eq_true rfl) ?_
      exact hm_iret X hr hlk hw ⟨_, rfl, h⟩ dX10_row_100
    · have h := Eq.mp (if_neg hc) h
      refine lv_iconst (v := 1) hx hb dX10_row_95 (by decide) ?_
      refine lv_goto (tgt := 100) hx hb dX10_row_96 (by decide) ?_
      refine vx_ret ?_
      refine W.widen (k := 2) (n := 12) (Nat.le_of_ble_eq_true rfl) (Nat.le_of_ble_eq_true rfl) ?_
      exact hm_iret X hr hlk hw ⟨_, rfl, h⟩ dX10_row_100
  have h := Eq.mp (if_neg hc2) h
  by_cases hc3 : x2 = 3
  · have h := Eq.mp (if_pos hc3) h
    refine lv_tableIn (tgt := 101) (off := 83) hx hb dX10_row_18 (by rw [hc3]; decide) (by rw [hc3]; decide) (by rw [hc3]; decide) (by decide) ?_
    refine lv_aload_n hx hb dX10_row_101 rfl (lv_at hl 0 rfl) ?_
    refine hm_getr X hw lk_10_33 (gl_0 hG) (gf_0_4 hG) dX10_row_102 ?_
    refine lv_aload_n hx hb dX10_row_105 rfl (lv_at hl 0 rfl) ?_
    refine hm_getr X hw lk_10_26 (gl_0 hG) (gf_0_3 hG) dX10_row_106 ?_
    refine lv_aload_n hx hb dX10_row_109 rfl (lv_at hl 0 rfl) ?_
    refine hm_getr X hw lk_10_10 (gl_0 hG) (gf_0_0 hG) dX10_row_110 ?_
    refine hm_calli hw (hm_runV (rest := [_]) EvC_cl X hw (cSc_rightOnes EvC_cl (geo_scene hG) (geo_net hG) h) yk_X7_rightOnes kw1091 rfl (gl_20 hG) rfl hl.1 rfl rfl rfl (Nat.le_of_ble_eq_true rfl) ⟨Nat.le_trans (Nat.le_of_ble_eq_true rfl) hR.1, Nat.le_trans (Nat.le_of_ble_eq_true rfl) hR.2⟩ ⟨Nat.le_trans (Nat.le_of_ble_eq_true rfl) hRc.1, Nat.le_trans (Nat.le_of_ble_eq_true rfl) hRc.2⟩ dX10_row_113) (fun a11 u12 H locs hp hw => ?_)
    obtain ⟨rfl, h⟩ := hp
    refine lv_aload_n hx hb dX10_row_116 rfl (lv_at hl 0 rfl) ?_
    refine hm_getr X hw lk_10_26 (gl_0 hG) (gf_0_3 hG) dX10_row_117 ?_
    refine lv_aload_n hx hb dX10_row_120 rfl (lv_at hl 0 rfl) ?_
    refine hm_getr X hw lk_10_10 (gl_0 hG) (gf_0_0 hG) dX10_row_121 ?_
    refine hm_calli hw (hm_runV (rest := [_, _]) EvC_cl X hw (cSc_wrongOnes EvC_cl (geo_scene hG) (geo_net hG) h) yk_X7_wrongOnes kw1092 rfl (gl_20 hG) rfl hl.1 rfl rfl rfl (Nat.le_of_ble_eq_true rfl) ⟨Nat.le_trans (Nat.le_of_ble_eq_true rfl) hR.1, Nat.le_trans (Nat.le_of_ble_eq_true rfl) hR.2⟩ ⟨Nat.le_trans (Nat.le_of_ble_eq_true rfl) hRc.1, Nat.le_trans (Nat.le_of_ble_eq_true rfl) hRc.2⟩ dX10_row_124) (fun a13 u14 H locs hp hw => ?_)
    obtain ⟨rfl, h⟩ := hp
    refine lv_aload_n hx hb dX10_row_127 rfl (lv_at hl 0 rfl) ?_
    refine hm_getr X hw lk_10_10 (gl_0 hG) (gf_0_0 hG) dX10_row_128 ?_
    refine hm_geti X hw lk_10_150 (gl_1 hG) dX10_row_131 ?_
    refine hm_calli hw (hm_runV (rest := []) EvC_cl X hw (cJud_isWon EvC_cl hG h) yk_X2_isWon kw1094 rfl (gl_23 hG) rfl hl.1 rfl rfl rfl (Nat.le_of_ble_eq_true rfl) ⟨Nat.le_trans (Nat.le_of_ble_eq_true rfl) hR.1, Nat.le_trans (Nat.le_of_ble_eq_true rfl) hR.2⟩ ⟨Nat.le_trans (Nat.le_of_ble_eq_true rfl) hRc.1, Nat.le_trans (Nat.le_of_ble_eq_true rfl) hRc.2⟩ dX10_row_134) (fun a15 u16 H locs hp hw => ?_)
    obtain ⟨rfl, h⟩ := hp
    refine lv_if_eq (tgt := 144) hx hb dX10_row_137 (by decide) (fun hc => ?_) (fun hc => ?_)
    · have h := Eq.mp (if_pos hc) h
      refine lv_iconst (v := 0) hx hb dX10_row_144 (by decide) ?_
      refine vx_ret ?_
      refine W.widen (k := 2) (n := 12) (Nat.le_of_ble_eq_true rfl) (Nat.le_of_ble_eq_true rfl) ?_
      exact hm_iret X hr hlk hw ⟨_, rfl, h⟩ dX10_row_145
    · have h := Eq.mp (if_neg hc) h
      refine lv_iconst (v := 1) hx hb dX10_row_140 (by decide) ?_
      refine lv_goto (tgt := 145) hx hb dX10_row_141 (by decide) ?_
      refine vx_ret ?_
      refine W.widen (k := 2) (n := 12) (Nat.le_of_ble_eq_true rfl) (Nat.le_of_ble_eq_true rfl) ?_
      exact hm_iret X hr hlk hw ⟨_, rfl, h⟩ dX10_row_145
  have h := Eq.mp (if_neg hc3) h
  refine hm_tabD (tgt := 146) [0, 1, 2, 3] hx hb dX10_row_18 (by decide) (by simp only [List.forall_mem_cons]; exact ⟨hc0, hc1, hc2, hc3, fun _ h => (by cases h)⟩) (by decide) ?_
  exact hm_thrN (is := 242) (text := "nothing such is known of a row") hlt X hxt hlk hw (by decide) ⟨_, rfl, h⟩ hl.1 dX10_row_146 dX10_row_149 dX10_row_150 dX10_row_152 dX10_row_155 ⟨Nat.le_trans (Nat.le_of_ble_eq_true rfl) hR.1, Nat.le_trans (Nat.le_of_ble_eq_true rfl) hR.2⟩ (Nat.le_trans (Nat.le_of_ble_eq_true rfl) hRc.1) (Nat.le_trans (Nat.le_of_ble_eq_true rfl) hRc.2) (Nat.le_of_ble_eq_true rfl) (Nat.le_of_ble_eq_true rfl)

theorem wkH_won_b9 {I : HI} {T : HR} {F : HR} {L : HL} {Q : Int64 → HI → Prop} {Xc : HI → Prop} (X : hX p m c s args RX10 cX10_won 3) (hr : meth.sig.returnType = (some .long)) (hlk : meth.locks = false) (hR : 7 ≤ R.frames ∧ 153 ≤ R.locals) (hRc : 1 ≤ R.cells ∧ 6 ≤ R.slots) (hlt : l.stackTraces = false) (hxt : c.exceptionTable.isEmpty = true) (hG : Geo F L)  : ∀ {ls : Array Slot} {H : Heap} {locs : List Loc}, H_won_b9 I T F L Q Xc → hW D cA z EvC (I, J, T, F, L) A s H locs → lv_has ls 3 [] → W p l e R s m args below meth c H locs 0 0 (vx_MQ below (va_Ql (pI J T F L Q) (hB D cA z A) A) (vx_X (pIv J T F L Xc) (pX "java/util/NoSuchElementException" D cA z A) A) args s 1 6 A) (F0 m 9 ls []) := by
  have hx := X.1
  have hb := X.2.1
  intro ls H locs h hw hl
  unfold H_won_b9 at h
  exact hm_thrN (is := 244) (text := "no such sum") hlt X hxt hlk hw (by decide) ⟨_, rfl, h⟩ hl.1 dX10_won_9 dX10_won_12 dX10_won_13 dX10_won_15 dX10_won_18 ⟨Nat.le_trans (Nat.le_of_ble_eq_true rfl) hR.1, Nat.le_trans (Nat.le_of_ble_eq_true rfl) hR.2⟩ (Nat.le_trans (Nat.le_of_ble_eq_true rfl) hRc.1) (Nat.le_trans (Nat.le_of_ble_eq_true rfl) hRc.2) (Nat.le_of_ble_eq_true rfl) (Nat.le_of_ble_eq_true rfl)

theorem wkH_won_b53 {I : HI} {T : HR} {F : HR} {L : HL} {x1 : Int32} {t0 : Int32} {Q : Int64 → HI → Prop} {Xc : HI → Prop} (X : hX p m c s args RX10 cX10_won 3) (hr : meth.sig.returnType = (some .long)) (hlk : meth.locks = false) (hR : 7 ≤ R.frames ∧ 153 ≤ R.locals) (hRc : 1 ≤ R.cells ∧ 6 ≤ R.slots) (hlt : l.stackTraces = false) (hxt : c.exceptionTable.isEmpty = true) (hG : Geo F L)  : ∀ {ls : Array Slot} {H : Heap} {locs : List Loc}, H_won_b53 I T F L x1 t0 Q Xc → hW D cA z EvC (I, J, T, F, L) A s H locs → lv_has ls 3 [(0, .ref (z + 0)), (1, .int x1)] → W p l e R s m args below meth c H locs 0 0 (vx_MQ below (va_Ql (pI J T F L Q) (hB D cA z A) A) (vx_X (pIv J T F L Xc) (pX "java/util/NoSuchElementException" D cA z A) A) args s 1 6 A) (F0 m 53 ls [.int t0]) := by
  have hx := X.1
  have hb := X.2.1
  intro ls H locs h hw hl
  unfold H_won_b53 at h
  refine lv_istore_n (lv' := [(2, _), (0, _), (1, _)]) hx hb dX10_won_53 rfl hl (by decide) rfl (fun ls hl => ?_)
  refine lv_iload_n hx hb dX10_won_54 rfl (lv_at hl 2 rfl) ?_
  refine lv_iconst (v := 2) hx hb dX10_won_55 (by decide) ?_
  refine lv_icmp_ge (tgt := 79) hx hb dX10_won_56 (by decide) (fun hc => ?_) (fun hc => ?_)
  · have h := Eq.mp (if_pos hc) h
    refine lv_aload_n hx hb dX10_won_79 rfl (lv_at hl 1 rfl) ?_
    refine hm_getr X hw lk_10_40 (gl_0 hG) (gf_0_5 hG) dX10_won_80 ?_
    refine lv_aload_n hx hb dX10_won_83 rfl (lv_at hl 1 rfl) ?_
    refine hm_getr X hw lk_10_10 (gl_0 hG) (gf_0_0 hG) dX10_won_84 ?_
    refine lv_aload_n hx hb dX10_won_87 rfl (lv_at hl 1 rfl) ?_
    refine hm_getr X hw lk_10_33 (gl_0 hG) (gf_0_4 hG) dX10_won_88 ?_
    refine lv_aload_n hx hb dX10_won_91 rfl (lv_at hl 1 rfl) ?_
    refine hm_getr X hw lk_10_26 (gl_0 hG) (gf_0_3 hG) dX10_won_92 ?_
    refine lv_iload_n hx hb dX10_won_95 rfl (lv_at hl 0 rfl) ?_
    refine hm_calll hw (hm_runV (rest := []) EvC_cl X hw (cLed_sumWeights EvC_cl hG (geo_net hG) (geo_scene hG) h) yk_X3_sumWeights kw1108 rfl (gl_26 hG) rfl hl.1 rfl rfl rfl (Nat.le_of_ble_eq_true rfl) ⟨Nat.le_trans (Nat.le_of_ble_eq_true rfl) hR.1, Nat.le_trans (Nat.le_of_ble_eq_true rfl) hR.2⟩ ⟨Nat.le_trans (Nat.le_of_ble_eq_true rfl) hRc.1, Nat.le_trans (Nat.le_of_ble_eq_true rfl) hRc.2⟩ dX10_won_96) (fun a3 u5 H locs hp hw => ?_)
    obtain ⟨I4, rfl, h⟩ := hp
    refine vx_ret ?_
    refine W.widen (k := 1) (n := 6) (Nat.le_of_ble_eq_true rfl) (Nat.le_of_ble_eq_true rfl) ?_
    exact hm_lret X hr hlk hw ⟨_, rfl, h⟩ dX10_won_99
  · have h := Eq.mp (if_neg hc) h
    refine lv_aload_n hx hb dX10_won_59 rfl (lv_at hl 1 rfl) ?_
    refine hm_getr X hw lk_10_40 (gl_0 hG) (gf_0_5 hG) dX10_won_60 ?_
    refine lv_aload_n hx hb dX10_won_63 rfl (lv_at hl 1 rfl) ?_
    refine hm_getr X hw lk_10_10 (gl_0 hG) (gf_0_0 hG) dX10_won_64 ?_
    refine lv_aload_n hx hb dX10_won_67 rfl (lv_at hl 1 rfl) ?_
    refine hm_getr X hw lk_10_33 (gl_0 hG) (gf_0_4 hG) dX10_won_68 ?_
    refine lv_iload_n hx hb dX10_won_71 rfl (lv_at hl 0 rfl) ?_
    refine hm_calli hw (hm_runV (rest := []) EvC_cl X hw (cLed_countRows EvC_cl hG (geo_net hG) h) yk_X3_countRows kw1104 rfl (gl_26 hG) rfl hl.1 rfl rfl rfl (Nat.le_of_ble_eq_true rfl) ⟨Nat.le_trans (Nat.le_of_ble_eq_true rfl) hR.1, Nat.le_trans (Nat.le_of_ble_eq_true rfl) hR.2⟩ ⟨Nat.le_trans (Nat.le_of_ble_eq_true rfl) hRc.1, Nat.le_trans (Nat.le_of_ble_eq_true rfl) hRc.2⟩ dX10_won_72) (fun a6 u7 H locs hp hw => ?_)
    obtain ⟨rfl, h⟩ := hp
    refine lv_i2l (v := Int32.toInt64 a6) hx hb dX10_won_75 rfl ?_
    refine lv_goto (tgt := 99) hx hb dX10_won_76 (by decide) ?_
    refine vx_ret ?_
    refine W.widen (k := 1) (n := 6) (Nat.le_of_ble_eq_true rfl) (Nat.le_of_ble_eq_true rfl) ?_
    exact hm_lret X hr hlk hw ⟨_, rfl, h⟩ dX10_won_99

theorem cH_won {l : Launch} {D : va_G} {cA : Nat → ClassId} {z sz : Nat} {I : HI} {T : HR} {F : HR} {L : HL} {x1 : Int32} {Q : Int64 → HI → Prop} {Xc : HI → Prop} (hlt : l.stackTraces = false) (hG : Geo F L) (h : H_won I T F L x1 Q Xc) : vx_Met l yX10_won (hws0 yX10_won cX10_won 3 (some .long)) { frames := 7, cells := 1, slots := 6, locals := 153 } (hPc D cA z EvC (I, J, T, F, L) sz [.ref (z + 0), .int x1]) (va_Ql (pI J T F L Q) (hB D cA z (hA z L sz)) (hA z L sz)) (vx_X (pIv J T F L Xc) (pX "java/util/NoSuchElementException" D cA z (hA z L sz)) (hA z L sz)) 1 6 (hA z L sz) := by
  refine hm_xmet (I, J, T, F, L) [.ref (z + 0), .int x1] rfl (by decide) (Nat.le_of_ble_eq_true rfl) ?_
  intro p e s m below meth c ls X hr hlk hnm hxt hsz hw hl
  have hl : lv_has ls 3 [(0, .ref (z + 0)), (1, .int x1)] := hl
  have hR : 7 ≤ ({ frames := 7, cells := 1, slots := 6, locals := 153 } : Room).frames ∧ 153 ≤ ({ frames := 7, cells := 1, slots := 6, locals := 153 } : Room).locals := ⟨Nat.le_refl _, Nat.le_refl _⟩
  have hRc : 1 ≤ ({ frames := 7, cells := 1, slots := 6, locals := 153 } : Room).cells ∧ 6 ≤ ({ frames := 7, cells := 1, slots := 6, locals := 153 } : Room).slots := ⟨Nat.le_refl _, Nat.le_refl _⟩
  generalize ({ frames := 7, cells := 1, slots := 6, locals := 153 } : Room) = R at hR hRc ⊢
  clear hsz
  generalize (hA z L sz) = A at hw ⊢
  have hx := X.1
  have hb := X.2.1
  unfold H_won at h
  refine lv_iload_n hx hb dX10_won_0 rfl (lv_at hl 1 rfl) ?_
  refine lv_if_lt (tgt := 9) hx hb dX10_won_1 (by decide) (fun hc => ?_) (fun hc => ?_)
  · have h := Eq.mp (if_pos hc) h
    exact wkH_won_b9 X hr hlk hR hRc hlt hxt hG  h hw (lv_sub hl [] rfl)
  · have h := Eq.mp (if_neg hc) h
    refine lv_iload_n hx hb dX10_won_4 rfl (lv_at hl 1 rfl) ?_
    refine lv_iconst (v := 3) hx hb dX10_won_5 (by decide) ?_
    refine lv_icmp_le (tgt := 19) hx hb dX10_won_6 (by decide) (fun hc => ?_) (fun hc => ?_)
    · have h := Eq.mp (if_pos hc) h
      refine lv_aload_n hx hb dX10_won_19 rfl (lv_at hl 0 rfl) ?_
      refine hm_getr X hw lk_10_40 (gl_0 hG) (gf_0_5 hG) dX10_won_20 ?_
      refine lv_aload_n hx hb dX10_won_23 rfl (lv_at hl 0 rfl) ?_
      refine hm_getr X hw lk_10_10 (gl_0 hG) (gf_0_0 hG) dX10_won_24 ?_
      refine lv_aload_n hx hb dX10_won_27 rfl (lv_at hl 0 rfl) ?_
      refine hm_getr X hw lk_10_33 (gl_0 hG) (gf_0_4 hG) dX10_won_28 ?_
      refine lv_aload_n hx hb dX10_won_31 rfl (lv_at hl 0 rfl) ?_
      refine hm_getr X hw lk_10_26 (gl_0 hG) (gf_0_3 hG) dX10_won_32 ?_
      refine hm_callv hw (hm_runV (rest := []) EvC_cl X hw (cLed_fill EvC_cl hG (geo_net hG) (geo_scene hG) h) yk_X3_fill kw543 rfl (gl_26 hG) rfl hl.1 rfl rfl rfl (Nat.le_of_ble_eq_true rfl) ⟨Nat.le_trans (Nat.le_of_ble_eq_true rfl) hR.1, Nat.le_trans (Nat.le_of_ble_eq_true rfl) hR.2⟩ ⟨Nat.le_trans (Nat.le_of_ble_eq_true rfl) hRc.1, Nat.le_trans (Nat.le_of_ble_eq_true rfl) hRc.2⟩ dX10_won_35) (fun u2 H locs hp hw => ?_)
      obtain ⟨I1, rfl, h⟩ := hp
      refine lv_iload_n hx hb dX10_won_38 rfl (lv_at hl 1 rfl) ?_
      refine lv_iconst (v := 1) hx hb dX10_won_39 (by decide) ?_
      refine lv_icmp_eq (tgt := 48) hx hb dX10_won_40 (by decide) (fun hc => ?_) (fun hc => ?_)
      · have h := Eq.mp (if_pos hc) h
        refine lv_iconst (v := 1) hx hb dX10_won_48 (by decide) ?_
        refine lv_goto (tgt := 53) hx hb dX10_won_49 (by decide) ?_
        exact wkH_won_b53 X hr hlk hR hRc hlt hxt hG  h hw (lv_sub hl [0, 1] rfl)
      · have h := Eq.mp (if_neg hc) h
        refine lv_iload_n hx hb dX10_won_43 rfl (lv_at hl 1 rfl) ?_
        refine lv_iconst (v := 3) hx hb dX10_won_44 (by decide) ?_
        refine lv_icmp_ne (tgt := 52) hx hb dX10_won_45 (by decide) (fun hc => ?_) (fun hc => ?_)
        · have h := Eq.mp (if_neg hc) h
          refine lv_iconst (v := 0) hx hb dX10_won_52 (by decide) ?_
          exact wkH_won_b53 X hr hlk hR hRc hlt hxt hG  h hw (lv_sub hl [0, 1] rfl)
        · have h := Eq.mp (if_pos hc) h
          refine lv_iconst (v := 1) hx hb dX10_won_48 (by decide) ?_
          refine lv_goto (tgt := 53) hx hb dX10_won_49 (by decide) ?_
          exact wkH_won_b53 X hr hlk hR hRc hlt hxt hG  h hw (lv_sub hl [0, 1] rfl)
    · have h := Eq.mp (if_neg hc) h
      exact wkH_won_b9 X hr hlk hR hRc hlt hxt hG  h hw (lv_sub hl [] rfl)

theorem cH_rightOf {l : Launch} {D : va_G} {cA : Nat → ClassId} {z sz : Nat} {I : HI} {T : HR} {F : HR} {L : HL} {x1 : Int32} {Q : Int32 → HI → Prop} {Xc : HI → Prop} (hlt : l.stackTraces = false) (hG : Geo F L) (h : H_rightOf I T F L x1 Q Xc) : vx_Met l yX10_rightOf (hws0 yX10_rightOf cX10_rightOf 2 (some .int)) { frames := 8, cells := 1, slots := 6, locals := 151 } (hPc D cA z EvC (I, J, T, F, L) sz [.ref (z + 0), .int x1]) (va_Qi (pI J T F L Q) (hB D cA z (hA z L sz)) (hA z L sz)) (vx_X (pIv J T F L Xc) (pX "java/util/NoSuchElementException" D cA z (hA z L sz)) (hA z L sz)) 1 6 (hA z L sz) := by
  refine hm_xmet (I, J, T, F, L) [.ref (z + 0), .int x1] rfl (by decide) (Nat.le_of_ble_eq_true rfl) ?_
  intro p e s m below meth c ls X hr hlk hnm hxt hsz hw hl
  have hl : lv_has ls 2 [(0, .ref (z + 0)), (1, .int x1)] := hl
  have hR : 8 ≤ ({ frames := 8, cells := 1, slots := 6, locals := 151 } : Room).frames ∧ 151 ≤ ({ frames := 8, cells := 1, slots := 6, locals := 151 } : Room).locals := ⟨Nat.le_refl _, Nat.le_refl _⟩
  have hRc : 1 ≤ ({ frames := 8, cells := 1, slots := 6, locals := 151 } : Room).cells ∧ 6 ≤ ({ frames := 8, cells := 1, slots := 6, locals := 151 } : Room).slots := ⟨Nat.le_refl _, Nat.le_refl _⟩
  generalize ({ frames := 8, cells := 1, slots := 6, locals := 151 } : Room) = R at hR hRc ⊢
  clear hsz
  generalize (hA z L sz) = A at hw ⊢
  have hx := X.1
  have hb := X.2.1
  unfold H_rightOf at h
  refine lv_aload_n hx hb dX10_rightOf_0 rfl (lv_at hl 0 rfl) ?_
  refine lv_iload_n hx hb dX10_rightOf_1 rfl (lv_at hl 1 rfl) ?_
  refine hm_xcallv hw (hm_xrunV (rest := []) EvC_cl X hw (cH_needWearer hlt hG h) yk_X10_needWearer kw843 rfl (gl_0 hG) rfl hl.1 rfl rfl rfl (Nat.le_of_ble_eq_true rfl) ⟨Nat.le_trans (Nat.le_of_ble_eq_true rfl) hR.1, Nat.le_trans (Nat.le_of_ble_eq_true rfl) hR.2⟩ ⟨Nat.le_trans (Nat.le_of_ble_eq_true rfl) hRc.1, Nat.le_trans (Nat.le_of_ble_eq_true rfl) hRc.2⟩ dX10_rightOf_2) (fun ce q9 u1 H locs hp hw hq hv hcl => ?_) (fun u1 H locs hp hw => ?_)
  · obtain ⟨rfl, h⟩ := hp
    exact hm_xout hxt hlk hw ⟨_, rfl, h⟩ hq hv hcl (Nat.le_of_ble_eq_true rfl) (Nat.le_of_ble_eq_true rfl)
  obtain ⟨rfl, h⟩ := hp
  refine lv_aload_n hx hb dX10_rightOf_5 rfl (lv_at hl 0 rfl) ?_
  refine hm_getr X hw lk_10_40 (gl_0 hG) (gf_0_5 hG) dX10_rightOf_6 ?_
  refine lv_aload_n hx hb dX10_rightOf_9 rfl (lv_at hl 0 rfl) ?_
  refine hm_getr X hw lk_10_10 (gl_0 hG) (gf_0_0 hG) dX10_rightOf_10 ?_
  refine lv_aload_n hx hb dX10_rightOf_13 rfl (lv_at hl 0 rfl) ?_
  refine hm_getr X hw lk_10_33 (gl_0 hG) (gf_0_4 hG) dX10_rightOf_14 ?_
  refine lv_aload_n hx hb dX10_rightOf_17 rfl (lv_at hl 0 rfl) ?_
  refine hm_getr X hw lk_10_26 (gl_0 hG) (gf_0_3 hG) dX10_rightOf_18 ?_
  refine hm_callv hw (hm_runV (rest := []) EvC_cl X hw (cLed_fill EvC_cl hG (geo_net hG) (geo_scene hG) h) yk_X3_fill kw543 rfl (gl_26 hG) rfl hl.1 rfl rfl rfl (Nat.le_of_ble_eq_true rfl) ⟨Nat.le_trans (Nat.le_of_ble_eq_true rfl) hR.1, Nat.le_trans (Nat.le_of_ble_eq_true rfl) hR.2⟩ ⟨Nat.le_trans (Nat.le_of_ble_eq_true rfl) hRc.1, Nat.le_trans (Nat.le_of_ble_eq_true rfl) hRc.2⟩ dX10_rightOf_21) (fun u3 H locs hp hw => ?_)
  obtain ⟨I2, rfl, h⟩ := hp
  refine lv_aload_n hx hb dX10_rightOf_24 rfl (lv_at hl 0 rfl) ?_
  refine hm_getr X hw lk_10_40 (gl_0 hG) (gf_0_5 hG) dX10_rightOf_25 ?_
  refine lv_aload_n hx hb dX10_rightOf_28 rfl (lv_at hl 0 rfl) ?_
  refine hm_getr X hw lk_10_10 (gl_0 hG) (gf_0_0 hG) dX10_rightOf_29 ?_
  refine lv_iload_n hx hb dX10_rightOf_32 rfl (lv_at hl 1 rfl) ?_
  refine hm_calli hw (hm_runV (rest := []) EvC_cl X hw (cLed_rowsRightFor EvC_cl hG (geo_net hG) h) yk_X3_rowsRightFor kw1119 rfl (gl_26 hG) rfl hl.1 rfl rfl rfl (Nat.le_of_ble_eq_true rfl) ⟨Nat.le_trans (Nat.le_of_ble_eq_true rfl) hR.1, Nat.le_trans (Nat.le_of_ble_eq_true rfl) hR.2⟩ ⟨Nat.le_trans (Nat.le_of_ble_eq_true rfl) hRc.1, Nat.le_trans (Nat.le_of_ble_eq_true rfl) hRc.2⟩ dX10_rightOf_33) (fun a4 u5 H locs hp hw => ?_)
  obtain ⟨rfl, h⟩ := hp
  refine vx_ret ?_
  exact hm_iret X hr hlk hw ⟨_, rfl, h⟩ dX10_rightOf_36

theorem wkH_worst_b9 {I : HI} {T : HR} {F : HR} {L : HL} {Q : Int32 → HI → Prop} {Xc : HI → Prop} (X : hX p m c s args RX10 cX10_worst 3) (hr : meth.sig.returnType = (some .int)) (hlk : meth.locks = false) (hR : 7 ≤ R.frames ∧ 151 ≤ R.locals) (hRc : 1 ≤ R.cells ∧ 6 ≤ R.slots) (hlt : l.stackTraces = false) (hxt : c.exceptionTable.isEmpty = true) (hG : Geo F L)  : ∀ {ls : Array Slot} {H : Heap} {locs : List Loc}, H_worst_b9 I T F L Q Xc → hW D cA z EvC (I, J, T, F, L) A s H locs → lv_has ls 3 [] → W p l e R s m args below meth c H locs 0 0 (vx_MQ below (va_Qi (pI J T F L Q) (hB D cA z A) A) (vx_X (pIv J T F L Xc) (pX "java/util/NoSuchElementException" D cA z A) A) args s 1 6 A) (F0 m 9 ls []) := by
  have hx := X.1
  have hb := X.2.1
  intro ls H locs h hw hl
  unfold H_worst_b9 at h
  exact hm_thrNW (is := 268) (text := "no such thing of the worst row") hlt X hxt hlk hw (by decide) ⟨_, rfl, h⟩ hl.1 dX10_worst_9 dX10_worst_12 dX10_worst_13 dX10_worst_16 dX10_worst_19 ⟨Nat.le_trans (Nat.le_of_ble_eq_true rfl) hR.1, Nat.le_trans (Nat.le_of_ble_eq_true rfl) hR.2⟩ (Nat.le_trans (Nat.le_of_ble_eq_true rfl) hRc.1) (Nat.le_trans (Nat.le_of_ble_eq_true rfl) hRc.2) (Nat.le_of_ble_eq_true rfl) (Nat.le_of_ble_eq_true rfl)

theorem cH_worst {l : Launch} {D : va_G} {cA : Nat → ClassId} {z sz : Nat} {I : HI} {T : HR} {F : HR} {L : HL} {x1 : Int32} {Q : Int32 → HI → Prop} {Xc : HI → Prop} (hlt : l.stackTraces = false) (hG : Geo F L) (h : H_worst I T F L x1 Q Xc) : vx_Met l yX10_worst (hws0 yX10_worst cX10_worst 3 (some .int)) { frames := 7, cells := 1, slots := 6, locals := 151 } (hPc D cA z EvC (I, J, T, F, L) sz [.ref (z + 0), .int x1]) (va_Qi (pI J T F L Q) (hB D cA z (hA z L sz)) (hA z L sz)) (vx_X (pIv J T F L Xc) (pX "java/util/NoSuchElementException" D cA z (hA z L sz)) (hA z L sz)) 1 6 (hA z L sz) := by
  refine hm_xmet (I, J, T, F, L) [.ref (z + 0), .int x1] rfl (by decide) (Nat.le_of_ble_eq_true rfl) ?_
  intro p e s m below meth c ls X hr hlk hnm hxt hsz hw hl
  have hl : lv_has ls 3 [(0, .ref (z + 0)), (1, .int x1)] := hl
  have hR : 7 ≤ ({ frames := 7, cells := 1, slots := 6, locals := 151 } : Room).frames ∧ 151 ≤ ({ frames := 7, cells := 1, slots := 6, locals := 151 } : Room).locals := ⟨Nat.le_refl _, Nat.le_refl _⟩
  have hRc : 1 ≤ ({ frames := 7, cells := 1, slots := 6, locals := 151 } : Room).cells ∧ 6 ≤ ({ frames := 7, cells := 1, slots := 6, locals := 151 } : Room).slots := ⟨Nat.le_refl _, Nat.le_refl _⟩
  generalize ({ frames := 7, cells := 1, slots := 6, locals := 151 } : Room) = R at hR hRc ⊢
  clear hsz
  generalize (hA z L sz) = A at hw ⊢
  have hx := X.1
  have hb := X.2.1
  unfold H_worst at h
  refine lv_iload_n hx hb dX10_worst_0 rfl (lv_at hl 1 rfl) ?_
  refine lv_if_lt (tgt := 9) hx hb dX10_worst_1 (by decide) (fun hc => ?_) (fun hc => ?_)
  · have h := Eq.mp (if_pos hc) h
    exact wkH_worst_b9 X hr hlk hR hRc hlt hxt hG  h hw (lv_sub hl [] rfl)
  · have h := Eq.mp (if_neg hc) h
    refine lv_iload_n hx hb dX10_worst_4 rfl (lv_at hl 1 rfl) ?_
    refine lv_iconst (v := 1) hx hb dX10_worst_5 (by decide) ?_
    refine lv_icmp_le (tgt := 20) hx hb dX10_worst_6 (by decide) (fun hc => ?_) (fun hc => ?_)
    · have h := Eq.mp (if_pos hc) h
      refine lv_aload_n hx hb dX10_worst_20 rfl (lv_at hl 0 rfl) ?_
      refine hm_getr X hw lk_10_40 (gl_0 hG) (gf_0_5 hG) dX10_worst_21 ?_
      refine lv_aload_n hx hb dX10_worst_24 rfl (lv_at hl 0 rfl) ?_
      refine hm_getr X hw lk_10_10 (gl_0 hG) (gf_0_0 hG) dX10_worst_25 ?_
      refine lv_aload_n hx hb dX10_worst_28 rfl (lv_at hl 0 rfl) ?_
      refine hm_getr X hw lk_10_33 (gl_0 hG) (gf_0_4 hG) dX10_worst_29 ?_
      refine lv_aload_n hx hb dX10_worst_32 rfl (lv_at hl 0 rfl) ?_
      refine hm_getr X hw lk_10_26 (gl_0 hG) (gf_0_3 hG) dX10_worst_33 ?_
      refine hm_callv hw (hm_runV (rest := []) EvC_cl X hw (cLed_fill EvC_cl hG (geo_net hG) (geo_scene hG) h) yk_X3_fill kw543 rfl (gl_26 hG) rfl hl.1 rfl rfl rfl (Nat.le_of_ble_eq_true rfl) ⟨Nat.le_trans (Nat.le_of_ble_eq_true rfl) hR.1, Nat.le_trans (Nat.le_of_ble_eq_true rfl) hR.2⟩ ⟨Nat.le_trans (Nat.le_of_ble_eq_true rfl) hRc.1, Nat.le_trans (Nat.le_of_ble_eq_true rfl) hRc.2⟩ dX10_worst_36) (fun u2 H locs hp hw => ?_)
      obtain ⟨I1, rfl, h⟩ := hp
      refine lv_aload_n hx hb dX10_worst_39 rfl (lv_at hl 0 rfl) ?_
      refine hm_getr X hw lk_10_40 (gl_0 hG) (gf_0_5 hG) dX10_worst_40 ?_
      refine lv_aload_n hx hb dX10_worst_43 rfl (lv_at hl 0 rfl) ?_
      refine hm_getr X hw lk_10_10 (gl_0 hG) (gf_0_0 hG) dX10_worst_44 ?_
      refine hm_calli hw (hm_runV (rest := []) EvC_cl X hw (cLed_worstRow EvC_cl hG (geo_net hG) h) yk_X3_worstRow kw799 rfl (gl_26 hG) rfl hl.1 rfl rfl rfl (Nat.le_of_ble_eq_true rfl) ⟨Nat.le_trans (Nat.le_of_ble_eq_true rfl) hR.1, Nat.le_trans (Nat.le_of_ble_eq_true rfl) hR.2⟩ ⟨Nat.le_trans (Nat.le_of_ble_eq_true rfl) hRc.1, Nat.le_trans (Nat.le_of_ble_eq_true rfl) hRc.2⟩ dX10_worst_47) (fun a3 u4 H locs hp hw => ?_)
      obtain ⟨rfl, h⟩ := hp
      refine lv_istore_n (lv' := [(2, _), (0, _), (1, _)]) hx hb dX10_worst_50 rfl hl (by decide) rfl (fun ls hl => ?_)
      refine lv_iload_n hx hb dX10_worst_51 rfl (lv_at hl 2 rfl) ?_
      refine lv_iconst (v := 1) hx hb dX10_worst_52 (by decide) ?_
      refine lv_icmp_eq (tgt := 61) hx hb dX10_worst_53 (by decide) (fun hc => ?_) (fun hc => ?_)
      · have h := Eq.mp (if_pos hc) h
        refine lv_iload_n hx hb dX10_worst_61 rfl (lv_at hl 0 rfl) ?_
        refine lv_goto (tgt := 73) hx hb dX10_worst_62 (by decide) ?_
        refine vx_ret ?_
        refine W.widen (k := 1) (n := 6) (Nat.le_of_ble_eq_true rfl) (Nat.le_of_ble_eq_true rfl) ?_
        exact hm_iret X hr hlk hw ⟨_, rfl, h⟩ dX10_worst_73
      · have h := Eq.mp (if_neg hc) h
        refine lv_iload_n hx hb dX10_worst_56 rfl (lv_at hl 0 rfl) ?_
        refine lv_iconst (v := (-1)) hx hb dX10_worst_57 (by decide) ?_
        refine lv_icmp_ne (tgt := 65) hx hb dX10_worst_58 (by decide) (fun hc => ?_) (fun hc => ?_)
        · have h := Eq.mp (if_neg hc) h
          refine lv_aload_n hx hb dX10_worst_65 rfl (lv_at hl 1 rfl) ?_
          refine hm_getr X hw lk_10_40 (gl_0 hG) (gf_0_5 hG) dX10_worst_66 ?_
          refine lv_iload_n hx hb dX10_worst_69 rfl (lv_at hl 0 rfl) ?_
          refine hm_calli hw (hm_runV (rest := []) EvC_cl X hw (cLed_wrongIn EvC_cl hG h) yk_X3_wrongIn kw807 rfl (gl_26 hG) rfl hl.1 rfl rfl rfl (Nat.le_of_ble_eq_true rfl) ⟨Nat.le_trans (Nat.le_of_ble_eq_true rfl) hR.1, Nat.le_trans (Nat.le_of_ble_eq_true rfl) hR.2⟩ ⟨Nat.le_trans (Nat.le_of_ble_eq_true rfl) hRc.1, Nat.le_trans (Nat.le_of_ble_eq_true rfl) hRc.2⟩ dX10_worst_70) (fun a5 u6 H locs hp hw => ?_)
          obtain ⟨rfl, h⟩ := hp
          refine vx_ret ?_
          refine W.widen (k := 1) (n := 6) (Nat.le_of_ble_eq_true rfl) (Nat.le_of_ble_eq_true rfl) ?_
          exact hm_iret X hr hlk hw ⟨_, rfl, h⟩ dX10_worst_73
        · have h := Eq.mp (if_pos hc) h
          refine lv_iload_n hx hb dX10_worst_61 rfl (lv_at hl 0 rfl) ?_
          refine lv_goto (tgt := 73) hx hb dX10_worst_62 (by decide) ?_
          refine vx_ret ?_
          refine W.widen (k := 1) (n := 6) (Nat.le_of_ble_eq_true rfl) (Nat.le_of_ble_eq_true rfl) ?_
          exact hm_iret X hr hlk hw ⟨_, rfl, h⟩ dX10_worst_73
    · have h := Eq.mp (if_neg hc) h
      exact wkH_worst_b9 X hr hlk hR hRc hlt hxt hG  h hw (lv_sub hl [] rfl)

theorem wkH_idle_l17 {T : HR} {F : HR} {L : HL} {x1 : Int32} {Q : Int32 → HI → Prop} {Xc : HI → Prop} (X : hX p m c s args RX10 cX10_idle 4) (hr : meth.sig.returnType = (some .int)) (hlk : meth.locks = false) (hR : 8 ≤ R.frames ∧ 148 ≤ R.locals) (hRc : 1 ≤ R.cells ∧ 6 ≤ R.slots) (hlt : l.stackTraces = false) (hxt : c.exceptionTable.isEmpty = true) (hG : Geo F L)  : ∀ (n : Nat) (I : HI) (x2 : Int32) (x3 : Int32) {ls : Array Slot} {H : Heap} {locs : List Loc}, H_idle_l17 T F L x1 Q Xc n I x2 x3 → hW D cA z EvC (I, J, T, F, L) A s H locs → lv_has ls 4 [(0, .ref (z + 0)), (1, .int x1), (2, .int x2), (3, .int x3)] → W p l e R s m args below meth c H locs 1 6 (vx_MQ below (va_Qi (pI J T F L Q) (hB D cA z A) A) (vx_X (pIv J T F L Xc) (pX "java/util/NoSuchElementException" D cA z A) A) args s 1 6 A) (F0 m 17 ls []) := by
  have hx := X.1
  have hb := X.2.1
  intro n
  induction n with
  | zero => intro I x2 x3 ls H locs h; exact False.elim h
  | succ n ih =>
    intro I x2 x3 ls H locs h hw hl
    rw [H_idle_l17] at h
    refine lv_iload_n hx hb dX10_idle_17 rfl (lv_at hl 3 rfl) ?_
    refine lv_aload_n hx hb dX10_idle_18 rfl (lv_at hl 0 rfl) ?_
    refine hm_getr X hw lk_10_10 (gl_0 hG) (gf_0_0 hG) dX10_idle_19 ?_
    refine hm_geti X hw lk_10_276 (gl_1 hG) dX10_idle_22 ?_
    refine lv_icmp_ge (tgt := 68) hx hb dX10_idle_25 (by decide) (fun hc => ?_) (fun hc => ?_)
    · have h := Eq.mp (if_pos hc) h
      refine lv_iload_n hx hb dX10_idle_68 rfl (lv_at hl 2 rfl) ?_
      refine vx_ret ?_
      exact hm_iret X hr hlk hw ⟨_, rfl, h⟩ dX10_idle_69
    · have h := Eq.mp (if_neg hc) h
      refine lv_iload_n hx hb dX10_idle_28 rfl (lv_at hl 2 rfl) ?_
      refine lv_if_eq (tgt := 68) hx hb dX10_idle_29 (by decide) (fun hc => ?_) (fun hc => ?_)
      · have h := Eq.mp (if_pos hc) h
        refine lv_iload_n hx hb dX10_idle_68 rfl (lv_at hl 2 rfl) ?_
        refine vx_ret ?_
        exact hm_iret X hr hlk hw ⟨_, rfl, h⟩ dX10_idle_69
      · have h := Eq.mp (if_neg hc) h
        refine lv_aload_n hx hb dX10_idle_32 rfl (lv_at hl 0 rfl) ?_
        refine hm_getr X hw lk_10_26 (gl_0 hG) (gf_0_3 hG) dX10_idle_33 ?_
        refine lv_aload_n hx hb dX10_idle_36 rfl (lv_at hl 0 rfl) ?_
        refine hm_getr X hw lk_10_10 (gl_0 hG) (gf_0_0 hG) dX10_idle_37 ?_
        refine lv_iload_n hx hb dX10_idle_40 rfl (lv_at hl 3 rfl) ?_
        refine hm_callv hw (hm_runV (rest := []) EvC_cl X hw (cSc_play EvC_cl (geo_scene hG) (geo_net hG) h) yk_X7_play kw1077 rfl (gl_20 hG) rfl hl.1 rfl rfl rfl (Nat.le_of_ble_eq_true rfl) ⟨Nat.le_trans (Nat.le_of_ble_eq_true rfl) hR.1, Nat.le_trans (Nat.le_of_ble_eq_true rfl) hR.2⟩ ⟨Nat.le_trans (Nat.le_of_ble_eq_true rfl) hRc.1, Nat.le_trans (Nat.le_of_ble_eq_true rfl) hRc.2⟩ dX10_idle_41) (fun u3 H locs hp hw => ?_)
        obtain ⟨I2, rfl, h⟩ := hp
        refine lv_iload_n hx hb dX10_idle_44 rfl (lv_at hl 2 rfl) ?_
        refine lv_aload_n hx hb dX10_idle_45 rfl (lv_at hl 0 rfl) ?_
        refine hm_getr X hw lk_10_26 (gl_0 hG) (gf_0_3 hG) dX10_idle_46 ?_
        refine lv_aload_n hx hb dX10_idle_49 rfl (lv_at hl 0 rfl) ?_
        refine hm_getr X hw lk_10_10 (gl_0 hG) (gf_0_0 hG) dX10_idle_50 ?_
        refine lv_iload_n hx hb dX10_idle_53 rfl (lv_at hl 1 rfl) ?_
        refine lv_iload_n hx hb dX10_idle_54 rfl (lv_at hl 2 rfl) ?_
        refine hm_calli hw (hm_runV (rest := [_]) EvC_cl X hw (cSc_looksThatMatter EvC_cl (geo_scene hG) (geo_net hG) h) yk_X7_looksThatMatter kw1134 rfl (gl_20 hG) rfl hl.1 rfl rfl rfl (Nat.le_of_ble_eq_true rfl) ⟨Nat.le_trans (Nat.le_of_ble_eq_true rfl) hR.1, Nat.le_trans (Nat.le_of_ble_eq_true rfl) hR.2⟩ ⟨Nat.le_trans (Nat.le_of_ble_eq_true rfl) hRc.1, Nat.le_trans (Nat.le_of_ble_eq_true rfl) hRc.2⟩ dX10_idle_55) (fun a4 u6 H locs hp hw => ?_)
        obtain ⟨I5, rfl, h⟩ := hp
        refine lv_iconst (v := (-1)) hx hb dX10_idle_58 (by decide) ?_
        refine lv_ixor hx hb dX10_idle_59 ?_
        refine lv_iand hx hb dX10_idle_60 ?_
        refine lv_istore_n (lv' := [(2, _), (0, _), (1, _), (3, _)]) hx hb dX10_idle_61 rfl hl (by decide) rfl (fun ls hl => ?_)
        refine lv_iinc (v := x3 + 1) (lv' := [(3, _), (2, _), (0, _), (1, _)]) hx hb dX10_idle_62 hl (k := 3) rfl rfl (by decide) rfl (fun ls hl => ?_)
        refine lv_goto (tgt := 17) hx hb dX10_idle_65 (by decide) ?_
        exact ih _ _ _ h hw (lv_sub hl [2, 3, 1, 0] rfl)

theorem cH_idle {l : Launch} {D : va_G} {cA : Nat → ClassId} {z sz : Nat} {I : HI} {T : HR} {F : HR} {L : HL} {x1 : Int32} {Q : Int32 → HI → Prop} {Xc : HI → Prop} (hlt : l.stackTraces = false) (hG : Geo F L) (h : H_idle I T F L x1 Q Xc) : vx_Met l yX10_idle (hws0 yX10_idle cX10_idle 4 (some .int)) { frames := 8, cells := 1, slots := 6, locals := 148 } (hPc D cA z EvC (I, J, T, F, L) sz [.ref (z + 0), .int x1]) (va_Qi (pI J T F L Q) (hB D cA z (hA z L sz)) (hA z L sz)) (vx_X (pIv J T F L Xc) (pX "java/util/NoSuchElementException" D cA z (hA z L sz)) (hA z L sz)) 1 6 (hA z L sz) := by
  refine hm_xmet (I, J, T, F, L) [.ref (z + 0), .int x1] rfl (by decide) (Nat.le_of_ble_eq_true rfl) ?_
  intro p e s m below meth c ls X hr hlk hnm hxt hsz hw hl
  have hl : lv_has ls 4 [(0, .ref (z + 0)), (1, .int x1)] := hl
  have hR : 8 ≤ ({ frames := 8, cells := 1, slots := 6, locals := 148 } : Room).frames ∧ 148 ≤ ({ frames := 8, cells := 1, slots := 6, locals := 148 } : Room).locals := ⟨Nat.le_refl _, Nat.le_refl _⟩
  have hRc : 1 ≤ ({ frames := 8, cells := 1, slots := 6, locals := 148 } : Room).cells ∧ 6 ≤ ({ frames := 8, cells := 1, slots := 6, locals := 148 } : Room).slots := ⟨Nat.le_refl _, Nat.le_refl _⟩
  generalize ({ frames := 8, cells := 1, slots := 6, locals := 148 } : Room) = R at hR hRc ⊢
  clear hsz
  generalize (hA z L sz) = A at hw ⊢
  have hx := X.1
  have hb := X.2.1
  unfold H_idle at h
  refine lv_aload_n hx hb dX10_idle_0 rfl (lv_at hl 0 rfl) ?_
  refine lv_iload_n hx hb dX10_idle_1 rfl (lv_at hl 1 rfl) ?_
  refine hm_xcallv hw (hm_xrunV (rest := []) EvC_cl X hw (cH_needWearer hlt hG h) yk_X10_needWearer kw843 rfl (gl_0 hG) rfl hl.1 rfl rfl rfl (Nat.le_of_ble_eq_true rfl) ⟨Nat.le_trans (Nat.le_of_ble_eq_true rfl) hR.1, Nat.le_trans (Nat.le_of_ble_eq_true rfl) hR.2⟩ ⟨Nat.le_trans (Nat.le_of_ble_eq_true rfl) hRc.1, Nat.le_trans (Nat.le_of_ble_eq_true rfl) hRc.2⟩ dX10_idle_2) (fun ce q9 u1 H locs hp hw hq hv hcl => ?_) (fun u1 H locs hp hw => ?_)
  · obtain ⟨rfl, h⟩ := hp
    exact hm_xout hxt hlk hw ⟨_, rfl, h⟩ hq hv hcl (Nat.le_of_ble_eq_true rfl) (Nat.le_of_ble_eq_true rfl)
  obtain ⟨rfl, h⟩ := hp
  refine lv_aload_n hx hb dX10_idle_5 rfl (lv_at hl 0 rfl) ?_
  refine hm_getr X hw lk_10_10 (gl_0 hG) (gf_0_0 hG) dX10_idle_6 ?_
  refine hm_getr X hw lk_10_171 (gl_1 hG) (gf_1_3 hG) dX10_idle_9 ?_
  refine lv_iload_n hx hb dX10_idle_12 rfl (lv_at hl 1 rfl) ?_
  obtain ⟨hi, h⟩ := h
  refine hm_iald X hw (gl_2 hG) hi dX10_idle_13 ?_
  refine lv_istore_n (lv' := [(2, _), (0, _), (1, _)]) hx hb dX10_idle_14 rfl hl (by decide) rfl (fun ls hl => ?_)
  refine lv_iconst (v := 0) hx hb dX10_idle_15 (by decide) ?_
  refine lv_istore_n (lv' := [(3, _), (2, _), (0, _), (1, _)]) hx hb dX10_idle_16 rfl hl (by decide) rfl (fun ls hl => ?_)
  obtain ⟨n2, h⟩ := h
  exact wkH_idle_l17 X hr hlk hR hRc hlt hxt hG  n2 _ _ _ h hw (lv_sub hl [2, 3, 1, 0] rfl)

theorem wkH_otherwise_l54 {T : HR} {F : HR} {L : HL} {Q : Int32 → HI → HR → Prop} {Xc : HI → HR → Prop} (X : hX p m c s args RX10 cX10_otherwise 5) (hr : meth.sig.returnType = (some .int)) (hlk : meth.locks = false) (hR : 8 ≤ R.frames ∧ 141 ≤ R.locals) (hRc : 2 ≤ R.cells ∧ 12 ≤ R.slots) (hlt : l.stackTraces = false) (hxt : c.exceptionTable.isEmpty = true) (hG : Geo F L)  : ∀ (n : Nat) (I : HI) (x3 : Int32) (x4 : Int32) {ls : Array Slot} {H : Heap} {locs : List Loc}, H_otherwise_l54 T F L Q Xc n I x3 x4 → hW D cA z EvC (I, J, T, F, L) A s H locs → lv_has ls 5 [(0, .ref (z + 0)), (3, .int x3), (4, .int x4)] → W p l e R s m args below meth c H locs 2 12 (vx_MQ below (va_Qi (pIT J F L Q) (hB D cA z A) A) (vx_X (pITv J F L Xc) (pX "java/util/NoSuchElementException" D cA z A) A) args s 2 12 A) (F0 m 54 ls []) := by
  have hx := X.1
  have hb := X.2.1
  intro n
  induction n with
  | zero => intro I x3 x4 ls H locs h; exact False.elim h
  | succ n ih =>
    intro I x3 x4 ls H locs h hw hl
    rw [H_otherwise_l54] at h
    refine lv_iload hx hb dX10_otherwise_54 (lv_at hl 2 rfl) ?_
    refine lv_aload_n hx hb dX10_otherwise_56 rfl (lv_at hl 0 rfl) ?_
    refine hm_getr X hw lk_10_16 (gl_0 hG) (gf_0_1 hG) dX10_otherwise_57 ?_
    refine hm_geti X hw lk_10_276 (gl_10 hG) dX10_otherwise_60 ?_
    refine lv_icmp_ge (tgt := 166) hx hb dX10_otherwise_63 (by decide) (fun hc => ?_) (fun hc => ?_)
    · have h := Eq.mp (if_pos hc) h
      refine lv_iload_n hx hb dX10_otherwise_166 rfl (lv_at hl 1 rfl) ?_
      refine vx_ret ?_
      exact hm_iret X hr hlk hw ⟨_, _, rfl, h⟩ dX10_otherwise_167
    · have h := Eq.mp (if_neg hc) h
      refine lv_aload_n hx hb dX10_otherwise_66 rfl (lv_at hl 0 rfl) ?_
      refine hm_getr X hw lk_10_26 (gl_0 hG) (gf_0_3 hG) dX10_otherwise_67 ?_
      refine lv_aload_n hx hb dX10_otherwise_70 rfl (lv_at hl 0 rfl) ?_
      refine hm_getr X hw lk_10_16 (gl_0 hG) (gf_0_1 hG) dX10_otherwise_71 ?_
      refine lv_iload hx hb dX10_otherwise_74 (lv_at hl 2 rfl) ?_
      refine hm_callv hw (hm_runV (rest := []) EvC_cl X hw (cSc_dress EvC_cl (geo_scene hG) (geo_trial hG) h) yk_X7_dress kw1149 rfl (gl_20 hG) rfl hl.1 rfl rfl rfl (Nat.le_of_ble_eq_true rfl) ⟨Nat.le_trans (Nat.le_of_ble_eq_true rfl) hR.1, Nat.le_trans (Nat.le_of_ble_eq_true rfl) hR.2⟩ ⟨Nat.le_trans (Nat.le_of_ble_eq_true rfl) hRc.1, Nat.le_trans (Nat.le_of_ble_eq_true rfl) hRc.2⟩ dX10_otherwise_76) (fun u9 H locs hp hw => ?_)
      obtain ⟨I8, rfl, h⟩ := hp
      refine lv_aload_n hx hb dX10_otherwise_79 rfl (lv_at hl 0 rfl) ?_
      refine hm_getr X hw lk_10_33 (gl_0 hG) (gf_0_4 hG) dX10_otherwise_80 ?_
      refine lv_aload_n hx hb dX10_otherwise_83 rfl (lv_at hl 0 rfl) ?_
      refine hm_getr X hw lk_10_26 (gl_0 hG) (gf_0_3 hG) dX10_otherwise_84 ?_
      refine lv_aload_n hx hb dX10_otherwise_87 rfl (lv_at hl 0 rfl) ?_
      refine hm_getr X hw lk_10_16 (gl_0 hG) (gf_0_1 hG) dX10_otherwise_88 ?_
      refine hm_geti X hw lk_10_150 (gl_10 hG) dX10_otherwise_91 ?_
      refine hm_calll hw (hm_runV (rest := []) EvC_cl X hw (cJud_weigh EvC_cl hG (geo_scene hG) h) yk_X2_weigh kw1093 rfl (gl_23 hG) rfl hl.1 rfl rfl rfl (Nat.le_of_ble_eq_true rfl) ⟨Nat.le_trans (Nat.le_of_ble_eq_true rfl) hR.1, Nat.le_trans (Nat.le_of_ble_eq_true rfl) hR.2⟩ ⟨Nat.le_trans (Nat.le_of_ble_eq_true rfl) hRc.1, Nat.le_trans (Nat.le_of_ble_eq_true rfl) hRc.2⟩ dX10_otherwise_94) (fun a10 u12 H locs hp hw => ?_)
      obtain ⟨I11, rfl, h⟩ := hp
      refine lv_lconst (v := 0) hx hb dX10_otherwise_97 (by decide) ?_
      refine W.lcmp hx hb dX10_otherwise_98 ?_
      refine lv_if_le (tgt := 160) hx hb dX10_otherwise_99 (by decide) (fun hc => ?_) (fun hc => ?_)
      · have h := Eq.mp (if_pos hc) h
        refine lv_iinc (v := x4 + 1) (lv' := [(4, _), (0, _), (3, _)]) hx hb dX10_otherwise_160 hl (k := 2) rfl rfl (by decide) rfl (fun ls hl => ?_)
        refine lv_goto (tgt := 54) hx hb dX10_otherwise_163 (by decide) ?_
        exact ih _ _ _ h hw (lv_sub hl [1, 2, 0] rfl)
      · have h := Eq.mp (if_neg hc) h
        refine lv_aload_n hx hb dX10_otherwise_102 rfl (lv_at hl 0 rfl) ?_
        refine hm_getr X hw lk_10_26 (gl_0 hG) (gf_0_3 hG) dX10_otherwise_103 ?_
        refine lv_aload_n hx hb dX10_otherwise_106 rfl (lv_at hl 0 rfl) ?_
        refine hm_getr X hw lk_10_16 (gl_0 hG) (gf_0_1 hG) dX10_otherwise_107 ?_
        refine hm_callv hw (hm_runV (rest := []) EvC_cl X hw (cSc_guessAll EvC_cl (geo_scene hG) (geo_trial hG) h) yk_X7_guessAll kw1150 rfl (gl_20 hG) rfl hl.1 rfl rfl rfl (Nat.le_of_ble_eq_true rfl) ⟨Nat.le_trans (Nat.le_of_ble_eq_true rfl) hR.1, Nat.le_trans (Nat.le_of_ble_eq_true rfl) hR.2⟩ ⟨Nat.le_trans (Nat.le_of_ble_eq_true rfl) hRc.1, Nat.le_trans (Nat.le_of_ble_eq_true rfl) hRc.2⟩ dX10_otherwise_110) (fun u14 H locs hp hw => ?_)
        obtain ⟨I13, rfl, h⟩ := hp
        refine lv_iload_n hx hb dX10_otherwise_113 rfl (lv_at hl 1 rfl) ?_
        refine lv_aload_n hx hb dX10_otherwise_114 rfl (lv_at hl 0 rfl) ?_
        refine hm_getr X hw lk_10_33 (gl_0 hG) (gf_0_4 hG) dX10_otherwise_115 ?_
        refine lv_aload_n hx hb dX10_otherwise_118 rfl (lv_at hl 0 rfl) ?_
        refine hm_getr X hw lk_10_26 (gl_0 hG) (gf_0_3 hG) dX10_otherwise_119 ?_
        refine lv_aload_n hx hb dX10_otherwise_122 rfl (lv_at hl 0 rfl) ?_
        refine hm_getr X hw lk_10_16 (gl_0 hG) (gf_0_1 hG) dX10_otherwise_123 ?_
        refine hm_calli hw (hm_runV (rest := [_, _]) EvC_cl X hw (cSc_rightOnes EvC_cl (geo_scene hG) (geo_trial hG) h) yk_X7_rightOnes kw1091 rfl (gl_20 hG) rfl hl.1 rfl rfl rfl (Nat.le_of_ble_eq_true rfl) ⟨Nat.le_trans (Nat.le_of_ble_eq_true rfl) hR.1, Nat.le_trans (Nat.le_of_ble_eq_true rfl) hR.2⟩ ⟨Nat.le_trans (Nat.le_of_ble_eq_true rfl) hRc.1, Nat.le_trans (Nat.le_of_ble_eq_true rfl) hRc.2⟩ dX10_otherwise_126) (fun a15 u16 H locs hp hw => ?_)
        obtain ⟨rfl, h⟩ := hp
        refine lv_aload_n hx hb dX10_otherwise_129 rfl (lv_at hl 0 rfl) ?_
        refine hm_getr X hw lk_10_26 (gl_0 hG) (gf_0_3 hG) dX10_otherwise_130 ?_
        refine lv_aload_n hx hb dX10_otherwise_133 rfl (lv_at hl 0 rfl) ?_
        refine hm_getr X hw lk_10_16 (gl_0 hG) (gf_0_1 hG) dX10_otherwise_134 ?_
        refine hm_calli hw (hm_runV (rest := [_, _, _]) EvC_cl X hw (cSc_wrongOnes EvC_cl (geo_scene hG) (geo_trial hG) h) yk_X7_wrongOnes kw1092 rfl (gl_20 hG) rfl hl.1 rfl rfl rfl (Nat.le_of_ble_eq_true rfl) ⟨Nat.le_trans (Nat.le_of_ble_eq_true rfl) hR.1, Nat.le_trans (Nat.le_of_ble_eq_true rfl) hR.2⟩ ⟨Nat.le_trans (Nat.le_of_ble_eq_true rfl) hRc.1, Nat.le_trans (Nat.le_of_ble_eq_true rfl) hRc.2⟩ dX10_otherwise_137) (fun a17 u18 H locs hp hw => ?_)
        obtain ⟨rfl, h⟩ := hp
        refine lv_aload_n hx hb dX10_otherwise_140 rfl (lv_at hl 0 rfl) ?_
        refine hm_getr X hw lk_10_16 (gl_0 hG) (gf_0_1 hG) dX10_otherwise_141 ?_
        refine hm_geti X hw lk_10_150 (gl_10 hG) dX10_otherwise_144 ?_
        refine hm_calli hw (hm_runV (rest := [_]) EvC_cl X hw (cJud_isWon EvC_cl hG h) yk_X2_isWon kw1094 rfl (gl_23 hG) rfl hl.1 rfl rfl rfl (Nat.le_of_ble_eq_true rfl) ⟨Nat.le_trans (Nat.le_of_ble_eq_true rfl) hR.1, Nat.le_trans (Nat.le_of_ble_eq_true rfl) hR.2⟩ ⟨Nat.le_trans (Nat.le_of_ble_eq_true rfl) hRc.1, Nat.le_trans (Nat.le_of_ble_eq_true rfl) hRc.2⟩ dX10_otherwise_147) (fun a19 u20 H locs hp hw => ?_)
        obtain ⟨rfl, h⟩ := hp
        refine lv_if_eq (tgt := 157) hx hb dX10_otherwise_150 (by decide) (fun hc => ?_) (fun hc => ?_)
        · have h := Eq.mp (if_pos hc) h
          refine lv_iconst (v := 0) hx hb dX10_otherwise_157 (by decide) ?_
          refine lv_iadd hx hb dX10_otherwise_158 ?_
          refine lv_istore_n (lv' := [(3, _), (0, _), (4, _)]) hx hb dX10_otherwise_159 rfl hl (by decide) rfl (fun ls hl => ?_)
          refine lv_iinc (v := x4 + 1) (lv' := [(4, _), (3, _), (0, _)]) hx hb dX10_otherwise_160 hl (k := 2) rfl rfl (by decide) rfl (fun ls hl => ?_)
          refine lv_goto (tgt := 54) hx hb dX10_otherwise_163 (by decide) ?_
          exact ih _ _ _ h hw (lv_sub hl [2, 1, 0] rfl)
        · have h := Eq.mp (if_neg hc) h
          refine lv_iconst (v := 1) hx hb dX10_otherwise_153 (by decide) ?_
          refine lv_goto (tgt := 158) hx hb dX10_otherwise_154 (by decide) ?_
          refine lv_iadd hx hb dX10_otherwise_158 ?_
          refine lv_istore_n (lv' := [(3, _), (0, _), (4, _)]) hx hb dX10_otherwise_159 rfl hl (by decide) rfl (fun ls hl => ?_)
          refine lv_iinc (v := x4 + 1) (lv' := [(4, _), (3, _), (0, _)]) hx hb dX10_otherwise_160 hl (k := 2) rfl rfl (by decide) rfl (fun ls hl => ?_)
          refine lv_goto (tgt := 54) hx hb dX10_otherwise_163 (by decide) ?_
          exact ih _ _ _ h hw (lv_sub hl [2, 1, 0] rfl)

theorem cH_otherwise {l : Launch} {D : va_G} {cA : Nat → ClassId} {z sz : Nat} {I : HI} {T : HR} {F : HR} {L : HL} {x1 : Int32} {x2 : Int32} {Q : Int32 → HI → HR → Prop} {Xc : HI → HR → Prop} (hlt : l.stackTraces = false) (hG : Geo F L) (h : H_otherwise I T F L x1 x2 Q Xc) : vx_Met l yX10_otherwise (hws0 yX10_otherwise cX10_otherwise 5 (some .int)) { frames := 8, cells := 2, slots := 12, locals := 141 } (hPc D cA z EvC (I, J, T, F, L) sz [.ref (z + 0), .int x1, .int x2]) (va_Qi (pIT J F L Q) (hB D cA z (hA z L sz)) (hA z L sz)) (vx_X (pITv J F L Xc) (pX "java/util/NoSuchElementException" D cA z (hA z L sz)) (hA z L sz)) 2 12 (hA z L sz) := by
  refine hm_xmet (I, J, T, F, L) [.ref (z + 0), .int x1, .int x2] rfl (by decide) (Nat.le_of_ble_eq_true rfl) ?_
  intro p e s m below meth c ls X hr hlk hnm hxt hsz hw hl
  have hl : lv_has ls 5 [(0, .ref (z + 0)), (1, .int x1), (2, .int x2)] := hl
  have hR : 8 ≤ ({ frames := 8, cells := 2, slots := 12, locals := 141 } : Room).frames ∧ 141 ≤ ({ frames := 8, cells := 2, slots := 12, locals := 141 } : Room).locals := ⟨Nat.le_refl _, Nat.le_refl _⟩
  have hRc : 2 ≤ ({ frames := 8, cells := 2, slots := 12, locals := 141 } : Room).cells ∧ 12 ≤ ({ frames := 8, cells := 2, slots := 12, locals := 141 } : Room).slots := ⟨Nat.le_refl _, Nat.le_refl _⟩
  generalize ({ frames := 8, cells := 2, slots := 12, locals := 141 } : Room) = R at hR hRc ⊢
  clear hsz
  generalize (hA z L sz) = A at hw ⊢
  have hx := X.1
  have hb := X.2.1
  unfold H_otherwise at h
  refine lv_aload_n hx hb dX10_otherwise_0 rfl (lv_at hl 0 rfl) ?_
  refine lv_iload_n hx hb dX10_otherwise_1 rfl (lv_at hl 1 rfl) ?_
  refine hm_xcallv hw (hm_xrunV (rest := []) EvC_cl X hw (cH_needWearer hlt hG h) yk_X10_needWearer kw843 rfl (gl_0 hG) rfl hl.1 rfl rfl rfl (Nat.le_of_ble_eq_true rfl) ⟨Nat.le_trans (Nat.le_of_ble_eq_true rfl) hR.1, Nat.le_trans (Nat.le_of_ble_eq_true rfl) hR.2⟩ ⟨Nat.le_trans (Nat.le_of_ble_eq_true rfl) hRc.1, Nat.le_trans (Nat.le_of_ble_eq_true rfl) hRc.2⟩ dX10_otherwise_2) (fun ce q9 u1 H locs hp hw hq hv hcl => ?_) (fun u1 H locs hp hw => ?_)
  · obtain ⟨rfl, h⟩ := hp
    exact hm_xout hxt hlk hw ⟨_, _, rfl, h⟩ hq hv hcl (Nat.le_of_ble_eq_true rfl) (Nat.le_of_ble_eq_true rfl)
  obtain ⟨rfl, h⟩ := hp
  refine lv_aload_n hx hb dX10_otherwise_5 rfl (lv_at hl 0 rfl) ?_
  refine lv_iload_n hx hb dX10_otherwise_6 rfl (lv_at hl 2 rfl) ?_
  refine hm_xcallv hw (hm_xrunV (rest := []) EvC_cl X hw (cH_needWearer hlt hG h) yk_X10_needWearer kw843 rfl (gl_0 hG) rfl hl.1 rfl rfl rfl (Nat.le_of_ble_eq_true rfl) ⟨Nat.le_trans (Nat.le_of_ble_eq_true rfl) hR.1, Nat.le_trans (Nat.le_of_ble_eq_true rfl) hR.2⟩ ⟨Nat.le_trans (Nat.le_of_ble_eq_true rfl) hRc.1, Nat.le_trans (Nat.le_of_ble_eq_true rfl) hRc.2⟩ dX10_otherwise_7) (fun ce q9 u2 H locs hp hw hq hv hcl => ?_) (fun u2 H locs hp hw => ?_)
  · obtain ⟨rfl, h⟩ := hp
    exact hm_xout hxt hlk hw ⟨_, _, rfl, h⟩ hq hv hcl (Nat.le_of_ble_eq_true rfl) (Nat.le_of_ble_eq_true rfl)
  obtain ⟨rfl, h⟩ := hp
  refine lv_iload_n hx hb dX10_otherwise_10 rfl (lv_at hl 1 rfl) ?_
  refine lv_iload_n hx hb dX10_otherwise_11 rfl (lv_at hl 2 rfl) ?_
  refine lv_icmp_ne (tgt := 17) hx hb dX10_otherwise_12 (by decide) (fun hc => ?_) (fun hc => ?_)
  · have h := Eq.mp (if_neg hc) h
    refine lv_aload_n hx hb dX10_otherwise_17 rfl (lv_at hl 0 rfl) ?_
    refine hm_getr X hw lk_10_16 (gl_0 hG) (gf_0_1 hG) dX10_otherwise_18 ?_
    refine lv_aload_n hx hb dX10_otherwise_21 rfl (lv_at hl 0 rfl) ?_
    refine hm_getr X hw lk_10_10 (gl_0 hG) (gf_0_0 hG) dX10_otherwise_22 ?_
    refine hm_callv hw (hm_runV (rest := []) EvC_cl X hw (cNet_copy EvC_cl (geo_trial hG) (geo_net hG) h) yk_X5_copy kw826 rfl (gl_10 hG) rfl hl.1 rfl rfl rfl (Nat.le_of_ble_eq_true rfl) ⟨Nat.le_trans (Nat.le_of_ble_eq_true rfl) hR.1, Nat.le_trans (Nat.le_of_ble_eq_true rfl) hR.2⟩ ⟨Nat.le_trans (Nat.le_of_ble_eq_true rfl) hRc.1, Nat.le_trans (Nat.le_of_ble_eq_true rfl) hRc.2⟩ dX10_otherwise_25) (fun u5 H locs hp hw => ?_)
    obtain ⟨I3, T4, rfl, h⟩ := hp
    refine lv_aload_n hx hb dX10_otherwise_28 rfl (lv_at hl 0 rfl) ?_
    refine hm_getr X hw lk_10_16 (gl_0 hG) (gf_0_1 hG) dX10_otherwise_29 ?_
    refine lv_iload_n hx hb dX10_otherwise_32 rfl (lv_at hl 1 rfl) ?_
    refine lv_aload_n hx hb dX10_otherwise_33 rfl (lv_at hl 0 rfl) ?_
    refine hm_getr X hw lk_10_16 (gl_0 hG) (gf_0_1 hG) dX10_otherwise_34 ?_
    refine hm_getr X hw lk_10_171 (gl_10 hG) (gf_10_3 hG) dX10_otherwise_37 ?_
    refine lv_iload_n hx hb dX10_otherwise_40 rfl (lv_at hl 1 rfl) ?_
    obtain ⟨hi, h⟩ := h
    refine hm_iald X hw (gl_11 hG) hi dX10_otherwise_41 ?_
    refine lv_iconst (v := 1) hx hb dX10_otherwise_42 (by decide) ?_
    refine lv_iload_n hx hb dX10_otherwise_43 rfl (lv_at hl 2 rfl) ?_
    refine lv_ishl hx hb dX10_otherwise_44 ?_
    refine lv_ixor hx hb dX10_otherwise_45 ?_
    refine hm_callv hw (hm_runV (rest := []) EvC_cl X hw (cNet_lookAt EvC_cl (geo_trial hG) h) yk_X5_lookAt kw849 rfl (gl_10 hG) rfl hl.1 rfl rfl rfl (Nat.le_of_ble_eq_true rfl) ⟨Nat.le_trans (Nat.le_of_ble_eq_true rfl) hR.1, Nat.le_trans (Nat.le_of_ble_eq_true rfl) hR.2⟩ ⟨Nat.le_trans (Nat.le_of_ble_eq_true rfl) hRc.1, Nat.le_trans (Nat.le_of_ble_eq_true rfl) hRc.2⟩ dX10_otherwise_46) (fun u7 H locs hp hw => ?_)
    obtain ⟨I6, rfl, h⟩ := hp
    refine lv_iconst (v := 0) hx hb dX10_otherwise_49 (by decide) ?_
    refine lv_istore_n (lv' := [(3, _), (0, _), (1, _), (2, _)]) hx hb dX10_otherwise_50 rfl hl (by decide) rfl (fun ls hl => ?_)
    refine lv_iconst (v := 0) hx hb dX10_otherwise_51 (by decide) ?_
    refine lv_istore (lv' := [(4, _), (3, _), (0, _), (1, _), (2, _)]) hx hb dX10_otherwise_52 hl (by decide) rfl (fun ls hl => ?_)
    obtain ⟨n2, h⟩ := h
    exact wkH_otherwise_l54 X hr hlk hR hRc hlt hxt hG  n2 _ _ _ h hw (lv_sub hl [2, 1, 0] rfl)
  · have h := Eq.mp (if_pos hc) h
    refine lv_iconst (v := (-1)) hx hb dX10_otherwise_15 (by decide) ?_
    refine vx_ret ?_
    exact hm_iret X hr hlk hw ⟨_, _, rfl, h⟩ dX10_otherwise_16

theorem wkH_needTablesAtOnce_b38 {I : HI} {T : HR} {F : HR} {L : HL} {Q : Prop} {Xc : Prop} (X : hX p m c s args RX10 cX10_needTablesAtOnce 2) (hr : meth.sig.returnType = none) (hlk : meth.locks = false) (hR : 7 ≤ R.frames ∧ 120 ≤ R.locals) (hRc : 1 ≤ R.cells ∧ 6 ≤ R.slots) (hlt : l.stackTraces = false) (hxt : c.exceptionTable.isEmpty = true) (hG : Geo F L)  : ∀ {ls : Array Slot} {H : Heap} {locs : List Loc}, H_needTablesAtOnce_b38 I Q Xc → hW D cA z EvC (I, J, T, F, L) A s H locs → lv_has ls 2 [] → W p l e R s m args below meth c H locs 0 0 (vx_MQ below (va_Qv (p0v (I, J, T, F, L) Q) (hB D cA z A) A) (vx_X (p0v (I, J, T, F, L) Xc) (pX "java/lang/IllegalArgumentException" D cA z A) A) args s 1 6 A) (F0 m 38 ls []) := by
  have hx := X.1
  have hb := X.2.1
  intro ls H locs h hw hl
  unfold H_needTablesAtOnce_b38 at h
  exact hm_thrIW (is := 367) (text := "not all guess in round 0 with tables") hlt X hxt hlk hw (by decide) ⟨rfl, h⟩ hl.1 dX10_needTablesAtOnce_38 dX10_needTablesAtOnce_41 dX10_needTablesAtOnce_42 dX10_needTablesAtOnce_45 dX10_needTablesAtOnce_48 ⟨Nat.le_trans (Nat.le_of_ble_eq_true rfl) hR.1, Nat.le_trans (Nat.le_of_ble_eq_true rfl) hR.2⟩ (Nat.le_trans (Nat.le_of_ble_eq_true rfl) hRc.1) (Nat.le_trans (Nat.le_of_ble_eq_true rfl) hRc.2) (Nat.le_of_ble_eq_true rfl) (Nat.le_of_ble_eq_true rfl)

theorem wkH_needTablesAtOnce_l2 {I : HI} {T : HR} {F : HR} {L : HL} {Q : Prop} {Xc : Prop} (X : hX p m c s args RX10 cX10_needTablesAtOnce 2) (hr : meth.sig.returnType = none) (hlk : meth.locks = false) (hR : 7 ≤ R.frames ∧ 120 ≤ R.locals) (hRc : 1 ≤ R.cells ∧ 6 ≤ R.slots) (hlt : l.stackTraces = false) (hxt : c.exceptionTable.isEmpty = true) (hG : Geo F L)  : ∀ (n : Nat) (x1 : Int32) {ls : Array Slot} {H : Heap} {locs : List Loc}, H_needTablesAtOnce_l2 I Q Xc n x1 → hW D cA z EvC (I, J, T, F, L) A s H locs → lv_has ls 2 [(0, .ref (z + 0)), (1, .int x1)] → W p l e R s m args below meth c H locs 0 0 (vx_MQ below (va_Qv (p0v (I, J, T, F, L) Q) (hB D cA z A) A) (vx_X (p0v (I, J, T, F, L) Xc) (pX "java/lang/IllegalArgumentException" D cA z A) A) args s 1 6 A) (F0 m 2 ls []) := by
  have hx := X.1
  have hb := X.2.1
  intro n
  induction n with
  | zero => intro x1 ls H locs h; exact False.elim h
  | succ n ih =>
    intro x1 ls H locs h hw hl
    rw [H_needTablesAtOnce_l2] at h
    refine lv_iload_n hx hb dX10_needTablesAtOnce_2 rfl (lv_at hl 1 rfl) ?_
    refine lv_aload_n hx hb dX10_needTablesAtOnce_3 rfl (lv_at hl 0 rfl) ?_
    refine hm_getr X hw lk_10_10 (gl_0 hG) (gf_0_0 hG) dX10_needTablesAtOnce_4 ?_
    refine hm_geti X hw lk_10_150 (gl_1 hG) dX10_needTablesAtOnce_7 ?_
    refine lv_icmp_ge (tgt := 55) hx hb dX10_needTablesAtOnce_10 (by decide) (fun hc => ?_) (fun hc => ?_)
    · have h := Eq.mp (if_pos hc) h
      refine vx_ret ?_
      refine W.widen (k := 1) (n := 6) (Nat.le_of_ble_eq_true rfl) (Nat.le_of_ble_eq_true rfl) ?_
      exact hm_vret X hr hlk hw ⟨rfl, h⟩ dX10_needTablesAtOnce_55
    · have h := Eq.mp (if_neg hc) h
      refine lv_aload_n hx hb dX10_needTablesAtOnce_13 rfl (lv_at hl 0 rfl) ?_
      refine hm_getr X hw lk_10_10 (gl_0 hG) (gf_0_0 hG) dX10_needTablesAtOnce_14 ?_
      refine hm_getr X hw lk_10_174 (gl_1 hG) (gf_1_4 hG) dX10_needTablesAtOnce_17 ?_
      refine lv_iload_n hx hb dX10_needTablesAtOnce_20 rfl (lv_at hl 1 rfl) ?_
      obtain ⟨hi, h⟩ := h
      refine hm_iald X hw (gl_3 hG) hi dX10_needTablesAtOnce_21 ?_
      refine lv_if_ne (tgt := 38) hx hb dX10_needTablesAtOnce_22 (by decide) (fun hc => ?_) (fun hc => ?_)
      · have h := Eq.mp (if_neg hc) h
        exact wkH_needTablesAtOnce_b38 X hr hlk hR hRc hlt hxt hG  h hw (lv_sub hl [] rfl)
      · have h := Eq.mp (if_pos hc) h
        refine lv_aload_n hx hb dX10_needTablesAtOnce_25 rfl (lv_at hl 0 rfl) ?_
        refine hm_getr X hw lk_10_10 (gl_0 hG) (gf_0_0 hG) dX10_needTablesAtOnce_26 ?_
        refine hm_getr X hw lk_10_180 (gl_1 hG) (gf_1_6 hG) dX10_needTablesAtOnce_29 ?_
        refine lv_iload_n hx hb dX10_needTablesAtOnce_32 rfl (lv_at hl 1 rfl) ?_
        obtain ⟨hi, h⟩ := h
        refine hm_iald X hw (gl_5 hG) hi dX10_needTablesAtOnce_33 ?_
        refine lv_iconst (v := (-1)) hx hb dX10_needTablesAtOnce_34 (by decide) ?_
        refine lv_icmp_ne (tgt := 49) hx hb dX10_needTablesAtOnce_35 (by decide) (fun hc => ?_) (fun hc => ?_)
        · have h := Eq.mp (if_neg hc) h
          refine lv_iinc (v := x1 + 1) (lv' := [(1, _), (0, _)]) hx hb dX10_needTablesAtOnce_49 hl (k := 1) rfl rfl (by decide) rfl (fun ls hl => ?_)
          refine lv_goto (tgt := 2) hx hb dX10_needTablesAtOnce_52 (by decide) ?_
          exact ih _ h hw (lv_sub hl [1, 0] rfl)
        · have h := Eq.mp (if_pos hc) h
          exact wkH_needTablesAtOnce_b38 X hr hlk hR hRc hlt hxt hG  h hw (lv_sub hl [] rfl)

theorem cH_needTablesAtOnce {l : Launch} {D : va_G} {cA : Nat → ClassId} {z sz : Nat} {I : HI} {T : HR} {F : HR} {L : HL}  {Q : Prop} {Xc : Prop} (hlt : l.stackTraces = false) (hG : Geo F L) (h : H_needTablesAtOnce I  Q Xc) : vx_Met l yX10_needTablesAtOnce (hws0 yX10_needTablesAtOnce cX10_needTablesAtOnce 2 none) { frames := 7, cells := 1, slots := 6, locals := 120 } (hPc D cA z EvC (I, J, T, F, L) sz [.ref (z + 0)]) (va_Qv (p0v (I, J, T, F, L) Q) (hB D cA z (hA z L sz)) (hA z L sz)) (vx_X (p0v (I, J, T, F, L) Xc) (pX "java/lang/IllegalArgumentException" D cA z (hA z L sz)) (hA z L sz)) 1 6 (hA z L sz) := by
  refine hm_xmet (I, J, T, F, L) [.ref (z + 0)] rfl (by decide) (Nat.le_of_ble_eq_true rfl) ?_
  intro p e s m below meth c ls X hr hlk hnm hxt hsz hw hl
  have hl : lv_has ls 2 [(0, .ref (z + 0))] := hl
  have hR : 7 ≤ ({ frames := 7, cells := 1, slots := 6, locals := 120 } : Room).frames ∧ 120 ≤ ({ frames := 7, cells := 1, slots := 6, locals := 120 } : Room).locals := ⟨Nat.le_refl _, Nat.le_refl _⟩
  have hRc : 1 ≤ ({ frames := 7, cells := 1, slots := 6, locals := 120 } : Room).cells ∧ 6 ≤ ({ frames := 7, cells := 1, slots := 6, locals := 120 } : Room).slots := ⟨Nat.le_refl _, Nat.le_refl _⟩
  generalize ({ frames := 7, cells := 1, slots := 6, locals := 120 } : Room) = R at hR hRc ⊢
  clear hsz
  generalize (hA z L sz) = A at hw ⊢
  have hx := X.1
  have hb := X.2.1
  unfold H_needTablesAtOnce at h
  refine lv_iconst (v := 0) hx hb dX10_needTablesAtOnce_0 (by decide) ?_
  refine lv_istore_n (lv' := [(1, _), (0, _)]) hx hb dX10_needTablesAtOnce_1 rfl hl (by decide) rfl (fun ls hl => ?_)
  obtain ⟨n2, h⟩ := h
  exact wkH_needTablesAtOnce_l2 X hr hlk hR hRc hlt hxt hG  n2 _ h hw (lv_sub hl [1, 0] rfl)

theorem wkH_search_b11 {I : HI} {T : HR} {F : HR} {L : HL} {Q : Int32 → HI → HR → Prop} {Xc : HI → HR → Prop} (X : hX p m c s args RX10 cX10_search 3) (hr : meth.sig.returnType = (some .int)) (hlk : meth.locks = false) (hR : 8 ≤ R.frames ∧ 141 ≤ R.locals) (hRc : 1 ≤ R.cells ∧ 6 ≤ R.slots) (hlt : l.stackTraces = false) (hxt : c.exceptionTable.isEmpty = true) (hG : Geo F L)  : ∀ {ls : Array Slot} {H : Heap} {locs : List Loc}, H_search_b11 I T L Q Xc → hW D cA z EvC (I, J, T, F, L) A s H locs → lv_has ls 3 [] → W p l e R s m args below meth c H locs 0 0 (vx_MQ below (va_Qi (pIT J F L Q) (hB D cA z A) A) (vx_X (pITv J F L Xc) (pX "java/lang/IllegalArgumentException" D cA z A) A) args s 1 6 A) (F0 m 11 ls []) := by
  have hx := X.1
  have hb := X.2.1
  intro ls H locs h hw hl
  unfold H_search_b11 at h
  exact hm_thrIW (is := 300) (text := "steps must be 0 to 5000") hlt X hxt hlk hw (by decide) ⟨_, _, rfl, h⟩ hl.1 dX10_search_11 dX10_search_14 dX10_search_15 dX10_search_18 dX10_search_21 ⟨Nat.le_trans (Nat.le_of_ble_eq_true rfl) hR.1, Nat.le_trans (Nat.le_of_ble_eq_true rfl) hR.2⟩ (Nat.le_trans (Nat.le_of_ble_eq_true rfl) hRc.1) (Nat.le_trans (Nat.le_of_ble_eq_true rfl) hRc.2) (Nat.le_of_ble_eq_true rfl) (Nat.le_of_ble_eq_true rfl)

theorem cH_search {l : Launch} {D : va_G} {cA : Nat → ClassId} {z sz : Nat} {I : HI} {T : HR} {F : HR} {L : HL} {x1 : Int32} {Q : Int32 → HI → HR → Prop} {Xc : HI → HR → Prop} (hlt : l.stackTraces = false) (hG : Geo F L) (h : H_search I T L x1 Q Xc) : vx_Met l yX10_search (hws0 yX10_search cX10_search 3 (some .int)) { frames := 8, cells := 1, slots := 6, locals := 141 } (hPc D cA z EvC (I, J, T, F, L) sz [.ref (z + 0), .int x1]) (va_Qi (pIT J F L Q) (hB D cA z (hA z L sz)) (hA z L sz)) (vx_X (pITv J F L Xc) (pX "java/lang/IllegalArgumentException" D cA z (hA z L sz)) (hA z L sz)) 1 6 (hA z L sz) := by
  refine hm_xmet (I, J, T, F, L) [.ref (z + 0), .int x1] rfl (by decide) (Nat.le_of_ble_eq_true rfl) ?_
  intro p e s m below meth c ls X hr hlk hnm hxt hsz hw hl
  have hl : lv_has ls 3 [(0, .ref (z + 0)), (1, .int x1)] := hl
  have hR : 8 ≤ ({ frames := 8, cells := 1, slots := 6, locals := 141 } : Room).frames ∧ 141 ≤ ({ frames := 8, cells := 1, slots := 6, locals := 141 } : Room).locals := ⟨Nat.le_refl _, Nat.le_refl _⟩
  have hRc : 1 ≤ ({ frames := 8, cells := 1, slots := 6, locals := 141 } : Room).cells ∧ 6 ≤ ({ frames := 8, cells := 1, slots := 6, locals := 141 } : Room).slots := ⟨Nat.le_refl _, Nat.le_refl _⟩
  generalize ({ frames := 8, cells := 1, slots := 6, locals := 141 } : Room) = R at hR hRc ⊢
  clear hsz
  generalize (hA z L sz) = A at hw ⊢
  have hx := X.1
  have hb := X.2.1
  unfold H_search at h
  refine lv_iload_n hx hb dX10_search_0 rfl (lv_at hl 1 rfl) ?_
  refine lv_if_lt (tgt := 11) hx hb dX10_search_1 (by decide) (fun hc => ?_) (fun hc => ?_)
  · have h := Eq.mp (if_pos hc) h
    exact wkH_search_b11 X hr hlk hR hRc hlt hxt hG  h hw (lv_sub hl [] rfl)
  · have h := Eq.mp (if_neg hc) h
    refine lv_iload_n hx hb dX10_search_4 rfl (lv_at hl 1 rfl) ?_
    refine lv_sipush (v := 5000) hx hb dX10_search_5 (by decide) ?_
    refine lv_icmp_le (tgt := 22) hx hb dX10_search_8 (by decide) (fun hc => ?_) (fun hc => ?_)
    · have h := Eq.mp (if_pos hc) h
      refine lv_aload_n hx hb dX10_search_22 rfl (lv_at hl 0 rfl) ?_
      refine hm_xcallv hw (hm_xrunV (rest := []) EvC_cl X hw (cH_needTablesAtOnce hlt hG h) yk_X10_needTablesAtOnce kw1159 rfl (gl_0 hG) rfl hl.1 rfl rfl rfl (Nat.le_of_ble_eq_true rfl) ⟨Nat.le_trans (Nat.le_of_ble_eq_true rfl) hR.1, Nat.le_trans (Nat.le_of_ble_eq_true rfl) hR.2⟩ ⟨Nat.le_trans (Nat.le_of_ble_eq_true rfl) hRc.1, Nat.le_trans (Nat.le_of_ble_eq_true rfl) hRc.2⟩ dX10_search_23) (fun ce q9 u1 H locs hp hw hq hv hcl => ?_) (fun u1 H locs hp hw => ?_)
      · obtain ⟨rfl, h⟩ := hp
        exact hm_xout hxt hlk hw ⟨_, _, rfl, h⟩ hq hv hcl (Nat.le_of_ble_eq_true rfl) (Nat.le_of_ble_eq_true rfl)
      obtain ⟨rfl, h⟩ := hp
      refine lv_aload_n hx hb dX10_search_26 rfl (lv_at hl 0 rfl) ?_
      refine hm_getr X hw lk_10_62 (gl_0 hG) (gf_0_9 hG) dX10_search_27 ?_
      refine lv_aload_n hx hb dX10_search_30 rfl (lv_at hl 0 rfl) ?_
      refine hm_getr X hw lk_10_10 (gl_0 hG) (gf_0_0 hG) dX10_search_31 ?_
      refine lv_aload_n hx hb dX10_search_34 rfl (lv_at hl 0 rfl) ?_
      refine hm_getr X hw lk_10_26 (gl_0 hG) (gf_0_3 hG) dX10_search_35 ?_
      refine lv_iload_n hx hb dX10_search_38 rfl (lv_at hl 1 rfl) ?_
      refine hm_calli hw (hm_runV (rest := []) EvC_cl X hw (cSe_seek EvC_cl hG (geo_net hG) (geo_scene hG) h) yk_X8_seek kw1164 rfl (gl_35 hG) rfl hl.1 rfl rfl rfl (Nat.le_of_ble_eq_true rfl) ⟨Nat.le_trans (Nat.le_of_ble_eq_true rfl) hR.1, Nat.le_trans (Nat.le_of_ble_eq_true rfl) hR.2⟩ ⟨Nat.le_trans (Nat.le_of_ble_eq_true rfl) hRc.1, Nat.le_trans (Nat.le_of_ble_eq_true rfl) hRc.2⟩ dX10_search_39) (fun a2 u4 H locs hp hw => ?_)
      obtain ⟨I3, rfl, h⟩ := hp
      refine lv_istore_n (lv' := [(2, _), (0, _), (1, _)]) hx hb dX10_search_42 rfl hl (by decide) rfl (fun ls hl => ?_)
      refine lv_iload_n hx hb dX10_search_43 rfl (lv_at hl 0 rfl) ?_
      refine lv_iconst (v := 1) hx hb dX10_search_44 (by decide) ?_
      refine lv_icmp_ne (tgt := 66) hx hb dX10_search_45 (by decide) (fun hc => ?_) (fun hc => ?_)
      · have h := Eq.mp (if_neg hc) h
        refine lv_iload_n hx hb dX10_search_66 rfl (lv_at hl 0 rfl) ?_
        refine vx_ret ?_
        exact hm_iret X hr hlk hw ⟨_, _, rfl, h⟩ dX10_search_67
      · have h := Eq.mp (if_pos hc) h
        refine lv_aload_n hx hb dX10_search_48 rfl (lv_at hl 1 rfl) ?_
        refine hm_getr X hw lk_10_62 (gl_0 hG) (gf_0_9 hG) dX10_search_49 ?_
        refine lv_aload_n hx hb dX10_search_52 rfl (lv_at hl 1 rfl) ?_
        refine hm_getr X hw lk_10_10 (gl_0 hG) (gf_0_0 hG) dX10_search_53 ?_
        refine hm_callv hw (hm_runV (rest := []) EvC_cl X hw (cSe_settle EvC_cl hG (geo_net hG) h) yk_X8_settle kw1193 rfl (gl_35 hG) rfl hl.1 rfl rfl rfl (Nat.le_of_ble_eq_true rfl) ⟨Nat.le_trans (Nat.le_of_ble_eq_true rfl) hR.1, Nat.le_trans (Nat.le_of_ble_eq_true rfl) hR.2⟩ ⟨Nat.le_trans (Nat.le_of_ble_eq_true rfl) hRc.1, Nat.le_trans (Nat.le_of_ble_eq_true rfl) hRc.2⟩ dX10_search_56) (fun u7 H locs hp hw => ?_)
        obtain ⟨I5, T6, rfl, h⟩ := hp
        refine lv_aload_n hx hb dX10_search_59 rfl (lv_at hl 1 rfl) ?_
        refine hm_getr X hw lk_10_40 (gl_0 hG) (gf_0_5 hG) dX10_search_60 ?_
        refine hm_callv hw (hm_runV (rest := []) EvC_cl X hw (cLed_spoil EvC_cl hG h) yk_X3_spoil kw515 rfl (gl_26 hG) rfl hl.1 rfl rfl rfl (Nat.le_of_ble_eq_true rfl) ⟨Nat.le_trans (Nat.le_of_ble_eq_true rfl) hR.1, Nat.le_trans (Nat.le_of_ble_eq_true rfl) hR.2⟩ ⟨Nat.le_trans (Nat.le_of_ble_eq_true rfl) hRc.1, Nat.le_trans (Nat.le_of_ble_eq_true rfl) hRc.2⟩ dX10_search_63) (fun u9 H locs hp hw => ?_)
        obtain ⟨I8, rfl, h⟩ := hp
        refine lv_iload_n hx hb dX10_search_66 rfl (lv_at hl 0 rfl) ?_
        refine vx_ret ?_
        exact hm_iret X hr hlk hw ⟨_, _, rfl, h⟩ dX10_search_67
    · have h := Eq.mp (if_neg hc) h
      exact wkH_search_b11 X hr hlk hR hRc hlt hxt hG  h hw (lv_sub hl [] rfl)

theorem cH_sums {l : Launch} {D : va_G} {cA : Nat → ClassId} {z sz : Nat} {I : HI} {T : HR} {F : HR} {L : HL}  {Q : Int32 → HI → HR → Prop} {Xc : HI → HR → Prop} (hlt : l.stackTraces = false) (hG : Geo F L) (h : H_sums I T L  Q Xc) : vx_Met l yX10_sums (hws0 yX10_sums cX10_sums 2 (some .int)) { frames := 8, cells := 2, slots := 12, locals := 178 } (hPc D cA z EvC (I, J, T, F, L) sz [.ref (z + 0)]) (va_Qi (pIT J F L Q) (hB D cA z (hA z L sz)) (hA z L sz)) (vx_X (pITv J F L Xc) (pX "java/lang/IllegalArgumentException" D cA z (hA z L sz)) (hA z L sz)) 2 12 (hA z L sz) := by
  refine hm_xmet (I, J, T, F, L) [.ref (z + 0)] rfl (by decide) (Nat.le_of_ble_eq_true rfl) ?_
  intro p e s m below meth c ls X hr hlk hnm hxt hsz hw hl
  have hl : lv_has ls 2 [(0, .ref (z + 0))] := hl
  have hR : 8 ≤ ({ frames := 8, cells := 2, slots := 12, locals := 178 } : Room).frames ∧ 178 ≤ ({ frames := 8, cells := 2, slots := 12, locals := 178 } : Room).locals := ⟨Nat.le_refl _, Nat.le_refl _⟩
  have hRc : 2 ≤ ({ frames := 8, cells := 2, slots := 12, locals := 178 } : Room).cells ∧ 12 ≤ ({ frames := 8, cells := 2, slots := 12, locals := 178 } : Room).slots := ⟨Nat.le_refl _, Nat.le_refl _⟩
  generalize ({ frames := 8, cells := 2, slots := 12, locals := 178 } : Room) = R at hR hRc ⊢
  clear hsz
  generalize (hA z L sz) = A at hw ⊢
  have hx := X.1
  have hb := X.2.1
  unfold H_sums at h
  refine lv_aload_n hx hb dX10_sums_0 rfl (lv_at hl 0 rfl) ?_
  refine hm_xcallv hw (hm_xrunV (rest := []) EvC_cl X hw (cH_needTablesAtOnce hlt hG h) yk_X10_needTablesAtOnce kw1159 rfl (gl_0 hG) rfl hl.1 rfl rfl rfl (Nat.le_of_ble_eq_true rfl) ⟨Nat.le_trans (Nat.le_of_ble_eq_true rfl) hR.1, Nat.le_trans (Nat.le_of_ble_eq_true rfl) hR.2⟩ ⟨Nat.le_trans (Nat.le_of_ble_eq_true rfl) hRc.1, Nat.le_trans (Nat.le_of_ble_eq_true rfl) hRc.2⟩ dX10_sums_1) (fun ce q9 u1 H locs hp hw hq hv hcl => ?_) (fun u1 H locs hp hw => ?_)
  · obtain ⟨rfl, h⟩ := hp
    exact hm_xout hxt hlk hw ⟨_, _, rfl, h⟩ hq hv hcl (Nat.le_of_ble_eq_true rfl) (Nat.le_of_ble_eq_true rfl)
  obtain ⟨rfl, h⟩ := hp
  refine lv_aload_n hx hb dX10_sums_4 rfl (lv_at hl 0 rfl) ?_
  refine hm_getr X hw lk_10_10 (gl_0 hG) (gf_0_0 hG) dX10_sums_5 ?_
  refine hm_geti X hw lk_10_276 (gl_1 hG) dX10_sums_8 ?_
  refine lv_sipush (v := 256) hx hb dX10_sums_11 (by decide) ?_
  refine lv_icmp_le (tgt := 28) hx hb dX10_sums_14 (by decide) (fun hc => ?_) (fun hc => ?_)
  · have h := Eq.mp (if_pos hc) h
    refine lv_aload_n hx hb dX10_sums_28 rfl (lv_at hl 0 rfl) ?_
    refine hm_getr X hw lk_10_69 (gl_0 hG) (gf_0_10 hG) dX10_sums_29 ?_
    refine lv_aload_n hx hb dX10_sums_32 rfl (lv_at hl 0 rfl) ?_
    refine hm_getr X hw lk_10_10 (gl_0 hG) (gf_0_0 hG) dX10_sums_33 ?_
    refine lv_aload_n hx hb dX10_sums_36 rfl (lv_at hl 0 rfl) ?_
    refine hm_getr X hw lk_10_33 (gl_0 hG) (gf_0_4 hG) dX10_sums_37 ?_
    refine lv_aload_n hx hb dX10_sums_40 rfl (lv_at hl 0 rfl) ?_
    refine hm_getr X hw lk_10_26 (gl_0 hG) (gf_0_3 hG) dX10_sums_41 ?_
    refine hm_calli hw (hm_runV (rest := []) EvC_cl X hw (cSu_seek EvC_cl hG (geo_net hG) (geo_scene hG) h) yk_X9_seek kw1207 rfl (gl_39 hG) rfl hl.1 rfl rfl rfl (Nat.le_of_ble_eq_true rfl) ⟨Nat.le_trans (Nat.le_of_ble_eq_true rfl) hR.1, Nat.le_trans (Nat.le_of_ble_eq_true rfl) hR.2⟩ ⟨Nat.le_trans (Nat.le_of_ble_eq_true rfl) hRc.1, Nat.le_trans (Nat.le_of_ble_eq_true rfl) hRc.2⟩ dX10_sums_44) (fun a2 u4 H locs hp hw => ?_)
    obtain ⟨I3, rfl, h⟩ := hp
    refine lv_istore_n (lv' := [(1, _), (0, _)]) hx hb dX10_sums_47 rfl hl (by decide) rfl (fun ls hl => ?_)
    refine lv_aload_n hx hb dX10_sums_48 rfl (lv_at hl 1 rfl) ?_
    refine hm_getr X hw lk_10_69 (gl_0 hG) (gf_0_10 hG) dX10_sums_49 ?_
    refine lv_aload_n hx hb dX10_sums_52 rfl (lv_at hl 1 rfl) ?_
    refine hm_getr X hw lk_10_10 (gl_0 hG) (gf_0_0 hG) dX10_sums_53 ?_
    refine hm_callv hw (hm_runV (rest := []) EvC_cl X hw (cSu_settle EvC_cl hG (geo_net hG) h) yk_X9_settle kw1235 rfl (gl_39 hG) rfl hl.1 rfl rfl rfl (Nat.le_of_ble_eq_true rfl) ⟨Nat.le_trans (Nat.le_of_ble_eq_true rfl) hR.1, Nat.le_trans (Nat.le_of_ble_eq_true rfl) hR.2⟩ ⟨Nat.le_trans (Nat.le_of_ble_eq_true rfl) hRc.1, Nat.le_trans (Nat.le_of_ble_eq_true rfl) hRc.2⟩ dX10_sums_56) (fun u7 H locs hp hw => ?_)
    obtain ⟨I5, T6, rfl, h⟩ := hp
    refine lv_aload_n hx hb dX10_sums_59 rfl (lv_at hl 1 rfl) ?_
    refine hm_getr X hw lk_10_40 (gl_0 hG) (gf_0_5 hG) dX10_sums_60 ?_
    refine hm_callv hw (hm_runV (rest := []) EvC_cl X hw (cLed_spoil EvC_cl hG h) yk_X3_spoil kw515 rfl (gl_26 hG) rfl hl.1 rfl rfl rfl (Nat.le_of_ble_eq_true rfl) ⟨Nat.le_trans (Nat.le_of_ble_eq_true rfl) hR.1, Nat.le_trans (Nat.le_of_ble_eq_true rfl) hR.2⟩ ⟨Nat.le_trans (Nat.le_of_ble_eq_true rfl) hRc.1, Nat.le_trans (Nat.le_of_ble_eq_true rfl) hRc.2⟩ dX10_sums_63) (fun u9 H locs hp hw => ?_)
    obtain ⟨I8, rfl, h⟩ := hp
    refine lv_iload_n hx hb dX10_sums_66 rfl (lv_at hl 0 rfl) ?_
    refine vx_ret ?_
    refine W.widen (k := 2) (n := 12) (Nat.le_of_ble_eq_true rfl) (Nat.le_of_ble_eq_true rfl) ?_
    exact hm_iret X hr hlk hw ⟨_, _, rfl, h⟩ dX10_sums_67
  · have h := Eq.mp (if_neg hc) h
    exact hm_thrIW (is := 314) (text := "there are too many rows") hlt X hxt hlk hw (by decide) ⟨_, _, rfl, h⟩ hl.1 dX10_sums_17 dX10_sums_20 dX10_sums_21 dX10_sums_24 dX10_sums_27 ⟨Nat.le_trans (Nat.le_of_ble_eq_true rfl) hR.1, Nat.le_trans (Nat.le_of_ble_eq_true rfl) hR.2⟩ (Nat.le_trans (Nat.le_of_ble_eq_true rfl) hRc.1) (Nat.le_trans (Nat.le_of_ble_eq_true rfl) hRc.2) (Nat.le_of_ble_eq_true rfl) (Nat.le_of_ble_eq_true rfl)

theorem cH_constant {l : Launch} {D : va_G} {cA : Nat → ClassId} {z sz : Nat} {I : HI} {T : HR} {F : HR} {L : HL} {x1 : Int32} {Q : Int32 → Prop} {Xc : Prop} (hlt : l.stackTraces = false) (hG : Geo F L) (h : H_constant I x1 Q Xc) : vx_Met l yX10_constant (hws0 yX10_constant cX10_constant 2 (some .int)) { frames := 8, cells := 2, slots := 12, locals := 141 } (hPc D cA z EvC (I, J, T, F, L) sz [.ref (z + 0), .int x1]) (va_Qi (p0 (I, J, T, F, L) Q) (hB D cA z (hA z L sz)) (hA z L sz)) (vx_X (p0v (I, J, T, F, L) Xc) (pX "java/util/NoSuchElementException" D cA z (hA z L sz)) (hA z L sz)) 2 12 (hA z L sz) := by
  refine hm_xmet (I, J, T, F, L) [.ref (z + 0), .int x1] rfl (by decide) (Nat.le_of_ble_eq_true rfl) ?_
  intro p e s m below meth c ls X hr hlk hnm hxt hsz hw hl
  have hl : lv_has ls 2 [(0, .ref (z + 0)), (1, .int x1)] := hl
  have hR : 8 ≤ ({ frames := 8, cells := 2, slots := 12, locals := 141 } : Room).frames ∧ 141 ≤ ({ frames := 8, cells := 2, slots := 12, locals := 141 } : Room).locals := ⟨Nat.le_refl _, Nat.le_refl _⟩
  have hRc : 2 ≤ ({ frames := 8, cells := 2, slots := 12, locals := 141 } : Room).cells ∧ 12 ≤ ({ frames := 8, cells := 2, slots := 12, locals := 141 } : Room).slots := ⟨Nat.le_refl _, Nat.le_refl _⟩
  generalize ({ frames := 8, cells := 2, slots := 12, locals := 141 } : Room) = R at hR hRc ⊢
  clear hsz
  generalize (hA z L sz) = A at hw ⊢
  have hx := X.1
  have hb := X.2.1
  unfold H_constant at h
  refine lv_aload_n hx hb dX10_constant_0 rfl (lv_at hl 0 rfl) ?_
  refine lv_iload_n hx hb dX10_constant_1 rfl (lv_at hl 1 rfl) ?_
  refine hm_xcallv hw (hm_xrunV (rest := []) EvC_cl X hw (cH_needWearer hlt hG h) yk_X10_needWearer kw843 rfl (gl_0 hG) rfl hl.1 rfl rfl rfl (Nat.le_of_ble_eq_true rfl) ⟨Nat.le_trans (Nat.le_of_ble_eq_true rfl) hR.1, Nat.le_trans (Nat.le_of_ble_eq_true rfl) hR.2⟩ ⟨Nat.le_trans (Nat.le_of_ble_eq_true rfl) hRc.1, Nat.le_trans (Nat.le_of_ble_eq_true rfl) hRc.2⟩ dX10_constant_2) (fun ce q9 u1 H locs hp hw hq hv hcl => ?_) (fun u1 H locs hp hw => ?_)
  · obtain ⟨rfl, h⟩ := hp
    exact hm_xout hxt hlk hw ⟨rfl, h⟩ hq hv hcl (Nat.le_of_ble_eq_true rfl) (Nat.le_of_ble_eq_true rfl)
  obtain ⟨rfl, h⟩ := hp
  refine lv_iload_n hx hb dX10_constant_5 rfl (lv_at hl 1 rfl) ?_
  refine lv_aload_n hx hb dX10_constant_6 rfl (lv_at hl 0 rfl) ?_
  refine hm_getr X hw lk_10_69 (gl_0 hG) (gf_0_10 hG) dX10_constant_7 ?_
  refine hm_geti X hw lk_10_320 (gl_39 hG) dX10_constant_10 ?_
  refine lv_icmp_lt (tgt := 27) hx hb dX10_constant_13 (by decide) (fun hc => ?_) (fun hc => ?_)
  · have h := Eq.mp (if_pos hc) h
    refine lv_aload_n hx hb dX10_constant_27 rfl (lv_at hl 0 rfl) ?_
    refine hm_getr X hw lk_10_69 (gl_0 hG) (gf_0_10 hG) dX10_constant_28 ?_
    refine hm_getr X hw lk_10_325 (gl_39 hG) (gf_39_0 hG) dX10_constant_31 ?_
    refine lv_iload_n hx hb dX10_constant_34 rfl (lv_at hl 1 rfl) ?_
    obtain ⟨hi, h⟩ := h
    refine hm_iald X hw (gl_40 hG) hi dX10_constant_35 ?_
    refine vx_ret ?_
    refine W.widen (k := 2) (n := 12) (Nat.le_of_ble_eq_true rfl) (Nat.le_of_ble_eq_true rfl) ?_
    exact hm_iret X hr hlk hw ⟨rfl, h⟩ dX10_constant_36
  · have h := Eq.mp (if_neg hc) h
    exact hm_thrNW (is := 323) (text := "no constant of that wearer") hlt X hxt hlk hw (by decide) ⟨rfl, h⟩ hl.1 dX10_constant_16 dX10_constant_19 dX10_constant_20 dX10_constant_23 dX10_constant_26 ⟨Nat.le_trans (Nat.le_of_ble_eq_true rfl) hR.1, Nat.le_trans (Nat.le_of_ble_eq_true rfl) hR.2⟩ (Nat.le_trans (Nat.le_of_ble_eq_true rfl) hRc.1) (Nat.le_trans (Nat.le_of_ble_eq_true rfl) hRc.2) (Nat.le_of_ble_eq_true rfl) (Nat.le_of_ble_eq_true rfl)

theorem wkH_given_b15 {I : HI} {T : HR} {F : HR} {L : HL} {Q : Int32 → Prop} {Xc : Prop} (X : hX p m c s args RX10 cX10_given 2) (hr : meth.sig.returnType = (some .int)) (hlk : meth.locks = false) (hR : 7 ≤ R.frames ∧ 120 ≤ R.locals) (hRc : 1 ≤ R.cells ∧ 6 ≤ R.slots) (hlt : l.stackTraces = false) (hxt : c.exceptionTable.isEmpty = true) (hG : Geo F L)  : ∀ {ls : Array Slot} {H : Heap} {locs : List Loc}, H_given_b15 I Q Xc → hW D cA z EvC (I, J, T, F, L) A s H locs → lv_has ls 2 [] → W p l e R s m args below meth c H locs 0 0 (vx_MQ below (va_Qi (p0 (I, J, T, F, L) Q) (hB D cA z A) A) (vx_X (p0v (I, J, T, F, L) Xc) (pX "java/util/NoSuchElementException" D cA z A) A) args s 1 6 A) (F0 m 15 ls []) := by
  have hx := X.1
  have hb := X.2.1
  intro ls H locs h hw hl
  unfold H_given_b15 at h
  exact hm_thrNW (is := 334) (text := "no such row is given up") hlt X hxt hlk hw (by decide) ⟨rfl, h⟩ hl.1 dX10_given_15 dX10_given_18 dX10_given_19 dX10_given_22 dX10_given_25 ⟨Nat.le_trans (Nat.le_of_ble_eq_true rfl) hR.1, Nat.le_trans (Nat.le_of_ble_eq_true rfl) hR.2⟩ (Nat.le_trans (Nat.le_of_ble_eq_true rfl) hRc.1) (Nat.le_trans (Nat.le_of_ble_eq_true rfl) hRc.2) (Nat.le_of_ble_eq_true rfl) (Nat.le_of_ble_eq_true rfl)

theorem cH_given {l : Launch} {D : va_G} {cA : Nat → ClassId} {z sz : Nat} {I : HI} {T : HR} {F : HR} {L : HL} {x1 : Int32} {Q : Int32 → Prop} {Xc : Prop} (hlt : l.stackTraces = false) (hG : Geo F L) (h : H_given I x1 Q Xc) : vx_Met l yX10_given (hws0 yX10_given cX10_given 2 (some .int)) { frames := 7, cells := 1, slots := 6, locals := 120 } (hPc D cA z EvC (I, J, T, F, L) sz [.ref (z + 0), .int x1]) (va_Qi (p0 (I, J, T, F, L) Q) (hB D cA z (hA z L sz)) (hA z L sz)) (vx_X (p0v (I, J, T, F, L) Xc) (pX "java/util/NoSuchElementException" D cA z (hA z L sz)) (hA z L sz)) 1 6 (hA z L sz) := by
  refine hm_xmet (I, J, T, F, L) [.ref (z + 0), .int x1] rfl (by decide) (Nat.le_of_ble_eq_true rfl) ?_
  intro p e s m below meth c ls X hr hlk hnm hxt hsz hw hl
  have hl : lv_has ls 2 [(0, .ref (z + 0)), (1, .int x1)] := hl
  have hR : 7 ≤ ({ frames := 7, cells := 1, slots := 6, locals := 120 } : Room).frames ∧ 120 ≤ ({ frames := 7, cells := 1, slots := 6, locals := 120 } : Room).locals := ⟨Nat.le_refl _, Nat.le_refl _⟩
  have hRc : 1 ≤ ({ frames := 7, cells := 1, slots := 6, locals := 120 } : Room).cells ∧ 6 ≤ ({ frames := 7, cells := 1, slots := 6, locals := 120 } : Room).slots := ⟨Nat.le_refl _, Nat.le_refl _⟩
  generalize ({ frames := 7, cells := 1, slots := 6, locals := 120 } : Room) = R at hR hRc ⊢
  clear hsz
  generalize (hA z L sz) = A at hw ⊢
  have hx := X.1
  have hb := X.2.1
  unfold H_given at h
  refine lv_iload_n hx hb dX10_given_0 rfl (lv_at hl 1 rfl) ?_
  refine lv_if_lt (tgt := 15) hx hb dX10_given_1 (by decide) (fun hc => ?_) (fun hc => ?_)
  · have h := Eq.mp (if_pos hc) h
    exact wkH_given_b15 X hr hlk hR hRc hlt hxt hG  h hw (lv_sub hl [] rfl)
  · have h := Eq.mp (if_neg hc) h
    refine lv_iload_n hx hb dX10_given_4 rfl (lv_at hl 1 rfl) ?_
    refine lv_aload_n hx hb dX10_given_5 rfl (lv_at hl 0 rfl) ?_
    refine hm_getr X hw lk_10_76 (gl_0 hG) (gf_0_11 hG) dX10_given_6 ?_
    refine hm_geti X hw lk_10_331 (gl_44 hG) dX10_given_9 ?_
    refine lv_icmp_lt (tgt := 26) hx hb dX10_given_12 (by decide) (fun hc => ?_) (fun hc => ?_)
    · have h := Eq.mp (if_pos hc) h
      refine lv_aload_n hx hb dX10_given_26 rfl (lv_at hl 0 rfl) ?_
      refine hm_getr X hw lk_10_76 (gl_0 hG) (gf_0_11 hG) dX10_given_27 ?_
      refine hm_getr X hw lk_10_336 (gl_44 hG) (gf_44_1 hG) dX10_given_30 ?_
      refine lv_iload_n hx hb dX10_given_33 rfl (lv_at hl 1 rfl) ?_
      obtain ⟨hi, h⟩ := h
      refine hm_iald X hw (gl_45 hG) hi dX10_given_34 ?_
      refine vx_ret ?_
      refine W.widen (k := 1) (n := 6) (Nat.le_of_ble_eq_true rfl) (Nat.le_of_ble_eq_true rfl) ?_
      exact hm_iret X hr hlk hw ⟨rfl, h⟩ dX10_given_35
    · have h := Eq.mp (if_neg hc) h
      exact wkH_given_b15 X hr hlk hR hRc hlt hxt hG  h hw (lv_sub hl [] rfl)

theorem wkH_mend_b10 {I : HI} {T : HR} {F : HR} {L : HL} {Q : Int32 → HI → Prop} {Xc : HI → Prop} (X : hX p m c s args RX10 cX10_mend 3) (hr : meth.sig.returnType = (some .int)) (hlk : meth.locks = false) (hR : 7 ≤ R.frames ∧ 172 ≤ R.locals) (hRc : 1 ≤ R.cells ∧ 6 ≤ R.slots) (hlt : l.stackTraces = false) (hxt : c.exceptionTable.isEmpty = true) (hG : Geo F L)  : ∀ {ls : Array Slot} {H : Heap} {locs : List Loc}, H_mend_b10 I T F L Q Xc → hW D cA z EvC (I, J, T, F, L) A s H locs → lv_has ls 3 [] → W p l e R s m args below meth c H locs 0 0 (vx_MQ below (va_Qi (pI J T F L Q) (hB D cA z A) A) (vx_X (pIv J T F L Xc) (pX "java/lang/IllegalArgumentException" D cA z A) A) args s 1 6 A) (F0 m 10 ls []) := by
  have hx := X.1
  have hb := X.2.1
  intro ls H locs h hw hl
  unfold H_mend_b10 at h
  exact hm_thrIW (is := 346) (text := "most must be 0 to 20") hlt X hxt hlk hw (by decide) ⟨_, rfl, h⟩ hl.1 dX10_mend_10 dX10_mend_13 dX10_mend_14 dX10_mend_17 dX10_mend_20 ⟨Nat.le_trans (Nat.le_of_ble_eq_true rfl) hR.1, Nat.le_trans (Nat.le_of_ble_eq_true rfl) hR.2⟩ (Nat.le_trans (Nat.le_of_ble_eq_true rfl) hRc.1) (Nat.le_trans (Nat.le_of_ble_eq_true rfl) hRc.2) (Nat.le_of_ble_eq_true rfl) (Nat.le_of_ble_eq_true rfl)

theorem wkH_mend_l51 {T : HR} {F : HR} {L : HL} {x1 : Int32} {Q : Int32 → HI → Prop} {Xc : HI → Prop} (X : hX p m c s args RX10 cX10_mend 3) (hr : meth.sig.returnType = (some .int)) (hlk : meth.locks = false) (hR : 7 ≤ R.frames ∧ 172 ≤ R.locals) (hRc : 1 ≤ R.cells ∧ 6 ≤ R.slots) (hlt : l.stackTraces = false) (hxt : c.exceptionTable.isEmpty = true) (hG : Geo F L)  : ∀ (n : Nat) (I : HI) (x2 : Int32) {ls : Array Slot} {H : Heap} {locs : List Loc}, H_mend_l51 T F L x1 Q Xc n I x2 → hW D cA z EvC (I, J, T, F, L) A s H locs → lv_has ls 3 [(0, .ref (z + 0)), (1, .int x1), (2, .int x2)] → W p l e R s m args below meth c H locs 0 0 (vx_MQ below (va_Qi (pI J T F L Q) (hB D cA z A) A) (vx_X (pIv J T F L Xc) (pX "java/lang/IllegalArgumentException" D cA z A) A) args s 1 6 A) (F0 m 51 ls []) := by
  have hx := X.1
  have hb := X.2.1
  intro n
  induction n with
  | zero => intro I x2 ls H locs h; exact False.elim h
  | succ n ih =>
    intro I x2 ls H locs h hw hl
    rw [H_mend_l51] at h
    refine lv_iload_n hx hb dX10_mend_51 rfl (lv_at hl 2 rfl) ?_
    refine lv_iload_n hx hb dX10_mend_52 rfl (lv_at hl 1 rfl) ?_
    refine lv_icmp_ge (tgt := 80) hx hb dX10_mend_53 (by decide) (fun hc => ?_) (fun hc => ?_)
    · have h := Eq.mp (if_pos hc) h
      refine lv_aload_n hx hb dX10_mend_80 rfl (lv_at hl 0 rfl) ?_
      refine hm_getr X hw lk_10_40 (gl_0 hG) (gf_0_5 hG) dX10_mend_81 ?_
      refine hm_callv hw (hm_runV (rest := []) EvC_cl X hw (cLed_spoil EvC_cl hG h) yk_X3_spoil kw515 rfl (gl_26 hG) rfl hl.1 rfl rfl rfl (Nat.le_of_ble_eq_true rfl) ⟨Nat.le_trans (Nat.le_of_ble_eq_true rfl) hR.1, Nat.le_trans (Nat.le_of_ble_eq_true rfl) hR.2⟩ ⟨Nat.le_trans (Nat.le_of_ble_eq_true rfl) hRc.1, Nat.le_trans (Nat.le_of_ble_eq_true rfl) hRc.2⟩ dX10_mend_84) (fun u4 H locs hp hw => ?_)
      obtain ⟨I3, rfl, h⟩ := hp
      refine lv_iload_n hx hb dX10_mend_87 rfl (lv_at hl 2 rfl) ?_
      refine vx_ret ?_
      refine W.widen (k := 1) (n := 6) (Nat.le_of_ble_eq_true rfl) (Nat.le_of_ble_eq_true rfl) ?_
      exact hm_iret X hr hlk hw ⟨_, rfl, h⟩ dX10_mend_88
    · have h := Eq.mp (if_neg hc) h
      refine lv_aload_n hx hb dX10_mend_56 rfl (lv_at hl 0 rfl) ?_
      refine hm_getr X hw lk_10_83 (gl_0 hG) (gf_0_12 hG) dX10_mend_57 ?_
      refine lv_aload_n hx hb dX10_mend_60 rfl (lv_at hl 0 rfl) ?_
      refine hm_getr X hw lk_10_10 (gl_0 hG) (gf_0_0 hG) dX10_mend_61 ?_
      refine lv_aload_n hx hb dX10_mend_64 rfl (lv_at hl 0 rfl) ?_
      refine hm_getr X hw lk_10_33 (gl_0 hG) (gf_0_4 hG) dX10_mend_65 ?_
      refine hm_calli hw (hm_runV (rest := []) EvC_cl X hw (cMen_mendOne EvC_cl hG (geo_net hG) h) yk_X4_mendOne kw1273 rfl (gl_48 hG) rfl hl.1 rfl rfl rfl (Nat.le_of_ble_eq_true rfl) ⟨Nat.le_trans (Nat.le_of_ble_eq_true rfl) hR.1, Nat.le_trans (Nat.le_of_ble_eq_true rfl) hR.2⟩ ⟨Nat.le_trans (Nat.le_of_ble_eq_true rfl) hRc.1, Nat.le_trans (Nat.le_of_ble_eq_true rfl) hRc.2⟩ dX10_mend_68) (fun a5 u7 H locs hp hw => ?_)
      obtain ⟨I6, rfl, h⟩ := hp
      refine lv_if_eq (tgt := 80) hx hb dX10_mend_71 (by decide) (fun hc => ?_) (fun hc => ?_)
      · have h := Eq.mp (if_pos hc) h
        refine lv_aload_n hx hb dX10_mend_80 rfl (lv_at hl 0 rfl) ?_
        refine hm_getr X hw lk_10_40 (gl_0 hG) (gf_0_5 hG) dX10_mend_81 ?_
        refine hm_callv hw (hm_runV (rest := []) EvC_cl X hw (cLed_spoil EvC_cl hG h) yk_X3_spoil kw515 rfl (gl_26 hG) rfl hl.1 rfl rfl rfl (Nat.le_of_ble_eq_true rfl) ⟨Nat.le_trans (Nat.le_of_ble_eq_true rfl) hR.1, Nat.le_trans (Nat.le_of_ble_eq_true rfl) hR.2⟩ ⟨Nat.le_trans (Nat.le_of_ble_eq_true rfl) hRc.1, Nat.le_trans (Nat.le_of_ble_eq_true rfl) hRc.2⟩ dX10_mend_84) (fun u9 H locs hp hw => ?_)
        obtain ⟨I8, rfl, h⟩ := hp
        refine lv_iload_n hx hb dX10_mend_87 rfl (lv_at hl 2 rfl) ?_
        refine vx_ret ?_
        refine W.widen (k := 1) (n := 6) (Nat.le_of_ble_eq_true rfl) (Nat.le_of_ble_eq_true rfl) ?_
        exact hm_iret X hr hlk hw ⟨_, rfl, h⟩ dX10_mend_88
      · have h := Eq.mp (if_neg hc) h
        refine lv_iinc (v := x2 + 1) (lv' := [(2, _), (0, _), (1, _)]) hx hb dX10_mend_74 hl (k := 2) rfl rfl (by decide) rfl (fun ls hl => ?_)
        refine lv_goto (tgt := 51) hx hb dX10_mend_77 (by decide) ?_
        exact ih _ _ h hw (lv_sub hl [1, 2, 0] rfl)

theorem cH_mend {l : Launch} {D : va_G} {cA : Nat → ClassId} {z sz : Nat} {I : HI} {T : HR} {F : HR} {L : HL} {x1 : Int32} {Q : Int32 → HI → Prop} {Xc : HI → Prop} (hlt : l.stackTraces = false) (hG : Geo F L) (h : H_mend I T F L x1 Q Xc) : vx_Met l yX10_mend (hws0 yX10_mend cX10_mend 3 (some .int)) { frames := 7, cells := 1, slots := 6, locals := 172 } (hPc D cA z EvC (I, J, T, F, L) sz [.ref (z + 0), .int x1]) (va_Qi (pI J T F L Q) (hB D cA z (hA z L sz)) (hA z L sz)) (vx_X (pIv J T F L Xc) (pX "java/lang/IllegalArgumentException" D cA z (hA z L sz)) (hA z L sz)) 1 6 (hA z L sz) := by
  refine hm_xmet (I, J, T, F, L) [.ref (z + 0), .int x1] rfl (by decide) (Nat.le_of_ble_eq_true rfl) ?_
  intro p e s m below meth c ls X hr hlk hnm hxt hsz hw hl
  have hl : lv_has ls 3 [(0, .ref (z + 0)), (1, .int x1)] := hl
  have hR : 7 ≤ ({ frames := 7, cells := 1, slots := 6, locals := 172 } : Room).frames ∧ 172 ≤ ({ frames := 7, cells := 1, slots := 6, locals := 172 } : Room).locals := ⟨Nat.le_refl _, Nat.le_refl _⟩
  have hRc : 1 ≤ ({ frames := 7, cells := 1, slots := 6, locals := 172 } : Room).cells ∧ 6 ≤ ({ frames := 7, cells := 1, slots := 6, locals := 172 } : Room).slots := ⟨Nat.le_refl _, Nat.le_refl _⟩
  generalize ({ frames := 7, cells := 1, slots := 6, locals := 172 } : Room) = R at hR hRc ⊢
  clear hsz
  generalize (hA z L sz) = A at hw ⊢
  have hx := X.1
  have hb := X.2.1
  unfold H_mend at h
  refine lv_iload_n hx hb dX10_mend_0 rfl (lv_at hl 1 rfl) ?_
  refine lv_if_lt (tgt := 10) hx hb dX10_mend_1 (by decide) (fun hc => ?_) (fun hc => ?_)
  · have h := Eq.mp (if_pos hc) h
    exact wkH_mend_b10 X hr hlk hR hRc hlt hxt hG  h hw (lv_sub hl [] rfl)
  · have h := Eq.mp (if_neg hc) h
    refine lv_iload_n hx hb dX10_mend_4 rfl (lv_at hl 1 rfl) ?_
    refine lv_bipush (v := 20) hx hb dX10_mend_5 (by decide) ?_
    refine lv_icmp_le (tgt := 21) hx hb dX10_mend_7 (by decide) (fun hc => ?_) (fun hc => ?_)
    · have h := Eq.mp (if_pos hc) h
      refine lv_aload_n hx hb dX10_mend_21 rfl (lv_at hl 0 rfl) ?_
      refine hm_getr X hw lk_10_10 (gl_0 hG) (gf_0_0 hG) dX10_mend_22 ?_
      refine hm_geti X hw lk_10_276 (gl_1 hG) dX10_mend_25 ?_
      refine lv_sipush (v := 256) hx hb dX10_mend_28 (by decide) ?_
      refine lv_icmp_gt (tgt := 47) hx hb dX10_mend_31 (by decide) (fun hc => ?_) (fun hc => ?_)
      · have h := Eq.mp (if_pos hc) h
        refine lv_iconst (v := (-1)) hx hb dX10_mend_47 (by decide) ?_
        refine vx_ret ?_
        refine W.widen (k := 1) (n := 6) (Nat.le_of_ble_eq_true rfl) (Nat.le_of_ble_eq_true rfl) ?_
        exact hm_iret X hr hlk hw ⟨_, rfl, h⟩ dX10_mend_48
      · have h := Eq.mp (if_neg hc) h
        refine lv_aload_n hx hb dX10_mend_34 rfl (lv_at hl 0 rfl) ?_
        refine hm_getr X hw lk_10_10 (gl_0 hG) (gf_0_0 hG) dX10_mend_35 ?_
        refine hm_calli hw (hm_runV (rest := []) EvC_cl X hw (cNet_viewsInTables EvC_cl (geo_net hG) h) yk_X5_viewsInTables kw1269 rfl (gl_1 hG) rfl hl.1 rfl rfl rfl (Nat.le_of_ble_eq_true rfl) ⟨Nat.le_trans (Nat.le_of_ble_eq_true rfl) hR.1, Nat.le_trans (Nat.le_of_ble_eq_true rfl) hR.2⟩ ⟨Nat.le_trans (Nat.le_of_ble_eq_true rfl) hRc.1, Nat.le_trans (Nat.le_of_ble_eq_true rfl) hRc.2⟩ dX10_mend_38) (fun a1 u2 H locs hp hw => ?_)
        obtain ⟨rfl, h⟩ := hp
        refine lv_sipush (v := 256) hx hb dX10_mend_41 (by decide) ?_
        refine lv_icmp_le (tgt := 49) hx hb dX10_mend_44 (by decide) (fun hc => ?_) (fun hc => ?_)
        · have h := Eq.mp (if_pos hc) h
          refine lv_iconst (v := 0) hx hb dX10_mend_49 (by decide) ?_
          refine lv_istore_n (lv' := [(2, _), (0, _), (1, _)]) hx hb dX10_mend_50 rfl hl (by decide) rfl (fun ls hl => ?_)
          obtain ⟨n2, h⟩ := h
          exact wkH_mend_l51 X hr hlk hR hRc hlt hxt hG  n2 _ _ h hw (lv_sub hl [1, 2, 0] rfl)
        · have h := Eq.mp (if_neg hc) h
          refine lv_iconst (v := (-1)) hx hb dX10_mend_47 (by decide) ?_
          refine vx_ret ?_
          refine W.widen (k := 1) (n := 6) (Nat.le_of_ble_eq_true rfl) (Nat.le_of_ble_eq_true rfl) ?_
          exact hm_iret X hr hlk hw ⟨_, rfl, h⟩ dX10_mend_48
    · have h := Eq.mp (if_neg hc) h
      exact wkH_mend_b10 X hr hlk hR hRc hlt hxt hG  h hw (lv_sub hl [] rfl)

theorem cH_count {l : Launch} {D : va_G} {cA : Nat → ClassId} {z sz : Nat} {I : HI} {T : HR} {F : HR} {L : HL} {x1 : Int32} {Q : Int32 → Prop} {Xc : Prop} (hlt : l.stackTraces = false) (hG : Geo F L) (h : H_count I T x1 Q Xc) : vx_Met l yX10_count (hws0 yX10_count cX10_count 2 (some .int)) { frames := 7, cells := 1, slots := 6, locals := 120 } (hPc D cA z EvC (I, J, T, F, L) sz [.ref (z + 0), .int x1]) (va_Qi (p0 (I, J, T, F, L) Q) (hB D cA z (hA z L sz)) (hA z L sz)) (vx_X (p0v (I, J, T, F, L) Xc) (pX "java/util/NoSuchElementException" D cA z (hA z L sz)) (hA z L sz)) 1 6 (hA z L sz) := by
  refine hm_xmet (I, J, T, F, L) [.ref (z + 0), .int x1] rfl (by decide) (Nat.le_of_ble_eq_true rfl) ?_
  intro p e s m below meth c ls X hr hlk hnm hxt hsz hw hl
  have hl : lv_has ls 2 [(0, .ref (z + 0)), (1, .int x1)] := hl
  have hR : 7 ≤ ({ frames := 7, cells := 1, slots := 6, locals := 120 } : Room).frames ∧ 120 ≤ ({ frames := 7, cells := 1, slots := 6, locals := 120 } : Room).locals := ⟨Nat.le_refl _, Nat.le_refl _⟩
  have hRc : 1 ≤ ({ frames := 7, cells := 1, slots := 6, locals := 120 } : Room).cells ∧ 6 ≤ ({ frames := 7, cells := 1, slots := 6, locals := 120 } : Room).slots := ⟨Nat.le_refl _, Nat.le_refl _⟩
  generalize ({ frames := 7, cells := 1, slots := 6, locals := 120 } : Room) = R at hR hRc ⊢
  clear hsz
  generalize (hA z L sz) = A at hw ⊢
  have hx := X.1
  have hb := X.2.1
  unfold H_count at h
  refine lv_iload_n hx hb dX10_count_0 rfl (lv_at hl 1 rfl) ?_
  by_cases hc0 : x1 = 0
  · have h := Eq.mp (if_pos hc0) h
    refine lv_tableIn (tgt := 44) (off := 43) hx hb dX10_count_1 (by rw [hc0]; decide) (by rw [hc0]; decide) (by rw [hc0]; decide) (by decide) ?_
    refine lv_aload_n hx hb dX10_count_44 rfl (lv_at hl 0 rfl) ?_
    refine hm_getr X hw lk_10_10 (gl_0 hG) (gf_0_0 hG) dX10_count_45 ?_
    refine hm_geti X hw lk_10_150 (gl_1 hG) dX10_count_48 ?_
    refine vx_ret ?_
    refine W.widen (k := 1) (n := 6) (Nat.le_of_ble_eq_true rfl) (Nat.le_of_ble_eq_true rfl) ?_
    exact hm_iret X hr hlk hw ⟨rfl, h⟩ dX10_count_51
  have h := Eq.mp (if_neg hc0) h
  by_cases hc1 : x1 = 1
  · have h := Eq.mp (if_pos hc1) h
    refine lv_tableIn (tgt := 52) (off := 51) hx hb dX10_count_1 (by rw [hc1]; decide) (by rw [hc1]; decide) (by rw [hc1]; decide) (by decide) ?_
    refine lv_aload_n hx hb dX10_count_52 rfl (lv_at hl 0 rfl) ?_
    refine hm_getr X hw lk_10_10 (gl_0 hG) (gf_0_0 hG) dX10_count_53 ?_
    refine hm_geti X hw lk_10_128 (gl_1 hG) dX10_count_56 ?_
    refine vx_ret ?_
    refine W.widen (k := 1) (n := 6) (Nat.le_of_ble_eq_true rfl) (Nat.le_of_ble_eq_true rfl) ?_
    exact hm_iret X hr hlk hw ⟨rfl, h⟩ dX10_count_59
  have h := Eq.mp (if_neg hc1) h
  by_cases hc2 : x1 = 2
  · have h := Eq.mp (if_pos hc2) h
    refine lv_tableIn (tgt := 60) (off := 59) hx hb dX10_count_1 (by rw [hc2]; decide) (by rw [hc2]; decide) (by rw [hc2]; decide) (by decide) ?_
    refine lv_aload_n hx hb dX10_count_60 rfl (lv_at hl 0 rfl) ?_
    refine hm_getr X hw lk_10_10 (gl_0 hG) (gf_0_0 hG) dX10_count_61 ?_
    refine hm_geti X hw lk_10_276 (gl_1 hG) dX10_count_64 ?_
    refine vx_ret ?_
    refine W.widen (k := 1) (n := 6) (Nat.le_of_ble_eq_true rfl) (Nat.le_of_ble_eq_true rfl) ?_
    exact hm_iret X hr hlk hw ⟨rfl, h⟩ dX10_count_67
  have h := Eq.mp (if_neg hc2) h
  by_cases hc3 : x1 = 3
  · have h := Eq.mp (if_pos hc3) h
    refine lv_tableIn (tgt := 68) (off := 67) hx hb dX10_count_1 (by rw [hc3]; decide) (by rw [hc3]; decide) (by rw [hc3]; decide) (by decide) ?_
    refine lv_aload_n hx hb dX10_count_68 rfl (lv_at hl 0 rfl) ?_
    refine hm_getr X hw lk_10_33 (gl_0 hG) (gf_0_4 hG) dX10_count_69 ?_
    refine hm_geti X hw lk_10_134 (gl_23 hG) dX10_count_72 ?_
    refine vx_ret ?_
    refine W.widen (k := 1) (n := 6) (Nat.le_of_ble_eq_true rfl) (Nat.le_of_ble_eq_true rfl) ?_
    exact hm_iret X hr hlk hw ⟨rfl, h⟩ dX10_count_75
  have h := Eq.mp (if_neg hc3) h
  by_cases hc4 : x1 = 4
  · have h := Eq.mp (if_pos hc4) h
    refine lv_tableIn (tgt := 76) (off := 75) hx hb dX10_count_1 (by rw [hc4]; decide) (by rw [hc4]; decide) (by rw [hc4]; decide) (by decide) ?_
    refine lv_aload_n hx hb dX10_count_76 rfl (lv_at hl 0 rfl) ?_
    refine hm_getr X hw lk_10_33 (gl_0 hG) (gf_0_4 hG) dX10_count_77 ?_
    refine hm_geti X hw lk_10_137 (gl_23 hG) dX10_count_80 ?_
    refine vx_ret ?_
    refine W.widen (k := 1) (n := 6) (Nat.le_of_ble_eq_true rfl) (Nat.le_of_ble_eq_true rfl) ?_
    exact hm_iret X hr hlk hw ⟨rfl, h⟩ dX10_count_83
  have h := Eq.mp (if_neg hc4) h
  by_cases hc5 : x1 = 5
  · have h := Eq.mp (if_pos hc5) h
    refine lv_tableIn (tgt := 84) (off := 83) hx hb dX10_count_1 (by rw [hc5]; decide) (by rw [hc5]; decide) (by rw [hc5]; decide) (by decide) ?_
    refine lv_aload_n hx hb dX10_count_84 rfl (lv_at hl 0 rfl) ?_
    refine hm_geti X hw lk_10_55 (gl_0 hG) dX10_count_85 ?_
    refine vx_ret ?_
    refine W.widen (k := 1) (n := 6) (Nat.le_of_ble_eq_true rfl) (Nat.le_of_ble_eq_true rfl) ?_
    exact hm_iret X hr hlk hw ⟨rfl, h⟩ dX10_count_88
  have h := Eq.mp (if_neg hc5) h
  by_cases hc6 : x1 = 6
  · have h := Eq.mp (if_pos hc6) h
    refine lv_tableIn (tgt := 89) (off := 88) hx hb dX10_count_1 (by rw [hc6]; decide) (by rw [hc6]; decide) (by rw [hc6]; decide) (by decide) ?_
    refine lv_aload_n hx hb dX10_count_89 rfl (lv_at hl 0 rfl) ?_
    refine hm_getr X hw lk_10_10 (gl_0 hG) (gf_0_0 hG) dX10_count_90 ?_
    refine hm_calli hw (hm_runV (rest := []) EvC_cl X hw (cNet_countTexts EvC_cl (geo_net hG) h) yk_X5_countTexts kw1313 rfl (gl_1 hG) rfl hl.1 rfl rfl rfl (Nat.le_of_ble_eq_true rfl) ⟨Nat.le_trans (Nat.le_of_ble_eq_true rfl) hR.1, Nat.le_trans (Nat.le_of_ble_eq_true rfl) hR.2⟩ ⟨Nat.le_trans (Nat.le_of_ble_eq_true rfl) hRc.1, Nat.le_trans (Nat.le_of_ble_eq_true rfl) hRc.2⟩ dX10_count_93) (fun a1 u2 H locs hp hw => ?_)
    obtain ⟨rfl, h⟩ := hp
    refine vx_ret ?_
    refine W.widen (k := 1) (n := 6) (Nat.le_of_ble_eq_true rfl) (Nat.le_of_ble_eq_true rfl) ?_
    exact hm_iret X hr hlk hw ⟨rfl, h⟩ dX10_count_96
  have h := Eq.mp (if_neg hc6) h
  refine hm_tabD (tgt := 97) [0, 1, 2, 3, 4, 5, 6] hx hb dX10_count_1 (by decide) (by simp only [List.forall_mem_cons]; exact ⟨hc0, hc1, hc2, hc3, hc4, hc5, hc6, fun _ h => (by cases h)⟩) (by decide) ?_
  exact hm_thrNW (is := 361) (text := "nothing such is counted") hlt X hxt hlk hw (by decide) ⟨rfl, h⟩ hl.1 dX10_count_97 dX10_count_100 dX10_count_101 dX10_count_104 dX10_count_107 ⟨Nat.le_trans (Nat.le_of_ble_eq_true rfl) hR.1, Nat.le_trans (Nat.le_of_ble_eq_true rfl) hR.2⟩ (Nat.le_trans (Nat.le_of_ble_eq_true rfl) hRc.1) (Nat.le_trans (Nat.le_of_ble_eq_true rfl) hRc.2) (Nat.le_of_ble_eq_true rfl) (Nat.le_of_ble_eq_true rfl)

end
