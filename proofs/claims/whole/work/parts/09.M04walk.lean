theorem dX11_worst_0 : decode cX11_worst 0 = .ok (.aload_n 0, 1) := by decide +kernel
theorem dX11_worst_1 : decode cX11_worst 1 = .ok (.iconst 0, 1) := by decide +kernel
theorem dX11_worst_2 : decode cX11_worst 2 = .ok (.putfield 174, 3) := by decide +kernel
theorem dX11_worst_5 : decode cX11_worst 5 = .ok (.aload_n 0, 1) := by decide +kernel
theorem dX11_worst_6 : decode cX11_worst 6 = .ok (.iload_n 1, 1) := by decide +kernel
theorem dX11_worst_7 : decode cX11_worst 7 = .ok (.ifCond .eq 8, 3) := by decide +kernel
theorem dX11_worst_10 : decode cX11_worst 10 = .ok (.iload_n 1, 1) := by decide +kernel
theorem dX11_worst_11 : decode cX11_worst 11 = .ok (.iconst 1, 1) := by decide +kernel
theorem dX11_worst_12 : decode cX11_worst 12 = .ok (.if_icmp .ne 7, 3) := by decide +kernel
theorem dX11_worst_15 : decode cX11_worst 15 = .ok (.iconst 1, 1) := by decide +kernel
theorem dX11_worst_16 : decode cX11_worst 16 = .ok (.goto 4, 3) := by decide +kernel
theorem dX11_worst_19 : decode cX11_worst 19 = .ok (.iconst 0, 1) := by decide +kernel
theorem dX11_worst_20 : decode cX11_worst 20 = .ok (.iconst 1, 1) := by decide +kernel
theorem dX11_worst_21 : decode cX11_worst 21 = .ok (.invokevirtual 203, 3) := by decide +kernel
theorem dX11_worst_24 : decode cX11_worst 24 = .ok (.ifCond .ne 5, 3) := by decide +kernel
theorem dX11_worst_27 : decode cX11_worst 27 = .ok (.iconst 0, 1) := by decide +kernel
theorem dX11_worst_28 : decode cX11_worst 28 = .ok (.ireturn, 1) := by decide +kernel
theorem dX11_worst_29 : decode cX11_worst 29 = .ok (.aload_n 0, 1) := by decide +kernel
theorem dX11_worst_30 : decode cX11_worst 30 = .ok (.invokevirtual 373, 3) := by decide +kernel
theorem dX11_worst_33 : decode cX11_worst 33 = .ok (.istore_n 2, 1) := by decide +kernel
theorem dX11_worst_34 : decode cX11_worst 34 = .ok (.iload_n 1, 1) := by decide +kernel
theorem dX11_worst_35 : decode cX11_worst 35 = .ok (.iconst 1, 1) := by decide +kernel
theorem dX11_worst_36 : decode cX11_worst 36 = .ok (.if_icmp .eq 8, 3) := by decide +kernel
theorem dX11_worst_39 : decode cX11_worst 39 = .ok (.iload_n 2, 1) := by decide +kernel
theorem dX11_worst_40 : decode cX11_worst 40 = .ok (.iconst (-1), 1) := by decide +kernel
theorem dX11_worst_41 : decode cX11_worst 41 = .ok (.if_icmp .ne 7, 3) := by decide +kernel
theorem dX11_worst_44 : decode cX11_worst 44 = .ok (.iload_n 2, 1) := by decide +kernel
theorem dX11_worst_45 : decode cX11_worst 45 = .ok (.goto 12, 3) := by decide +kernel
theorem dX11_worst_48 : decode cX11_worst 48 = .ok (.aload_n 0, 1) := by decide +kernel
theorem dX11_worst_49 : decode cX11_worst 49 = .ok (.getfield 87, 3) := by decide +kernel
theorem dX11_worst_52 : decode cX11_worst 52 = .ok (.iload_n 2, 1) := by decide +kernel
theorem dX11_worst_53 : decode cX11_worst 53 = .ok (.iaload, 1) := by decide +kernel
theorem dX11_worst_54 : decode cX11_worst 54 = .ok (.invokestatic 177, 3) := by decide +kernel
theorem dX11_worst_57 : decode cX11_worst 57 = .ok (.ireturn, 1) := by decide +kernel
theorem dX11_laysOut_0 : decode cX11_laysOut 0 = .ok (.aload_n 0, 1) := by decide +kernel
theorem dX11_laysOut_1 : decode cX11_laysOut 1 = .ok (.iload_n 1, 1) := by decide +kernel
theorem dX11_laysOut_2 : decode cX11_laysOut 2 = .ok (.invokevirtual 345, 3) := by decide +kernel
theorem dX11_laysOut_5 : decode cX11_laysOut 5 = .ok (.iconst 0, 1) := by decide +kernel
theorem dX11_laysOut_6 : decode cX11_laysOut 6 = .ok (.istore_n 2, 1) := by decide +kernel
theorem dX11_laysOut_7 : decode cX11_laysOut 7 = .ok (.iload_n 2, 1) := by decide +kernel
theorem dX11_laysOut_8 : decode cX11_laysOut 8 = .ok (.aload_n 0, 1) := by decide +kernel
theorem dX11_laysOut_9 : decode cX11_laysOut 9 = .ok (.getfield 7, 3) := by decide +kernel
theorem dX11_laysOut_12 : decode cX11_laysOut 12 = .ok (.if_icmp .ge 26, 3) := by decide +kernel
theorem dX11_laysOut_15 : decode cX11_laysOut 15 = .ok (.aload_n 0, 1) := by decide +kernel
theorem dX11_laysOut_16 : decode cX11_laysOut 16 = .ok (.getfield 78, 3) := by decide +kernel
theorem dX11_laysOut_19 : decode cX11_laysOut 19 = .ok (.iload_n 2, 1) := by decide +kernel
theorem dX11_laysOut_20 : decode cX11_laysOut 20 = .ok (.aload_n 0, 1) := by decide +kernel
theorem dX11_laysOut_21 : decode cX11_laysOut 21 = .ok (.getfield 91, 3) := by decide +kernel
theorem dX11_laysOut_24 : decode cX11_laysOut 24 = .ok (.bipush 8, 2) := by decide +kernel
theorem dX11_laysOut_26 : decode cX11_laysOut 26 = .ok (.iload_n 1, 1) := by decide +kernel
theorem dX11_laysOut_27 : decode cX11_laysOut 27 = .ok (.imul, 1) := by decide +kernel
theorem dX11_laysOut_28 : decode cX11_laysOut 28 = .ok (.iload_n 2, 1) := by decide +kernel
theorem dX11_laysOut_29 : decode cX11_laysOut 29 = .ok (.iadd, 1) := by decide +kernel
theorem dX11_laysOut_30 : decode cX11_laysOut 30 = .ok (.iaload, 1) := by decide +kernel
theorem dX11_laysOut_31 : decode cX11_laysOut 31 = .ok (.iastore, 1) := by decide +kernel
theorem dX11_laysOut_32 : decode cX11_laysOut 32 = .ok (.iinc 2 1, 3) := by decide +kernel
theorem dX11_laysOut_35 : decode cX11_laysOut 35 = .ok (.goto (-28), 3) := by decide +kernel
theorem dX11_laysOut_38 : decode cX11_laysOut 38 = .ok (.return_, 1) := by decide +kernel
theorem dX11_idle_0 : decode cX11_idle 0 = .ok (.aload_n 0, 1) := by decide +kernel
theorem dX11_idle_1 : decode cX11_idle 1 = .ok (.iload_n 1, 1) := by decide +kernel
theorem dX11_idle_2 : decode cX11_idle 2 = .ok (.invokevirtual 207, 3) := by decide +kernel
theorem dX11_idle_5 : decode cX11_idle 5 = .ok (.ifCond .ne 5, 3) := by decide +kernel
theorem dX11_idle_8 : decode cX11_idle 8 = .ok (.iconst 0, 1) := by decide +kernel
theorem dX11_idle_9 : decode cX11_idle 9 = .ok (.ireturn, 1) := by decide +kernel
theorem dX11_idle_10 : decode cX11_idle 10 = .ok (.aload_n 0, 1) := by decide +kernel
theorem dX11_idle_11 : decode cX11_idle 11 = .ok (.invokevirtual 360, 3) := by decide +kernel
theorem dX11_idle_14 : decode cX11_idle 14 = .ok (.aload_n 0, 1) := by decide +kernel
theorem dX11_idle_15 : decode cX11_idle 15 = .ok (.getfield 26, 3) := by decide +kernel
theorem dX11_idle_18 : decode cX11_idle 18 = .ok (.iload_n 1, 1) := by decide +kernel
theorem dX11_idle_19 : decode cX11_idle 19 = .ok (.iaload, 1) := by decide +kernel
theorem dX11_idle_20 : decode cX11_idle 20 = .ok (.istore_n 2, 1) := by decide +kernel
theorem dX11_idle_21 : decode cX11_idle 21 = .ok (.iconst 0, 1) := by decide +kernel
theorem dX11_idle_22 : decode cX11_idle 22 = .ok (.istore_n 3, 1) := by decide +kernel
theorem dX11_idle_23 : decode cX11_idle 23 = .ok (.iload_n 3, 1) := by decide +kernel
theorem dX11_idle_24 : decode cX11_idle 24 = .ok (.aload_n 0, 1) := by decide +kernel
theorem dX11_idle_25 : decode cX11_idle 25 = .ok (.getfield 16, 3) := by decide +kernel
theorem dX11_idle_28 : decode cX11_idle 28 = .ok (.if_icmp .ge 126, 3) := by decide +kernel
theorem dX11_idle_31 : decode cX11_idle 31 = .ok (.iload_n 2, 1) := by decide +kernel
theorem dX11_idle_32 : decode cX11_idle 32 = .ok (.ifCond .eq 122, 3) := by decide +kernel
theorem dX11_idle_35 : decode cX11_idle 35 = .ok (.aload_n 0, 1) := by decide +kernel
theorem dX11_idle_36 : decode cX11_idle 36 = .ok (.getfield 32, 3) := by decide +kernel
theorem dX11_idle_39 : decode cX11_idle 39 = .ok (.iload_n 1, 1) := by decide +kernel
theorem dX11_idle_40 : decode cX11_idle 40 = .ok (.iaload, 1) := by decide +kernel
theorem dX11_idle_41 : decode cX11_idle 41 = .ok (.iconst 2, 1) := by decide +kernel
theorem dX11_idle_42 : decode cX11_idle 42 = .ok (.if_icmp .eq 112, 3) := by decide +kernel
theorem dX11_idle_45 : decode cX11_idle 45 = .ok (.aload_n 0, 1) := by decide +kernel
theorem dX11_idle_46 : decode cX11_idle 46 = .ok (.iload_n 3, 1) := by decide +kernel
theorem dX11_idle_47 : decode cX11_idle 47 = .ok (.invokevirtual 376, 3) := by decide +kernel
theorem dX11_idle_50 : decode cX11_idle 50 = .ok (.iconst 0, 1) := by decide +kernel
theorem dX11_idle_51 : decode cX11_idle 51 = .ok (.istore 4, 2) := by decide +kernel
theorem dX11_idle_53 : decode cX11_idle 53 = .ok (.iload 4, 2) := by decide +kernel
theorem dX11_idle_55 : decode cX11_idle 55 = .ok (.aload_n 0, 1) := by decide +kernel
theorem dX11_idle_56 : decode cX11_idle 56 = .ok (.getfield 7, 3) := by decide +kernel
theorem dX11_idle_59 : decode cX11_idle 59 = .ok (.if_icmp .ge 89, 3) := by decide +kernel
theorem dX11_idle_62 : decode cX11_idle 62 = .ok (.iload_n 2, 1) := by decide +kernel
theorem dX11_idle_63 : decode cX11_idle 63 = .ok (.iload 4, 2) := by decide +kernel
theorem dX11_idle_65 : decode cX11_idle 65 = .ok (.ishr, 1) := by decide +kernel
theorem dX11_idle_66 : decode cX11_idle 66 = .ok (.iconst 1, 1) := by decide +kernel
theorem dX11_idle_67 : decode cX11_idle 67 = .ok (.iand, 1) := by decide +kernel
theorem dX11_idle_68 : decode cX11_idle 68 = .ok (.ifCond .ne 6, 3) := by decide +kernel
theorem dX11_idle_71 : decode cX11_idle 71 = .ok (.goto 71, 3) := by decide +kernel
theorem dX11_idle_74 : decode cX11_idle 74 = .ok (.aload_n 0, 1) := by decide +kernel
theorem dX11_idle_75 : decode cX11_idle 75 = .ok (.getfield 75, 3) := by decide +kernel
theorem dX11_idle_78 : decode cX11_idle 78 = .ok (.iload 4, 2) := by decide +kernel
theorem dX11_idle_80 : decode cX11_idle 80 = .ok (.iaload, 1) := by decide +kernel
theorem dX11_idle_81 : decode cX11_idle 81 = .ok (.istore 5, 2) := by decide +kernel
theorem dX11_idle_83 : decode cX11_idle 83 = .ok (.iconst 0, 1) := by decide +kernel
theorem dX11_idle_84 : decode cX11_idle 84 = .ok (.istore 6, 2) := by decide +kernel
theorem dX11_idle_86 : decode cX11_idle 86 = .ok (.iload 6, 2) := by decide +kernel
theorem dX11_idle_88 : decode cX11_idle 88 = .ok (.aload_n 0, 1) := by decide +kernel
theorem dX11_idle_89 : decode cX11_idle 89 = .ok (.getfield 13, 3) := by decide +kernel
theorem dX11_idle_92 : decode cX11_idle 92 = .ok (.if_icmp .ge 41, 3) := by decide +kernel
theorem dX11_idle_95 : decode cX11_idle 95 = .ok (.aload_n 0, 1) := by decide +kernel
theorem dX11_idle_96 : decode cX11_idle 96 = .ok (.getfield 75, 3) := by decide +kernel
theorem dX11_idle_99 : decode cX11_idle 99 = .ok (.iload 4, 2) := by decide +kernel
theorem dX11_idle_101 : decode cX11_idle 101 = .ok (.iload 6, 2) := by decide +kernel
theorem dX11_idle_103 : decode cX11_idle 103 = .ok (.iastore, 1) := by decide +kernel
theorem dX11_idle_104 : decode cX11_idle 104 = .ok (.aload_n 0, 1) := by decide +kernel
theorem dX11_idle_105 : decode cX11_idle 105 = .ok (.iload_n 1, 1) := by decide +kernel
theorem dX11_idle_106 : decode cX11_idle 106 = .ok (.invokevirtual 348, 3) := by decide +kernel
theorem dX11_idle_109 : decode cX11_idle 109 = .ok (.aload_n 0, 1) := by decide +kernel
theorem dX11_idle_110 : decode cX11_idle 110 = .ok (.getfield 78, 3) := by decide +kernel
theorem dX11_idle_113 : decode cX11_idle 113 = .ok (.iload_n 1, 1) := by decide +kernel
theorem dX11_idle_114 : decode cX11_idle 114 = .ok (.iaload, 1) := by decide +kernel
theorem dX11_idle_115 : decode cX11_idle 115 = .ok (.if_icmp .eq 12, 3) := by decide +kernel
theorem dX11_idle_118 : decode cX11_idle 118 = .ok (.iload_n 2, 1) := by decide +kernel
theorem dX11_idle_119 : decode cX11_idle 119 = .ok (.iconst 1, 1) := by decide +kernel
theorem dX11_idle_120 : decode cX11_idle 120 = .ok (.iload 4, 2) := by decide +kernel
theorem dX11_idle_122 : decode cX11_idle 122 = .ok (.ishl, 1) := by decide +kernel
theorem dX11_idle_123 : decode cX11_idle 123 = .ok (.iconst (-1), 1) := by decide +kernel
theorem dX11_idle_124 : decode cX11_idle 124 = .ok (.ixor, 1) := by decide +kernel
theorem dX11_idle_125 : decode cX11_idle 125 = .ok (.iand, 1) := by decide +kernel
theorem dX11_idle_126 : decode cX11_idle 126 = .ok (.istore_n 2, 1) := by decide +kernel
theorem dX11_idle_127 : decode cX11_idle 127 = .ok (.iinc 6 1, 3) := by decide +kernel
theorem dX11_idle_130 : decode cX11_idle 130 = .ok (.goto (-44), 3) := by decide +kernel
theorem dX11_idle_133 : decode cX11_idle 133 = .ok (.aload_n 0, 1) := by decide +kernel
theorem dX11_idle_134 : decode cX11_idle 134 = .ok (.getfield 75, 3) := by decide +kernel
theorem dX11_idle_137 : decode cX11_idle 137 = .ok (.iload 4, 2) := by decide +kernel
theorem dX11_idle_139 : decode cX11_idle 139 = .ok (.iload 5, 2) := by decide +kernel
theorem dX11_idle_141 : decode cX11_idle 141 = .ok (.iastore, 1) := by decide +kernel
theorem dX11_idle_142 : decode cX11_idle 142 = .ok (.iinc 4 1, 3) := by decide +kernel
theorem dX11_idle_145 : decode cX11_idle 145 = .ok (.goto (-92), 3) := by decide +kernel
theorem dX11_idle_148 : decode cX11_idle 148 = .ok (.iinc 3 1, 3) := by decide +kernel
theorem dX11_idle_151 : decode cX11_idle 151 = .ok (.goto (-128), 3) := by decide +kernel
theorem dX11_idle_154 : decode cX11_idle 154 = .ok (.iload_n 2, 1) := by decide +kernel
theorem dX11_idle_155 : decode cX11_idle 155 = .ok (.ireturn, 1) := by decide +kernel
theorem dX11_otherwise_0 : decode cX11_otherwise 0 = .ok (.aload_n 0, 1) := by decide +kernel
theorem dX11_otherwise_1 : decode cX11_otherwise 1 = .ok (.iload_n 1, 1) := by decide +kernel
theorem dX11_otherwise_2 : decode cX11_otherwise 2 = .ok (.invokevirtual 207, 3) := by decide +kernel
theorem dX11_otherwise_5 : decode cX11_otherwise 5 = .ok (.ifCond .eq 28, 3) := by decide +kernel
theorem dX11_otherwise_8 : decode cX11_otherwise 8 = .ok (.aload_n 0, 1) := by decide +kernel
theorem dX11_otherwise_9 : decode cX11_otherwise 9 = .ok (.iload_n 2, 1) := by decide +kernel
theorem dX11_otherwise_10 : decode cX11_otherwise 10 = .ok (.ifCond .lt 15, 3) := by decide +kernel
theorem dX11_otherwise_13 : decode cX11_otherwise 13 = .ok (.iload_n 2, 1) := by decide +kernel
theorem dX11_otherwise_14 : decode cX11_otherwise 14 = .ok (.aload_n 0, 1) := by decide +kernel
theorem dX11_otherwise_15 : decode cX11_otherwise 15 = .ok (.getfield 7, 3) := by decide +kernel
theorem dX11_otherwise_18 : decode cX11_otherwise 18 = .ok (.if_icmp .ge 7, 3) := by decide +kernel
theorem dX11_otherwise_21 : decode cX11_otherwise 21 = .ok (.iconst 1, 1) := by decide +kernel
theorem dX11_otherwise_22 : decode cX11_otherwise 22 = .ok (.goto 4, 3) := by decide +kernel
theorem dX11_otherwise_25 : decode cX11_otherwise 25 = .ok (.iconst 0, 1) := by decide +kernel
theorem dX11_otherwise_26 : decode cX11_otherwise 26 = .ok (.iconst 1, 1) := by decide +kernel
theorem dX11_otherwise_27 : decode cX11_otherwise 27 = .ok (.invokevirtual 203, 3) := by decide +kernel
theorem dX11_otherwise_30 : decode cX11_otherwise 30 = .ok (.ifCond .ne 5, 3) := by decide +kernel
theorem dX11_otherwise_33 : decode cX11_otherwise 33 = .ok (.iconst 0, 1) := by decide +kernel
theorem dX11_otherwise_34 : decode cX11_otherwise 34 = .ok (.ireturn, 1) := by decide +kernel
theorem dX11_otherwise_35 : decode cX11_otherwise 35 = .ok (.iload_n 1, 1) := by decide +kernel
theorem dX11_otherwise_36 : decode cX11_otherwise 36 = .ok (.iload_n 2, 1) := by decide +kernel
theorem dX11_otherwise_37 : decode cX11_otherwise 37 = .ok (.if_icmp .ne 5, 3) := by decide +kernel
theorem dX11_otherwise_40 : decode cX11_otherwise 40 = .ok (.iconst (-1), 1) := by decide +kernel
theorem dX11_otherwise_41 : decode cX11_otherwise 41 = .ok (.ireturn, 1) := by decide +kernel
theorem dX11_otherwise_42 : decode cX11_otherwise 42 = .ok (.aload_n 0, 1) := by decide +kernel
theorem dX11_otherwise_43 : decode cX11_otherwise 43 = .ok (.getfield 32, 3) := by decide +kernel
theorem dX11_otherwise_46 : decode cX11_otherwise 46 = .ok (.iload_n 1, 1) := by decide +kernel
theorem dX11_otherwise_47 : decode cX11_otherwise 47 = .ok (.iaload, 1) := by decide +kernel
theorem dX11_otherwise_48 : decode cX11_otherwise 48 = .ok (.istore_n 3, 1) := by decide +kernel
theorem dX11_otherwise_49 : decode cX11_otherwise 49 = .ok (.aload_n 0, 1) := by decide +kernel
theorem dX11_otherwise_50 : decode cX11_otherwise 50 = .ok (.getfield 26, 3) := by decide +kernel
theorem dX11_otherwise_53 : decode cX11_otherwise 53 = .ok (.iload_n 1, 1) := by decide +kernel
theorem dX11_otherwise_54 : decode cX11_otherwise 54 = .ok (.dup2, 1) := by decide +kernel
theorem dX11_otherwise_55 : decode cX11_otherwise 55 = .ok (.iaload, 1) := by decide +kernel
theorem dX11_otherwise_56 : decode cX11_otherwise 56 = .ok (.iconst 1, 1) := by decide +kernel
theorem dX11_otherwise_57 : decode cX11_otherwise 57 = .ok (.iload_n 2, 1) := by decide +kernel
theorem dX11_otherwise_58 : decode cX11_otherwise 58 = .ok (.ishl, 1) := by decide +kernel
theorem dX11_otherwise_59 : decode cX11_otherwise 59 = .ok (.ixor, 1) := by decide +kernel
theorem dX11_otherwise_60 : decode cX11_otherwise 60 = .ok (.iastore, 1) := by decide +kernel
theorem dX11_otherwise_61 : decode cX11_otherwise 61 = .ok (.aload_n 0, 1) := by decide +kernel
theorem dX11_otherwise_62 : decode cX11_otherwise 62 = .ok (.getfield 32, 3) := by decide +kernel
theorem dX11_otherwise_65 : decode cX11_otherwise 65 = .ok (.iload_n 1, 1) := by decide +kernel
theorem dX11_otherwise_66 : decode cX11_otherwise 66 = .ok (.iload_n 3, 1) := by decide +kernel
theorem dX11_otherwise_67 : decode cX11_otherwise 67 = .ok (.iconst 1, 1) := by decide +kernel
theorem dX11_otherwise_68 : decode cX11_otherwise 68 = .ok (.if_icmp .ne 7, 3) := by decide +kernel
theorem dX11_otherwise_71 : decode cX11_otherwise 71 = .ok (.iconst 1, 1) := by decide +kernel
theorem dX11_otherwise_72 : decode cX11_otherwise 72 = .ok (.goto 4, 3) := by decide +kernel
theorem dX11_otherwise_75 : decode cX11_otherwise 75 = .ok (.iconst 2, 1) := by decide +kernel
theorem dX11_otherwise_76 : decode cX11_otherwise 76 = .ok (.iastore, 1) := by decide +kernel
theorem dX11_otherwise_77 : decode cX11_otherwise 77 = .ok (.aload_n 0, 1) := by decide +kernel
theorem dX11_otherwise_78 : decode cX11_otherwise 78 = .ok (.iconst 0, 1) := by decide +kernel
theorem dX11_otherwise_79 : decode cX11_otherwise 79 = .ok (.putfield 195, 3) := by decide +kernel
theorem dX11_otherwise_82 : decode cX11_otherwise 82 = .ok (.aload_n 0, 1) := by decide +kernel
theorem dX11_otherwise_83 : decode cX11_otherwise 83 = .ok (.invokevirtual 360, 3) := by decide +kernel
theorem dX11_otherwise_86 : decode cX11_otherwise 86 = .ok (.iconst 0, 1) := by decide +kernel
theorem dX11_otherwise_87 : decode cX11_otherwise 87 = .ok (.istore 4, 2) := by decide +kernel
theorem dX11_otherwise_89 : decode cX11_otherwise 89 = .ok (.iconst 0, 1) := by decide +kernel
theorem dX11_otherwise_90 : decode cX11_otherwise 90 = .ok (.istore 5, 2) := by decide +kernel
theorem dX11_otherwise_92 : decode cX11_otherwise 92 = .ok (.iload 5, 2) := by decide +kernel
theorem dX11_otherwise_94 : decode cX11_otherwise 94 = .ok (.aload_n 0, 1) := by decide +kernel
theorem dX11_otherwise_95 : decode cX11_otherwise 95 = .ok (.getfield 16, 3) := by decide +kernel
theorem dX11_otherwise_98 : decode cX11_otherwise 98 = .ok (.if_icmp .ge 42, 3) := by decide +kernel
theorem dX11_otherwise_101 : decode cX11_otherwise 101 = .ok (.aload_n 0, 1) := by decide +kernel
theorem dX11_otherwise_102 : decode cX11_otherwise 102 = .ok (.iload 5, 2) := by decide +kernel
theorem dX11_otherwise_104 : decode cX11_otherwise 104 = .ok (.invokevirtual 363, 3) := by decide +kernel
theorem dX11_otherwise_107 : decode cX11_otherwise 107 = .ok (.ifCond .eq 27, 3) := by decide +kernel
theorem dX11_otherwise_110 : decode cX11_otherwise 110 = .ok (.aload_n 0, 1) := by decide +kernel
theorem dX11_otherwise_111 : decode cX11_otherwise 111 = .ok (.aload_n 0, 1) := by decide +kernel
theorem dX11_otherwise_112 : decode cX11_otherwise 112 = .ok (.getfield 84, 3) := by decide +kernel
theorem dX11_otherwise_115 : decode cX11_otherwise 115 = .ok (.iload 5, 2) := by decide +kernel
theorem dX11_otherwise_117 : decode cX11_otherwise 117 = .ok (.iaload, 1) := by decide +kernel
theorem dX11_otherwise_118 : decode cX11_otherwise 118 = .ok (.aload_n 0, 1) := by decide +kernel
theorem dX11_otherwise_119 : decode cX11_otherwise 119 = .ok (.getfield 87, 3) := by decide +kernel
theorem dX11_otherwise_122 : decode cX11_otherwise 122 = .ok (.iload 5, 2) := by decide +kernel
theorem dX11_otherwise_124 : decode cX11_otherwise 124 = .ok (.iaload, 1) := by decide +kernel
theorem dX11_otherwise_125 : decode cX11_otherwise 125 = .ok (.invokevirtual 366, 3) := by decide +kernel
theorem dX11_otherwise_128 : decode cX11_otherwise 128 = .ok (.ifCond .eq 6, 3) := by decide +kernel
theorem dX11_otherwise_131 : decode cX11_otherwise 131 = .ok (.iinc 4 1, 3) := by decide +kernel
theorem dX11_otherwise_134 : decode cX11_otherwise 134 = .ok (.iinc 5 1, 3) := by decide +kernel
theorem dX11_otherwise_137 : decode cX11_otherwise 137 = .ok (.goto (-45), 3) := by decide +kernel
theorem dX11_otherwise_140 : decode cX11_otherwise 140 = .ok (.aload_n 0, 1) := by decide +kernel
theorem dX11_otherwise_141 : decode cX11_otherwise 141 = .ok (.getfield 26, 3) := by decide +kernel
theorem dX11_otherwise_144 : decode cX11_otherwise 144 = .ok (.iload_n 1, 1) := by decide +kernel
theorem dX11_otherwise_145 : decode cX11_otherwise 145 = .ok (.dup2, 1) := by decide +kernel
theorem dX11_otherwise_146 : decode cX11_otherwise 146 = .ok (.iaload, 1) := by decide +kernel
theorem dX11_otherwise_147 : decode cX11_otherwise 147 = .ok (.iconst 1, 1) := by decide +kernel
theorem dX11_otherwise_148 : decode cX11_otherwise 148 = .ok (.iload_n 2, 1) := by decide +kernel
theorem dX11_otherwise_149 : decode cX11_otherwise 149 = .ok (.ishl, 1) := by decide +kernel
theorem dX11_otherwise_150 : decode cX11_otherwise 150 = .ok (.ixor, 1) := by decide +kernel
theorem dX11_otherwise_151 : decode cX11_otherwise 151 = .ok (.iastore, 1) := by decide +kernel
theorem dX11_otherwise_152 : decode cX11_otherwise 152 = .ok (.aload_n 0, 1) := by decide +kernel
theorem dX11_otherwise_153 : decode cX11_otherwise 153 = .ok (.getfield 32, 3) := by decide +kernel
theorem dX11_otherwise_156 : decode cX11_otherwise 156 = .ok (.iload_n 1, 1) := by decide +kernel
theorem dX11_otherwise_157 : decode cX11_otherwise 157 = .ok (.iload_n 3, 1) := by decide +kernel
theorem dX11_otherwise_158 : decode cX11_otherwise 158 = .ok (.iastore, 1) := by decide +kernel
theorem dX11_otherwise_159 : decode cX11_otherwise 159 = .ok (.aload_n 0, 1) := by decide +kernel
theorem dX11_otherwise_160 : decode cX11_otherwise 160 = .ok (.iconst 0, 1) := by decide +kernel
theorem dX11_otherwise_161 : decode cX11_otherwise 161 = .ok (.putfield 195, 3) := by decide +kernel
theorem dX11_otherwise_164 : decode cX11_otherwise 164 = .ok (.iload 4, 2) := by decide +kernel
theorem dX11_otherwise_166 : decode cX11_otherwise 166 = .ok (.ireturn, 1) := by decide +kernel
theorem dX11_swaps_0 : decode cX11_swaps 0 = .ok (.aload_n 0, 1) := by decide +kernel
theorem dX11_swaps_1 : decode cX11_swaps 1 = .ok (.getfield 94, 3) := by decide +kernel
theorem dX11_swaps_4 : decode cX11_swaps 4 = .ok (.iload_n 1, 1) := by decide +kernel
theorem dX11_swaps_5 : decode cX11_swaps 5 = .ok (.iaload, 1) := by decide +kernel
theorem dX11_swaps_6 : decode cX11_swaps 6 = .ok (.istore_n 3, 1) := by decide +kernel
theorem dX11_swaps_7 : decode cX11_swaps 7 = .ok (.aload_n 0, 1) := by decide +kernel
theorem dX11_swaps_8 : decode cX11_swaps 8 = .ok (.getfield 94, 3) := by decide +kernel
theorem dX11_swaps_11 : decode cX11_swaps 11 = .ok (.iload_n 1, 1) := by decide +kernel
theorem dX11_swaps_12 : decode cX11_swaps 12 = .ok (.aload_n 0, 1) := by decide +kernel
theorem dX11_swaps_13 : decode cX11_swaps 13 = .ok (.getfield 94, 3) := by decide +kernel
theorem dX11_swaps_16 : decode cX11_swaps 16 = .ok (.iload_n 2, 1) := by decide +kernel
theorem dX11_swaps_17 : decode cX11_swaps 17 = .ok (.iaload, 1) := by decide +kernel
theorem dX11_swaps_18 : decode cX11_swaps 18 = .ok (.iastore, 1) := by decide +kernel
theorem dX11_swaps_19 : decode cX11_swaps 19 = .ok (.aload_n 0, 1) := by decide +kernel
theorem dX11_swaps_20 : decode cX11_swaps 20 = .ok (.getfield 94, 3) := by decide +kernel
theorem dX11_swaps_23 : decode cX11_swaps 23 = .ok (.iload_n 2, 1) := by decide +kernel
theorem dX11_swaps_24 : decode cX11_swaps 24 = .ok (.iload_n 3, 1) := by decide +kernel
theorem dX11_swaps_25 : decode cX11_swaps 25 = .ok (.iastore, 1) := by decide +kernel
theorem dX11_swaps_26 : decode cX11_swaps 26 = .ok (.return_, 1) := by decide +kernel
theorem dX11_turns_0 : decode cX11_turns 0 = .ok (.aload_n 0, 1) := by decide +kernel
theorem dX11_turns_1 : decode cX11_turns 1 = .ok (.getfield 7, 3) := by decide +kernel
theorem dX11_turns_4 : decode cX11_turns 4 = .ok (.iconst 2, 1) := by decide +kernel
theorem dX11_turns_5 : decode cX11_turns 5 = .ok (.isub, 1) := by decide +kernel
theorem dX11_turns_6 : decode cX11_turns 6 = .ok (.istore_n 1, 1) := by decide +kernel
theorem dX11_turns_7 : decode cX11_turns 7 = .ok (.iload_n 1, 1) := by decide +kernel
theorem dX11_turns_8 : decode cX11_turns 8 = .ok (.ifCond .lt 26, 3) := by decide +kernel
theorem dX11_turns_11 : decode cX11_turns 11 = .ok (.aload_n 0, 1) := by decide +kernel
theorem dX11_turns_12 : decode cX11_turns 12 = .ok (.getfield 94, 3) := by decide +kernel
theorem dX11_turns_15 : decode cX11_turns 15 = .ok (.iload_n 1, 1) := by decide +kernel
theorem dX11_turns_16 : decode cX11_turns 16 = .ok (.iaload, 1) := by decide +kernel
theorem dX11_turns_17 : decode cX11_turns 17 = .ok (.aload_n 0, 1) := by decide +kernel
theorem dX11_turns_18 : decode cX11_turns 18 = .ok (.getfield 94, 3) := by decide +kernel
theorem dX11_turns_21 : decode cX11_turns 21 = .ok (.iload_n 1, 1) := by decide +kernel
theorem dX11_turns_22 : decode cX11_turns 22 = .ok (.iconst 1, 1) := by decide +kernel
theorem dX11_turns_23 : decode cX11_turns 23 = .ok (.iadd, 1) := by decide +kernel
theorem dX11_turns_24 : decode cX11_turns 24 = .ok (.iaload, 1) := by decide +kernel
theorem dX11_turns_25 : decode cX11_turns 25 = .ok (.if_icmp .le 9, 3) := by decide +kernel
theorem dX11_turns_28 : decode cX11_turns 28 = .ok (.iinc 1 (-1), 3) := by decide +kernel
theorem dX11_turns_31 : decode cX11_turns 31 = .ok (.goto (-24), 3) := by decide +kernel
theorem dX11_turns_34 : decode cX11_turns 34 = .ok (.iload_n 1, 1) := by decide +kernel
theorem dX11_turns_35 : decode cX11_turns 35 = .ok (.ifCond .ge 5, 3) := by decide +kernel
theorem dX11_turns_38 : decode cX11_turns 38 = .ok (.iconst 0, 1) := by decide +kernel
theorem dX11_turns_39 : decode cX11_turns 39 = .ok (.ireturn, 1) := by decide +kernel
theorem dX11_turns_40 : decode cX11_turns 40 = .ok (.aload_n 0, 1) := by decide +kernel
theorem dX11_turns_41 : decode cX11_turns 41 = .ok (.getfield 7, 3) := by decide +kernel
theorem dX11_turns_44 : decode cX11_turns 44 = .ok (.iconst 1, 1) := by decide +kernel
theorem dX11_turns_45 : decode cX11_turns 45 = .ok (.isub, 1) := by decide +kernel
theorem dX11_turns_46 : decode cX11_turns 46 = .ok (.istore_n 2, 1) := by decide +kernel
theorem dX11_turns_47 : decode cX11_turns 47 = .ok (.aload_n 0, 1) := by decide +kernel
theorem dX11_turns_48 : decode cX11_turns 48 = .ok (.getfield 94, 3) := by decide +kernel
theorem dX11_turns_51 : decode cX11_turns 51 = .ok (.iload_n 2, 1) := by decide +kernel
theorem dX11_turns_52 : decode cX11_turns 52 = .ok (.iaload, 1) := by decide +kernel
theorem dX11_turns_53 : decode cX11_turns 53 = .ok (.aload_n 0, 1) := by decide +kernel
theorem dX11_turns_54 : decode cX11_turns 54 = .ok (.getfield 94, 3) := by decide +kernel
theorem dX11_turns_57 : decode cX11_turns 57 = .ok (.iload_n 1, 1) := by decide +kernel
theorem dX11_turns_58 : decode cX11_turns 58 = .ok (.iaload, 1) := by decide +kernel
theorem dX11_turns_59 : decode cX11_turns 59 = .ok (.if_icmp .ge 9, 3) := by decide +kernel
theorem dX11_turns_62 : decode cX11_turns 62 = .ok (.iinc 2 (-1), 3) := by decide +kernel
theorem dX11_turns_65 : decode cX11_turns 65 = .ok (.goto (-18), 3) := by decide +kernel
theorem dX11_turns_68 : decode cX11_turns 68 = .ok (.aload_n 0, 1) := by decide +kernel
theorem dX11_turns_69 : decode cX11_turns 69 = .ok (.iload_n 1, 1) := by decide +kernel
theorem dX11_turns_70 : decode cX11_turns 70 = .ok (.iload_n 2, 1) := by decide +kernel
theorem dX11_turns_71 : decode cX11_turns 71 = .ok (.invokevirtual 379, 3) := by decide +kernel
theorem dX11_turns_74 : decode cX11_turns 74 = .ok (.iload_n 1, 1) := by decide +kernel
theorem dX11_turns_75 : decode cX11_turns 75 = .ok (.iconst 1, 1) := by decide +kernel
theorem dX11_turns_76 : decode cX11_turns 76 = .ok (.iadd, 1) := by decide +kernel
theorem dX11_turns_77 : decode cX11_turns 77 = .ok (.istore_n 3, 1) := by decide +kernel
theorem dX11_turns_78 : decode cX11_turns 78 = .ok (.aload_n 0, 1) := by decide +kernel
theorem dX11_turns_79 : decode cX11_turns 79 = .ok (.getfield 7, 3) := by decide +kernel
theorem dX11_turns_82 : decode cX11_turns 82 = .ok (.iconst 1, 1) := by decide +kernel
theorem dX11_turns_83 : decode cX11_turns 83 = .ok (.isub, 1) := by decide +kernel
theorem dX11_turns_84 : decode cX11_turns 84 = .ok (.istore 4, 2) := by decide +kernel
theorem dX11_turns_86 : decode cX11_turns 86 = .ok (.iload_n 3, 1) := by decide +kernel
theorem dX11_turns_87 : decode cX11_turns 87 = .ok (.iload 4, 2) := by decide +kernel
theorem dX11_turns_89 : decode cX11_turns 89 = .ok (.if_icmp .ge 19, 3) := by decide +kernel
theorem dX11_turns_92 : decode cX11_turns 92 = .ok (.aload_n 0, 1) := by decide +kernel
theorem dX11_turns_93 : decode cX11_turns 93 = .ok (.iload_n 3, 1) := by decide +kernel
theorem dX11_turns_94 : decode cX11_turns 94 = .ok (.iload 4, 2) := by decide +kernel
theorem dX11_turns_96 : decode cX11_turns 96 = .ok (.invokevirtual 379, 3) := by decide +kernel
theorem dX11_turns_99 : decode cX11_turns 99 = .ok (.iinc 3 1, 3) := by decide +kernel
theorem dX11_turns_102 : decode cX11_turns 102 = .ok (.iinc 4 (-1), 3) := by decide +kernel
theorem dX11_turns_105 : decode cX11_turns 105 = .ok (.goto (-19), 3) := by decide +kernel
theorem dX11_turns_108 : decode cX11_turns 108 = .ok (.iconst 1, 1) := by decide +kernel
theorem dX11_turns_109 : decode cX11_turns 109 = .ok (.ireturn, 1) := by decide +kernel
theorem dX11_isAlike_0 : decode cX11_isAlike 0 = .ok (.iconst 1, 1) := by decide +kernel
theorem dX11_isAlike_1 : decode cX11_isAlike 1 = .ok (.istore_n 1, 1) := by decide +kernel
theorem dX11_isAlike_2 : decode cX11_isAlike 2 = .ok (.iconst 0, 1) := by decide +kernel
theorem dX11_isAlike_3 : decode cX11_isAlike 3 = .ok (.istore_n 2, 1) := by decide +kernel
theorem dX11_isAlike_4 : decode cX11_isAlike 4 = .ok (.iload_n 2, 1) := by decide +kernel
theorem dX11_isAlike_5 : decode cX11_isAlike 5 = .ok (.aload_n 0, 1) := by decide +kernel
theorem dX11_isAlike_6 : decode cX11_isAlike 6 = .ok (.getfield 7, 3) := by decide +kernel
theorem dX11_isAlike_9 : decode cX11_isAlike 9 = .ok (.if_icmp .ge 98, 3) := by decide +kernel
theorem dX11_isAlike_12 : decode cX11_isAlike 12 = .ok (.iload_n 1, 1) := by decide +kernel
theorem dX11_isAlike_13 : decode cX11_isAlike 13 = .ok (.ifCond .eq 27, 3) := by decide +kernel
theorem dX11_isAlike_16 : decode cX11_isAlike 16 = .ok (.aload_n 0, 1) := by decide +kernel
theorem dX11_isAlike_17 : decode cX11_isAlike 17 = .ok (.getfield 29, 3) := by decide +kernel
theorem dX11_isAlike_20 : decode cX11_isAlike 20 = .ok (.aload_n 0, 1) := by decide +kernel
theorem dX11_isAlike_21 : decode cX11_isAlike 21 = .ok (.getfield 94, 3) := by decide +kernel
theorem dX11_isAlike_24 : decode cX11_isAlike 24 = .ok (.iload_n 2, 1) := by decide +kernel
theorem dX11_isAlike_25 : decode cX11_isAlike 25 = .ok (.iaload, 1) := by decide +kernel
theorem dX11_isAlike_26 : decode cX11_isAlike 26 = .ok (.iaload, 1) := by decide +kernel
theorem dX11_isAlike_27 : decode cX11_isAlike 27 = .ok (.aload_n 0, 1) := by decide +kernel
theorem dX11_isAlike_28 : decode cX11_isAlike 28 = .ok (.getfield 29, 3) := by decide +kernel
theorem dX11_isAlike_31 : decode cX11_isAlike 31 = .ok (.iload_n 2, 1) := by decide +kernel
theorem dX11_isAlike_32 : decode cX11_isAlike 32 = .ok (.iaload, 1) := by decide +kernel
theorem dX11_isAlike_33 : decode cX11_isAlike 33 = .ok (.if_icmp .ne 7, 3) := by decide +kernel
theorem dX11_isAlike_36 : decode cX11_isAlike 36 = .ok (.iconst 1, 1) := by decide +kernel
theorem dX11_isAlike_37 : decode cX11_isAlike 37 = .ok (.goto 4, 3) := by decide +kernel
theorem dX11_isAlike_40 : decode cX11_isAlike 40 = .ok (.iconst 0, 1) := by decide +kernel
theorem dX11_isAlike_41 : decode cX11_isAlike 41 = .ok (.istore_n 1, 1) := by decide +kernel
theorem dX11_isAlike_42 : decode cX11_isAlike 42 = .ok (.iconst 0, 1) := by decide +kernel
theorem dX11_isAlike_43 : decode cX11_isAlike 43 = .ok (.istore_n 3, 1) := by decide +kernel
theorem dX11_isAlike_44 : decode cX11_isAlike 44 = .ok (.iload_n 3, 1) := by decide +kernel
theorem dX11_isAlike_45 : decode cX11_isAlike 45 = .ok (.aload_n 0, 1) := by decide +kernel
theorem dX11_isAlike_46 : decode cX11_isAlike 46 = .ok (.getfield 7, 3) := by decide +kernel
theorem dX11_isAlike_49 : decode cX11_isAlike 49 = .ok (.if_icmp .ge 52, 3) := by decide +kernel
theorem dX11_isAlike_52 : decode cX11_isAlike 52 = .ok (.iload_n 1, 1) := by decide +kernel
theorem dX11_isAlike_53 : decode cX11_isAlike 53 = .ok (.ifCond .eq 40, 3) := by decide +kernel
theorem dX11_isAlike_56 : decode cX11_isAlike 56 = .ok (.aload_n 0, 1) := by decide +kernel
theorem dX11_isAlike_57 : decode cX11_isAlike 57 = .ok (.getfield 26, 3) := by decide +kernel
theorem dX11_isAlike_60 : decode cX11_isAlike 60 = .ok (.aload_n 0, 1) := by decide +kernel
theorem dX11_isAlike_61 : decode cX11_isAlike 61 = .ok (.getfield 94, 3) := by decide +kernel
theorem dX11_isAlike_64 : decode cX11_isAlike 64 = .ok (.iload_n 2, 1) := by decide +kernel
theorem dX11_isAlike_65 : decode cX11_isAlike 65 = .ok (.iaload, 1) := by decide +kernel
theorem dX11_isAlike_66 : decode cX11_isAlike 66 = .ok (.iaload, 1) := by decide +kernel
theorem dX11_isAlike_67 : decode cX11_isAlike 67 = .ok (.aload_n 0, 1) := by decide +kernel
theorem dX11_isAlike_68 : decode cX11_isAlike 68 = .ok (.getfield 94, 3) := by decide +kernel
theorem dX11_isAlike_71 : decode cX11_isAlike 71 = .ok (.iload_n 3, 1) := by decide +kernel
theorem dX11_isAlike_72 : decode cX11_isAlike 72 = .ok (.iaload, 1) := by decide +kernel
theorem dX11_isAlike_73 : decode cX11_isAlike 73 = .ok (.ishr, 1) := by decide +kernel
theorem dX11_isAlike_74 : decode cX11_isAlike 74 = .ok (.iconst 1, 1) := by decide +kernel
theorem dX11_isAlike_75 : decode cX11_isAlike 75 = .ok (.iand, 1) := by decide +kernel
theorem dX11_isAlike_76 : decode cX11_isAlike 76 = .ok (.aload_n 0, 1) := by decide +kernel
theorem dX11_isAlike_77 : decode cX11_isAlike 77 = .ok (.getfield 26, 3) := by decide +kernel
theorem dX11_isAlike_80 : decode cX11_isAlike 80 = .ok (.iload_n 2, 1) := by decide +kernel
theorem dX11_isAlike_81 : decode cX11_isAlike 81 = .ok (.iaload, 1) := by decide +kernel
theorem dX11_isAlike_82 : decode cX11_isAlike 82 = .ok (.iload_n 3, 1) := by decide +kernel
theorem dX11_isAlike_83 : decode cX11_isAlike 83 = .ok (.ishr, 1) := by decide +kernel
theorem dX11_isAlike_84 : decode cX11_isAlike 84 = .ok (.iconst 1, 1) := by decide +kernel
theorem dX11_isAlike_85 : decode cX11_isAlike 85 = .ok (.iand, 1) := by decide +kernel
theorem dX11_isAlike_86 : decode cX11_isAlike 86 = .ok (.if_icmp .ne 7, 3) := by decide +kernel
theorem dX11_isAlike_89 : decode cX11_isAlike 89 = .ok (.iconst 1, 1) := by decide +kernel
theorem dX11_isAlike_90 : decode cX11_isAlike 90 = .ok (.goto 4, 3) := by decide +kernel
theorem dX11_isAlike_93 : decode cX11_isAlike 93 = .ok (.iconst 0, 1) := by decide +kernel
theorem dX11_isAlike_94 : decode cX11_isAlike 94 = .ok (.istore_n 1, 1) := by decide +kernel
theorem dX11_isAlike_95 : decode cX11_isAlike 95 = .ok (.iinc 3 1, 3) := by decide +kernel
theorem dX11_isAlike_98 : decode cX11_isAlike 98 = .ok (.goto (-54), 3) := by decide +kernel
theorem dX11_isAlike_101 : decode cX11_isAlike 101 = .ok (.iinc 2 1, 3) := by decide +kernel
theorem dX11_isAlike_104 : decode cX11_isAlike 104 = .ok (.goto (-100), 3) := by decide +kernel
theorem dX11_isAlike_107 : decode cX11_isAlike 107 = .ok (.iload_n 1, 1) := by decide +kernel
theorem dX11_isAlike_108 : decode cX11_isAlike 108 = .ok (.ireturn, 1) := by decide +kernel
theorem dX11_alike_0 : decode cX11_alike 0 = .ok (.aload_n 0, 1) := by decide +kernel
theorem dX11_alike_1 : decode cX11_alike 1 = .ok (.iconst 0, 1) := by decide +kernel
theorem dX11_alike_2 : decode cX11_alike 2 = .ok (.putfield 174, 3) := by decide +kernel
theorem dX11_alike_5 : decode cX11_alike 5 = .ok (.aload_n 0, 1) := by decide +kernel
theorem dX11_alike_6 : decode cX11_alike 6 = .ok (.getfield 7, 3) := by decide +kernel
theorem dX11_alike_9 : decode cX11_alike 9 = .ok (.bipush 6, 2) := by decide +kernel
theorem dX11_alike_11 : decode cX11_alike 11 = .ok (.if_icmp .le 5, 3) := by decide +kernel
theorem dX11_alike_14 : decode cX11_alike 14 = .ok (.iconst (-1), 1) := by decide +kernel
theorem dX11_alike_15 : decode cX11_alike 15 = .ok (.ireturn, 1) := by decide +kernel
theorem dX11_alike_16 : decode cX11_alike 16 = .ok (.iconst 0, 1) := by decide +kernel
theorem dX11_alike_17 : decode cX11_alike 17 = .ok (.istore_n 1, 1) := by decide +kernel
theorem dX11_alike_18 : decode cX11_alike 18 = .ok (.iload_n 1, 1) := by decide +kernel
theorem dX11_alike_19 : decode cX11_alike 19 = .ok (.aload_n 0, 1) := by decide +kernel
theorem dX11_alike_20 : decode cX11_alike 20 = .ok (.getfield 7, 3) := by decide +kernel
theorem dX11_alike_23 : decode cX11_alike 23 = .ok (.if_icmp .ge 16, 3) := by decide +kernel
theorem dX11_alike_26 : decode cX11_alike 26 = .ok (.aload_n 0, 1) := by decide +kernel
theorem dX11_alike_27 : decode cX11_alike 27 = .ok (.getfield 94, 3) := by decide +kernel
theorem dX11_alike_30 : decode cX11_alike 30 = .ok (.iload_n 1, 1) := by decide +kernel
theorem dX11_alike_31 : decode cX11_alike 31 = .ok (.iload_n 1, 1) := by decide +kernel
theorem dX11_alike_32 : decode cX11_alike 32 = .ok (.iastore, 1) := by decide +kernel
theorem dX11_alike_33 : decode cX11_alike 33 = .ok (.iinc 1 1, 3) := by decide +kernel
theorem dX11_alike_36 : decode cX11_alike 36 = .ok (.goto (-18), 3) := by decide +kernel
theorem dX11_alike_39 : decode cX11_alike 39 = .ok (.iconst 0, 1) := by decide +kernel
theorem dX11_alike_40 : decode cX11_alike 40 = .ok (.istore_n 1, 1) := by decide +kernel
theorem dX11_alike_41 : decode cX11_alike 41 = .ok (.iconst 1, 1) := by decide +kernel
theorem dX11_alike_42 : decode cX11_alike 42 = .ok (.istore_n 2, 1) := by decide +kernel
theorem dX11_alike_43 : decode cX11_alike 43 = .ok (.iload_n 2, 1) := by decide +kernel
theorem dX11_alike_44 : decode cX11_alike 44 = .ok (.ifCond .eq 21, 3) := by decide +kernel
theorem dX11_alike_47 : decode cX11_alike 47 = .ok (.aload_n 0, 1) := by decide +kernel
theorem dX11_alike_48 : decode cX11_alike 48 = .ok (.invokevirtual 382, 3) := by decide +kernel
theorem dX11_alike_51 : decode cX11_alike 51 = .ok (.ifCond .eq 6, 3) := by decide +kernel
theorem dX11_alike_54 : decode cX11_alike 54 = .ok (.iinc 1 1, 3) := by decide +kernel
theorem dX11_alike_57 : decode cX11_alike 57 = .ok (.aload_n 0, 1) := by decide +kernel
theorem dX11_alike_58 : decode cX11_alike 58 = .ok (.invokevirtual 385, 3) := by decide +kernel
theorem dX11_alike_61 : decode cX11_alike 61 = .ok (.istore_n 2, 1) := by decide +kernel
theorem dX11_alike_62 : decode cX11_alike 62 = .ok (.goto (-19), 3) := by decide +kernel
theorem dX11_alike_65 : decode cX11_alike 65 = .ok (.iload_n 1, 1) := by decide +kernel
theorem dX11_alike_66 : decode cX11_alike 66 = .ok (.ireturn, 1) := by decide +kernel
theorem dX11_ring_0 : decode cX11_ring 0 = .ok (.aload_n 0, 1) := by decide +kernel
theorem dX11_ring_1 : decode cX11_ring 1 = .ok (.iconst 0, 1) := by decide +kernel
theorem dX11_ring_2 : decode cX11_ring 2 = .ok (.putfield 174, 3) := by decide +kernel
theorem dX11_ring_5 : decode cX11_ring 5 = .ok (.iconst (-1), 1) := by decide +kernel
theorem dX11_ring_6 : decode cX11_ring 6 = .ok (.istore_n 1, 1) := by decide +kernel
theorem dX11_ring_7 : decode cX11_ring 7 = .ok (.iconst 0, 1) := by decide +kernel
theorem dX11_ring_8 : decode cX11_ring 8 = .ok (.istore_n 2, 1) := by decide +kernel
theorem dX11_ring_9 : decode cX11_ring 9 = .ok (.iload_n 2, 1) := by decide +kernel
theorem dX11_ring_10 : decode cX11_ring 10 = .ok (.aload_n 0, 1) := by decide +kernel
theorem dX11_ring_11 : decode cX11_ring 11 = .ok (.getfield 7, 3) := by decide +kernel
theorem dX11_ring_14 : decode cX11_ring 14 = .ok (.if_icmp .ge 114, 3) := by decide +kernel
theorem dX11_ring_17 : decode cX11_ring 17 = .ok (.iconst 0, 1) := by decide +kernel
theorem dX11_ring_18 : decode cX11_ring 18 = .ok (.istore_n 3, 1) := by decide +kernel
theorem dX11_ring_19 : decode cX11_ring 19 = .ok (.aload_n 0, 1) := by decide +kernel
theorem dX11_ring_20 : decode cX11_ring 20 = .ok (.getfield 26, 3) := by decide +kernel
theorem dX11_ring_23 : decode cX11_ring 23 = .ok (.iload_n 2, 1) := by decide +kernel
theorem dX11_ring_24 : decode cX11_ring 24 = .ok (.iaload, 1) := by decide +kernel
theorem dX11_ring_25 : decode cX11_ring 25 = .ok (.istore 4, 2) := by decide +kernel
theorem dX11_ring_27 : decode cX11_ring 27 = .ok (.iconst 1, 1) := by decide +kernel
theorem dX11_ring_28 : decode cX11_ring 28 = .ok (.istore 5, 2) := by decide +kernel
theorem dX11_ring_30 : decode cX11_ring 30 = .ok (.iload 4, 2) := by decide +kernel
theorem dX11_ring_32 : decode cX11_ring 32 = .ok (.ifCond .eq 90, 3) := by decide +kernel
theorem dX11_ring_35 : decode cX11_ring 35 = .ok (.iload_n 1, 1) := by decide +kernel
theorem dX11_ring_36 : decode cX11_ring 36 = .ok (.iconst (-1), 1) := by decide +kernel
theorem dX11_ring_37 : decode cX11_ring 37 = .ok (.if_icmp .eq 9, 3) := by decide +kernel
theorem dX11_ring_40 : decode cX11_ring 40 = .ok (.iload 5, 2) := by decide +kernel
theorem dX11_ring_42 : decode cX11_ring 42 = .ok (.iload_n 1, 1) := by decide +kernel
theorem dX11_ring_43 : decode cX11_ring 43 = .ok (.if_icmp .ge 79, 3) := by decide +kernel
theorem dX11_ring_46 : decode cX11_ring 46 = .ok (.iload 4, 2) := by decide +kernel
theorem dX11_ring_48 : decode cX11_ring 48 = .ok (.iload_n 2, 1) := by decide +kernel
theorem dX11_ring_49 : decode cX11_ring 49 = .ok (.ishr, 1) := by decide +kernel
theorem dX11_ring_50 : decode cX11_ring 50 = .ok (.iconst 1, 1) := by decide +kernel
theorem dX11_ring_51 : decode cX11_ring 51 = .ok (.iand, 1) := by decide +kernel
theorem dX11_ring_52 : decode cX11_ring 52 = .ok (.iconst 1, 1) := by decide +kernel
theorem dX11_ring_53 : decode cX11_ring 53 = .ok (.if_icmp .ne 6, 3) := by decide +kernel
theorem dX11_ring_56 : decode cX11_ring 56 = .ok (.iload 5, 2) := by decide +kernel
theorem dX11_ring_58 : decode cX11_ring 58 = .ok (.istore_n 1, 1) := by decide +kernel
theorem dX11_ring_59 : decode cX11_ring 59 = .ok (.iload_n 3, 1) := by decide +kernel
theorem dX11_ring_60 : decode cX11_ring 60 = .ok (.iload 4, 2) := by decide +kernel
theorem dX11_ring_62 : decode cX11_ring 62 = .ok (.ior, 1) := by decide +kernel
theorem dX11_ring_63 : decode cX11_ring 63 = .ok (.istore_n 3, 1) := by decide +kernel
theorem dX11_ring_64 : decode cX11_ring 64 = .ok (.iconst 0, 1) := by decide +kernel
theorem dX11_ring_65 : decode cX11_ring 65 = .ok (.istore 6, 2) := by decide +kernel
theorem dX11_ring_67 : decode cX11_ring 67 = .ok (.iconst 0, 1) := by decide +kernel
theorem dX11_ring_68 : decode cX11_ring 68 = .ok (.istore 7, 2) := by decide +kernel
theorem dX11_ring_70 : decode cX11_ring 70 = .ok (.iload 7, 2) := by decide +kernel
theorem dX11_ring_72 : decode cX11_ring 72 = .ok (.aload_n 0, 1) := by decide +kernel
theorem dX11_ring_73 : decode cX11_ring 73 = .ok (.getfield 7, 3) := by decide +kernel
theorem dX11_ring_76 : decode cX11_ring 76 = .ok (.if_icmp .ge 32, 3) := by decide +kernel
theorem dX11_ring_79 : decode cX11_ring 79 = .ok (.iload 4, 2) := by decide +kernel
theorem dX11_ring_81 : decode cX11_ring 81 = .ok (.iload 7, 2) := by decide +kernel
theorem dX11_ring_83 : decode cX11_ring 83 = .ok (.ishr, 1) := by decide +kernel
theorem dX11_ring_84 : decode cX11_ring 84 = .ok (.iconst 1, 1) := by decide +kernel
theorem dX11_ring_85 : decode cX11_ring 85 = .ok (.iand, 1) := by decide +kernel
theorem dX11_ring_86 : decode cX11_ring 86 = .ok (.iconst 1, 1) := by decide +kernel
theorem dX11_ring_87 : decode cX11_ring 87 = .ok (.if_icmp .ne 15, 3) := by decide +kernel
theorem dX11_ring_90 : decode cX11_ring 90 = .ok (.iload 6, 2) := by decide +kernel
theorem dX11_ring_92 : decode cX11_ring 92 = .ok (.aload_n 0, 1) := by decide +kernel
theorem dX11_ring_93 : decode cX11_ring 93 = .ok (.getfield 26, 3) := by decide +kernel
theorem dX11_ring_96 : decode cX11_ring 96 = .ok (.iload 7, 2) := by decide +kernel
theorem dX11_ring_98 : decode cX11_ring 98 = .ok (.iaload, 1) := by decide +kernel
theorem dX11_ring_99 : decode cX11_ring 99 = .ok (.ior, 1) := by decide +kernel
theorem dX11_ring_100 : decode cX11_ring 100 = .ok (.istore 6, 2) := by decide +kernel
theorem dX11_ring_102 : decode cX11_ring 102 = .ok (.iinc 7 1, 3) := by decide +kernel
theorem dX11_ring_105 : decode cX11_ring 105 = .ok (.goto (-35), 3) := by decide +kernel
theorem dX11_ring_108 : decode cX11_ring 108 = .ok (.iload 6, 2) := by decide +kernel
theorem dX11_ring_110 : decode cX11_ring 110 = .ok (.iload_n 3, 1) := by decide +kernel
theorem dX11_ring_111 : decode cX11_ring 111 = .ok (.iconst (-1), 1) := by decide +kernel
theorem dX11_ring_112 : decode cX11_ring 112 = .ok (.ixor, 1) := by decide +kernel
theorem dX11_ring_113 : decode cX11_ring 113 = .ok (.iand, 1) := by decide +kernel
theorem dX11_ring_114 : decode cX11_ring 114 = .ok (.istore 4, 2) := by decide +kernel
theorem dX11_ring_116 : decode cX11_ring 116 = .ok (.iinc 5 1, 3) := by decide +kernel
theorem dX11_ring_119 : decode cX11_ring 119 = .ok (.goto (-89), 3) := by decide +kernel
theorem dX11_ring_122 : decode cX11_ring 122 = .ok (.iinc 2 1, 3) := by decide +kernel
theorem dX11_ring_125 : decode cX11_ring 125 = .ok (.goto (-116), 3) := by decide +kernel
theorem dX11_ring_128 : decode cX11_ring 128 = .ok (.iload_n 1, 1) := by decide +kernel
theorem dX11_ring_129 : decode cX11_ring 129 = .ok (.ireturn, 1) := by decide +kernel
theorem dX11_areAtOnce_0 : decode cX11_areAtOnce 0 = .ok (.iconst 1, 1) := by decide +kernel
theorem dX11_areAtOnce_1 : decode cX11_areAtOnce 1 = .ok (.istore_n 1, 1) := by decide +kernel
theorem dX11_areAtOnce_2 : decode cX11_areAtOnce 2 = .ok (.iconst 0, 1) := by decide +kernel
theorem dX11_areAtOnce_3 : decode cX11_areAtOnce 3 = .ok (.istore_n 2, 1) := by decide +kernel
theorem dX11_areAtOnce_4 : decode cX11_areAtOnce 4 = .ok (.iload_n 2, 1) := by decide +kernel
theorem dX11_areAtOnce_5 : decode cX11_areAtOnce 5 = .ok (.aload_n 0, 1) := by decide +kernel
theorem dX11_areAtOnce_6 : decode cX11_areAtOnce 6 = .ok (.getfield 7, 3) := by decide +kernel
theorem dX11_areAtOnce_9 : decode cX11_areAtOnce 9 = .ok (.if_icmp .ge 39, 3) := by decide +kernel
theorem dX11_areAtOnce_12 : decode cX11_areAtOnce 12 = .ok (.iload_n 1, 1) := by decide +kernel
theorem dX11_areAtOnce_13 : decode cX11_areAtOnce 13 = .ok (.ifCond .eq 27, 3) := by decide +kernel
theorem dX11_areAtOnce_16 : decode cX11_areAtOnce 16 = .ok (.aload_n 0, 1) := by decide +kernel
theorem dX11_areAtOnce_17 : decode cX11_areAtOnce 17 = .ok (.getfield 29, 3) := by decide +kernel
theorem dX11_areAtOnce_20 : decode cX11_areAtOnce 20 = .ok (.iload_n 2, 1) := by decide +kernel
theorem dX11_areAtOnce_21 : decode cX11_areAtOnce 21 = .ok (.iaload, 1) := by decide +kernel
theorem dX11_areAtOnce_22 : decode cX11_areAtOnce 22 = .ok (.ifCond .ne 18, 3) := by decide +kernel
theorem dX11_areAtOnce_25 : decode cX11_areAtOnce 25 = .ok (.aload_n 0, 1) := by decide +kernel
theorem dX11_areAtOnce_26 : decode cX11_areAtOnce 26 = .ok (.iload_n 2, 1) := by decide +kernel
theorem dX11_areAtOnce_27 : decode cX11_areAtOnce 27 = .ok (.invokevirtual 184, 3) := by decide +kernel
theorem dX11_areAtOnce_30 : decode cX11_areAtOnce 30 = .ok (.sipush 1024, 3) := by decide +kernel
theorem dX11_areAtOnce_33 : decode cX11_areAtOnce 33 = .ok (.if_icmp .gt 7, 3) := by decide +kernel
theorem dX11_areAtOnce_36 : decode cX11_areAtOnce 36 = .ok (.iconst 1, 1) := by decide +kernel
theorem dX11_areAtOnce_37 : decode cX11_areAtOnce 37 = .ok (.goto 4, 3) := by decide +kernel
theorem dX11_areAtOnce_40 : decode cX11_areAtOnce 40 = .ok (.iconst 0, 1) := by decide +kernel
theorem dX11_areAtOnce_41 : decode cX11_areAtOnce 41 = .ok (.istore_n 1, 1) := by decide +kernel
theorem dX11_areAtOnce_42 : decode cX11_areAtOnce 42 = .ok (.iinc 2 1, 3) := by decide +kernel
theorem dX11_areAtOnce_45 : decode cX11_areAtOnce 45 = .ok (.goto (-41), 3) := by decide +kernel
theorem dX11_areAtOnce_48 : decode cX11_areAtOnce 48 = .ok (.iload_n 1, 1) := by decide +kernel
theorem dX11_areAtOnce_49 : decode cX11_areAtOnce 49 = .ok (.ireturn, 1) := by decide +kernel
theorem dX11_views_0 : decode cX11_views 0 = .ok (.iconst 0, 1) := by decide +kernel
theorem dX11_views_1 : decode cX11_views 1 = .ok (.istore_n 1, 1) := by decide +kernel
theorem dX11_views_2 : decode cX11_views 2 = .ok (.iload_n 1, 1) := by decide +kernel
theorem dX11_views_3 : decode cX11_views 3 = .ok (.aload_n 0, 1) := by decide +kernel
theorem dX11_views_4 : decode cX11_views 4 = .ok (.getfield 16, 3) := by decide +kernel
theorem dX11_views_7 : decode cX11_views 7 = .ok (.if_icmp .ge 46, 3) := by decide +kernel
theorem dX11_views_10 : decode cX11_views 10 = .ok (.aload_n 0, 1) := by decide +kernel
theorem dX11_views_11 : decode cX11_views 11 = .ok (.iload_n 1, 1) := by decide +kernel
theorem dX11_views_12 : decode cX11_views 12 = .ok (.invokevirtual 345, 3) := by decide +kernel
theorem dX11_views_15 : decode cX11_views 15 = .ok (.iconst 0, 1) := by decide +kernel
theorem dX11_views_16 : decode cX11_views 16 = .ok (.istore_n 2, 1) := by decide +kernel
theorem dX11_views_17 : decode cX11_views 17 = .ok (.iload_n 2, 1) := by decide +kernel
theorem dX11_views_18 : decode cX11_views 18 = .ok (.aload_n 0, 1) := by decide +kernel
theorem dX11_views_19 : decode cX11_views 19 = .ok (.getfield 7, 3) := by decide +kernel
theorem dX11_views_22 : decode cX11_views 22 = .ok (.if_icmp .ge 25, 3) := by decide +kernel
theorem dX11_views_25 : decode cX11_views 25 = .ok (.aload_n 0, 1) := by decide +kernel
theorem dX11_views_26 : decode cX11_views 26 = .ok (.getfield 100, 3) := by decide +kernel
theorem dX11_views_29 : decode cX11_views 29 = .ok (.bipush 8, 2) := by decide +kernel
theorem dX11_views_31 : decode cX11_views 31 = .ok (.iload_n 1, 1) := by decide +kernel
theorem dX11_views_32 : decode cX11_views 32 = .ok (.imul, 1) := by decide +kernel
theorem dX11_views_33 : decode cX11_views 33 = .ok (.iload_n 2, 1) := by decide +kernel
theorem dX11_views_34 : decode cX11_views 34 = .ok (.iadd, 1) := by decide +kernel
theorem dX11_views_35 : decode cX11_views 35 = .ok (.aload_n 0, 1) := by decide +kernel
theorem dX11_views_36 : decode cX11_views 36 = .ok (.iload_n 2, 1) := by decide +kernel
theorem dX11_views_37 : decode cX11_views 37 = .ok (.invokevirtual 339, 3) := by decide +kernel
theorem dX11_views_40 : decode cX11_views 40 = .ok (.iastore, 1) := by decide +kernel
theorem dX11_views_41 : decode cX11_views 41 = .ok (.iinc 2 1, 3) := by decide +kernel
theorem dX11_views_44 : decode cX11_views 44 = .ok (.goto (-27), 3) := by decide +kernel
theorem dX11_views_47 : decode cX11_views 47 = .ok (.iinc 1 1, 3) := by decide +kernel
theorem dX11_views_50 : decode cX11_views 50 = .ok (.goto (-48), 3) := by decide +kernel
theorem dX11_views_53 : decode cX11_views 53 = .ok (.return_, 1) := by decide +kernel
theorem dX11_hatIn_0 : decode cX11_hatIn 0 = .ok (.iload_n 0, 1) := by decide +kernel
theorem dX11_hatIn_1 : decode cX11_hatIn 1 = .ok (.istore_n 3, 1) := by decide +kernel
theorem dX11_hatIn_2 : decode cX11_hatIn 2 = .ok (.iconst 0, 1) := by decide +kernel
theorem dX11_hatIn_3 : decode cX11_hatIn 3 = .ok (.istore 4, 2) := by decide +kernel
theorem dX11_hatIn_5 : decode cX11_hatIn 5 = .ok (.iload 4, 2) := by decide +kernel
theorem dX11_hatIn_7 : decode cX11_hatIn 7 = .ok (.iload_n 1, 1) := by decide +kernel
theorem dX11_hatIn_8 : decode cX11_hatIn 8 = .ok (.if_icmp .ge 13, 3) := by decide +kernel
theorem dX11_hatIn_11 : decode cX11_hatIn 11 = .ok (.iload_n 3, 1) := by decide +kernel
theorem dX11_hatIn_12 : decode cX11_hatIn 12 = .ok (.iload_n 2, 1) := by decide +kernel
theorem dX11_hatIn_13 : decode cX11_hatIn 13 = .ok (.idiv, 1) := by decide +kernel
theorem dX11_hatIn_14 : decode cX11_hatIn 14 = .ok (.istore_n 3, 1) := by decide +kernel
theorem dX11_hatIn_15 : decode cX11_hatIn 15 = .ok (.iinc 4 1, 3) := by decide +kernel
theorem dX11_hatIn_18 : decode cX11_hatIn 18 = .ok (.goto (-13), 3) := by decide +kernel
theorem dX11_hatIn_21 : decode cX11_hatIn 21 = .ok (.iload_n 3, 1) := by decide +kernel
theorem dX11_hatIn_22 : decode cX11_hatIn 22 = .ok (.iload_n 2, 1) := by decide +kernel
theorem dX11_hatIn_23 : decode cX11_hatIn 23 = .ok (.irem, 1) := by decide +kernel
theorem dX11_hatIn_24 : decode cX11_hatIn 24 = .ok (.ireturn, 1) := by decide +kernel
theorem dX11_isSomeRight_0 : decode cX11_isSomeRight 0 = .ok (.iconst 0, 1) := by decide +kernel
theorem dX11_isSomeRight_1 : decode cX11_isSomeRight 1 = .ok (.istore_n 2, 1) := by decide +kernel
theorem dX11_isSomeRight_2 : decode cX11_isSomeRight 2 = .ok (.iload_n 1, 1) := by decide +kernel
theorem dX11_isSomeRight_3 : decode cX11_isSomeRight 3 = .ok (.istore_n 3, 1) := by decide +kernel
theorem dX11_isSomeRight_4 : decode cX11_isSomeRight 4 = .ok (.iconst 0, 1) := by decide +kernel
theorem dX11_isSomeRight_5 : decode cX11_isSomeRight 5 = .ok (.istore 4, 2) := by decide +kernel
theorem dX11_isSomeRight_7 : decode cX11_isSomeRight 7 = .ok (.iload 4, 2) := by decide +kernel
theorem dX11_isSomeRight_9 : decode cX11_isSomeRight 9 = .ok (.aload_n 0, 1) := by decide +kernel
theorem dX11_isSomeRight_10 : decode cX11_isSomeRight 10 = .ok (.getfield 7, 3) := by decide +kernel
theorem dX11_isSomeRight_13 : decode cX11_isSomeRight 13 = .ok (.if_icmp .ge 59, 3) := by decide +kernel
theorem dX11_isSomeRight_16 : decode cX11_isSomeRight 16 = .ok (.iload_n 2, 1) := by decide +kernel
theorem dX11_isSomeRight_17 : decode cX11_isSomeRight 17 = .ok (.ifCond .ne 36, 3) := by decide +kernel
theorem dX11_isSomeRight_20 : decode cX11_isSomeRight 20 = .ok (.aload_n 0, 1) := by decide +kernel
theorem dX11_isSomeRight_21 : decode cX11_isSomeRight 21 = .ok (.getfield 97, 3) := by decide +kernel
theorem dX11_isSomeRight_24 : decode cX11_isSomeRight 24 = .ok (.sipush 1024, 3) := by decide +kernel
theorem dX11_isSomeRight_27 : decode cX11_isSomeRight 27 = .ok (.iload 4, 2) := by decide +kernel
theorem dX11_isSomeRight_29 : decode cX11_isSomeRight 29 = .ok (.imul, 1) := by decide +kernel
theorem dX11_isSomeRight_30 : decode cX11_isSomeRight 30 = .ok (.aload_n 0, 1) := by decide +kernel
theorem dX11_isSomeRight_31 : decode cX11_isSomeRight 31 = .ok (.getfield 100, 3) := by decide +kernel
theorem dX11_isSomeRight_34 : decode cX11_isSomeRight 34 = .ok (.bipush 8, 2) := by decide +kernel
theorem dX11_isSomeRight_36 : decode cX11_isSomeRight 36 = .ok (.iload_n 1, 1) := by decide +kernel
theorem dX11_isSomeRight_37 : decode cX11_isSomeRight 37 = .ok (.imul, 1) := by decide +kernel
theorem dX11_isSomeRight_38 : decode cX11_isSomeRight 38 = .ok (.iload 4, 2) := by decide +kernel
theorem dX11_isSomeRight_40 : decode cX11_isSomeRight 40 = .ok (.iadd, 1) := by decide +kernel
theorem dX11_isSomeRight_41 : decode cX11_isSomeRight 41 = .ok (.iaload, 1) := by decide +kernel
theorem dX11_isSomeRight_42 : decode cX11_isSomeRight 42 = .ok (.iadd, 1) := by decide +kernel
theorem dX11_isSomeRight_43 : decode cX11_isSomeRight 43 = .ok (.iaload, 1) := by decide +kernel
theorem dX11_isSomeRight_44 : decode cX11_isSomeRight 44 = .ok (.iload_n 3, 1) := by decide +kernel
theorem dX11_isSomeRight_45 : decode cX11_isSomeRight 45 = .ok (.aload_n 0, 1) := by decide +kernel
theorem dX11_isSomeRight_46 : decode cX11_isSomeRight 46 = .ok (.getfield 13, 3) := by decide +kernel
theorem dX11_isSomeRight_49 : decode cX11_isSomeRight 49 = .ok (.irem, 1) := by decide +kernel
theorem dX11_isSomeRight_50 : decode cX11_isSomeRight 50 = .ok (.if_icmp .ne 7, 3) := by decide +kernel
theorem dX11_isSomeRight_53 : decode cX11_isSomeRight 53 = .ok (.iconst 1, 1) := by decide +kernel
theorem dX11_isSomeRight_54 : decode cX11_isSomeRight 54 = .ok (.goto 4, 3) := by decide +kernel
theorem dX11_isSomeRight_57 : decode cX11_isSomeRight 57 = .ok (.iconst 0, 1) := by decide +kernel
theorem dX11_isSomeRight_58 : decode cX11_isSomeRight 58 = .ok (.istore_n 2, 1) := by decide +kernel
theorem dX11_isSomeRight_59 : decode cX11_isSomeRight 59 = .ok (.iload_n 3, 1) := by decide +kernel
theorem dX11_isSomeRight_60 : decode cX11_isSomeRight 60 = .ok (.aload_n 0, 1) := by decide +kernel
theorem dX11_isSomeRight_61 : decode cX11_isSomeRight 61 = .ok (.getfield 13, 3) := by decide +kernel
theorem dX11_isSomeRight_64 : decode cX11_isSomeRight 64 = .ok (.idiv, 1) := by decide +kernel
theorem dX11_isSomeRight_65 : decode cX11_isSomeRight 65 = .ok (.istore_n 3, 1) := by decide +kernel
theorem dX11_isSomeRight_66 : decode cX11_isSomeRight 66 = .ok (.iinc 4 1, 3) := by decide +kernel
theorem dX11_isSomeRight_69 : decode cX11_isSomeRight 69 = .ok (.goto (-62), 3) := by decide +kernel
theorem dX11_isSomeRight_72 : decode cX11_isSomeRight 72 = .ok (.iload_n 2, 1) := by decide +kernel
theorem dX11_isSomeRight_73 : decode cX11_isSomeRight 73 = .ok (.ireturn, 1) := by decide +kernel
theorem dX11_search_0 : decode cX11_search 0 = .ok (.aload_n 0, 1) := by decide +kernel
theorem dX11_search_1 : decode cX11_search 1 = .ok (.iconst 0, 1) := by decide +kernel
theorem dX11_search_2 : decode cX11_search 2 = .ok (.putfield 174, 3) := by decide +kernel
theorem dX11_search_5 : decode cX11_search 5 = .ok (.aload_n 0, 1) := by decide +kernel
theorem dX11_search_6 : decode cX11_search 6 = .ok (.iload_n 1, 1) := by decide +kernel
theorem dX11_search_7 : decode cX11_search 7 = .ok (.iconst 0, 1) := by decide +kernel
theorem dX11_search_8 : decode cX11_search 8 = .ok (.sipush 5000, 3) := by decide +kernel
theorem dX11_search_11 : decode cX11_search 11 = .ok (.invokestatic 199, 3) := by decide +kernel
theorem dX11_search_14 : decode cX11_search 14 = .ok (.ifCond .eq 14, 3) := by decide +kernel
theorem dX11_search_17 : decode cX11_search 17 = .ok (.aload_n 0, 1) := by decide +kernel
theorem dX11_search_18 : decode cX11_search 18 = .ok (.invokevirtual 388, 3) := by decide +kernel
theorem dX11_search_21 : decode cX11_search 21 = .ok (.ifCond .eq 7, 3) := by decide +kernel
theorem dX11_search_24 : decode cX11_search 24 = .ok (.iconst 1, 1) := by decide +kernel
theorem dX11_search_25 : decode cX11_search 25 = .ok (.goto 4, 3) := by decide +kernel
theorem dX11_search_28 : decode cX11_search 28 = .ok (.iconst 0, 1) := by decide +kernel
theorem dX11_search_29 : decode cX11_search 29 = .ok (.iconst 1, 1) := by decide +kernel
theorem dX11_search_30 : decode cX11_search 30 = .ok (.invokevirtual 203, 3) := by decide +kernel
theorem dX11_search_33 : decode cX11_search 33 = .ok (.ifCond .ne 5, 3) := by decide +kernel
theorem dX11_search_36 : decode cX11_search 36 = .ok (.iconst 0, 1) := by decide +kernel
theorem dX11_search_37 : decode cX11_search 37 = .ok (.ireturn, 1) := by decide +kernel
theorem dX11_search_38 : decode cX11_search 38 = .ok (.aload_n 0, 1) := by decide +kernel
theorem dX11_search_39 : decode cX11_search 39 = .ok (.invokevirtual 391, 3) := by decide +kernel
theorem dX11_search_42 : decode cX11_search 42 = .ok (.iconst 0, 1) := by decide +kernel
theorem dX11_search_43 : decode cX11_search 43 = .ok (.istore_n 2, 1) := by decide +kernel
theorem dX11_search_44 : decode cX11_search 44 = .ok (.iload_n 2, 1) := by decide +kernel
theorem dX11_search_45 : decode cX11_search 45 = .ok (.sipush 8192, 3) := by decide +kernel
theorem dX11_search_48 : decode cX11_search 48 = .ok (.if_icmp .ge 16, 3) := by decide +kernel
theorem dX11_search_51 : decode cX11_search 51 = .ok (.aload_n 0, 1) := by decide +kernel
theorem dX11_search_52 : decode cX11_search 52 = .ok (.getfield 97, 3) := by decide +kernel
theorem dX11_search_55 : decode cX11_search 55 = .ok (.iload_n 2, 1) := by decide +kernel
theorem dX11_search_56 : decode cX11_search 56 = .ok (.iconst (-1), 1) := by decide +kernel
theorem dX11_search_57 : decode cX11_search 57 = .ok (.iastore, 1) := by decide +kernel
theorem dX11_search_58 : decode cX11_search 58 = .ok (.iinc 2 1, 3) := by decide +kernel
theorem dX11_search_61 : decode cX11_search 61 = .ok (.goto (-17), 3) := by decide +kernel
theorem dX11_search_64 : decode cX11_search 64 = .ok (.aload_n 0, 1) := by decide +kernel
theorem dX11_search_65 : decode cX11_search 65 = .ok (.iconst 0, 1) := by decide +kernel
theorem dX11_search_66 : decode cX11_search 66 = .ok (.putfield 109, 3) := by decide +kernel
theorem dX11_search_69 : decode cX11_search 69 = .ok (.iconst 0, 1) := by decide +kernel
theorem dX11_search_70 : decode cX11_search 70 = .ok (.istore_n 2, 1) := by decide +kernel
theorem dX11_search_71 : decode cX11_search 71 = .ok (.iconst 0, 1) := by decide +kernel
theorem dX11_search_72 : decode cX11_search 72 = .ok (.istore_n 3, 1) := by decide +kernel
theorem dX11_search_73 : decode cX11_search 73 = .ok (.iconst 0, 1) := by decide +kernel
theorem dX11_search_74 : decode cX11_search 74 = .ok (.istore 4, 2) := by decide +kernel
theorem dX11_search_76 : decode cX11_search 76 = .ok (.iload_n 3, 1) := by decide +kernel
theorem dX11_search_77 : decode cX11_search 77 = .ok (.aload_n 0, 1) := by decide +kernel
theorem dX11_search_78 : decode cX11_search 78 = .ok (.getfield 16, 3) := by decide +kernel
theorem dX11_search_81 : decode cX11_search 81 = .ok (.if_icmp .ge 234, 3) := by decide +kernel
theorem dX11_search_84 : decode cX11_search 84 = .ok (.iload 4, 2) := by decide +kernel
theorem dX11_search_86 : decode cX11_search 86 = .ok (.istore 5, 2) := by decide +kernel
theorem dX11_search_88 : decode cX11_search 88 = .ok (.iload 4, 2) := by decide +kernel
theorem dX11_search_90 : decode cX11_search 90 = .ok (.ifCond .ne 15, 3) := by decide +kernel
theorem dX11_search_93 : decode cX11_search 93 = .ok (.aload_n 0, 1) := by decide +kernel
theorem dX11_search_94 : decode cX11_search 94 = .ok (.iload_n 3, 1) := by decide +kernel
theorem dX11_search_95 : decode cX11_search 95 = .ok (.invokevirtual 394, 3) := by decide +kernel
theorem dX11_search_98 : decode cX11_search 98 = .ok (.ifCond .eq 7, 3) := by decide +kernel
theorem dX11_search_101 : decode cX11_search 101 = .ok (.iconst 1, 1) := by decide +kernel
theorem dX11_search_102 : decode cX11_search 102 = .ok (.goto 4, 3) := by decide +kernel
theorem dX11_search_105 : decode cX11_search 105 = .ok (.iconst 0, 1) := by decide +kernel
theorem dX11_search_106 : decode cX11_search 106 = .ok (.istore 6, 2) := by decide +kernel
theorem dX11_search_108 : decode cX11_search 108 = .ok (.iload 6, 2) := by decide +kernel
theorem dX11_search_110 : decode cX11_search 110 = .ok (.ifCond .ne 46, 3) := by decide +kernel
theorem dX11_search_113 : decode cX11_search 113 = .ok (.iload 5, 2) := by decide +kernel
theorem dX11_search_115 : decode cX11_search 115 = .ok (.aload_n 0, 1) := by decide +kernel
theorem dX11_search_116 : decode cX11_search 116 = .ok (.getfield 7, 3) := by decide +kernel
theorem dX11_search_119 : decode cX11_search 119 = .ok (.if_icmp .ge 37, 3) := by decide +kernel
theorem dX11_search_122 : decode cX11_search 122 = .ok (.aload_n 0, 1) := by decide +kernel
theorem dX11_search_123 : decode cX11_search 123 = .ok (.getfield 97, 3) := by decide +kernel
theorem dX11_search_126 : decode cX11_search 126 = .ok (.sipush 1024, 3) := by decide +kernel
theorem dX11_search_129 : decode cX11_search 129 = .ok (.iload 5, 2) := by decide +kernel
theorem dX11_search_131 : decode cX11_search 131 = .ok (.imul, 1) := by decide +kernel
theorem dX11_search_132 : decode cX11_search 132 = .ok (.aload_n 0, 1) := by decide +kernel
theorem dX11_search_133 : decode cX11_search 133 = .ok (.getfield 100, 3) := by decide +kernel
theorem dX11_search_136 : decode cX11_search 136 = .ok (.bipush 8, 2) := by decide +kernel
theorem dX11_search_138 : decode cX11_search 138 = .ok (.iload_n 3, 1) := by decide +kernel
theorem dX11_search_139 : decode cX11_search 139 = .ok (.imul, 1) := by decide +kernel
theorem dX11_search_140 : decode cX11_search 140 = .ok (.iload 5, 2) := by decide +kernel
theorem dX11_search_142 : decode cX11_search 142 = .ok (.iadd, 1) := by decide +kernel
theorem dX11_search_143 : decode cX11_search 143 = .ok (.iaload, 1) := by decide +kernel
theorem dX11_search_144 : decode cX11_search 144 = .ok (.iadd, 1) := by decide +kernel
theorem dX11_search_145 : decode cX11_search 145 = .ok (.iaload, 1) := by decide +kernel
theorem dX11_search_146 : decode cX11_search 146 = .ok (.iconst (-1), 1) := by decide +kernel
theorem dX11_search_147 : decode cX11_search 147 = .ok (.if_icmp .eq 9, 3) := by decide +kernel
theorem dX11_search_150 : decode cX11_search 150 = .ok (.iinc 5 1, 3) := by decide +kernel
theorem dX11_search_153 : decode cX11_search 153 = .ok (.goto (-45), 3) := by decide +kernel
theorem dX11_search_156 : decode cX11_search 156 = .ok (.iload 6, 2) := by decide +kernel
theorem dX11_search_158 : decode cX11_search 158 = .ok (.ifCond .ne 70, 3) := by decide +kernel
theorem dX11_search_161 : decode cX11_search 161 = .ok (.iload 5, 2) := by decide +kernel
theorem dX11_search_163 : decode cX11_search 163 = .ok (.aload_n 0, 1) := by decide +kernel
theorem dX11_search_164 : decode cX11_search 164 = .ok (.getfield 7, 3) := by decide +kernel
theorem dX11_search_167 : decode cX11_search 167 = .ok (.if_icmp .ne 61, 3) := by decide +kernel
theorem dX11_search_170 : decode cX11_search 170 = .ok (.iload_n 2, 1) := by decide +kernel
theorem dX11_search_171 : decode cX11_search 171 = .ok (.ifCond .ne 5, 3) := by decide +kernel
theorem dX11_search_174 : decode cX11_search 174 = .ok (.iconst 0, 1) := by decide +kernel
theorem dX11_search_175 : decode cX11_search 175 = .ok (.ireturn, 1) := by decide +kernel
theorem dX11_search_176 : decode cX11_search 176 = .ok (.iinc 2 (-1), 3) := by decide +kernel
theorem dX11_search_179 : decode cX11_search 179 = .ok (.aload_n 0, 1) := by decide +kernel
theorem dX11_search_180 : decode cX11_search 180 = .ok (.getfield 103, 3) := by decide +kernel
theorem dX11_search_183 : decode cX11_search 183 = .ok (.iload_n 2, 1) := by decide +kernel
theorem dX11_search_184 : decode cX11_search 184 = .ok (.iaload, 1) := by decide +kernel
theorem dX11_search_185 : decode cX11_search 185 = .ok (.istore_n 3, 1) := by decide +kernel
theorem dX11_search_186 : decode cX11_search 186 = .ok (.aload_n 0, 1) := by decide +kernel
theorem dX11_search_187 : decode cX11_search 187 = .ok (.getfield 106, 3) := by decide +kernel
theorem dX11_search_190 : decode cX11_search 190 = .ok (.iload_n 2, 1) := by decide +kernel
theorem dX11_search_191 : decode cX11_search 191 = .ok (.iaload, 1) := by decide +kernel
theorem dX11_search_192 : decode cX11_search 192 = .ok (.iconst 1, 1) := by decide +kernel
theorem dX11_search_193 : decode cX11_search 193 = .ok (.iadd, 1) := by decide +kernel
theorem dX11_search_194 : decode cX11_search 194 = .ok (.istore 4, 2) := by decide +kernel
theorem dX11_search_196 : decode cX11_search 196 = .ok (.aload_n 0, 1) := by decide +kernel
theorem dX11_search_197 : decode cX11_search 197 = .ok (.getfield 97, 3) := by decide +kernel
theorem dX11_search_200 : decode cX11_search 200 = .ok (.sipush 1024, 3) := by decide +kernel
theorem dX11_search_203 : decode cX11_search 203 = .ok (.iload 4, 2) := by decide +kernel
theorem dX11_search_205 : decode cX11_search 205 = .ok (.iconst 1, 1) := by decide +kernel
theorem dX11_search_206 : decode cX11_search 206 = .ok (.isub, 1) := by decide +kernel
theorem dX11_search_207 : decode cX11_search 207 = .ok (.imul, 1) := by decide +kernel
theorem dX11_search_208 : decode cX11_search 208 = .ok (.aload_n 0, 1) := by decide +kernel
theorem dX11_search_209 : decode cX11_search 209 = .ok (.getfield 100, 3) := by decide +kernel
theorem dX11_search_212 : decode cX11_search 212 = .ok (.bipush 8, 2) := by decide +kernel
theorem dX11_search_214 : decode cX11_search 214 = .ok (.iload_n 3, 1) := by decide +kernel
theorem dX11_search_215 : decode cX11_search 215 = .ok (.imul, 1) := by decide +kernel
theorem dX11_search_216 : decode cX11_search 216 = .ok (.iload 4, 2) := by decide +kernel
theorem dX11_search_218 : decode cX11_search 218 = .ok (.iadd, 1) := by decide +kernel
theorem dX11_search_219 : decode cX11_search 219 = .ok (.iconst 1, 1) := by decide +kernel
theorem dX11_search_220 : decode cX11_search 220 = .ok (.isub, 1) := by decide +kernel
theorem dX11_search_221 : decode cX11_search 221 = .ok (.iaload, 1) := by decide +kernel
theorem dX11_search_222 : decode cX11_search 222 = .ok (.iadd, 1) := by decide +kernel
theorem dX11_search_223 : decode cX11_search 223 = .ok (.iconst (-1), 1) := by decide +kernel
theorem dX11_search_224 : decode cX11_search 224 = .ok (.iastore, 1) := by decide +kernel
theorem dX11_search_225 : decode cX11_search 225 = .ok (.goto (-149), 3) := by decide +kernel
theorem dX11_search_228 : decode cX11_search 228 = .ok (.iload 6, 2) := by decide +kernel
theorem dX11_search_230 : decode cX11_search 230 = .ok (.ifCond .ne 76, 3) := by decide +kernel
theorem dX11_search_233 : decode cX11_search 233 = .ok (.aload_n 0, 1) := by decide +kernel
theorem dX11_search_234 : decode cX11_search 234 = .ok (.getfield 109, 3) := by decide +kernel
theorem dX11_search_237 : decode cX11_search 237 = .ok (.iload_n 1, 1) := by decide +kernel
theorem dX11_search_238 : decode cX11_search 238 = .ok (.if_icmp .ne 6, 3) := by decide +kernel
theorem dX11_search_241 : decode cX11_search 241 = .ok (.bipush (-2), 2) := by decide +kernel
theorem dX11_search_243 : decode cX11_search 243 = .ok (.ireturn, 1) := by decide +kernel
theorem dX11_search_244 : decode cX11_search 244 = .ok (.aload_n 0, 1) := by decide +kernel
theorem dX11_search_245 : decode cX11_search 245 = .ok (.dup, 1) := by decide +kernel
theorem dX11_search_246 : decode cX11_search 246 = .ok (.getfield 109, 3) := by decide +kernel
theorem dX11_search_249 : decode cX11_search 249 = .ok (.iconst 1, 1) := by decide +kernel
theorem dX11_search_250 : decode cX11_search 250 = .ok (.iadd, 1) := by decide +kernel
theorem dX11_search_251 : decode cX11_search 251 = .ok (.putfield 109, 3) := by decide +kernel
theorem dX11_search_254 : decode cX11_search 254 = .ok (.aload_n 0, 1) := by decide +kernel
theorem dX11_search_255 : decode cX11_search 255 = .ok (.getfield 97, 3) := by decide +kernel
theorem dX11_search_258 : decode cX11_search 258 = .ok (.sipush 1024, 3) := by decide +kernel
theorem dX11_search_261 : decode cX11_search 261 = .ok (.iload 5, 2) := by decide +kernel
theorem dX11_search_263 : decode cX11_search 263 = .ok (.imul, 1) := by decide +kernel
theorem dX11_search_264 : decode cX11_search 264 = .ok (.aload_n 0, 1) := by decide +kernel
theorem dX11_search_265 : decode cX11_search 265 = .ok (.getfield 100, 3) := by decide +kernel
theorem dX11_search_268 : decode cX11_search 268 = .ok (.bipush 8, 2) := by decide +kernel
theorem dX11_search_270 : decode cX11_search 270 = .ok (.iload_n 3, 1) := by decide +kernel
theorem dX11_search_271 : decode cX11_search 271 = .ok (.imul, 1) := by decide +kernel
theorem dX11_search_272 : decode cX11_search 272 = .ok (.iload 5, 2) := by decide +kernel
theorem dX11_search_274 : decode cX11_search 274 = .ok (.iadd, 1) := by decide +kernel
theorem dX11_search_275 : decode cX11_search 275 = .ok (.iaload, 1) := by decide +kernel
theorem dX11_search_276 : decode cX11_search 276 = .ok (.iadd, 1) := by decide +kernel
theorem dX11_search_277 : decode cX11_search 277 = .ok (.iload_n 3, 1) := by decide +kernel
theorem dX11_search_278 : decode cX11_search 278 = .ok (.iload 5, 2) := by decide +kernel
theorem dX11_search_280 : decode cX11_search 280 = .ok (.aload_n 0, 1) := by decide +kernel
theorem dX11_search_281 : decode cX11_search 281 = .ok (.getfield 13, 3) := by decide +kernel
theorem dX11_search_284 : decode cX11_search 284 = .ok (.invokestatic 397, 3) := by decide +kernel
theorem dX11_search_287 : decode cX11_search 287 = .ok (.iastore, 1) := by decide +kernel
theorem dX11_search_288 : decode cX11_search 288 = .ok (.aload_n 0, 1) := by decide +kernel
theorem dX11_search_289 : decode cX11_search 289 = .ok (.getfield 103, 3) := by decide +kernel
theorem dX11_search_292 : decode cX11_search 292 = .ok (.iload_n 2, 1) := by decide +kernel
theorem dX11_search_293 : decode cX11_search 293 = .ok (.iload_n 3, 1) := by decide +kernel
theorem dX11_search_294 : decode cX11_search 294 = .ok (.iastore, 1) := by decide +kernel
theorem dX11_search_295 : decode cX11_search 295 = .ok (.aload_n 0, 1) := by decide +kernel
theorem dX11_search_296 : decode cX11_search 296 = .ok (.getfield 106, 3) := by decide +kernel
theorem dX11_search_299 : decode cX11_search 299 = .ok (.iload_n 2, 1) := by decide +kernel
theorem dX11_search_300 : decode cX11_search 300 = .ok (.iload 5, 2) := by decide +kernel
theorem dX11_search_302 : decode cX11_search 302 = .ok (.iastore, 1) := by decide +kernel
theorem dX11_search_303 : decode cX11_search 303 = .ok (.iinc 2 1, 3) := by decide +kernel
theorem dX11_search_306 : decode cX11_search 306 = .ok (.iinc 3 1, 3) := by decide +kernel
theorem dX11_search_309 : decode cX11_search 309 = .ok (.iconst 0, 1) := by decide +kernel
theorem dX11_search_310 : decode cX11_search 310 = .ok (.istore 4, 2) := by decide +kernel
theorem dX11_search_312 : decode cX11_search 312 = .ok (.goto (-236), 3) := by decide +kernel
theorem dX11_search_315 : decode cX11_search 315 = .ok (.iconst 0, 1) := by decide +kernel
theorem dX11_search_316 : decode cX11_search 316 = .ok (.istore 5, 2) := by decide +kernel
theorem dX11_search_318 : decode cX11_search 318 = .ok (.iload 5, 2) := by decide +kernel
theorem dX11_search_320 : decode cX11_search 320 = .ok (.aload_n 0, 1) := by decide +kernel
theorem dX11_search_321 : decode cX11_search 321 = .ok (.getfield 7, 3) := by decide +kernel
theorem dX11_search_324 : decode cX11_search 324 = .ok (.if_icmp .ge 84, 3) := by decide +kernel
theorem dX11_search_327 : decode cX11_search 327 = .ok (.aload_n 0, 1) := by decide +kernel
theorem dX11_search_328 : decode cX11_search 328 = .ok (.getfield 32, 3) := by decide +kernel
theorem dX11_search_331 : decode cX11_search 331 = .ok (.iload 5, 2) := by decide +kernel
theorem dX11_search_333 : decode cX11_search 333 = .ok (.iconst 0, 1) := by decide +kernel
theorem dX11_search_334 : decode cX11_search 334 = .ok (.iastore, 1) := by decide +kernel
theorem dX11_search_335 : decode cX11_search 335 = .ok (.iconst 0, 1) := by decide +kernel
theorem dX11_search_336 : decode cX11_search 336 = .ok (.istore 6, 2) := by decide +kernel
theorem dX11_search_338 : decode cX11_search 338 = .ok (.iload 6, 2) := by decide +kernel
theorem dX11_search_340 : decode cX11_search 340 = .ok (.sipush 1024, 3) := by decide +kernel
theorem dX11_search_343 : decode cX11_search 343 = .ok (.if_icmp .ge 59, 3) := by decide +kernel
theorem dX11_search_346 : decode cX11_search 346 = .ok (.aload_n 0, 1) := by decide +kernel
theorem dX11_search_347 : decode cX11_search 347 = .ok (.getfield 35, 3) := by decide +kernel
theorem dX11_search_350 : decode cX11_search 350 = .ok (.sipush 1024, 3) := by decide +kernel
theorem dX11_search_353 : decode cX11_search 353 = .ok (.iload 5, 2) := by decide +kernel
theorem dX11_search_355 : decode cX11_search 355 = .ok (.imul, 1) := by decide +kernel
theorem dX11_search_356 : decode cX11_search 356 = .ok (.iload 6, 2) := by decide +kernel
theorem dX11_search_358 : decode cX11_search 358 = .ok (.iadd, 1) := by decide +kernel
theorem dX11_search_359 : decode cX11_search 359 = .ok (.aload_n 0, 1) := by decide +kernel
theorem dX11_search_360 : decode cX11_search 360 = .ok (.getfield 97, 3) := by decide +kernel
theorem dX11_search_363 : decode cX11_search 363 = .ok (.sipush 1024, 3) := by decide +kernel
theorem dX11_search_366 : decode cX11_search 366 = .ok (.iload 5, 2) := by decide +kernel
theorem dX11_search_368 : decode cX11_search 368 = .ok (.imul, 1) := by decide +kernel
theorem dX11_search_369 : decode cX11_search 369 = .ok (.iload 6, 2) := by decide +kernel
theorem dX11_search_371 : decode cX11_search 371 = .ok (.iadd, 1) := by decide +kernel
theorem dX11_search_372 : decode cX11_search 372 = .ok (.iaload, 1) := by decide +kernel
theorem dX11_search_373 : decode cX11_search 373 = .ok (.iconst (-1), 1) := by decide +kernel
theorem dX11_search_374 : decode cX11_search 374 = .ok (.if_icmp .ne 7, 3) := by decide +kernel
theorem dX11_search_377 : decode cX11_search 377 = .ok (.iconst 0, 1) := by decide +kernel
theorem dX11_search_378 : decode cX11_search 378 = .ok (.goto 17, 3) := by decide +kernel
theorem dX11_search_381 : decode cX11_search 381 = .ok (.aload_n 0, 1) := by decide +kernel
theorem dX11_search_382 : decode cX11_search 382 = .ok (.getfield 97, 3) := by decide +kernel
theorem dX11_search_385 : decode cX11_search 385 = .ok (.sipush 1024, 3) := by decide +kernel
theorem dX11_search_388 : decode cX11_search 388 = .ok (.iload 5, 2) := by decide +kernel
theorem dX11_search_390 : decode cX11_search 390 = .ok (.imul, 1) := by decide +kernel
theorem dX11_search_391 : decode cX11_search 391 = .ok (.iload 6, 2) := by decide +kernel
theorem dX11_search_393 : decode cX11_search 393 = .ok (.iadd, 1) := by decide +kernel
theorem dX11_search_394 : decode cX11_search 394 = .ok (.iaload, 1) := by decide +kernel
theorem dX11_search_395 : decode cX11_search 395 = .ok (.iastore, 1) := by decide +kernel
theorem dX11_search_396 : decode cX11_search 396 = .ok (.iinc 6 1, 3) := by decide +kernel
theorem dX11_search_399 : decode cX11_search 399 = .ok (.goto (-61), 3) := by decide +kernel
theorem dX11_search_402 : decode cX11_search 402 = .ok (.iinc 5 1, 3) := by decide +kernel
theorem dX11_search_405 : decode cX11_search 405 = .ok (.goto (-87), 3) := by decide +kernel
theorem dX11_search_408 : decode cX11_search 408 = .ok (.aload_n 0, 1) := by decide +kernel
theorem dX11_search_409 : decode cX11_search 409 = .ok (.iconst 0, 1) := by decide +kernel
theorem dX11_search_410 : decode cX11_search 410 = .ok (.putfield 195, 3) := by decide +kernel
theorem dX11_search_413 : decode cX11_search 413 = .ok (.iconst 1, 1) := by decide +kernel
theorem dX11_search_414 : decode cX11_search 414 = .ok (.ireturn, 1) := by decide +kernel
section
variable {p : Program} {l : Launch} {e : Env} {R : Room} {s : State} {m : MethodId} {args : Array Value} {below : List Frame} {meth : Method} {c : Code} {D : va_G} {cA : Nat → ClassId} {z : Nat} {A : Nat → Prop} {T : HR}
theorem wkM_worst_b20 {I : HI} {J : HJ} {x1 : Int32} {t0 : Int32} {Q : Int32 → HI → Prop} (X : hX p m c s args RX11 cX11_worst 3) (hr : meth.sig.returnType = (some .int)) (hlk : meth.locks = false) (hR : 7 ≤ R.frames ∧ 161 ≤ R.locals)   : ∀ {ls : Array Slot} {H : Heap} {locs : List Loc}, M_worst_b20 I x1 t0 Q → hW D cA z Ev0 (I, J, T, FM, LM) A s H locs → lv_has ls 3 [(0, .ref (z + 0)), (1, .int x1)] → W p l e R s m args below meth c H locs 0 0 (MQ below (va_Qi (pI J T FM LM Q) (hB D cA z A) A) args s 0 0 A) (F0 m 20 ls [.int t0, .ref (z + 0)]) := by
  have hx := X.1
  have hb := X.2.1
  intro ls H locs h hw hl
  unfold M_worst_b20 at h
  refine lv_iconst (v := 1) hx hb dX11_worst_20 (by decide) ?_
  refine hm_calli hw (hm_runV (rest := []) hCl_true X hw (cM_right  h) ykM_right kw1594 rfl LM_0 rfl hl.1 rfl rfl rfl (Nat.le_of_ble_eq_true rfl) ⟨Nat.le_trans (Nat.le_of_ble_eq_true rfl) hR.1, Nat.le_trans (Nat.le_of_ble_eq_true rfl) hR.2⟩ ⟨Nat.zero_le _, Nat.zero_le _⟩ dX11_worst_21) (fun r1 u3 H locs hp hw => ?_)
  obtain ⟨I2, rfl, h⟩ := hp
  refine lv_if_ne (tgt := 29) hx hb dX11_worst_24 (by decide) (fun hc => ?_) (fun hc => ?_)
  · have h := Eq.mp (if_neg hc) h
    refine lv_aload_n hx hb dX11_worst_29 rfl (lv_at hl 0 rfl) ?_
    refine hm_calli hw (hm_runV (rest := []) hCl_true X hw (cM_worstRow  h) ykM_worstRow kw1800 rfl LM_0 rfl hl.1 rfl rfl rfl (Nat.le_of_ble_eq_true rfl) ⟨Nat.le_trans (Nat.le_of_ble_eq_true rfl) hR.1, Nat.le_trans (Nat.le_of_ble_eq_true rfl) hR.2⟩ ⟨Nat.zero_le _, Nat.zero_le _⟩ dX11_worst_30) (fun r4 u6 H locs hp hw => ?_)
    obtain ⟨I5, rfl, h⟩ := hp
    refine lv_istore_n (lv' := [(2, _), (0, _), (1, _)]) hx hb dX11_worst_33 rfl hl (by decide) rfl (fun ls hl => ?_)
    refine lv_iload_n hx hb dX11_worst_34 rfl (lv_at hl 2 rfl) ?_
    refine lv_iconst (v := 1) hx hb dX11_worst_35 (by decide) ?_
    refine lv_icmp_eq (tgt := 44) hx hb dX11_worst_36 (by decide) (fun hc => ?_) (fun hc => ?_)
    · have h := Eq.mp (if_pos hc) h
      refine lv_iload_n hx hb dX11_worst_44 rfl (lv_at hl 0 rfl) ?_
      refine lv_goto (tgt := 57) hx hb dX11_worst_45 (by decide) ?_
      exact hm_iret X hr hlk hw ⟨_, rfl, h⟩ dX11_worst_57
    · have h := Eq.mp (if_neg hc) h
      refine lv_iload_n hx hb dX11_worst_39 rfl (lv_at hl 0 rfl) ?_
      refine lv_iconst (v := (-1)) hx hb dX11_worst_40 (by decide) ?_
      refine lv_icmp_ne (tgt := 48) hx hb dX11_worst_41 (by decide) (fun hc => ?_) (fun hc => ?_)
      · have h := Eq.mp (if_neg hc) h
        refine lv_aload_n hx hb dX11_worst_48 rfl (lv_at hl 1 rfl) ?_
        refine hm_getr X hw lkM_87 LM_0 (b := 21) rfl dX11_worst_49 ?_
        refine lv_iload_n hx hb dX11_worst_52 rfl (lv_at hl 0 rfl) ?_
        obtain ⟨hi, h⟩ := h
        refine hm_iald X hw LM_21 hi dX11_worst_53 ?_
        refine hm_calli hw (hm_runS (rest := []) hCl_true X hw (cM_bits  h) ykM_bits kw1342 rfl hl.1 rfl rfl rfl (Nat.le_of_ble_eq_true rfl) ⟨Nat.le_trans (Nat.le_of_ble_eq_true rfl) hR.1, Nat.le_trans (Nat.le_of_ble_eq_true rfl) hR.2⟩ ⟨Nat.zero_le _, Nat.zero_le _⟩ dX11_worst_54) (fun r7 u8 H locs hp hw => ?_)
        obtain ⟨rfl, h⟩ := hp
        exact hm_iret X hr hlk hw ⟨_, rfl, h⟩ dX11_worst_57
      · have h := Eq.mp (if_pos hc) h
        refine lv_iload_n hx hb dX11_worst_44 rfl (lv_at hl 0 rfl) ?_
        refine lv_goto (tgt := 57) hx hb dX11_worst_45 (by decide) ?_
        exact hm_iret X hr hlk hw ⟨_, rfl, h⟩ dX11_worst_57
  · have h := Eq.mp (if_pos hc) h
    refine lv_iconst (v := 0) hx hb dX11_worst_27 (by decide) ?_
    exact hm_iret X hr hlk hw ⟨_, rfl, h⟩ dX11_worst_28

theorem cM_worst {l : Launch} {D : va_G} {cA : Nat → ClassId} {z sz : Nat} {I : HI} {J : HJ} {x1 : Int32} {Q : Int32 → HI → Prop}  (h : M_worst I x1 Q) : Met l yX11_worst (hws0 yX11_worst cX11_worst 3 (some .int)) { frames := 7, cells := 0, slots := 0, locals := 161 } (hPc D cA z Ev0 (I, J, T, FM, LM) sz [.ref (z + 0), .int x1]) (va_Qi (pI J T FM LM Q) (hB D cA z (hA z LM sz)) (hA z LM sz)) 0 0 (hA z LM sz) := by
  refine hm_met (I, J, T, FM, LM) [.ref (z + 0), .int x1] rfl (by decide) (Nat.le_of_ble_eq_true rfl) ?_
  intro p e s m below meth c ls X hr hlk hnm hxt hsz hw hl
  have hl : lv_has ls 3 [(0, .ref (z + 0)), (1, .int x1)] := hl
  have hR : 7 ≤ ({ frames := 7, cells := 0, slots := 0, locals := 161 } : Room).frames ∧ 161 ≤ ({ frames := 7, cells := 0, slots := 0, locals := 161 } : Room).locals := ⟨Nat.le_refl _, Nat.le_refl _⟩
  generalize ({ frames := 7, cells := 0, slots := 0, locals := 161 } : Room) = R at hR ⊢
  clear hsz
  generalize (hA z LM sz) = A at hw ⊢
  have hx := X.1
  have hb := X.2.1
  unfold M_worst at h
  refine lv_aload_n hx hb dX11_worst_0 rfl (lv_at hl 0 rfl) ?_
  refine lv_iconst (v := 0) hx hb dX11_worst_1 (by decide) ?_
  refine hm_puti X hw lkM_174 LM_0 rfl rfl dX11_worst_2 (fun H locs hw => ?_)
  refine lv_aload_n hx hb dX11_worst_5 rfl (lv_at hl 0 rfl) ?_
  refine lv_iload_n hx hb dX11_worst_6 rfl (lv_at hl 1 rfl) ?_
  refine lv_if_eq (tgt := 15) hx hb dX11_worst_7 (by decide) (fun hc => ?_) (fun hc => ?_)
  · have h := Eq.mp (if_pos hc) h
    refine lv_iconst (v := 1) hx hb dX11_worst_15 (by decide) ?_
    refine lv_goto (tgt := 20) hx hb dX11_worst_16 (by decide) ?_
    exact wkM_worst_b20 X hr hlk hR   h hw (lv_sub hl [0, 1] rfl)
  · have h := Eq.mp (if_neg hc) h
    refine lv_iload_n hx hb dX11_worst_10 rfl (lv_at hl 1 rfl) ?_
    refine lv_iconst (v := 1) hx hb dX11_worst_11 (by decide) ?_
    refine lv_icmp_ne (tgt := 19) hx hb dX11_worst_12 (by decide) (fun hc => ?_) (fun hc => ?_)
    · have h := Eq.mp (if_neg hc) h
      refine lv_iconst (v := 0) hx hb dX11_worst_19 (by decide) ?_
      exact wkM_worst_b20 X hr hlk hR   h hw (lv_sub hl [0, 1] rfl)
    · have h := Eq.mp (if_pos hc) h
      refine lv_iconst (v := 1) hx hb dX11_worst_15 (by decide) ?_
      refine lv_goto (tgt := 20) hx hb dX11_worst_16 (by decide) ?_
      exact wkM_worst_b20 X hr hlk hR   h hw (lv_sub hl [0, 1] rfl)

theorem wkM_laysOut_l7 {J : HJ} {x1 : Int32} {Q : HI → Prop} (X : hX p m c s args RX11 cX11_laysOut 3) (hr : meth.sig.returnType = none) (hlk : meth.locks = false) (hR : 1 ≤ R.frames ∧ 23 ≤ R.locals)   : ∀ (n : Nat) (I : HI) (x2 : Int32) {ls : Array Slot} {H : Heap} {locs : List Loc}, M_laysOut_l7 x1 Q n I x2 → hW D cA z Ev0 (I, J, T, FM, LM) A s H locs → lv_has ls 3 [(0, .ref (z + 0)), (1, .int x1), (2, .int x2)] → W p l e R s m args below meth c H locs 0 0 (MQ below (va_Qv (pIv J T FM LM Q) (hB D cA z A) A) args s 0 0 A) (F0 m 7 ls []) := by
  have hx := X.1
  have hb := X.2.1
  intro n
  induction n with
  | zero => intro I x2 ls H locs h; exact False.elim h
  | succ n ih =>
    intro I x2 ls H locs h hw hl
    rw [M_laysOut_l7] at h
    refine lv_iload_n hx hb dX11_laysOut_7 rfl (lv_at hl 2 rfl) ?_
    refine lv_aload_n hx hb dX11_laysOut_8 rfl (lv_at hl 0 rfl) ?_
    refine hm_geti X hw lkM_7 LM_0 dX11_laysOut_9 ?_
    refine lv_icmp_ge (tgt := 38) hx hb dX11_laysOut_12 (by decide) (fun hc => ?_) (fun hc => ?_)
    · have h := Eq.mp (if_pos hc) h
      exact hm_vret X hr hlk hw ⟨_, rfl, h⟩ dX11_laysOut_38
    · have h := Eq.mp (if_neg hc) h
      refine lv_aload_n hx hb dX11_laysOut_15 rfl (lv_at hl 0 rfl) ?_
      refine hm_getr X hw lkM_78 LM_0 (b := 18) rfl dX11_laysOut_16 ?_
      refine lv_iload_n hx hb dX11_laysOut_19 rfl (lv_at hl 2 rfl) ?_
      refine lv_aload_n hx hb dX11_laysOut_20 rfl (lv_at hl 0 rfl) ?_
      refine hm_getr X hw lkM_91 LM_0 (b := 22) rfl dX11_laysOut_21 ?_
      refine lv_bipush (v := 8) hx hb dX11_laysOut_24 (by decide) ?_
      refine lv_iload_n hx hb dX11_laysOut_26 rfl (lv_at hl 1 rfl) ?_
      refine lv_imul hx hb dX11_laysOut_27 ?_
      refine lv_iload_n hx hb dX11_laysOut_28 rfl (lv_at hl 2 rfl) ?_
      refine lv_iadd hx hb dX11_laysOut_29 ?_
      obtain ⟨hi, h⟩ := h
      refine hm_iald X hw LM_22 hi dX11_laysOut_30 ?_
      obtain ⟨hi, h⟩ := h
      refine hm_iast X hw LM_18 hi dX11_laysOut_31 (fun H locs hw => ?_)
      refine lv_iinc (v := x2 + 1) (lv' := [(2, _), (0, _), (1, _)]) hx hb dX11_laysOut_32 hl (k := 2) rfl rfl (by decide) rfl (fun ls hl => ?_)
      refine lv_goto (tgt := 7) hx hb dX11_laysOut_35 (by decide) ?_
      exact ih _ _ h hw (lv_sub hl [1, 2, 0] rfl)

theorem cM_laysOut {l : Launch} {D : va_G} {cA : Nat → ClassId} {z sz : Nat} {I : HI} {J : HJ} {x1 : Int32} {Q : HI → Prop}  (h : M_laysOut I x1 Q) : Met l yX11_laysOut (hws0 yX11_laysOut cX11_laysOut 3 none) { frames := 1, cells := 0, slots := 0, locals := 23 } (hPc D cA z Ev0 (I, J, T, FM, LM) sz [.ref (z + 0), .int x1]) (va_Qv (pIv J T FM LM Q) (hB D cA z (hA z LM sz)) (hA z LM sz)) 0 0 (hA z LM sz) := by
  refine hm_met (I, J, T, FM, LM) [.ref (z + 0), .int x1] rfl (by decide) (Nat.le_of_ble_eq_true rfl) ?_
  intro p e s m below meth c ls X hr hlk hnm hxt hsz hw hl
  have hl : lv_has ls 3 [(0, .ref (z + 0)), (1, .int x1)] := hl
  have hR : 1 ≤ ({ frames := 1, cells := 0, slots := 0, locals := 23 } : Room).frames ∧ 23 ≤ ({ frames := 1, cells := 0, slots := 0, locals := 23 } : Room).locals := ⟨Nat.le_refl _, Nat.le_refl _⟩
  generalize ({ frames := 1, cells := 0, slots := 0, locals := 23 } : Room) = R at hR ⊢
  clear hsz
  generalize (hA z LM sz) = A at hw ⊢
  have hx := X.1
  have hb := X.2.1
  unfold M_laysOut at h
  refine lv_aload_n hx hb dX11_laysOut_0 rfl (lv_at hl 0 rfl) ?_
  refine lv_iload_n hx hb dX11_laysOut_1 rfl (lv_at hl 1 rfl) ?_
  refine hm_callv hw (hm_runV (rest := []) hCl_true X hw (cM_wears  h) ykM_wears kw1733 rfl LM_0 rfl hl.1 rfl rfl rfl (Nat.le_of_ble_eq_true rfl) ⟨Nat.le_trans (Nat.le_of_ble_eq_true rfl) hR.1, Nat.le_trans (Nat.le_of_ble_eq_true rfl) hR.2⟩ ⟨Nat.zero_le _, Nat.zero_le _⟩ dX11_laysOut_2) (fun u2 H locs hp hw => ?_)
  obtain ⟨I1, rfl, h⟩ := hp
  refine lv_iconst (v := 0) hx hb dX11_laysOut_5 (by decide) ?_
  refine lv_istore_n (lv' := [(2, _), (0, _), (1, _)]) hx hb dX11_laysOut_6 rfl hl (by decide) rfl (fun ls hl => ?_)
  obtain ⟨n2, h⟩ := h
  exact wkM_laysOut_l7 X hr hlk hR   n2 _ _ h hw (lv_sub hl [1, 2, 0] rfl)

theorem wkM_idle_l86 {J : HJ} {x1 : Int32} {x3 : Int32} {x4 : Int32} {x5 : Int32} {K23 : HI → Int32 → Int32 → Prop} {K53 : HI → Int32 → Int32 → Prop} {Q : Int32 → HI → Prop} (X : hX p m c s args RX11 cX11_idle 7) (hr : meth.sig.returnType = (some .int)) (hlk : meth.locks = false) (hR : 6 ≤ R.frames ∧ 139 ≤ R.locals)  (hK23 : ∀ (I : HI) (x2 : Int32) (x3 : Int32) {ls : Array Slot} {H : Heap} {locs : List Loc}, K23 I x2 x3 → hW D cA z Ev0 (I, J, T, FM, LM) A s H locs → lv_has ls 7 [(0, .ref (z + 0)), (1, .int x1), (2, .int x2), (3, .int x3)] → W p l e R s m args below meth c H locs 0 0 (MQ below (va_Qi (pI J T FM LM Q) (hB D cA z A) A) args s 0 0 A) (F0 m 23 ls [])) (hK53 : ∀ (I : HI) (x2 : Int32) (x4 : Int32) {ls : Array Slot} {H : Heap} {locs : List Loc}, K53 I x2 x4 → hW D cA z Ev0 (I, J, T, FM, LM) A s H locs → lv_has ls 7 [(0, .ref (z + 0)), (1, .int x1), (2, .int x2), (3, .int x3), (4, .int x4)] → W p l e R s m args below meth c H locs 0 0 (MQ below (va_Qi (pI J T FM LM Q) (hB D cA z A) A) args s 0 0 A) (F0 m 53 ls [])) : ∀ (n : Nat) (I : HI) (x2 : Int32) (x6 : Int32) {ls : Array Slot} {H : Heap} {locs : List Loc}, M_idle_l86 x1 x3 x4 x5 K23 K53 Q n I x2 x6 → hW D cA z Ev0 (I, J, T, FM, LM) A s H locs → lv_has ls 7 [(0, .ref (z + 0)), (1, .int x1), (2, .int x2), (3, .int x3), (4, .int x4), (5, .int x5), (6, .int x6)] → W p l e R s m args below meth c H locs 0 0 (MQ below (va_Qi (pI J T FM LM Q) (hB D cA z A) A) args s 0 0 A) (F0 m 86 ls []) := by
  have hx := X.1
  have hb := X.2.1
  intro n
  induction n with
  | zero => intro I x2 x6 ls H locs h; exact False.elim h
  | succ n ih =>
    intro I x2 x6 ls H locs h hw hl
    rw [M_idle_l86] at h
    refine lv_iload hx hb dX11_idle_86 (lv_at hl 6 rfl) ?_
    refine lv_aload_n hx hb dX11_idle_88 rfl (lv_at hl 0 rfl) ?_
    refine hm_geti X hw lkM_13 LM_0 dX11_idle_89 ?_
    refine lv_icmp_ge (tgt := 133) hx hb dX11_idle_92 (by decide) (fun hc => ?_) (fun hc => ?_)
    · have h := Eq.mp (if_pos hc) h
      refine lv_aload_n hx hb dX11_idle_133 rfl (lv_at hl 0 rfl) ?_
      refine hm_getr X hw lkM_75 LM_0 (b := 17) rfl dX11_idle_134 ?_
      refine lv_iload hx hb dX11_idle_137 (lv_at hl 4 rfl) ?_
      refine lv_iload hx hb dX11_idle_139 (lv_at hl 5 rfl) ?_
      obtain ⟨hi, h⟩ := h
      refine hm_iast X hw LM_17 hi dX11_idle_141 (fun H locs hw => ?_)
      refine lv_iinc (v := x4 + 1) (lv' := [(4, _), (0, _), (1, _), (2, _), (3, _), (5, _), (6, _)]) hx hb dX11_idle_142 hl (k := 4) rfl rfl (by decide) rfl (fun ls hl => ?_)
      refine lv_goto (tgt := 53) hx hb dX11_idle_145 (by decide) ?_
      exact hK53 _ _ _ h hw (lv_sub hl [1, 2, 3, 4, 0] rfl)
    · have h := Eq.mp (if_neg hc) h
      refine lv_aload_n hx hb dX11_idle_95 rfl (lv_at hl 0 rfl) ?_
      refine hm_getr X hw lkM_75 LM_0 (b := 17) rfl dX11_idle_96 ?_
      refine lv_iload hx hb dX11_idle_99 (lv_at hl 4 rfl) ?_
      refine lv_iload hx hb dX11_idle_101 (lv_at hl 6 rfl) ?_
      obtain ⟨hi, h⟩ := h
      refine hm_iast X hw LM_17 hi dX11_idle_103 (fun H locs hw => ?_)
      refine lv_aload_n hx hb dX11_idle_104 rfl (lv_at hl 0 rfl) ?_
      refine lv_iload_n hx hb dX11_idle_105 rfl (lv_at hl 1 rfl) ?_
      refine hm_calli hw (hm_runV (rest := []) hCl_true X hw (cM_guesses  h) ykM_guesses kw1737 rfl LM_0 rfl hl.1 rfl rfl rfl (Nat.le_of_ble_eq_true rfl) ⟨Nat.le_trans (Nat.le_of_ble_eq_true rfl) hR.1, Nat.le_trans (Nat.le_of_ble_eq_true rfl) hR.2⟩ ⟨Nat.zero_le _, Nat.zero_le _⟩ dX11_idle_106) (fun r8 u10 H locs hp hw => ?_)
      obtain ⟨I9, rfl, h⟩ := hp
      refine lv_aload_n hx hb dX11_idle_109 rfl (lv_at hl 0 rfl) ?_
      refine hm_getr X hw lkM_78 LM_0 (b := 18) rfl dX11_idle_110 ?_
      refine lv_iload_n hx hb dX11_idle_113 rfl (lv_at hl 1 rfl) ?_
      obtain ⟨hi, h⟩ := h
      refine hm_iald X hw LM_18 hi dX11_idle_114 ?_
      refine lv_icmp_eq (tgt := 127) hx hb dX11_idle_115 (by decide) (fun hc => ?_) (fun hc => ?_)
      · have h := Eq.mp (if_pos hc) h
        refine lv_iinc (v := x6 + 1) (lv' := [(6, _), (0, _), (1, _), (2, _), (3, _), (4, _), (5, _)]) hx hb dX11_idle_127 hl (k := 6) rfl rfl (by decide) rfl (fun ls hl => ?_)
        refine lv_goto (tgt := 86) hx hb dX11_idle_130 (by decide) ?_
        exact ih _ _ _ h hw (lv_sub hl [1, 2, 3, 4, 5, 6, 0] rfl)
      · have h := Eq.mp (if_neg hc) h
        refine lv_iload_n hx hb dX11_idle_118 rfl (lv_at hl 2 rfl) ?_
        refine lv_iconst (v := 1) hx hb dX11_idle_119 (by decide) ?_
        refine lv_iload hx hb dX11_idle_120 (lv_at hl 4 rfl) ?_
        refine lv_ishl hx hb dX11_idle_122 ?_
        refine lv_iconst (v := (-1)) hx hb dX11_idle_123 (by decide) ?_
        refine lv_ixor hx hb dX11_idle_124 ?_
        refine lv_iand hx hb dX11_idle_125 ?_
        refine lv_istore_n (lv' := [(2, _), (0, _), (1, _), (3, _), (4, _), (5, _), (6, _)]) hx hb dX11_idle_126 rfl hl (by decide) rfl (fun ls hl => ?_)
        refine lv_iinc (v := x6 + 1) (lv' := [(6, _), (2, _), (0, _), (1, _), (3, _), (4, _), (5, _)]) hx hb dX11_idle_127 hl (k := 6) rfl rfl (by decide) rfl (fun ls hl => ?_)
        refine lv_goto (tgt := 86) hx hb dX11_idle_130 (by decide) ?_
        exact ih _ _ _ h hw (lv_sub hl [2, 3, 1, 4, 5, 6, 0] rfl)

theorem wkM_idle_l53 {J : HJ} {x1 : Int32} {x3 : Int32} {K23 : HI → Int32 → Int32 → Prop} {Q : Int32 → HI → Prop} (X : hX p m c s args RX11 cX11_idle 7) (hr : meth.sig.returnType = (some .int)) (hlk : meth.locks = false) (hR : 6 ≤ R.frames ∧ 139 ≤ R.locals)  (hK23 : ∀ (I : HI) (x2 : Int32) (x3 : Int32) {ls : Array Slot} {H : Heap} {locs : List Loc}, K23 I x2 x3 → hW D cA z Ev0 (I, J, T, FM, LM) A s H locs → lv_has ls 7 [(0, .ref (z + 0)), (1, .int x1), (2, .int x2), (3, .int x3)] → W p l e R s m args below meth c H locs 0 0 (MQ below (va_Qi (pI J T FM LM Q) (hB D cA z A) A) args s 0 0 A) (F0 m 23 ls [])) : ∀ (n : Nat) (I : HI) (x2 : Int32) (x4 : Int32) {ls : Array Slot} {H : Heap} {locs : List Loc}, M_idle_l53 x1 x3 K23 Q n I x2 x4 → hW D cA z Ev0 (I, J, T, FM, LM) A s H locs → lv_has ls 7 [(0, .ref (z + 0)), (1, .int x1), (2, .int x2), (3, .int x3), (4, .int x4)] → W p l e R s m args below meth c H locs 0 0 (MQ below (va_Qi (pI J T FM LM Q) (hB D cA z A) A) args s 0 0 A) (F0 m 53 ls []) := by
  have hx := X.1
  have hb := X.2.1
  intro n
  induction n with
  | zero => intro I x2 x4 ls H locs h; exact False.elim h
  | succ n ih =>
    intro I x2 x4 ls H locs h hw hl
    rw [M_idle_l53] at h
    refine lv_iload hx hb dX11_idle_53 (lv_at hl 4 rfl) ?_
    refine lv_aload_n hx hb dX11_idle_55 rfl (lv_at hl 0 rfl) ?_
    refine hm_geti X hw lkM_7 LM_0 dX11_idle_56 ?_
    refine lv_icmp_ge (tgt := 148) hx hb dX11_idle_59 (by decide) (fun hc => ?_) (fun hc => ?_)
    · have h := Eq.mp (if_pos hc) h
      refine lv_iinc (v := x3 + 1) (lv' := [(3, _), (0, _), (1, _), (2, _), (4, _)]) hx hb dX11_idle_148 hl (k := 3) rfl rfl (by decide) rfl (fun ls hl => ?_)
      refine lv_goto (tgt := 23) hx hb dX11_idle_151 (by decide) ?_
      exact hK23 _ _ _ h hw (lv_sub hl [1, 2, 3, 0] rfl)
    · have h := Eq.mp (if_neg hc) h
      refine lv_iload_n hx hb dX11_idle_62 rfl (lv_at hl 2 rfl) ?_
      refine lv_iload hx hb dX11_idle_63 (lv_at hl 4 rfl) ?_
      refine lv_ishr hx hb dX11_idle_65 ?_
      refine lv_iconst (v := 1) hx hb dX11_idle_66 (by decide) ?_
      refine lv_iand hx hb dX11_idle_67 ?_
      refine lv_if_ne (tgt := 74) hx hb dX11_idle_68 (by decide) (fun hc => ?_) (fun hc => ?_)
      · have h := Eq.mp (if_neg hc) h
        refine lv_aload_n hx hb dX11_idle_74 rfl (lv_at hl 0 rfl) ?_
        refine hm_getr X hw lkM_75 LM_0 (b := 17) rfl dX11_idle_75 ?_
        refine lv_iload hx hb dX11_idle_78 (lv_at hl 4 rfl) ?_
        obtain ⟨hi, h⟩ := h
        refine hm_iald X hw LM_17 hi dX11_idle_80 ?_
        refine lv_istore (lv' := [(5, _), (0, _), (1, _), (2, _), (3, _), (4, _)]) hx hb dX11_idle_81 hl (by decide) rfl (fun ls hl => ?_)
        refine lv_iconst (v := 0) hx hb dX11_idle_83 (by decide) ?_
        refine lv_istore (lv' := [(6, _), (5, _), (0, _), (1, _), (2, _), (3, _), (4, _)]) hx hb dX11_idle_84 hl (by decide) rfl (fun ls hl => ?_)
        obtain ⟨n2, h⟩ := h
        exact wkM_idle_l86 X hr hlk hR  hK23 ih n2 _ _ _ h hw (lv_sub hl [2, 3, 4, 5, 6, 1, 0] rfl)
      · have h := Eq.mp (if_pos hc) h
        refine lv_goto (tgt := 142) hx hb dX11_idle_71 (by decide) ?_
        refine lv_iinc (v := x4 + 1) (lv' := [(4, _), (0, _), (1, _), (2, _), (3, _)]) hx hb dX11_idle_142 hl (k := 4) rfl rfl (by decide) rfl (fun ls hl => ?_)
        refine lv_goto (tgt := 53) hx hb dX11_idle_145 (by decide) ?_
        exact ih _ _ _ h hw (lv_sub hl [1, 2, 3, 4, 0] rfl)

theorem wkM_idle_l23 {J : HJ} {x1 : Int32} {Q : Int32 → HI → Prop} (X : hX p m c s args RX11 cX11_idle 7) (hr : meth.sig.returnType = (some .int)) (hlk : meth.locks = false) (hR : 6 ≤ R.frames ∧ 139 ≤ R.locals)   : ∀ (n : Nat) (I : HI) (x2 : Int32) (x3 : Int32) {ls : Array Slot} {H : Heap} {locs : List Loc}, M_idle_l23 x1 Q n I x2 x3 → hW D cA z Ev0 (I, J, T, FM, LM) A s H locs → lv_has ls 7 [(0, .ref (z + 0)), (1, .int x1), (2, .int x2), (3, .int x3)] → W p l e R s m args below meth c H locs 0 0 (MQ below (va_Qi (pI J T FM LM Q) (hB D cA z A) A) args s 0 0 A) (F0 m 23 ls []) := by
  have hx := X.1
  have hb := X.2.1
  intro n
  induction n with
  | zero => intro I x2 x3 ls H locs h; exact False.elim h
  | succ n ih =>
    intro I x2 x3 ls H locs h hw hl
    rw [M_idle_l23] at h
    refine lv_iload_n hx hb dX11_idle_23 rfl (lv_at hl 3 rfl) ?_
    refine lv_aload_n hx hb dX11_idle_24 rfl (lv_at hl 0 rfl) ?_
    refine hm_geti X hw lkM_16 LM_0 dX11_idle_25 ?_
    refine lv_icmp_ge (tgt := 154) hx hb dX11_idle_28 (by decide) (fun hc => ?_) (fun hc => ?_)
    · have h := Eq.mp (if_pos hc) h
      refine lv_iload_n hx hb dX11_idle_154 rfl (lv_at hl 2 rfl) ?_
      exact hm_iret X hr hlk hw ⟨_, rfl, h⟩ dX11_idle_155
    · have h := Eq.mp (if_neg hc) h
      refine lv_iload_n hx hb dX11_idle_31 rfl (lv_at hl 2 rfl) ?_
      refine lv_if_eq (tgt := 154) hx hb dX11_idle_32 (by decide) (fun hc => ?_) (fun hc => ?_)
      · have h := Eq.mp (if_pos hc) h
        refine lv_iload_n hx hb dX11_idle_154 rfl (lv_at hl 2 rfl) ?_
        exact hm_iret X hr hlk hw ⟨_, rfl, h⟩ dX11_idle_155
      · have h := Eq.mp (if_neg hc) h
        refine lv_aload_n hx hb dX11_idle_35 rfl (lv_at hl 0 rfl) ?_
        refine hm_getr X hw lkM_32 LM_0 (b := 4) rfl dX11_idle_36 ?_
        refine lv_iload_n hx hb dX11_idle_39 rfl (lv_at hl 1 rfl) ?_
        obtain ⟨hi, h⟩ := h
        refine hm_iald X hw LM_4 hi dX11_idle_40 ?_
        refine lv_iconst (v := 2) hx hb dX11_idle_41 (by decide) ?_
        refine lv_icmp_eq (tgt := 154) hx hb dX11_idle_42 (by decide) (fun hc => ?_) (fun hc => ?_)
        · have h := Eq.mp (if_pos hc) h
          refine lv_iload_n hx hb dX11_idle_154 rfl (lv_at hl 2 rfl) ?_
          exact hm_iret X hr hlk hw ⟨_, rfl, h⟩ dX11_idle_155
        · have h := Eq.mp (if_neg hc) h
          refine lv_aload_n hx hb dX11_idle_45 rfl (lv_at hl 0 rfl) ?_
          refine lv_iload_n hx hb dX11_idle_46 rfl (lv_at hl 3 rfl) ?_
          refine hm_callv hw (hm_runV (rest := []) hCl_true X hw (cM_laysOut  h) ykM_laysOut kw1808 rfl LM_0 rfl hl.1 rfl rfl rfl (Nat.le_of_ble_eq_true rfl) ⟨Nat.le_trans (Nat.le_of_ble_eq_true rfl) hR.1, Nat.le_trans (Nat.le_of_ble_eq_true rfl) hR.2⟩ ⟨Nat.zero_le _, Nat.zero_le _⟩ dX11_idle_47) (fun u7 H locs hp hw => ?_)
          obtain ⟨I6, rfl, h⟩ := hp
          refine lv_iconst (v := 0) hx hb dX11_idle_50 (by decide) ?_
          refine lv_istore (lv' := [(4, _), (0, _), (1, _), (2, _), (3, _)]) hx hb dX11_idle_51 hl (by decide) rfl (fun ls hl => ?_)
          obtain ⟨n2, h⟩ := h
          exact wkM_idle_l53 X hr hlk hR  ih n2 _ _ _ h hw (lv_sub hl [1, 2, 3, 4, 0] rfl)

theorem cM_idle {l : Launch} {D : va_G} {cA : Nat → ClassId} {z sz : Nat} {I : HI} {J : HJ} {x1 : Int32} {Q : Int32 → HI → Prop}  (h : M_idle I x1 Q) : Met l yX11_idle (hws0 yX11_idle cX11_idle 7 (some .int)) { frames := 6, cells := 0, slots := 0, locals := 139 } (hPc D cA z Ev0 (I, J, T, FM, LM) sz [.ref (z + 0), .int x1]) (va_Qi (pI J T FM LM Q) (hB D cA z (hA z LM sz)) (hA z LM sz)) 0 0 (hA z LM sz) := by
  refine hm_met (I, J, T, FM, LM) [.ref (z + 0), .int x1] rfl (by decide) (Nat.le_of_ble_eq_true rfl) ?_
  intro p e s m below meth c ls X hr hlk hnm hxt hsz hw hl
  have hl : lv_has ls 7 [(0, .ref (z + 0)), (1, .int x1)] := hl
  have hR : 6 ≤ ({ frames := 6, cells := 0, slots := 0, locals := 139 } : Room).frames ∧ 139 ≤ ({ frames := 6, cells := 0, slots := 0, locals := 139 } : Room).locals := ⟨Nat.le_refl _, Nat.le_refl _⟩
  generalize ({ frames := 6, cells := 0, slots := 0, locals := 139 } : Room) = R at hR ⊢
  clear hsz
  generalize (hA z LM sz) = A at hw ⊢
  have hx := X.1
  have hb := X.2.1
  unfold M_idle at h
  refine lv_aload_n hx hb dX11_idle_0 rfl (lv_at hl 0 rfl) ?_
  refine lv_iload_n hx hb dX11_idle_1 rfl (lv_at hl 1 rfl) ?_
  refine hm_calli hw (hm_runV (rest := []) hCl_true X hw (cM_isWearer  h) ykM_isWearer kw1590 rfl LM_0 rfl hl.1 rfl rfl rfl (Nat.le_of_ble_eq_true rfl) ⟨Nat.le_trans (Nat.le_of_ble_eq_true rfl) hR.1, Nat.le_trans (Nat.le_of_ble_eq_true rfl) hR.2⟩ ⟨Nat.zero_le _, Nat.zero_le _⟩ dX11_idle_2) (fun r1 u3 H locs hp hw => ?_)
  obtain ⟨I2, rfl, h⟩ := hp
  refine lv_if_ne (tgt := 10) hx hb dX11_idle_5 (by decide) (fun hc => ?_) (fun hc => ?_)
  · have h := Eq.mp (if_neg hc) h
    refine lv_aload_n hx hb dX11_idle_10 rfl (lv_at hl 0 rfl) ?_
    refine hm_callv hw (hm_runV (rest := []) hCl_true X hw (cM_worksAll  h) ykM_worksAll kw1725 rfl LM_0 rfl hl.1 rfl rfl rfl (Nat.le_of_ble_eq_true rfl) ⟨Nat.le_trans (Nat.le_of_ble_eq_true rfl) hR.1, Nat.le_trans (Nat.le_of_ble_eq_true rfl) hR.2⟩ ⟨Nat.zero_le _, Nat.zero_le _⟩ dX11_idle_11) (fun u5 H locs hp hw => ?_)
    obtain ⟨I4, rfl, h⟩ := hp
    refine lv_aload_n hx hb dX11_idle_14 rfl (lv_at hl 0 rfl) ?_
    refine hm_getr X hw lkM_26 LM_0 (b := 2) rfl dX11_idle_15 ?_
    refine lv_iload_n hx hb dX11_idle_18 rfl (lv_at hl 1 rfl) ?_
    obtain ⟨hi, h⟩ := h
    refine hm_iald X hw LM_2 hi dX11_idle_19 ?_
    refine lv_istore_n (lv' := [(2, _), (0, _), (1, _)]) hx hb dX11_idle_20 rfl hl (by decide) rfl (fun ls hl => ?_)
    refine lv_iconst (v := 0) hx hb dX11_idle_21 (by decide) ?_
    refine lv_istore_n (lv' := [(3, _), (2, _), (0, _), (1, _)]) hx hb dX11_idle_22 rfl hl (by decide) rfl (fun ls hl => ?_)
    obtain ⟨n2, h⟩ := h
    exact wkM_idle_l23 X hr hlk hR   n2 _ _ _ h hw (lv_sub hl [2, 3, 1, 0] rfl)
  · have h := Eq.mp (if_pos hc) h
    refine lv_iconst (v := 0) hx hb dX11_idle_8 (by decide) ?_
    exact hm_iret X hr hlk hw ⟨_, rfl, h⟩ dX11_idle_9

theorem wkM_otherwise_l92 {I : HI} {J : HJ} {x1 : Int32} {x2 : Int32} {x3 : Int32} {Q : Int32 → HI → Prop} (X : hX p m c s args RX11 cX11_otherwise 6) (hr : meth.sig.returnType = (some .int)) (hlk : meth.locks = false) (hR : 6 ≤ R.frames ∧ 139 ≤ R.locals)   : ∀ (n : Nat) (x4 : Int32) (x5 : Int32) {ls : Array Slot} {H : Heap} {locs : List Loc}, M_otherwise_l92 I x1 x2 x3 Q n x4 x5 → hW D cA z Ev0 (I, J, T, FM, LM) A s H locs → lv_has ls 6 [(0, .ref (z + 0)), (1, .int x1), (2, .int x2), (3, .int x3), (4, .int x4), (5, .int x5)] → W p l e R s m args below meth c H locs 0 0 (MQ below (va_Qi (pI J T FM LM Q) (hB D cA z A) A) args s 0 0 A) (F0 m 92 ls []) := by
  have hx := X.1
  have hb := X.2.1
  intro n
  induction n with
  | zero => intro x4 x5 ls H locs h; exact False.elim h
  | succ n ih =>
    intro x4 x5 ls H locs h hw hl
    rw [M_otherwise_l92] at h
    refine lv_iload hx hb dX11_otherwise_92 (lv_at hl 5 rfl) ?_
    refine lv_aload_n hx hb dX11_otherwise_94 rfl (lv_at hl 0 rfl) ?_
    refine hm_geti X hw lkM_16 LM_0 dX11_otherwise_95 ?_
    refine lv_icmp_ge (tgt := 140) hx hb dX11_otherwise_98 (by decide) (fun hc => ?_) (fun hc => ?_)
    · have h := Eq.mp (if_pos hc) h
      refine lv_aload_n hx hb dX11_otherwise_140 rfl (lv_at hl 0 rfl) ?_
      refine hm_getr X hw lkM_26 LM_0 (b := 2) rfl dX11_otherwise_141 ?_
      refine lv_iload_n hx hb dX11_otherwise_144 rfl (lv_at hl 1 rfl) ?_
      refine lv_dup2_11 hx hb dX11_otherwise_145 rfl rfl ?_
      obtain ⟨hi, h⟩ := h
      refine hm_iald X hw LM_2 hi dX11_otherwise_146 ?_
      refine lv_iconst (v := 1) hx hb dX11_otherwise_147 (by decide) ?_
      refine lv_iload_n hx hb dX11_otherwise_148 rfl (lv_at hl 2 rfl) ?_
      refine lv_ishl hx hb dX11_otherwise_149 ?_
      refine lv_ixor hx hb dX11_otherwise_150 ?_
      obtain ⟨hi, h⟩ := h
      refine hm_iast X hw LM_2 hi dX11_otherwise_151 (fun H locs hw => ?_)
      refine lv_aload_n hx hb dX11_otherwise_152 rfl (lv_at hl 0 rfl) ?_
      refine hm_getr X hw lkM_32 LM_0 (b := 4) rfl dX11_otherwise_153 ?_
      refine lv_iload_n hx hb dX11_otherwise_156 rfl (lv_at hl 1 rfl) ?_
      refine lv_iload_n hx hb dX11_otherwise_157 rfl (lv_at hl 3 rfl) ?_
      obtain ⟨hi, h⟩ := h
      refine hm_iast X hw LM_4 hi dX11_otherwise_158 (fun H locs hw => ?_)
      refine lv_aload_n hx hb dX11_otherwise_159 rfl (lv_at hl 0 rfl) ?_
      refine lv_iconst (v := 0) hx hb dX11_otherwise_160 (by decide) ?_
      refine hm_puti X hw lkM_195 LM_0 rfl rfl dX11_otherwise_161 (fun H locs hw => ?_)
      refine lv_iload hx hb dX11_otherwise_164 (lv_at hl 4 rfl) ?_
      exact hm_iret X hr hlk hw ⟨_, rfl, h⟩ dX11_otherwise_166
    · have h := Eq.mp (if_neg hc) h
      refine lv_aload_n hx hb dX11_otherwise_101 rfl (lv_at hl 0 rfl) ?_
      refine lv_iload hx hb dX11_otherwise_102 (lv_at hl 5 rfl) ?_
      refine hm_calli hw (hm_runV (rest := []) hCl_true X hw (cM_counts  h) ykM_counts kw1764 rfl LM_0 rfl hl.1 rfl rfl rfl (Nat.le_of_ble_eq_true rfl) ⟨Nat.le_trans (Nat.le_of_ble_eq_true rfl) hR.1, Nat.le_trans (Nat.le_of_ble_eq_true rfl) hR.2⟩ ⟨Nat.zero_le _, Nat.zero_le _⟩ dX11_otherwise_104) (fun r9 u10 H locs hp hw => ?_)
      obtain ⟨rfl, h⟩ := hp
      refine lv_if_eq (tgt := 134) hx hb dX11_otherwise_107 (by decide) (fun hc => ?_) (fun hc => ?_)
      · have h := Eq.mp (if_pos hc) h
        refine lv_iinc (v := x5 + 1) (lv' := [(5, _), (0, _), (1, _), (2, _), (3, _), (4, _)]) hx hb dX11_otherwise_134 hl (k := 5) rfl rfl (by decide) rfl (fun ls hl => ?_)
        refine lv_goto (tgt := 92) hx hb dX11_otherwise_137 (by decide) ?_
        exact ih _ _ h hw (lv_sub hl [1, 2, 3, 4, 5, 0] rfl)
      · have h := Eq.mp (if_neg hc) h
        refine lv_aload_n hx hb dX11_otherwise_110 rfl (lv_at hl 0 rfl) ?_
        refine lv_aload_n hx hb dX11_otherwise_111 rfl (lv_at hl 0 rfl) ?_
        refine hm_getr X hw lkM_84 LM_0 (b := 20) rfl dX11_otherwise_112 ?_
        refine lv_iload hx hb dX11_otherwise_115 (lv_at hl 5 rfl) ?_
        obtain ⟨hi, h⟩ := h
        refine hm_iald X hw LM_20 hi dX11_otherwise_117 ?_
        refine lv_aload_n hx hb dX11_otherwise_118 rfl (lv_at hl 0 rfl) ?_
        refine hm_getr X hw lkM_87 LM_0 (b := 21) rfl dX11_otherwise_119 ?_
        refine lv_iload hx hb dX11_otherwise_122 (lv_at hl 5 rfl) ?_
        obtain ⟨hi, h⟩ := h
        refine hm_iald X hw LM_21 hi dX11_otherwise_124 ?_
        refine hm_calli hw (hm_runV (rest := []) hCl_true X hw (cM_isWon  h) ykM_isWon kw1772 rfl LM_0 rfl hl.1 rfl rfl rfl (Nat.le_of_ble_eq_true rfl) ⟨Nat.le_trans (Nat.le_of_ble_eq_true rfl) hR.1, Nat.le_trans (Nat.le_of_ble_eq_true rfl) hR.2⟩ ⟨Nat.zero_le _, Nat.zero_le _⟩ dX11_otherwise_125) (fun r11 u12 H locs hp hw => ?_)
        obtain ⟨rfl, h⟩ := hp
        refine lv_if_eq (tgt := 134) hx hb dX11_otherwise_128 (by decide) (fun hc => ?_) (fun hc => ?_)
        · have h := Eq.mp (if_pos hc) h
          refine lv_iinc (v := x5 + 1) (lv' := [(5, _), (0, _), (1, _), (2, _), (3, _), (4, _)]) hx hb dX11_otherwise_134 hl (k := 5) rfl rfl (by decide) rfl (fun ls hl => ?_)
          refine lv_goto (tgt := 92) hx hb dX11_otherwise_137 (by decide) ?_
          exact ih _ _ h hw (lv_sub hl [1, 2, 3, 4, 5, 0] rfl)
        · have h := Eq.mp (if_neg hc) h
          refine lv_iinc (v := x4 + 1) (lv' := [(4, _), (0, _), (1, _), (2, _), (3, _), (5, _)]) hx hb dX11_otherwise_131 hl (k := 4) rfl rfl (by decide) rfl (fun ls hl => ?_)
          refine lv_iinc (v := x5 + 1) (lv' := [(5, _), (4, _), (0, _), (1, _), (2, _), (3, _)]) hx hb dX11_otherwise_134 hl (k := 5) rfl rfl (by decide) rfl (fun ls hl => ?_)
          refine lv_goto (tgt := 92) hx hb dX11_otherwise_137 (by decide) ?_
          exact ih _ _ h hw (lv_sub hl [2, 3, 4, 5, 1, 0] rfl)

theorem wkM_otherwise_b76 {I : HI} {J : HJ} {x1 : Int32} {x2 : Int32} {x3 : Int32} {t0 : Int32} {t1 : Int32} {Q : Int32 → HI → Prop} (X : hX p m c s args RX11 cX11_otherwise 6) (hr : meth.sig.returnType = (some .int)) (hlk : meth.locks = false) (hR : 6 ≤ R.frames ∧ 139 ≤ R.locals)   : ∀ {ls : Array Slot} {H : Heap} {locs : List Loc}, M_otherwise_b76 I x1 x2 x3 t0 t1 Q → hW D cA z Ev0 (I, J, T, FM, LM) A s H locs → lv_has ls 6 [(0, .ref (z + 0)), (1, .int x1), (2, .int x2), (3, .int x3)] → W p l e R s m args below meth c H locs 0 0 (MQ below (va_Qi (pI J T FM LM Q) (hB D cA z A) A) args s 0 0 A) (F0 m 76 ls [.int t0, .int t1, .ref (z + 4)]) := by
  have hx := X.1
  have hb := X.2.1
  intro ls H locs h hw hl
  unfold M_otherwise_b76 at h
  obtain ⟨hi, h⟩ := h
  refine hm_iast X hw LM_4 hi dX11_otherwise_76 (fun H locs hw => ?_)
  refine lv_aload_n hx hb dX11_otherwise_77 rfl (lv_at hl 0 rfl) ?_
  refine lv_iconst (v := 0) hx hb dX11_otherwise_78 (by decide) ?_
  refine hm_puti X hw lkM_195 LM_0 rfl rfl dX11_otherwise_79 (fun H locs hw => ?_)
  refine lv_aload_n hx hb dX11_otherwise_82 rfl (lv_at hl 0 rfl) ?_
  refine hm_callv hw (hm_runV (rest := []) hCl_true X hw (cM_worksAll  h) ykM_worksAll kw1725 rfl LM_0 rfl hl.1 rfl rfl rfl (Nat.le_of_ble_eq_true rfl) ⟨Nat.le_trans (Nat.le_of_ble_eq_true rfl) hR.1, Nat.le_trans (Nat.le_of_ble_eq_true rfl) hR.2⟩ ⟨Nat.zero_le _, Nat.zero_le _⟩ dX11_otherwise_83) (fun u8 H locs hp hw => ?_)
  obtain ⟨I7, rfl, h⟩ := hp
  refine lv_iconst (v := 0) hx hb dX11_otherwise_86 (by decide) ?_
  refine lv_istore (lv' := [(4, _), (0, _), (1, _), (2, _), (3, _)]) hx hb dX11_otherwise_87 hl (by decide) rfl (fun ls hl => ?_)
  refine lv_iconst (v := 0) hx hb dX11_otherwise_89 (by decide) ?_
  refine lv_istore (lv' := [(5, _), (4, _), (0, _), (1, _), (2, _), (3, _)]) hx hb dX11_otherwise_90 hl (by decide) rfl (fun ls hl => ?_)
  obtain ⟨n2, h⟩ := h
  exact wkM_otherwise_l92 X hr hlk hR   n2 _ _ h hw (lv_sub hl [2, 3, 4, 5, 1, 0] rfl)

theorem wkM_otherwise_b26 {I : HI} {J : HJ} {x1 : Int32} {x2 : Int32} {t0 : Int32} {Q : Int32 → HI → Prop} (X : hX p m c s args RX11 cX11_otherwise 6) (hr : meth.sig.returnType = (some .int)) (hlk : meth.locks = false) (hR : 6 ≤ R.frames ∧ 139 ≤ R.locals)   : ∀ {ls : Array Slot} {H : Heap} {locs : List Loc}, M_otherwise_b26 I x1 x2 t0 Q → hW D cA z Ev0 (I, J, T, FM, LM) A s H locs → lv_has ls 6 [(0, .ref (z + 0)), (1, .int x1), (2, .int x2)] → W p l e R s m args below meth c H locs 0 0 (MQ below (va_Qi (pI J T FM LM Q) (hB D cA z A) A) args s 0 0 A) (F0 m 26 ls [.int t0, .ref (z + 0)]) := by
  have hx := X.1
  have hb := X.2.1
  intro ls H locs h hw hl
  unfold M_otherwise_b26 at h
  refine lv_iconst (v := 1) hx hb dX11_otherwise_26 (by decide) ?_
  refine hm_calli hw (hm_runV (rest := []) hCl_true X hw (cM_right  h) ykM_right kw1594 rfl LM_0 rfl hl.1 rfl rfl rfl (Nat.le_of_ble_eq_true rfl) ⟨Nat.le_trans (Nat.le_of_ble_eq_true rfl) hR.1, Nat.le_trans (Nat.le_of_ble_eq_true rfl) hR.2⟩ ⟨Nat.zero_le _, Nat.zero_le _⟩ dX11_otherwise_27) (fun r4 u6 H locs hp hw => ?_)
  obtain ⟨I5, rfl, h⟩ := hp
  refine lv_if_ne (tgt := 35) hx hb dX11_otherwise_30 (by decide) (fun hc => ?_) (fun hc => ?_)
  · have h := Eq.mp (if_neg hc) h
    refine lv_iload_n hx hb dX11_otherwise_35 rfl (lv_at hl 1 rfl) ?_
    refine lv_iload_n hx hb dX11_otherwise_36 rfl (lv_at hl 2 rfl) ?_
    refine lv_icmp_ne (tgt := 42) hx hb dX11_otherwise_37 (by decide) (fun hc => ?_) (fun hc => ?_)
    · have h := Eq.mp (if_neg hc) h
      refine lv_aload_n hx hb dX11_otherwise_42 rfl (lv_at hl 0 rfl) ?_
      refine hm_getr X hw lkM_32 LM_0 (b := 4) rfl dX11_otherwise_43 ?_
      refine lv_iload_n hx hb dX11_otherwise_46 rfl (lv_at hl 1 rfl) ?_
      obtain ⟨hi, h⟩ := h
      refine hm_iald X hw LM_4 hi dX11_otherwise_47 ?_
      refine lv_istore_n (lv' := [(3, _), (0, _), (1, _), (2, _)]) hx hb dX11_otherwise_48 rfl hl (by decide) rfl (fun ls hl => ?_)
      refine lv_aload_n hx hb dX11_otherwise_49 rfl (lv_at hl 1 rfl) ?_
      refine hm_getr X hw lkM_26 LM_0 (b := 2) rfl dX11_otherwise_50 ?_
      refine lv_iload_n hx hb dX11_otherwise_53 rfl (lv_at hl 2 rfl) ?_
      refine lv_dup2_11 hx hb dX11_otherwise_54 rfl rfl ?_
      obtain ⟨hi, h⟩ := h
      refine hm_iald X hw LM_2 hi dX11_otherwise_55 ?_
      refine lv_iconst (v := 1) hx hb dX11_otherwise_56 (by decide) ?_
      refine lv_iload_n hx hb dX11_otherwise_57 rfl (lv_at hl 3 rfl) ?_
      refine lv_ishl hx hb dX11_otherwise_58 ?_
      refine lv_ixor hx hb dX11_otherwise_59 ?_
      obtain ⟨hi, h⟩ := h
      refine hm_iast X hw LM_2 hi dX11_otherwise_60 (fun H locs hw => ?_)
      refine lv_aload_n hx hb dX11_otherwise_61 rfl (lv_at hl 1 rfl) ?_
      refine hm_getr X hw lkM_32 LM_0 (b := 4) rfl dX11_otherwise_62 ?_
      refine lv_iload_n hx hb dX11_otherwise_65 rfl (lv_at hl 2 rfl) ?_
      refine lv_iload_n hx hb dX11_otherwise_66 rfl (lv_at hl 0 rfl) ?_
      refine lv_iconst (v := 1) hx hb dX11_otherwise_67 (by decide) ?_
      refine lv_icmp_ne (tgt := 75) hx hb dX11_otherwise_68 (by decide) (fun hc => ?_) (fun hc => ?_)
      · have h := Eq.mp (if_neg hc) h
        refine lv_iconst (v := 2) hx hb dX11_otherwise_75 (by decide) ?_
        exact wkM_otherwise_b76 X hr hlk hR   h hw (lv_sub hl [1, 2, 3, 0] rfl)
      · have h := Eq.mp (if_pos hc) h
        refine lv_iconst (v := 1) hx hb dX11_otherwise_71 (by decide) ?_
        refine lv_goto (tgt := 76) hx hb dX11_otherwise_72 (by decide) ?_
        exact wkM_otherwise_b76 X hr hlk hR   h hw (lv_sub hl [1, 2, 3, 0] rfl)
    · have h := Eq.mp (if_pos hc) h
      refine lv_iconst (v := (-1)) hx hb dX11_otherwise_40 (by decide) ?_
      exact hm_iret X hr hlk hw ⟨_, rfl, h⟩ dX11_otherwise_41
  · have h := Eq.mp (if_pos hc) h
    refine lv_iconst (v := 0) hx hb dX11_otherwise_33 (by decide) ?_
    exact hm_iret X hr hlk hw ⟨_, rfl, h⟩ dX11_otherwise_34

theorem wkM_otherwise_b25 {I : HI} {J : HJ} {x1 : Int32} {x2 : Int32} {Q : Int32 → HI → Prop} (X : hX p m c s args RX11 cX11_otherwise 6) (hr : meth.sig.returnType = (some .int)) (hlk : meth.locks = false) (hR : 6 ≤ R.frames ∧ 139 ≤ R.locals)   : ∀ {ls : Array Slot} {H : Heap} {locs : List Loc}, M_otherwise_b25 I x1 x2 Q → hW D cA z Ev0 (I, J, T, FM, LM) A s H locs → lv_has ls 6 [(0, .ref (z + 0)), (1, .int x1), (2, .int x2)] → W p l e R s m args below meth c H locs 0 0 (MQ below (va_Qi (pI J T FM LM Q) (hB D cA z A) A) args s 0 0 A) (F0 m 25 ls [.ref (z + 0)]) := by
  have hx := X.1
  have hb := X.2.1
  intro ls H locs h hw hl
  unfold M_otherwise_b25 at h
  refine lv_iconst (v := 0) hx hb dX11_otherwise_25 (by decide) ?_
  exact wkM_otherwise_b26 X hr hlk hR   h hw (lv_sub hl [0, 1, 2] rfl)

theorem cM_otherwise {l : Launch} {D : va_G} {cA : Nat → ClassId} {z sz : Nat} {I : HI} {J : HJ} {x1 : Int32} {x2 : Int32} {Q : Int32 → HI → Prop}  (h : M_otherwise I x1 x2 Q) : Met l yX11_otherwise (hws0 yX11_otherwise cX11_otherwise 6 (some .int)) { frames := 6, cells := 0, slots := 0, locals := 139 } (hPc D cA z Ev0 (I, J, T, FM, LM) sz [.ref (z + 0), .int x1, .int x2]) (va_Qi (pI J T FM LM Q) (hB D cA z (hA z LM sz)) (hA z LM sz)) 0 0 (hA z LM sz) := by
  refine hm_met (I, J, T, FM, LM) [.ref (z + 0), .int x1, .int x2] rfl (by decide) (Nat.le_of_ble_eq_true rfl) ?_
  intro p e s m below meth c ls X hr hlk hnm hxt hsz hw hl
  have hl : lv_has ls 6 [(0, .ref (z + 0)), (1, .int x1), (2, .int x2)] := hl
  have hR : 6 ≤ ({ frames := 6, cells := 0, slots := 0, locals := 139 } : Room).frames ∧ 139 ≤ ({ frames := 6, cells := 0, slots := 0, locals := 139 } : Room).locals := ⟨Nat.le_refl _, Nat.le_refl _⟩
  generalize ({ frames := 6, cells := 0, slots := 0, locals := 139 } : Room) = R at hR ⊢
  clear hsz
  generalize (hA z LM sz) = A at hw ⊢
  have hx := X.1
  have hb := X.2.1
  unfold M_otherwise at h
  refine lv_aload_n hx hb dX11_otherwise_0 rfl (lv_at hl 0 rfl) ?_
  refine lv_iload_n hx hb dX11_otherwise_1 rfl (lv_at hl 1 rfl) ?_
  refine hm_calli hw (hm_runV (rest := []) hCl_true X hw (cM_isWearer  h) ykM_isWearer kw1590 rfl LM_0 rfl hl.1 rfl rfl rfl (Nat.le_of_ble_eq_true rfl) ⟨Nat.le_trans (Nat.le_of_ble_eq_true rfl) hR.1, Nat.le_trans (Nat.le_of_ble_eq_true rfl) hR.2⟩ ⟨Nat.zero_le _, Nat.zero_le _⟩ dX11_otherwise_2) (fun r1 u3 H locs hp hw => ?_)
  obtain ⟨I2, rfl, h⟩ := hp
  refine lv_if_eq (tgt := 33) hx hb dX11_otherwise_5 (by decide) (fun hc => ?_) (fun hc => ?_)
  · have h := Eq.mp (if_pos hc) h
    refine lv_iconst (v := 0) hx hb dX11_otherwise_33 (by decide) ?_
    exact hm_iret X hr hlk hw ⟨_, rfl, h⟩ dX11_otherwise_34
  · have h := Eq.mp (if_neg hc) h
    refine lv_aload_n hx hb dX11_otherwise_8 rfl (lv_at hl 0 rfl) ?_
    refine lv_iload_n hx hb dX11_otherwise_9 rfl (lv_at hl 2 rfl) ?_
    refine lv_if_lt (tgt := 25) hx hb dX11_otherwise_10 (by decide) (fun hc => ?_) (fun hc => ?_)
    · have h := Eq.mp (if_pos hc) h
      exact wkM_otherwise_b25 X hr hlk hR   h hw (lv_sub hl [0, 1, 2] rfl)
    · have h := Eq.mp (if_neg hc) h
      refine lv_iload_n hx hb dX11_otherwise_13 rfl (lv_at hl 2 rfl) ?_
      refine lv_aload_n hx hb dX11_otherwise_14 rfl (lv_at hl 0 rfl) ?_
      refine hm_geti X hw lkM_7 LM_0 dX11_otherwise_15 ?_
      refine lv_icmp_ge (tgt := 25) hx hb dX11_otherwise_18 (by decide) (fun hc => ?_) (fun hc => ?_)
      · have h := Eq.mp (if_pos hc) h
        exact wkM_otherwise_b25 X hr hlk hR   h hw (lv_sub hl [0, 1, 2] rfl)
      · have h := Eq.mp (if_neg hc) h
        refine lv_iconst (v := 1) hx hb dX11_otherwise_21 (by decide) ?_
        refine lv_goto (tgt := 26) hx hb dX11_otherwise_22 (by decide) ?_
        exact wkM_otherwise_b26 X hr hlk hR   h hw (lv_sub hl [0, 1, 2] rfl)

theorem cM_swaps {l : Launch} {D : va_G} {cA : Nat → ClassId} {z sz : Nat} {I : HI} {J : HJ} {x1 : Int32} {x2 : Int32} {Q : HI → Prop}  (h : M_swaps I x1 x2 Q) : Met l yX11_swaps (hws0 yX11_swaps cX11_swaps 4 none) { frames := 0, cells := 0, slots := 0, locals := 0 } (hPc D cA z Ev0 (I, J, T, FM, LM) sz [.ref (z + 0), .int x1, .int x2]) (va_Qv (pIv J T FM LM Q) (hB D cA z (hA z LM sz)) (hA z LM sz)) 0 0 (hA z LM sz) := by
  refine hm_met (I, J, T, FM, LM) [.ref (z + 0), .int x1, .int x2] rfl (by decide) (Nat.le_of_ble_eq_true rfl) ?_
  intro p e s m below meth c ls X hr hlk hnm hxt hsz hw hl
  have hl : lv_has ls 4 [(0, .ref (z + 0)), (1, .int x1), (2, .int x2)] := hl
  have hR : 0 ≤ ({ frames := 0, cells := 0, slots := 0, locals := 0 } : Room).frames ∧ 0 ≤ ({ frames := 0, cells := 0, slots := 0, locals := 0 } : Room).locals := ⟨Nat.le_refl _, Nat.le_refl _⟩
  generalize ({ frames := 0, cells := 0, slots := 0, locals := 0 } : Room) = R at hR ⊢
  clear hsz
  generalize (hA z LM sz) = A at hw ⊢
  have hx := X.1
  have hb := X.2.1
  unfold M_swaps at h
  refine lv_aload_n hx hb dX11_swaps_0 rfl (lv_at hl 0 rfl) ?_
  refine hm_getr X hw lkM_94 LM_0 (b := 23) rfl dX11_swaps_1 ?_
  refine lv_iload_n hx hb dX11_swaps_4 rfl (lv_at hl 1 rfl) ?_
  obtain ⟨hi, h⟩ := h
  refine hm_iald X hw LM_23 hi dX11_swaps_5 ?_
  refine lv_istore_n (lv' := [(3, _), (0, _), (1, _), (2, _)]) hx hb dX11_swaps_6 rfl hl (by decide) rfl (fun ls hl => ?_)
  refine lv_aload_n hx hb dX11_swaps_7 rfl (lv_at hl 1 rfl) ?_
  refine hm_getr X hw lkM_94 LM_0 (b := 23) rfl dX11_swaps_8 ?_
  refine lv_iload_n hx hb dX11_swaps_11 rfl (lv_at hl 2 rfl) ?_
  refine lv_aload_n hx hb dX11_swaps_12 rfl (lv_at hl 1 rfl) ?_
  refine hm_getr X hw lkM_94 LM_0 (b := 23) rfl dX11_swaps_13 ?_
  refine lv_iload_n hx hb dX11_swaps_16 rfl (lv_at hl 3 rfl) ?_
  obtain ⟨hi, h⟩ := h
  refine hm_iald X hw LM_23 hi dX11_swaps_17 ?_
  obtain ⟨hi, h⟩ := h
  refine hm_iast X hw LM_23 hi dX11_swaps_18 (fun H locs hw => ?_)
  refine lv_aload_n hx hb dX11_swaps_19 rfl (lv_at hl 1 rfl) ?_
  refine hm_getr X hw lkM_94 LM_0 (b := 23) rfl dX11_swaps_20 ?_
  refine lv_iload_n hx hb dX11_swaps_23 rfl (lv_at hl 3 rfl) ?_
  refine lv_iload_n hx hb dX11_swaps_24 rfl (lv_at hl 0 rfl) ?_
  obtain ⟨hi, h⟩ := h
  refine hm_iast X hw LM_23 hi dX11_swaps_25 (fun H locs hw => ?_)
  exact hm_vret X hr hlk hw ⟨_, rfl, h⟩ dX11_swaps_26

theorem wkM_turns_l86 {J : HJ} {Q : Int32 → HI → Prop} (X : hX p m c s args RX11 cX11_turns 5) (hr : meth.sig.returnType = (some .boolean)) (hlk : meth.locks = false) (hR : 1 ≤ R.frames ∧ 23 ≤ R.locals)   : ∀ (n : Nat) (I : HI) (x3 : Int32) (x4 : Int32) {ls : Array Slot} {H : Heap} {locs : List Loc}, M_turns_l86 Q n I x3 x4 → hW D cA z Ev0 (I, J, T, FM, LM) A s H locs → lv_has ls 5 [(0, .ref (z + 0)), (3, .int x3), (4, .int x4)] → W p l e R s m args below meth c H locs 0 0 (MQ below (va_Qi (pI J T FM LM Q) (hB D cA z A) A) args s 0 0 A) (F0 m 86 ls []) := by
  have hx := X.1
  have hb := X.2.1
  intro n
  induction n with
  | zero => intro I x3 x4 ls H locs h; exact False.elim h
  | succ n ih =>
    intro I x3 x4 ls H locs h hw hl
    rw [M_turns_l86] at h
    refine lv_iload_n hx hb dX11_turns_86 rfl (lv_at hl 1 rfl) ?_
    refine lv_iload hx hb dX11_turns_87 (lv_at hl 2 rfl) ?_
    refine lv_icmp_ge (tgt := 108) hx hb dX11_turns_89 (by decide) (fun hc => ?_) (fun hc => ?_)
    · have h := Eq.mp (if_pos hc) h
      refine lv_iconst (v := 1) hx hb dX11_turns_108 (by decide) ?_
      exact hm_zret X hr hlk hw zb_1 ⟨_, rfl, h⟩ dX11_turns_109
    · have h := Eq.mp (if_neg hc) h
      refine lv_aload_n hx hb dX11_turns_92 rfl (lv_at hl 0 rfl) ?_
      refine lv_iload_n hx hb dX11_turns_93 rfl (lv_at hl 1 rfl) ?_
      refine lv_iload hx hb dX11_turns_94 (lv_at hl 2 rfl) ?_
      refine hm_callv hw (hm_runV (rest := []) hCl_true X hw (cM_swaps  h) ykM_swaps kw1828 rfl LM_0 rfl hl.1 rfl rfl rfl (Nat.le_of_ble_eq_true rfl) ⟨Nat.le_trans (Nat.le_of_ble_eq_true rfl) hR.1, Nat.le_trans (Nat.le_of_ble_eq_true rfl) hR.2⟩ ⟨Nat.zero_le _, Nat.zero_le _⟩ dX11_turns_96) (fun u4 H locs hp hw => ?_)
      obtain ⟨I3, rfl, h⟩ := hp
      refine lv_iinc (v := x3 + 1) (lv' := [(3, _), (0, _), (4, _)]) hx hb dX11_turns_99 hl (k := 1) rfl rfl (by decide) rfl (fun ls hl => ?_)
      refine lv_iinc (v := x4 + (-1)) (lv' := [(4, _), (3, _), (0, _)]) hx hb dX11_turns_102 hl (k := 2) rfl rfl (by decide) rfl (fun ls hl => ?_)
      refine lv_goto (tgt := 86) hx hb dX11_turns_105 (by decide) ?_
      exact ih _ _ _ h hw (lv_sub hl [2, 1, 0] rfl)

theorem wkM_turns_l47 {I : HI} {J : HJ} {x1 : Int32} {Q : Int32 → HI → Prop} (X : hX p m c s args RX11 cX11_turns 5) (hr : meth.sig.returnType = (some .boolean)) (hlk : meth.locks = false) (hR : 1 ≤ R.frames ∧ 23 ≤ R.locals)   : ∀ (n : Nat) (x2 : Int32) {ls : Array Slot} {H : Heap} {locs : List Loc}, M_turns_l47 I x1 Q n x2 → hW D cA z Ev0 (I, J, T, FM, LM) A s H locs → lv_has ls 5 [(0, .ref (z + 0)), (1, .int x1), (2, .int x2)] → W p l e R s m args below meth c H locs 0 0 (MQ below (va_Qi (pI J T FM LM Q) (hB D cA z A) A) args s 0 0 A) (F0 m 47 ls []) := by
  have hx := X.1
  have hb := X.2.1
  intro n
  induction n with
  | zero => intro x2 ls H locs h; exact False.elim h
  | succ n ih =>
    intro x2 ls H locs h hw hl
    rw [M_turns_l47] at h
    refine lv_aload_n hx hb dX11_turns_47 rfl (lv_at hl 0 rfl) ?_
    refine hm_getr X hw lkM_94 LM_0 (b := 23) rfl dX11_turns_48 ?_
    refine lv_iload_n hx hb dX11_turns_51 rfl (lv_at hl 2 rfl) ?_
    obtain ⟨hi, h⟩ := h
    refine hm_iald X hw LM_23 hi dX11_turns_52 ?_
    refine lv_aload_n hx hb dX11_turns_53 rfl (lv_at hl 0 rfl) ?_
    refine hm_getr X hw lkM_94 LM_0 (b := 23) rfl dX11_turns_54 ?_
    refine lv_iload_n hx hb dX11_turns_57 rfl (lv_at hl 1 rfl) ?_
    obtain ⟨hi, h⟩ := h
    refine hm_iald X hw LM_23 hi dX11_turns_58 ?_
    refine lv_icmp_ge (tgt := 68) hx hb dX11_turns_59 (by decide) (fun hc => ?_) (fun hc => ?_)
    · have h := Eq.mp (if_pos hc) h
      refine lv_aload_n hx hb dX11_turns_68 rfl (lv_at hl 0 rfl) ?_
      refine lv_iload_n hx hb dX11_turns_69 rfl (lv_at hl 1 rfl) ?_
      refine lv_iload_n hx hb dX11_turns_70 rfl (lv_at hl 2 rfl) ?_
      refine hm_callv hw (hm_runV (rest := []) hCl_true X hw (cM_swaps  h) ykM_swaps kw1828 rfl LM_0 rfl hl.1 rfl rfl rfl (Nat.le_of_ble_eq_true rfl) ⟨Nat.le_trans (Nat.le_of_ble_eq_true rfl) hR.1, Nat.le_trans (Nat.le_of_ble_eq_true rfl) hR.2⟩ ⟨Nat.zero_le _, Nat.zero_le _⟩ dX11_turns_71) (fun u2 H locs hp hw => ?_)
      obtain ⟨I1, rfl, h⟩ := hp
      refine lv_iload_n hx hb dX11_turns_74 rfl (lv_at hl 1 rfl) ?_
      refine lv_iconst (v := 1) hx hb dX11_turns_75 (by decide) ?_
      refine lv_iadd hx hb dX11_turns_76 ?_
      refine lv_istore_n (lv' := [(3, _), (0, _), (1, _), (2, _)]) hx hb dX11_turns_77 rfl hl (by decide) rfl (fun ls hl => ?_)
      refine lv_aload_n hx hb dX11_turns_78 rfl (lv_at hl 1 rfl) ?_
      refine hm_geti X hw lkM_7 LM_0 dX11_turns_79 ?_
      refine lv_iconst (v := 1) hx hb dX11_turns_82 (by decide) ?_
      refine lv_isub hx hb dX11_turns_83 ?_
      refine lv_istore (lv' := [(4, _), (3, _), (0, _), (1, _), (2, _)]) hx hb dX11_turns_84 hl (by decide) rfl (fun ls hl => ?_)
      obtain ⟨n2, h⟩ := h
      exact wkM_turns_l86 X hr hlk hR   n2 _ _ _ h hw (lv_sub hl [2, 1, 0] rfl)
    · have h := Eq.mp (if_neg hc) h
      refine lv_iinc (v := x2 + (-1)) (lv' := [(2, _), (0, _), (1, _)]) hx hb dX11_turns_62 hl (k := 2) rfl rfl (by decide) rfl (fun ls hl => ?_)
      refine lv_goto (tgt := 47) hx hb dX11_turns_65 (by decide) ?_
      exact ih _ h hw (lv_sub hl [1, 2, 0] rfl)

theorem wkM_turns_b34 {I : HI} {J : HJ} {x1 : Int32} {Q : Int32 → HI → Prop} (X : hX p m c s args RX11 cX11_turns 5) (hr : meth.sig.returnType = (some .boolean)) (hlk : meth.locks = false) (hR : 1 ≤ R.frames ∧ 23 ≤ R.locals)   : ∀ {ls : Array Slot} {H : Heap} {locs : List Loc}, M_turns_b34 I x1 Q → hW D cA z Ev0 (I, J, T, FM, LM) A s H locs → lv_has ls 5 [(0, .ref (z + 0)), (1, .int x1)] → W p l e R s m args below meth c H locs 0 0 (MQ below (va_Qi (pI J T FM LM Q) (hB D cA z A) A) args s 0 0 A) (F0 m 34 ls []) := by
  have hx := X.1
  have hb := X.2.1
  intro ls H locs h hw hl
  unfold M_turns_b34 at h
  refine lv_iload_n hx hb dX11_turns_34 rfl (lv_at hl 1 rfl) ?_
  refine lv_if_ge (tgt := 40) hx hb dX11_turns_35 (by decide) (fun hc => ?_) (fun hc => ?_)
  · have h := Eq.mp (if_pos hc) h
    refine lv_aload_n hx hb dX11_turns_40 rfl (lv_at hl 0 rfl) ?_
    refine hm_geti X hw lkM_7 LM_0 dX11_turns_41 ?_
    refine lv_iconst (v := 1) hx hb dX11_turns_44 (by decide) ?_
    refine lv_isub hx hb dX11_turns_45 ?_
    refine lv_istore_n (lv' := [(2, _), (0, _), (1, _)]) hx hb dX11_turns_46 rfl hl (by decide) rfl (fun ls hl => ?_)
    obtain ⟨n2, h⟩ := h
    exact wkM_turns_l47 X hr hlk hR   n2 _ h hw (lv_sub hl [1, 2, 0] rfl)
  · have h := Eq.mp (if_neg hc) h
    refine lv_iconst (v := 0) hx hb dX11_turns_38 (by decide) ?_
    exact hm_zret X hr hlk hw zb_0 ⟨_, rfl, h⟩ dX11_turns_39

theorem wkM_turns_l7 {I : HI} {J : HJ} {Q : Int32 → HI → Prop} (X : hX p m c s args RX11 cX11_turns 5) (hr : meth.sig.returnType = (some .boolean)) (hlk : meth.locks = false) (hR : 1 ≤ R.frames ∧ 23 ≤ R.locals)   : ∀ (n : Nat) (x1 : Int32) {ls : Array Slot} {H : Heap} {locs : List Loc}, M_turns_l7 I Q n x1 → hW D cA z Ev0 (I, J, T, FM, LM) A s H locs → lv_has ls 5 [(0, .ref (z + 0)), (1, .int x1)] → W p l e R s m args below meth c H locs 0 0 (MQ below (va_Qi (pI J T FM LM Q) (hB D cA z A) A) args s 0 0 A) (F0 m 7 ls []) := by
  have hx := X.1
  have hb := X.2.1
  intro n
  induction n with
  | zero => intro x1 ls H locs h; exact False.elim h
  | succ n ih =>
    intro x1 ls H locs h hw hl
    rw [M_turns_l7] at h
    refine lv_iload_n hx hb dX11_turns_7 rfl (lv_at hl 1 rfl) ?_
    refine lv_if_lt (tgt := 34) hx hb dX11_turns_8 (by decide) (fun hc => ?_) (fun hc => ?_)
    · have h := Eq.mp (if_pos hc) h
      exact wkM_turns_b34 X hr hlk hR   h hw (lv_sub hl [0, 1] rfl)
    · have h := Eq.mp (if_neg hc) h
      refine lv_aload_n hx hb dX11_turns_11 rfl (lv_at hl 0 rfl) ?_
      refine hm_getr X hw lkM_94 LM_0 (b := 23) rfl dX11_turns_12 ?_
      refine lv_iload_n hx hb dX11_turns_15 rfl (lv_at hl 1 rfl) ?_
      obtain ⟨hi, h⟩ := h
      refine hm_iald X hw LM_23 hi dX11_turns_16 ?_
      refine lv_aload_n hx hb dX11_turns_17 rfl (lv_at hl 0 rfl) ?_
      refine hm_getr X hw lkM_94 LM_0 (b := 23) rfl dX11_turns_18 ?_
      refine lv_iload_n hx hb dX11_turns_21 rfl (lv_at hl 1 rfl) ?_
      refine lv_iconst (v := 1) hx hb dX11_turns_22 (by decide) ?_
      refine lv_iadd hx hb dX11_turns_23 ?_
      obtain ⟨hi, h⟩ := h
      refine hm_iald X hw LM_23 hi dX11_turns_24 ?_
      refine lv_icmp_le (tgt := 34) hx hb dX11_turns_25 (by decide) (fun hc => ?_) (fun hc => ?_)
      · have h := Eq.mp (if_pos hc) h
        exact wkM_turns_b34 X hr hlk hR   h hw (lv_sub hl [0, 1] rfl)
      · have h := Eq.mp (if_neg hc) h
        refine lv_iinc (v := x1 + (-1)) (lv' := [(1, _), (0, _)]) hx hb dX11_turns_28 hl (k := 1) rfl rfl (by decide) rfl (fun ls hl => ?_)
        refine lv_goto (tgt := 7) hx hb dX11_turns_31 (by decide) ?_
        exact ih _ h hw (lv_sub hl [1, 0] rfl)

theorem cM_turns {l : Launch} {D : va_G} {cA : Nat → ClassId} {z sz : Nat} {I : HI} {J : HJ}  {Q : Int32 → HI → Prop}  (h : M_turns I  Q) : Met l yX11_turns (hws0 yX11_turns cX11_turns 5 (some .boolean)) { frames := 1, cells := 0, slots := 0, locals := 23 } (hPc D cA z Ev0 (I, J, T, FM, LM) sz [.ref (z + 0)]) (va_Qi (pI J T FM LM Q) (hB D cA z (hA z LM sz)) (hA z LM sz)) 0 0 (hA z LM sz) := by
  refine hm_met (I, J, T, FM, LM) [.ref (z + 0)] rfl (by decide) (Nat.le_of_ble_eq_true rfl) ?_
  intro p e s m below meth c ls X hr hlk hnm hxt hsz hw hl
  have hl : lv_has ls 5 [(0, .ref (z + 0))] := hl
  have hR : 1 ≤ ({ frames := 1, cells := 0, slots := 0, locals := 23 } : Room).frames ∧ 23 ≤ ({ frames := 1, cells := 0, slots := 0, locals := 23 } : Room).locals := ⟨Nat.le_refl _, Nat.le_refl _⟩
  generalize ({ frames := 1, cells := 0, slots := 0, locals := 23 } : Room) = R at hR ⊢
  clear hsz
  generalize (hA z LM sz) = A at hw ⊢
  have hx := X.1
  have hb := X.2.1
  unfold M_turns at h
  refine lv_aload_n hx hb dX11_turns_0 rfl (lv_at hl 0 rfl) ?_
  refine hm_geti X hw lkM_7 LM_0 dX11_turns_1 ?_
  refine lv_iconst (v := 2) hx hb dX11_turns_4 (by decide) ?_
  refine lv_isub hx hb dX11_turns_5 ?_
  refine lv_istore_n (lv' := [(1, _), (0, _)]) hx hb dX11_turns_6 rfl hl (by decide) rfl (fun ls hl => ?_)
  obtain ⟨n2, h⟩ := h
  exact wkM_turns_l7 X hr hlk hR   n2 _ h hw (lv_sub hl [1, 0] rfl)

theorem wkM_isAlike_l44 {I : HI} {J : HJ} {x2 : Int32} {K4 : Int32 → Int32 → Prop} {Q : Int32 → Prop} (X : hX p m c s args RX11 cX11_isAlike 4) (hr : meth.sig.returnType = (some .boolean)) (hlk : meth.locks = false) (hR : 0 ≤ R.frames ∧ 0 ≤ R.locals)  (hK4 : ∀ (x1 : Int32) (x2 : Int32) {ls : Array Slot} {H : Heap} {locs : List Loc}, K4 x1 x2 → hW D cA z Ev0 (I, J, T, FM, LM) A s H locs → lv_has ls 4 [(0, .ref (z + 0)), (1, .int x1), (2, .int x2)] → W p l e R s m args below meth c H locs 0 0 (MQ below (va_Qi (p0 (I, J, T, FM, LM) Q) (hB D cA z A) A) args s 0 0 A) (F0 m 4 ls [])) : ∀ (n : Nat) (x1 : Int32) (x3 : Int32) {ls : Array Slot} {H : Heap} {locs : List Loc}, M_isAlike_l44 I x2 K4 Q n x1 x3 → hW D cA z Ev0 (I, J, T, FM, LM) A s H locs → lv_has ls 4 [(0, .ref (z + 0)), (1, .int x1), (2, .int x2), (3, .int x3)] → W p l e R s m args below meth c H locs 0 0 (MQ below (va_Qi (p0 (I, J, T, FM, LM) Q) (hB D cA z A) A) args s 0 0 A) (F0 m 44 ls []) := by
  have hx := X.1
  have hb := X.2.1
  intro n
  induction n with
  | zero => intro x1 x3 ls H locs h; exact False.elim h
  | succ n ih =>
    intro x1 x3 ls H locs h hw hl
    rw [M_isAlike_l44] at h
    refine lv_iload_n hx hb dX11_isAlike_44 rfl (lv_at hl 3 rfl) ?_
    refine lv_aload_n hx hb dX11_isAlike_45 rfl (lv_at hl 0 rfl) ?_
    refine hm_geti X hw lkM_7 LM_0 dX11_isAlike_46 ?_
    refine lv_icmp_ge (tgt := 101) hx hb dX11_isAlike_49 (by decide) (fun hc => ?_) (fun hc => ?_)
    · have h := Eq.mp (if_pos hc) h
      refine lv_iinc (v := x2 + 1) (lv' := [(2, _), (0, _), (1, _), (3, _)]) hx hb dX11_isAlike_101 hl (k := 2) rfl rfl (by decide) rfl (fun ls hl => ?_)
      refine lv_goto (tgt := 4) hx hb dX11_isAlike_104 (by decide) ?_
      exact hK4 _ _ h hw (lv_sub hl [1, 2, 0] rfl)
    · have h := Eq.mp (if_neg hc) h
      refine lv_iload_n hx hb dX11_isAlike_52 rfl (lv_at hl 1 rfl) ?_
      refine lv_if_eq (tgt := 93) hx hb dX11_isAlike_53 (by decide) (fun hc => ?_) (fun hc => ?_)
      · have h := Eq.mp (if_pos hc) h
        refine lv_iconst (v := 0) hx hb dX11_isAlike_93 (by decide) ?_
        refine lv_istore_n (lv' := [(1, _), (0, _), (2, _), (3, _)]) hx hb dX11_isAlike_94 rfl hl (by decide) rfl (fun ls hl => ?_)
        refine lv_iinc (v := x3 + 1) (lv' := [(3, _), (1, _), (0, _), (2, _)]) hx hb dX11_isAlike_95 hl (k := 3) rfl rfl (by decide) rfl (fun ls hl => ?_)
        refine lv_goto (tgt := 44) hx hb dX11_isAlike_98 (by decide) ?_
        exact ih _ _ h hw (lv_sub hl [2, 1, 3, 0] rfl)
      · have h := Eq.mp (if_neg hc) h
        refine lv_aload_n hx hb dX11_isAlike_56 rfl (lv_at hl 0 rfl) ?_
        refine hm_getr X hw lkM_26 LM_0 (b := 2) rfl dX11_isAlike_57 ?_
        refine lv_aload_n hx hb dX11_isAlike_60 rfl (lv_at hl 0 rfl) ?_
        refine hm_getr X hw lkM_94 LM_0 (b := 23) rfl dX11_isAlike_61 ?_
        refine lv_iload_n hx hb dX11_isAlike_64 rfl (lv_at hl 2 rfl) ?_
        obtain ⟨hi, h⟩ := h
        refine hm_iald X hw LM_23 hi dX11_isAlike_65 ?_
        obtain ⟨hi, h⟩ := h
        refine hm_iald X hw LM_2 hi dX11_isAlike_66 ?_
        refine lv_aload_n hx hb dX11_isAlike_67 rfl (lv_at hl 0 rfl) ?_
        refine hm_getr X hw lkM_94 LM_0 (b := 23) rfl dX11_isAlike_68 ?_
        refine lv_iload_n hx hb dX11_isAlike_71 rfl (lv_at hl 3 rfl) ?_
        obtain ⟨hi, h⟩ := h
        refine hm_iald X hw LM_23 hi dX11_isAlike_72 ?_
        refine lv_ishr hx hb dX11_isAlike_73 ?_
        refine lv_iconst (v := 1) hx hb dX11_isAlike_74 (by decide) ?_
        refine lv_iand hx hb dX11_isAlike_75 ?_
        refine lv_aload_n hx hb dX11_isAlike_76 rfl (lv_at hl 0 rfl) ?_
        refine hm_getr X hw lkM_26 LM_0 (b := 2) rfl dX11_isAlike_77 ?_
        refine lv_iload_n hx hb dX11_isAlike_80 rfl (lv_at hl 2 rfl) ?_
        obtain ⟨hi, h⟩ := h
        refine hm_iald X hw LM_2 hi dX11_isAlike_81 ?_
        refine lv_iload_n hx hb dX11_isAlike_82 rfl (lv_at hl 3 rfl) ?_
        refine lv_ishr hx hb dX11_isAlike_83 ?_
        refine lv_iconst (v := 1) hx hb dX11_isAlike_84 (by decide) ?_
        refine lv_iand hx hb dX11_isAlike_85 ?_
        refine lv_icmp_ne (tgt := 93) hx hb dX11_isAlike_86 (by decide) (fun hc => ?_) (fun hc => ?_)
        · have h := Eq.mp (if_neg hc) h
          refine lv_iconst (v := 0) hx hb dX11_isAlike_93 (by decide) ?_
          refine lv_istore_n (lv' := [(1, _), (0, _), (2, _), (3, _)]) hx hb dX11_isAlike_94 rfl hl (by decide) rfl (fun ls hl => ?_)
          refine lv_iinc (v := x3 + 1) (lv' := [(3, _), (1, _), (0, _), (2, _)]) hx hb dX11_isAlike_95 hl (k := 3) rfl rfl (by decide) rfl (fun ls hl => ?_)
          refine lv_goto (tgt := 44) hx hb dX11_isAlike_98 (by decide) ?_
          exact ih _ _ h hw (lv_sub hl [2, 1, 3, 0] rfl)
        · have h := Eq.mp (if_pos hc) h
          refine lv_iconst (v := 1) hx hb dX11_isAlike_89 (by decide) ?_
          refine lv_goto (tgt := 94) hx hb dX11_isAlike_90 (by decide) ?_
          refine lv_istore_n (lv' := [(1, _), (0, _), (2, _), (3, _)]) hx hb dX11_isAlike_94 rfl hl (by decide) rfl (fun ls hl => ?_)
          refine lv_iinc (v := x3 + 1) (lv' := [(3, _), (1, _), (0, _), (2, _)]) hx hb dX11_isAlike_95 hl (k := 3) rfl rfl (by decide) rfl (fun ls hl => ?_)
          refine lv_goto (tgt := 44) hx hb dX11_isAlike_98 (by decide) ?_
          exact ih _ _ h hw (lv_sub hl [2, 1, 3, 0] rfl)

theorem wkM_isAlike_l4 {I : HI} {J : HJ} {Q : Int32 → Prop} (X : hX p m c s args RX11 cX11_isAlike 4) (hr : meth.sig.returnType = (some .boolean)) (hlk : meth.locks = false) (hR : 0 ≤ R.frames ∧ 0 ≤ R.locals)   : ∀ (n : Nat) (x1 : Int32) (x2 : Int32) {ls : Array Slot} {H : Heap} {locs : List Loc}, M_isAlike_l4 I Q n x1 x2 → hW D cA z Ev0 (I, J, T, FM, LM) A s H locs → lv_has ls 4 [(0, .ref (z + 0)), (1, .int x1), (2, .int x2)] → W p l e R s m args below meth c H locs 0 0 (MQ below (va_Qi (p0 (I, J, T, FM, LM) Q) (hB D cA z A) A) args s 0 0 A) (F0 m 4 ls []) := by
  have hx := X.1
  have hb := X.2.1
  intro n
  induction n with
  | zero => intro x1 x2 ls H locs h; exact False.elim h
  | succ n ih =>
    intro x1 x2 ls H locs h hw hl
    rw [M_isAlike_l4] at h
    refine lv_iload_n hx hb dX11_isAlike_4 rfl (lv_at hl 2 rfl) ?_
    refine lv_aload_n hx hb dX11_isAlike_5 rfl (lv_at hl 0 rfl) ?_
    refine hm_geti X hw lkM_7 LM_0 dX11_isAlike_6 ?_
    refine lv_icmp_ge (tgt := 107) hx hb dX11_isAlike_9 (by decide) (fun hc => ?_) (fun hc => ?_)
    · have h := Eq.mp (if_pos hc) h
      refine lv_iload_n hx hb dX11_isAlike_107 rfl (lv_at hl 1 rfl) ?_
      obtain ⟨hz, h⟩ := h
      exact hm_zret X hr hlk hw hz ⟨rfl, h⟩ dX11_isAlike_108
    · have h := Eq.mp (if_neg hc) h
      refine lv_iload_n hx hb dX11_isAlike_12 rfl (lv_at hl 1 rfl) ?_
      refine lv_if_eq (tgt := 40) hx hb dX11_isAlike_13 (by decide) (fun hc => ?_) (fun hc => ?_)
      · have h := Eq.mp (if_pos hc) h
        refine lv_iconst (v := 0) hx hb dX11_isAlike_40 (by decide) ?_
        refine lv_istore_n (lv' := [(1, _), (0, _), (2, _)]) hx hb dX11_isAlike_41 rfl hl (by decide) rfl (fun ls hl => ?_)
        refine lv_iconst (v := 0) hx hb dX11_isAlike_42 (by decide) ?_
        refine lv_istore_n (lv' := [(3, _), (1, _), (0, _), (2, _)]) hx hb dX11_isAlike_43 rfl hl (by decide) rfl (fun ls hl => ?_)
        obtain ⟨n2, h⟩ := h
        exact wkM_isAlike_l44 X hr hlk hR  ih n2 _ _ h hw (lv_sub hl [2, 1, 3, 0] rfl)
      · have h := Eq.mp (if_neg hc) h
        refine lv_aload_n hx hb dX11_isAlike_16 rfl (lv_at hl 0 rfl) ?_
        refine hm_getr X hw lkM_29 LM_0 (b := 3) rfl dX11_isAlike_17 ?_
        refine lv_aload_n hx hb dX11_isAlike_20 rfl (lv_at hl 0 rfl) ?_
        refine hm_getr X hw lkM_94 LM_0 (b := 23) rfl dX11_isAlike_21 ?_
        refine lv_iload_n hx hb dX11_isAlike_24 rfl (lv_at hl 2 rfl) ?_
        obtain ⟨hi, h⟩ := h
        refine hm_iald X hw LM_23 hi dX11_isAlike_25 ?_
        obtain ⟨hi, h⟩ := h
        refine hm_iald X hw LM_3 hi dX11_isAlike_26 ?_
        refine lv_aload_n hx hb dX11_isAlike_27 rfl (lv_at hl 0 rfl) ?_
        refine hm_getr X hw lkM_29 LM_0 (b := 3) rfl dX11_isAlike_28 ?_
        refine lv_iload_n hx hb dX11_isAlike_31 rfl (lv_at hl 2 rfl) ?_
        obtain ⟨hi, h⟩ := h
        refine hm_iald X hw LM_3 hi dX11_isAlike_32 ?_
        refine lv_icmp_ne (tgt := 40) hx hb dX11_isAlike_33 (by decide) (fun hc => ?_) (fun hc => ?_)
        · have h := Eq.mp (if_neg hc) h
          refine lv_iconst (v := 0) hx hb dX11_isAlike_40 (by decide) ?_
          refine lv_istore_n (lv' := [(1, _), (0, _), (2, _)]) hx hb dX11_isAlike_41 rfl hl (by decide) rfl (fun ls hl => ?_)
          refine lv_iconst (v := 0) hx hb dX11_isAlike_42 (by decide) ?_
          refine lv_istore_n (lv' := [(3, _), (1, _), (0, _), (2, _)]) hx hb dX11_isAlike_43 rfl hl (by decide) rfl (fun ls hl => ?_)
          obtain ⟨n2, h⟩ := h
          exact wkM_isAlike_l44 X hr hlk hR  ih n2 _ _ h hw (lv_sub hl [2, 1, 3, 0] rfl)
        · have h := Eq.mp (if_pos hc) h
          refine lv_iconst (v := 1) hx hb dX11_isAlike_36 (by decide) ?_
          refine lv_goto (tgt := 41) hx hb dX11_isAlike_37 (by decide) ?_
          refine lv_istore_n (lv' := [(1, _), (0, _), (2, _)]) hx hb dX11_isAlike_41 rfl hl (by decide) rfl (fun ls hl => ?_)
          refine lv_iconst (v := 0) hx hb dX11_isAlike_42 (by decide) ?_
          refine lv_istore_n (lv' := [(3, _), (1, _), (0, _), (2, _)]) hx hb dX11_isAlike_43 rfl hl (by decide) rfl (fun ls hl => ?_)
          obtain ⟨n2, h⟩ := h
          exact wkM_isAlike_l44 X hr hlk hR  ih n2 _ _ h hw (lv_sub hl [2, 1, 3, 0] rfl)

theorem cM_isAlike {l : Launch} {D : va_G} {cA : Nat → ClassId} {z sz : Nat} {I : HI} {J : HJ}  {Q : Int32 → Prop}  (h : M_isAlike I  Q) : Met l yX11_isAlike (hws0 yX11_isAlike cX11_isAlike 4 (some .boolean)) { frames := 0, cells := 0, slots := 0, locals := 0 } (hPc D cA z Ev0 (I, J, T, FM, LM) sz [.ref (z + 0)]) (va_Qi (p0 (I, J, T, FM, LM) Q) (hB D cA z (hA z LM sz)) (hA z LM sz)) 0 0 (hA z LM sz) := by
  refine hm_met (I, J, T, FM, LM) [.ref (z + 0)] rfl (by decide) (Nat.le_of_ble_eq_true rfl) ?_
  intro p e s m below meth c ls X hr hlk hnm hxt hsz hw hl
  have hl : lv_has ls 4 [(0, .ref (z + 0))] := hl
  have hR : 0 ≤ ({ frames := 0, cells := 0, slots := 0, locals := 0 } : Room).frames ∧ 0 ≤ ({ frames := 0, cells := 0, slots := 0, locals := 0 } : Room).locals := ⟨Nat.le_refl _, Nat.le_refl _⟩
  generalize ({ frames := 0, cells := 0, slots := 0, locals := 0 } : Room) = R at hR ⊢
  clear hsz
  generalize (hA z LM sz) = A at hw ⊢
  have hx := X.1
  have hb := X.2.1
  unfold M_isAlike at h
  refine lv_iconst (v := 1) hx hb dX11_isAlike_0 (by decide) ?_
  refine lv_istore_n (lv' := [(1, _), (0, _)]) hx hb dX11_isAlike_1 rfl hl (by decide) rfl (fun ls hl => ?_)
  refine lv_iconst (v := 0) hx hb dX11_isAlike_2 (by decide) ?_
  refine lv_istore_n (lv' := [(2, _), (1, _), (0, _)]) hx hb dX11_isAlike_3 rfl hl (by decide) rfl (fun ls hl => ?_)
  obtain ⟨n2, h⟩ := h
  exact wkM_isAlike_l4 X hr hlk hR   n2 _ _ h hw (lv_sub hl [2, 1, 0] rfl)

theorem wkM_alike_l43 {J : HJ} {Q : Int32 → HI → Prop} (X : hX p m c s args RX11 cX11_alike 3) (hr : meth.sig.returnType = (some .int)) (hlk : meth.locks = false) (hR : 2 ≤ R.frames ∧ 47 ≤ R.locals)   : ∀ (n : Nat) (I : HI) (x1 : Int32) (x2 : Int32) {ls : Array Slot} {H : Heap} {locs : List Loc}, M_alike_l43 Q n I x1 x2 → hW D cA z Ev0 (I, J, T, FM, LM) A s H locs → lv_has ls 3 [(0, .ref (z + 0)), (1, .int x1), (2, .int x2)] → W p l e R s m args below meth c H locs 0 0 (MQ below (va_Qi (pI J T FM LM Q) (hB D cA z A) A) args s 0 0 A) (F0 m 43 ls []) := by
  have hx := X.1
  have hb := X.2.1
  intro n
  induction n with
  | zero => intro I x1 x2 ls H locs h; exact False.elim h
  | succ n ih =>
    intro I x1 x2 ls H locs h hw hl
    rw [M_alike_l43] at h
    refine lv_iload_n hx hb dX11_alike_43 rfl (lv_at hl 2 rfl) ?_
    refine lv_if_eq (tgt := 65) hx hb dX11_alike_44 (by decide) (fun hc => ?_) (fun hc => ?_)
    · have h := Eq.mp (if_pos hc) h
      refine lv_iload_n hx hb dX11_alike_65 rfl (lv_at hl 1 rfl) ?_
      exact hm_iret X hr hlk hw ⟨_, rfl, h⟩ dX11_alike_66
    · have h := Eq.mp (if_neg hc) h
      refine lv_aload_n hx hb dX11_alike_47 rfl (lv_at hl 0 rfl) ?_
      refine hm_calli hw (hm_runV (rest := []) hCl_true X hw (cM_isAlike  h) ykM_isAlike kw1820 rfl LM_0 rfl hl.1 rfl rfl rfl (Nat.le_of_ble_eq_true rfl) ⟨Nat.le_trans (Nat.le_of_ble_eq_true rfl) hR.1, Nat.le_trans (Nat.le_of_ble_eq_true rfl) hR.2⟩ ⟨Nat.zero_le _, Nat.zero_le _⟩ dX11_alike_48) (fun r1 u2 H locs hp hw => ?_)
      obtain ⟨rfl, h⟩ := hp
      refine lv_if_eq (tgt := 57) hx hb dX11_alike_51 (by decide) (fun hc => ?_) (fun hc => ?_)
      · have h := Eq.mp (if_pos hc) h
        refine lv_aload_n hx hb dX11_alike_57 rfl (lv_at hl 0 rfl) ?_
        refine hm_calli hw (hm_runV (rest := []) hCl_true X hw (cM_turns  h) ykM_turns kw1824 rfl LM_0 rfl hl.1 rfl rfl rfl (Nat.le_of_ble_eq_true rfl) ⟨Nat.le_trans (Nat.le_of_ble_eq_true rfl) hR.1, Nat.le_trans (Nat.le_of_ble_eq_true rfl) hR.2⟩ ⟨Nat.zero_le _, Nat.zero_le _⟩ dX11_alike_58) (fun r3 u5 H locs hp hw => ?_)
        obtain ⟨I4, rfl, h⟩ := hp
        refine lv_istore_n (lv' := [(2, _), (0, _), (1, _)]) hx hb dX11_alike_61 rfl hl (by decide) rfl (fun ls hl => ?_)
        refine lv_goto (tgt := 43) hx hb dX11_alike_62 (by decide) ?_
        exact ih _ _ _ h hw (lv_sub hl [1, 2, 0] rfl)
      · have h := Eq.mp (if_neg hc) h
        refine lv_iinc (v := x1 + 1) (lv' := [(1, _), (0, _), (2, _)]) hx hb dX11_alike_54 hl (k := 1) rfl rfl (by decide) rfl (fun ls hl => ?_)
        refine lv_aload_n hx hb dX11_alike_57 rfl (lv_at hl 1 rfl) ?_
        refine hm_calli hw (hm_runV (rest := []) hCl_true X hw (cM_turns  h) ykM_turns kw1824 rfl LM_0 rfl hl.1 rfl rfl rfl (Nat.le_of_ble_eq_true rfl) ⟨Nat.le_trans (Nat.le_of_ble_eq_true rfl) hR.1, Nat.le_trans (Nat.le_of_ble_eq_true rfl) hR.2⟩ ⟨Nat.zero_le _, Nat.zero_le _⟩ dX11_alike_58) (fun r6 u8 H locs hp hw => ?_)
        obtain ⟨I7, rfl, h⟩ := hp
        refine lv_istore_n (lv' := [(2, _), (1, _), (0, _)]) hx hb dX11_alike_61 rfl hl (by decide) rfl (fun ls hl => ?_)
        refine lv_goto (tgt := 43) hx hb dX11_alike_62 (by decide) ?_
        exact ih _ _ _ h hw (lv_sub hl [2, 1, 0] rfl)

theorem wkM_alike_l18 {J : HJ} {Q : Int32 → HI → Prop} (X : hX p m c s args RX11 cX11_alike 3) (hr : meth.sig.returnType = (some .int)) (hlk : meth.locks = false) (hR : 2 ≤ R.frames ∧ 47 ≤ R.locals)   : ∀ (n : Nat) (I : HI) (x1 : Int32) {ls : Array Slot} {H : Heap} {locs : List Loc}, M_alike_l18 Q n I x1 → hW D cA z Ev0 (I, J, T, FM, LM) A s H locs → lv_has ls 3 [(0, .ref (z + 0)), (1, .int x1)] → W p l e R s m args below meth c H locs 0 0 (MQ below (va_Qi (pI J T FM LM Q) (hB D cA z A) A) args s 0 0 A) (F0 m 18 ls []) := by
  have hx := X.1
  have hb := X.2.1
  intro n
  induction n with
  | zero => intro I x1 ls H locs h; exact False.elim h
  | succ n ih =>
    intro I x1 ls H locs h hw hl
    rw [M_alike_l18] at h
    refine lv_iload_n hx hb dX11_alike_18 rfl (lv_at hl 1 rfl) ?_
    refine lv_aload_n hx hb dX11_alike_19 rfl (lv_at hl 0 rfl) ?_
    refine hm_geti X hw lkM_7 LM_0 dX11_alike_20 ?_
    refine lv_icmp_ge (tgt := 39) hx hb dX11_alike_23 (by decide) (fun hc => ?_) (fun hc => ?_)
    · have h := Eq.mp (if_pos hc) h
      refine lv_iconst (v := 0) hx hb dX11_alike_39 (by decide) ?_
      refine lv_istore_n (lv' := [(1, _), (0, _)]) hx hb dX11_alike_40 rfl hl (by decide) rfl (fun ls hl => ?_)
      refine lv_iconst (v := 1) hx hb dX11_alike_41 (by decide) ?_
      refine lv_istore_n (lv' := [(2, _), (1, _), (0, _)]) hx hb dX11_alike_42 rfl hl (by decide) rfl (fun ls hl => ?_)
      obtain ⟨n2, h⟩ := h
      exact wkM_alike_l43 X hr hlk hR   n2 _ _ _ h hw (lv_sub hl [2, 1, 0] rfl)
    · have h := Eq.mp (if_neg hc) h
      refine lv_aload_n hx hb dX11_alike_26 rfl (lv_at hl 0 rfl) ?_
      refine hm_getr X hw lkM_94 LM_0 (b := 23) rfl dX11_alike_27 ?_
      refine lv_iload_n hx hb dX11_alike_30 rfl (lv_at hl 1 rfl) ?_
      refine lv_iload_n hx hb dX11_alike_31 rfl (lv_at hl 1 rfl) ?_
      obtain ⟨hi, h⟩ := h
      refine hm_iast X hw LM_23 hi dX11_alike_32 (fun H locs hw => ?_)
      refine lv_iinc (v := x1 + 1) (lv' := [(1, _), (0, _)]) hx hb dX11_alike_33 hl (k := 1) rfl rfl (by decide) rfl (fun ls hl => ?_)
      refine lv_goto (tgt := 18) hx hb dX11_alike_36 (by decide) ?_
      exact ih _ _ h hw (lv_sub hl [1, 0] rfl)

theorem cM_alike {l : Launch} {D : va_G} {cA : Nat → ClassId} {z sz : Nat} {I : HI} {J : HJ}  {Q : Int32 → HI → Prop}  (h : M_alike I  Q) : Met l yX11_alike (hws0 yX11_alike cX11_alike 3 (some .int)) { frames := 2, cells := 0, slots := 0, locals := 47 } (hPc D cA z Ev0 (I, J, T, FM, LM) sz [.ref (z + 0)]) (va_Qi (pI J T FM LM Q) (hB D cA z (hA z LM sz)) (hA z LM sz)) 0 0 (hA z LM sz) := by
  refine hm_met (I, J, T, FM, LM) [.ref (z + 0)] rfl (by decide) (Nat.le_of_ble_eq_true rfl) ?_
  intro p e s m below meth c ls X hr hlk hnm hxt hsz hw hl
  have hl : lv_has ls 3 [(0, .ref (z + 0))] := hl
  have hR : 2 ≤ ({ frames := 2, cells := 0, slots := 0, locals := 47 } : Room).frames ∧ 47 ≤ ({ frames := 2, cells := 0, slots := 0, locals := 47 } : Room).locals := ⟨Nat.le_refl _, Nat.le_refl _⟩
  generalize ({ frames := 2, cells := 0, slots := 0, locals := 47 } : Room) = R at hR ⊢
  clear hsz
  generalize (hA z LM sz) = A at hw ⊢
  have hx := X.1
  have hb := X.2.1
  unfold M_alike at h
  refine lv_aload_n hx hb dX11_alike_0 rfl (lv_at hl 0 rfl) ?_
  refine lv_iconst (v := 0) hx hb dX11_alike_1 (by decide) ?_
  refine hm_puti X hw lkM_174 LM_0 rfl rfl dX11_alike_2 (fun H locs hw => ?_)
  refine lv_aload_n hx hb dX11_alike_5 rfl (lv_at hl 0 rfl) ?_
  refine hm_geti X hw lkM_7 LM_0 dX11_alike_6 ?_
  refine lv_bipush (v := 6) hx hb dX11_alike_9 (by decide) ?_
  refine lv_icmp_le (tgt := 16) hx hb dX11_alike_11 (by decide) (fun hc => ?_) (fun hc => ?_)
  · have h := Eq.mp (if_pos hc) h
    refine lv_iconst (v := 0) hx hb dX11_alike_16 (by decide) ?_
    refine lv_istore_n (lv' := [(1, _), (0, _)]) hx hb dX11_alike_17 rfl hl (by decide) rfl (fun ls hl => ?_)
    obtain ⟨n2, h⟩ := h
    exact wkM_alike_l18 X hr hlk hR   n2 _ _ h hw (lv_sub hl [1, 0] rfl)
  · have h := Eq.mp (if_neg hc) h
    refine lv_iconst (v := (-1)) hx hb dX11_alike_14 (by decide) ?_
    exact hm_iret X hr hlk hw ⟨_, rfl, h⟩ dX11_alike_15

theorem wkM_ring_l70 {I : HI} {J : HJ} {x1 : Int32} {x2 : Int32} {x3 : Int32} {x4 : Int32} {x5 : Int32} {K9 : Int32 → Int32 → Prop} {K30 : Int32 → Int32 → Int32 → Int32 → Prop} {Q : Int32 → HI → Prop} (X : hX p m c s args RX11 cX11_ring 8) (hr : meth.sig.returnType = (some .int)) (hlk : meth.locks = false) (hR : 0 ≤ R.frames ∧ 0 ≤ R.locals)  (hK9 : ∀ (x1 : Int32) (x2 : Int32) {ls : Array Slot} {H : Heap} {locs : List Loc}, K9 x1 x2 → hW D cA z Ev0 (I, J, T, FM, LM) A s H locs → lv_has ls 8 [(0, .ref (z + 0)), (1, .int x1), (2, .int x2)] → W p l e R s m args below meth c H locs 0 0 (MQ below (va_Qi (pI J T FM LM Q) (hB D cA z A) A) args s 0 0 A) (F0 m 9 ls [])) (hK30 : ∀ (x1 : Int32) (x3 : Int32) (x4 : Int32) (x5 : Int32) {ls : Array Slot} {H : Heap} {locs : List Loc}, K30 x1 x3 x4 x5 → hW D cA z Ev0 (I, J, T, FM, LM) A s H locs → lv_has ls 8 [(0, .ref (z + 0)), (1, .int x1), (2, .int x2), (3, .int x3), (4, .int x4), (5, .int x5)] → W p l e R s m args below meth c H locs 0 0 (MQ below (va_Qi (pI J T FM LM Q) (hB D cA z A) A) args s 0 0 A) (F0 m 30 ls [])) : ∀ (n : Nat) (x6 : Int32) (x7 : Int32) {ls : Array Slot} {H : Heap} {locs : List Loc}, M_ring_l70 I x1 x2 x3 x4 x5 K9 K30 Q n x6 x7 → hW D cA z Ev0 (I, J, T, FM, LM) A s H locs → lv_has ls 8 [(0, .ref (z + 0)), (1, .int x1), (2, .int x2), (3, .int x3), (4, .int x4), (5, .int x5), (6, .int x6), (7, .int x7)] → W p l e R s m args below meth c H locs 0 0 (MQ below (va_Qi (pI J T FM LM Q) (hB D cA z A) A) args s 0 0 A) (F0 m 70 ls []) := by
  have hx := X.1
  have hb := X.2.1
  intro n
  induction n with
  | zero => intro x6 x7 ls H locs h; exact False.elim h
  | succ n ih =>
    intro x6 x7 ls H locs h hw hl
    rw [M_ring_l70] at h
    refine lv_iload hx hb dX11_ring_70 (lv_at hl 7 rfl) ?_
    refine lv_aload_n hx hb dX11_ring_72 rfl (lv_at hl 0 rfl) ?_
    refine hm_geti X hw lkM_7 LM_0 dX11_ring_73 ?_
    refine lv_icmp_ge (tgt := 108) hx hb dX11_ring_76 (by decide) (fun hc => ?_) (fun hc => ?_)
    · have h := Eq.mp (if_pos hc) h
      refine lv_iload hx hb dX11_ring_108 (lv_at hl 6 rfl) ?_
      refine lv_iload_n hx hb dX11_ring_110 rfl (lv_at hl 3 rfl) ?_
      refine lv_iconst (v := (-1)) hx hb dX11_ring_111 (by decide) ?_
      refine lv_ixor hx hb dX11_ring_112 ?_
      refine lv_iand hx hb dX11_ring_113 ?_
      refine lv_istore (lv' := [(4, _), (0, _), (1, _), (2, _), (3, _), (5, _), (6, _), (7, _)]) hx hb dX11_ring_114 hl (by decide) rfl (fun ls hl => ?_)
      refine lv_iinc (v := x5 + 1) (lv' := [(5, _), (4, _), (0, _), (1, _), (2, _), (3, _), (6, _), (7, _)]) hx hb dX11_ring_116 hl (k := 5) rfl rfl (by decide) rfl (fun ls hl => ?_)
      refine lv_goto (tgt := 30) hx hb dX11_ring_119 (by decide) ?_
      exact hK30 _ _ _ _ h hw (lv_sub hl [2, 3, 4, 5, 1, 0] rfl)
    · have h := Eq.mp (if_neg hc) h
      refine lv_iload hx hb dX11_ring_79 (lv_at hl 4 rfl) ?_
      refine lv_iload hx hb dX11_ring_81 (lv_at hl 7 rfl) ?_
      refine lv_ishr hx hb dX11_ring_83 ?_
      refine lv_iconst (v := 1) hx hb dX11_ring_84 (by decide) ?_
      refine lv_iand hx hb dX11_ring_85 ?_
      refine lv_iconst (v := 1) hx hb dX11_ring_86 (by decide) ?_
      refine lv_icmp_ne (tgt := 102) hx hb dX11_ring_87 (by decide) (fun hc => ?_) (fun hc => ?_)
      · have h := Eq.mp (if_neg hc) h
        refine lv_iinc (v := x7 + 1) (lv' := [(7, _), (0, _), (1, _), (2, _), (3, _), (4, _), (5, _), (6, _)]) hx hb dX11_ring_102 hl (k := 7) rfl rfl (by decide) rfl (fun ls hl => ?_)
        refine lv_goto (tgt := 70) hx hb dX11_ring_105 (by decide) ?_
        exact ih _ _ h hw (lv_sub hl [1, 2, 3, 4, 5, 6, 7, 0] rfl)
      · have h := Eq.mp (if_pos hc) h
        refine lv_iload hx hb dX11_ring_90 (lv_at hl 6 rfl) ?_
        refine lv_aload_n hx hb dX11_ring_92 rfl (lv_at hl 0 rfl) ?_
        refine hm_getr X hw lkM_26 LM_0 (b := 2) rfl dX11_ring_93 ?_
        refine lv_iload hx hb dX11_ring_96 (lv_at hl 7 rfl) ?_
        obtain ⟨hi, h⟩ := h
        refine hm_iald X hw LM_2 hi dX11_ring_98 ?_
        refine lv_ior hx hb dX11_ring_99 ?_
        refine lv_istore (lv' := [(6, _), (0, _), (1, _), (2, _), (3, _), (4, _), (5, _), (7, _)]) hx hb dX11_ring_100 hl (by decide) rfl (fun ls hl => ?_)
        refine lv_iinc (v := x7 + 1) (lv' := [(7, _), (6, _), (0, _), (1, _), (2, _), (3, _), (4, _), (5, _)]) hx hb dX11_ring_102 hl (k := 7) rfl rfl (by decide) rfl (fun ls hl => ?_)
        refine lv_goto (tgt := 70) hx hb dX11_ring_105 (by decide) ?_
        exact ih _ _ h hw (lv_sub hl [2, 3, 4, 5, 6, 7, 1, 0] rfl)

theorem wkM_ring_b59 {I : HI} {J : HJ} {x1 : Int32} {x2 : Int32} {x3 : Int32} {x4 : Int32} {x5 : Int32} {K9 : Int32 → Int32 → Prop} {K30 : Int32 → Int32 → Int32 → Int32 → Prop} {Q : Int32 → HI → Prop} (X : hX p m c s args RX11 cX11_ring 8) (hr : meth.sig.returnType = (some .int)) (hlk : meth.locks = false) (hR : 0 ≤ R.frames ∧ 0 ≤ R.locals)  (hK9 : ∀ (x1 : Int32) (x2 : Int32) {ls : Array Slot} {H : Heap} {locs : List Loc}, K9 x1 x2 → hW D cA z Ev0 (I, J, T, FM, LM) A s H locs → lv_has ls 8 [(0, .ref (z + 0)), (1, .int x1), (2, .int x2)] → W p l e R s m args below meth c H locs 0 0 (MQ below (va_Qi (pI J T FM LM Q) (hB D cA z A) A) args s 0 0 A) (F0 m 9 ls [])) (hK30 : ∀ (x1 : Int32) (x3 : Int32) (x4 : Int32) (x5 : Int32) {ls : Array Slot} {H : Heap} {locs : List Loc}, K30 x1 x3 x4 x5 → hW D cA z Ev0 (I, J, T, FM, LM) A s H locs → lv_has ls 8 [(0, .ref (z + 0)), (1, .int x1), (2, .int x2), (3, .int x3), (4, .int x4), (5, .int x5)] → W p l e R s m args below meth c H locs 0 0 (MQ below (va_Qi (pI J T FM LM Q) (hB D cA z A) A) args s 0 0 A) (F0 m 30 ls [])) : ∀ {ls : Array Slot} {H : Heap} {locs : List Loc}, M_ring_b59 I x1 x2 x3 x4 x5 K9 K30 Q → hW D cA z Ev0 (I, J, T, FM, LM) A s H locs → lv_has ls 8 [(0, .ref (z + 0)), (1, .int x1), (2, .int x2), (3, .int x3), (4, .int x4), (5, .int x5)] → W p l e R s m args below meth c H locs 0 0 (MQ below (va_Qi (pI J T FM LM Q) (hB D cA z A) A) args s 0 0 A) (F0 m 59 ls []) := by
  have hx := X.1
  have hb := X.2.1
  intro ls H locs h hw hl
  unfold M_ring_b59 at h
  refine lv_iload_n hx hb dX11_ring_59 rfl (lv_at hl 3 rfl) ?_
  refine lv_iload hx hb dX11_ring_60 (lv_at hl 4 rfl) ?_
  refine lv_ior hx hb dX11_ring_62 ?_
  refine lv_istore_n (lv' := [(3, _), (0, _), (1, _), (2, _), (4, _), (5, _)]) hx hb dX11_ring_63 rfl hl (by decide) rfl (fun ls hl => ?_)
  refine lv_iconst (v := 0) hx hb dX11_ring_64 (by decide) ?_
  refine lv_istore (lv' := [(6, _), (3, _), (0, _), (1, _), (2, _), (4, _), (5, _)]) hx hb dX11_ring_65 hl (by decide) rfl (fun ls hl => ?_)
  refine lv_iconst (v := 0) hx hb dX11_ring_67 (by decide) ?_
  refine lv_istore (lv' := [(7, _), (6, _), (3, _), (0, _), (1, _), (2, _), (4, _), (5, _)]) hx hb dX11_ring_68 hl (by decide) rfl (fun ls hl => ?_)
  obtain ⟨n2, h⟩ := h
  exact wkM_ring_l70 X hr hlk hR  hK9 hK30 n2 _ _ h hw (lv_sub hl [3, 4, 5, 2, 6, 7, 1, 0] rfl)

theorem wkM_ring_b46 {I : HI} {J : HJ} {x1 : Int32} {x2 : Int32} {x3 : Int32} {x4 : Int32} {x5 : Int32} {K9 : Int32 → Int32 → Prop} {K30 : Int32 → Int32 → Int32 → Int32 → Prop} {Q : Int32 → HI → Prop} (X : hX p m c s args RX11 cX11_ring 8) (hr : meth.sig.returnType = (some .int)) (hlk : meth.locks = false) (hR : 0 ≤ R.frames ∧ 0 ≤ R.locals)  (hK9 : ∀ (x1 : Int32) (x2 : Int32) {ls : Array Slot} {H : Heap} {locs : List Loc}, K9 x1 x2 → hW D cA z Ev0 (I, J, T, FM, LM) A s H locs → lv_has ls 8 [(0, .ref (z + 0)), (1, .int x1), (2, .int x2)] → W p l e R s m args below meth c H locs 0 0 (MQ below (va_Qi (pI J T FM LM Q) (hB D cA z A) A) args s 0 0 A) (F0 m 9 ls [])) (hK30 : ∀ (x1 : Int32) (x3 : Int32) (x4 : Int32) (x5 : Int32) {ls : Array Slot} {H : Heap} {locs : List Loc}, K30 x1 x3 x4 x5 → hW D cA z Ev0 (I, J, T, FM, LM) A s H locs → lv_has ls 8 [(0, .ref (z + 0)), (1, .int x1), (2, .int x2), (3, .int x3), (4, .int x4), (5, .int x5)] → W p l e R s m args below meth c H locs 0 0 (MQ below (va_Qi (pI J T FM LM Q) (hB D cA z A) A) args s 0 0 A) (F0 m 30 ls [])) : ∀ {ls : Array Slot} {H : Heap} {locs : List Loc}, M_ring_b46 I x1 x2 x3 x4 x5 K9 K30 Q → hW D cA z Ev0 (I, J, T, FM, LM) A s H locs → lv_has ls 8 [(0, .ref (z + 0)), (1, .int x1), (2, .int x2), (3, .int x3), (4, .int x4), (5, .int x5)] → W p l e R s m args below meth c H locs 0 0 (MQ below (va_Qi (pI J T FM LM Q) (hB D cA z A) A) args s 0 0 A) (F0 m 46 ls []) := by
  have hx := X.1
  have hb := X.2.1
  intro ls H locs h hw hl
  unfold M_ring_b46 at h
  refine lv_iload hx hb dX11_ring_46 (lv_at hl 4 rfl) ?_
  refine lv_iload_n hx hb dX11_ring_48 rfl (lv_at hl 2 rfl) ?_
  refine lv_ishr hx hb dX11_ring_49 ?_
  refine lv_iconst (v := 1) hx hb dX11_ring_50 (by decide) ?_
  refine lv_iand hx hb dX11_ring_51 ?_
  refine lv_iconst (v := 1) hx hb dX11_ring_52 (by decide) ?_
  refine lv_icmp_ne (tgt := 59) hx hb dX11_ring_53 (by decide) (fun hc => ?_) (fun hc => ?_)
  · have h := Eq.mp (if_neg hc) h
    exact wkM_ring_b59 X hr hlk hR  hK9 hK30 h hw (lv_sub hl [0, 1, 2, 3, 4, 5] rfl)
  · have h := Eq.mp (if_pos hc) h
    refine lv_iload hx hb dX11_ring_56 (lv_at hl 5 rfl) ?_
    refine lv_istore_n (lv' := [(1, _), (0, _), (2, _), (3, _), (4, _), (5, _)]) hx hb dX11_ring_58 rfl hl (by decide) rfl (fun ls hl => ?_)
    exact wkM_ring_b59 X hr hlk hR  hK9 hK30 h hw (lv_sub hl [1, 0, 2, 3, 4, 5] rfl)

theorem wkM_ring_l30 {I : HI} {J : HJ} {x2 : Int32} {K9 : Int32 → Int32 → Prop} {Q : Int32 → HI → Prop} (X : hX p m c s args RX11 cX11_ring 8) (hr : meth.sig.returnType = (some .int)) (hlk : meth.locks = false) (hR : 0 ≤ R.frames ∧ 0 ≤ R.locals)  (hK9 : ∀ (x1 : Int32) (x2 : Int32) {ls : Array Slot} {H : Heap} {locs : List Loc}, K9 x1 x2 → hW D cA z Ev0 (I, J, T, FM, LM) A s H locs → lv_has ls 8 [(0, .ref (z + 0)), (1, .int x1), (2, .int x2)] → W p l e R s m args below meth c H locs 0 0 (MQ below (va_Qi (pI J T FM LM Q) (hB D cA z A) A) args s 0 0 A) (F0 m 9 ls [])) : ∀ (n : Nat) (x1 : Int32) (x3 : Int32) (x4 : Int32) (x5 : Int32) {ls : Array Slot} {H : Heap} {locs : List Loc}, M_ring_l30 I x2 K9 Q n x1 x3 x4 x5 → hW D cA z Ev0 (I, J, T, FM, LM) A s H locs → lv_has ls 8 [(0, .ref (z + 0)), (1, .int x1), (2, .int x2), (3, .int x3), (4, .int x4), (5, .int x5)] → W p l e R s m args below meth c H locs 0 0 (MQ below (va_Qi (pI J T FM LM Q) (hB D cA z A) A) args s 0 0 A) (F0 m 30 ls []) := by
  have hx := X.1
  have hb := X.2.1
  intro n
  induction n with
  | zero => intro x1 x3 x4 x5 ls H locs h; exact False.elim h
  | succ n ih =>
    intro x1 x3 x4 x5 ls H locs h hw hl
    rw [M_ring_l30] at h
    refine lv_iload hx hb dX11_ring_30 (lv_at hl 4 rfl) ?_
    refine lv_if_eq (tgt := 122) hx hb dX11_ring_32 (by decide) (fun hc => ?_) (fun hc => ?_)
    · have h := Eq.mp (if_pos hc) h
      refine lv_iinc (v := x2 + 1) (lv' := [(2, _), (0, _), (1, _), (3, _), (4, _), (5, _)]) hx hb dX11_ring_122 hl (k := 2) rfl rfl (by decide) rfl (fun ls hl => ?_)
      refine lv_goto (tgt := 9) hx hb dX11_ring_125 (by decide) ?_
      exact hK9 _ _ h hw (lv_sub hl [1, 2, 0] rfl)
    · have h := Eq.mp (if_neg hc) h
      refine lv_iload_n hx hb dX11_ring_35 rfl (lv_at hl 1 rfl) ?_
      refine lv_iconst (v := (-1)) hx hb dX11_ring_36 (by decide) ?_
      refine lv_icmp_eq (tgt := 46) hx hb dX11_ring_37 (by decide) (fun hc => ?_) (fun hc => ?_)
      · have h := Eq.mp (if_pos hc) h
        exact wkM_ring_b46 X hr hlk hR  hK9 ih h hw (lv_sub hl [0, 1, 2, 3, 4, 5] rfl)
      · have h := Eq.mp (if_neg hc) h
        refine lv_iload hx hb dX11_ring_40 (lv_at hl 5 rfl) ?_
        refine lv_iload_n hx hb dX11_ring_42 rfl (lv_at hl 1 rfl) ?_
        refine lv_icmp_ge (tgt := 122) hx hb dX11_ring_43 (by decide) (fun hc => ?_) (fun hc => ?_)
        · have h := Eq.mp (if_pos hc) h
          refine lv_iinc (v := x2 + 1) (lv' := [(2, _), (0, _), (1, _), (3, _), (4, _), (5, _)]) hx hb dX11_ring_122 hl (k := 2) rfl rfl (by decide) rfl (fun ls hl => ?_)
          refine lv_goto (tgt := 9) hx hb dX11_ring_125 (by decide) ?_
          exact hK9 _ _ h hw (lv_sub hl [1, 2, 0] rfl)
        · have h := Eq.mp (if_neg hc) h
          exact wkM_ring_b46 X hr hlk hR  hK9 ih h hw (lv_sub hl [0, 1, 2, 3, 4, 5] rfl)

theorem wkM_ring_l9 {I : HI} {J : HJ} {Q : Int32 → HI → Prop} (X : hX p m c s args RX11 cX11_ring 8) (hr : meth.sig.returnType = (some .int)) (hlk : meth.locks = false) (hR : 0 ≤ R.frames ∧ 0 ≤ R.locals)   : ∀ (n : Nat) (x1 : Int32) (x2 : Int32) {ls : Array Slot} {H : Heap} {locs : List Loc}, M_ring_l9 I Q n x1 x2 → hW D cA z Ev0 (I, J, T, FM, LM) A s H locs → lv_has ls 8 [(0, .ref (z + 0)), (1, .int x1), (2, .int x2)] → W p l e R s m args below meth c H locs 0 0 (MQ below (va_Qi (pI J T FM LM Q) (hB D cA z A) A) args s 0 0 A) (F0 m 9 ls []) := by
  have hx := X.1
  have hb := X.2.1
  intro n
  induction n with
  | zero => intro x1 x2 ls H locs h; exact False.elim h
  | succ n ih =>
    intro x1 x2 ls H locs h hw hl
    rw [M_ring_l9] at h
    refine lv_iload_n hx hb dX11_ring_9 rfl (lv_at hl 2 rfl) ?_
    refine lv_aload_n hx hb dX11_ring_10 rfl (lv_at hl 0 rfl) ?_
    refine hm_geti X hw lkM_7 LM_0 dX11_ring_11 ?_
    refine lv_icmp_ge (tgt := 128) hx hb dX11_ring_14 (by decide) (fun hc => ?_) (fun hc => ?_)
    · have h := Eq.mp (if_pos hc) h
      refine lv_iload_n hx hb dX11_ring_128 rfl (lv_at hl 1 rfl) ?_
      exact hm_iret X hr hlk hw ⟨_, rfl, h⟩ dX11_ring_129
    · have h := Eq.mp (if_neg hc) h
      refine lv_iconst (v := 0) hx hb dX11_ring_17 (by decide) ?_
      refine lv_istore_n (lv' := [(3, _), (0, _), (1, _), (2, _)]) hx hb dX11_ring_18 rfl hl (by decide) rfl (fun ls hl => ?_)
      refine lv_aload_n hx hb dX11_ring_19 rfl (lv_at hl 1 rfl) ?_
      refine hm_getr X hw lkM_26 LM_0 (b := 2) rfl dX11_ring_20 ?_
      refine lv_iload_n hx hb dX11_ring_23 rfl (lv_at hl 3 rfl) ?_
      obtain ⟨hi, h⟩ := h
      refine hm_iald X hw LM_2 hi dX11_ring_24 ?_
      refine lv_istore (lv' := [(4, _), (3, _), (0, _), (1, _), (2, _)]) hx hb dX11_ring_25 hl (by decide) rfl (fun ls hl => ?_)
      refine lv_iconst (v := 1) hx hb dX11_ring_27 (by decide) ?_
      refine lv_istore (lv' := [(5, _), (4, _), (3, _), (0, _), (1, _), (2, _)]) hx hb dX11_ring_28 hl (by decide) rfl (fun ls hl => ?_)
      obtain ⟨n2, h⟩ := h
      exact wkM_ring_l30 X hr hlk hR  ih n2 _ _ _ _ h hw (lv_sub hl [3, 4, 5, 2, 1, 0] rfl)

theorem cM_ring {l : Launch} {D : va_G} {cA : Nat → ClassId} {z sz : Nat} {I : HI} {J : HJ}  {Q : Int32 → HI → Prop}  (h : M_ring I  Q) : Met l yX11_ring (hws0 yX11_ring cX11_ring 8 (some .int)) { frames := 0, cells := 0, slots := 0, locals := 0 } (hPc D cA z Ev0 (I, J, T, FM, LM) sz [.ref (z + 0)]) (va_Qi (pI J T FM LM Q) (hB D cA z (hA z LM sz)) (hA z LM sz)) 0 0 (hA z LM sz) := by
  refine hm_met (I, J, T, FM, LM) [.ref (z + 0)] rfl (by decide) (Nat.le_of_ble_eq_true rfl) ?_
  intro p e s m below meth c ls X hr hlk hnm hxt hsz hw hl
  have hl : lv_has ls 8 [(0, .ref (z + 0))] := hl
  have hR : 0 ≤ ({ frames := 0, cells := 0, slots := 0, locals := 0 } : Room).frames ∧ 0 ≤ ({ frames := 0, cells := 0, slots := 0, locals := 0 } : Room).locals := ⟨Nat.le_refl _, Nat.le_refl _⟩
  generalize ({ frames := 0, cells := 0, slots := 0, locals := 0 } : Room) = R at hR ⊢
  clear hsz
  generalize (hA z LM sz) = A at hw ⊢
  have hx := X.1
  have hb := X.2.1
  unfold M_ring at h
  refine lv_aload_n hx hb dX11_ring_0 rfl (lv_at hl 0 rfl) ?_
  refine lv_iconst (v := 0) hx hb dX11_ring_1 (by decide) ?_
  refine hm_puti X hw lkM_174 LM_0 rfl rfl dX11_ring_2 (fun H locs hw => ?_)
  refine lv_iconst (v := (-1)) hx hb dX11_ring_5 (by decide) ?_
  refine lv_istore_n (lv' := [(1, _), (0, _)]) hx hb dX11_ring_6 rfl hl (by decide) rfl (fun ls hl => ?_)
  refine lv_iconst (v := 0) hx hb dX11_ring_7 (by decide) ?_
  refine lv_istore_n (lv' := [(2, _), (1, _), (0, _)]) hx hb dX11_ring_8 rfl hl (by decide) rfl (fun ls hl => ?_)
  obtain ⟨n2, h⟩ := h
  exact wkM_ring_l9 X hr hlk hR   n2 _ _ h hw (lv_sub hl [2, 1, 0] rfl)

theorem wkM_areAtOnce_l4 {I : HI} {J : HJ} {Q : Int32 → Prop} (X : hX p m c s args RX11 cX11_areAtOnce 3) (hr : meth.sig.returnType = (some .boolean)) (hlk : meth.locks = false) (hR : 2 ≤ R.frames ∧ 46 ≤ R.locals)   : ∀ (n : Nat) (x1 : Int32) (x2 : Int32) {ls : Array Slot} {H : Heap} {locs : List Loc}, M_areAtOnce_l4 I Q n x1 x2 → hW D cA z Ev0 (I, J, T, FM, LM) A s H locs → lv_has ls 3 [(0, .ref (z + 0)), (1, .int x1), (2, .int x2)] → W p l e R s m args below meth c H locs 0 0 (MQ below (va_Qi (p0 (I, J, T, FM, LM) Q) (hB D cA z A) A) args s 0 0 A) (F0 m 4 ls []) := by
  have hx := X.1
  have hb := X.2.1
  intro n
  induction n with
  | zero => intro x1 x2 ls H locs h; exact False.elim h
  | succ n ih =>
    intro x1 x2 ls H locs h hw hl
    rw [M_areAtOnce_l4] at h
    refine lv_iload_n hx hb dX11_areAtOnce_4 rfl (lv_at hl 2 rfl) ?_
    refine lv_aload_n hx hb dX11_areAtOnce_5 rfl (lv_at hl 0 rfl) ?_
    refine hm_geti X hw lkM_7 LM_0 dX11_areAtOnce_6 ?_
    refine lv_icmp_ge (tgt := 48) hx hb dX11_areAtOnce_9 (by decide) (fun hc => ?_) (fun hc => ?_)
    · have h := Eq.mp (if_pos hc) h
      refine lv_iload_n hx hb dX11_areAtOnce_48 rfl (lv_at hl 1 rfl) ?_
      obtain ⟨hz, h⟩ := h
      exact hm_zret X hr hlk hw hz ⟨rfl, h⟩ dX11_areAtOnce_49
    · have h := Eq.mp (if_neg hc) h
      refine lv_iload_n hx hb dX11_areAtOnce_12 rfl (lv_at hl 1 rfl) ?_
      refine lv_if_eq (tgt := 40) hx hb dX11_areAtOnce_13 (by decide) (fun hc => ?_) (fun hc => ?_)
      · have h := Eq.mp (if_pos hc) h
        refine lv_iconst (v := 0) hx hb dX11_areAtOnce_40 (by decide) ?_
        refine lv_istore_n (lv' := [(1, _), (0, _), (2, _)]) hx hb dX11_areAtOnce_41 rfl hl (by decide) rfl (fun ls hl => ?_)
        refine lv_iinc (v := x2 + 1) (lv' := [(2, _), (1, _), (0, _)]) hx hb dX11_areAtOnce_42 hl (k := 2) rfl rfl (by decide) rfl (fun ls hl => ?_)
        refine lv_goto (tgt := 4) hx hb dX11_areAtOnce_45 (by decide) ?_
        exact ih _ _ h hw (lv_sub hl [2, 1, 0] rfl)
      · have h := Eq.mp (if_neg hc) h
        refine lv_aload_n hx hb dX11_areAtOnce_16 rfl (lv_at hl 0 rfl) ?_
        refine hm_getr X hw lkM_29 LM_0 (b := 3) rfl dX11_areAtOnce_17 ?_
        refine lv_iload_n hx hb dX11_areAtOnce_20 rfl (lv_at hl 2 rfl) ?_
        obtain ⟨hi, h⟩ := h
        refine hm_iald X hw LM_3 hi dX11_areAtOnce_21 ?_
        refine lv_if_ne (tgt := 40) hx hb dX11_areAtOnce_22 (by decide) (fun hc => ?_) (fun hc => ?_)
        · have h := Eq.mp (if_neg hc) h
          refine lv_iconst (v := 0) hx hb dX11_areAtOnce_40 (by decide) ?_
          refine lv_istore_n (lv' := [(1, _), (0, _), (2, _)]) hx hb dX11_areAtOnce_41 rfl hl (by decide) rfl (fun ls hl => ?_)
          refine lv_iinc (v := x2 + 1) (lv' := [(2, _), (1, _), (0, _)]) hx hb dX11_areAtOnce_42 hl (k := 2) rfl rfl (by decide) rfl (fun ls hl => ?_)
          refine lv_goto (tgt := 4) hx hb dX11_areAtOnce_45 (by decide) ?_
          exact ih _ _ h hw (lv_sub hl [2, 1, 0] rfl)
        · have h := Eq.mp (if_pos hc) h
          refine lv_aload_n hx hb dX11_areAtOnce_25 rfl (lv_at hl 0 rfl) ?_
          refine lv_iload_n hx hb dX11_areAtOnce_26 rfl (lv_at hl 2 rfl) ?_
          refine hm_calli hw (hm_runV (rest := []) hCl_true X hw (cM_viewsOf  h) ykM_viewsOf kw1338 rfl LM_0 rfl hl.1 rfl rfl rfl (Nat.le_of_ble_eq_true rfl) ⟨Nat.le_trans (Nat.le_of_ble_eq_true rfl) hR.1, Nat.le_trans (Nat.le_of_ble_eq_true rfl) hR.2⟩ ⟨Nat.zero_le _, Nat.zero_le _⟩ dX11_areAtOnce_27) (fun r1 u2 H locs hp hw => ?_)
          obtain ⟨rfl, h⟩ := hp
          refine lv_sipush (v := 1024) hx hb dX11_areAtOnce_30 (by decide) ?_
          refine lv_icmp_gt (tgt := 40) hx hb dX11_areAtOnce_33 (by decide) (fun hc => ?_) (fun hc => ?_)
          · have h := Eq.mp (if_pos hc) h
            refine lv_iconst (v := 0) hx hb dX11_areAtOnce_40 (by decide) ?_
            refine lv_istore_n (lv' := [(1, _), (0, _), (2, _)]) hx hb dX11_areAtOnce_41 rfl hl (by decide) rfl (fun ls hl => ?_)
            refine lv_iinc (v := x2 + 1) (lv' := [(2, _), (1, _), (0, _)]) hx hb dX11_areAtOnce_42 hl (k := 2) rfl rfl (by decide) rfl (fun ls hl => ?_)
            refine lv_goto (tgt := 4) hx hb dX11_areAtOnce_45 (by decide) ?_
            exact ih _ _ h hw (lv_sub hl [2, 1, 0] rfl)
          · have h := Eq.mp (if_neg hc) h
            refine lv_iconst (v := 1) hx hb dX11_areAtOnce_36 (by decide) ?_
            refine lv_goto (tgt := 41) hx hb dX11_areAtOnce_37 (by decide) ?_
            refine lv_istore_n (lv' := [(1, _), (0, _), (2, _)]) hx hb dX11_areAtOnce_41 rfl hl (by decide) rfl (fun ls hl => ?_)
            refine lv_iinc (v := x2 + 1) (lv' := [(2, _), (1, _), (0, _)]) hx hb dX11_areAtOnce_42 hl (k := 2) rfl rfl (by decide) rfl (fun ls hl => ?_)
            refine lv_goto (tgt := 4) hx hb dX11_areAtOnce_45 (by decide) ?_
            exact ih _ _ h hw (lv_sub hl [2, 1, 0] rfl)

theorem cM_areAtOnce {l : Launch} {D : va_G} {cA : Nat → ClassId} {z sz : Nat} {I : HI} {J : HJ}  {Q : Int32 → Prop}  (h : M_areAtOnce I  Q) : Met l yX11_areAtOnce (hws0 yX11_areAtOnce cX11_areAtOnce 3 (some .boolean)) { frames := 2, cells := 0, slots := 0, locals := 46 } (hPc D cA z Ev0 (I, J, T, FM, LM) sz [.ref (z + 0)]) (va_Qi (p0 (I, J, T, FM, LM) Q) (hB D cA z (hA z LM sz)) (hA z LM sz)) 0 0 (hA z LM sz) := by
  refine hm_met (I, J, T, FM, LM) [.ref (z + 0)] rfl (by decide) (Nat.le_of_ble_eq_true rfl) ?_
  intro p e s m below meth c ls X hr hlk hnm hxt hsz hw hl
  have hl : lv_has ls 3 [(0, .ref (z + 0))] := hl
  have hR : 2 ≤ ({ frames := 2, cells := 0, slots := 0, locals := 46 } : Room).frames ∧ 46 ≤ ({ frames := 2, cells := 0, slots := 0, locals := 46 } : Room).locals := ⟨Nat.le_refl _, Nat.le_refl _⟩
  generalize ({ frames := 2, cells := 0, slots := 0, locals := 46 } : Room) = R at hR ⊢
  clear hsz
  generalize (hA z LM sz) = A at hw ⊢
  have hx := X.1
  have hb := X.2.1
  unfold M_areAtOnce at h
  refine lv_iconst (v := 1) hx hb dX11_areAtOnce_0 (by decide) ?_
  refine lv_istore_n (lv' := [(1, _), (0, _)]) hx hb dX11_areAtOnce_1 rfl hl (by decide) rfl (fun ls hl => ?_)
  refine lv_iconst (v := 0) hx hb dX11_areAtOnce_2 (by decide) ?_
  refine lv_istore_n (lv' := [(2, _), (1, _), (0, _)]) hx hb dX11_areAtOnce_3 rfl hl (by decide) rfl (fun ls hl => ?_)
  obtain ⟨n2, h⟩ := h
  exact wkM_areAtOnce_l4 X hr hlk hR   n2 _ _ h hw (lv_sub hl [2, 1, 0] rfl)

theorem wkM_views_l17 {J : HJ} {x1 : Int32} {K2 : HI → Int32 → Prop} {Q : HI → Prop} (X : hX p m c s args RX11 cX11_views 3) (hr : meth.sig.returnType = none) (hlk : meth.locks = false) (hR : 2 ≤ R.frames ∧ 48 ≤ R.locals)  (hK2 : ∀ (I : HI) (x1 : Int32) {ls : Array Slot} {H : Heap} {locs : List Loc}, K2 I x1 → hW D cA z Ev0 (I, J, T, FM, LM) A s H locs → lv_has ls 3 [(0, .ref (z + 0)), (1, .int x1)] → W p l e R s m args below meth c H locs 0 0 (MQ below (va_Qv (pIv J T FM LM Q) (hB D cA z A) A) args s 0 0 A) (F0 m 2 ls [])) : ∀ (n : Nat) (I : HI) (x2 : Int32) {ls : Array Slot} {H : Heap} {locs : List Loc}, M_views_l17 x1 K2 Q n I x2 → hW D cA z Ev0 (I, J, T, FM, LM) A s H locs → lv_has ls 3 [(0, .ref (z + 0)), (1, .int x1), (2, .int x2)] → W p l e R s m args below meth c H locs 0 0 (MQ below (va_Qv (pIv J T FM LM Q) (hB D cA z A) A) args s 0 0 A) (F0 m 17 ls []) := by
  have hx := X.1
  have hb := X.2.1
  intro n
  induction n with
  | zero => intro I x2 ls H locs h; exact False.elim h
  | succ n ih =>
    intro I x2 ls H locs h hw hl
    rw [M_views_l17] at h
    refine lv_iload_n hx hb dX11_views_17 rfl (lv_at hl 2 rfl) ?_
    refine lv_aload_n hx hb dX11_views_18 rfl (lv_at hl 0 rfl) ?_
    refine hm_geti X hw lkM_7 LM_0 dX11_views_19 ?_
    refine lv_icmp_ge (tgt := 47) hx hb dX11_views_22 (by decide) (fun hc => ?_) (fun hc => ?_)
    · have h := Eq.mp (if_pos hc) h
      refine lv_iinc (v := x1 + 1) (lv' := [(1, _), (0, _), (2, _)]) hx hb dX11_views_47 hl (k := 1) rfl rfl (by decide) rfl (fun ls hl => ?_)
      refine lv_goto (tgt := 2) hx hb dX11_views_50 (by decide) ?_
      exact hK2 _ _ h hw (lv_sub hl [1, 0] rfl)
    · have h := Eq.mp (if_neg hc) h
      refine lv_aload_n hx hb dX11_views_25 rfl (lv_at hl 0 rfl) ?_
      refine hm_getr X hw lkM_100 LM_0 (b := 25) rfl dX11_views_26 ?_
      refine lv_bipush (v := 8) hx hb dX11_views_29 (by decide) ?_
      refine lv_iload_n hx hb dX11_views_31 rfl (lv_at hl 1 rfl) ?_
      refine lv_imul hx hb dX11_views_32 ?_
      refine lv_iload_n hx hb dX11_views_33 rfl (lv_at hl 2 rfl) ?_
      refine lv_iadd hx hb dX11_views_34 ?_
      refine lv_aload_n hx hb dX11_views_35 rfl (lv_at hl 0 rfl) ?_
      refine lv_iload_n hx hb dX11_views_36 rfl (lv_at hl 2 rfl) ?_
      refine hm_calli hw (hm_runV (rest := [_, _]) hCl_true X hw (cM_viewOf  h) ykM_viewOf kw1741 rfl LM_0 rfl hl.1 rfl rfl rfl (Nat.le_of_ble_eq_true rfl) ⟨Nat.le_trans (Nat.le_of_ble_eq_true rfl) hR.1, Nat.le_trans (Nat.le_of_ble_eq_true rfl) hR.2⟩ ⟨Nat.zero_le _, Nat.zero_le _⟩ dX11_views_37) (fun r3 u4 H locs hp hw => ?_)
      obtain ⟨rfl, h⟩ := hp
      obtain ⟨hi, h⟩ := h
      refine hm_iast X hw LM_25 hi dX11_views_40 (fun H locs hw => ?_)
      refine lv_iinc (v := x2 + 1) (lv' := [(2, _), (0, _), (1, _)]) hx hb dX11_views_41 hl (k := 2) rfl rfl (by decide) rfl (fun ls hl => ?_)
      refine lv_goto (tgt := 17) hx hb dX11_views_44 (by decide) ?_
      exact ih _ _ h hw (lv_sub hl [1, 2, 0] rfl)

theorem wkM_views_l2 {J : HJ} {Q : HI → Prop} (X : hX p m c s args RX11 cX11_views 3) (hr : meth.sig.returnType = none) (hlk : meth.locks = false) (hR : 2 ≤ R.frames ∧ 48 ≤ R.locals)   : ∀ (n : Nat) (I : HI) (x1 : Int32) {ls : Array Slot} {H : Heap} {locs : List Loc}, M_views_l2 Q n I x1 → hW D cA z Ev0 (I, J, T, FM, LM) A s H locs → lv_has ls 3 [(0, .ref (z + 0)), (1, .int x1)] → W p l e R s m args below meth c H locs 0 0 (MQ below (va_Qv (pIv J T FM LM Q) (hB D cA z A) A) args s 0 0 A) (F0 m 2 ls []) := by
  have hx := X.1
  have hb := X.2.1
  intro n
  induction n with
  | zero => intro I x1 ls H locs h; exact False.elim h
  | succ n ih =>
    intro I x1 ls H locs h hw hl
    rw [M_views_l2] at h
    refine lv_iload_n hx hb dX11_views_2 rfl (lv_at hl 1 rfl) ?_
    refine lv_aload_n hx hb dX11_views_3 rfl (lv_at hl 0 rfl) ?_
    refine hm_geti X hw lkM_16 LM_0 dX11_views_4 ?_
    refine lv_icmp_ge (tgt := 53) hx hb dX11_views_7 (by decide) (fun hc => ?_) (fun hc => ?_)
    · have h := Eq.mp (if_pos hc) h
      exact hm_vret X hr hlk hw ⟨_, rfl, h⟩ dX11_views_53
    · have h := Eq.mp (if_neg hc) h
      refine lv_aload_n hx hb dX11_views_10 rfl (lv_at hl 0 rfl) ?_
      refine lv_iload_n hx hb dX11_views_11 rfl (lv_at hl 1 rfl) ?_
      refine hm_callv hw (hm_runV (rest := []) hCl_true X hw (cM_wears  h) ykM_wears kw1733 rfl LM_0 rfl hl.1 rfl rfl rfl (Nat.le_of_ble_eq_true rfl) ⟨Nat.le_trans (Nat.le_of_ble_eq_true rfl) hR.1, Nat.le_trans (Nat.le_of_ble_eq_true rfl) hR.2⟩ ⟨Nat.zero_le _, Nat.zero_le _⟩ dX11_views_12) (fun u2 H locs hp hw => ?_)
      obtain ⟨I1, rfl, h⟩ := hp
      refine lv_iconst (v := 0) hx hb dX11_views_15 (by decide) ?_
      refine lv_istore_n (lv' := [(2, _), (0, _), (1, _)]) hx hb dX11_views_16 rfl hl (by decide) rfl (fun ls hl => ?_)
      obtain ⟨n2, h⟩ := h
      exact wkM_views_l17 X hr hlk hR  ih n2 _ _ h hw (lv_sub hl [1, 2, 0] rfl)

theorem cM_views {l : Launch} {D : va_G} {cA : Nat → ClassId} {z sz : Nat} {I : HI} {J : HJ}  {Q : HI → Prop}  (h : M_views I  Q) : Met l yX11_views (hws0 yX11_views cX11_views 3 none) { frames := 2, cells := 0, slots := 0, locals := 48 } (hPc D cA z Ev0 (I, J, T, FM, LM) sz [.ref (z + 0)]) (va_Qv (pIv J T FM LM Q) (hB D cA z (hA z LM sz)) (hA z LM sz)) 0 0 (hA z LM sz) := by
  refine hm_met (I, J, T, FM, LM) [.ref (z + 0)] rfl (by decide) (Nat.le_of_ble_eq_true rfl) ?_
  intro p e s m below meth c ls X hr hlk hnm hxt hsz hw hl
  have hl : lv_has ls 3 [(0, .ref (z + 0))] := hl
  have hR : 2 ≤ ({ frames := 2, cells := 0, slots := 0, locals := 48 } : Room).frames ∧ 48 ≤ ({ frames := 2, cells := 0, slots := 0, locals := 48 } : Room).locals := ⟨Nat.le_refl _, Nat.le_refl _⟩
  generalize ({ frames := 2, cells := 0, slots := 0, locals := 48 } : Room) = R at hR ⊢
  clear hsz
  generalize (hA z LM sz) = A at hw ⊢
  have hx := X.1
  have hb := X.2.1
  unfold M_views at h
  refine lv_iconst (v := 0) hx hb dX11_views_0 (by decide) ?_
  refine lv_istore_n (lv' := [(1, _), (0, _)]) hx hb dX11_views_1 rfl hl (by decide) rfl (fun ls hl => ?_)
  obtain ⟨n2, h⟩ := h
  exact wkM_views_l2 X hr hlk hR   n2 _ _ h hw (lv_sub hl [1, 0] rfl)

theorem wkM_hatIn_l5 {I : HI} {J : HJ} {x1 : Int32} {x2 : Int32} {Q : Int32 → Prop} (X : hX p m c s args RX11 cX11_hatIn 5) (hr : meth.sig.returnType = (some .int)) (hlk : meth.locks = false) (hR : 0 ≤ R.frames ∧ 0 ≤ R.locals)   : ∀ (n : Nat) (x3 : Int32) (x4 : Int32) {ls : Array Slot} {H : Heap} {locs : List Loc}, M_hatIn_l5 x1 x2 Q n x3 x4 → hW D cA z Ev0 (I, J, T, FM, LM) A s H locs → lv_has ls 5 [(1, .int x1), (2, .int x2), (3, .int x3), (4, .int x4)] → W p l e R s m args below meth c H locs 0 0 (MQ below (va_Qi (p0 (I, J, T, FM, LM) Q) (hB D cA z A) A) args s 0 0 A) (F0 m 5 ls []) := by
  have hx := X.1
  have hb := X.2.1
  intro n
  induction n with
  | zero => intro x3 x4 ls H locs h; exact False.elim h
  | succ n ih =>
    intro x3 x4 ls H locs h hw hl
    rw [M_hatIn_l5] at h
    refine lv_iload hx hb dX11_hatIn_5 (lv_at hl 3 rfl) ?_
    refine lv_iload_n hx hb dX11_hatIn_7 rfl (lv_at hl 0 rfl) ?_
    refine lv_icmp_ge (tgt := 21) hx hb dX11_hatIn_8 (by decide) (fun hc => ?_) (fun hc => ?_)
    · have h := Eq.mp (if_pos hc) h
      refine lv_iload_n hx hb dX11_hatIn_21 rfl (lv_at hl 2 rfl) ?_
      refine lv_iload_n hx hb dX11_hatIn_22 rfl (lv_at hl 1 rfl) ?_
      obtain ⟨hi, h⟩ := h
      refine hm_irem hx hb dX11_hatIn_23 hi ?_
      exact hm_iret X hr hlk hw ⟨rfl, h⟩ dX11_hatIn_24
    · have h := Eq.mp (if_neg hc) h
      refine lv_iload_n hx hb dX11_hatIn_11 rfl (lv_at hl 2 rfl) ?_
      refine lv_iload_n hx hb dX11_hatIn_12 rfl (lv_at hl 1 rfl) ?_
      obtain ⟨hi, h⟩ := h
      refine hm_idiv hx hb dX11_hatIn_13 hi ?_
      refine lv_istore_n (lv' := [(3, _), (1, _), (2, _), (4, _)]) hx hb dX11_hatIn_14 rfl hl (by decide) rfl (fun ls hl => ?_)
      refine lv_iinc (v := x4 + 1) (lv' := [(4, _), (3, _), (1, _), (2, _)]) hx hb dX11_hatIn_15 hl (k := 3) rfl rfl (by decide) rfl (fun ls hl => ?_)
      refine lv_goto (tgt := 5) hx hb dX11_hatIn_18 (by decide) ?_
      exact ih _ _ h hw (lv_sub hl [2, 3, 1, 0] rfl)

theorem cM_hatIn {l : Launch} {D : va_G} {cA : Nat → ClassId} {z sz : Nat} {I : HI} {J : HJ} {x0 : Int32} {x1 : Int32} {x2 : Int32} {Q : Int32 → Prop}  (h : M_hatIn  x0 x1 x2 Q) : Met l yX11_hatIn (hws0 yX11_hatIn cX11_hatIn 5 (some .int)) { frames := 0, cells := 0, slots := 0, locals := 0 } (hPc D cA z Ev0 (I, J, T, FM, LM) sz [.int x0, .int x1, .int x2]) (va_Qi (p0 (I, J, T, FM, LM) Q) (hB D cA z (hA z LM sz)) (hA z LM sz)) 0 0 (hA z LM sz) := by
  refine hm_met (I, J, T, FM, LM) [.int x0, .int x1, .int x2] rfl (by decide) (Nat.le_of_ble_eq_true rfl) ?_
  intro p e s m below meth c ls X hr hlk hnm hxt hsz hw hl
  have hl : lv_has ls 5 [(0, .int x0), (1, .int x1), (2, .int x2)] := hl
  have hR : 0 ≤ ({ frames := 0, cells := 0, slots := 0, locals := 0 } : Room).frames ∧ 0 ≤ ({ frames := 0, cells := 0, slots := 0, locals := 0 } : Room).locals := ⟨Nat.le_refl _, Nat.le_refl _⟩
  generalize ({ frames := 0, cells := 0, slots := 0, locals := 0 } : Room) = R at hR ⊢
  clear hsz
  generalize (hA z LM sz) = A at hw ⊢
  have hx := X.1
  have hb := X.2.1
  unfold M_hatIn at h
  refine lv_iload_n hx hb dX11_hatIn_0 rfl (lv_at hl 0 rfl) ?_
  refine lv_istore_n (lv' := [(3, _), (0, _), (1, _), (2, _)]) hx hb dX11_hatIn_1 rfl hl (by decide) rfl (fun ls hl => ?_)
  refine lv_iconst (v := 0) hx hb dX11_hatIn_2 (by decide) ?_
  refine lv_istore (lv' := [(4, _), (3, _), (0, _), (1, _), (2, _)]) hx hb dX11_hatIn_3 hl (by decide) rfl (fun ls hl => ?_)
  obtain ⟨n2, h⟩ := h
  exact wkM_hatIn_l5 X hr hlk hR   n2 _ _ h hw (lv_sub hl [3, 4, 1, 0] rfl)

theorem wkM_isSomeRight_b58 {I : HI} {J : HJ} {x1 : Int32} {x3 : Int32} {x4 : Int32} {t0 : Int32} {K7 : Int32 → Int32 → Int32 → Prop} {Q : Int32 → Prop} (X : hX p m c s args RX11 cX11_isSomeRight 5) (hr : meth.sig.returnType = (some .boolean)) (hlk : meth.locks = false) (hR : 0 ≤ R.frames ∧ 0 ≤ R.locals)  (hK7 : ∀ (x2 : Int32) (x3 : Int32) (x4 : Int32) {ls : Array Slot} {H : Heap} {locs : List Loc}, K7 x2 x3 x4 → hW D cA z Ev0 (I, J, T, FM, LM) A s H locs → lv_has ls 5 [(0, .ref (z + 0)), (1, .int x1), (2, .int x2), (3, .int x3), (4, .int x4)] → W p l e R s m args below meth c H locs 0 0 (MQ below (va_Qi (p0 (I, J, T, FM, LM) Q) (hB D cA z A) A) args s 0 0 A) (F0 m 7 ls [])) : ∀ {ls : Array Slot} {H : Heap} {locs : List Loc}, M_isSomeRight_b58 I x1 x3 x4 t0 K7 Q → hW D cA z Ev0 (I, J, T, FM, LM) A s H locs → lv_has ls 5 [(0, .ref (z + 0)), (1, .int x1), (3, .int x3), (4, .int x4)] → W p l e R s m args below meth c H locs 0 0 (MQ below (va_Qi (p0 (I, J, T, FM, LM) Q) (hB D cA z A) A) args s 0 0 A) (F0 m 58 ls [.int t0]) := by
  have hx := X.1
  have hb := X.2.1
  intro ls H locs h hw hl
  unfold M_isSomeRight_b58 at h
  refine lv_istore_n (lv' := [(2, _), (0, _), (1, _), (3, _), (4, _)]) hx hb dX11_isSomeRight_58 rfl hl (by decide) rfl (fun ls hl => ?_)
  refine lv_iload_n hx hb dX11_isSomeRight_59 rfl (lv_at hl 3 rfl) ?_
  refine lv_aload_n hx hb dX11_isSomeRight_60 rfl (lv_at hl 1 rfl) ?_
  refine hm_geti X hw lkM_13 LM_0 dX11_isSomeRight_61 ?_
  obtain ⟨hi, h⟩ := h
  refine hm_idiv hx hb dX11_isSomeRight_64 hi ?_
  refine lv_istore_n (lv' := [(3, _), (2, _), (0, _), (1, _), (4, _)]) hx hb dX11_isSomeRight_65 rfl hl (by decide) rfl (fun ls hl => ?_)
  refine lv_iinc (v := x4 + 1) (lv' := [(4, _), (3, _), (2, _), (0, _), (1, _)]) hx hb dX11_isSomeRight_66 hl (k := 4) rfl rfl (by decide) rfl (fun ls hl => ?_)
  refine lv_goto (tgt := 7) hx hb dX11_isSomeRight_69 (by decide) ?_
  exact hK7 _ _ _ h hw (lv_sub hl [3, 4, 2, 1, 0] rfl)

theorem wkM_isSomeRight_l7 {I : HI} {J : HJ} {x1 : Int32} {Q : Int32 → Prop} (X : hX p m c s args RX11 cX11_isSomeRight 5) (hr : meth.sig.returnType = (some .boolean)) (hlk : meth.locks = false) (hR : 0 ≤ R.frames ∧ 0 ≤ R.locals)   : ∀ (n : Nat) (x2 : Int32) (x3 : Int32) (x4 : Int32) {ls : Array Slot} {H : Heap} {locs : List Loc}, M_isSomeRight_l7 I x1 Q n x2 x3 x4 → hW D cA z Ev0 (I, J, T, FM, LM) A s H locs → lv_has ls 5 [(0, .ref (z + 0)), (1, .int x1), (2, .int x2), (3, .int x3), (4, .int x4)] → W p l e R s m args below meth c H locs 0 0 (MQ below (va_Qi (p0 (I, J, T, FM, LM) Q) (hB D cA z A) A) args s 0 0 A) (F0 m 7 ls []) := by
  have hx := X.1
  have hb := X.2.1
  intro n
  induction n with
  | zero => intro x2 x3 x4 ls H locs h; exact False.elim h
  | succ n ih =>
    intro x2 x3 x4 ls H locs h hw hl
    rw [M_isSomeRight_l7] at h
    refine lv_iload hx hb dX11_isSomeRight_7 (lv_at hl 4 rfl) ?_
    refine lv_aload_n hx hb dX11_isSomeRight_9 rfl (lv_at hl 0 rfl) ?_
    refine hm_geti X hw lkM_7 LM_0 dX11_isSomeRight_10 ?_
    refine lv_icmp_ge (tgt := 72) hx hb dX11_isSomeRight_13 (by decide) (fun hc => ?_) (fun hc => ?_)
    · have h := Eq.mp (if_pos hc) h
      refine lv_iload_n hx hb dX11_isSomeRight_72 rfl (lv_at hl 2 rfl) ?_
      obtain ⟨hz, h⟩ := h
      exact hm_zret X hr hlk hw hz ⟨rfl, h⟩ dX11_isSomeRight_73
    · have h := Eq.mp (if_neg hc) h
      refine lv_iload_n hx hb dX11_isSomeRight_16 rfl (lv_at hl 2 rfl) ?_
      refine lv_if_ne (tgt := 53) hx hb dX11_isSomeRight_17 (by decide) (fun hc => ?_) (fun hc => ?_)
      · have h := Eq.mp (if_neg hc) h
        refine lv_iconst (v := 1) hx hb dX11_isSomeRight_53 (by decide) ?_
        refine lv_goto (tgt := 58) hx hb dX11_isSomeRight_54 (by decide) ?_
        exact wkM_isSomeRight_b58 X hr hlk hR  ih h hw (lv_sub hl [0, 1, 3, 4] rfl)
      · have h := Eq.mp (if_pos hc) h
        refine lv_aload_n hx hb dX11_isSomeRight_20 rfl (lv_at hl 0 rfl) ?_
        refine hm_getr X hw lkM_97 LM_0 (b := 24) rfl dX11_isSomeRight_21 ?_
        refine lv_sipush (v := 1024) hx hb dX11_isSomeRight_24 (by decide) ?_
        refine lv_iload hx hb dX11_isSomeRight_27 (lv_at hl 4 rfl) ?_
        refine lv_imul hx hb dX11_isSomeRight_29 ?_
        refine lv_aload_n hx hb dX11_isSomeRight_30 rfl (lv_at hl 0 rfl) ?_
        refine hm_getr X hw lkM_100 LM_0 (b := 25) rfl dX11_isSomeRight_31 ?_
        refine lv_bipush (v := 8) hx hb dX11_isSomeRight_34 (by decide) ?_
        refine lv_iload_n hx hb dX11_isSomeRight_36 rfl (lv_at hl 1 rfl) ?_
        refine lv_imul hx hb dX11_isSomeRight_37 ?_
        refine lv_iload hx hb dX11_isSomeRight_38 (lv_at hl 4 rfl) ?_
        refine lv_iadd hx hb dX11_isSomeRight_40 ?_
        obtain ⟨hi, h⟩ := h
        refine hm_iald X hw LM_25 hi dX11_isSomeRight_41 ?_
        refine lv_iadd hx hb dX11_isSomeRight_42 ?_
        obtain ⟨hi, h⟩ := h
        refine hm_iald X hw LM_24 hi dX11_isSomeRight_43 ?_
        refine lv_iload_n hx hb dX11_isSomeRight_44 rfl (lv_at hl 3 rfl) ?_
        refine lv_aload_n hx hb dX11_isSomeRight_45 rfl (lv_at hl 0 rfl) ?_
        refine hm_geti X hw lkM_13 LM_0 dX11_isSomeRight_46 ?_
        obtain ⟨hi, h⟩ := h
        refine hm_irem hx hb dX11_isSomeRight_49 hi ?_
        refine lv_icmp_ne (tgt := 57) hx hb dX11_isSomeRight_50 (by decide) (fun hc => ?_) (fun hc => ?_)
        · have h := Eq.mp (if_neg hc) h
          refine lv_iconst (v := 0) hx hb dX11_isSomeRight_57 (by decide) ?_
          exact wkM_isSomeRight_b58 X hr hlk hR  ih h hw (lv_sub hl [0, 1, 3, 4] rfl)
        · have h := Eq.mp (if_pos hc) h
          refine lv_iconst (v := 1) hx hb dX11_isSomeRight_53 (by decide) ?_
          refine lv_goto (tgt := 58) hx hb dX11_isSomeRight_54 (by decide) ?_
          exact wkM_isSomeRight_b58 X hr hlk hR  ih h hw (lv_sub hl [0, 1, 3, 4] rfl)

theorem cM_isSomeRight {l : Launch} {D : va_G} {cA : Nat → ClassId} {z sz : Nat} {I : HI} {J : HJ} {x1 : Int32} {Q : Int32 → Prop}  (h : M_isSomeRight I x1 Q) : Met l yX11_isSomeRight (hws0 yX11_isSomeRight cX11_isSomeRight 5 (some .boolean)) { frames := 0, cells := 0, slots := 0, locals := 0 } (hPc D cA z Ev0 (I, J, T, FM, LM) sz [.ref (z + 0), .int x1]) (va_Qi (p0 (I, J, T, FM, LM) Q) (hB D cA z (hA z LM sz)) (hA z LM sz)) 0 0 (hA z LM sz) := by
  refine hm_met (I, J, T, FM, LM) [.ref (z + 0), .int x1] rfl (by decide) (Nat.le_of_ble_eq_true rfl) ?_
  intro p e s m below meth c ls X hr hlk hnm hxt hsz hw hl
  have hl : lv_has ls 5 [(0, .ref (z + 0)), (1, .int x1)] := hl
  have hR : 0 ≤ ({ frames := 0, cells := 0, slots := 0, locals := 0 } : Room).frames ∧ 0 ≤ ({ frames := 0, cells := 0, slots := 0, locals := 0 } : Room).locals := ⟨Nat.le_refl _, Nat.le_refl _⟩
  generalize ({ frames := 0, cells := 0, slots := 0, locals := 0 } : Room) = R at hR ⊢
  clear hsz
  generalize (hA z LM sz) = A at hw ⊢
  have hx := X.1
  have hb := X.2.1
  unfold M_isSomeRight at h
  refine lv_iconst (v := 0) hx hb dX11_isSomeRight_0 (by decide) ?_
  refine lv_istore_n (lv' := [(2, _), (0, _), (1, _)]) hx hb dX11_isSomeRight_1 rfl hl (by decide) rfl (fun ls hl => ?_)
  refine lv_iload_n hx hb dX11_isSomeRight_2 rfl (lv_at hl 2 rfl) ?_
  refine lv_istore_n (lv' := [(3, _), (2, _), (0, _), (1, _)]) hx hb dX11_isSomeRight_3 rfl hl (by decide) rfl (fun ls hl => ?_)
  refine lv_iconst (v := 0) hx hb dX11_isSomeRight_4 (by decide) ?_
  refine lv_istore (lv' := [(4, _), (3, _), (2, _), (0, _), (1, _)]) hx hb dX11_isSomeRight_5 hl (by decide) rfl (fun ls hl => ?_)
  obtain ⟨n2, h⟩ := h
  exact wkM_isSomeRight_l7 X hr hlk hR   n2 _ _ _ h hw (lv_sub hl [3, 4, 2, 1, 0] rfl)

theorem wkM_search_l338 {J : HJ} {x5 : Int32} {K318 : HI → Int32 → Prop} {Q : Int32 → HI → Prop} (X : hX p m c s args RX11 cX11_search 7) (hr : meth.sig.returnType = (some .int)) (hlk : meth.locks = false) (hR : 3 ≤ R.frames ∧ 70 ≤ R.locals)  (hK318 : ∀ (I : HI) (x5 : Int32) {ls : Array Slot} {H : Heap} {locs : List Loc}, K318 I x5 → hW D cA z Ev0 (I, J, T, FM, LM) A s H locs → lv_has ls 7 [(0, .ref (z + 0)), (5, .int x5)] → W p l e R s m args below meth c H locs 0 0 (MQ below (va_Qi (pI J T FM LM Q) (hB D cA z A) A) args s 0 0 A) (F0 m 318 ls [])) : ∀ (n : Nat) (I : HI) (x6 : Int32) {ls : Array Slot} {H : Heap} {locs : List Loc}, M_search_l338 x5 K318 Q n I x6 → hW D cA z Ev0 (I, J, T, FM, LM) A s H locs → lv_has ls 7 [(0, .ref (z + 0)), (5, .int x5), (6, .int x6)] → W p l e R s m args below meth c H locs 0 0 (MQ below (va_Qi (pI J T FM LM Q) (hB D cA z A) A) args s 0 0 A) (F0 m 338 ls []) := by
  have hx := X.1
  have hb := X.2.1
  intro n
  induction n with
  | zero => intro I x6 ls H locs h; exact False.elim h
  | succ n ih =>
    intro I x6 ls H locs h hw hl
    rw [M_search_l338] at h
    refine lv_iload hx hb dX11_search_338 (lv_at hl 2 rfl) ?_
    refine lv_sipush (v := 1024) hx hb dX11_search_340 (by decide) ?_
    refine lv_icmp_ge (tgt := 402) hx hb dX11_search_343 (by decide) (fun hc => ?_) (fun hc => ?_)
    · have h := Eq.mp (if_pos hc) h
      refine lv_iinc (v := x5 + 1) (lv' := [(5, _), (0, _), (6, _)]) hx hb dX11_search_402 hl (k := 1) rfl rfl (by decide) rfl (fun ls hl => ?_)
      refine lv_goto (tgt := 318) hx hb dX11_search_405 (by decide) ?_
      exact hK318 _ _ h hw (lv_sub hl [1, 0] rfl)
    · have h := Eq.mp (if_neg hc) h
      refine lv_aload_n hx hb dX11_search_346 rfl (lv_at hl 0 rfl) ?_
      refine hm_getr X hw lkM_35 LM_0 (b := 5) rfl dX11_search_347 ?_
      refine lv_sipush (v := 1024) hx hb dX11_search_350 (by decide) ?_
      refine lv_iload hx hb dX11_search_353 (lv_at hl 1 rfl) ?_
      refine lv_imul hx hb dX11_search_355 ?_
      refine lv_iload hx hb dX11_search_356 (lv_at hl 2 rfl) ?_
      refine lv_iadd hx hb dX11_search_358 ?_
      refine lv_aload_n hx hb dX11_search_359 rfl (lv_at hl 0 rfl) ?_
      refine hm_getr X hw lkM_97 LM_0 (b := 24) rfl dX11_search_360 ?_
      refine lv_sipush (v := 1024) hx hb dX11_search_363 (by decide) ?_
      refine lv_iload hx hb dX11_search_366 (lv_at hl 1 rfl) ?_
      refine lv_imul hx hb dX11_search_368 ?_
      refine lv_iload hx hb dX11_search_369 (lv_at hl 2 rfl) ?_
      refine lv_iadd hx hb dX11_search_371 ?_
      obtain ⟨hi, h⟩ := h
      refine hm_iald X hw LM_24 hi dX11_search_372 ?_
      refine lv_iconst (v := (-1)) hx hb dX11_search_373 (by decide) ?_
      refine lv_icmp_ne (tgt := 381) hx hb dX11_search_374 (by decide) (fun hc => ?_) (fun hc => ?_)
      · have h := Eq.mp (if_neg hc) h
        refine lv_aload_n hx hb dX11_search_381 rfl (lv_at hl 0 rfl) ?_
        refine hm_getr X hw lkM_97 LM_0 (b := 24) rfl dX11_search_382 ?_
        refine lv_sipush (v := 1024) hx hb dX11_search_385 (by decide) ?_
        refine lv_iload hx hb dX11_search_388 (lv_at hl 1 rfl) ?_
        refine lv_imul hx hb dX11_search_390 ?_
        refine lv_iload hx hb dX11_search_391 (lv_at hl 2 rfl) ?_
        refine lv_iadd hx hb dX11_search_393 ?_
        obtain ⟨hi, h⟩ := h
        refine hm_iald X hw LM_24 hi dX11_search_394 ?_
        obtain ⟨hi, h⟩ := h
        refine hm_iast X hw LM_5 hi dX11_search_395 (fun H locs hw => ?_)
        refine lv_iinc (v := x6 + 1) (lv' := [(6, _), (0, _), (5, _)]) hx hb dX11_search_396 hl (k := 2) rfl rfl (by decide) rfl (fun ls hl => ?_)
        refine lv_goto (tgt := 338) hx hb dX11_search_399 (by decide) ?_
        exact ih _ _ h hw (lv_sub hl [1, 2, 0] rfl)
      · have h := Eq.mp (if_pos hc) h
        refine lv_iconst (v := 0) hx hb dX11_search_377 (by decide) ?_
        refine lv_goto (tgt := 395) hx hb dX11_search_378 (by decide) ?_
        obtain ⟨hi, h⟩ := h
        refine hm_iast X hw LM_5 hi dX11_search_395 (fun H locs hw => ?_)
        refine lv_iinc (v := x6 + 1) (lv' := [(6, _), (0, _), (5, _)]) hx hb dX11_search_396 hl (k := 2) rfl rfl (by decide) rfl (fun ls hl => ?_)
        refine lv_goto (tgt := 338) hx hb dX11_search_399 (by decide) ?_
        exact ih _ _ h hw (lv_sub hl [1, 2, 0] rfl)

theorem wkM_search_l318 {J : HJ} {Q : Int32 → HI → Prop} (X : hX p m c s args RX11 cX11_search 7) (hr : meth.sig.returnType = (some .int)) (hlk : meth.locks = false) (hR : 3 ≤ R.frames ∧ 70 ≤ R.locals)   : ∀ (n : Nat) (I : HI) (x5 : Int32) {ls : Array Slot} {H : Heap} {locs : List Loc}, M_search_l318 Q n I x5 → hW D cA z Ev0 (I, J, T, FM, LM) A s H locs → lv_has ls 7 [(0, .ref (z + 0)), (5, .int x5)] → W p l e R s m args below meth c H locs 0 0 (MQ below (va_Qi (pI J T FM LM Q) (hB D cA z A) A) args s 0 0 A) (F0 m 318 ls []) := by
  have hx := X.1
  have hb := X.2.1
  intro n
  induction n with
  | zero => intro I x5 ls H locs h; exact False.elim h
  | succ n ih =>
    intro I x5 ls H locs h hw hl
    rw [M_search_l318] at h
    refine lv_iload hx hb dX11_search_318 (lv_at hl 1 rfl) ?_
    refine lv_aload_n hx hb dX11_search_320 rfl (lv_at hl 0 rfl) ?_
    refine hm_geti X hw lkM_7 LM_0 dX11_search_321 ?_
    refine lv_icmp_ge (tgt := 408) hx hb dX11_search_324 (by decide) (fun hc => ?_) (fun hc => ?_)
    · have h := Eq.mp (if_pos hc) h
      refine lv_aload_n hx hb dX11_search_408 rfl (lv_at hl 0 rfl) ?_
      refine lv_iconst (v := 0) hx hb dX11_search_409 (by decide) ?_
      refine hm_puti X hw lkM_195 LM_0 rfl rfl dX11_search_410 (fun H locs hw => ?_)
      refine lv_iconst (v := 1) hx hb dX11_search_413 (by decide) ?_
      exact hm_iret X hr hlk hw ⟨_, rfl, h⟩ dX11_search_414
    · have h := Eq.mp (if_neg hc) h
      refine lv_aload_n hx hb dX11_search_327 rfl (lv_at hl 0 rfl) ?_
      refine hm_getr X hw lkM_32 LM_0 (b := 4) rfl dX11_search_328 ?_
      refine lv_iload hx hb dX11_search_331 (lv_at hl 1 rfl) ?_
      refine lv_iconst (v := 0) hx hb dX11_search_333 (by decide) ?_
      obtain ⟨hi, h⟩ := h
      refine hm_iast X hw LM_4 hi dX11_search_334 (fun H locs hw => ?_)
      refine lv_iconst (v := 0) hx hb dX11_search_335 (by decide) ?_
      refine lv_istore (lv' := [(6, _), (0, _), (5, _)]) hx hb dX11_search_336 hl (by decide) rfl (fun ls hl => ?_)
      obtain ⟨n2, h⟩ := h
      exact wkM_search_l338 X hr hlk hR  ih n2 _ _ h hw (lv_sub hl [1, 2, 0] rfl)

theorem wkM_search_b228 {I : HI} {J : HJ} {x1 : Int32} {x2 : Int32} {x3 : Int32} {x5 : Int32} {x6 : Int32} {K76 : HI → Int32 → Int32 → Int32 → Prop} {Q : Int32 → HI → Prop} (X : hX p m c s args RX11 cX11_search 7) (hr : meth.sig.returnType = (some .int)) (hlk : meth.locks = false) (hR : 3 ≤ R.frames ∧ 70 ≤ R.locals)  (hK76 : ∀ (I : HI) (x2 : Int32) (x3 : Int32) (x4 : Int32) {ls : Array Slot} {H : Heap} {locs : List Loc}, K76 I x2 x3 x4 → hW D cA z Ev0 (I, J, T, FM, LM) A s H locs → lv_has ls 7 [(0, .ref (z + 0)), (1, .int x1), (2, .int x2), (3, .int x3), (4, .int x4)] → W p l e R s m args below meth c H locs 0 0 (MQ below (va_Qi (pI J T FM LM Q) (hB D cA z A) A) args s 0 0 A) (F0 m 76 ls [])) : ∀ {ls : Array Slot} {H : Heap} {locs : List Loc}, M_search_b228 I x1 x2 x3 x5 x6 K76 Q → hW D cA z Ev0 (I, J, T, FM, LM) A s H locs → lv_has ls 7 [(0, .ref (z + 0)), (1, .int x1), (2, .int x2), (3, .int x3), (5, .int x5), (6, .int x6)] → W p l e R s m args below meth c H locs 0 0 (MQ below (va_Qi (pI J T FM LM Q) (hB D cA z A) A) args s 0 0 A) (F0 m 228 ls []) := by
  have hx := X.1
  have hb := X.2.1
  intro ls H locs h hw hl
  unfold M_search_b228 at h
  refine lv_iload hx hb dX11_search_228 (lv_at hl 5 rfl) ?_
  refine lv_if_ne (tgt := 306) hx hb dX11_search_230 (by decide) (fun hc => ?_) (fun hc => ?_)
  · have h := Eq.mp (if_neg hc) h
    refine lv_iinc (v := x3 + 1) (lv' := [(3, _), (0, _), (1, _), (2, _), (5, _), (6, _)]) hx hb dX11_search_306 hl (k := 3) rfl rfl (by decide) rfl (fun ls hl => ?_)
    refine lv_iconst (v := 0) hx hb dX11_search_309 (by decide) ?_
    refine lv_istore (lv' := [(4, _), (3, _), (0, _), (1, _), (2, _), (5, _), (6, _)]) hx hb dX11_search_310 hl (by decide) rfl (fun ls hl => ?_)
    refine lv_goto (tgt := 76) hx hb dX11_search_312 (by decide) ?_
    exact hK76 _ _ _ _ h hw (lv_sub hl [2, 3, 4, 1, 0] rfl)
  · have h := Eq.mp (if_pos hc) h
    refine lv_aload_n hx hb dX11_search_233 rfl (lv_at hl 0 rfl) ?_
    refine hm_geti X hw lkM_109 LM_0 dX11_search_234 ?_
    refine lv_iload_n hx hb dX11_search_237 rfl (lv_at hl 1 rfl) ?_
    refine lv_icmp_ne (tgt := 244) hx hb dX11_search_238 (by decide) (fun hc => ?_) (fun hc => ?_)
    · have h := Eq.mp (if_neg hc) h
      refine lv_aload_n hx hb dX11_search_244 rfl (lv_at hl 0 rfl) ?_
      refine lv_dup hx hb dX11_search_245 rfl ?_
      refine hm_geti X hw lkM_109 LM_0 dX11_search_246 ?_
      refine lv_iconst (v := 1) hx hb dX11_search_249 (by decide) ?_
      refine lv_iadd hx hb dX11_search_250 ?_
      refine hm_puti X hw lkM_109 LM_0 rfl rfl dX11_search_251 (fun H locs hw => ?_)
      refine lv_aload_n hx hb dX11_search_254 rfl (lv_at hl 0 rfl) ?_
      refine hm_getr X hw lkM_97 LM_0 (b := 24) rfl dX11_search_255 ?_
      refine lv_sipush (v := 1024) hx hb dX11_search_258 (by decide) ?_
      refine lv_iload hx hb dX11_search_261 (lv_at hl 4 rfl) ?_
      refine lv_imul hx hb dX11_search_263 ?_
      refine lv_aload_n hx hb dX11_search_264 rfl (lv_at hl 0 rfl) ?_
      refine hm_getr X hw lkM_100 LM_0 (b := 25) rfl dX11_search_265 ?_
      refine lv_bipush (v := 8) hx hb dX11_search_268 (by decide) ?_
      refine lv_iload_n hx hb dX11_search_270 rfl (lv_at hl 3 rfl) ?_
      refine lv_imul hx hb dX11_search_271 ?_
      refine lv_iload hx hb dX11_search_272 (lv_at hl 4 rfl) ?_
      refine lv_iadd hx hb dX11_search_274 ?_
      obtain ⟨hi, h⟩ := h
      refine hm_iald X hw LM_25 hi dX11_search_275 ?_
      refine lv_iadd hx hb dX11_search_276 ?_
      refine lv_iload_n hx hb dX11_search_277 rfl (lv_at hl 3 rfl) ?_
      refine lv_iload hx hb dX11_search_278 (lv_at hl 4 rfl) ?_
      refine lv_aload_n hx hb dX11_search_280 rfl (lv_at hl 0 rfl) ?_
      refine hm_geti X hw lkM_13 LM_0 dX11_search_281 ?_
      refine hm_calli hw (hm_runS (rest := [_, _]) hCl_true X hw (cM_hatIn  h) ykM_hatIn kw1852 rfl hl.1 rfl rfl rfl (Nat.le_of_ble_eq_true rfl) ⟨Nat.le_trans (Nat.le_of_ble_eq_true rfl) hR.1, Nat.le_trans (Nat.le_of_ble_eq_true rfl) hR.2⟩ ⟨Nat.zero_le _, Nat.zero_le _⟩ dX11_search_284) (fun r8 u9 H locs hp hw => ?_)
      obtain ⟨rfl, h⟩ := hp
      obtain ⟨hi, h⟩ := h
      refine hm_iast X hw LM_24 hi dX11_search_287 (fun H locs hw => ?_)
      refine lv_aload_n hx hb dX11_search_288 rfl (lv_at hl 0 rfl) ?_
      refine hm_getr X hw lkM_103 LM_0 (b := 26) rfl dX11_search_289 ?_
      refine lv_iload_n hx hb dX11_search_292 rfl (lv_at hl 2 rfl) ?_
      refine lv_iload_n hx hb dX11_search_293 rfl (lv_at hl 3 rfl) ?_
      obtain ⟨hi, h⟩ := h
      refine hm_iast X hw LM_26 hi dX11_search_294 (fun H locs hw => ?_)
      refine lv_aload_n hx hb dX11_search_295 rfl (lv_at hl 0 rfl) ?_
      refine hm_getr X hw lkM_106 LM_0 (b := 27) rfl dX11_search_296 ?_
      refine lv_iload_n hx hb dX11_search_299 rfl (lv_at hl 2 rfl) ?_
      refine lv_iload hx hb dX11_search_300 (lv_at hl 4 rfl) ?_
      obtain ⟨hi, h⟩ := h
      refine hm_iast X hw LM_27 hi dX11_search_302 (fun H locs hw => ?_)
      refine lv_iinc (v := x2 + 1) (lv' := [(2, _), (0, _), (1, _), (3, _), (5, _), (6, _)]) hx hb dX11_search_303 hl (k := 2) rfl rfl (by decide) rfl (fun ls hl => ?_)
      refine lv_iinc (v := x3 + 1) (lv' := [(3, _), (2, _), (0, _), (1, _), (5, _), (6, _)]) hx hb dX11_search_306 hl (k := 3) rfl rfl (by decide) rfl (fun ls hl => ?_)
      refine lv_iconst (v := 0) hx hb dX11_search_309 (by decide) ?_
      refine lv_istore (lv' := [(4, _), (3, _), (2, _), (0, _), (1, _), (5, _), (6, _)]) hx hb dX11_search_310 hl (by decide) rfl (fun ls hl => ?_)
      refine lv_goto (tgt := 76) hx hb dX11_search_312 (by decide) ?_
      exact hK76 _ _ _ _ h hw (lv_sub hl [3, 4, 2, 1, 0] rfl)
    · have h := Eq.mp (if_pos hc) h
      refine lv_bipush (v := (-2)) hx hb dX11_search_241 (by decide) ?_
      exact hm_iret X hr hlk hw ⟨_, rfl, h⟩ dX11_search_243

theorem wkM_search_b156 {I : HI} {J : HJ} {x1 : Int32} {x2 : Int32} {x3 : Int32} {x5 : Int32} {x6 : Int32} {K76 : HI → Int32 → Int32 → Int32 → Prop} {Q : Int32 → HI → Prop} (X : hX p m c s args RX11 cX11_search 7) (hr : meth.sig.returnType = (some .int)) (hlk : meth.locks = false) (hR : 3 ≤ R.frames ∧ 70 ≤ R.locals)  (hK76 : ∀ (I : HI) (x2 : Int32) (x3 : Int32) (x4 : Int32) {ls : Array Slot} {H : Heap} {locs : List Loc}, K76 I x2 x3 x4 → hW D cA z Ev0 (I, J, T, FM, LM) A s H locs → lv_has ls 7 [(0, .ref (z + 0)), (1, .int x1), (2, .int x2), (3, .int x3), (4, .int x4)] → W p l e R s m args below meth c H locs 0 0 (MQ below (va_Qi (pI J T FM LM Q) (hB D cA z A) A) args s 0 0 A) (F0 m 76 ls [])) : ∀ {ls : Array Slot} {H : Heap} {locs : List Loc}, M_search_b156 I x1 x2 x3 x5 x6 K76 Q → hW D cA z Ev0 (I, J, T, FM, LM) A s H locs → lv_has ls 7 [(0, .ref (z + 0)), (1, .int x1), (2, .int x2), (3, .int x3), (5, .int x5), (6, .int x6)] → W p l e R s m args below meth c H locs 0 0 (MQ below (va_Qi (pI J T FM LM Q) (hB D cA z A) A) args s 0 0 A) (F0 m 156 ls []) := by
  have hx := X.1
  have hb := X.2.1
  intro ls H locs h hw hl
  unfold M_search_b156 at h
  refine lv_iload hx hb dX11_search_156 (lv_at hl 5 rfl) ?_
  refine lv_if_ne (tgt := 228) hx hb dX11_search_158 (by decide) (fun hc => ?_) (fun hc => ?_)
  · have h := Eq.mp (if_neg hc) h
    exact wkM_search_b228 X hr hlk hR  hK76 h hw (lv_sub hl [0, 1, 2, 3, 4, 5] rfl)
  · have h := Eq.mp (if_pos hc) h
    refine lv_iload hx hb dX11_search_161 (lv_at hl 4 rfl) ?_
    refine lv_aload_n hx hb dX11_search_163 rfl (lv_at hl 0 rfl) ?_
    refine hm_geti X hw lkM_7 LM_0 dX11_search_164 ?_
    refine lv_icmp_ne (tgt := 228) hx hb dX11_search_167 (by decide) (fun hc => ?_) (fun hc => ?_)
    · have h := Eq.mp (if_neg hc) h
      exact wkM_search_b228 X hr hlk hR  hK76 h hw (lv_sub hl [0, 1, 2, 3, 4, 5] rfl)
    · have h := Eq.mp (if_pos hc) h
      refine lv_iload_n hx hb dX11_search_170 rfl (lv_at hl 2 rfl) ?_
      refine lv_if_ne (tgt := 176) hx hb dX11_search_171 (by decide) (fun hc => ?_) (fun hc => ?_)
      · have h := Eq.mp (if_neg hc) h
        refine lv_iinc (v := x2 + (-1)) (lv' := [(2, _), (0, _), (1, _), (3, _), (5, _), (6, _)]) hx hb dX11_search_176 hl (k := 2) rfl rfl (by decide) rfl (fun ls hl => ?_)
        refine lv_aload_n hx hb dX11_search_179 rfl (lv_at hl 1 rfl) ?_
        refine hm_getr X hw lkM_103 LM_0 (b := 26) rfl dX11_search_180 ?_
        refine lv_iload_n hx hb dX11_search_183 rfl (lv_at hl 0 rfl) ?_
        obtain ⟨hi, h⟩ := h
        refine hm_iald X hw LM_26 hi dX11_search_184 ?_
        refine lv_istore_n (lv' := [(3, _), (2, _), (0, _), (1, _), (5, _), (6, _)]) hx hb dX11_search_185 rfl hl (by decide) rfl (fun ls hl => ?_)
        refine lv_aload_n hx hb dX11_search_186 rfl (lv_at hl 2 rfl) ?_
        refine hm_getr X hw lkM_106 LM_0 (b := 27) rfl dX11_search_187 ?_
        refine lv_iload_n hx hb dX11_search_190 rfl (lv_at hl 1 rfl) ?_
        obtain ⟨hi, h⟩ := h
        refine hm_iald X hw LM_27 hi dX11_search_191 ?_
        refine lv_iconst (v := 1) hx hb dX11_search_192 (by decide) ?_
        refine lv_iadd hx hb dX11_search_193 ?_
        refine lv_istore (lv' := [(4, _), (3, _), (2, _), (0, _), (1, _), (5, _), (6, _)]) hx hb dX11_search_194 hl (by decide) rfl (fun ls hl => ?_)
        refine lv_aload_n hx hb dX11_search_196 rfl (lv_at hl 3 rfl) ?_
        refine hm_getr X hw lkM_97 LM_0 (b := 24) rfl dX11_search_197 ?_
        refine lv_sipush (v := 1024) hx hb dX11_search_200 (by decide) ?_
        refine lv_iload hx hb dX11_search_203 (lv_at hl 0 rfl) ?_
        refine lv_iconst (v := 1) hx hb dX11_search_205 (by decide) ?_
        refine lv_isub hx hb dX11_search_206 ?_
        refine lv_imul hx hb dX11_search_207 ?_
        refine lv_aload_n hx hb dX11_search_208 rfl (lv_at hl 3 rfl) ?_
        refine hm_getr X hw lkM_100 LM_0 (b := 25) rfl dX11_search_209 ?_
        refine lv_bipush (v := 8) hx hb dX11_search_212 (by decide) ?_
        refine lv_iload_n hx hb dX11_search_214 rfl (lv_at hl 1 rfl) ?_
        refine lv_imul hx hb dX11_search_215 ?_
        refine lv_iload hx hb dX11_search_216 (lv_at hl 0 rfl) ?_
        refine lv_iadd hx hb dX11_search_218 ?_
        refine lv_iconst (v := 1) hx hb dX11_search_219 (by decide) ?_
        refine lv_isub hx hb dX11_search_220 ?_
        obtain ⟨hi, h⟩ := h
        refine hm_iald X hw LM_25 hi dX11_search_221 ?_
        refine lv_iadd hx hb dX11_search_222 ?_
        refine lv_iconst (v := (-1)) hx hb dX11_search_223 (by decide) ?_
        obtain ⟨hi, h⟩ := h
        refine hm_iast X hw LM_24 hi dX11_search_224 (fun H locs hw => ?_)
        refine lv_goto (tgt := 76) hx hb dX11_search_225 (by decide) ?_
        exact hK76 _ _ _ _ h hw (lv_sub hl [3, 4, 2, 1, 0] rfl)
      · have h := Eq.mp (if_pos hc) h
        refine lv_iconst (v := 0) hx hb dX11_search_174 (by decide) ?_
        exact hm_iret X hr hlk hw ⟨_, rfl, h⟩ dX11_search_175

theorem wkM_search_l108 {I : HI} {J : HJ} {x1 : Int32} {x2 : Int32} {x3 : Int32} {x6 : Int32} {K76 : HI → Int32 → Int32 → Int32 → Prop} {Q : Int32 → HI → Prop} (X : hX p m c s args RX11 cX11_search 7) (hr : meth.sig.returnType = (some .int)) (hlk : meth.locks = false) (hR : 3 ≤ R.frames ∧ 70 ≤ R.locals)  (hK76 : ∀ (I : HI) (x2 : Int32) (x3 : Int32) (x4 : Int32) {ls : Array Slot} {H : Heap} {locs : List Loc}, K76 I x2 x3 x4 → hW D cA z Ev0 (I, J, T, FM, LM) A s H locs → lv_has ls 7 [(0, .ref (z + 0)), (1, .int x1), (2, .int x2), (3, .int x3), (4, .int x4)] → W p l e R s m args below meth c H locs 0 0 (MQ below (va_Qi (pI J T FM LM Q) (hB D cA z A) A) args s 0 0 A) (F0 m 76 ls [])) : ∀ (n : Nat) (x5 : Int32) {ls : Array Slot} {H : Heap} {locs : List Loc}, M_search_l108 I x1 x2 x3 x6 K76 Q n x5 → hW D cA z Ev0 (I, J, T, FM, LM) A s H locs → lv_has ls 7 [(0, .ref (z + 0)), (1, .int x1), (2, .int x2), (3, .int x3), (5, .int x5), (6, .int x6)] → W p l e R s m args below meth c H locs 0 0 (MQ below (va_Qi (pI J T FM LM Q) (hB D cA z A) A) args s 0 0 A) (F0 m 108 ls []) := by
  have hx := X.1
  have hb := X.2.1
  intro n
  induction n with
  | zero => intro x5 ls H locs h; exact False.elim h
  | succ n ih =>
    intro x5 ls H locs h hw hl
    rw [M_search_l108] at h
    refine lv_iload hx hb dX11_search_108 (lv_at hl 5 rfl) ?_
    refine lv_if_ne (tgt := 156) hx hb dX11_search_110 (by decide) (fun hc => ?_) (fun hc => ?_)
    · have h := Eq.mp (if_neg hc) h
      exact wkM_search_b156 X hr hlk hR  hK76 h hw (lv_sub hl [0, 1, 2, 3, 4, 5] rfl)
    · have h := Eq.mp (if_pos hc) h
      refine lv_iload hx hb dX11_search_113 (lv_at hl 4 rfl) ?_
      refine lv_aload_n hx hb dX11_search_115 rfl (lv_at hl 0 rfl) ?_
      refine hm_geti X hw lkM_7 LM_0 dX11_search_116 ?_
      refine lv_icmp_ge (tgt := 156) hx hb dX11_search_119 (by decide) (fun hc => ?_) (fun hc => ?_)
      · have h := Eq.mp (if_pos hc) h
        exact wkM_search_b156 X hr hlk hR  hK76 h hw (lv_sub hl [0, 1, 2, 3, 4, 5] rfl)
      · have h := Eq.mp (if_neg hc) h
        refine lv_aload_n hx hb dX11_search_122 rfl (lv_at hl 0 rfl) ?_
        refine hm_getr X hw lkM_97 LM_0 (b := 24) rfl dX11_search_123 ?_
        refine lv_sipush (v := 1024) hx hb dX11_search_126 (by decide) ?_
        refine lv_iload hx hb dX11_search_129 (lv_at hl 4 rfl) ?_
        refine lv_imul hx hb dX11_search_131 ?_
        refine lv_aload_n hx hb dX11_search_132 rfl (lv_at hl 0 rfl) ?_
        refine hm_getr X hw lkM_100 LM_0 (b := 25) rfl dX11_search_133 ?_
        refine lv_bipush (v := 8) hx hb dX11_search_136 (by decide) ?_
        refine lv_iload_n hx hb dX11_search_138 rfl (lv_at hl 3 rfl) ?_
        refine lv_imul hx hb dX11_search_139 ?_
        refine lv_iload hx hb dX11_search_140 (lv_at hl 4 rfl) ?_
        refine lv_iadd hx hb dX11_search_142 ?_
        obtain ⟨hi, h⟩ := h
        refine hm_iald X hw LM_25 hi dX11_search_143 ?_
        refine lv_iadd hx hb dX11_search_144 ?_
        obtain ⟨hi, h⟩ := h
        refine hm_iald X hw LM_24 hi dX11_search_145 ?_
        refine lv_iconst (v := (-1)) hx hb dX11_search_146 (by decide) ?_
        refine lv_icmp_eq (tgt := 156) hx hb dX11_search_147 (by decide) (fun hc => ?_) (fun hc => ?_)
        · have h := Eq.mp (if_pos hc) h
          exact wkM_search_b156 X hr hlk hR  hK76 h hw (lv_sub hl [0, 1, 2, 3, 4, 5] rfl)
        · have h := Eq.mp (if_neg hc) h
          refine lv_iinc (v := x5 + 1) (lv' := [(5, _), (0, _), (1, _), (2, _), (3, _), (6, _)]) hx hb dX11_search_150 hl (k := 4) rfl rfl (by decide) rfl (fun ls hl => ?_)
          refine lv_goto (tgt := 108) hx hb dX11_search_153 (by decide) ?_
          exact ih _ h hw (lv_sub hl [1, 2, 3, 4, 0, 5] rfl)

theorem wkM_search_l76 {J : HJ} {x1 : Int32} {Q : Int32 → HI → Prop} (X : hX p m c s args RX11 cX11_search 7) (hr : meth.sig.returnType = (some .int)) (hlk : meth.locks = false) (hR : 3 ≤ R.frames ∧ 70 ≤ R.locals)   : ∀ (n : Nat) (I : HI) (x2 : Int32) (x3 : Int32) (x4 : Int32) {ls : Array Slot} {H : Heap} {locs : List Loc}, M_search_l76 x1 Q n I x2 x3 x4 → hW D cA z Ev0 (I, J, T, FM, LM) A s H locs → lv_has ls 7 [(0, .ref (z + 0)), (1, .int x1), (2, .int x2), (3, .int x3), (4, .int x4)] → W p l e R s m args below meth c H locs 0 0 (MQ below (va_Qi (pI J T FM LM Q) (hB D cA z A) A) args s 0 0 A) (F0 m 76 ls []) := by
  have hx := X.1
  have hb := X.2.1
  intro n
  induction n with
  | zero => intro I x2 x3 x4 ls H locs h; exact False.elim h
  | succ n ih =>
    intro I x2 x3 x4 ls H locs h hw hl
    rw [M_search_l76] at h
    refine lv_iload_n hx hb dX11_search_76 rfl (lv_at hl 3 rfl) ?_
    refine lv_aload_n hx hb dX11_search_77 rfl (lv_at hl 0 rfl) ?_
    refine hm_geti X hw lkM_16 LM_0 dX11_search_78 ?_
    refine lv_icmp_ge (tgt := 315) hx hb dX11_search_81 (by decide) (fun hc => ?_) (fun hc => ?_)
    · have h := Eq.mp (if_pos hc) h
      refine lv_iconst (v := 0) hx hb dX11_search_315 (by decide) ?_
      refine lv_istore (lv' := [(5, _), (0, _), (1, _), (2, _), (3, _), (4, _)]) hx hb dX11_search_316 hl (by decide) rfl (fun ls hl => ?_)
      obtain ⟨n2, h⟩ := h
      exact wkM_search_l318 X hr hlk hR   n2 _ _ h hw (lv_sub hl [1, 0] rfl)
    · have h := Eq.mp (if_neg hc) h
      refine lv_iload hx hb dX11_search_84 (lv_at hl 4 rfl) ?_
      refine lv_istore (lv' := [(5, _), (0, _), (1, _), (2, _), (3, _), (4, _)]) hx hb dX11_search_86 hl (by decide) rfl (fun ls hl => ?_)
      refine lv_iload hx hb dX11_search_88 (lv_at hl 5 rfl) ?_
      refine lv_if_ne (tgt := 105) hx hb dX11_search_90 (by decide) (fun hc => ?_) (fun hc => ?_)
      · have h := Eq.mp (if_neg hc) h
        refine lv_iconst (v := 0) hx hb dX11_search_105 (by decide) ?_
        refine lv_istore (lv' := [(6, _), (5, _), (0, _), (1, _), (2, _), (3, _), (4, _)]) hx hb dX11_search_106 hl (by decide) rfl (fun ls hl => ?_)
        obtain ⟨n2, h⟩ := h
        exact wkM_search_l108 X hr hlk hR  ih n2 _ h hw (lv_sub hl [2, 3, 4, 5, 1, 0] rfl)
      · have h := Eq.mp (if_pos hc) h
        refine lv_aload_n hx hb dX11_search_93 rfl (lv_at hl 1 rfl) ?_
        refine lv_iload_n hx hb dX11_search_94 rfl (lv_at hl 4 rfl) ?_
        refine hm_calli hw (hm_runV (rest := []) hCl_true X hw (cM_isSomeRight  h) ykM_isSomeRight kw1848 rfl LM_0 rfl hl.1 rfl rfl rfl (Nat.le_of_ble_eq_true rfl) ⟨Nat.le_trans (Nat.le_of_ble_eq_true rfl) hR.1, Nat.le_trans (Nat.le_of_ble_eq_true rfl) hR.2⟩ ⟨Nat.zero_le _, Nat.zero_le _⟩ dX11_search_95) (fun r10 u11 H locs hp hw => ?_)
        obtain ⟨rfl, h⟩ := hp
        refine lv_if_eq (tgt := 105) hx hb dX11_search_98 (by decide) (fun hc => ?_) (fun hc => ?_)
        · have h := Eq.mp (if_pos hc) h
          refine lv_iconst (v := 0) hx hb dX11_search_105 (by decide) ?_
          refine lv_istore (lv' := [(6, _), (5, _), (0, _), (1, _), (2, _), (3, _), (4, _)]) hx hb dX11_search_106 hl (by decide) rfl (fun ls hl => ?_)
          obtain ⟨n2, h⟩ := h
          exact wkM_search_l108 X hr hlk hR  ih n2 _ h hw (lv_sub hl [2, 3, 4, 5, 1, 0] rfl)
        · have h := Eq.mp (if_neg hc) h
          refine lv_iconst (v := 1) hx hb dX11_search_101 (by decide) ?_
          refine lv_goto (tgt := 106) hx hb dX11_search_102 (by decide) ?_
          refine lv_istore (lv' := [(6, _), (5, _), (0, _), (1, _), (2, _), (3, _), (4, _)]) hx hb dX11_search_106 hl (by decide) rfl (fun ls hl => ?_)
          obtain ⟨n2, h⟩ := h
          exact wkM_search_l108 X hr hlk hR  ih n2 _ h hw (lv_sub hl [2, 3, 4, 5, 1, 0] rfl)

theorem wkM_search_l44 {J : HJ} {x1 : Int32} {Q : Int32 → HI → Prop} (X : hX p m c s args RX11 cX11_search 7) (hr : meth.sig.returnType = (some .int)) (hlk : meth.locks = false) (hR : 3 ≤ R.frames ∧ 70 ≤ R.locals)   : ∀ (n : Nat) (I : HI) (x2 : Int32) {ls : Array Slot} {H : Heap} {locs : List Loc}, M_search_l44 x1 Q n I x2 → hW D cA z Ev0 (I, J, T, FM, LM) A s H locs → lv_has ls 7 [(0, .ref (z + 0)), (1, .int x1), (2, .int x2)] → W p l e R s m args below meth c H locs 0 0 (MQ below (va_Qi (pI J T FM LM Q) (hB D cA z A) A) args s 0 0 A) (F0 m 44 ls []) := by
  have hx := X.1
  have hb := X.2.1
  intro n
  induction n with
  | zero => intro I x2 ls H locs h; exact False.elim h
  | succ n ih =>
    intro I x2 ls H locs h hw hl
    rw [M_search_l44] at h
    refine lv_iload_n hx hb dX11_search_44 rfl (lv_at hl 2 rfl) ?_
    refine lv_sipush (v := 8192) hx hb dX11_search_45 (by decide) ?_
    refine lv_icmp_ge (tgt := 64) hx hb dX11_search_48 (by decide) (fun hc => ?_) (fun hc => ?_)
    · have h := Eq.mp (if_pos hc) h
      refine lv_aload_n hx hb dX11_search_64 rfl (lv_at hl 0 rfl) ?_
      refine lv_iconst (v := 0) hx hb dX11_search_65 (by decide) ?_
      refine hm_puti X hw lkM_109 LM_0 rfl rfl dX11_search_66 (fun H locs hw => ?_)
      refine lv_iconst (v := 0) hx hb dX11_search_69 (by decide) ?_
      refine lv_istore_n (lv' := [(2, _), (0, _), (1, _)]) hx hb dX11_search_70 rfl hl (by decide) rfl (fun ls hl => ?_)
      refine lv_iconst (v := 0) hx hb dX11_search_71 (by decide) ?_
      refine lv_istore_n (lv' := [(3, _), (2, _), (0, _), (1, _)]) hx hb dX11_search_72 rfl hl (by decide) rfl (fun ls hl => ?_)
      refine lv_iconst (v := 0) hx hb dX11_search_73 (by decide) ?_
      refine lv_istore (lv' := [(4, _), (3, _), (2, _), (0, _), (1, _)]) hx hb dX11_search_74 hl (by decide) rfl (fun ls hl => ?_)
      obtain ⟨n2, h⟩ := h
      exact wkM_search_l76 X hr hlk hR   n2 _ _ _ _ h hw (lv_sub hl [3, 4, 2, 1, 0] rfl)
    · have h := Eq.mp (if_neg hc) h
      refine lv_aload_n hx hb dX11_search_51 rfl (lv_at hl 0 rfl) ?_
      refine hm_getr X hw lkM_97 LM_0 (b := 24) rfl dX11_search_52 ?_
      refine lv_iload_n hx hb dX11_search_55 rfl (lv_at hl 2 rfl) ?_
      refine lv_iconst (v := (-1)) hx hb dX11_search_56 (by decide) ?_
      obtain ⟨hi, h⟩ := h
      refine hm_iast X hw LM_24 hi dX11_search_57 (fun H locs hw => ?_)
      refine lv_iinc (v := x2 + 1) (lv' := [(2, _), (0, _), (1, _)]) hx hb dX11_search_58 hl (k := 2) rfl rfl (by decide) rfl (fun ls hl => ?_)
      refine lv_goto (tgt := 44) hx hb dX11_search_61 (by decide) ?_
      exact ih _ _ h hw (lv_sub hl [1, 2, 0] rfl)

theorem wkM_search_b29 {I : HI} {J : HJ} {x1 : Int32} {t0 : Int32} {Q : Int32 → HI → Prop} (X : hX p m c s args RX11 cX11_search 7) (hr : meth.sig.returnType = (some .int)) (hlk : meth.locks = false) (hR : 3 ≤ R.frames ∧ 70 ≤ R.locals)   : ∀ {ls : Array Slot} {H : Heap} {locs : List Loc}, M_search_b29 I x1 t0 Q → hW D cA z Ev0 (I, J, T, FM, LM) A s H locs → lv_has ls 7 [(0, .ref (z + 0)), (1, .int x1)] → W p l e R s m args below meth c H locs 0 0 (MQ below (va_Qi (pI J T FM LM Q) (hB D cA z A) A) args s 0 0 A) (F0 m 29 ls [.int t0, .ref (z + 0)]) := by
  have hx := X.1
  have hb := X.2.1
  intro ls H locs h hw hl
  unfold M_search_b29 at h
  refine lv_iconst (v := 1) hx hb dX11_search_29 (by decide) ?_
  refine hm_calli hw (hm_runV (rest := []) hCl_true X hw (cM_right  h) ykM_right kw1594 rfl LM_0 rfl hl.1 rfl rfl rfl (Nat.le_of_ble_eq_true rfl) ⟨Nat.le_trans (Nat.le_of_ble_eq_true rfl) hR.1, Nat.le_trans (Nat.le_of_ble_eq_true rfl) hR.2⟩ ⟨Nat.zero_le _, Nat.zero_le _⟩ dX11_search_30) (fun r3 u5 H locs hp hw => ?_)
  obtain ⟨I4, rfl, h⟩ := hp
  refine lv_if_ne (tgt := 38) hx hb dX11_search_33 (by decide) (fun hc => ?_) (fun hc => ?_)
  · have h := Eq.mp (if_neg hc) h
    refine lv_aload_n hx hb dX11_search_38 rfl (lv_at hl 0 rfl) ?_
    refine hm_callv hw (hm_runV (rest := []) hCl_true X hw (cM_views  h) ykM_views kw1844 rfl LM_0 rfl hl.1 rfl rfl rfl (Nat.le_of_ble_eq_true rfl) ⟨Nat.le_trans (Nat.le_of_ble_eq_true rfl) hR.1, Nat.le_trans (Nat.le_of_ble_eq_true rfl) hR.2⟩ ⟨Nat.zero_le _, Nat.zero_le _⟩ dX11_search_39) (fun u7 H locs hp hw => ?_)
    obtain ⟨I6, rfl, h⟩ := hp
    refine lv_iconst (v := 0) hx hb dX11_search_42 (by decide) ?_
    refine lv_istore_n (lv' := [(2, _), (0, _), (1, _)]) hx hb dX11_search_43 rfl hl (by decide) rfl (fun ls hl => ?_)
    obtain ⟨n2, h⟩ := h
    exact wkM_search_l44 X hr hlk hR   n2 _ _ h hw (lv_sub hl [1, 2, 0] rfl)
  · have h := Eq.mp (if_pos hc) h
    refine lv_iconst (v := 0) hx hb dX11_search_36 (by decide) ?_
    exact hm_iret X hr hlk hw ⟨_, rfl, h⟩ dX11_search_37

theorem wkM_search_b28 {I : HI} {J : HJ} {x1 : Int32} {Q : Int32 → HI → Prop} (X : hX p m c s args RX11 cX11_search 7) (hr : meth.sig.returnType = (some .int)) (hlk : meth.locks = false) (hR : 3 ≤ R.frames ∧ 70 ≤ R.locals)   : ∀ {ls : Array Slot} {H : Heap} {locs : List Loc}, M_search_b28 I x1 Q → hW D cA z Ev0 (I, J, T, FM, LM) A s H locs → lv_has ls 7 [(0, .ref (z + 0)), (1, .int x1)] → W p l e R s m args below meth c H locs 0 0 (MQ below (va_Qi (pI J T FM LM Q) (hB D cA z A) A) args s 0 0 A) (F0 m 28 ls [.ref (z + 0)]) := by
  have hx := X.1
  have hb := X.2.1
  intro ls H locs h hw hl
  unfold M_search_b28 at h
  refine lv_iconst (v := 0) hx hb dX11_search_28 (by decide) ?_
  exact wkM_search_b29 X hr hlk hR   h hw (lv_sub hl [0, 1] rfl)

theorem cM_search {l : Launch} {D : va_G} {cA : Nat → ClassId} {z sz : Nat} {I : HI} {J : HJ} {x1 : Int32} {Q : Int32 → HI → Prop}  (h : M_search I x1 Q) : Met l yX11_search (hws0 yX11_search cX11_search 7 (some .int)) { frames := 3, cells := 0, slots := 0, locals := 70 } (hPc D cA z Ev0 (I, J, T, FM, LM) sz [.ref (z + 0), .int x1]) (va_Qi (pI J T FM LM Q) (hB D cA z (hA z LM sz)) (hA z LM sz)) 0 0 (hA z LM sz) := by
  refine hm_met (I, J, T, FM, LM) [.ref (z + 0), .int x1] rfl (by decide) (Nat.le_of_ble_eq_true rfl) ?_
  intro p e s m below meth c ls X hr hlk hnm hxt hsz hw hl
  have hl : lv_has ls 7 [(0, .ref (z + 0)), (1, .int x1)] := hl
  have hR : 3 ≤ ({ frames := 3, cells := 0, slots := 0, locals := 70 } : Room).frames ∧ 70 ≤ ({ frames := 3, cells := 0, slots := 0, locals := 70 } : Room).locals := ⟨Nat.le_refl _, Nat.le_refl _⟩
  generalize ({ frames := 3, cells := 0, slots := 0, locals := 70 } : Room) = R at hR ⊢
  clear hsz
  generalize (hA z LM sz) = A at hw ⊢
  have hx := X.1
  have hb := X.2.1
  unfold M_search at h
  refine lv_aload_n hx hb dX11_search_0 rfl (lv_at hl 0 rfl) ?_
  refine lv_iconst (v := 0) hx hb dX11_search_1 (by decide) ?_
  refine hm_puti X hw lkM_174 LM_0 rfl rfl dX11_search_2 (fun H locs hw => ?_)
  refine lv_aload_n hx hb dX11_search_5 rfl (lv_at hl 0 rfl) ?_
  refine lv_iload_n hx hb dX11_search_6 rfl (lv_at hl 1 rfl) ?_
  refine lv_iconst (v := 0) hx hb dX11_search_7 (by decide) ?_
  refine lv_sipush (v := 5000) hx hb dX11_search_8 (by decide) ?_
  refine hm_calli hw (hm_runS (rest := [_]) hCl_true X hw (cM_within  h) ykM_within kw1583 rfl hl.1 rfl rfl rfl (Nat.le_of_ble_eq_true rfl) ⟨Nat.le_trans (Nat.le_of_ble_eq_true rfl) hR.1, Nat.le_trans (Nat.le_of_ble_eq_true rfl) hR.2⟩ ⟨Nat.zero_le _, Nat.zero_le _⟩ dX11_search_11) (fun r1 u2 H locs hp hw => ?_)
  obtain ⟨rfl, h⟩ := hp
  refine lv_if_eq (tgt := 28) hx hb dX11_search_14 (by decide) (fun hc => ?_) (fun hc => ?_)
  · have h := Eq.mp (if_pos hc) h
    exact wkM_search_b28 X hr hlk hR   h hw (lv_sub hl [0, 1] rfl)
  · have h := Eq.mp (if_neg hc) h
    refine lv_aload_n hx hb dX11_search_17 rfl (lv_at hl 0 rfl) ?_
    refine hm_calli hw (hm_runV (rest := [_]) hCl_true X hw (cM_areAtOnce  h) ykM_areAtOnce kw1840 rfl LM_0 rfl hl.1 rfl rfl rfl (Nat.le_of_ble_eq_true rfl) ⟨Nat.le_trans (Nat.le_of_ble_eq_true rfl) hR.1, Nat.le_trans (Nat.le_of_ble_eq_true rfl) hR.2⟩ ⟨Nat.zero_le _, Nat.zero_le _⟩ dX11_search_18) (fun r12 u13 H locs hp hw => ?_)
    obtain ⟨rfl, h⟩ := hp
    refine lv_if_eq (tgt := 28) hx hb dX11_search_21 (by decide) (fun hc => ?_) (fun hc => ?_)
    · have h := Eq.mp (if_pos hc) h
      exact wkM_search_b28 X hr hlk hR   h hw (lv_sub hl [0, 1] rfl)
    · have h := Eq.mp (if_neg hc) h
      refine lv_iconst (v := 1) hx hb dX11_search_24 (by decide) ?_
      refine lv_goto (tgt := 29) hx hb dX11_search_25 (by decide) ?_
      exact wkM_search_b29 X hr hlk hR   h hw (lv_sub hl [0, 1] rfl)

end
