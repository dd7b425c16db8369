theorem dX6_kindOfWord_0 : decode cX6_kindOfWord 0 = .ok (.sipush 141, 3) := by decide +kernel
theorem dX6_kindOfWord_3 : decode cX6_kindOfWord 3 = .ok (.istore_n 1, 1) := by decide +kernel
theorem dX6_kindOfWord_4 : decode cX6_kindOfWord 4 = .ok (.iconst 0, 1) := by decide +kernel
theorem dX6_kindOfWord_5 : decode cX6_kindOfWord 5 = .ok (.istore_n 2, 1) := by decide +kernel
theorem dX6_kindOfWord_6 : decode cX6_kindOfWord 6 = .ok (.iconst 0, 1) := by decide +kernel
theorem dX6_kindOfWord_7 : decode cX6_kindOfWord 7 = .ok (.istore_n 3, 1) := by decide +kernel
theorem dX6_kindOfWord_8 : decode cX6_kindOfWord 8 = .ok (.iload_n 3, 1) := by decide +kernel
theorem dX6_kindOfWord_9 : decode cX6_kindOfWord 9 = .ok (.ldc 136, 2) := by decide +kernel
theorem dX6_kindOfWord_11 : decode cX6_kindOfWord 11 = .ok (.invokevirtual 138, 3) := by decide +kernel
theorem dX6_kindOfWord_14 : decode cX6_kindOfWord 14 = .ok (.if_icmp .ge 100, 3) := by decide +kernel
theorem dX6_kindOfWord_17 : decode cX6_kindOfWord 17 = .ok (.ldc 136, 2) := by decide +kernel
theorem dX6_kindOfWord_19 : decode cX6_kindOfWord 19 = .ok (.iload_n 3, 1) := by decide +kernel
theorem dX6_kindOfWord_20 : decode cX6_kindOfWord 20 = .ok (.invokevirtual 142, 3) := by decide +kernel
theorem dX6_kindOfWord_23 : decode cX6_kindOfWord 23 = .ok (.istore 4, 2) := by decide +kernel
theorem dX6_kindOfWord_25 : decode cX6_kindOfWord 25 = .ok (.iload 4, 2) := by decide +kernel
theorem dX6_kindOfWord_27 : decode cX6_kindOfWord 27 = .ok (.bipush 32, 2) := by decide +kernel
theorem dX6_kindOfWord_29 : decode cX6_kindOfWord 29 = .ok (.if_icmp .eq 59, 3) := by decide +kernel
theorem dX6_kindOfWord_32 : decode cX6_kindOfWord 32 = .ok (.iload_n 2, 1) := by decide +kernel
theorem dX6_kindOfWord_33 : decode cX6_kindOfWord 33 = .ok (.ifCond .lt 36, 3) := by decide +kernel
theorem dX6_kindOfWord_36 : decode cX6_kindOfWord 36 = .ok (.aload_n 0, 1) := by decide +kernel
theorem dX6_kindOfWord_37 : decode cX6_kindOfWord 37 = .ok (.getfield 37, 3) := by decide +kernel
theorem dX6_kindOfWord_40 : decode cX6_kindOfWord 40 = .ok (.iload_n 2, 1) := by decide +kernel
theorem dX6_kindOfWord_41 : decode cX6_kindOfWord 41 = .ok (.iadd, 1) := by decide +kernel
theorem dX6_kindOfWord_42 : decode cX6_kindOfWord 42 = .ok (.aload_n 0, 1) := by decide +kernel
theorem dX6_kindOfWord_43 : decode cX6_kindOfWord 43 = .ok (.getfield 34, 3) := by decide +kernel
theorem dX6_kindOfWord_46 : decode cX6_kindOfWord 46 = .ok (.if_icmp .ge 23, 3) := by decide +kernel
theorem dX6_kindOfWord_49 : decode cX6_kindOfWord 49 = .ok (.aload_n 0, 1) := by decide +kernel
theorem dX6_kindOfWord_50 : decode cX6_kindOfWord 50 = .ok (.getfield 24, 3) := by decide +kernel
theorem dX6_kindOfWord_53 : decode cX6_kindOfWord 53 = .ok (.aload_n 0, 1) := by decide +kernel
theorem dX6_kindOfWord_54 : decode cX6_kindOfWord 54 = .ok (.getfield 37, 3) := by decide +kernel
theorem dX6_kindOfWord_57 : decode cX6_kindOfWord 57 = .ok (.iload_n 2, 1) := by decide +kernel
theorem dX6_kindOfWord_58 : decode cX6_kindOfWord 58 = .ok (.iadd, 1) := by decide +kernel
theorem dX6_kindOfWord_59 : decode cX6_kindOfWord 59 = .ok (.iaload, 1) := by decide +kernel
theorem dX6_kindOfWord_60 : decode cX6_kindOfWord 60 = .ok (.iload 4, 2) := by decide +kernel
theorem dX6_kindOfWord_62 : decode cX6_kindOfWord 62 = .ok (.if_icmp .ne 7, 3) := by decide +kernel
theorem dX6_kindOfWord_65 : decode cX6_kindOfWord 65 = .ok (.iconst 1, 1) := by decide +kernel
theorem dX6_kindOfWord_66 : decode cX6_kindOfWord 66 = .ok (.goto 4, 3) := by decide +kernel
theorem dX6_kindOfWord_69 : decode cX6_kindOfWord 69 = .ok (.iconst 0, 1) := by decide +kernel
theorem dX6_kindOfWord_70 : decode cX6_kindOfWord 70 = .ok (.istore 5, 2) := by decide +kernel
theorem dX6_kindOfWord_72 : decode cX6_kindOfWord 72 = .ok (.iload 5, 2) := by decide +kernel
theorem dX6_kindOfWord_74 : decode cX6_kindOfWord 74 = .ok (.ifCond .eq 9, 3) := by decide +kernel
theorem dX6_kindOfWord_77 : decode cX6_kindOfWord 77 = .ok (.iload_n 2, 1) := by decide +kernel
theorem dX6_kindOfWord_78 : decode cX6_kindOfWord 78 = .ok (.iconst 1, 1) := by decide +kernel
theorem dX6_kindOfWord_79 : decode cX6_kindOfWord 79 = .ok (.iadd, 1) := by decide +kernel
theorem dX6_kindOfWord_80 : decode cX6_kindOfWord 80 = .ok (.goto 4, 3) := by decide +kernel
theorem dX6_kindOfWord_83 : decode cX6_kindOfWord 83 = .ok (.iconst (-1), 1) := by decide +kernel
theorem dX6_kindOfWord_84 : decode cX6_kindOfWord 84 = .ok (.istore_n 2, 1) := by decide +kernel
theorem dX6_kindOfWord_85 : decode cX6_kindOfWord 85 = .ok (.goto 23, 3) := by decide +kernel
theorem dX6_kindOfWord_88 : decode cX6_kindOfWord 88 = .ok (.aload_n 0, 1) := by decide +kernel
theorem dX6_kindOfWord_89 : decode cX6_kindOfWord 89 = .ok (.getfield 37, 3) := by decide +kernel
theorem dX6_kindOfWord_92 : decode cX6_kindOfWord 92 = .ok (.iload_n 2, 1) := by decide +kernel
theorem dX6_kindOfWord_93 : decode cX6_kindOfWord 93 = .ok (.iadd, 1) := by decide +kernel
theorem dX6_kindOfWord_94 : decode cX6_kindOfWord 94 = .ok (.aload_n 0, 1) := by decide +kernel
theorem dX6_kindOfWord_95 : decode cX6_kindOfWord 95 = .ok (.getfield 34, 3) := by decide +kernel
theorem dX6_kindOfWord_98 : decode cX6_kindOfWord 98 = .ok (.if_icmp .ne 5, 3) := by decide +kernel
theorem dX6_kindOfWord_101 : decode cX6_kindOfWord 101 = .ok (.iload_n 1, 1) := by decide +kernel
theorem dX6_kindOfWord_102 : decode cX6_kindOfWord 102 = .ok (.ireturn, 1) := by decide +kernel
theorem dX6_kindOfWord_103 : decode cX6_kindOfWord 103 = .ok (.iinc 1 1, 3) := by decide +kernel
theorem dX6_kindOfWord_106 : decode cX6_kindOfWord 106 = .ok (.iconst 0, 1) := by decide +kernel
theorem dX6_kindOfWord_107 : decode cX6_kindOfWord 107 = .ok (.istore_n 2, 1) := by decide +kernel
theorem dX6_kindOfWord_108 : decode cX6_kindOfWord 108 = .ok (.iinc 3 1, 3) := by decide +kernel
theorem dX6_kindOfWord_111 : decode cX6_kindOfWord 111 = .ok (.goto (-103), 3) := by decide +kernel
theorem dX6_kindOfWord_114 : decode cX6_kindOfWord 114 = .ok (.sipush 140, 3) := by decide +kernel
theorem dX6_kindOfWord_117 : decode cX6_kindOfWord 117 = .ok (.ireturn, 1) := by decide +kernel
theorem dX6_scanWord_0 : decode cX6_scanWord 0 = .ok (.aload_n 0, 1) := by decide +kernel
theorem dX6_scanWord_1 : decode cX6_scanWord 1 = .ok (.getfield 34, 3) := by decide +kernel
theorem dX6_scanWord_4 : decode cX6_scanWord 4 = .ok (.aload_n 0, 1) := by decide +kernel
theorem dX6_scanWord_5 : decode cX6_scanWord 5 = .ok (.getfield 28, 3) := by decide +kernel
theorem dX6_scanWord_8 : decode cX6_scanWord 8 = .ok (.if_icmp .ge 31, 3) := by decide +kernel
theorem dX6_scanWord_11 : decode cX6_scanWord 11 = .ok (.aload_n 0, 1) := by decide +kernel
theorem dX6_scanWord_12 : decode cX6_scanWord 12 = .ok (.getfield 24, 3) := by decide +kernel
theorem dX6_scanWord_15 : decode cX6_scanWord 15 = .ok (.aload_n 0, 1) := by decide +kernel
theorem dX6_scanWord_16 : decode cX6_scanWord 16 = .ok (.getfield 34, 3) := by decide +kernel
theorem dX6_scanWord_19 : decode cX6_scanWord 19 = .ok (.iaload, 1) := by decide +kernel
theorem dX6_scanWord_20 : decode cX6_scanWord 20 = .ok (.invokestatic 116, 3) := by decide +kernel
theorem dX6_scanWord_23 : decode cX6_scanWord 23 = .ok (.ifCond .eq 16, 3) := by decide +kernel
theorem dX6_scanWord_26 : decode cX6_scanWord 26 = .ok (.aload_n 0, 1) := by decide +kernel
theorem dX6_scanWord_27 : decode cX6_scanWord 27 = .ok (.dup, 1) := by decide +kernel
theorem dX6_scanWord_28 : decode cX6_scanWord 28 = .ok (.getfield 34, 3) := by decide +kernel
theorem dX6_scanWord_31 : decode cX6_scanWord 31 = .ok (.iconst 1, 1) := by decide +kernel
theorem dX6_scanWord_32 : decode cX6_scanWord 32 = .ok (.iadd, 1) := by decide +kernel
theorem dX6_scanWord_33 : decode cX6_scanWord 33 = .ok (.putfield 34, 3) := by decide +kernel
theorem dX6_scanWord_36 : decode cX6_scanWord 36 = .ok (.goto (-36), 3) := by decide +kernel
theorem dX6_scanWord_39 : decode cX6_scanWord 39 = .ok (.aload_n 0, 1) := by decide +kernel
theorem dX6_scanWord_40 : decode cX6_scanWord 40 = .ok (.aload_n 0, 1) := by decide +kernel
theorem dX6_scanWord_41 : decode cX6_scanWord 41 = .ok (.invokevirtual 132, 3) := by decide +kernel
theorem dX6_scanWord_44 : decode cX6_scanWord 44 = .ok (.putfield 40, 3) := by decide +kernel
theorem dX6_scanWord_47 : decode cX6_scanWord 47 = .ok (.return_, 1) := by decide +kernel
theorem dX6_next_0 : decode cX6_next 0 = .ok (.aload_n 0, 1) := by decide +kernel
theorem dX6_next_1 : decode cX6_next 1 = .ok (.getfield 40, 3) := by decide +kernel
theorem dX6_next_4 : decode cX6_next 4 = .ok (.sipush 130, 3) := by decide +kernel
theorem dX6_next_7 : decode cX6_next 7 = .ok (.if_icmp .ne 4, 3) := by decide +kernel
theorem dX6_next_10 : decode cX6_next 10 = .ok (.return_, 1) := by decide +kernel
theorem dX6_next_11 : decode cX6_next 11 = .ok (.aload_n 0, 1) := by decide +kernel
theorem dX6_next_12 : decode cX6_next 12 = .ok (.getfield 34, 3) := by decide +kernel
theorem dX6_next_15 : decode cX6_next 15 = .ok (.aload_n 0, 1) := by decide +kernel
theorem dX6_next_16 : decode cX6_next 16 = .ok (.getfield 28, 3) := by decide +kernel
theorem dX6_next_19 : decode cX6_next 19 = .ok (.if_icmp .ge 44, 3) := by decide +kernel
theorem dX6_next_22 : decode cX6_next 22 = .ok (.aload_n 0, 1) := by decide +kernel
theorem dX6_next_23 : decode cX6_next 23 = .ok (.getfield 24, 3) := by decide +kernel
theorem dX6_next_26 : decode cX6_next 26 = .ok (.aload_n 0, 1) := by decide +kernel
theorem dX6_next_27 : decode cX6_next 27 = .ok (.getfield 34, 3) := by decide +kernel
theorem dX6_next_30 : decode cX6_next 30 = .ok (.iaload, 1) := by decide +kernel
theorem dX6_next_31 : decode cX6_next 31 = .ok (.bipush 32, 2) := by decide +kernel
theorem dX6_next_33 : decode cX6_next 33 = .ok (.if_icmp .eq 17, 3) := by decide +kernel
theorem dX6_next_36 : decode cX6_next 36 = .ok (.aload_n 0, 1) := by decide +kernel
theorem dX6_next_37 : decode cX6_next 37 = .ok (.getfield 24, 3) := by decide +kernel
theorem dX6_next_40 : decode cX6_next 40 = .ok (.aload_n 0, 1) := by decide +kernel
theorem dX6_next_41 : decode cX6_next 41 = .ok (.getfield 34, 3) := by decide +kernel
theorem dX6_next_44 : decode cX6_next 44 = .ok (.iaload, 1) := by decide +kernel
theorem dX6_next_45 : decode cX6_next 45 = .ok (.bipush 10, 2) := by decide +kernel
theorem dX6_next_47 : decode cX6_next 47 = .ok (.if_icmp .ne 16, 3) := by decide +kernel
theorem dX6_next_50 : decode cX6_next 50 = .ok (.aload_n 0, 1) := by decide +kernel
theorem dX6_next_51 : decode cX6_next 51 = .ok (.dup, 1) := by decide +kernel
theorem dX6_next_52 : decode cX6_next 52 = .ok (.getfield 34, 3) := by decide +kernel
theorem dX6_next_55 : decode cX6_next 55 = .ok (.iconst 1, 1) := by decide +kernel
theorem dX6_next_56 : decode cX6_next 56 = .ok (.iadd, 1) := by decide +kernel
theorem dX6_next_57 : decode cX6_next 57 = .ok (.putfield 34, 3) := by decide +kernel
theorem dX6_next_60 : decode cX6_next 60 = .ok (.goto (-49), 3) := by decide +kernel
theorem dX6_next_63 : decode cX6_next 63 = .ok (.aload_n 0, 1) := by decide +kernel
theorem dX6_next_64 : decode cX6_next 64 = .ok (.aload_n 0, 1) := by decide +kernel
theorem dX6_next_65 : decode cX6_next 65 = .ok (.getfield 34, 3) := by decide +kernel
theorem dX6_next_68 : decode cX6_next 68 = .ok (.putfield 37, 3) := by decide +kernel
theorem dX6_next_71 : decode cX6_next 71 = .ok (.aload_n 0, 1) := by decide +kernel
theorem dX6_next_72 : decode cX6_next 72 = .ok (.getfield 34, 3) := by decide +kernel
theorem dX6_next_75 : decode cX6_next 75 = .ok (.aload_n 0, 1) := by decide +kernel
theorem dX6_next_76 : decode cX6_next 76 = .ok (.getfield 28, 3) := by decide +kernel
theorem dX6_next_79 : decode cX6_next 79 = .ok (.if_icmp .lt 13, 3) := by decide +kernel
theorem dX6_next_82 : decode cX6_next 82 = .ok (.aload_n 0, 1) := by decide +kernel
theorem dX6_next_83 : decode cX6_next 83 = .ok (.sipush 128, 3) := by decide +kernel
theorem dX6_next_86 : decode cX6_next 86 = .ok (.putfield 40, 3) := by decide +kernel
theorem dX6_next_89 : decode cX6_next 89 = .ok (.goto 91, 3) := by decide +kernel
theorem dX6_next_92 : decode cX6_next 92 = .ok (.aload_n 0, 1) := by decide +kernel
theorem dX6_next_93 : decode cX6_next 93 = .ok (.getfield 24, 3) := by decide +kernel
theorem dX6_next_96 : decode cX6_next 96 = .ok (.aload_n 0, 1) := by decide +kernel
theorem dX6_next_97 : decode cX6_next 97 = .ok (.getfield 34, 3) := by decide +kernel
theorem dX6_next_100 : decode cX6_next 100 = .ok (.iaload, 1) := by decide +kernel
theorem dX6_next_101 : decode cX6_next 101 = .ok (.invokestatic 116, 3) := by decide +kernel
theorem dX6_next_104 : decode cX6_next 104 = .ok (.ifCond .eq 10, 3) := by decide +kernel
theorem dX6_next_107 : decode cX6_next 107 = .ok (.aload_n 0, 1) := by decide +kernel
theorem dX6_next_108 : decode cX6_next 108 = .ok (.invokevirtual 120, 3) := by decide +kernel
theorem dX6_next_111 : decode cX6_next 111 = .ok (.goto 69, 3) := by decide +kernel
theorem dX6_next_114 : decode cX6_next 114 = .ok (.aload_n 0, 1) := by decide +kernel
theorem dX6_next_115 : decode cX6_next 115 = .ok (.getfield 24, 3) := by decide +kernel
theorem dX6_next_118 : decode cX6_next 118 = .ok (.aload_n 0, 1) := by decide +kernel
theorem dX6_next_119 : decode cX6_next 119 = .ok (.getfield 34, 3) := by decide +kernel
theorem dX6_next_122 : decode cX6_next 122 = .ok (.iaload, 1) := by decide +kernel
theorem dX6_next_123 : decode cX6_next 123 = .ok (.invokestatic 123, 3) := by decide +kernel
theorem dX6_next_126 : decode cX6_next 126 = .ok (.ifCond .eq 10, 3) := by decide +kernel
theorem dX6_next_129 : decode cX6_next 129 = .ok (.aload_n 0, 1) := by decide +kernel
theorem dX6_next_130 : decode cX6_next 130 = .ok (.invokevirtual 126, 3) := by decide +kernel
theorem dX6_next_133 : decode cX6_next 133 = .ok (.goto 47, 3) := by decide +kernel
theorem dX6_next_136 : decode cX6_next 136 = .ok (.aload_n 0, 1) := by decide +kernel
theorem dX6_next_137 : decode cX6_next 137 = .ok (.aload_n 0, 1) := by decide +kernel
theorem dX6_next_138 : decode cX6_next 138 = .ok (.getfield 24, 3) := by decide +kernel
theorem dX6_next_141 : decode cX6_next 141 = .ok (.aload_n 0, 1) := by decide +kernel
theorem dX6_next_142 : decode cX6_next 142 = .ok (.getfield 34, 3) := by decide +kernel
theorem dX6_next_145 : decode cX6_next 145 = .ok (.iaload, 1) := by decide +kernel
theorem dX6_next_146 : decode cX6_next 146 = .ok (.invokestatic 129, 3) := by decide +kernel
theorem dX6_next_149 : decode cX6_next 149 = .ok (.ifCond .eq 15, 3) := by decide +kernel
theorem dX6_next_152 : decode cX6_next 152 = .ok (.aload_n 0, 1) := by decide +kernel
theorem dX6_next_153 : decode cX6_next 153 = .ok (.getfield 24, 3) := by decide +kernel
theorem dX6_next_156 : decode cX6_next 156 = .ok (.aload_n 0, 1) := by decide +kernel
theorem dX6_next_157 : decode cX6_next 157 = .ok (.getfield 34, 3) := by decide +kernel
theorem dX6_next_160 : decode cX6_next 160 = .ok (.iaload, 1) := by decide +kernel
theorem dX6_next_161 : decode cX6_next 161 = .ok (.goto 6, 3) := by decide +kernel
theorem dX6_next_164 : decode cX6_next 164 = .ok (.sipush 129, 3) := by decide +kernel
theorem dX6_next_167 : decode cX6_next 167 = .ok (.putfield 40, 3) := by decide +kernel
theorem dX6_next_170 : decode cX6_next 170 = .ok (.aload_n 0, 1) := by decide +kernel
theorem dX6_next_171 : decode cX6_next 171 = .ok (.dup, 1) := by decide +kernel
theorem dX6_next_172 : decode cX6_next 172 = .ok (.getfield 34, 3) := by decide +kernel
theorem dX6_next_175 : decode cX6_next 175 = .ok (.iconst 1, 1) := by decide +kernel
theorem dX6_next_176 : decode cX6_next 176 = .ok (.iadd, 1) := by decide +kernel
theorem dX6_next_177 : decode cX6_next 177 = .ok (.putfield 34, 3) := by decide +kernel
theorem dX6_next_180 : decode cX6_next 180 = .ok (.return_, 1) := by decide +kernel
theorem dX6_expect_0 : decode cX6_expect 0 = .ok (.aload_n 0, 1) := by decide +kernel
theorem dX6_expect_1 : decode cX6_expect 1 = .ok (.getfield 40, 3) := by decide +kernel
theorem dX6_expect_4 : decode cX6_expect 4 = .ok (.iload_n 1, 1) := by decide +kernel
theorem dX6_expect_5 : decode cX6_expect 5 = .ok (.if_icmp .ne 10, 3) := by decide +kernel
theorem dX6_expect_8 : decode cX6_expect 8 = .ok (.aload_n 0, 1) := by decide +kernel
theorem dX6_expect_9 : decode cX6_expect 9 = .ok (.invokevirtual 58, 3) := by decide +kernel
theorem dX6_expect_12 : decode cX6_expect 12 = .ok (.goto 8, 3) := by decide +kernel
theorem dX6_expect_15 : decode cX6_expect 15 = .ok (.aload_n 0, 1) := by decide +kernel
theorem dX6_expect_16 : decode cX6_expect 16 = .ok (.iconst 1, 1) := by decide +kernel
theorem dX6_expect_17 : decode cX6_expect 17 = .ok (.invokevirtual 61, 3) := by decide +kernel
theorem dX6_expect_20 : decode cX6_expect 20 = .ok (.return_, 1) := by decide +kernel
theorem dX6_readNumber_0 : decode cX6_readNumber 0 = .ok (.aload_n 0, 1) := by decide +kernel
theorem dX6_readNumber_1 : decode cX6_readNumber 1 = .ok (.getfield 43, 3) := by decide +kernel
theorem dX6_readNumber_4 : decode cX6_readNumber 4 = .ok (.istore_n 2, 1) := by decide +kernel
theorem dX6_readNumber_5 : decode cX6_readNumber 5 = .ok (.aload_n 0, 1) := by decide +kernel
theorem dX6_readNumber_6 : decode cX6_readNumber 6 = .ok (.getfield 40, 3) := by decide +kernel
theorem dX6_readNumber_9 : decode cX6_readNumber 9 = .ok (.sipush 131, 3) := by decide +kernel
theorem dX6_readNumber_12 : decode cX6_readNumber 12 = .ok (.if_icmp .ne 14, 3) := by decide +kernel
theorem dX6_readNumber_15 : decode cX6_readNumber 15 = .ok (.iload_n 2, 1) := by decide +kernel
theorem dX6_readNumber_16 : decode cX6_readNumber 16 = .ok (.iload_n 1, 1) := by decide +kernel
theorem dX6_readNumber_17 : decode cX6_readNumber 17 = .ok (.if_icmp .ge 9, 3) := by decide +kernel
theorem dX6_readNumber_20 : decode cX6_readNumber 20 = .ok (.aload_n 0, 1) := by decide +kernel
theorem dX6_readNumber_21 : decode cX6_readNumber 21 = .ok (.invokevirtual 58, 3) := by decide +kernel
theorem dX6_readNumber_24 : decode cX6_readNumber 24 = .ok (.iload_n 2, 1) := by decide +kernel
theorem dX6_readNumber_25 : decode cX6_readNumber 25 = .ok (.ireturn, 1) := by decide +kernel
theorem dX6_readNumber_26 : decode cX6_readNumber 26 = .ok (.aload_n 0, 1) := by decide +kernel
theorem dX6_readNumber_27 : decode cX6_readNumber 27 = .ok (.getfield 40, 3) := by decide +kernel
theorem dX6_readNumber_30 : decode cX6_readNumber 30 = .ok (.sipush 131, 3) := by decide +kernel
theorem dX6_readNumber_33 : decode cX6_readNumber 33 = .ok (.if_icmp .ne 11, 3) := by decide +kernel
theorem dX6_readNumber_36 : decode cX6_readNumber 36 = .ok (.aload_n 0, 1) := by decide +kernel
theorem dX6_readNumber_37 : decode cX6_readNumber 37 = .ok (.iconst 4, 1) := by decide +kernel
theorem dX6_readNumber_38 : decode cX6_readNumber 38 = .ok (.invokevirtual 61, 3) := by decide +kernel
theorem dX6_readNumber_41 : decode cX6_readNumber 41 = .ok (.goto 22, 3) := by decide +kernel
theorem dX6_readNumber_44 : decode cX6_readNumber 44 = .ok (.aload_n 0, 1) := by decide +kernel
theorem dX6_readNumber_45 : decode cX6_readNumber 45 = .ok (.aload_n 0, 1) := by decide +kernel
theorem dX6_readNumber_46 : decode cX6_readNumber 46 = .ok (.getfield 40, 3) := by decide +kernel
theorem dX6_readNumber_49 : decode cX6_readNumber 49 = .ok (.sipush 132, 3) := by decide +kernel
theorem dX6_readNumber_52 : decode cX6_readNumber 52 = .ok (.if_icmp .ne 7, 3) := by decide +kernel
theorem dX6_readNumber_55 : decode cX6_readNumber 55 = .ok (.iconst 2, 1) := by decide +kernel
theorem dX6_readNumber_56 : decode cX6_readNumber 56 = .ok (.goto 4, 3) := by decide +kernel
theorem dX6_readNumber_59 : decode cX6_readNumber 59 = .ok (.iconst 1, 1) := by decide +kernel
theorem dX6_readNumber_60 : decode cX6_readNumber 60 = .ok (.invokevirtual 61, 3) := by decide +kernel
theorem dX6_readNumber_63 : decode cX6_readNumber 63 = .ok (.iconst 0, 1) := by decide +kernel
theorem dX6_readNumber_64 : decode cX6_readNumber 64 = .ok (.ireturn, 1) := by decide +kernel
theorem dX6_readPart_0 : decode cX6_readPart 0 = .ok (.aload_n 0, 1) := by decide +kernel
theorem dX6_readPart_1 : decode cX6_readPart 1 = .ok (.getfield 40, 3) := by decide +kernel
theorem dX6_readPart_4 : decode cX6_readPart 4 = .ok (.istore_n 2, 1) := by decide +kernel
theorem dX6_readPart_5 : decode cX6_readPart 5 = .ok (.iload_n 2, 1) := by decide +kernel
theorem dX6_readPart_6 : decode cX6_readPart 6 = .ok (.bipush 40, 2) := by decide +kernel
theorem dX6_readPart_8 : decode cX6_readPart 8 = .ok (.if_icmp .ne 23, 3) := by decide +kernel
theorem dX6_readPart_11 : decode cX6_readPart 11 = .ok (.aload_n 0, 1) := by decide +kernel
theorem dX6_readPart_12 : decode cX6_readPart 12 = .ok (.invokevirtual 58, 3) := by decide +kernel
theorem dX6_readPart_15 : decode cX6_readPart 15 = .ok (.aload_n 0, 1) := by decide +kernel
theorem dX6_readPart_16 : decode cX6_readPart 16 = .ok (.iload_n 1, 1) := by decide +kernel
theorem dX6_readPart_17 : decode cX6_readPart 17 = .ok (.iconst 1, 1) := by decide +kernel
theorem dX6_readPart_18 : decode cX6_readPart 18 = .ok (.iadd, 1) := by decide +kernel
theorem dX6_readPart_19 : decode cX6_readPart 19 = .ok (.invokevirtual 72, 3) := by decide +kernel
theorem dX6_readPart_22 : decode cX6_readPart 22 = .ok (.istore_n 3, 1) := by decide +kernel
theorem dX6_readPart_23 : decode cX6_readPart 23 = .ok (.aload_n 0, 1) := by decide +kernel
theorem dX6_readPart_24 : decode cX6_readPart 24 = .ok (.bipush 41, 2) := by decide +kernel
theorem dX6_readPart_26 : decode cX6_readPart 26 = .ok (.invokevirtual 75, 3) := by decide +kernel
theorem dX6_readPart_29 : decode cX6_readPart 29 = .ok (.iload_n 3, 1) := by decide +kernel
theorem dX6_readPart_30 : decode cX6_readPart 30 = .ok (.ireturn, 1) := by decide +kernel
theorem dX6_readPart_31 : decode cX6_readPart 31 = .ok (.aload_n 0, 1) := by decide +kernel
theorem dX6_readPart_32 : decode cX6_readPart 32 = .ok (.invokevirtual 87, 3) := by decide +kernel
theorem dX6_readPart_35 : decode cX6_readPart 35 = .ok (.ifCond .eq 19, 3) := by decide +kernel
theorem dX6_readPart_38 : decode cX6_readPart 38 = .ok (.aload_n 0, 1) := by decide +kernel
theorem dX6_readPart_39 : decode cX6_readPart 39 = .ok (.sipush 131, 3) := by decide +kernel
theorem dX6_readPart_42 : decode cX6_readPart 42 = .ok (.aload_n 0, 1) := by decide +kernel
theorem dX6_readPart_43 : decode cX6_readPart 43 = .ok (.sipush 1000, 3) := by decide +kernel
theorem dX6_readPart_46 : decode cX6_readPart 46 = .ok (.invokevirtual 68, 3) := by decide +kernel
theorem dX6_readPart_49 : decode cX6_readPart 49 = .ok (.iconst 0, 1) := by decide +kernel
theorem dX6_readPart_50 : decode cX6_readPart 50 = .ok (.invokevirtual 97, 3) := by decide +kernel
theorem dX6_readPart_53 : decode cX6_readPart 53 = .ok (.ireturn, 1) := by decide +kernel
theorem dX6_readPart_54 : decode cX6_readPart 54 = .ok (.iload_n 2, 1) := by decide +kernel
theorem dX6_readPart_55 : decode cX6_readPart 55 = .ok (.sipush 144, 3) := by decide +kernel
theorem dX6_readPart_58 : decode cX6_readPart 58 = .ok (.if_icmp .lt 10, 3) := by decide +kernel
theorem dX6_readPart_61 : decode cX6_readPart 61 = .ok (.iload_n 2, 1) := by decide +kernel
theorem dX6_readPart_62 : decode cX6_readPart 62 = .ok (.sipush 150, 3) := by decide +kernel
theorem dX6_readPart_65 : decode cX6_readPart 65 = .ok (.if_icmp .le 21, 3) := by decide +kernel
theorem dX6_readPart_68 : decode cX6_readPart 68 = .ok (.aload_n 0, 1) := by decide +kernel
theorem dX6_readPart_69 : decode cX6_readPart 69 = .ok (.aload_n 0, 1) := by decide +kernel
theorem dX6_readPart_70 : decode cX6_readPart 70 = .ok (.invokevirtual 91, 3) := by decide +kernel
theorem dX6_readPart_73 : decode cX6_readPart 73 = .ok (.ifCond .eq 7, 3) := by decide +kernel
theorem dX6_readPart_76 : decode cX6_readPart 76 = .ok (.iconst 3, 1) := by decide +kernel
theorem dX6_readPart_77 : decode cX6_readPart 77 = .ok (.goto 4, 3) := by decide +kernel
theorem dX6_readPart_80 : decode cX6_readPart 80 = .ok (.iconst 1, 1) := by decide +kernel
theorem dX6_readPart_81 : decode cX6_readPart 81 = .ok (.invokevirtual 61, 3) := by decide +kernel
theorem dX6_readPart_84 : decode cX6_readPart 84 = .ok (.iconst 0, 1) := by decide +kernel
theorem dX6_readPart_85 : decode cX6_readPart 85 = .ok (.ireturn, 1) := by decide +kernel
theorem dX6_readPart_86 : decode cX6_readPart 86 = .ok (.aload_n 0, 1) := by decide +kernel
theorem dX6_readPart_87 : decode cX6_readPart 87 = .ok (.invokevirtual 58, 3) := by decide +kernel
theorem dX6_readPart_90 : decode cX6_readPart 90 = .ok (.aload_n 0, 1) := by decide +kernel
theorem dX6_readPart_91 : decode cX6_readPart 91 = .ok (.iload_n 2, 1) := by decide +kernel
theorem dX6_readPart_92 : decode cX6_readPart 92 = .ok (.iload_n 2, 1) := by decide +kernel
theorem dX6_readPart_93 : decode cX6_readPart 93 = .ok (.sipush 147, 3) := by decide +kernel
theorem dX6_readPart_96 : decode cX6_readPart 96 = .ok (.if_icmp .eq 10, 3) := by decide +kernel
theorem dX6_readPart_99 : decode cX6_readPart 99 = .ok (.iload_n 2, 1) := by decide +kernel
theorem dX6_readPart_100 : decode cX6_readPart 100 = .ok (.sipush 148, 3) := by decide +kernel
theorem dX6_readPart_103 : decode cX6_readPart 103 = .ok (.if_icmp .ne 14, 3) := by decide +kernel
theorem dX6_readPart_106 : decode cX6_readPart 106 = .ok (.aload_n 0, 1) := by decide +kernel
theorem dX6_readPart_107 : decode cX6_readPart 107 = .ok (.aload_n 0, 1) := by decide +kernel
theorem dX6_readPart_108 : decode cX6_readPart 108 = .ok (.getfield 31, 3) := by decide +kernel
theorem dX6_readPart_111 : decode cX6_readPart 111 = .ok (.invokevirtual 68, 3) := by decide +kernel
theorem dX6_readPart_114 : decode cX6_readPart 114 = .ok (.goto 4, 3) := by decide +kernel
theorem dX6_readPart_117 : decode cX6_readPart 117 = .ok (.iconst 0, 1) := by decide +kernel
theorem dX6_readPart_118 : decode cX6_readPart 118 = .ok (.iconst 0, 1) := by decide +kernel
theorem dX6_readPart_119 : decode cX6_readPart 119 = .ok (.invokevirtual 97, 3) := by decide +kernel
theorem dX6_readPart_122 : decode cX6_readPart 122 = .ok (.ireturn, 1) := by decide +kernel
theorem dX6_readProduct_0 : decode cX6_readProduct 0 = .ok (.aload_n 0, 1) := by decide +kernel
theorem dX6_readProduct_1 : decode cX6_readProduct 1 = .ok (.iload_n 1, 1) := by decide +kernel
theorem dX6_readProduct_2 : decode cX6_readProduct 2 = .ok (.invokevirtual 113, 3) := by decide +kernel
theorem dX6_readProduct_5 : decode cX6_readProduct 5 = .ok (.istore_n 2, 1) := by decide +kernel
theorem dX6_readProduct_6 : decode cX6_readProduct 6 = .ok (.iconst 0, 1) := by decide +kernel
theorem dX6_readProduct_7 : decode cX6_readProduct 7 = .ok (.istore_n 3, 1) := by decide +kernel
theorem dX6_readProduct_8 : decode cX6_readProduct 8 = .ok (.iload_n 3, 1) := by decide +kernel
theorem dX6_readProduct_9 : decode cX6_readProduct 9 = .ok (.aload_n 0, 1) := by decide +kernel
theorem dX6_readProduct_10 : decode cX6_readProduct 10 = .ok (.getfield 28, 3) := by decide +kernel
theorem dX6_readProduct_13 : decode cX6_readProduct 13 = .ok (.if_icmp .ge 50, 3) := by decide +kernel
theorem dX6_readProduct_16 : decode cX6_readProduct 16 = .ok (.aload_n 0, 1) := by decide +kernel
theorem dX6_readProduct_17 : decode cX6_readProduct 17 = .ok (.getfield 40, 3) := by decide +kernel
theorem dX6_readProduct_20 : decode cX6_readProduct 20 = .ok (.bipush 42, 2) := by decide +kernel
theorem dX6_readProduct_22 : decode cX6_readProduct 22 = .ok (.if_icmp .eq 12, 3) := by decide +kernel
theorem dX6_readProduct_25 : decode cX6_readProduct 25 = .ok (.aload_n 0, 1) := by decide +kernel
theorem dX6_readProduct_26 : decode cX6_readProduct 26 = .ok (.getfield 40, 3) := by decide +kernel
theorem dX6_readProduct_29 : decode cX6_readProduct 29 = .ok (.bipush 47, 2) := by decide +kernel
theorem dX6_readProduct_31 : decode cX6_readProduct 31 = .ok (.if_icmp .ne 32, 3) := by decide +kernel
theorem dX6_readProduct_34 : decode cX6_readProduct 34 = .ok (.aload_n 0, 1) := by decide +kernel
theorem dX6_readProduct_35 : decode cX6_readProduct 35 = .ok (.getfield 40, 3) := by decide +kernel
theorem dX6_readProduct_38 : decode cX6_readProduct 38 = .ok (.istore 4, 2) := by decide +kernel
theorem dX6_readProduct_40 : decode cX6_readProduct 40 = .ok (.aload_n 0, 1) := by decide +kernel
theorem dX6_readProduct_41 : decode cX6_readProduct 41 = .ok (.invokevirtual 58, 3) := by decide +kernel
theorem dX6_readProduct_44 : decode cX6_readProduct 44 = .ok (.aload_n 0, 1) := by decide +kernel
theorem dX6_readProduct_45 : decode cX6_readProduct 45 = .ok (.iload 4, 2) := by decide +kernel
theorem dX6_readProduct_47 : decode cX6_readProduct 47 = .ok (.iload_n 2, 1) := by decide +kernel
theorem dX6_readProduct_48 : decode cX6_readProduct 48 = .ok (.aload_n 0, 1) := by decide +kernel
theorem dX6_readProduct_49 : decode cX6_readProduct 49 = .ok (.iload_n 1, 1) := by decide +kernel
theorem dX6_readProduct_50 : decode cX6_readProduct 50 = .ok (.invokevirtual 113, 3) := by decide +kernel
theorem dX6_readProduct_53 : decode cX6_readProduct 53 = .ok (.invokevirtual 97, 3) := by decide +kernel
theorem dX6_readProduct_56 : decode cX6_readProduct 56 = .ok (.istore_n 2, 1) := by decide +kernel
theorem dX6_readProduct_57 : decode cX6_readProduct 57 = .ok (.iinc 3 1, 3) := by decide +kernel
theorem dX6_readProduct_60 : decode cX6_readProduct 60 = .ok (.goto (-52), 3) := by decide +kernel
theorem dX6_readProduct_63 : decode cX6_readProduct 63 = .ok (.iload_n 2, 1) := by decide +kernel
theorem dX6_readProduct_64 : decode cX6_readProduct 64 = .ok (.ireturn, 1) := by decide +kernel
theorem dX6_readSum_0 : decode cX6_readSum 0 = .ok (.aload_n 0, 1) := by decide +kernel
theorem dX6_readSum_1 : decode cX6_readSum 1 = .ok (.iload_n 1, 1) := by decide +kernel
theorem dX6_readSum_2 : decode cX6_readSum 2 = .ok (.invokevirtual 110, 3) := by decide +kernel
theorem dX6_readSum_5 : decode cX6_readSum 5 = .ok (.istore_n 2, 1) := by decide +kernel
theorem dX6_readSum_6 : decode cX6_readSum 6 = .ok (.iconst 0, 1) := by decide +kernel
theorem dX6_readSum_7 : decode cX6_readSum 7 = .ok (.istore_n 3, 1) := by decide +kernel
theorem dX6_readSum_8 : decode cX6_readSum 8 = .ok (.iload_n 3, 1) := by decide +kernel
theorem dX6_readSum_9 : decode cX6_readSum 9 = .ok (.aload_n 0, 1) := by decide +kernel
theorem dX6_readSum_10 : decode cX6_readSum 10 = .ok (.getfield 28, 3) := by decide +kernel
theorem dX6_readSum_13 : decode cX6_readSum 13 = .ok (.if_icmp .ge 50, 3) := by decide +kernel
theorem dX6_readSum_16 : decode cX6_readSum 16 = .ok (.aload_n 0, 1) := by decide +kernel
theorem dX6_readSum_17 : decode cX6_readSum 17 = .ok (.getfield 40, 3) := by decide +kernel
theorem dX6_readSum_20 : decode cX6_readSum 20 = .ok (.bipush 43, 2) := by decide +kernel
theorem dX6_readSum_22 : decode cX6_readSum 22 = .ok (.if_icmp .eq 12, 3) := by decide +kernel
theorem dX6_readSum_25 : decode cX6_readSum 25 = .ok (.aload_n 0, 1) := by decide +kernel
theorem dX6_readSum_26 : decode cX6_readSum 26 = .ok (.getfield 40, 3) := by decide +kernel
theorem dX6_readSum_29 : decode cX6_readSum 29 = .ok (.bipush 45, 2) := by decide +kernel
theorem dX6_readSum_31 : decode cX6_readSum 31 = .ok (.if_icmp .ne 32, 3) := by decide +kernel
theorem dX6_readSum_34 : decode cX6_readSum 34 = .ok (.aload_n 0, 1) := by decide +kernel
theorem dX6_readSum_35 : decode cX6_readSum 35 = .ok (.getfield 40, 3) := by decide +kernel
theorem dX6_readSum_38 : decode cX6_readSum 38 = .ok (.istore 4, 2) := by decide +kernel
theorem dX6_readSum_40 : decode cX6_readSum 40 = .ok (.aload_n 0, 1) := by decide +kernel
theorem dX6_readSum_41 : decode cX6_readSum 41 = .ok (.invokevirtual 58, 3) := by decide +kernel
theorem dX6_readSum_44 : decode cX6_readSum 44 = .ok (.aload_n 0, 1) := by decide +kernel
theorem dX6_readSum_45 : decode cX6_readSum 45 = .ok (.iload 4, 2) := by decide +kernel
theorem dX6_readSum_47 : decode cX6_readSum 47 = .ok (.iload_n 2, 1) := by decide +kernel
theorem dX6_readSum_48 : decode cX6_readSum 48 = .ok (.aload_n 0, 1) := by decide +kernel
theorem dX6_readSum_49 : decode cX6_readSum 49 = .ok (.iload_n 1, 1) := by decide +kernel
theorem dX6_readSum_50 : decode cX6_readSum 50 = .ok (.invokevirtual 110, 3) := by decide +kernel
theorem dX6_readSum_53 : decode cX6_readSum 53 = .ok (.invokevirtual 97, 3) := by decide +kernel
theorem dX6_readSum_56 : decode cX6_readSum 56 = .ok (.istore_n 2, 1) := by decide +kernel
theorem dX6_readSum_57 : decode cX6_readSum 57 = .ok (.iinc 3 1, 3) := by decide +kernel
theorem dX6_readSum_60 : decode cX6_readSum 60 = .ok (.goto (-52), 3) := by decide +kernel
theorem dX6_readSum_63 : decode cX6_readSum 63 = .ok (.iload_n 2, 1) := by decide +kernel
theorem dX6_readSum_64 : decode cX6_readSum 64 = .ok (.ireturn, 1) := by decide +kernel
theorem dX6_readTest_0 : decode cX6_readTest 0 = .ok (.aload_n 0, 1) := by decide +kernel
theorem dX6_readTest_1 : decode cX6_readTest 1 = .ok (.iload_n 1, 1) := by decide +kernel
theorem dX6_readTest_2 : decode cX6_readTest 2 = .ok (.invokevirtual 107, 3) := by decide +kernel
theorem dX6_readTest_5 : decode cX6_readTest 5 = .ok (.istore_n 2, 1) := by decide +kernel
theorem dX6_readTest_6 : decode cX6_readTest 6 = .ok (.aload_n 0, 1) := by decide +kernel
theorem dX6_readTest_7 : decode cX6_readTest 7 = .ok (.getfield 40, 3) := by decide +kernel
theorem dX6_readTest_10 : decode cX6_readTest 10 = .ok (.bipush 60, 2) := by decide +kernel
theorem dX6_readTest_12 : decode cX6_readTest 12 = .ok (.if_icmp .eq 12, 3) := by decide +kernel
theorem dX6_readTest_15 : decode cX6_readTest 15 = .ok (.aload_n 0, 1) := by decide +kernel
theorem dX6_readTest_16 : decode cX6_readTest 16 = .ok (.getfield 40, 3) := by decide +kernel
theorem dX6_readTest_19 : decode cX6_readTest 19 = .ok (.bipush 61, 2) := by decide +kernel
theorem dX6_readTest_21 : decode cX6_readTest 21 = .ok (.if_icmp .ne 24, 3) := by decide +kernel
theorem dX6_readTest_24 : decode cX6_readTest 24 = .ok (.aload_n 0, 1) := by decide +kernel
theorem dX6_readTest_25 : decode cX6_readTest 25 = .ok (.getfield 40, 3) := by decide +kernel
theorem dX6_readTest_28 : decode cX6_readTest 28 = .ok (.istore_n 3, 1) := by decide +kernel
theorem dX6_readTest_29 : decode cX6_readTest 29 = .ok (.aload_n 0, 1) := by decide +kernel
theorem dX6_readTest_30 : decode cX6_readTest 30 = .ok (.invokevirtual 58, 3) := by decide +kernel
theorem dX6_readTest_33 : decode cX6_readTest 33 = .ok (.aload_n 0, 1) := by decide +kernel
theorem dX6_readTest_34 : decode cX6_readTest 34 = .ok (.iload_n 3, 1) := by decide +kernel
theorem dX6_readTest_35 : decode cX6_readTest 35 = .ok (.iload_n 2, 1) := by decide +kernel
theorem dX6_readTest_36 : decode cX6_readTest 36 = .ok (.aload_n 0, 1) := by decide +kernel
theorem dX6_readTest_37 : decode cX6_readTest 37 = .ok (.iload_n 1, 1) := by decide +kernel
theorem dX6_readTest_38 : decode cX6_readTest 38 = .ok (.invokevirtual 107, 3) := by decide +kernel
theorem dX6_readTest_41 : decode cX6_readTest 41 = .ok (.invokevirtual 97, 3) := by decide +kernel
theorem dX6_readTest_44 : decode cX6_readTest 44 = .ok (.istore_n 2, 1) := by decide +kernel
theorem dX6_readTest_45 : decode cX6_readTest 45 = .ok (.iload_n 2, 1) := by decide +kernel
theorem dX6_readTest_46 : decode cX6_readTest 46 = .ok (.ireturn, 1) := by decide +kernel
theorem dX6_readNot_0 : decode cX6_readNot 0 = .ok (.iconst 0, 1) := by decide +kernel
theorem dX6_readNot_1 : decode cX6_readNot 1 = .ok (.istore_n 2, 1) := by decide +kernel
theorem dX6_readNot_2 : decode cX6_readNot 2 = .ok (.iconst 0, 1) := by decide +kernel
theorem dX6_readNot_3 : decode cX6_readNot 3 = .ok (.istore_n 3, 1) := by decide +kernel
theorem dX6_readNot_4 : decode cX6_readNot 4 = .ok (.iload_n 3, 1) := by decide +kernel
theorem dX6_readNot_5 : decode cX6_readNot 5 = .ok (.bipush 6, 2) := by decide +kernel
theorem dX6_readNot_7 : decode cX6_readNot 7 = .ok (.if_icmp .ge 26, 3) := by decide +kernel
theorem dX6_readNot_10 : decode cX6_readNot 10 = .ok (.aload_n 0, 1) := by decide +kernel
theorem dX6_readNot_11 : decode cX6_readNot 11 = .ok (.getfield 40, 3) := by decide +kernel
theorem dX6_readNot_14 : decode cX6_readNot 14 = .ok (.sipush 151, 3) := by decide +kernel
theorem dX6_readNot_17 : decode cX6_readNot 17 = .ok (.if_icmp .ne 16, 3) := by decide +kernel
theorem dX6_readNot_20 : decode cX6_readNot 20 = .ok (.aload_n 0, 1) := by decide +kernel
theorem dX6_readNot_21 : decode cX6_readNot 21 = .ok (.invokevirtual 58, 3) := by decide +kernel
theorem dX6_readNot_24 : decode cX6_readNot 24 = .ok (.iinc 2 1, 3) := by decide +kernel
theorem dX6_readNot_27 : decode cX6_readNot 27 = .ok (.iinc 3 1, 3) := by decide +kernel
theorem dX6_readNot_30 : decode cX6_readNot 30 = .ok (.goto (-26), 3) := by decide +kernel
theorem dX6_readNot_33 : decode cX6_readNot 33 = .ok (.aload_n 0, 1) := by decide +kernel
theorem dX6_readNot_34 : decode cX6_readNot 34 = .ok (.getfield 40, 3) := by decide +kernel
theorem dX6_readNot_37 : decode cX6_readNot 37 = .ok (.sipush 151, 3) := by decide +kernel
theorem dX6_readNot_40 : decode cX6_readNot 40 = .ok (.if_icmp .ne 8, 3) := by decide +kernel
theorem dX6_readNot_43 : decode cX6_readNot 43 = .ok (.aload_n 0, 1) := by decide +kernel
theorem dX6_readNot_44 : decode cX6_readNot 44 = .ok (.iconst 2, 1) := by decide +kernel
theorem dX6_readNot_45 : decode cX6_readNot 45 = .ok (.invokevirtual 61, 3) := by decide +kernel
theorem dX6_readNot_48 : decode cX6_readNot 48 = .ok (.aload_n 0, 1) := by decide +kernel
theorem dX6_readNot_49 : decode cX6_readNot 49 = .ok (.iload_n 1, 1) := by decide +kernel
theorem dX6_readNot_50 : decode cX6_readNot 50 = .ok (.invokevirtual 104, 3) := by decide +kernel
theorem dX6_readNot_53 : decode cX6_readNot 53 = .ok (.istore_n 3, 1) := by decide +kernel
theorem dX6_readNot_54 : decode cX6_readNot 54 = .ok (.iconst 0, 1) := by decide +kernel
theorem dX6_readNot_55 : decode cX6_readNot 55 = .ok (.istore 4, 2) := by decide +kernel
theorem dX6_readNot_57 : decode cX6_readNot 57 = .ok (.iload 4, 2) := by decide +kernel
theorem dX6_readNot_59 : decode cX6_readNot 59 = .ok (.iload_n 2, 1) := by decide +kernel
theorem dX6_readNot_60 : decode cX6_readNot 60 = .ok (.if_icmp .ge 19, 3) := by decide +kernel
theorem dX6_readNot_63 : decode cX6_readNot 63 = .ok (.aload_n 0, 1) := by decide +kernel
theorem dX6_readNot_64 : decode cX6_readNot 64 = .ok (.sipush 151, 3) := by decide +kernel
theorem dX6_readNot_67 : decode cX6_readNot 67 = .ok (.iload_n 3, 1) := by decide +kernel
theorem dX6_readNot_68 : decode cX6_readNot 68 = .ok (.iload_n 3, 1) := by decide +kernel
theorem dX6_readNot_69 : decode cX6_readNot 69 = .ok (.invokevirtual 97, 3) := by decide +kernel
theorem dX6_readNot_72 : decode cX6_readNot 72 = .ok (.istore_n 3, 1) := by decide +kernel
theorem dX6_readNot_73 : decode cX6_readNot 73 = .ok (.iinc 4 1, 3) := by decide +kernel
theorem dX6_readNot_76 : decode cX6_readNot 76 = .ok (.goto (-19), 3) := by decide +kernel
theorem dX6_readNot_79 : decode cX6_readNot 79 = .ok (.iload_n 3, 1) := by decide +kernel
theorem dX6_readNot_80 : decode cX6_readNot 80 = .ok (.ireturn, 1) := by decide +kernel
theorem dX6_readAnd_0 : decode cX6_readAnd 0 = .ok (.aload_n 0, 1) := by decide +kernel
theorem dX6_readAnd_1 : decode cX6_readAnd 1 = .ok (.iload_n 1, 1) := by decide +kernel
theorem dX6_readAnd_2 : decode cX6_readAnd 2 = .ok (.invokevirtual 101, 3) := by decide +kernel
theorem dX6_readAnd_5 : decode cX6_readAnd 5 = .ok (.istore_n 2, 1) := by decide +kernel
theorem dX6_readAnd_6 : decode cX6_readAnd 6 = .ok (.iconst 0, 1) := by decide +kernel
theorem dX6_readAnd_7 : decode cX6_readAnd 7 = .ok (.istore_n 3, 1) := by decide +kernel
theorem dX6_readAnd_8 : decode cX6_readAnd 8 = .ok (.iload_n 3, 1) := by decide +kernel
theorem dX6_readAnd_9 : decode cX6_readAnd 9 = .ok (.aload_n 0, 1) := by decide +kernel
theorem dX6_readAnd_10 : decode cX6_readAnd 10 = .ok (.getfield 28, 3) := by decide +kernel
theorem dX6_readAnd_13 : decode cX6_readAnd 13 = .ok (.if_icmp .ge 37, 3) := by decide +kernel
theorem dX6_readAnd_16 : decode cX6_readAnd 16 = .ok (.aload_n 0, 1) := by decide +kernel
theorem dX6_readAnd_17 : decode cX6_readAnd 17 = .ok (.getfield 40, 3) := by decide +kernel
theorem dX6_readAnd_20 : decode cX6_readAnd 20 = .ok (.sipush 152, 3) := by decide +kernel
theorem dX6_readAnd_23 : decode cX6_readAnd 23 = .ok (.if_icmp .ne 27, 3) := by decide +kernel
theorem dX6_readAnd_26 : decode cX6_readAnd 26 = .ok (.aload_n 0, 1) := by decide +kernel
theorem dX6_readAnd_27 : decode cX6_readAnd 27 = .ok (.invokevirtual 58, 3) := by decide +kernel
theorem dX6_readAnd_30 : decode cX6_readAnd 30 = .ok (.aload_n 0, 1) := by decide +kernel
theorem dX6_readAnd_31 : decode cX6_readAnd 31 = .ok (.sipush 152, 3) := by decide +kernel
theorem dX6_readAnd_34 : decode cX6_readAnd 34 = .ok (.iload_n 2, 1) := by decide +kernel
theorem dX6_readAnd_35 : decode cX6_readAnd 35 = .ok (.aload_n 0, 1) := by decide +kernel
theorem dX6_readAnd_36 : decode cX6_readAnd 36 = .ok (.iload_n 1, 1) := by decide +kernel
theorem dX6_readAnd_37 : decode cX6_readAnd 37 = .ok (.invokevirtual 101, 3) := by decide +kernel
theorem dX6_readAnd_40 : decode cX6_readAnd 40 = .ok (.invokevirtual 97, 3) := by decide +kernel
theorem dX6_readAnd_43 : decode cX6_readAnd 43 = .ok (.istore_n 2, 1) := by decide +kernel
theorem dX6_readAnd_44 : decode cX6_readAnd 44 = .ok (.iinc 3 1, 3) := by decide +kernel
theorem dX6_readAnd_47 : decode cX6_readAnd 47 = .ok (.goto (-39), 3) := by decide +kernel
theorem dX6_readAnd_50 : decode cX6_readAnd 50 = .ok (.iload_n 2, 1) := by decide +kernel
theorem dX6_readAnd_51 : decode cX6_readAnd 51 = .ok (.ireturn, 1) := by decide +kernel
theorem dX6_readOr_0 : decode cX6_readOr 0 = .ok (.iload_n 1, 1) := by decide +kernel
theorem dX6_readOr_1 : decode cX6_readOr 1 = .ok (.iconst 5, 1) := by decide +kernel
theorem dX6_readOr_2 : decode cX6_readOr 2 = .ok (.if_icmp .le 33, 3) := by decide +kernel
theorem dX6_readOr_5 : decode cX6_readOr 5 = .ok (.aload_n 0, 1) := by decide +kernel
theorem dX6_readOr_6 : decode cX6_readOr 6 = .ok (.invokevirtual 87, 3) := by decide +kernel
theorem dX6_readOr_9 : decode cX6_readOr 9 = .ok (.ifCond .ne 19, 3) := by decide +kernel
theorem dX6_readOr_12 : decode cX6_readOr 12 = .ok (.aload_n 0, 1) := by decide +kernel
theorem dX6_readOr_13 : decode cX6_readOr 13 = .ok (.invokevirtual 91, 3) := by decide +kernel
theorem dX6_readOr_16 : decode cX6_readOr 16 = .ok (.ifCond .ne 12, 3) := by decide +kernel
theorem dX6_readOr_19 : decode cX6_readOr 19 = .ok (.aload_n 0, 1) := by decide +kernel
theorem dX6_readOr_20 : decode cX6_readOr 20 = .ok (.getfield 40, 3) := by decide +kernel
theorem dX6_readOr_23 : decode cX6_readOr 23 = .ok (.bipush 40, 2) := by decide +kernel
theorem dX6_readOr_25 : decode cX6_readOr 25 = .ok (.if_icmp .ne 10, 3) := by decide +kernel
theorem dX6_readOr_28 : decode cX6_readOr 28 = .ok (.aload_n 0, 1) := by decide +kernel
theorem dX6_readOr_29 : decode cX6_readOr 29 = .ok (.iconst 2, 1) := by decide +kernel
theorem dX6_readOr_30 : decode cX6_readOr 30 = .ok (.invokevirtual 61, 3) := by decide +kernel
theorem dX6_readOr_33 : decode cX6_readOr 33 = .ok (.iconst 0, 1) := by decide +kernel
theorem dX6_readOr_34 : decode cX6_readOr 34 = .ok (.ireturn, 1) := by decide +kernel
theorem dX6_readOr_35 : decode cX6_readOr 35 = .ok (.aload_n 0, 1) := by decide +kernel
theorem dX6_readOr_36 : decode cX6_readOr 36 = .ok (.iload_n 1, 1) := by decide +kernel
theorem dX6_readOr_37 : decode cX6_readOr 37 = .ok (.invokevirtual 94, 3) := by decide +kernel
theorem dX6_readOr_40 : decode cX6_readOr 40 = .ok (.istore_n 2, 1) := by decide +kernel
theorem dX6_readOr_41 : decode cX6_readOr 41 = .ok (.iconst 0, 1) := by decide +kernel
theorem dX6_readOr_42 : decode cX6_readOr 42 = .ok (.istore_n 3, 1) := by decide +kernel
theorem dX6_readOr_43 : decode cX6_readOr 43 = .ok (.iload_n 3, 1) := by decide +kernel
theorem dX6_readOr_44 : decode cX6_readOr 44 = .ok (.aload_n 0, 1) := by decide +kernel
theorem dX6_readOr_45 : decode cX6_readOr 45 = .ok (.getfield 28, 3) := by decide +kernel
theorem dX6_readOr_48 : decode cX6_readOr 48 = .ok (.if_icmp .ge 37, 3) := by decide +kernel
theorem dX6_readOr_51 : decode cX6_readOr 51 = .ok (.aload_n 0, 1) := by decide +kernel
theorem dX6_readOr_52 : decode cX6_readOr 52 = .ok (.getfield 40, 3) := by decide +kernel
theorem dX6_readOr_55 : decode cX6_readOr 55 = .ok (.sipush 153, 3) := by decide +kernel
theorem dX6_readOr_58 : decode cX6_readOr 58 = .ok (.if_icmp .ne 27, 3) := by decide +kernel
theorem dX6_readOr_61 : decode cX6_readOr 61 = .ok (.aload_n 0, 1) := by decide +kernel
theorem dX6_readOr_62 : decode cX6_readOr 62 = .ok (.invokevirtual 58, 3) := by decide +kernel
theorem dX6_readOr_65 : decode cX6_readOr 65 = .ok (.aload_n 0, 1) := by decide +kernel
theorem dX6_readOr_66 : decode cX6_readOr 66 = .ok (.sipush 153, 3) := by decide +kernel
theorem dX6_readOr_69 : decode cX6_readOr 69 = .ok (.iload_n 2, 1) := by decide +kernel
theorem dX6_readOr_70 : decode cX6_readOr 70 = .ok (.aload_n 0, 1) := by decide +kernel
theorem dX6_readOr_71 : decode cX6_readOr 71 = .ok (.iload_n 1, 1) := by decide +kernel
theorem dX6_readOr_72 : decode cX6_readOr 72 = .ok (.invokevirtual 94, 3) := by decide +kernel
theorem dX6_readOr_75 : decode cX6_readOr 75 = .ok (.invokevirtual 97, 3) := by decide +kernel
theorem dX6_readOr_78 : decode cX6_readOr 78 = .ok (.istore_n 2, 1) := by decide +kernel
theorem dX6_readOr_79 : decode cX6_readOr 79 = .ok (.iinc 3 1, 3) := by decide +kernel
theorem dX6_readOr_82 : decode cX6_readOr 82 = .ok (.goto (-39), 3) := by decide +kernel
theorem dX6_readOr_85 : decode cX6_readOr 85 = .ok (.iload_n 2, 1) := by decide +kernel
theorem dX6_readOr_86 : decode cX6_readOr 86 = .ok (.ireturn, 1) := by decide +kernel
theorem dX10_needWearer_0 : decode cX10_needWearer 0 = .ok (.iload_n 1, 1) := by decide +kernel
theorem dX10_needWearer_1 : decode cX10_needWearer 1 = .ok (.ifCond .lt 14, 3) := by decide +kernel
theorem dX10_needWearer_4 : decode cX10_needWearer 4 = .ok (.iload_n 1, 1) := by decide +kernel
theorem dX10_needWearer_5 : decode cX10_needWearer 5 = .ok (.aload_n 0, 1) := by decide +kernel
theorem dX10_needWearer_6 : decode cX10_needWearer 6 = .ok (.getfield 10, 3) := by decide +kernel
theorem dX10_needWearer_9 : decode cX10_needWearer 9 = .ok (.getfield 150, 3) := by decide +kernel
theorem dX10_needWearer_12 : decode cX10_needWearer 12 = .ok (.if_icmp .lt 14, 3) := by decide +kernel
theorem dX10_needWearer_15 : decode cX10_needWearer 15 = .ok (.new 186, 3) := by decide +kernel
theorem dX10_needWearer_18 : decode cX10_needWearer 18 = .ok (.dup, 1) := by decide +kernel
theorem dX10_needWearer_19 : decode cX10_needWearer 19 = .ok (.ldc_w 363, 3) := by decide +kernel
theorem dX10_needWearer_22 : decode cX10_needWearer 22 = .ok (.invokespecial 190, 3) := by decide +kernel
theorem dX10_needWearer_25 : decode cX10_needWearer 25 = .ok (.athrow, 1) := by decide +kernel
theorem dX10_needWearer_26 : decode cX10_needWearer 26 = .ok (.return_, 1) := by decide +kernel
theorem dX10_looks_0 : decode cX10_looks 0 = .ok (.aload_n 0, 1) := by decide +kernel
theorem dX10_looks_1 : decode cX10_looks 1 = .ok (.iload_n 1, 1) := by decide +kernel
theorem dX10_looks_2 : decode cX10_looks 2 = .ok (.invokevirtual 114, 3) := by decide +kernel
theorem dX10_looks_5 : decode cX10_looks 5 = .ok (.iload_n 2, 1) := by decide +kernel
theorem dX10_looks_6 : decode cX10_looks 6 = .ok (.aload_n 0, 1) := by decide +kernel
theorem dX10_looks_7 : decode cX10_looks 7 = .ok (.getfield 10, 3) := by decide +kernel
theorem dX10_looks_10 : decode cX10_looks 10 = .ok (.iload_n 1, 1) := by decide +kernel
theorem dX10_looks_11 : decode cX10_looks 11 = .ok (.invokevirtual 118, 3) := by decide +kernel
theorem dX10_looks_14 : decode cX10_looks 14 = .ok (.iconst (-1), 1) := by decide +kernel
theorem dX10_looks_15 : decode cX10_looks 15 = .ok (.ixor, 1) := by decide +kernel
theorem dX10_looks_16 : decode cX10_looks 16 = .ok (.iand, 1) := by decide +kernel
theorem dX10_looks_17 : decode cX10_looks 17 = .ok (.ifCond .eq 5, 3) := by decide +kernel
theorem dX10_looks_20 : decode cX10_looks 20 = .ok (.iconst 0, 1) := by decide +kernel
theorem dX10_looks_21 : decode cX10_looks 21 = .ok (.ireturn, 1) := by decide +kernel
theorem dX10_looks_22 : decode cX10_looks 22 = .ok (.aload_n 0, 1) := by decide +kernel
theorem dX10_looks_23 : decode cX10_looks 23 = .ok (.getfield 10, 3) := by decide +kernel
theorem dX10_looks_26 : decode cX10_looks 26 = .ok (.iload_n 1, 1) := by decide +kernel
theorem dX10_looks_27 : decode cX10_looks 27 = .ok (.iload_n 2, 1) := by decide +kernel
theorem dX10_looks_28 : decode cX10_looks 28 = .ok (.invokevirtual 122, 3) := by decide +kernel
theorem dX10_looks_31 : decode cX10_looks 31 = .ok (.aload_n 0, 1) := by decide +kernel
theorem dX10_looks_32 : decode cX10_looks 32 = .ok (.getfield 40, 3) := by decide +kernel
theorem dX10_looks_35 : decode cX10_looks 35 = .ok (.invokevirtual 111, 3) := by decide +kernel
theorem dX10_looks_38 : decode cX10_looks 38 = .ok (.iconst 1, 1) := by decide +kernel
theorem dX10_looks_39 : decode cX10_looks 39 = .ok (.ireturn, 1) := by decide +kernel
theorem dX10_round_0 : decode cX10_round 0 = .ok (.aload_n 0, 1) := by decide +kernel
theorem dX10_round_1 : decode cX10_round 1 = .ok (.iload_n 1, 1) := by decide +kernel
theorem dX10_round_2 : decode cX10_round 2 = .ok (.invokevirtual 114, 3) := by decide +kernel
theorem dX10_round_5 : decode cX10_round 5 = .ok (.iload_n 2, 1) := by decide +kernel
theorem dX10_round_6 : decode cX10_round 6 = .ok (.ifCond .lt 9, 3) := by decide +kernel
theorem dX10_round_9 : decode cX10_round 9 = .ok (.iload_n 2, 1) := by decide +kernel
theorem dX10_round_10 : decode cX10_round 10 = .ok (.bipush 7, 2) := by decide +kernel
theorem dX10_round_12 : decode cX10_round 12 = .ok (.if_icmp .le 5, 3) := by decide +kernel
theorem dX10_round_15 : decode cX10_round 15 = .ok (.iconst 0, 1) := by decide +kernel
theorem dX10_round_16 : decode cX10_round 16 = .ok (.ireturn, 1) := by decide +kernel
theorem dX10_round_17 : decode cX10_round 17 = .ok (.aload_n 0, 1) := by decide +kernel
theorem dX10_round_18 : decode cX10_round 18 = .ok (.getfield 10, 3) := by decide +kernel
theorem dX10_round_21 : decode cX10_round 21 = .ok (.iload_n 1, 1) := by decide +kernel
theorem dX10_round_22 : decode cX10_round 22 = .ok (.iload_n 2, 1) := by decide +kernel
theorem dX10_round_23 : decode cX10_round 23 = .ok (.invokevirtual 125, 3) := by decide +kernel
theorem dX10_round_26 : decode cX10_round 26 = .ok (.aload_n 0, 1) := by decide +kernel
theorem dX10_round_27 : decode cX10_round 27 = .ok (.getfield 40, 3) := by decide +kernel
theorem dX10_round_30 : decode cX10_round 30 = .ok (.invokevirtual 111, 3) := by decide +kernel
theorem dX10_round_33 : decode cX10_round 33 = .ok (.iconst 1, 1) := by decide +kernel
theorem dX10_round_34 : decode cX10_round 34 = .ok (.ireturn, 1) := by decide +kernel
theorem dX10_about_0 : decode cX10_about 0 = .ok (.aload_n 0, 1) := by decide +kernel
theorem dX10_about_1 : decode cX10_about 1 = .ok (.iload_n 1, 1) := by decide +kernel
theorem dX10_about_2 : decode cX10_about 2 = .ok (.invokevirtual 114, 3) := by decide +kernel
theorem dX10_about_5 : decode cX10_about 5 = .ok (.iload_n 2, 1) := by decide +kernel
theorem dX10_about_6 : decode cX10_about 6 = .ok (.tableswitch 83 0 4 #[34, 44, 54, 64, 74], 34) := by decide +kernel
theorem dX10_about_40 : decode cX10_about 40 = .ok (.aload_n 0, 1) := by decide +kernel
theorem dX10_about_41 : decode cX10_about 41 = .ok (.getfield 10, 3) := by decide +kernel
theorem dX10_about_44 : decode cX10_about 44 = .ok (.getfield 171, 3) := by decide +kernel
theorem dX10_about_47 : decode cX10_about 47 = .ok (.iload_n 1, 1) := by decide +kernel
theorem dX10_about_48 : decode cX10_about 48 = .ok (.iaload, 1) := by decide +kernel
theorem dX10_about_49 : decode cX10_about 49 = .ok (.ireturn, 1) := by decide +kernel
theorem dX10_about_50 : decode cX10_about 50 = .ok (.aload_n 0, 1) := by decide +kernel
theorem dX10_about_51 : decode cX10_about 51 = .ok (.getfield 10, 3) := by decide +kernel
theorem dX10_about_54 : decode cX10_about 54 = .ok (.getfield 174, 3) := by decide +kernel
theorem dX10_about_57 : decode cX10_about 57 = .ok (.iload_n 1, 1) := by decide +kernel
theorem dX10_about_58 : decode cX10_about 58 = .ok (.iaload, 1) := by decide +kernel
theorem dX10_about_59 : decode cX10_about 59 = .ok (.ireturn, 1) := by decide +kernel
theorem dX10_about_60 : decode cX10_about 60 = .ok (.aload_n 0, 1) := by decide +kernel
theorem dX10_about_61 : decode cX10_about 61 = .ok (.getfield 10, 3) := by decide +kernel
theorem dX10_about_64 : decode cX10_about 64 = .ok (.getfield 177, 3) := by decide +kernel
theorem dX10_about_67 : decode cX10_about 67 = .ok (.iload_n 1, 1) := by decide +kernel
theorem dX10_about_68 : decode cX10_about 68 = .ok (.iaload, 1) := by decide +kernel
theorem dX10_about_69 : decode cX10_about 69 = .ok (.ireturn, 1) := by decide +kernel
theorem dX10_about_70 : decode cX10_about 70 = .ok (.aload_n 0, 1) := by decide +kernel
theorem dX10_about_71 : decode cX10_about 71 = .ok (.getfield 10, 3) := by decide +kernel
theorem dX10_about_74 : decode cX10_about 74 = .ok (.getfield 180, 3) := by decide +kernel
theorem dX10_about_77 : decode cX10_about 77 = .ok (.iload_n 1, 1) := by decide +kernel
theorem dX10_about_78 : decode cX10_about 78 = .ok (.iaload, 1) := by decide +kernel
theorem dX10_about_79 : decode cX10_about 79 = .ok (.ireturn, 1) := by decide +kernel
theorem dX10_about_80 : decode cX10_about 80 = .ok (.aload_n 0, 1) := by decide +kernel
theorem dX10_about_81 : decode cX10_about 81 = .ok (.getfield 10, 3) := by decide +kernel
theorem dX10_about_84 : decode cX10_about 84 = .ok (.iload_n 1, 1) := by decide +kernel
theorem dX10_about_85 : decode cX10_about 85 = .ok (.invokevirtual 183, 3) := by decide +kernel
theorem dX10_about_88 : decode cX10_about 88 = .ok (.ireturn, 1) := by decide +kernel
theorem dX10_about_89 : decode cX10_about 89 = .ok (.new 186, 3) := by decide +kernel
theorem dX10_about_92 : decode cX10_about 92 = .ok (.dup, 1) := by decide +kernel
theorem dX10_about_93 : decode cX10_about 93 = .ok (.ldc 188, 2) := by decide +kernel
theorem dX10_about_95 : decode cX10_about 95 = .ok (.invokespecial 190, 3) := by decide +kernel
theorem dX10_about_98 : decode cX10_about 98 = .ok (.athrow, 1) := by decide +kernel
theorem dX10_tell_0 : decode cX10_tell 0 = .ok (.aload_n 0, 1) := by decide +kernel
theorem dX10_tell_1 : decode cX10_tell 1 = .ok (.iload_n 1, 1) := by decide +kernel
theorem dX10_tell_2 : decode cX10_tell 2 = .ok (.invokevirtual 114, 3) := by decide +kernel
theorem dX10_tell_5 : decode cX10_tell 5 = .ok (.iload_n 2, 1) := by decide +kernel
theorem dX10_tell_6 : decode cX10_tell 6 = .ok (.ifCond .lt 31, 3) := by decide +kernel
theorem dX10_tell_9 : decode cX10_tell 9 = .ok (.iload_n 2, 1) := by decide +kernel
theorem dX10_tell_10 : decode cX10_tell 10 = .ok (.aload_n 0, 1) := by decide +kernel
theorem dX10_tell_11 : decode cX10_tell 11 = .ok (.getfield 10, 3) := by decide +kernel
theorem dX10_tell_14 : decode cX10_tell 14 = .ok (.getfield 180, 3) := by decide +kernel
theorem dX10_tell_17 : decode cX10_tell 17 = .ok (.iload_n 1, 1) := by decide +kernel
theorem dX10_tell_18 : decode cX10_tell 18 = .ok (.iaload, 1) := by decide +kernel
theorem dX10_tell_19 : decode cX10_tell 19 = .ok (.if_icmp .ge 18, 3) := by decide +kernel
theorem dX10_tell_22 : decode cX10_tell 22 = .ok (.iload_n 3, 1) := by decide +kernel
theorem dX10_tell_23 : decode cX10_tell 23 = .ok (.ifCond .lt 14, 3) := by decide +kernel
theorem dX10_tell_26 : decode cX10_tell 26 = .ok (.iload_n 3, 1) := by decide +kernel
theorem dX10_tell_27 : decode cX10_tell 27 = .ok (.aload_n 0, 1) := by decide +kernel
theorem dX10_tell_28 : decode cX10_tell 28 = .ok (.getfield 10, 3) := by decide +kernel
theorem dX10_tell_31 : decode cX10_tell 31 = .ok (.getfield 128, 3) := by decide +kernel
theorem dX10_tell_34 : decode cX10_tell 34 = .ok (.if_icmp .le 5, 3) := by decide +kernel
theorem dX10_tell_37 : decode cX10_tell 37 = .ok (.iconst 0, 1) := by decide +kernel
theorem dX10_tell_38 : decode cX10_tell 38 = .ok (.ireturn, 1) := by decide +kernel
theorem dX10_tell_39 : decode cX10_tell 39 = .ok (.aload_n 0, 1) := by decide +kernel
theorem dX10_tell_40 : decode cX10_tell 40 = .ok (.getfield 10, 3) := by decide +kernel
theorem dX10_tell_43 : decode cX10_tell 43 = .ok (.getfield 191, 3) := by decide +kernel
theorem dX10_tell_46 : decode cX10_tell 46 = .ok (.iload_n 1, 1) := by decide +kernel
theorem dX10_tell_47 : decode cX10_tell 47 = .ok (.aaload, 1) := by decide +kernel
theorem dX10_tell_48 : decode cX10_tell 48 = .ok (.ifnull 11, 3) := by decide +kernel
theorem dX10_tell_51 : decode cX10_tell 51 = .ok (.aload_n 0, 1) := by decide +kernel
theorem dX10_tell_52 : decode cX10_tell 52 = .ok (.getfield 10, 3) := by decide +kernel
theorem dX10_tell_55 : decode cX10_tell 55 = .ok (.iload_n 1, 1) := by decide +kernel
theorem dX10_tell_56 : decode cX10_tell 56 = .ok (.invokevirtual 194, 3) := by decide +kernel
theorem dX10_tell_59 : decode cX10_tell 59 = .ok (.aload_n 0, 1) := by decide +kernel
theorem dX10_tell_60 : decode cX10_tell 60 = .ok (.getfield 10, 3) := by decide +kernel
theorem dX10_tell_63 : decode cX10_tell 63 = .ok (.iload_n 1, 1) := by decide +kernel
theorem dX10_tell_64 : decode cX10_tell 64 = .ok (.iload_n 2, 1) := by decide +kernel
theorem dX10_tell_65 : decode cX10_tell 65 = .ok (.iload_n 3, 1) := by decide +kernel
theorem dX10_tell_66 : decode cX10_tell 66 = .ok (.invokevirtual 197, 3) := by decide +kernel
theorem dX10_tell_69 : decode cX10_tell 69 = .ok (.aload_n 0, 1) := by decide +kernel
theorem dX10_tell_70 : decode cX10_tell 70 = .ok (.getfield 40, 3) := by decide +kernel
theorem dX10_tell_73 : decode cX10_tell 73 = .ok (.invokevirtual 111, 3) := by decide +kernel
theorem dX10_tell_76 : decode cX10_tell 76 = .ok (.iconst 1, 1) := by decide +kernel
theorem dX10_tell_77 : decode cX10_tell 77 = .ok (.ireturn, 1) := by decide +kernel
theorem dX10_cell_0 : decode cX10_cell 0 = .ok (.aload_n 0, 1) := by decide +kernel
theorem dX10_cell_1 : decode cX10_cell 1 = .ok (.iload_n 1, 1) := by decide +kernel
theorem dX10_cell_2 : decode cX10_cell 2 = .ok (.invokevirtual 114, 3) := by decide +kernel
theorem dX10_cell_5 : decode cX10_cell 5 = .ok (.aload_n 0, 1) := by decide +kernel
theorem dX10_cell_6 : decode cX10_cell 6 = .ok (.getfield 10, 3) := by decide +kernel
theorem dX10_cell_9 : decode cX10_cell 9 = .ok (.iload_n 1, 1) := by decide +kernel
theorem dX10_cell_10 : decode cX10_cell 10 = .ok (.invokevirtual 201, 3) := by decide +kernel
theorem dX10_cell_13 : decode cX10_cell 13 = .ok (.ifCond .eq 20, 3) := by decide +kernel
theorem dX10_cell_16 : decode cX10_cell 16 = .ok (.iload_n 2, 1) := by decide +kernel
theorem dX10_cell_17 : decode cX10_cell 17 = .ok (.ifCond .lt 16, 3) := by decide +kernel
theorem dX10_cell_20 : decode cX10_cell 20 = .ok (.iload_n 2, 1) := by decide +kernel
theorem dX10_cell_21 : decode cX10_cell 21 = .ok (.aload_n 0, 1) := by decide +kernel
theorem dX10_cell_22 : decode cX10_cell 22 = .ok (.getfield 10, 3) := by decide +kernel
theorem dX10_cell_25 : decode cX10_cell 25 = .ok (.getfield 180, 3) := by decide +kernel
theorem dX10_cell_28 : decode cX10_cell 28 = .ok (.iload_n 1, 1) := by decide +kernel
theorem dX10_cell_29 : decode cX10_cell 29 = .ok (.iaload, 1) := by decide +kernel
theorem dX10_cell_30 : decode cX10_cell 30 = .ok (.if_icmp .lt 13, 3) := by decide +kernel
theorem dX10_cell_33 : decode cX10_cell 33 = .ok (.new 186, 3) := by decide +kernel
theorem dX10_cell_36 : decode cX10_cell 36 = .ok (.dup, 1) := by decide +kernel
theorem dX10_cell_37 : decode cX10_cell 37 = .ok (.ldc 205, 2) := by decide +kernel
theorem dX10_cell_39 : decode cX10_cell 39 = .ok (.invokespecial 190, 3) := by decide +kernel
theorem dX10_cell_42 : decode cX10_cell 42 = .ok (.athrow, 1) := by decide +kernel
theorem dX10_cell_43 : decode cX10_cell 43 = .ok (.aload_n 0, 1) := by decide +kernel
theorem dX10_cell_44 : decode cX10_cell 44 = .ok (.getfield 10, 3) := by decide +kernel
theorem dX10_cell_47 : decode cX10_cell 47 = .ok (.iload_n 1, 1) := by decide +kernel
theorem dX10_cell_48 : decode cX10_cell 48 = .ok (.iload_n 2, 1) := by decide +kernel
theorem dX10_cell_49 : decode cX10_cell 49 = .ok (.invokevirtual 207, 3) := by decide +kernel
theorem dX10_cell_52 : decode cX10_cell 52 = .ok (.ireturn, 1) := by decide +kernel
section
variable {p : Program} {l : Launch} {e : Env} {R : Room} {s : State} {m : MethodId} {args : Array Value} {below : List Frame} {meth : Method} {c : Code} {D : va_G} {cA : Nat → ClassId} {z : Nat} {A : Nat → Prop} {J : HJ}
theorem wkRd_kindOfWord_b70 {I : HI} {T : HR} {F : HR} {L : HL} {x1 : Int32} {x2 : Int32} {x3 : Int32} {t0 : Int32} {K8 : Int32 → Int32 → Int32 → Prop} {Q : Int32 → Prop} (X : hX p m c s args RX6 cX6_kindOfWord 6) (hr : meth.sig.returnType = (some .int)) (hlk : meth.locks = false) (hR : 6 ≤ R.frames ∧ 200 ≤ R.locals) (hG : Geo F L) (hTx : F 28 3 = some 34) (hK8 : ∀ (x1 : Int32) (x2 : Int32) (x3 : Int32) {ls : Array Slot} {H : Heap} {locs : List Loc}, K8 x1 x2 x3 → hW D cA z EvC (I, J, T, F, L) A s H locs → lv_has ls 6 [(0, .ref (z + 28)), (1, .int x1), (2, .int x2), (3, .int x3)] → W p l e R s m args below meth c H locs 0 0 (MQ below (va_Qi (p0 (I, J, T, F, L) Q) (hB D cA z A) A) args s 0 0 A) (F0 m 8 ls [])) : ∀ {ls : Array Slot} {H : Heap} {locs : List Loc}, Rd_kindOfWord_b70 I x1 x2 x3 t0 K8 Q → hW D cA z EvC (I, J, T, F, L) A s H locs → lv_has ls 6 [(0, .ref (z + 28)), (1, .int x1), (2, .int x2), (3, .int x3)] → W p l e R s m args below meth c H locs 0 0 (MQ below (va_Qi (p0 (I, J, T, F, L) Q) (hB D cA z A) A) args s 0 0 A) (F0 m 70 ls [.int t0]) := by
  have hx := X.1
  have hb := X.2.1
  intro ls H locs h hw hl
  unfold Rd_kindOfWord_b70 at h
  refine lv_istore (lv' := [(5, _), (0, _), (1, _), (2, _), (3, _)]) hx hb dX6_kindOfWord_70 hl (by decide) rfl (fun ls hl => ?_)
  refine lv_iload hx hb dX6_kindOfWord_72 (lv_at hl 0 rfl) ?_
  refine lv_if_eq (tgt := 83) hx hb dX6_kindOfWord_74 (by decide) (fun hc => ?_) (fun hc => ?_)
  · have h := Eq.mp (if_pos hc) h
    refine lv_iconst (v := (-1)) hx hb dX6_kindOfWord_83 (by decide) ?_
    refine lv_istore_n (lv' := [(2, _), (5, _), (0, _), (1, _), (3, _)]) hx hb dX6_kindOfWord_84 rfl hl (by decide) rfl (fun ls hl => ?_)
    refine lv_goto (tgt := 108) hx hb dX6_kindOfWord_85 (by decide) ?_
    refine lv_iinc (v := x3 + 1) (lv' := [(3, _), (2, _), (5, _), (0, _), (1, _)]) hx hb dX6_kindOfWord_108 hl (k := 4) rfl rfl (by decide) rfl (fun ls hl => ?_)
    refine lv_goto (tgt := 8) hx hb dX6_kindOfWord_111 (by decide) ?_
    exact hK8 _ _ _ h hw (lv_sub hl [3, 4, 1, 0] rfl)
  · have h := Eq.mp (if_neg hc) h
    refine lv_iload_n hx hb dX6_kindOfWord_77 rfl (lv_at hl 3 rfl) ?_
    refine lv_iconst (v := 1) hx hb dX6_kindOfWord_78 (by decide) ?_
    refine lv_iadd hx hb dX6_kindOfWord_79 ?_
    refine lv_goto (tgt := 84) hx hb dX6_kindOfWord_80 (by decide) ?_
    refine lv_istore_n (lv' := [(2, _), (5, _), (0, _), (1, _), (3, _)]) hx hb dX6_kindOfWord_84 rfl hl (by decide) rfl (fun ls hl => ?_)
    refine lv_goto (tgt := 108) hx hb dX6_kindOfWord_85 (by decide) ?_
    refine lv_iinc (v := x3 + 1) (lv' := [(3, _), (2, _), (5, _), (0, _), (1, _)]) hx hb dX6_kindOfWord_108 hl (k := 4) rfl rfl (by decide) rfl (fun ls hl => ?_)
    refine lv_goto (tgt := 8) hx hb dX6_kindOfWord_111 (by decide) ?_
    exact hK8 _ _ _ h hw (lv_sub hl [3, 4, 1, 0] rfl)

theorem wkRd_kindOfWord_b69 {I : HI} {T : HR} {F : HR} {L : HL} {x1 : Int32} {x2 : Int32} {x3 : Int32} {K8 : Int32 → Int32 → Int32 → Prop} {Q : Int32 → Prop} (X : hX p m c s args RX6 cX6_kindOfWord 6) (hr : meth.sig.returnType = (some .int)) (hlk : meth.locks = false) (hR : 6 ≤ R.frames ∧ 200 ≤ R.locals) (hG : Geo F L) (hTx : F 28 3 = some 34) (hK8 : ∀ (x1 : Int32) (x2 : Int32) (x3 : Int32) {ls : Array Slot} {H : Heap} {locs : List Loc}, K8 x1 x2 x3 → hW D cA z EvC (I, J, T, F, L) A s H locs → lv_has ls 6 [(0, .ref (z + 28)), (1, .int x1), (2, .int x2), (3, .int x3)] → W p l e R s m args below meth c H locs 0 0 (MQ below (va_Qi (p0 (I, J, T, F, L) Q) (hB D cA z A) A) args s 0 0 A) (F0 m 8 ls [])) : ∀ {ls : Array Slot} {H : Heap} {locs : List Loc}, Rd_kindOfWord_b69 I x1 x2 x3 K8 Q → hW D cA z EvC (I, J, T, F, L) A s H locs → lv_has ls 6 [(0, .ref (z + 28)), (1, .int x1), (2, .int x2), (3, .int x3)] → W p l e R s m args below meth c H locs 0 0 (MQ below (va_Qi (p0 (I, J, T, F, L) Q) (hB D cA z A) A) args s 0 0 A) (F0 m 69 ls []) := by
  have hx := X.1
  have hb := X.2.1
  intro ls H locs h hw hl
  unfold Rd_kindOfWord_b69 at h
  refine lv_iconst (v := 0) hx hb dX6_kindOfWord_69 (by decide) ?_
  exact wkRd_kindOfWord_b70 X hr hlk hR hG hTx hK8 h hw (lv_sub hl [0, 1, 2, 3] rfl)

theorem wkRd_kindOfWord_l8 {I : HI} {T : HR} {F : HR} {L : HL} {Q : Int32 → Prop} (X : hX p m c s args RX6 cX6_kindOfWord 6) (hr : meth.sig.returnType = (some .int)) (hlk : meth.locks = false) (hR : 6 ≤ R.frames ∧ 200 ≤ R.locals) (hG : Geo F L) (hTx : F 28 3 = some 34)  : ∀ (n : Nat) (x1 : Int32) (x2 : Int32) (x3 : Int32) {ls : Array Slot} {H : Heap} {locs : List Loc}, Rd_kindOfWord_l8 I Q n x1 x2 x3 → hW D cA z EvC (I, J, T, F, L) A s H locs → lv_has ls 6 [(0, .ref (z + 28)), (1, .int x1), (2, .int x2), (3, .int x3)] → W p l e R s m args below meth c H locs 0 0 (MQ below (va_Qi (p0 (I, J, T, F, L) Q) (hB D cA z A) A) args s 0 0 A) (F0 m 8 ls []) := by
  have hx := X.1
  have hb := X.2.1
  intro n
  induction n with
  | zero => intro x1 x2 x3 ls H locs h; exact False.elim h
  | succ n ih =>
    intro x1 x2 x3 ls H locs h hw hl
    rw [Rd_kindOfWord_l8] at h
    refine lv_iload_n hx hb dX6_kindOfWord_8 rfl (lv_at hl 3 rfl) ?_
    obtain ⟨-, -, -, -, -, -, wa, wv, gR, gO⟩ := hw.2.2.2.2.2
    refine va_ldcS hx hb X.2.2.2.1 gR dX6_kindOfWord_9 ?_
    refine hm_wlen X gO hw.2.2.2.1 kw902 hl.1 (Nat.le_of_ble_eq_true rfl) ⟨Nat.le_trans (Nat.le_of_ble_eq_true rfl) hR.1, Nat.le_trans (Nat.le_of_ble_eq_true rfl) hR.2⟩ ⟨Nat.zero_le _, Nat.zero_le _⟩ dX6_kindOfWord_11 ?_
    refine lv_icmp_ge (tgt := 114) hx hb dX6_kindOfWord_14 (by decide) (fun hc => ?_) (fun hc => ?_)
    · have h := Eq.mp (if_pos hc) h
      refine lv_sipush (v := 140) hx hb dX6_kindOfWord_114 (by decide) ?_
      exact hm_iret X hr hlk hw ⟨rfl, h⟩ dX6_kindOfWord_117
    · have h := Eq.mp (if_neg hc) h
      obtain ⟨-, -, -, -, -, -, wa, wv, gR, gO⟩ := hw.2.2.2.2.2
      refine va_ldcS hx hb X.2.2.2.1 gR dX6_kindOfWord_17 ?_
      refine lv_iload_n hx hb dX6_kindOfWord_19 rfl (lv_at hl 3 rfl) ?_
      obtain ⟨hi, h⟩ := h
      refine hm_wch X gO hw.2.2.2.1 hi kw912 hl.1 (Nat.le_of_ble_eq_true rfl) ⟨Nat.le_trans (Nat.le_of_ble_eq_true rfl) hR.1, Nat.le_trans (Nat.le_of_ble_eq_true rfl) hR.2⟩ ⟨Nat.zero_le _, Nat.zero_le _⟩ dX6_kindOfWord_20 ?_
      refine lv_istore (lv' := [(4, _), (0, _), (1, _), (2, _), (3, _)]) hx hb dX6_kindOfWord_23 hl (by decide) rfl (fun ls hl => ?_)
      refine lv_iload hx hb dX6_kindOfWord_25 (lv_at hl 0 rfl) ?_
      refine lv_bipush (v := 32) hx hb dX6_kindOfWord_27 (by decide) ?_
      refine lv_icmp_eq (tgt := 88) hx hb dX6_kindOfWord_29 (by decide) (fun hc => ?_) (fun hc => ?_)
      · have h := Eq.mp (if_pos hc) h
        refine lv_aload_n hx hb dX6_kindOfWord_88 rfl (lv_at hl 1 rfl) ?_
        refine hm_geti X hw lk_6_37 (gl_28 hG) dX6_kindOfWord_89 ?_
        refine lv_iload_n hx hb dX6_kindOfWord_92 rfl (lv_at hl 3 rfl) ?_
        refine lv_iadd hx hb dX6_kindOfWord_93 ?_
        refine lv_aload_n hx hb dX6_kindOfWord_94 rfl (lv_at hl 1 rfl) ?_
        refine hm_geti X hw lk_6_34 (gl_28 hG) dX6_kindOfWord_95 ?_
        refine lv_icmp_ne (tgt := 103) hx hb dX6_kindOfWord_98 (by decide) (fun hc => ?_) (fun hc => ?_)
        · have h := Eq.mp (if_neg hc) h
          refine lv_iinc (v := x1 + 1) (lv' := [(1, _), (4, _), (0, _), (2, _), (3, _)]) hx hb dX6_kindOfWord_103 hl (k := 2) rfl rfl (by decide) rfl (fun ls hl => ?_)
          refine lv_iconst (v := 0) hx hb dX6_kindOfWord_106 (by decide) ?_
          refine lv_istore_n (lv' := [(2, _), (1, _), (4, _), (0, _), (3, _)]) hx hb dX6_kindOfWord_107 rfl hl (by decide) rfl (fun ls hl => ?_)
          refine lv_iinc (v := x3 + 1) (lv' := [(3, _), (2, _), (1, _), (4, _), (0, _)]) hx hb dX6_kindOfWord_108 hl (k := 4) rfl rfl (by decide) rfl (fun ls hl => ?_)
          refine lv_goto (tgt := 8) hx hb dX6_kindOfWord_111 (by decide) ?_
          exact ih _ _ _ h hw (lv_sub hl [4, 2, 1, 0] rfl)
        · have h := Eq.mp (if_pos hc) h
          refine lv_iload_n hx hb dX6_kindOfWord_101 rfl (lv_at hl 2 rfl) ?_
          exact hm_iret X hr hlk hw ⟨rfl, h⟩ dX6_kindOfWord_102
      · have h := Eq.mp (if_neg hc) h
        refine lv_iload_n hx hb dX6_kindOfWord_32 rfl (lv_at hl 3 rfl) ?_
        refine lv_if_lt (tgt := 69) hx hb dX6_kindOfWord_33 (by decide) (fun hc => ?_) (fun hc => ?_)
        · have h := Eq.mp (if_pos hc) h
          exact wkRd_kindOfWord_b69 X hr hlk hR hG hTx ih h hw (lv_sub hl [1, 2, 3, 4] rfl)
        · have h := Eq.mp (if_neg hc) h
          refine lv_aload_n hx hb dX6_kindOfWord_36 rfl (lv_at hl 1 rfl) ?_
          refine hm_geti X hw lk_6_37 (gl_28 hG) dX6_kindOfWord_37 ?_
          refine lv_iload_n hx hb dX6_kindOfWord_40 rfl (lv_at hl 3 rfl) ?_
          refine lv_iadd hx hb dX6_kindOfWord_41 ?_
          refine lv_aload_n hx hb dX6_kindOfWord_42 rfl (lv_at hl 1 rfl) ?_
          refine hm_geti X hw lk_6_34 (gl_28 hG) dX6_kindOfWord_43 ?_
          refine lv_icmp_ge (tgt := 69) hx hb dX6_kindOfWord_46 (by decide) (fun hc => ?_) (fun hc => ?_)
          · have h := Eq.mp (if_pos hc) h
            exact wkRd_kindOfWord_b69 X hr hlk hR hG hTx ih h hw (lv_sub hl [1, 2, 3, 4] rfl)
          · have h := Eq.mp (if_neg hc) h
            refine lv_aload_n hx hb dX6_kindOfWord_49 rfl (lv_at hl 1 rfl) ?_
            refine hm_getr X hw lk_6_24 (gl_28 hG) hTx dX6_kindOfWord_50 ?_
            refine lv_aload_n hx hb dX6_kindOfWord_53 rfl (lv_at hl 1 rfl) ?_
            refine hm_geti X hw lk_6_37 (gl_28 hG) dX6_kindOfWord_54 ?_
            refine lv_iload_n hx hb dX6_kindOfWord_57 rfl (lv_at hl 3 rfl) ?_
            refine lv_iadd hx hb dX6_kindOfWord_58 ?_
            obtain ⟨hi, h⟩ := h
            refine hm_iald X hw (gl_34 hG) hi dX6_kindOfWord_59 ?_
            refine lv_iload hx hb dX6_kindOfWord_60 (lv_at hl 0 rfl) ?_
            refine lv_icmp_ne (tgt := 69) hx hb dX6_kindOfWord_62 (by decide) (fun hc => ?_) (fun hc => ?_)
            · have h := Eq.mp (if_neg hc) h
              exact wkRd_kindOfWord_b69 X hr hlk hR hG hTx ih h hw (lv_sub hl [1, 2, 3, 4] rfl)
            · have h := Eq.mp (if_pos hc) h
              refine lv_iconst (v := 1) hx hb dX6_kindOfWord_65 (by decide) ?_
              refine lv_goto (tgt := 70) hx hb dX6_kindOfWord_66 (by decide) ?_
              exact wkRd_kindOfWord_b70 X hr hlk hR hG hTx ih h hw (lv_sub hl [1, 2, 3, 4] rfl)

theorem cRd_kindOfWord {l : Launch} {D : va_G} {cA : Nat → ClassId} {z sz : Nat} {I : HI} {T : HR} {F : HR} {L : HL}  {Q : Int32 → Prop} (hG : Geo F L) (hTx : F 28 3 = some 34) (h : Rd_kindOfWord I  Q) : Met l yX6_kindOfWord (hws0 yX6_kindOfWord cX6_kindOfWord 6 (some .int)) { frames := 6, cells := 0, slots := 0, locals := 200 } (hPc D cA z EvC (I, J, T, F, L) sz [.ref (z + 28)]) (va_Qi (p0 (I, J, T, F, L) Q) (hB D cA z (hA z L sz)) (hA z L sz)) 0 0 (hA z L sz) := by
  refine hm_met (I, J, T, F, L) [.ref (z + 28)] rfl (by decide) (Nat.le_of_ble_eq_true rfl) ?_
  intro p e s m below meth c ls X hr hlk hnm hxt hsz hw hl
  have hl : lv_has ls 6 [(0, .ref (z + 28))] := hl
  have hR : 6 ≤ ({ frames := 6, cells := 0, slots := 0, locals := 200 } : Room).frames ∧ 200 ≤ ({ frames := 6, cells := 0, slots := 0, locals := 200 } : Room).locals := ⟨Nat.le_refl _, Nat.le_refl _⟩
  generalize ({ frames := 6, cells := 0, slots := 0, locals := 200 } : Room) = R at hR ⊢
  clear hsz
  generalize (hA z L sz) = A at hw ⊢
  have hx := X.1
  have hb := X.2.1
  unfold Rd_kindOfWord at h
  refine lv_sipush (v := 141) hx hb dX6_kindOfWord_0 (by decide) ?_
  refine lv_istore_n (lv' := [(1, _), (0, _)]) hx hb dX6_kindOfWord_3 rfl hl (by decide) rfl (fun ls hl => ?_)
  refine lv_iconst (v := 0) hx hb dX6_kindOfWord_4 (by decide) ?_
  refine lv_istore_n (lv' := [(2, _), (1, _), (0, _)]) hx hb dX6_kindOfWord_5 rfl hl (by decide) rfl (fun ls hl => ?_)
  refine lv_iconst (v := 0) hx hb dX6_kindOfWord_6 (by decide) ?_
  refine lv_istore_n (lv' := [(3, _), (2, _), (1, _), (0, _)]) hx hb dX6_kindOfWord_7 rfl hl (by decide) rfl (fun ls hl => ?_)
  obtain ⟨n2, h⟩ := h
  exact wkRd_kindOfWord_l8 X hr hlk hR hG hTx  n2 _ _ _ h hw (lv_sub hl [3, 2, 1, 0] rfl)

theorem wkRd_scanWord_l0 {T : HR} {F : HR} {L : HL} {Q : HI → Prop} (X : hX p m c s args RX6 cX6_scanWord 1) (hr : meth.sig.returnType = none) (hlk : meth.locks = false) (hR : 7 ≤ R.frames ∧ 225 ≤ R.locals) (hG : Geo F L) (hTx : F 28 3 = some 34)  : ∀ (n : Nat) (I : HI) {ls : Array Slot} {H : Heap} {locs : List Loc}, Rd_scanWord_l0 Q n I → hW D cA z EvC (I, J, T, F, L) A s H locs → lv_has ls 1 [(0, .ref (z + 28))] → W p l e R s m args below meth c H locs 0 0 (MQ below (va_Qv (pIv J T F L Q) (hB D cA z A) A) args s 0 0 A) (F0 m 0 ls []) := by
  have hx := X.1
  have hb := X.2.1
  intro n
  induction n with
  | zero => intro I ls H locs h; exact False.elim h
  | succ n ih =>
    intro I ls H locs h hw hl
    rw [Rd_scanWord_l0] at h
    refine lv_aload_n hx hb dX6_scanWord_0 rfl (lv_at hl 0 rfl) ?_
    refine hm_geti X hw lk_6_34 (gl_28 hG) dX6_scanWord_1 ?_
    refine lv_aload_n hx hb dX6_scanWord_4 rfl (lv_at hl 0 rfl) ?_
    refine hm_geti X hw lk_6_28 (gl_28 hG) dX6_scanWord_5 ?_
    refine lv_icmp_ge (tgt := 39) hx hb dX6_scanWord_8 (by decide) (fun hc => ?_) (fun hc => ?_)
    · have h := Eq.mp (if_pos hc) h
      refine lv_aload_n hx hb dX6_scanWord_39 rfl (lv_at hl 0 rfl) ?_
      refine lv_aload_n hx hb dX6_scanWord_40 rfl (lv_at hl 0 rfl) ?_
      refine hm_calli hw (hm_runV (rest := [_]) EvC_cl X hw (cRd_kindOfWord hG hTx h) yk_X6_kindOfWord kw897 rfl (gl_28 hG) rfl hl.1 rfl rfl rfl (Nat.le_of_ble_eq_true rfl) ⟨Nat.le_trans (Nat.le_of_ble_eq_true rfl) hR.1, Nat.le_trans (Nat.le_of_ble_eq_true rfl) hR.2⟩ ⟨Nat.zero_le _, Nat.zero_le _⟩ dX6_scanWord_41) (fun a1 u2 H locs hp hw => ?_)
      obtain ⟨rfl, h⟩ := hp
      refine hm_puti X hw lk_6_40 (gl_28 hG) rfl rfl dX6_scanWord_44 (fun H locs hw => ?_)
      exact hm_vret X hr hlk hw ⟨_, rfl, h⟩ dX6_scanWord_47
    · have h := Eq.mp (if_neg hc) h
      refine lv_aload_n hx hb dX6_scanWord_11 rfl (lv_at hl 0 rfl) ?_
      refine hm_getr X hw lk_6_24 (gl_28 hG) hTx dX6_scanWord_12 ?_
      refine lv_aload_n hx hb dX6_scanWord_15 rfl (lv_at hl 0 rfl) ?_
      refine hm_geti X hw lk_6_34 (gl_28 hG) dX6_scanWord_16 ?_
      obtain ⟨hi, h⟩ := h
      refine hm_iald X hw (gl_34 hG) hi dX6_scanWord_19 ?_
      refine hm_calli hw (hm_runS (rest := []) EvC_cl X hw (cRd_isLetter EvC_cl h) yk_X6_isLetter kw890 rfl hl.1 rfl rfl rfl (Nat.le_of_ble_eq_true rfl) ⟨Nat.le_trans (Nat.le_of_ble_eq_true rfl) hR.1, Nat.le_trans (Nat.le_of_ble_eq_true rfl) hR.2⟩ ⟨Nat.zero_le _, Nat.zero_le _⟩ dX6_scanWord_20) (fun a3 u4 H locs hp hw => ?_)
      obtain ⟨rfl, h⟩ := hp
      refine lv_if_eq (tgt := 39) hx hb dX6_scanWord_23 (by decide) (fun hc => ?_) (fun hc => ?_)
      · have h := Eq.mp (if_pos hc) h
        refine lv_aload_n hx hb dX6_scanWord_39 rfl (lv_at hl 0 rfl) ?_
        refine lv_aload_n hx hb dX6_scanWord_40 rfl (lv_at hl 0 rfl) ?_
        refine hm_calli hw (hm_runV (rest := [_]) EvC_cl X hw (cRd_kindOfWord hG hTx h) yk_X6_kindOfWord kw897 rfl (gl_28 hG) rfl hl.1 rfl rfl rfl (Nat.le_of_ble_eq_true rfl) ⟨Nat.le_trans (Nat.le_of_ble_eq_true rfl) hR.1, Nat.le_trans (Nat.le_of_ble_eq_true rfl) hR.2⟩ ⟨Nat.zero_le _, Nat.zero_le _⟩ dX6_scanWord_41) (fun a5 u6 H locs hp hw => ?_)
        obtain ⟨rfl, h⟩ := hp
        refine hm_puti X hw lk_6_40 (gl_28 hG) rfl rfl dX6_scanWord_44 (fun H locs hw => ?_)
        exact hm_vret X hr hlk hw ⟨_, rfl, h⟩ dX6_scanWord_47
      · have h := Eq.mp (if_neg hc) h
        refine lv_aload_n hx hb dX6_scanWord_26 rfl (lv_at hl 0 rfl) ?_
        refine lv_dup hx hb dX6_scanWord_27 rfl ?_
        refine hm_geti X hw lk_6_34 (gl_28 hG) dX6_scanWord_28 ?_
        refine lv_iconst (v := 1) hx hb dX6_scanWord_31 (by decide) ?_
        refine lv_iadd hx hb dX6_scanWord_32 ?_
        refine hm_puti X hw lk_6_34 (gl_28 hG) rfl rfl dX6_scanWord_33 (fun H locs hw => ?_)
        refine lv_goto (tgt := 0) hx hb dX6_scanWord_36 (by decide) ?_
        exact ih _ h hw (lv_sub hl [0] rfl)

theorem cRd_scanWord {l : Launch} {D : va_G} {cA : Nat → ClassId} {z sz : Nat} {I : HI} {T : HR} {F : HR} {L : HL}  {Q : HI → Prop} (hG : Geo F L) (hTx : F 28 3 = some 34) (h : Rd_scanWord I  Q) : Met l yX6_scanWord (hws0 yX6_scanWord cX6_scanWord 1 none) { frames := 7, cells := 0, slots := 0, locals := 225 } (hPc D cA z EvC (I, J, T, F, L) sz [.ref (z + 28)]) (va_Qv (pIv J T F L Q) (hB D cA z (hA z L sz)) (hA z L sz)) 0 0 (hA z L sz) := by
  refine hm_met (I, J, T, F, L) [.ref (z + 28)] rfl (by decide) (Nat.le_of_ble_eq_true rfl) ?_
  intro p e s m below meth c ls X hr hlk hnm hxt hsz hw hl
  have hl : lv_has ls 1 [(0, .ref (z + 28))] := hl
  have hR : 7 ≤ ({ frames := 7, cells := 0, slots := 0, locals := 225 } : Room).frames ∧ 225 ≤ ({ frames := 7, cells := 0, slots := 0, locals := 225 } : Room).locals := ⟨Nat.le_refl _, Nat.le_refl _⟩
  generalize ({ frames := 7, cells := 0, slots := 0, locals := 225 } : Room) = R at hR ⊢
  clear hsz
  generalize (hA z L sz) = A at hw ⊢
  have hx := X.1
  have hb := X.2.1
  unfold Rd_scanWord at h
  obtain ⟨n2, h⟩ := h
  exact wkRd_scanWord_l0 X hr hlk hR hG hTx  n2 _ h hw (lv_sub hl [0] rfl)

theorem wkRd_next_b167 {I : HI} {T : HR} {F : HR} {L : HL} {t0 : Int32} {Q : HI → Prop} (X : hX p m c s args RX6 cX6_next 1) (hr : meth.sig.returnType = none) (hlk : meth.locks = false) (hR : 8 ≤ R.frames ∧ 245 ≤ R.locals) (hG : Geo F L) (hTx : F 28 3 = some 34)  : ∀ {ls : Array Slot} {H : Heap} {locs : List Loc}, Rd_next_b167 I t0 Q → hW D cA z EvC (I, J, T, F, L) A s H locs → lv_has ls 1 [(0, .ref (z + 28))] → W p l e R s m args below meth c H locs 0 0 (MQ below (va_Qv (pIv J T F L Q) (hB D cA z A) A) args s 0 0 A) (F0 m 167 ls [.int t0, .ref (z + 28)]) := by
  have hx := X.1
  have hb := X.2.1
  intro ls H locs h hw hl
  unfold Rd_next_b167 at h
  refine hm_puti X hw lk_6_40 (gl_28 hG) rfl rfl dX6_next_167 (fun H locs hw => ?_)
  refine lv_aload_n hx hb dX6_next_170 rfl (lv_at hl 0 rfl) ?_
  refine lv_dup hx hb dX6_next_171 rfl ?_
  refine hm_geti X hw lk_6_34 (gl_28 hG) dX6_next_172 ?_
  refine lv_iconst (v := 1) hx hb dX6_next_175 (by decide) ?_
  refine lv_iadd hx hb dX6_next_176 ?_
  refine hm_puti X hw lk_6_34 (gl_28 hG) rfl rfl dX6_next_177 (fun H locs hw => ?_)
  exact hm_vret X hr hlk hw ⟨_, rfl, h⟩ dX6_next_180

theorem wkRd_next_b63 {I : HI} {T : HR} {F : HR} {L : HL} {Q : HI → Prop} (X : hX p m c s args RX6 cX6_next 1) (hr : meth.sig.returnType = none) (hlk : meth.locks = false) (hR : 8 ≤ R.frames ∧ 245 ≤ R.locals) (hG : Geo F L) (hTx : F 28 3 = some 34)  : ∀ {ls : Array Slot} {H : Heap} {locs : List Loc}, Rd_next_b63 I Q → hW D cA z EvC (I, J, T, F, L) A s H locs → lv_has ls 1 [(0, .ref (z + 28))] → W p l e R s m args below meth c H locs 0 0 (MQ below (va_Qv (pIv J T F L Q) (hB D cA z A) A) args s 0 0 A) (F0 m 63 ls []) := by
  have hx := X.1
  have hb := X.2.1
  intro ls H locs h hw hl
  unfold Rd_next_b63 at h
  refine lv_aload_n hx hb dX6_next_63 rfl (lv_at hl 0 rfl) ?_
  refine lv_aload_n hx hb dX6_next_64 rfl (lv_at hl 0 rfl) ?_
  refine hm_geti X hw lk_6_34 (gl_28 hG) dX6_next_65 ?_
  refine hm_puti X hw lk_6_37 (gl_28 hG) rfl rfl dX6_next_68 (fun H locs hw => ?_)
  refine lv_aload_n hx hb dX6_next_71 rfl (lv_at hl 0 rfl) ?_
  refine hm_geti X hw lk_6_34 (gl_28 hG) dX6_next_72 ?_
  refine lv_aload_n hx hb dX6_next_75 rfl (lv_at hl 0 rfl) ?_
  refine hm_geti X hw lk_6_28 (gl_28 hG) dX6_next_76 ?_
  refine lv_icmp_lt (tgt := 92) hx hb dX6_next_79 (by decide) (fun hc => ?_) (fun hc => ?_)
  · have h := Eq.mp (if_pos hc) h
    refine lv_aload_n hx hb dX6_next_92 rfl (lv_at hl 0 rfl) ?_
    refine hm_getr X hw lk_6_24 (gl_28 hG) hTx dX6_next_93 ?_
    refine lv_aload_n hx hb dX6_next_96 rfl (lv_at hl 0 rfl) ?_
    refine hm_geti X hw lk_6_34 (gl_28 hG) dX6_next_97 ?_
    obtain ⟨hi, h⟩ := h
    refine hm_iald X hw (gl_34 hG) hi dX6_next_100 ?_
    refine hm_calli hw (hm_runS (rest := []) EvC_cl X hw (cRd_isLetter EvC_cl h) yk_X6_isLetter kw890 rfl hl.1 rfl rfl rfl (Nat.le_of_ble_eq_true rfl) ⟨Nat.le_trans (Nat.le_of_ble_eq_true rfl) hR.1, Nat.le_trans (Nat.le_of_ble_eq_true rfl) hR.2⟩ ⟨Nat.zero_le _, Nat.zero_le _⟩ dX6_next_101) (fun a1 u2 H locs hp hw => ?_)
    obtain ⟨rfl, h⟩ := hp
    refine lv_if_eq (tgt := 114) hx hb dX6_next_104 (by decide) (fun hc => ?_) (fun hc => ?_)
    · have h := Eq.mp (if_pos hc) h
      refine lv_aload_n hx hb dX6_next_114 rfl (lv_at hl 0 rfl) ?_
      refine hm_getr X hw lk_6_24 (gl_28 hG) hTx dX6_next_115 ?_
      refine lv_aload_n hx hb dX6_next_118 rfl (lv_at hl 0 rfl) ?_
      refine hm_geti X hw lk_6_34 (gl_28 hG) dX6_next_119 ?_
      obtain ⟨hi, h⟩ := h
      refine hm_iald X hw (gl_34 hG) hi dX6_next_122 ?_
      refine hm_calli hw (hm_runS (rest := []) EvC_cl X hw (cRd_isDigit EvC_cl h) yk_X6_isDigit kw950 rfl hl.1 rfl rfl rfl (Nat.le_of_ble_eq_true rfl) ⟨Nat.le_trans (Nat.le_of_ble_eq_true rfl) hR.1, Nat.le_trans (Nat.le_of_ble_eq_true rfl) hR.2⟩ ⟨Nat.zero_le _, Nat.zero_le _⟩ dX6_next_123) (fun a3 u4 H locs hp hw => ?_)
      obtain ⟨rfl, h⟩ := hp
      refine lv_if_eq (tgt := 136) hx hb dX6_next_126 (by decide) (fun hc => ?_) (fun hc => ?_)
      · have h := Eq.mp (if_pos hc) h
        refine lv_aload_n hx hb dX6_next_136 rfl (lv_at hl 0 rfl) ?_
        refine lv_aload_n hx hb dX6_next_137 rfl (lv_at hl 0 rfl) ?_
        refine hm_getr X hw lk_6_24 (gl_28 hG) hTx dX6_next_138 ?_
        refine lv_aload_n hx hb dX6_next_141 rfl (lv_at hl 0 rfl) ?_
        refine hm_geti X hw lk_6_34 (gl_28 hG) dX6_next_142 ?_
        obtain ⟨hi, h⟩ := h
        refine hm_iald X hw (gl_34 hG) hi dX6_next_145 ?_
        refine hm_calli hw (hm_runS (rest := [_]) EvC_cl X hw (cRd_isSign EvC_cl h) yk_X6_isSign kw957 rfl hl.1 rfl rfl rfl (Nat.le_of_ble_eq_true rfl) ⟨Nat.le_trans (Nat.le_of_ble_eq_true rfl) hR.1, Nat.le_trans (Nat.le_of_ble_eq_true rfl) hR.2⟩ ⟨Nat.zero_le _, Nat.zero_le _⟩ dX6_next_146) (fun a5 u6 H locs hp hw => ?_)
        obtain ⟨rfl, h⟩ := hp
        refine lv_if_eq (tgt := 164) hx hb dX6_next_149 (by decide) (fun hc => ?_) (fun hc => ?_)
        · have h := Eq.mp (if_pos hc) h
          refine lv_sipush (v := 129) hx hb dX6_next_164 (by decide) ?_
          exact wkRd_next_b167 X hr hlk hR hG hTx  h hw (lv_sub hl [0] rfl)
        · have h := Eq.mp (if_neg hc) h
          refine lv_aload_n hx hb dX6_next_152 rfl (lv_at hl 0 rfl) ?_
          refine hm_getr X hw lk_6_24 (gl_28 hG) hTx dX6_next_153 ?_
          refine lv_aload_n hx hb dX6_next_156 rfl (lv_at hl 0 rfl) ?_
          refine hm_geti X hw lk_6_34 (gl_28 hG) dX6_next_157 ?_
          obtain ⟨hi, h⟩ := h
          refine hm_iald X hw (gl_34 hG) hi dX6_next_160 ?_
          refine lv_goto (tgt := 167) hx hb dX6_next_161 (by decide) ?_
          exact wkRd_next_b167 X hr hlk hR hG hTx  h hw (lv_sub hl [0] rfl)
      · have h := Eq.mp (if_neg hc) h
        refine lv_aload_n hx hb dX6_next_129 rfl (lv_at hl 0 rfl) ?_
        refine hm_callv hw (hm_runV (rest := []) EvC_cl X hw (cRd_scanNumber EvC_cl hG hTx h) yk_X6_scanNumber kw953 rfl (gl_28 hG) rfl hl.1 rfl rfl rfl (Nat.le_of_ble_eq_true rfl) ⟨Nat.le_trans (Nat.le_of_ble_eq_true rfl) hR.1, Nat.le_trans (Nat.le_of_ble_eq_true rfl) hR.2⟩ ⟨Nat.zero_le _, Nat.zero_le _⟩ dX6_next_130) (fun u8 H locs hp hw => ?_)
        obtain ⟨I7, rfl, h⟩ := hp
        refine lv_goto (tgt := 180) hx hb dX6_next_133 (by decide) ?_
        exact hm_vret X hr hlk hw ⟨_, rfl, h⟩ dX6_next_180
    · have h := Eq.mp (if_neg hc) h
      refine lv_aload_n hx hb dX6_next_107 rfl (lv_at hl 0 rfl) ?_
      refine hm_callv hw (hm_runV (rest := []) EvC_cl X hw (cRd_scanWord hG hTx h) yk_X6_scanWord kw893 rfl (gl_28 hG) rfl hl.1 rfl rfl rfl (Nat.le_of_ble_eq_true rfl) ⟨Nat.le_trans (Nat.le_of_ble_eq_true rfl) hR.1, Nat.le_trans (Nat.le_of_ble_eq_true rfl) hR.2⟩ ⟨Nat.zero_le _, Nat.zero_le _⟩ dX6_next_108) (fun u10 H locs hp hw => ?_)
      obtain ⟨I9, rfl, h⟩ := hp
      refine lv_goto (tgt := 180) hx hb dX6_next_111 (by decide) ?_
      exact hm_vret X hr hlk hw ⟨_, rfl, h⟩ dX6_next_180
  · have h := Eq.mp (if_neg hc) h
    refine lv_aload_n hx hb dX6_next_82 rfl (lv_at hl 0 rfl) ?_
    refine lv_sipush (v := 128) hx hb dX6_next_83 (by decide) ?_
    refine hm_puti X hw lk_6_40 (gl_28 hG) rfl rfl dX6_next_86 (fun H locs hw => ?_)
    refine lv_goto (tgt := 180) hx hb dX6_next_89 (by decide) ?_
    exact hm_vret X hr hlk hw ⟨_, rfl, h⟩ dX6_next_180

theorem wkRd_next_b50 {I : HI} {T : HR} {F : HR} {L : HL} {K11 : HI → Prop} {Q : HI → Prop} (X : hX p m c s args RX6 cX6_next 1) (hr : meth.sig.returnType = none) (hlk : meth.locks = false) (hR : 8 ≤ R.frames ∧ 245 ≤ R.locals) (hG : Geo F L) (hTx : F 28 3 = some 34) (hK11 : ∀ (I : HI) {ls : Array Slot} {H : Heap} {locs : List Loc}, K11 I → hW D cA z EvC (I, J, T, F, L) A s H locs → lv_has ls 1 [(0, .ref (z + 28))] → W p l e R s m args below meth c H locs 0 0 (MQ below (va_Qv (pIv J T F L Q) (hB D cA z A) A) args s 0 0 A) (F0 m 11 ls [])) : ∀ {ls : Array Slot} {H : Heap} {locs : List Loc}, Rd_next_b50 I K11 Q → hW D cA z EvC (I, J, T, F, L) A s H locs → lv_has ls 1 [(0, .ref (z + 28))] → W p l e R s m args below meth c H locs 0 0 (MQ below (va_Qv (pIv J T F L Q) (hB D cA z A) A) args s 0 0 A) (F0 m 50 ls []) := by
  have hx := X.1
  have hb := X.2.1
  intro ls H locs h hw hl
  unfold Rd_next_b50 at h
  refine lv_aload_n hx hb dX6_next_50 rfl (lv_at hl 0 rfl) ?_
  refine lv_dup hx hb dX6_next_51 rfl ?_
  refine hm_geti X hw lk_6_34 (gl_28 hG) dX6_next_52 ?_
  refine lv_iconst (v := 1) hx hb dX6_next_55 (by decide) ?_
  refine lv_iadd hx hb dX6_next_56 ?_
  refine hm_puti X hw lk_6_34 (gl_28 hG) rfl rfl dX6_next_57 (fun H locs hw => ?_)
  refine lv_goto (tgt := 11) hx hb dX6_next_60 (by decide) ?_
  exact hK11 _ h hw (lv_sub hl [0] rfl)

theorem wkRd_next_l11 {T : HR} {F : HR} {L : HL} {Q : HI → Prop} (X : hX p m c s args RX6 cX6_next 1) (hr : meth.sig.returnType = none) (hlk : meth.locks = false) (hR : 8 ≤ R.frames ∧ 245 ≤ R.locals) (hG : Geo F L) (hTx : F 28 3 = some 34)  : ∀ (n : Nat) (I : HI) {ls : Array Slot} {H : Heap} {locs : List Loc}, Rd_next_l11 Q n I → hW D cA z EvC (I, J, T, F, L) A s H locs → lv_has ls 1 [(0, .ref (z + 28))] → W p l e R s m args below meth c H locs 0 0 (MQ below (va_Qv (pIv J T F L Q) (hB D cA z A) A) args s 0 0 A) (F0 m 11 ls []) := by
  have hx := X.1
  have hb := X.2.1
  intro n
  induction n with
  | zero => intro I ls H locs h; exact False.elim h
  | succ n ih =>
    intro I ls H locs h hw hl
    rw [Rd_next_l11] at h
    refine lv_aload_n hx hb dX6_next_11 rfl (lv_at hl 0 rfl) ?_
    refine hm_geti X hw lk_6_34 (gl_28 hG) dX6_next_12 ?_
    refine lv_aload_n hx hb dX6_next_15 rfl (lv_at hl 0 rfl) ?_
    refine hm_geti X hw lk_6_28 (gl_28 hG) dX6_next_16 ?_
    refine lv_icmp_ge (tgt := 63) hx hb dX6_next_19 (by decide) (fun hc => ?_) (fun hc => ?_)
    · have h := Eq.mp (if_pos hc) h
      exact wkRd_next_b63 X hr hlk hR hG hTx  h hw (lv_sub hl [0] rfl)
    · have h := Eq.mp (if_neg hc) h
      refine lv_aload_n hx hb dX6_next_22 rfl (lv_at hl 0 rfl) ?_
      refine hm_getr X hw lk_6_24 (gl_28 hG) hTx dX6_next_23 ?_
      refine lv_aload_n hx hb dX6_next_26 rfl (lv_at hl 0 rfl) ?_
      refine hm_geti X hw lk_6_34 (gl_28 hG) dX6_next_27 ?_
      obtain ⟨hi, h⟩ := h
      refine hm_iald X hw (gl_34 hG) hi dX6_next_30 ?_
      refine lv_bipush (v := 32) hx hb dX6_next_31 (by decide) ?_
      refine lv_icmp_eq (tgt := 50) hx hb dX6_next_33 (by decide) (fun hc => ?_) (fun hc => ?_)
      · have h := Eq.mp (if_pos hc) h
        exact wkRd_next_b50 X hr hlk hR hG hTx ih h hw (lv_sub hl [0] rfl)
      · have h := Eq.mp (if_neg hc) h
        refine lv_aload_n hx hb dX6_next_36 rfl (lv_at hl 0 rfl) ?_
        refine hm_getr X hw lk_6_24 (gl_28 hG) hTx dX6_next_37 ?_
        refine lv_aload_n hx hb dX6_next_40 rfl (lv_at hl 0 rfl) ?_
        refine hm_geti X hw lk_6_34 (gl_28 hG) dX6_next_41 ?_
        obtain ⟨hi, h⟩ := h
        refine hm_iald X hw (gl_34 hG) hi dX6_next_44 ?_
        refine lv_bipush (v := 10) hx hb dX6_next_45 (by decide) ?_
        refine lv_icmp_ne (tgt := 63) hx hb dX6_next_47 (by decide) (fun hc => ?_) (fun hc => ?_)
        · have h := Eq.mp (if_neg hc) h
          exact wkRd_next_b63 X hr hlk hR hG hTx  h hw (lv_sub hl [0] rfl)
        · have h := Eq.mp (if_pos hc) h
          exact wkRd_next_b50 X hr hlk hR hG hTx ih h hw (lv_sub hl [0] rfl)

theorem cRd_next {l : Launch} {D : va_G} {cA : Nat → ClassId} {z sz : Nat} {I : HI} {T : HR} {F : HR} {L : HL}  {Q : HI → Prop} (hG : Geo F L) (hTx : F 28 3 = some 34) (h : Rd_next I  Q) : Met l yX6_next (hws0 yX6_next cX6_next 1 none) { frames := 8, cells := 0, slots := 0, locals := 245 } (hPc D cA z EvC (I, J, T, F, L) sz [.ref (z + 28)]) (va_Qv (pIv J T F L Q) (hB D cA z (hA z L sz)) (hA z L sz)) 0 0 (hA z L sz) := by
  refine hm_met (I, J, T, F, L) [.ref (z + 28)] rfl (by decide) (Nat.le_of_ble_eq_true rfl) ?_
  intro p e s m below meth c ls X hr hlk hnm hxt hsz hw hl
  have hl : lv_has ls 1 [(0, .ref (z + 28))] := hl
  have hR : 8 ≤ ({ frames := 8, cells := 0, slots := 0, locals := 245 } : Room).frames ∧ 245 ≤ ({ frames := 8, cells := 0, slots := 0, locals := 245 } : Room).locals := ⟨Nat.le_refl _, Nat.le_refl _⟩
  generalize ({ frames := 8, cells := 0, slots := 0, locals := 245 } : Room) = R at hR ⊢
  clear hsz
  generalize (hA z L sz) = A at hw ⊢
  have hx := X.1
  have hb := X.2.1
  unfold Rd_next at h
  refine lv_aload_n hx hb dX6_next_0 rfl (lv_at hl 0 rfl) ?_
  refine hm_geti X hw lk_6_40 (gl_28 hG) dX6_next_1 ?_
  refine lv_sipush (v := 130) hx hb dX6_next_4 (by decide) ?_
  refine lv_icmp_ne (tgt := 11) hx hb dX6_next_7 (by decide) (fun hc => ?_) (fun hc => ?_)
  · have h := Eq.mp (if_neg hc) h
    obtain ⟨n2, h⟩ := h
    exact wkRd_next_l11 X hr hlk hR hG hTx  n2 _ h hw (lv_sub hl [0] rfl)
  · have h := Eq.mp (if_pos hc) h
    exact hm_vret X hr hlk hw ⟨_, rfl, h⟩ dX6_next_10

theorem cRd_expect {l : Launch} {D : va_G} {cA : Nat → ClassId} {z sz : Nat} {I : HI} {T : HR} {F : HR} {L : HL} {x1 : Int32} {Q : HI → Prop} (hG : Geo F L) (hTx : F 28 3 = some 34) (h : Rd_expect I x1 Q) : Met l yX6_expect (hws0 yX6_expect cX6_expect 2 none) { frames := 9, cells := 0, slots := 0, locals := 265 } (hPc D cA z EvC (I, J, T, F, L) sz [.ref (z + 28), .int x1]) (va_Qv (pIv J T F L Q) (hB D cA z (hA z L sz)) (hA z L sz)) 0 0 (hA z L sz) := by
  refine hm_met (I, J, T, F, L) [.ref (z + 28), .int x1] rfl (by decide) (Nat.le_of_ble_eq_true rfl) ?_
  intro p e s m below meth c ls X hr hlk hnm hxt hsz hw hl
  have hl : lv_has ls 2 [(0, .ref (z + 28)), (1, .int x1)] := hl
  have hR : 9 ≤ ({ frames := 9, cells := 0, slots := 0, locals := 265 } : Room).frames ∧ 265 ≤ ({ frames := 9, cells := 0, slots := 0, locals := 265 } : Room).locals := ⟨Nat.le_refl _, Nat.le_refl _⟩
  generalize ({ frames := 9, cells := 0, slots := 0, locals := 265 } : Room) = R at hR ⊢
  clear hsz
  generalize (hA z L sz) = A at hw ⊢
  have hx := X.1
  have hb := X.2.1
  unfold Rd_expect at h
  refine lv_aload_n hx hb dX6_expect_0 rfl (lv_at hl 0 rfl) ?_
  refine hm_geti X hw lk_6_40 (gl_28 hG) dX6_expect_1 ?_
  refine lv_iload_n hx hb dX6_expect_4 rfl (lv_at hl 1 rfl) ?_
  refine lv_icmp_ne (tgt := 15) hx hb dX6_expect_5 (by decide) (fun hc => ?_) (fun hc => ?_)
  · have h := Eq.mp (if_neg hc) h
    refine lv_aload_n hx hb dX6_expect_15 rfl (lv_at hl 0 rfl) ?_
    refine lv_iconst (v := 1) hx hb dX6_expect_16 (by decide) ?_
    refine hm_callv hw (hm_runV (rest := []) EvC_cl X hw (cRd_stop EvC_cl hG hTx h) yk_X6_stop kw960 rfl (gl_28 hG) rfl hl.1 rfl rfl rfl (Nat.le_of_ble_eq_true rfl) ⟨Nat.le_trans (Nat.le_of_ble_eq_true rfl) hR.1, Nat.le_trans (Nat.le_of_ble_eq_true rfl) hR.2⟩ ⟨Nat.zero_le _, Nat.zero_le _⟩ dX6_expect_17) (fun u2 H locs hp hw => ?_)
    obtain ⟨I1, rfl, h⟩ := hp
    exact hm_vret X hr hlk hw ⟨_, rfl, h⟩ dX6_expect_20
  · have h := Eq.mp (if_pos hc) h
    refine lv_aload_n hx hb dX6_expect_8 rfl (lv_at hl 0 rfl) ?_
    refine hm_callv hw (hm_runV (rest := []) EvC_cl X hw (cRd_next hG hTx h) yk_X6_next kw886 rfl (gl_28 hG) rfl hl.1 rfl rfl rfl (Nat.le_of_ble_eq_true rfl) ⟨Nat.le_trans (Nat.le_of_ble_eq_true rfl) hR.1, Nat.le_trans (Nat.le_of_ble_eq_true rfl) hR.2⟩ ⟨Nat.zero_le _, Nat.zero_le _⟩ dX6_expect_9) (fun u4 H locs hp hw => ?_)
    obtain ⟨I3, rfl, h⟩ := hp
    refine lv_goto (tgt := 20) hx hb dX6_expect_12 (by decide) ?_
    exact hm_vret X hr hlk hw ⟨_, rfl, h⟩ dX6_expect_20

theorem wkRd_readNumber_b26 {I : HI} {T : HR} {F : HR} {L : HL} {Q : Int32 → HI → Prop} (X : hX p m c s args RX6 cX6_readNumber 3) (hr : meth.sig.returnType = (some .int)) (hlk : meth.locks = false) (hR : 9 ≤ R.frames ∧ 265 ≤ R.locals) (hG : Geo F L) (hTx : F 28 3 = some 34)  : ∀ {ls : Array Slot} {H : Heap} {locs : List Loc}, Rd_readNumber_b26 I Q → hW D cA z EvC (I, J, T, F, L) A s H locs → lv_has ls 3 [(0, .ref (z + 28))] → W p l e R s m args below meth c H locs 0 0 (MQ below (va_Qi (pI J T F L Q) (hB D cA z A) A) args s 0 0 A) (F0 m 26 ls []) := by
  have hx := X.1
  have hb := X.2.1
  intro ls H locs h hw hl
  unfold Rd_readNumber_b26 at h
  refine lv_aload_n hx hb dX6_readNumber_26 rfl (lv_at hl 0 rfl) ?_
  refine hm_geti X hw lk_6_40 (gl_28 hG) dX6_readNumber_27 ?_
  refine lv_sipush (v := 131) hx hb dX6_readNumber_30 (by decide) ?_
  refine lv_icmp_ne (tgt := 44) hx hb dX6_readNumber_33 (by decide) (fun hc => ?_) (fun hc => ?_)
  · have h := Eq.mp (if_neg hc) h
    refine lv_aload_n hx hb dX6_readNumber_44 rfl (lv_at hl 0 rfl) ?_
    refine lv_aload_n hx hb dX6_readNumber_45 rfl (lv_at hl 0 rfl) ?_
    refine hm_geti X hw lk_6_40 (gl_28 hG) dX6_readNumber_46 ?_
    refine lv_sipush (v := 132) hx hb dX6_readNumber_49 (by decide) ?_
    refine lv_icmp_ne (tgt := 59) hx hb dX6_readNumber_52 (by decide) (fun hc => ?_) (fun hc => ?_)
    · have h := Eq.mp (if_neg hc) h
      refine lv_iconst (v := 1) hx hb dX6_readNumber_59 (by decide) ?_
      refine hm_callv hw (hm_runV (rest := []) EvC_cl X hw (cRd_stop EvC_cl hG hTx h) yk_X6_stop kw960 rfl (gl_28 hG) rfl hl.1 rfl rfl rfl (Nat.le_of_ble_eq_true rfl) ⟨Nat.le_trans (Nat.le_of_ble_eq_true rfl) hR.1, Nat.le_trans (Nat.le_of_ble_eq_true rfl) hR.2⟩ ⟨Nat.zero_le _, Nat.zero_le _⟩ dX6_readNumber_60) (fun u2 H locs hp hw => ?_)
      obtain ⟨I1, rfl, h⟩ := hp
      refine lv_iconst (v := 0) hx hb dX6_readNumber_63 (by decide) ?_
      exact hm_iret X hr hlk hw ⟨_, rfl, h⟩ dX6_readNumber_64
    · have h := Eq.mp (if_pos hc) h
      refine lv_iconst (v := 2) hx hb dX6_readNumber_55 (by decide) ?_
      refine lv_goto (tgt := 60) hx hb dX6_readNumber_56 (by decide) ?_
      refine hm_callv hw (hm_runV (rest := []) EvC_cl X hw (cRd_stop EvC_cl hG hTx h) yk_X6_stop kw960 rfl (gl_28 hG) rfl hl.1 rfl rfl rfl (Nat.le_of_ble_eq_true rfl) ⟨Nat.le_trans (Nat.le_of_ble_eq_true rfl) hR.1, Nat.le_trans (Nat.le_of_ble_eq_true rfl) hR.2⟩ ⟨Nat.zero_le _, Nat.zero_le _⟩ dX6_readNumber_60) (fun u4 H locs hp hw => ?_)
      obtain ⟨I3, rfl, h⟩ := hp
      refine lv_iconst (v := 0) hx hb dX6_readNumber_63 (by decide) ?_
      exact hm_iret X hr hlk hw ⟨_, rfl, h⟩ dX6_readNumber_64
  · have h := Eq.mp (if_pos hc) h
    refine lv_aload_n hx hb dX6_readNumber_36 rfl (lv_at hl 0 rfl) ?_
    refine lv_iconst (v := 4) hx hb dX6_readNumber_37 (by decide) ?_
    refine hm_callv hw (hm_runV (rest := []) EvC_cl X hw (cRd_stop EvC_cl hG hTx h) yk_X6_stop kw960 rfl (gl_28 hG) rfl hl.1 rfl rfl rfl (Nat.le_of_ble_eq_true rfl) ⟨Nat.le_trans (Nat.le_of_ble_eq_true rfl) hR.1, Nat.le_trans (Nat.le_of_ble_eq_true rfl) hR.2⟩ ⟨Nat.zero_le _, Nat.zero_le _⟩ dX6_readNumber_38) (fun u6 H locs hp hw => ?_)
    obtain ⟨I5, rfl, h⟩ := hp
    refine lv_goto (tgt := 63) hx hb dX6_readNumber_41 (by decide) ?_
    refine lv_iconst (v := 0) hx hb dX6_readNumber_63 (by decide) ?_
    exact hm_iret X hr hlk hw ⟨_, rfl, h⟩ dX6_readNumber_64

theorem cRd_readNumber {l : Launch} {D : va_G} {cA : Nat → ClassId} {z sz : Nat} {I : HI} {T : HR} {F : HR} {L : HL} {x1 : Int32} {Q : Int32 → HI → Prop} (hG : Geo F L) (hTx : F 28 3 = some 34) (h : Rd_readNumber I x1 Q) : Met l yX6_readNumber (hws0 yX6_readNumber cX6_readNumber 3 (some .int)) { frames := 9, cells := 0, slots := 0, locals := 265 } (hPc D cA z EvC (I, J, T, F, L) sz [.ref (z + 28), .int x1]) (va_Qi (pI J T F L Q) (hB D cA z (hA z L sz)) (hA z L sz)) 0 0 (hA z L sz) := by
  refine hm_met (I, J, T, F, L) [.ref (z + 28), .int x1] rfl (by decide) (Nat.le_of_ble_eq_true rfl) ?_
  intro p e s m below meth c ls X hr hlk hnm hxt hsz hw hl
  have hl : lv_has ls 3 [(0, .ref (z + 28)), (1, .int x1)] := hl
  have hR : 9 ≤ ({ frames := 9, cells := 0, slots := 0, locals := 265 } : Room).frames ∧ 265 ≤ ({ frames := 9, cells := 0, slots := 0, locals := 265 } : Room).locals := ⟨Nat.le_refl _, Nat.le_refl _⟩
  generalize ({ frames := 9, cells := 0, slots := 0, locals := 265 } : Room) = R at hR ⊢
  clear hsz
  generalize (hA z L sz) = A at hw ⊢
  have hx := X.1
  have hb := X.2.1
  unfold Rd_readNumber at h
  refine lv_aload_n hx hb dX6_readNumber_0 rfl (lv_at hl 0 rfl) ?_
  refine hm_geti X hw lk_6_43 (gl_28 hG) dX6_readNumber_1 ?_
  refine lv_istore_n (lv' := [(2, _), (0, _), (1, _)]) hx hb dX6_readNumber_4 rfl hl (by decide) rfl (fun ls hl => ?_)
  refine lv_aload_n hx hb dX6_readNumber_5 rfl (lv_at hl 1 rfl) ?_
  refine hm_geti X hw lk_6_40 (gl_28 hG) dX6_readNumber_6 ?_
  refine lv_sipush (v := 131) hx hb dX6_readNumber_9 (by decide) ?_
  refine lv_icmp_ne (tgt := 26) hx hb dX6_readNumber_12 (by decide) (fun hc => ?_) (fun hc => ?_)
  · have h := Eq.mp (if_neg hc) h
    exact wkRd_readNumber_b26 X hr hlk hR hG hTx  h hw (lv_sub hl [1] rfl)
  · have h := Eq.mp (if_pos hc) h
    refine lv_iload_n hx hb dX6_readNumber_15 rfl (lv_at hl 0 rfl) ?_
    refine lv_iload_n hx hb dX6_readNumber_16 rfl (lv_at hl 2 rfl) ?_
    refine lv_icmp_ge (tgt := 26) hx hb dX6_readNumber_17 (by decide) (fun hc => ?_) (fun hc => ?_)
    · have h := Eq.mp (if_pos hc) h
      exact wkRd_readNumber_b26 X hr hlk hR hG hTx  h hw (lv_sub hl [1] rfl)
    · have h := Eq.mp (if_neg hc) h
      refine lv_aload_n hx hb dX6_readNumber_20 rfl (lv_at hl 1 rfl) ?_
      refine hm_callv hw (hm_runV (rest := []) EvC_cl X hw (cRd_next hG hTx h) yk_X6_next kw886 rfl (gl_28 hG) rfl hl.1 rfl rfl rfl (Nat.le_of_ble_eq_true rfl) ⟨Nat.le_trans (Nat.le_of_ble_eq_true rfl) hR.1, Nat.le_trans (Nat.le_of_ble_eq_true rfl) hR.2⟩ ⟨Nat.zero_le _, Nat.zero_le _⟩ dX6_readNumber_21) (fun u8 H locs hp hw => ?_)
      obtain ⟨I7, rfl, h⟩ := hp
      refine lv_iload_n hx hb dX6_readNumber_24 rfl (lv_at hl 0 rfl) ?_
      exact hm_iret X hr hlk hw ⟨_, rfl, h⟩ dX6_readNumber_25

theorem wkRd_readPart_b68 {I : HI} {T : HR} {F : HR} {L : HL} {Q : Int32 → HI → Prop} {RO : HI → Int32 → (Int32 → HI → Prop) → Prop} {rf rl : Nat} (hRO : ∀ {l : Launch} {D : va_G} {cA : Nat → ClassId} {z sz : Nat} {J : HJ} {I : HI} {T : HR} {F : HR} {L : HL} {y1 : Int32} {Q : Int32 → HI → Prop}, (Geo F L) → (F 28 3 = some 34) → RO I y1 Q → Met l yX6_readOr (hws0 yX6_readOr cX6_readOr 4 (some .int)) { frames := rf, cells := 0, slots := 0, locals := rl } (hPc D cA z EvC (I, J, T, F, L) sz [.ref (z + 28), .int y1]) (va_Qi (pI J T F L Q) (hB D cA z (hA z L sz)) (hA z L sz)) 0 0 (hA z L sz)) (X : hX p m c s args RX6 cX6_readPart 4) (hr : meth.sig.returnType = (some .int)) (hlk : meth.locks = false) (hR : rf + 10 ≤ R.frames ∧ rl + 287 ≤ R.locals) (hG : Geo F L) (hTx : F 28 3 = some 34)  : ∀ {ls : Array Slot} {H : Heap} {locs : List Loc}, Rd_readPart_b68 RO I Q → hW D cA z EvC (I, J, T, F, L) A s H locs → lv_has ls 4 [(0, .ref (z + 28))] → W p l e R s m args below meth c H locs 0 0 (MQ below (va_Qi (pI J T F L Q) (hB D cA z A) A) args s 0 0 A) (F0 m 68 ls []) := by
  have hx := X.1
  have hb := X.2.1
  intro ls H locs h hw hl
  unfold Rd_readPart_b68 at h
  refine lv_aload_n hx hb dX6_readPart_68 rfl (lv_at hl 0 rfl) ?_
  refine lv_aload_n hx hb dX6_readPart_69 rfl (lv_at hl 0 rfl) ?_
  refine hm_calli hw (hm_runV (rest := [_]) EvC_cl X hw (cRd_isWord EvC_cl hG hTx h) yk_X6_isWord kw980 rfl (gl_28 hG) rfl hl.1 rfl rfl rfl (Nat.le_of_ble_eq_true rfl) ⟨Nat.le_trans (show 0 + 1 ≤ rf + 10 by omega) hR.1, Nat.le_trans (show 8 + (1 + 11) + (0) ≤ rl + 287 by omega) hR.2⟩ ⟨Nat.zero_le _, Nat.zero_le _⟩ dX6_readPart_70) (fun a3 u4 H locs hp hw => ?_)
  obtain ⟨rfl, h⟩ := hp
  refine lv_if_eq (tgt := 80) hx hb dX6_readPart_73 (by decide) (fun hc => ?_) (fun hc => ?_)
  · have h := Eq.mp (if_pos hc) h
    refine lv_iconst (v := 1) hx hb dX6_readPart_80 (by decide) ?_
    refine hm_callv hw (hm_runV (rest := []) EvC_cl X hw (cRd_stop EvC_cl hG hTx h) yk_X6_stop kw960 rfl (gl_28 hG) rfl hl.1 rfl rfl rfl (Nat.le_of_ble_eq_true rfl) ⟨Nat.le_trans (show 0 + 1 ≤ rf + 10 by omega) hR.1, Nat.le_trans (show 8 + (2 + 11) + (0) ≤ rl + 287 by omega) hR.2⟩ ⟨Nat.zero_le _, Nat.zero_le _⟩ dX6_readPart_81) (fun u6 H locs hp hw => ?_)
    obtain ⟨I5, rfl, h⟩ := hp
    refine lv_iconst (v := 0) hx hb dX6_readPart_84 (by decide) ?_
    exact hm_iret X hr hlk hw ⟨_, rfl, h⟩ dX6_readPart_85
  · have h := Eq.mp (if_neg hc) h
    refine lv_iconst (v := 3) hx hb dX6_readPart_76 (by decide) ?_
    refine lv_goto (tgt := 81) hx hb dX6_readPart_77 (by decide) ?_
    refine hm_callv hw (hm_runV (rest := []) EvC_cl X hw (cRd_stop EvC_cl hG hTx h) yk_X6_stop kw960 rfl (gl_28 hG) rfl hl.1 rfl rfl rfl (Nat.le_of_ble_eq_true rfl) ⟨Nat.le_trans (show 0 + 1 ≤ rf + 10 by omega) hR.1, Nat.le_trans (show 8 + (2 + 11) + (0) ≤ rl + 287 by omega) hR.2⟩ ⟨Nat.zero_le _, Nat.zero_le _⟩ dX6_readPart_81) (fun u8 H locs hp hw => ?_)
    obtain ⟨I7, rfl, h⟩ := hp
    refine lv_iconst (v := 0) hx hb dX6_readPart_84 (by decide) ?_
    exact hm_iret X hr hlk hw ⟨_, rfl, h⟩ dX6_readPart_85

theorem cRd_readPart {l : Launch} {D : va_G} {cA : Nat → ClassId} {z sz : Nat} {RO : HI → Int32 → (Int32 → HI → Prop) → Prop} {rf rl : Nat} (hRO : ∀ {l : Launch} {D : va_G} {cA : Nat → ClassId} {z sz : Nat} {J : HJ} {I : HI} {T : HR} {F : HR} {L : HL} {y1 : Int32} {Q : Int32 → HI → Prop}, (Geo F L) → (F 28 3 = some 34) → RO I y1 Q → Met l yX6_readOr (hws0 yX6_readOr cX6_readOr 4 (some .int)) { frames := rf, cells := 0, slots := 0, locals := rl } (hPc D cA z EvC (I, J, T, F, L) sz [.ref (z + 28), .int y1]) (va_Qi (pI J T F L Q) (hB D cA z (hA z L sz)) (hA z L sz)) 0 0 (hA z L sz)) {I : HI} {T : HR} {F : HR} {L : HL} {x1 : Int32} {Q : Int32 → HI → Prop} (hG : Geo F L) (hTx : F 28 3 = some 34) (h : Rd_readPart RO I x1 Q) : Met l yX6_readPart (hws0 yX6_readPart cX6_readPart 4 (some .int)) { frames := rf + 10, cells := 0, slots := 0, locals := rl + 287 } (hPc D cA z EvC (I, J, T, F, L) sz [.ref (z + 28), .int x1]) (va_Qi (pI J T F L Q) (hB D cA z (hA z L sz)) (hA z L sz)) 0 0 (hA z L sz) := by
  refine hm_met (I, J, T, F, L) [.ref (z + 28), .int x1] rfl (by decide) (Nat.le_of_ble_eq_true rfl) ?_
  intro p e s m below meth c ls X hr hlk hnm hxt hsz hw hl
  have hl : lv_has ls 4 [(0, .ref (z + 28)), (1, .int x1)] := hl
  have hR : rf + 10 ≤ ({ frames := rf + 10, cells := 0, slots := 0, locals := rl + 287 } : Room).frames ∧ rl + 287 ≤ ({ frames := rf + 10, cells := 0, slots := 0, locals := rl + 287 } : Room).locals := ⟨Nat.le_refl _, Nat.le_refl _⟩
  generalize ({ frames := rf + 10, cells := 0, slots := 0, locals := rl + 287 } : Room) = R at hR ⊢
  clear hsz
  generalize (hA z L sz) = A at hw ⊢
  have hx := X.1
  have hb := X.2.1
  unfold Rd_readPart at h
  refine lv_aload_n hx hb dX6_readPart_0 rfl (lv_at hl 0 rfl) ?_
  refine hm_geti X hw lk_6_40 (gl_28 hG) dX6_readPart_1 ?_
  refine lv_istore_n (lv' := [(2, _), (0, _), (1, _)]) hx hb dX6_readPart_4 rfl hl (by decide) rfl (fun ls hl => ?_)
  refine lv_iload_n hx hb dX6_readPart_5 rfl (lv_at hl 0 rfl) ?_
  refine lv_bipush (v := 40) hx hb dX6_readPart_6 (by decide) ?_
  refine lv_icmp_ne (tgt := 31) hx hb dX6_readPart_8 (by decide) (fun hc => ?_) (fun hc => ?_)
  · have h := Eq.mp (if_neg hc) h
    refine lv_aload_n hx hb dX6_readPart_31 rfl (lv_at hl 1 rfl) ?_
    refine hm_calli hw (hm_runV (rest := []) EvC_cl X hw (cRd_isNumber EvC_cl hG hTx h) yk_X6_isNumber kw976 rfl (gl_28 hG) rfl hl.1 rfl rfl rfl (Nat.le_of_ble_eq_true rfl) ⟨Nat.le_trans (show 0 + 1 ≤ rf + 10 by omega) hR.1, Nat.le_trans (show 8 + (1 + 11) + (0) ≤ rl + 287 by omega) hR.2⟩ ⟨Nat.zero_le _, Nat.zero_le _⟩ dX6_readPart_32) (fun a1 u2 H locs hp hw => ?_)
    obtain ⟨rfl, h⟩ := hp
    refine lv_if_eq (tgt := 54) hx hb dX6_readPart_35 (by decide) (fun hc => ?_) (fun hc => ?_)
    · have h := Eq.mp (if_pos hc) h
      refine lv_iload_n hx hb dX6_readPart_54 rfl (lv_at hl 0 rfl) ?_
      refine lv_sipush (v := 144) hx hb dX6_readPart_55 (by decide) ?_
      refine lv_icmp_lt (tgt := 68) hx hb dX6_readPart_58 (by decide) (fun hc => ?_) (fun hc => ?_)
      · have h := Eq.mp (if_pos hc) h
        exact wkRd_readPart_b68 hRO X hr hlk hR hG hTx  h hw (lv_sub hl [1] rfl)
      · have h := Eq.mp (if_neg hc) h
        refine lv_iload_n hx hb dX6_readPart_61 rfl (lv_at hl 0 rfl) ?_
        refine lv_sipush (v := 150) hx hb dX6_readPart_62 (by decide) ?_
        refine lv_icmp_le (tgt := 86) hx hb dX6_readPart_65 (by decide) (fun hc => ?_) (fun hc => ?_)
        · have h := Eq.mp (if_pos hc) h
          refine lv_aload_n hx hb dX6_readPart_86 rfl (lv_at hl 1 rfl) ?_
          refine hm_callv hw (hm_runV (rest := []) EvC_cl X hw (cRd_next hG hTx h) yk_X6_next kw886 rfl (gl_28 hG) rfl hl.1 rfl rfl rfl (Nat.le_of_ble_eq_true rfl) ⟨Nat.le_trans (show 8 + 1 ≤ rf + 10 by omega) hR.1, Nat.le_trans (show 8 + (1 + 11) + (245) ≤ rl + 287 by omega) hR.2⟩ ⟨Nat.zero_le _, Nat.zero_le _⟩ dX6_readPart_87) (fun u10 H locs hp hw => ?_)
          obtain ⟨I9, rfl, h⟩ := hp
          refine lv_aload_n hx hb dX6_readPart_90 rfl (lv_at hl 1 rfl) ?_
          refine lv_iload_n hx hb dX6_readPart_91 rfl (lv_at hl 0 rfl) ?_
          refine lv_iload_n hx hb dX6_readPart_92 rfl (lv_at hl 0 rfl) ?_
          refine lv_sipush (v := 147) hx hb dX6_readPart_93 (by decide) ?_
          refine lv_icmp_eq (tgt := 106) hx hb dX6_readPart_96 (by decide) (fun hc => ?_) (fun hc => ?_)
          · have h := Eq.mp (if_pos hc) h
            refine lv_aload_n hx hb dX6_readPart_106 rfl (lv_at hl 1 rfl) ?_
            refine lv_aload_n hx hb dX6_readPart_107 rfl (lv_at hl 1 rfl) ?_
            refine hm_geti X hw lk_6_31 (gl_28 hG) dX6_readPart_108 ?_
            refine hm_calli hw (hm_runV (rest := [_, _]) EvC_cl X hw (cRd_readNumber hG hTx h) yk_X6_readNumber kw968 rfl (gl_28 hG) rfl hl.1 rfl rfl rfl (Nat.le_of_ble_eq_true rfl) ⟨Nat.le_trans (show 9 + 1 ≤ rf + 10 by omega) hR.1, Nat.le_trans (show 8 + (3 + 11) + (265) ≤ rl + 287 by omega) hR.2⟩ ⟨Nat.zero_le _, Nat.zero_le _⟩ dX6_readPart_111) (fun a11 u13 H locs hp hw => ?_)
            obtain ⟨I12, rfl, h⟩ := hp
            refine lv_goto (tgt := 118) hx hb dX6_readPart_114 (by decide) ?_
            refine lv_iconst (v := 0) hx hb dX6_readPart_118 (by decide) ?_
            refine hm_calli hw (hm_runV (rest := []) EvC_cl X hw (cRd_add EvC_cl hG hTx h) yk_X6_add kw1012 rfl (gl_28 hG) rfl hl.1 rfl rfl rfl (Nat.le_of_ble_eq_true rfl) ⟨Nat.le_trans (show 0 + 1 ≤ rf + 10 by omega) hR.1, Nat.le_trans (show 8 + (4 + 11) + (0) ≤ rl + 287 by omega) hR.2⟩ ⟨Nat.zero_le _, Nat.zero_le _⟩ dX6_readPart_119) (fun a14 u16 H locs hp hw => ?_)
            obtain ⟨I15, rfl, h⟩ := hp
            exact hm_iret X hr hlk hw ⟨_, rfl, h⟩ dX6_readPart_122
          · have h := Eq.mp (if_neg hc) h
            refine lv_iload_n hx hb dX6_readPart_99 rfl (lv_at hl 0 rfl) ?_
            refine lv_sipush (v := 148) hx hb dX6_readPart_100 (by decide) ?_
            refine lv_icmp_ne (tgt := 117) hx hb dX6_readPart_103 (by decide) (fun hc => ?_) (fun hc => ?_)
            · have h := Eq.mp (if_neg hc) h
              refine lv_iconst (v := 0) hx hb dX6_readPart_117 (by decide) ?_
              refine lv_iconst (v := 0) hx hb dX6_readPart_118 (by decide) ?_
              refine hm_calli hw (hm_runV (rest := []) EvC_cl X hw (cRd_add EvC_cl hG hTx h) yk_X6_add kw1012 rfl (gl_28 hG) rfl hl.1 rfl rfl rfl (Nat.le_of_ble_eq_true rfl) ⟨Nat.le_trans (show 0 + 1 ≤ rf + 10 by omega) hR.1, Nat.le_trans (show 8 + (4 + 11) + (0) ≤ rl + 287 by omega) hR.2⟩ ⟨Nat.zero_le _, Nat.zero_le _⟩ dX6_readPart_119) (fun a17 u19 H locs hp hw => ?_)
              obtain ⟨I18, rfl, h⟩ := hp
              exact hm_iret X hr hlk hw ⟨_, rfl, h⟩ dX6_readPart_122
            · have h := Eq.mp (if_pos hc) h
              refine lv_aload_n hx hb dX6_readPart_106 rfl (lv_at hl 1 rfl) ?_
              refine lv_aload_n hx hb dX6_readPart_107 rfl (lv_at hl 1 rfl) ?_
              refine hm_geti X hw lk_6_31 (gl_28 hG) dX6_readPart_108 ?_
              refine hm_calli hw (hm_runV (rest := [_, _]) EvC_cl X hw (cRd_readNumber hG hTx h) yk_X6_readNumber kw968 rfl (gl_28 hG) rfl hl.1 rfl rfl rfl (Nat.le_of_ble_eq_true rfl) ⟨Nat.le_trans (show 9 + 1 ≤ rf + 10 by omega) hR.1, Nat.le_trans (show 8 + (3 + 11) + (265) ≤ rl + 287 by omega) hR.2⟩ ⟨Nat.zero_le _, Nat.zero_le _⟩ dX6_readPart_111) (fun a20 u22 H locs hp hw => ?_)
              obtain ⟨I21, rfl, h⟩ := hp
              refine lv_goto (tgt := 118) hx hb dX6_readPart_114 (by decide) ?_
              refine lv_iconst (v := 0) hx hb dX6_readPart_118 (by decide) ?_
              refine hm_calli hw (hm_runV (rest := []) EvC_cl X hw (cRd_add EvC_cl hG hTx h) yk_X6_add kw1012 rfl (gl_28 hG) rfl hl.1 rfl rfl rfl (Nat.le_of_ble_eq_true rfl) ⟨Nat.le_trans (show 0 + 1 ≤ rf + 10 by omega) hR.1, Nat.le_trans (show 8 + (4 + 11) + (0) ≤ rl + 287 by omega) hR.2⟩ ⟨Nat.zero_le _, Nat.zero_le _⟩ dX6_readPart_119) (fun a23 u25 H locs hp hw => ?_)
              obtain ⟨I24, rfl, h⟩ := hp
              exact hm_iret X hr hlk hw ⟨_, rfl, h⟩ dX6_readPart_122
        · have h := Eq.mp (if_neg hc) h
          exact wkRd_readPart_b68 hRO X hr hlk hR hG hTx  h hw (lv_sub hl [1] rfl)
    · have h := Eq.mp (if_neg hc) h
      refine lv_aload_n hx hb dX6_readPart_38 rfl (lv_at hl 1 rfl) ?_
      refine lv_sipush (v := 131) hx hb dX6_readPart_39 (by decide) ?_
      refine lv_aload_n hx hb dX6_readPart_42 rfl (lv_at hl 1 rfl) ?_
      refine lv_sipush (v := 1000) hx hb dX6_readPart_43 (by decide) ?_
      refine hm_calli hw (hm_runV (rest := [_, _]) EvC_cl X hw (cRd_readNumber hG hTx h) yk_X6_readNumber kw968 rfl (gl_28 hG) rfl hl.1 rfl rfl rfl (Nat.le_of_ble_eq_true rfl) ⟨Nat.le_trans (show 9 + 1 ≤ rf + 10 by omega) hR.1, Nat.le_trans (show 8 + (3 + 11) + (265) ≤ rl + 287 by omega) hR.2⟩ ⟨Nat.zero_le _, Nat.zero_le _⟩ dX6_readPart_46) (fun a26 u28 H locs hp hw => ?_)
      obtain ⟨I27, rfl, h⟩ := hp
      refine lv_iconst (v := 0) hx hb dX6_readPart_49 (by decide) ?_
      refine hm_calli hw (hm_runV (rest := []) EvC_cl X hw (cRd_add EvC_cl hG hTx h) yk_X6_add kw1012 rfl (gl_28 hG) rfl hl.1 rfl rfl rfl (Nat.le_of_ble_eq_true rfl) ⟨Nat.le_trans (show 0 + 1 ≤ rf + 10 by omega) hR.1, Nat.le_trans (show 8 + (4 + 11) + (0) ≤ rl + 287 by omega) hR.2⟩ ⟨Nat.zero_le _, Nat.zero_le _⟩ dX6_readPart_50) (fun a29 u31 H locs hp hw => ?_)
      obtain ⟨I30, rfl, h⟩ := hp
      exact hm_iret X hr hlk hw ⟨_, rfl, h⟩ dX6_readPart_53
  · have h := Eq.mp (if_pos hc) h
    refine lv_aload_n hx hb dX6_readPart_11 rfl (lv_at hl 1 rfl) ?_
    refine hm_callv hw (hm_runV (rest := []) EvC_cl X hw (cRd_next hG hTx h) yk_X6_next kw886 rfl (gl_28 hG) rfl hl.1 rfl rfl rfl (Nat.le_of_ble_eq_true rfl) ⟨Nat.le_trans (show 8 + 1 ≤ rf + 10 by omega) hR.1, Nat.le_trans (show 8 + (1 + 11) + (245) ≤ rl + 287 by omega) hR.2⟩ ⟨Nat.zero_le _, Nat.zero_le _⟩ dX6_readPart_12) (fun u33 H locs hp hw => ?_)
    obtain ⟨I32, rfl, h⟩ := hp
    refine lv_aload_n hx hb dX6_readPart_15 rfl (lv_at hl 1 rfl) ?_
    refine lv_iload_n hx hb dX6_readPart_16 rfl (lv_at hl 2 rfl) ?_
    refine lv_iconst (v := 1) hx hb dX6_readPart_17 (by decide) ?_
    refine lv_iadd hx hb dX6_readPart_18 ?_
    refine hm_calli hw (hm_runV (rest := []) EvC_cl X hw (hRO hG hTx h) yk_X6_readOr kw972 rfl (gl_28 hG) rfl hl.1 rfl rfl rfl (Nat.le_of_ble_eq_true rfl) ⟨Nat.le_trans (show rf + 1 ≤ rf + 10 by omega) hR.1, Nat.le_trans (show 8 + (4 + 11) + (rl) ≤ rl + 287 by omega) hR.2⟩ ⟨Nat.zero_le _, Nat.zero_le _⟩ dX6_readPart_19) (fun a34 u36 H locs hp hw => ?_)
    obtain ⟨I35, rfl, h⟩ := hp
    refine lv_istore_n (lv' := [(3, _), (2, _), (0, _), (1, _)]) hx hb dX6_readPart_22 rfl hl (by decide) rfl (fun ls hl => ?_)
    refine lv_aload_n hx hb dX6_readPart_23 rfl (lv_at hl 2 rfl) ?_
    refine lv_bipush (v := 41) hx hb dX6_readPart_24 (by decide) ?_
    refine hm_callv hw (hm_runV (rest := []) EvC_cl X hw (cRd_expect hG hTx h) yk_X6_expect kw1008 rfl (gl_28 hG) rfl hl.1 rfl rfl rfl (Nat.le_of_ble_eq_true rfl) ⟨Nat.le_trans (show 9 + 1 ≤ rf + 10 by omega) hR.1, Nat.le_trans (show 8 + (2 + 11) + (265) ≤ rl + 287 by omega) hR.2⟩ ⟨Nat.zero_le _, Nat.zero_le _⟩ dX6_readPart_26) (fun u38 H locs hp hw => ?_)
    obtain ⟨I37, rfl, h⟩ := hp
    refine lv_iload_n hx hb dX6_readPart_29 rfl (lv_at hl 0 rfl) ?_
    exact hm_iret X hr hlk hw ⟨_, rfl, h⟩ dX6_readPart_30

theorem wkRd_readProduct_b34 {I : HI} {T : HR} {F : HR} {L : HL} {x1 : Int32} {x2 : Int32} {x3 : Int32} {K8 : HI → Int32 → Int32 → Prop} {Q : Int32 → HI → Prop} {RO : HI → Int32 → (Int32 → HI → Prop) → Prop} {rf rl : Nat} (hRO : ∀ {l : Launch} {D : va_G} {cA : Nat → ClassId} {z sz : Nat} {J : HJ} {I : HI} {T : HR} {F : HR} {L : HL} {y1 : Int32} {Q : Int32 → HI → Prop}, (Geo F L) → (F 28 3 = some 34) → RO I y1 Q → Met l yX6_readOr (hws0 yX6_readOr cX6_readOr 4 (some .int)) { frames := rf, cells := 0, slots := 0, locals := rl } (hPc D cA z EvC (I, J, T, F, L) sz [.ref (z + 28), .int y1]) (va_Qi (pI J T F L Q) (hB D cA z (hA z L sz)) (hA z L sz)) 0 0 (hA z L sz)) (X : hX p m c s args RX6 cX6_readProduct 5) (hr : meth.sig.returnType = (some .int)) (hlk : meth.locks = false) (hR : rf + 11 ≤ R.frames ∧ rl + 310 ≤ R.locals) (hG : Geo F L) (hTx : F 28 3 = some 34) (hK8 : ∀ (I : HI) (x2 : Int32) (x3 : Int32) {ls : Array Slot} {H : Heap} {locs : List Loc}, K8 I x2 x3 → hW D cA z EvC (I, J, T, F, L) A s H locs → lv_has ls 5 [(0, .ref (z + 28)), (1, .int x1), (2, .int x2), (3, .int x3)] → W p l e R s m args below meth c H locs 0 0 (MQ below (va_Qi (pI J T F L Q) (hB D cA z A) A) args s 0 0 A) (F0 m 8 ls [])) : ∀ {ls : Array Slot} {H : Heap} {locs : List Loc}, Rd_readProduct_b34 RO I x1 x2 x3 K8 Q → hW D cA z EvC (I, J, T, F, L) A s H locs → lv_has ls 5 [(0, .ref (z + 28)), (1, .int x1), (2, .int x2), (3, .int x3)] → W p l e R s m args below meth c H locs 0 0 (MQ below (va_Qi (pI J T F L Q) (hB D cA z A) A) args s 0 0 A) (F0 m 34 ls []) := by
  have hx := X.1
  have hb := X.2.1
  intro ls H locs h hw hl
  unfold Rd_readProduct_b34 at h
  refine lv_aload_n hx hb dX6_readProduct_34 rfl (lv_at hl 0 rfl) ?_
  refine hm_geti X hw lk_6_40 (gl_28 hG) dX6_readProduct_35 ?_
  refine lv_istore (lv' := [(4, _), (0, _), (1, _), (2, _), (3, _)]) hx hb dX6_readProduct_38 hl (by decide) rfl (fun ls hl => ?_)
  refine lv_aload_n hx hb dX6_readProduct_40 rfl (lv_at hl 1 rfl) ?_
  refine hm_callv hw (hm_runV (rest := []) EvC_cl X hw (cRd_next hG hTx h) yk_X6_next kw886 rfl (gl_28 hG) rfl hl.1 rfl rfl rfl (Nat.le_of_ble_eq_true rfl) ⟨Nat.le_trans (show 8 + 1 ≤ rf + 11 by omega) hR.1, Nat.le_trans (show 8 + (1 + 11) + (245) ≤ rl + 310 by omega) hR.2⟩ ⟨Nat.zero_le _, Nat.zero_le _⟩ dX6_readProduct_41) (fun u5 H locs hp hw => ?_)
  obtain ⟨I4, rfl, h⟩ := hp
  refine lv_aload_n hx hb dX6_readProduct_44 rfl (lv_at hl 1 rfl) ?_
  refine lv_iload hx hb dX6_readProduct_45 (lv_at hl 0 rfl) ?_
  refine lv_iload_n hx hb dX6_readProduct_47 rfl (lv_at hl 3 rfl) ?_
  refine lv_aload_n hx hb dX6_readProduct_48 rfl (lv_at hl 1 rfl) ?_
  refine lv_iload_n hx hb dX6_readProduct_49 rfl (lv_at hl 2 rfl) ?_
  refine hm_calli hw (hm_runV (rest := [_, _, _]) EvC_cl X hw (cRd_readPart hRO hG hTx h) yk_X6_readPart kw1004 rfl (gl_28 hG) rfl hl.1 rfl rfl rfl (Nat.le_of_ble_eq_true rfl) ⟨Nat.le_trans (show rf + 10 + 1 ≤ rf + 11 by omega) hR.1, Nat.le_trans (show 8 + (4 + 11) + (rl + 287) ≤ rl + 310 by omega) hR.2⟩ ⟨Nat.zero_le _, Nat.zero_le _⟩ dX6_readProduct_50) (fun a6 u8 H locs hp hw => ?_)
  obtain ⟨I7, rfl, h⟩ := hp
  refine hm_calli hw (hm_runV (rest := []) EvC_cl X hw (cRd_add EvC_cl hG hTx h) yk_X6_add kw1012 rfl (gl_28 hG) rfl hl.1 rfl rfl rfl (Nat.le_of_ble_eq_true rfl) ⟨Nat.le_trans (show 0 + 1 ≤ rf + 11 by omega) hR.1, Nat.le_trans (show 8 + (4 + 11) + (0) ≤ rl + 310 by omega) hR.2⟩ ⟨Nat.zero_le _, Nat.zero_le _⟩ dX6_readProduct_53) (fun a9 u11 H locs hp hw => ?_)
  obtain ⟨I10, rfl, h⟩ := hp
  refine lv_istore_n (lv' := [(2, _), (4, _), (0, _), (1, _), (3, _)]) hx hb dX6_readProduct_56 rfl hl (by decide) rfl (fun ls hl => ?_)
  refine lv_iinc (v := x3 + 1) (lv' := [(3, _), (2, _), (4, _), (0, _), (1, _)]) hx hb dX6_readProduct_57 hl (k := 4) rfl rfl (by decide) rfl (fun ls hl => ?_)
  refine lv_goto (tgt := 8) hx hb dX6_readProduct_60 (by decide) ?_
  exact hK8 _ _ _ h hw (lv_sub hl [3, 4, 1, 0] rfl)

theorem wkRd_readProduct_l8 {T : HR} {F : HR} {L : HL} {x1 : Int32} {Q : Int32 → HI → Prop} {RO : HI → Int32 → (Int32 → HI → Prop) → Prop} {rf rl : Nat} (hRO : ∀ {l : Launch} {D : va_G} {cA : Nat → ClassId} {z sz : Nat} {J : HJ} {I : HI} {T : HR} {F : HR} {L : HL} {y1 : Int32} {Q : Int32 → HI → Prop}, (Geo F L) → (F 28 3 = some 34) → RO I y1 Q → Met l yX6_readOr (hws0 yX6_readOr cX6_readOr 4 (some .int)) { frames := rf, cells := 0, slots := 0, locals := rl } (hPc D cA z EvC (I, J, T, F, L) sz [.ref (z + 28), .int y1]) (va_Qi (pI J T F L Q) (hB D cA z (hA z L sz)) (hA z L sz)) 0 0 (hA z L sz)) (X : hX p m c s args RX6 cX6_readProduct 5) (hr : meth.sig.returnType = (some .int)) (hlk : meth.locks = false) (hR : rf + 11 ≤ R.frames ∧ rl + 310 ≤ R.locals) (hG : Geo F L) (hTx : F 28 3 = some 34)  : ∀ (n : Nat) (I : HI) (x2 : Int32) (x3 : Int32) {ls : Array Slot} {H : Heap} {locs : List Loc}, Rd_readProduct_l8 RO x1 Q n I x2 x3 → hW D cA z EvC (I, J, T, F, L) A s H locs → lv_has ls 5 [(0, .ref (z + 28)), (1, .int x1), (2, .int x2), (3, .int x3)] → W p l e R s m args below meth c H locs 0 0 (MQ below (va_Qi (pI J T F L Q) (hB D cA z A) A) args s 0 0 A) (F0 m 8 ls []) := by
  have hx := X.1
  have hb := X.2.1
  intro n
  induction n with
  | zero => intro I x2 x3 ls H locs h; exact False.elim h
  | succ n ih =>
    intro I x2 x3 ls H locs h hw hl
    rw [Rd_readProduct_l8] at h
    refine lv_iload_n hx hb dX6_readProduct_8 rfl (lv_at hl 3 rfl) ?_
    refine lv_aload_n hx hb dX6_readProduct_9 rfl (lv_at hl 0 rfl) ?_
    refine hm_geti X hw lk_6_28 (gl_28 hG) dX6_readProduct_10 ?_
    refine lv_icmp_ge (tgt := 63) hx hb dX6_readProduct_13 (by decide) (fun hc => ?_) (fun hc => ?_)
    · have h := Eq.mp (if_pos hc) h
      refine lv_iload_n hx hb dX6_readProduct_63 rfl (lv_at hl 2 rfl) ?_
      exact hm_iret X hr hlk hw ⟨_, rfl, h⟩ dX6_readProduct_64
    · have h := Eq.mp (if_neg hc) h
      refine lv_aload_n hx hb dX6_readProduct_16 rfl (lv_at hl 0 rfl) ?_
      refine hm_geti X hw lk_6_40 (gl_28 hG) dX6_readProduct_17 ?_
      refine lv_bipush (v := 42) hx hb dX6_readProduct_20 (by decide) ?_
      refine lv_icmp_eq (tgt := 34) hx hb dX6_readProduct_22 (by decide) (fun hc => ?_) (fun hc => ?_)
      · have h := Eq.mp (if_pos hc) h
        exact wkRd_readProduct_b34 hRO X hr hlk hR hG hTx ih h hw (lv_sub hl [0, 1, 2, 3] rfl)
      · have h := Eq.mp (if_neg hc) h
        refine lv_aload_n hx hb dX6_readProduct_25 rfl (lv_at hl 0 rfl) ?_
        refine hm_geti X hw lk_6_40 (gl_28 hG) dX6_readProduct_26 ?_
        refine lv_bipush (v := 47) hx hb dX6_readProduct_29 (by decide) ?_
        refine lv_icmp_ne (tgt := 63) hx hb dX6_readProduct_31 (by decide) (fun hc => ?_) (fun hc => ?_)
        · have h := Eq.mp (if_neg hc) h
          refine lv_iload_n hx hb dX6_readProduct_63 rfl (lv_at hl 2 rfl) ?_
          exact hm_iret X hr hlk hw ⟨_, rfl, h⟩ dX6_readProduct_64
        · have h := Eq.mp (if_pos hc) h
          exact wkRd_readProduct_b34 hRO X hr hlk hR hG hTx ih h hw (lv_sub hl [0, 1, 2, 3] rfl)

theorem cRd_readProduct {l : Launch} {D : va_G} {cA : Nat → ClassId} {z sz : Nat} {RO : HI → Int32 → (Int32 → HI → Prop) → Prop} {rf rl : Nat} (hRO : ∀ {l : Launch} {D : va_G} {cA : Nat → ClassId} {z sz : Nat} {J : HJ} {I : HI} {T : HR} {F : HR} {L : HL} {y1 : Int32} {Q : Int32 → HI → Prop}, (Geo F L) → (F 28 3 = some 34) → RO I y1 Q → Met l yX6_readOr (hws0 yX6_readOr cX6_readOr 4 (some .int)) { frames := rf, cells := 0, slots := 0, locals := rl } (hPc D cA z EvC (I, J, T, F, L) sz [.ref (z + 28), .int y1]) (va_Qi (pI J T F L Q) (hB D cA z (hA z L sz)) (hA z L sz)) 0 0 (hA z L sz)) {I : HI} {T : HR} {F : HR} {L : HL} {x1 : Int32} {Q : Int32 → HI → Prop} (hG : Geo F L) (hTx : F 28 3 = some 34) (h : Rd_readProduct RO I x1 Q) : Met l yX6_readProduct (hws0 yX6_readProduct cX6_readProduct 5 (some .int)) { frames := rf + 11, cells := 0, slots := 0, locals := rl + 310 } (hPc D cA z EvC (I, J, T, F, L) sz [.ref (z + 28), .int x1]) (va_Qi (pI J T F L Q) (hB D cA z (hA z L sz)) (hA z L sz)) 0 0 (hA z L sz) := by
  refine hm_met (I, J, T, F, L) [.ref (z + 28), .int x1] rfl (by decide) (Nat.le_of_ble_eq_true rfl) ?_
  intro p e s m below meth c ls X hr hlk hnm hxt hsz hw hl
  have hl : lv_has ls 5 [(0, .ref (z + 28)), (1, .int x1)] := hl
  have hR : rf + 11 ≤ ({ frames := rf + 11, cells := 0, slots := 0, locals := rl + 310 } : Room).frames ∧ rl + 310 ≤ ({ frames := rf + 11, cells := 0, slots := 0, locals := rl + 310 } : Room).locals := ⟨Nat.le_refl _, Nat.le_refl _⟩
  generalize ({ frames := rf + 11, cells := 0, slots := 0, locals := rl + 310 } : Room) = R at hR ⊢
  clear hsz
  generalize (hA z L sz) = A at hw ⊢
  have hx := X.1
  have hb := X.2.1
  unfold Rd_readProduct at h
  refine lv_aload_n hx hb dX6_readProduct_0 rfl (lv_at hl 0 rfl) ?_
  refine lv_iload_n hx hb dX6_readProduct_1 rfl (lv_at hl 1 rfl) ?_
  refine hm_calli hw (hm_runV (rest := []) EvC_cl X hw (cRd_readPart hRO hG hTx h) yk_X6_readPart kw1004 rfl (gl_28 hG) rfl hl.1 rfl rfl rfl (Nat.le_of_ble_eq_true rfl) ⟨Nat.le_trans (show rf + 10 + 1 ≤ rf + 11 by omega) hR.1, Nat.le_trans (show 8 + (4 + 11) + (rl + 287) ≤ rl + 310 by omega) hR.2⟩ ⟨Nat.zero_le _, Nat.zero_le _⟩ dX6_readProduct_2) (fun a1 u3 H locs hp hw => ?_)
  obtain ⟨I2, rfl, h⟩ := hp
  refine lv_istore_n (lv' := [(2, _), (0, _), (1, _)]) hx hb dX6_readProduct_5 rfl hl (by decide) rfl (fun ls hl => ?_)
  refine lv_iconst (v := 0) hx hb dX6_readProduct_6 (by decide) ?_
  refine lv_istore_n (lv' := [(3, _), (2, _), (0, _), (1, _)]) hx hb dX6_readProduct_7 rfl hl (by decide) rfl (fun ls hl => ?_)
  obtain ⟨n2, h⟩ := h
  exact wkRd_readProduct_l8 hRO X hr hlk hR hG hTx  n2 _ _ _ h hw (lv_sub hl [2, 3, 1, 0] rfl)

theorem wkRd_readSum_b34 {I : HI} {T : HR} {F : HR} {L : HL} {x1 : Int32} {x2 : Int32} {x3 : Int32} {K8 : HI → Int32 → Int32 → Prop} {Q : Int32 → HI → Prop} {RO : HI → Int32 → (Int32 → HI → Prop) → Prop} {rf rl : Nat} (hRO : ∀ {l : Launch} {D : va_G} {cA : Nat → ClassId} {z sz : Nat} {J : HJ} {I : HI} {T : HR} {F : HR} {L : HL} {y1 : Int32} {Q : Int32 → HI → Prop}, (Geo F L) → (F 28 3 = some 34) → RO I y1 Q → Met l yX6_readOr (hws0 yX6_readOr cX6_readOr 4 (some .int)) { frames := rf, cells := 0, slots := 0, locals := rl } (hPc D cA z EvC (I, J, T, F, L) sz [.ref (z + 28), .int y1]) (va_Qi (pI J T F L Q) (hB D cA z (hA z L sz)) (hA z L sz)) 0 0 (hA z L sz)) (X : hX p m c s args RX6 cX6_readSum 5) (hr : meth.sig.returnType = (some .int)) (hlk : meth.locks = false) (hR : rf + 12 ≤ R.frames ∧ rl + 334 ≤ R.locals) (hG : Geo F L) (hTx : F 28 3 = some 34) (hK8 : ∀ (I : HI) (x2 : Int32) (x3 : Int32) {ls : Array Slot} {H : Heap} {locs : List Loc}, K8 I x2 x3 → hW D cA z EvC (I, J, T, F, L) A s H locs → lv_has ls 5 [(0, .ref (z + 28)), (1, .int x1), (2, .int x2), (3, .int x3)] → W p l e R s m args below meth c H locs 0 0 (MQ below (va_Qi (pI J T F L Q) (hB D cA z A) A) args s 0 0 A) (F0 m 8 ls [])) : ∀ {ls : Array Slot} {H : Heap} {locs : List Loc}, Rd_readSum_b34 RO I x1 x2 x3 K8 Q → hW D cA z EvC (I, J, T, F, L) A s H locs → lv_has ls 5 [(0, .ref (z + 28)), (1, .int x1), (2, .int x2), (3, .int x3)] → W p l e R s m args below meth c H locs 0 0 (MQ below (va_Qi (pI J T F L Q) (hB D cA z A) A) args s 0 0 A) (F0 m 34 ls []) := by
  have hx := X.1
  have hb := X.2.1
  intro ls H locs h hw hl
  unfold Rd_readSum_b34 at h
  refine lv_aload_n hx hb dX6_readSum_34 rfl (lv_at hl 0 rfl) ?_
  refine hm_geti X hw lk_6_40 (gl_28 hG) dX6_readSum_35 ?_
  refine lv_istore (lv' := [(4, _), (0, _), (1, _), (2, _), (3, _)]) hx hb dX6_readSum_38 hl (by decide) rfl (fun ls hl => ?_)
  refine lv_aload_n hx hb dX6_readSum_40 rfl (lv_at hl 1 rfl) ?_
  refine hm_callv hw (hm_runV (rest := []) EvC_cl X hw (cRd_next hG hTx h) yk_X6_next kw886 rfl (gl_28 hG) rfl hl.1 rfl rfl rfl (Nat.le_of_ble_eq_true rfl) ⟨Nat.le_trans (show 8 + 1 ≤ rf + 12 by omega) hR.1, Nat.le_trans (show 8 + (1 + 11) + (245) ≤ rl + 334 by omega) hR.2⟩ ⟨Nat.zero_le _, Nat.zero_le _⟩ dX6_readSum_41) (fun u5 H locs hp hw => ?_)
  obtain ⟨I4, rfl, h⟩ := hp
  refine lv_aload_n hx hb dX6_readSum_44 rfl (lv_at hl 1 rfl) ?_
  refine lv_iload hx hb dX6_readSum_45 (lv_at hl 0 rfl) ?_
  refine lv_iload_n hx hb dX6_readSum_47 rfl (lv_at hl 3 rfl) ?_
  refine lv_aload_n hx hb dX6_readSum_48 rfl (lv_at hl 1 rfl) ?_
  refine lv_iload_n hx hb dX6_readSum_49 rfl (lv_at hl 2 rfl) ?_
  refine hm_calli hw (hm_runV (rest := [_, _, _]) EvC_cl X hw (cRd_readProduct hRO hG hTx h) yk_X6_readProduct kw1000 rfl (gl_28 hG) rfl hl.1 rfl rfl rfl (Nat.le_of_ble_eq_true rfl) ⟨Nat.le_trans (show rf + 11 + 1 ≤ rf + 12 by omega) hR.1, Nat.le_trans (show 8 + (5 + 11) + (rl + 310) ≤ rl + 334 by omega) hR.2⟩ ⟨Nat.zero_le _, Nat.zero_le _⟩ dX6_readSum_50) (fun a6 u8 H locs hp hw => ?_)
  obtain ⟨I7, rfl, h⟩ := hp
  refine hm_calli hw (hm_runV (rest := []) EvC_cl X hw (cRd_add EvC_cl hG hTx h) yk_X6_add kw1012 rfl (gl_28 hG) rfl hl.1 rfl rfl rfl (Nat.le_of_ble_eq_true rfl) ⟨Nat.le_trans (show 0 + 1 ≤ rf + 12 by omega) hR.1, Nat.le_trans (show 8 + (4 + 11) + (0) ≤ rl + 334 by omega) hR.2⟩ ⟨Nat.zero_le _, Nat.zero_le _⟩ dX6_readSum_53) (fun a9 u11 H locs hp hw => ?_)
  obtain ⟨I10, rfl, h⟩ := hp
  refine lv_istore_n (lv' := [(2, _), (4, _), (0, _), (1, _), (3, _)]) hx hb dX6_readSum_56 rfl hl (by decide) rfl (fun ls hl => ?_)
  refine lv_iinc (v := x3 + 1) (lv' := [(3, _), (2, _), (4, _), (0, _), (1, _)]) hx hb dX6_readSum_57 hl (k := 4) rfl rfl (by decide) rfl (fun ls hl => ?_)
  refine lv_goto (tgt := 8) hx hb dX6_readSum_60 (by decide) ?_
  exact hK8 _ _ _ h hw (lv_sub hl [3, 4, 1, 0] rfl)

theorem wkRd_readSum_l8 {T : HR} {F : HR} {L : HL} {x1 : Int32} {Q : Int32 → HI → Prop} {RO : HI → Int32 → (Int32 → HI → Prop) → Prop} {rf rl : Nat} (hRO : ∀ {l : Launch} {D : va_G} {cA : Nat → ClassId} {z sz : Nat} {J : HJ} {I : HI} {T : HR} {F : HR} {L : HL} {y1 : Int32} {Q : Int32 → HI → Prop}, (Geo F L) → (F 28 3 = some 34) → RO I y1 Q → Met l yX6_readOr (hws0 yX6_readOr cX6_readOr 4 (some .int)) { frames := rf, cells := 0, slots := 0, locals := rl } (hPc D cA z EvC (I, J, T, F, L) sz [.ref (z + 28), .int y1]) (va_Qi (pI J T F L Q) (hB D cA z (hA z L sz)) (hA z L sz)) 0 0 (hA z L sz)) (X : hX p m c s args RX6 cX6_readSum 5) (hr : meth.sig.returnType = (some .int)) (hlk : meth.locks = false) (hR : rf + 12 ≤ R.frames ∧ rl + 334 ≤ R.locals) (hG : Geo F L) (hTx : F 28 3 = some 34)  : ∀ (n : Nat) (I : HI) (x2 : Int32) (x3 : Int32) {ls : Array Slot} {H : Heap} {locs : List Loc}, Rd_readSum_l8 RO x1 Q n I x2 x3 → hW D cA z EvC (I, J, T, F, L) A s H locs → lv_has ls 5 [(0, .ref (z + 28)), (1, .int x1), (2, .int x2), (3, .int x3)] → W p l e R s m args below meth c H locs 0 0 (MQ below (va_Qi (pI J T F L Q) (hB D cA z A) A) args s 0 0 A) (F0 m 8 ls []) := by
  have hx := X.1
  have hb := X.2.1
  intro n
  induction n with
  | zero => intro I x2 x3 ls H locs h; exact False.elim h
  | succ n ih =>
    intro I x2 x3 ls H locs h hw hl
    rw [Rd_readSum_l8] at h
    refine lv_iload_n hx hb dX6_readSum_8 rfl (lv_at hl 3 rfl) ?_
    refine lv_aload_n hx hb dX6_readSum_9 rfl (lv_at hl 0 rfl) ?_
    refine hm_geti X hw lk_6_28 (gl_28 hG) dX6_readSum_10 ?_
    refine lv_icmp_ge (tgt := 63) hx hb dX6_readSum_13 (by decide) (fun hc => ?_) (fun hc => ?_)
    · have h := Eq.mp (if_pos hc) h
      refine lv_iload_n hx hb dX6_readSum_63 rfl (lv_at hl 2 rfl) ?_
      exact hm_iret X hr hlk hw ⟨_, rfl, h⟩ dX6_readSum_64
    · have h := Eq.mp (if_neg hc) h
      refine lv_aload_n hx hb dX6_readSum_16 rfl (lv_at hl 0 rfl) ?_
      refine hm_geti X hw lk_6_40 (gl_28 hG) dX6_readSum_17 ?_
      refine lv_bipush (v := 43) hx hb dX6_readSum_20 (by decide) ?_
      refine lv_icmp_eq (tgt := 34) hx hb dX6_readSum_22 (by decide) (fun hc => ?_) (fun hc => ?_)
      · have h := Eq.mp (if_pos hc) h
        exact wkRd_readSum_b34 hRO X hr hlk hR hG hTx ih h hw (lv_sub hl [0, 1, 2, 3] rfl)
      · have h := Eq.mp (if_neg hc) h
        refine lv_aload_n hx hb dX6_readSum_25 rfl (lv_at hl 0 rfl) ?_
        refine hm_geti X hw lk_6_40 (gl_28 hG) dX6_readSum_26 ?_
        refine lv_bipush (v := 45) hx hb dX6_readSum_29 (by decide) ?_
        refine lv_icmp_ne (tgt := 63) hx hb dX6_readSum_31 (by decide) (fun hc => ?_) (fun hc => ?_)
        · have h := Eq.mp (if_neg hc) h
          refine lv_iload_n hx hb dX6_readSum_63 rfl (lv_at hl 2 rfl) ?_
          exact hm_iret X hr hlk hw ⟨_, rfl, h⟩ dX6_readSum_64
        · have h := Eq.mp (if_pos hc) h
          exact wkRd_readSum_b34 hRO X hr hlk hR hG hTx ih h hw (lv_sub hl [0, 1, 2, 3] rfl)

theorem cRd_readSum {l : Launch} {D : va_G} {cA : Nat → ClassId} {z sz : Nat} {RO : HI → Int32 → (Int32 → HI → Prop) → Prop} {rf rl : Nat} (hRO : ∀ {l : Launch} {D : va_G} {cA : Nat → ClassId} {z sz : Nat} {J : HJ} {I : HI} {T : HR} {F : HR} {L : HL} {y1 : Int32} {Q : Int32 → HI → Prop}, (Geo F L) → (F 28 3 = some 34) → RO I y1 Q → Met l yX6_readOr (hws0 yX6_readOr cX6_readOr 4 (some .int)) { frames := rf, cells := 0, slots := 0, locals := rl } (hPc D cA z EvC (I, J, T, F, L) sz [.ref (z + 28), .int y1]) (va_Qi (pI J T F L Q) (hB D cA z (hA z L sz)) (hA z L sz)) 0 0 (hA z L sz)) {I : HI} {T : HR} {F : HR} {L : HL} {x1 : Int32} {Q : Int32 → HI → Prop} (hG : Geo F L) (hTx : F 28 3 = some 34) (h : Rd_readSum RO I x1 Q) : Met l yX6_readSum (hws0 yX6_readSum cX6_readSum 5 (some .int)) { frames := rf + 12, cells := 0, slots := 0, locals := rl + 334 } (hPc D cA z EvC (I, J, T, F, L) sz [.ref (z + 28), .int x1]) (va_Qi (pI J T F L Q) (hB D cA z (hA z L sz)) (hA z L sz)) 0 0 (hA z L sz) := by
  refine hm_met (I, J, T, F, L) [.ref (z + 28), .int x1] rfl (by decide) (Nat.le_of_ble_eq_true rfl) ?_
  intro p e s m below meth c ls X hr hlk hnm hxt hsz hw hl
  have hl : lv_has ls 5 [(0, .ref (z + 28)), (1, .int x1)] := hl
  have hR : rf + 12 ≤ ({ frames := rf + 12, cells := 0, slots := 0, locals := rl + 334 } : Room).frames ∧ rl + 334 ≤ ({ frames := rf + 12, cells := 0, slots := 0, locals := rl + 334 } : Room).locals := ⟨Nat.le_refl _, Nat.le_refl _⟩
  generalize ({ frames := rf + 12, cells := 0, slots := 0, locals := rl + 334 } : Room) = R at hR ⊢
  clear hsz
  generalize (hA z L sz) = A at hw ⊢
  have hx := X.1
  have hb := X.2.1
  unfold Rd_readSum at h
  refine lv_aload_n hx hb dX6_readSum_0 rfl (lv_at hl 0 rfl) ?_
  refine lv_iload_n hx hb dX6_readSum_1 rfl (lv_at hl 1 rfl) ?_
  refine hm_calli hw (hm_runV (rest := []) EvC_cl X hw (cRd_readProduct hRO hG hTx h) yk_X6_readProduct kw1000 rfl (gl_28 hG) rfl hl.1 rfl rfl rfl (Nat.le_of_ble_eq_true rfl) ⟨Nat.le_trans (show rf + 11 + 1 ≤ rf + 12 by omega) hR.1, Nat.le_trans (show 8 + (5 + 11) + (rl + 310) ≤ rl + 334 by omega) hR.2⟩ ⟨Nat.zero_le _, Nat.zero_le _⟩ dX6_readSum_2) (fun a1 u3 H locs hp hw => ?_)
  obtain ⟨I2, rfl, h⟩ := hp
  refine lv_istore_n (lv' := [(2, _), (0, _), (1, _)]) hx hb dX6_readSum_5 rfl hl (by decide) rfl (fun ls hl => ?_)
  refine lv_iconst (v := 0) hx hb dX6_readSum_6 (by decide) ?_
  refine lv_istore_n (lv' := [(3, _), (2, _), (0, _), (1, _)]) hx hb dX6_readSum_7 rfl hl (by decide) rfl (fun ls hl => ?_)
  obtain ⟨n2, h⟩ := h
  exact wkRd_readSum_l8 hRO X hr hlk hR hG hTx  n2 _ _ _ h hw (lv_sub hl [2, 3, 1, 0] rfl)

theorem wkRd_readTest_b24 {I : HI} {T : HR} {F : HR} {L : HL} {x1 : Int32} {x2 : Int32} {Q : Int32 → HI → Prop} {RO : HI → Int32 → (Int32 → HI → Prop) → Prop} {rf rl : Nat} (hRO : ∀ {l : Launch} {D : va_G} {cA : Nat → ClassId} {z sz : Nat} {J : HJ} {I : HI} {T : HR} {F : HR} {L : HL} {y1 : Int32} {Q : Int32 → HI → Prop}, (Geo F L) → (F 28 3 = some 34) → RO I y1 Q → Met l yX6_readOr (hws0 yX6_readOr cX6_readOr 4 (some .int)) { frames := rf, cells := 0, slots := 0, locals := rl } (hPc D cA z EvC (I, J, T, F, L) sz [.ref (z + 28), .int y1]) (va_Qi (pI J T F L Q) (hB D cA z (hA z L sz)) (hA z L sz)) 0 0 (hA z L sz)) (X : hX p m c s args RX6 cX6_readTest 4) (hr : meth.sig.returnType = (some .int)) (hlk : meth.locks = false) (hR : rf + 13 ≤ R.frames ∧ rl + 358 ≤ R.locals) (hG : Geo F L) (hTx : F 28 3 = some 34)  : ∀ {ls : Array Slot} {H : Heap} {locs : List Loc}, Rd_readTest_b24 RO I x1 x2 Q → hW D cA z EvC (I, J, T, F, L) A s H locs → lv_has ls 4 [(0, .ref (z + 28)), (1, .int x1), (2, .int x2)] → W p l e R s m args below meth c H locs 0 0 (MQ below (va_Qi (pI J T F L Q) (hB D cA z A) A) args s 0 0 A) (F0 m 24 ls []) := by
  have hx := X.1
  have hb := X.2.1
  intro ls H locs h hw hl
  unfold Rd_readTest_b24 at h
  refine lv_aload_n hx hb dX6_readTest_24 rfl (lv_at hl 0 rfl) ?_
  refine hm_geti X hw lk_6_40 (gl_28 hG) dX6_readTest_25 ?_
  refine lv_istore_n (lv' := [(3, _), (0, _), (1, _), (2, _)]) hx hb dX6_readTest_28 rfl hl (by decide) rfl (fun ls hl => ?_)
  refine lv_aload_n hx hb dX6_readTest_29 rfl (lv_at hl 1 rfl) ?_
  refine hm_callv hw (hm_runV (rest := []) EvC_cl X hw (cRd_next hG hTx h) yk_X6_next kw886 rfl (gl_28 hG) rfl hl.1 rfl rfl rfl (Nat.le_of_ble_eq_true rfl) ⟨Nat.le_trans (show 8 + 1 ≤ rf + 13 by omega) hR.1, Nat.le_trans (show 8 + (1 + 11) + (245) ≤ rl + 358 by omega) hR.2⟩ ⟨Nat.zero_le _, Nat.zero_le _⟩ dX6_readTest_30) (fun u5 H locs hp hw => ?_)
  obtain ⟨I4, rfl, h⟩ := hp
  refine lv_aload_n hx hb dX6_readTest_33 rfl (lv_at hl 1 rfl) ?_
  refine lv_iload_n hx hb dX6_readTest_34 rfl (lv_at hl 0 rfl) ?_
  refine lv_iload_n hx hb dX6_readTest_35 rfl (lv_at hl 3 rfl) ?_
  refine lv_aload_n hx hb dX6_readTest_36 rfl (lv_at hl 1 rfl) ?_
  refine lv_iload_n hx hb dX6_readTest_37 rfl (lv_at hl 2 rfl) ?_
  refine hm_calli hw (hm_runV (rest := [_, _, _]) EvC_cl X hw (cRd_readSum hRO hG hTx h) yk_X6_readSum kw996 rfl (gl_28 hG) rfl hl.1 rfl rfl rfl (Nat.le_of_ble_eq_true rfl) ⟨Nat.le_trans (show rf + 12 + 1 ≤ rf + 13 by omega) hR.1, Nat.le_trans (show 8 + (5 + 11) + (rl + 334) ≤ rl + 358 by omega) hR.2⟩ ⟨Nat.zero_le _, Nat.zero_le _⟩ dX6_readTest_38) (fun a6 u8 H locs hp hw => ?_)
  obtain ⟨I7, rfl, h⟩ := hp
  refine hm_calli hw (hm_runV (rest := []) EvC_cl X hw (cRd_add EvC_cl hG hTx h) yk_X6_add kw1012 rfl (gl_28 hG) rfl hl.1 rfl rfl rfl (Nat.le_of_ble_eq_true rfl) ⟨Nat.le_trans (show 0 + 1 ≤ rf + 13 by omega) hR.1, Nat.le_trans (show 8 + (4 + 11) + (0) ≤ rl + 358 by omega) hR.2⟩ ⟨Nat.zero_le _, Nat.zero_le _⟩ dX6_readTest_41) (fun a9 u11 H locs hp hw => ?_)
  obtain ⟨I10, rfl, h⟩ := hp
  refine lv_istore_n (lv' := [(2, _), (3, _), (0, _), (1, _)]) hx hb dX6_readTest_44 rfl hl (by decide) rfl (fun ls hl => ?_)
  refine lv_iload_n hx hb dX6_readTest_45 rfl (lv_at hl 0 rfl) ?_
  exact hm_iret X hr hlk hw ⟨_, rfl, h⟩ dX6_readTest_46

theorem cRd_readTest {l : Launch} {D : va_G} {cA : Nat → ClassId} {z sz : Nat} {RO : HI → Int32 → (Int32 → HI → Prop) → Prop} {rf rl : Nat} (hRO : ∀ {l : Launch} {D : va_G} {cA : Nat → ClassId} {z sz : Nat} {J : HJ} {I : HI} {T : HR} {F : HR} {L : HL} {y1 : Int32} {Q : Int32 → HI → Prop}, (Geo F L) → (F 28 3 = some 34) → RO I y1 Q → Met l yX6_readOr (hws0 yX6_readOr cX6_readOr 4 (some .int)) { frames := rf, cells := 0, slots := 0, locals := rl } (hPc D cA z EvC (I, J, T, F, L) sz [.ref (z + 28), .int y1]) (va_Qi (pI J T F L Q) (hB D cA z (hA z L sz)) (hA z L sz)) 0 0 (hA z L sz)) {I : HI} {T : HR} {F : HR} {L : HL} {x1 : Int32} {Q : Int32 → HI → Prop} (hG : Geo F L) (hTx : F 28 3 = some 34) (h : Rd_readTest RO I x1 Q) : Met l yX6_readTest (hws0 yX6_readTest cX6_readTest 4 (some .int)) { frames := rf + 13, cells := 0, slots := 0, locals := rl + 358 } (hPc D cA z EvC (I, J, T, F, L) sz [.ref (z + 28), .int x1]) (va_Qi (pI J T F L Q) (hB D cA z (hA z L sz)) (hA z L sz)) 0 0 (hA z L sz) := by
  refine hm_met (I, J, T, F, L) [.ref (z + 28), .int x1] rfl (by decide) (Nat.le_of_ble_eq_true rfl) ?_
  intro p e s m below meth c ls X hr hlk hnm hxt hsz hw hl
  have hl : lv_has ls 4 [(0, .ref (z + 28)), (1, .int x1)] := hl
  have hR : rf + 13 ≤ ({ frames := rf + 13, cells := 0, slots := 0, locals := rl + 358 } : Room).frames ∧ rl + 358 ≤ ({ frames := rf + 13, cells := 0, slots := 0, locals := rl + 358 } : Room).locals := ⟨Nat.le_refl _, Nat.le_refl _⟩
  generalize ({ frames := rf + 13, cells := 0, slots := 0, locals := rl + 358 } : Room) = R at hR ⊢
  clear hsz
  generalize (hA z L sz) = A at hw ⊢
  have hx := X.1
  have hb := X.2.1
  unfold Rd_readTest at h
  refine lv_aload_n hx hb dX6_readTest_0 rfl (lv_at hl 0 rfl) ?_
  refine lv_iload_n hx hb dX6_readTest_1 rfl (lv_at hl 1 rfl) ?_
  refine hm_calli hw (hm_runV (rest := []) EvC_cl X hw (cRd_readSum hRO hG hTx h) yk_X6_readSum kw996 rfl (gl_28 hG) rfl hl.1 rfl rfl rfl (Nat.le_of_ble_eq_true rfl) ⟨Nat.le_trans (show rf + 12 + 1 ≤ rf + 13 by omega) hR.1, Nat.le_trans (show 8 + (5 + 11) + (rl + 334) ≤ rl + 358 by omega) hR.2⟩ ⟨Nat.zero_le _, Nat.zero_le _⟩ dX6_readTest_2) (fun a1 u3 H locs hp hw => ?_)
  obtain ⟨I2, rfl, h⟩ := hp
  refine lv_istore_n (lv' := [(2, _), (0, _), (1, _)]) hx hb dX6_readTest_5 rfl hl (by decide) rfl (fun ls hl => ?_)
  refine lv_aload_n hx hb dX6_readTest_6 rfl (lv_at hl 1 rfl) ?_
  refine hm_geti X hw lk_6_40 (gl_28 hG) dX6_readTest_7 ?_
  refine lv_bipush (v := 60) hx hb dX6_readTest_10 (by decide) ?_
  refine lv_icmp_eq (tgt := 24) hx hb dX6_readTest_12 (by decide) (fun hc => ?_) (fun hc => ?_)
  · have h := Eq.mp (if_pos hc) h
    exact wkRd_readTest_b24 hRO X hr hlk hR hG hTx  h hw (lv_sub hl [1, 2, 0] rfl)
  · have h := Eq.mp (if_neg hc) h
    refine lv_aload_n hx hb dX6_readTest_15 rfl (lv_at hl 1 rfl) ?_
    refine hm_geti X hw lk_6_40 (gl_28 hG) dX6_readTest_16 ?_
    refine lv_bipush (v := 61) hx hb dX6_readTest_19 (by decide) ?_
    refine lv_icmp_ne (tgt := 45) hx hb dX6_readTest_21 (by decide) (fun hc => ?_) (fun hc => ?_)
    · have h := Eq.mp (if_neg hc) h
      refine lv_iload_n hx hb dX6_readTest_45 rfl (lv_at hl 0 rfl) ?_
      exact hm_iret X hr hlk hw ⟨_, rfl, h⟩ dX6_readTest_46
    · have h := Eq.mp (if_pos hc) h
      exact wkRd_readTest_b24 hRO X hr hlk hR hG hTx  h hw (lv_sub hl [1, 2, 0] rfl)

theorem wkRd_readNot_l57 {T : HR} {F : HR} {L : HL} {x2 : Int32} {Q : Int32 → HI → Prop} {RO : HI → Int32 → (Int32 → HI → Prop) → Prop} {rf rl : Nat} (hRO : ∀ {l : Launch} {D : va_G} {cA : Nat → ClassId} {z sz : Nat} {J : HJ} {I : HI} {T : HR} {F : HR} {L : HL} {y1 : Int32} {Q : Int32 → HI → Prop}, (Geo F L) → (F 28 3 = some 34) → RO I y1 Q → Met l yX6_readOr (hws0 yX6_readOr cX6_readOr 4 (some .int)) { frames := rf, cells := 0, slots := 0, locals := rl } (hPc D cA z EvC (I, J, T, F, L) sz [.ref (z + 28), .int y1]) (va_Qi (pI J T F L Q) (hB D cA z (hA z L sz)) (hA z L sz)) 0 0 (hA z L sz)) (X : hX p m c s args RX6 cX6_readNot 5) (hr : meth.sig.returnType = (some .int)) (hlk : meth.locks = false) (hR : rf + 14 ≤ R.frames ∧ rl + 381 ≤ R.locals) (hG : Geo F L) (hTx : F 28 3 = some 34)  : ∀ (n : Nat) (I : HI) (x3 : Int32) (x4 : Int32) {ls : Array Slot} {H : Heap} {locs : List Loc}, Rd_readNot_l57 RO x2 Q n I x3 x4 → hW D cA z EvC (I, J, T, F, L) A s H locs → lv_has ls 5 [(0, .ref (z + 28)), (2, .int x2), (3, .int x3), (4, .int x4)] → W p l e R s m args below meth c H locs 0 0 (MQ below (va_Qi (pI J T F L Q) (hB D cA z A) A) args s 0 0 A) (F0 m 57 ls []) := by
  have hx := X.1
  have hb := X.2.1
  intro n
  induction n with
  | zero => intro I x3 x4 ls H locs h; exact False.elim h
  | succ n ih =>
    intro I x3 x4 ls H locs h hw hl
    rw [Rd_readNot_l57] at h
    refine lv_iload hx hb dX6_readNot_57 (lv_at hl 3 rfl) ?_
    refine lv_iload_n hx hb dX6_readNot_59 rfl (lv_at hl 1 rfl) ?_
    refine lv_icmp_ge (tgt := 79) hx hb dX6_readNot_60 (by decide) (fun hc => ?_) (fun hc => ?_)
    · have h := Eq.mp (if_pos hc) h
      refine lv_iload_n hx hb dX6_readNot_79 rfl (lv_at hl 2 rfl) ?_
      exact hm_iret X hr hlk hw ⟨_, rfl, h⟩ dX6_readNot_80
    · have h := Eq.mp (if_neg hc) h
      refine lv_aload_n hx hb dX6_readNot_63 rfl (lv_at hl 0 rfl) ?_
      refine lv_sipush (v := 151) hx hb dX6_readNot_64 (by decide) ?_
      refine lv_iload_n hx hb dX6_readNot_67 rfl (lv_at hl 2 rfl) ?_
      refine lv_iload_n hx hb dX6_readNot_68 rfl (lv_at hl 2 rfl) ?_
      refine hm_calli hw (hm_runV (rest := []) EvC_cl X hw (cRd_add EvC_cl hG hTx h) yk_X6_add kw1012 rfl (gl_28 hG) rfl hl.1 rfl rfl rfl (Nat.le_of_ble_eq_true rfl) ⟨Nat.le_trans (show 0 + 1 ≤ rf + 14 by omega) hR.1, Nat.le_trans (show 8 + (4 + 11) + (0) ≤ rl + 381 by omega) hR.2⟩ ⟨Nat.zero_le _, Nat.zero_le _⟩ dX6_readNot_69) (fun a4 u6 H locs hp hw => ?_)
      obtain ⟨I5, rfl, h⟩ := hp
      refine lv_istore_n (lv' := [(3, _), (0, _), (2, _), (4, _)]) hx hb dX6_readNot_72 rfl hl (by decide) rfl (fun ls hl => ?_)
      refine lv_iinc (v := x4 + 1) (lv' := [(4, _), (3, _), (0, _), (2, _)]) hx hb dX6_readNot_73 hl (k := 3) rfl rfl (by decide) rfl (fun ls hl => ?_)
      refine lv_goto (tgt := 57) hx hb dX6_readNot_76 (by decide) ?_
      exact ih _ _ _ h hw (lv_sub hl [2, 3, 1, 0] rfl)

theorem wkRd_readNot_b48 {I : HI} {T : HR} {F : HR} {L : HL} {x1 : Int32} {x2 : Int32} {Q : Int32 → HI → Prop} {RO : HI → Int32 → (Int32 → HI → Prop) → Prop} {rf rl : Nat} (hRO : ∀ {l : Launch} {D : va_G} {cA : Nat → ClassId} {z sz : Nat} {J : HJ} {I : HI} {T : HR} {F : HR} {L : HL} {y1 : Int32} {Q : Int32 → HI → Prop}, (Geo F L) → (F 28 3 = some 34) → RO I y1 Q → Met l yX6_readOr (hws0 yX6_readOr cX6_readOr 4 (some .int)) { frames := rf, cells := 0, slots := 0, locals := rl } (hPc D cA z EvC (I, J, T, F, L) sz [.ref (z + 28), .int y1]) (va_Qi (pI J T F L Q) (hB D cA z (hA z L sz)) (hA z L sz)) 0 0 (hA z L sz)) (X : hX p m c s args RX6 cX6_readNot 5) (hr : meth.sig.returnType = (some .int)) (hlk : meth.locks = false) (hR : rf + 14 ≤ R.frames ∧ rl + 381 ≤ R.locals) (hG : Geo F L) (hTx : F 28 3 = some 34)  : ∀ {ls : Array Slot} {H : Heap} {locs : List Loc}, Rd_readNot_b48 RO I x1 x2 Q → hW D cA z EvC (I, J, T, F, L) A s H locs → lv_has ls 5 [(0, .ref (z + 28)), (1, .int x1), (2, .int x2)] → W p l e R s m args below meth c H locs 0 0 (MQ below (va_Qi (pI J T F L Q) (hB D cA z A) A) args s 0 0 A) (F0 m 48 ls []) := by
  have hx := X.1
  have hb := X.2.1
  intro ls H locs h hw hl
  unfold Rd_readNot_b48 at h
  refine lv_aload_n hx hb dX6_readNot_48 rfl (lv_at hl 0 rfl) ?_
  refine lv_iload_n hx hb dX6_readNot_49 rfl (lv_at hl 1 rfl) ?_
  refine hm_calli hw (hm_runV (rest := []) EvC_cl X hw (cRd_readTest hRO hG hTx h) yk_X6_readTest kw992 rfl (gl_28 hG) rfl hl.1 rfl rfl rfl (Nat.le_of_ble_eq_true rfl) ⟨Nat.le_trans (show rf + 13 + 1 ≤ rf + 14 by omega) hR.1, Nat.le_trans (show 8 + (4 + 11) + (rl + 358) ≤ rl + 381 by omega) hR.2⟩ ⟨Nat.zero_le _, Nat.zero_le _⟩ dX6_readNot_50) (fun a1 u3 H locs hp hw => ?_)
  obtain ⟨I2, rfl, h⟩ := hp
  refine lv_istore_n (lv' := [(3, _), (0, _), (1, _), (2, _)]) hx hb dX6_readNot_53 rfl hl (by decide) rfl (fun ls hl => ?_)
  refine lv_iconst (v := 0) hx hb dX6_readNot_54 (by decide) ?_
  refine lv_istore (lv' := [(4, _), (3, _), (0, _), (1, _), (2, _)]) hx hb dX6_readNot_55 hl (by decide) rfl (fun ls hl => ?_)
  obtain ⟨n2, h⟩ := h
  exact wkRd_readNot_l57 hRO X hr hlk hR hG hTx  n2 _ _ _ h hw (lv_sub hl [2, 4, 1, 0] rfl)

theorem wkRd_readNot_b33 {I : HI} {T : HR} {F : HR} {L : HL} {x1 : Int32} {x2 : Int32} {Q : Int32 → HI → Prop} {RO : HI → Int32 → (Int32 → HI → Prop) → Prop} {rf rl : Nat} (hRO : ∀ {l : Launch} {D : va_G} {cA : Nat → ClassId} {z sz : Nat} {J : HJ} {I : HI} {T : HR} {F : HR} {L : HL} {y1 : Int32} {Q : Int32 → HI → Prop}, (Geo F L) → (F 28 3 = some 34) → RO I y1 Q → Met l yX6_readOr (hws0 yX6_readOr cX6_readOr 4 (some .int)) { frames := rf, cells := 0, slots := 0, locals := rl } (hPc D cA z EvC (I, J, T, F, L) sz [.ref (z + 28), .int y1]) (va_Qi (pI J T F L Q) (hB D cA z (hA z L sz)) (hA z L sz)) 0 0 (hA z L sz)) (X : hX p m c s args RX6 cX6_readNot 5) (hr : meth.sig.returnType = (some .int)) (hlk : meth.locks = false) (hR : rf + 14 ≤ R.frames ∧ rl + 381 ≤ R.locals) (hG : Geo F L) (hTx : F 28 3 = some 34)  : ∀ {ls : Array Slot} {H : Heap} {locs : List Loc}, Rd_readNot_b33 RO I x1 x2 Q → hW D cA z EvC (I, J, T, F, L) A s H locs → lv_has ls 5 [(0, .ref (z + 28)), (1, .int x1), (2, .int x2)] → W p l e R s m args below meth c H locs 0 0 (MQ below (va_Qi (pI J T F L Q) (hB D cA z A) A) args s 0 0 A) (F0 m 33 ls []) := by
  have hx := X.1
  have hb := X.2.1
  intro ls H locs h hw hl
  unfold Rd_readNot_b33 at h
  refine lv_aload_n hx hb dX6_readNot_33 rfl (lv_at hl 0 rfl) ?_
  refine hm_geti X hw lk_6_40 (gl_28 hG) dX6_readNot_34 ?_
  refine lv_sipush (v := 151) hx hb dX6_readNot_37 (by decide) ?_
  refine lv_icmp_ne (tgt := 48) hx hb dX6_readNot_40 (by decide) (fun hc => ?_) (fun hc => ?_)
  · have h := Eq.mp (if_neg hc) h
    exact wkRd_readNot_b48 hRO X hr hlk hR hG hTx  h hw (lv_sub hl [0, 1, 2] rfl)
  · have h := Eq.mp (if_pos hc) h
    refine lv_aload_n hx hb dX6_readNot_43 rfl (lv_at hl 0 rfl) ?_
    refine lv_iconst (v := 2) hx hb dX6_readNot_44 (by decide) ?_
    refine hm_callv hw (hm_runV (rest := []) EvC_cl X hw (cRd_stop EvC_cl hG hTx h) yk_X6_stop kw960 rfl (gl_28 hG) rfl hl.1 rfl rfl rfl (Nat.le_of_ble_eq_true rfl) ⟨Nat.le_trans (show 0 + 1 ≤ rf + 14 by omega) hR.1, Nat.le_trans (show 8 + (2 + 11) + (0) ≤ rl + 381 by omega) hR.2⟩ ⟨Nat.zero_le _, Nat.zero_le _⟩ dX6_readNot_45) (fun u8 H locs hp hw => ?_)
    obtain ⟨I7, rfl, h⟩ := hp
    exact wkRd_readNot_b48 hRO X hr hlk hR hG hTx  h hw (lv_sub hl [0, 1, 2] rfl)

theorem wkRd_readNot_l4 {T : HR} {F : HR} {L : HL} {x1 : Int32} {Q : Int32 → HI → Prop} {RO : HI → Int32 → (Int32 → HI → Prop) → Prop} {rf rl : Nat} (hRO : ∀ {l : Launch} {D : va_G} {cA : Nat → ClassId} {z sz : Nat} {J : HJ} {I : HI} {T : HR} {F : HR} {L : HL} {y1 : Int32} {Q : Int32 → HI → Prop}, (Geo F L) → (F 28 3 = some 34) → RO I y1 Q → Met l yX6_readOr (hws0 yX6_readOr cX6_readOr 4 (some .int)) { frames := rf, cells := 0, slots := 0, locals := rl } (hPc D cA z EvC (I, J, T, F, L) sz [.ref (z + 28), .int y1]) (va_Qi (pI J T F L Q) (hB D cA z (hA z L sz)) (hA z L sz)) 0 0 (hA z L sz)) (X : hX p m c s args RX6 cX6_readNot 5) (hr : meth.sig.returnType = (some .int)) (hlk : meth.locks = false) (hR : rf + 14 ≤ R.frames ∧ rl + 381 ≤ R.locals) (hG : Geo F L) (hTx : F 28 3 = some 34)  : ∀ (n : Nat) (I : HI) (x2 : Int32) (x3 : Int32) {ls : Array Slot} {H : Heap} {locs : List Loc}, Rd_readNot_l4 RO x1 Q n I x2 x3 → hW D cA z EvC (I, J, T, F, L) A s H locs → lv_has ls 5 [(0, .ref (z + 28)), (1, .int x1), (2, .int x2), (3, .int x3)] → W p l e R s m args below meth c H locs 0 0 (MQ below (va_Qi (pI J T F L Q) (hB D cA z A) A) args s 0 0 A) (F0 m 4 ls []) := by
  have hx := X.1
  have hb := X.2.1
  intro n
  induction n with
  | zero => intro I x2 x3 ls H locs h; exact False.elim h
  | succ n ih =>
    intro I x2 x3 ls H locs h hw hl
    rw [Rd_readNot_l4] at h
    refine lv_iload_n hx hb dX6_readNot_4 rfl (lv_at hl 3 rfl) ?_
    refine lv_bipush (v := 6) hx hb dX6_readNot_5 (by decide) ?_
    refine lv_icmp_ge (tgt := 33) hx hb dX6_readNot_7 (by decide) (fun hc => ?_) (fun hc => ?_)
    · have h := Eq.mp (if_pos hc) h
      exact wkRd_readNot_b33 hRO X hr hlk hR hG hTx  h hw (lv_sub hl [0, 1, 2] rfl)
    · have h := Eq.mp (if_neg hc) h
      refine lv_aload_n hx hb dX6_readNot_10 rfl (lv_at hl 0 rfl) ?_
      refine hm_geti X hw lk_6_40 (gl_28 hG) dX6_readNot_11 ?_
      refine lv_sipush (v := 151) hx hb dX6_readNot_14 (by decide) ?_
      refine lv_icmp_ne (tgt := 33) hx hb dX6_readNot_17 (by decide) (fun hc => ?_) (fun hc => ?_)
      · have h := Eq.mp (if_neg hc) h
        exact wkRd_readNot_b33 hRO X hr hlk hR hG hTx  h hw (lv_sub hl [0, 1, 2] rfl)
      · have h := Eq.mp (if_pos hc) h
        refine lv_aload_n hx hb dX6_readNot_20 rfl (lv_at hl 0 rfl) ?_
        refine hm_callv hw (hm_runV (rest := []) EvC_cl X hw (cRd_next hG hTx h) yk_X6_next kw886 rfl (gl_28 hG) rfl hl.1 rfl rfl rfl (Nat.le_of_ble_eq_true rfl) ⟨Nat.le_trans (show 8 + 1 ≤ rf + 14 by omega) hR.1, Nat.le_trans (show 8 + (1 + 11) + (245) ≤ rl + 381 by omega) hR.2⟩ ⟨Nat.zero_le _, Nat.zero_le _⟩ dX6_readNot_21) (fun u10 H locs hp hw => ?_)
        obtain ⟨I9, rfl, h⟩ := hp
        refine lv_iinc (v := x2 + 1) (lv' := [(2, _), (0, _), (1, _), (3, _)]) hx hb dX6_readNot_24 hl (k := 2) rfl rfl (by decide) rfl (fun ls hl => ?_)
        refine lv_iinc (v := x3 + 1) (lv' := [(3, _), (2, _), (0, _), (1, _)]) hx hb dX6_readNot_27 hl (k := 3) rfl rfl (by decide) rfl (fun ls hl => ?_)
        refine lv_goto (tgt := 4) hx hb dX6_readNot_30 (by decide) ?_
        exact ih _ _ _ h hw (lv_sub hl [2, 3, 1, 0] rfl)

theorem cRd_readNot {l : Launch} {D : va_G} {cA : Nat → ClassId} {z sz : Nat} {RO : HI → Int32 → (Int32 → HI → Prop) → Prop} {rf rl : Nat} (hRO : ∀ {l : Launch} {D : va_G} {cA : Nat → ClassId} {z sz : Nat} {J : HJ} {I : HI} {T : HR} {F : HR} {L : HL} {y1 : Int32} {Q : Int32 → HI → Prop}, (Geo F L) → (F 28 3 = some 34) → RO I y1 Q → Met l yX6_readOr (hws0 yX6_readOr cX6_readOr 4 (some .int)) { frames := rf, cells := 0, slots := 0, locals := rl } (hPc D cA z EvC (I, J, T, F, L) sz [.ref (z + 28), .int y1]) (va_Qi (pI J T F L Q) (hB D cA z (hA z L sz)) (hA z L sz)) 0 0 (hA z L sz)) {I : HI} {T : HR} {F : HR} {L : HL} {x1 : Int32} {Q : Int32 → HI → Prop} (hG : Geo F L) (hTx : F 28 3 = some 34) (h : Rd_readNot RO I x1 Q) : Met l yX6_readNot (hws0 yX6_readNot cX6_readNot 5 (some .int)) { frames := rf + 14, cells := 0, slots := 0, locals := rl + 381 } (hPc D cA z EvC (I, J, T, F, L) sz [.ref (z + 28), .int x1]) (va_Qi (pI J T F L Q) (hB D cA z (hA z L sz)) (hA z L sz)) 0 0 (hA z L sz) := by
  refine hm_met (I, J, T, F, L) [.ref (z + 28), .int x1] rfl (by decide) (Nat.le_of_ble_eq_true rfl) ?_
  intro p e s m below meth c ls X hr hlk hnm hxt hsz hw hl
  have hl : lv_has ls 5 [(0, .ref (z + 28)), (1, .int x1)] := hl
  have hR : rf + 14 ≤ ({ frames := rf + 14, cells := 0, slots := 0, locals := rl + 381 } : Room).frames ∧ rl + 381 ≤ ({ frames := rf + 14, cells := 0, slots := 0, locals := rl + 381 } : Room).locals := ⟨Nat.le_refl _, Nat.le_refl _⟩
  generalize ({ frames := rf + 14, cells := 0, slots := 0, locals := rl + 381 } : Room) = R at hR ⊢
  clear hsz
  generalize (hA z L sz) = A at hw ⊢
  have hx := X.1
  have hb := X.2.1
  unfold Rd_readNot at h
  refine lv_iconst (v := 0) hx hb dX6_readNot_0 (by decide) ?_
  refine lv_istore_n (lv' := [(2, _), (0, _), (1, _)]) hx hb dX6_readNot_1 rfl hl (by decide) rfl (fun ls hl => ?_)
  refine lv_iconst (v := 0) hx hb dX6_readNot_2 (by decide) ?_
  refine lv_istore_n (lv' := [(3, _), (2, _), (0, _), (1, _)]) hx hb dX6_readNot_3 rfl hl (by decide) rfl (fun ls hl => ?_)
  obtain ⟨n2, h⟩ := h
  exact wkRd_readNot_l4 hRO X hr hlk hR hG hTx  n2 _ _ _ h hw (lv_sub hl [2, 3, 1, 0] rfl)

theorem wkRd_readAnd_l8 {T : HR} {F : HR} {L : HL} {x1 : Int32} {Q : Int32 → HI → Prop} {RO : HI → Int32 → (Int32 → HI → Prop) → Prop} {rf rl : Nat} (hRO : ∀ {l : Launch} {D : va_G} {cA : Nat → ClassId} {z sz : Nat} {J : HJ} {I : HI} {T : HR} {F : HR} {L : HL} {y1 : Int32} {Q : Int32 → HI → Prop}, (Geo F L) → (F 28 3 = some 34) → RO I y1 Q → Met l yX6_readOr (hws0 yX6_readOr cX6_readOr 4 (some .int)) { frames := rf, cells := 0, slots := 0, locals := rl } (hPc D cA z EvC (I, J, T, F, L) sz [.ref (z + 28), .int y1]) (va_Qi (pI J T F L Q) (hB D cA z (hA z L sz)) (hA z L sz)) 0 0 (hA z L sz)) (X : hX p m c s args RX6 cX6_readAnd 4) (hr : meth.sig.returnType = (some .int)) (hlk : meth.locks = false) (hR : rf + 15 ≤ R.frames ∧ rl + 405 ≤ R.locals) (hG : Geo F L) (hTx : F 28 3 = some 34)  : ∀ (n : Nat) (I : HI) (x2 : Int32) (x3 : Int32) {ls : Array Slot} {H : Heap} {locs : List Loc}, Rd_readAnd_l8 RO x1 Q n I x2 x3 → hW D cA z EvC (I, J, T, F, L) A s H locs → lv_has ls 4 [(0, .ref (z + 28)), (1, .int x1), (2, .int x2), (3, .int x3)] → W p l e R s m args below meth c H locs 0 0 (MQ below (va_Qi (pI J T F L Q) (hB D cA z A) A) args s 0 0 A) (F0 m 8 ls []) := by
  have hx := X.1
  have hb := X.2.1
  intro n
  induction n with
  | zero => intro I x2 x3 ls H locs h; exact False.elim h
  | succ n ih =>
    intro I x2 x3 ls H locs h hw hl
    rw [Rd_readAnd_l8] at h
    refine lv_iload_n hx hb dX6_readAnd_8 rfl (lv_at hl 3 rfl) ?_
    refine lv_aload_n hx hb dX6_readAnd_9 rfl (lv_at hl 0 rfl) ?_
    refine hm_geti X hw lk_6_28 (gl_28 hG) dX6_readAnd_10 ?_
    refine lv_icmp_ge (tgt := 50) hx hb dX6_readAnd_13 (by decide) (fun hc => ?_) (fun hc => ?_)
    · have h := Eq.mp (if_pos hc) h
      refine lv_iload_n hx hb dX6_readAnd_50 rfl (lv_at hl 2 rfl) ?_
      exact hm_iret X hr hlk hw ⟨_, rfl, h⟩ dX6_readAnd_51
    · have h := Eq.mp (if_neg hc) h
      refine lv_aload_n hx hb dX6_readAnd_16 rfl (lv_at hl 0 rfl) ?_
      refine hm_geti X hw lk_6_40 (gl_28 hG) dX6_readAnd_17 ?_
      refine lv_sipush (v := 152) hx hb dX6_readAnd_20 (by decide) ?_
      refine lv_icmp_ne (tgt := 50) hx hb dX6_readAnd_23 (by decide) (fun hc => ?_) (fun hc => ?_)
      · have h := Eq.mp (if_neg hc) h
        refine lv_iload_n hx hb dX6_readAnd_50 rfl (lv_at hl 2 rfl) ?_
        exact hm_iret X hr hlk hw ⟨_, rfl, h⟩ dX6_readAnd_51
      · have h := Eq.mp (if_pos hc) h
        refine lv_aload_n hx hb dX6_readAnd_26 rfl (lv_at hl 0 rfl) ?_
        refine hm_callv hw (hm_runV (rest := []) EvC_cl X hw (cRd_next hG hTx h) yk_X6_next kw886 rfl (gl_28 hG) rfl hl.1 rfl rfl rfl (Nat.le_of_ble_eq_true rfl) ⟨Nat.le_trans (show 8 + 1 ≤ rf + 15 by omega) hR.1, Nat.le_trans (show 8 + (1 + 11) + (245) ≤ rl + 405 by omega) hR.2⟩ ⟨Nat.zero_le _, Nat.zero_le _⟩ dX6_readAnd_27) (fun u5 H locs hp hw => ?_)
        obtain ⟨I4, rfl, h⟩ := hp
        refine lv_aload_n hx hb dX6_readAnd_30 rfl (lv_at hl 0 rfl) ?_
        refine lv_sipush (v := 152) hx hb dX6_readAnd_31 (by decide) ?_
        refine lv_iload_n hx hb dX6_readAnd_34 rfl (lv_at hl 2 rfl) ?_
        refine lv_aload_n hx hb dX6_readAnd_35 rfl (lv_at hl 0 rfl) ?_
        refine lv_iload_n hx hb dX6_readAnd_36 rfl (lv_at hl 1 rfl) ?_
        refine hm_calli hw (hm_runV (rest := [_, _, _]) EvC_cl X hw (cRd_readNot hRO hG hTx h) yk_X6_readNot kw988 rfl (gl_28 hG) rfl hl.1 rfl rfl rfl (Nat.le_of_ble_eq_true rfl) ⟨Nat.le_trans (show rf + 14 + 1 ≤ rf + 15 by omega) hR.1, Nat.le_trans (show 8 + (5 + 11) + (rl + 381) ≤ rl + 405 by omega) hR.2⟩ ⟨Nat.zero_le _, Nat.zero_le _⟩ dX6_readAnd_37) (fun a6 u8 H locs hp hw => ?_)
        obtain ⟨I7, rfl, h⟩ := hp
        refine hm_calli hw (hm_runV (rest := []) EvC_cl X hw (cRd_add EvC_cl hG hTx h) yk_X6_add kw1012 rfl (gl_28 hG) rfl hl.1 rfl rfl rfl (Nat.le_of_ble_eq_true rfl) ⟨Nat.le_trans (show 0 + 1 ≤ rf + 15 by omega) hR.1, Nat.le_trans (show 8 + (4 + 11) + (0) ≤ rl + 405 by omega) hR.2⟩ ⟨Nat.zero_le _, Nat.zero_le _⟩ dX6_readAnd_40) (fun a9 u11 H locs hp hw => ?_)
        obtain ⟨I10, rfl, h⟩ := hp
        refine lv_istore_n (lv' := [(2, _), (0, _), (1, _), (3, _)]) hx hb dX6_readAnd_43 rfl hl (by decide) rfl (fun ls hl => ?_)
        refine lv_iinc (v := x3 + 1) (lv' := [(3, _), (2, _), (0, _), (1, _)]) hx hb dX6_readAnd_44 hl (k := 3) rfl rfl (by decide) rfl (fun ls hl => ?_)
        refine lv_goto (tgt := 8) hx hb dX6_readAnd_47 (by decide) ?_
        exact ih _ _ _ h hw (lv_sub hl [2, 3, 1, 0] rfl)

theorem cRd_readAnd {l : Launch} {D : va_G} {cA : Nat → ClassId} {z sz : Nat} {RO : HI → Int32 → (Int32 → HI → Prop) → Prop} {rf rl : Nat} (hRO : ∀ {l : Launch} {D : va_G} {cA : Nat → ClassId} {z sz : Nat} {J : HJ} {I : HI} {T : HR} {F : HR} {L : HL} {y1 : Int32} {Q : Int32 → HI → Prop}, (Geo F L) → (F 28 3 = some 34) → RO I y1 Q → Met l yX6_readOr (hws0 yX6_readOr cX6_readOr 4 (some .int)) { frames := rf, cells := 0, slots := 0, locals := rl } (hPc D cA z EvC (I, J, T, F, L) sz [.ref (z + 28), .int y1]) (va_Qi (pI J T F L Q) (hB D cA z (hA z L sz)) (hA z L sz)) 0 0 (hA z L sz)) {I : HI} {T : HR} {F : HR} {L : HL} {x1 : Int32} {Q : Int32 → HI → Prop} (hG : Geo F L) (hTx : F 28 3 = some 34) (h : Rd_readAnd RO I x1 Q) : Met l yX6_readAnd (hws0 yX6_readAnd cX6_readAnd 4 (some .int)) { frames := rf + 15, cells := 0, slots := 0, locals := rl + 405 } (hPc D cA z EvC (I, J, T, F, L) sz [.ref (z + 28), .int x1]) (va_Qi (pI J T F L Q) (hB D cA z (hA z L sz)) (hA z L sz)) 0 0 (hA z L sz) := by
  refine hm_met (I, J, T, F, L) [.ref (z + 28), .int x1] rfl (by decide) (Nat.le_of_ble_eq_true rfl) ?_
  intro p e s m below meth c ls X hr hlk hnm hxt hsz hw hl
  have hl : lv_has ls 4 [(0, .ref (z + 28)), (1, .int x1)] := hl
  have hR : rf + 15 ≤ ({ frames := rf + 15, cells := 0, slots := 0, locals := rl + 405 } : Room).frames ∧ rl + 405 ≤ ({ frames := rf + 15, cells := 0, slots := 0, locals := rl + 405 } : Room).locals := ⟨Nat.le_refl _, Nat.le_refl _⟩
  generalize ({ frames := rf + 15, cells := 0, slots := 0, locals := rl + 405 } : Room) = R at hR ⊢
  clear hsz
  generalize (hA z L sz) = A at hw ⊢
  have hx := X.1
  have hb := X.2.1
  unfold Rd_readAnd at h
  refine lv_aload_n hx hb dX6_readAnd_0 rfl (lv_at hl 0 rfl) ?_
  refine lv_iload_n hx hb dX6_readAnd_1 rfl (lv_at hl 1 rfl) ?_
  refine hm_calli hw (hm_runV (rest := []) EvC_cl X hw (cRd_readNot hRO hG hTx h) yk_X6_readNot kw988 rfl (gl_28 hG) rfl hl.1 rfl rfl rfl (Nat.le_of_ble_eq_true rfl) ⟨Nat.le_trans (show rf + 14 + 1 ≤ rf + 15 by omega) hR.1, Nat.le_trans (show 8 + (5 + 11) + (rl + 381) ≤ rl + 405 by omega) hR.2⟩ ⟨Nat.zero_le _, Nat.zero_le _⟩ dX6_readAnd_2) (fun a1 u3 H locs hp hw => ?_)
  obtain ⟨I2, rfl, h⟩ := hp
  refine lv_istore_n (lv' := [(2, _), (0, _), (1, _)]) hx hb dX6_readAnd_5 rfl hl (by decide) rfl (fun ls hl => ?_)
  refine lv_iconst (v := 0) hx hb dX6_readAnd_6 (by decide) ?_
  refine lv_istore_n (lv' := [(3, _), (2, _), (0, _), (1, _)]) hx hb dX6_readAnd_7 rfl hl (by decide) rfl (fun ls hl => ?_)
  obtain ⟨n2, h⟩ := h
  exact wkRd_readAnd_l8 hRO X hr hlk hR hG hTx  n2 _ _ _ h hw (lv_sub hl [2, 3, 1, 0] rfl)

theorem wkRd_readOr_l43 {T : HR} {F : HR} {L : HL} {x1 : Int32} {Q : Int32 → HI → Prop} {RO : HI → Int32 → (Int32 → HI → Prop) → Prop} {rf rl : Nat} (hRO : ∀ {l : Launch} {D : va_G} {cA : Nat → ClassId} {z sz : Nat} {J : HJ} {I : HI} {T : HR} {F : HR} {L : HL} {y1 : Int32} {Q : Int32 → HI → Prop}, (Geo F L) → (F 28 3 = some 34) → RO I y1 Q → Met l yX6_readOr (hws0 yX6_readOr cX6_readOr 4 (some .int)) { frames := rf, cells := 0, slots := 0, locals := rl } (hPc D cA z EvC (I, J, T, F, L) sz [.ref (z + 28), .int y1]) (va_Qi (pI J T F L Q) (hB D cA z (hA z L sz)) (hA z L sz)) 0 0 (hA z L sz)) (X : hX p m c s args RX6 cX6_readOr 4) (hr : meth.sig.returnType = (some .int)) (hlk : meth.locks = false) (hR : rf + 16 ≤ R.frames ∧ rl + 428 ≤ R.locals) (hG : Geo F L) (hTx : F 28 3 = some 34)  : ∀ (n : Nat) (I : HI) (x2 : Int32) (x3 : Int32) {ls : Array Slot} {H : Heap} {locs : List Loc}, Rd_readOr_l43 RO x1 Q n I x2 x3 → hW D cA z EvC (I, J, T, F, L) A s H locs → lv_has ls 4 [(0, .ref (z + 28)), (1, .int x1), (2, .int x2), (3, .int x3)] → W p l e R s m args below meth c H locs 0 0 (MQ below (va_Qi (pI J T F L Q) (hB D cA z A) A) args s 0 0 A) (F0 m 43 ls []) := by
  have hx := X.1
  have hb := X.2.1
  intro n
  induction n with
  | zero => intro I x2 x3 ls H locs h; exact False.elim h
  | succ n ih =>
    intro I x2 x3 ls H locs h hw hl
    rw [Rd_readOr_l43] at h
    refine lv_iload_n hx hb dX6_readOr_43 rfl (lv_at hl 3 rfl) ?_
    refine lv_aload_n hx hb dX6_readOr_44 rfl (lv_at hl 0 rfl) ?_
    refine hm_geti X hw lk_6_28 (gl_28 hG) dX6_readOr_45 ?_
    refine lv_icmp_ge (tgt := 85) hx hb dX6_readOr_48 (by decide) (fun hc => ?_) (fun hc => ?_)
    · have h := Eq.mp (if_pos hc) h
      refine lv_iload_n hx hb dX6_readOr_85 rfl (lv_at hl 2 rfl) ?_
      exact hm_iret X hr hlk hw ⟨_, rfl, h⟩ dX6_readOr_86
    · have h := Eq.mp (if_neg hc) h
      refine lv_aload_n hx hb dX6_readOr_51 rfl (lv_at hl 0 rfl) ?_
      refine hm_geti X hw lk_6_40 (gl_28 hG) dX6_readOr_52 ?_
      refine lv_sipush (v := 153) hx hb dX6_readOr_55 (by decide) ?_
      refine lv_icmp_ne (tgt := 85) hx hb dX6_readOr_58 (by decide) (fun hc => ?_) (fun hc => ?_)
      · have h := Eq.mp (if_neg hc) h
        refine lv_iload_n hx hb dX6_readOr_85 rfl (lv_at hl 2 rfl) ?_
        exact hm_iret X hr hlk hw ⟨_, rfl, h⟩ dX6_readOr_86
      · have h := Eq.mp (if_pos hc) h
        refine lv_aload_n hx hb dX6_readOr_61 rfl (lv_at hl 0 rfl) ?_
        refine hm_callv hw (hm_runV (rest := []) EvC_cl X hw (cRd_next hG hTx h) yk_X6_next kw886 rfl (gl_28 hG) rfl hl.1 rfl rfl rfl (Nat.le_of_ble_eq_true rfl) ⟨Nat.le_trans (show 8 + 1 ≤ rf + 16 by omega) hR.1, Nat.le_trans (show 8 + (1 + 11) + (245) ≤ rl + 428 by omega) hR.2⟩ ⟨Nat.zero_le _, Nat.zero_le _⟩ dX6_readOr_62) (fun u5 H locs hp hw => ?_)
        obtain ⟨I4, rfl, h⟩ := hp
        refine lv_aload_n hx hb dX6_readOr_65 rfl (lv_at hl 0 rfl) ?_
        refine lv_sipush (v := 153) hx hb dX6_readOr_66 (by decide) ?_
        refine lv_iload_n hx hb dX6_readOr_69 rfl (lv_at hl 2 rfl) ?_
        refine lv_aload_n hx hb dX6_readOr_70 rfl (lv_at hl 0 rfl) ?_
        refine lv_iload_n hx hb dX6_readOr_71 rfl (lv_at hl 1 rfl) ?_
        refine hm_calli hw (hm_runV (rest := [_, _, _]) EvC_cl X hw (cRd_readAnd hRO hG hTx h) yk_X6_readAnd kw984 rfl (gl_28 hG) rfl hl.1 rfl rfl rfl (Nat.le_of_ble_eq_true rfl) ⟨Nat.le_trans (show rf + 15 + 1 ≤ rf + 16 by omega) hR.1, Nat.le_trans (show 8 + (4 + 11) + (rl + 405) ≤ rl + 428 by omega) hR.2⟩ ⟨Nat.zero_le _, Nat.zero_le _⟩ dX6_readOr_72) (fun a6 u8 H locs hp hw => ?_)
        obtain ⟨I7, rfl, h⟩ := hp
        refine hm_calli hw (hm_runV (rest := []) EvC_cl X hw (cRd_add EvC_cl hG hTx h) yk_X6_add kw1012 rfl (gl_28 hG) rfl hl.1 rfl rfl rfl (Nat.le_of_ble_eq_true rfl) ⟨Nat.le_trans (show 0 + 1 ≤ rf + 16 by omega) hR.1, Nat.le_trans (show 8 + (4 + 11) + (0) ≤ rl + 428 by omega) hR.2⟩ ⟨Nat.zero_le _, Nat.zero_le _⟩ dX6_readOr_75) (fun a9 u11 H locs hp hw => ?_)
        obtain ⟨I10, rfl, h⟩ := hp
        refine lv_istore_n (lv' := [(2, _), (0, _), (1, _), (3, _)]) hx hb dX6_readOr_78 rfl hl (by decide) rfl (fun ls hl => ?_)
        refine lv_iinc (v := x3 + 1) (lv' := [(3, _), (2, _), (0, _), (1, _)]) hx hb dX6_readOr_79 hl (k := 3) rfl rfl (by decide) rfl (fun ls hl => ?_)
        refine lv_goto (tgt := 43) hx hb dX6_readOr_82 (by decide) ?_
        exact ih _ _ _ h hw (lv_sub hl [2, 3, 1, 0] rfl)

theorem wkRd_readOr_b35 {I : HI} {T : HR} {F : HR} {L : HL} {x1 : Int32} {Q : Int32 → HI → Prop} {RO : HI → Int32 → (Int32 → HI → Prop) → Prop} {rf rl : Nat} (hRO : ∀ {l : Launch} {D : va_G} {cA : Nat → ClassId} {z sz : Nat} {J : HJ} {I : HI} {T : HR} {F : HR} {L : HL} {y1 : Int32} {Q : Int32 → HI → Prop}, (Geo F L) → (F 28 3 = some 34) → RO I y1 Q → Met l yX6_readOr (hws0 yX6_readOr cX6_readOr 4 (some .int)) { frames := rf, cells := 0, slots := 0, locals := rl } (hPc D cA z EvC (I, J, T, F, L) sz [.ref (z + 28), .int y1]) (va_Qi (pI J T F L Q) (hB D cA z (hA z L sz)) (hA z L sz)) 0 0 (hA z L sz)) (X : hX p m c s args RX6 cX6_readOr 4) (hr : meth.sig.returnType = (some .int)) (hlk : meth.locks = false) (hR : rf + 16 ≤ R.frames ∧ rl + 428 ≤ R.locals) (hG : Geo F L) (hTx : F 28 3 = some 34)  : ∀ {ls : Array Slot} {H : Heap} {locs : List Loc}, Rd_readOr_b35 RO I x1 Q → hW D cA z EvC (I, J, T, F, L) A s H locs → lv_has ls 4 [(0, .ref (z + 28)), (1, .int x1)] → W p l e R s m args below meth c H locs 0 0 (MQ below (va_Qi (pI J T F L Q) (hB D cA z A) A) args s 0 0 A) (F0 m 35 ls []) := by
  have hx := X.1
  have hb := X.2.1
  intro ls H locs h hw hl
  unfold Rd_readOr_b35 at h
  refine lv_aload_n hx hb dX6_readOr_35 rfl (lv_at hl 0 rfl) ?_
  refine lv_iload_n hx hb dX6_readOr_36 rfl (lv_at hl 1 rfl) ?_
  refine hm_calli hw (hm_runV (rest := []) EvC_cl X hw (cRd_readAnd hRO hG hTx h) yk_X6_readAnd kw984 rfl (gl_28 hG) rfl hl.1 rfl rfl rfl (Nat.le_of_ble_eq_true rfl) ⟨Nat.le_trans (show rf + 15 + 1 ≤ rf + 16 by omega) hR.1, Nat.le_trans (show 8 + (4 + 11) + (rl + 405) ≤ rl + 428 by omega) hR.2⟩ ⟨Nat.zero_le _, Nat.zero_le _⟩ dX6_readOr_37) (fun a1 u3 H locs hp hw => ?_)
  obtain ⟨I2, rfl, h⟩ := hp
  refine lv_istore_n (lv' := [(2, _), (0, _), (1, _)]) hx hb dX6_readOr_40 rfl hl (by decide) rfl (fun ls hl => ?_)
  refine lv_iconst (v := 0) hx hb dX6_readOr_41 (by decide) ?_
  refine lv_istore_n (lv' := [(3, _), (2, _), (0, _), (1, _)]) hx hb dX6_readOr_42 rfl hl (by decide) rfl (fun ls hl => ?_)
  obtain ⟨n2, h⟩ := h
  exact wkRd_readOr_l43 hRO X hr hlk hR hG hTx  n2 _ _ _ h hw (lv_sub hl [2, 3, 1, 0] rfl)

theorem cRd_readOr_o {l : Launch} {D : va_G} {cA : Nat → ClassId} {z sz : Nat} {RO : HI → Int32 → (Int32 → HI → Prop) → Prop} {rf rl : Nat} (hRO : ∀ {l : Launch} {D : va_G} {cA : Nat → ClassId} {z sz : Nat} {J : HJ} {I : HI} {T : HR} {F : HR} {L : HL} {y1 : Int32} {Q : Int32 → HI → Prop}, (Geo F L) → (F 28 3 = some 34) → RO I y1 Q → Met l yX6_readOr (hws0 yX6_readOr cX6_readOr 4 (some .int)) { frames := rf, cells := 0, slots := 0, locals := rl } (hPc D cA z EvC (I, J, T, F, L) sz [.ref (z + 28), .int y1]) (va_Qi (pI J T F L Q) (hB D cA z (hA z L sz)) (hA z L sz)) 0 0 (hA z L sz)) {I : HI} {T : HR} {F : HR} {L : HL} {x1 : Int32} {Q : Int32 → HI → Prop} (hG : Geo F L) (hTx : F 28 3 = some 34) (h : Rd_readOr_o RO I x1 Q) : Met l yX6_readOr (hws0 yX6_readOr cX6_readOr 4 (some .int)) { frames := rf + 16, cells := 0, slots := 0, locals := rl + 428 } (hPc D cA z EvC (I, J, T, F, L) sz [.ref (z + 28), .int x1]) (va_Qi (pI J T F L Q) (hB D cA z (hA z L sz)) (hA z L sz)) 0 0 (hA z L sz) := by
  refine hm_met (I, J, T, F, L) [.ref (z + 28), .int x1] rfl (by decide) (Nat.le_of_ble_eq_true rfl) ?_
  intro p e s m below meth c ls X hr hlk hnm hxt hsz hw hl
  have hl : lv_has ls 4 [(0, .ref (z + 28)), (1, .int x1)] := hl
  have hR : rf + 16 ≤ ({ frames := rf + 16, cells := 0, slots := 0, locals := rl + 428 } : Room).frames ∧ rl + 428 ≤ ({ frames := rf + 16, cells := 0, slots := 0, locals := rl + 428 } : Room).locals := ⟨Nat.le_refl _, Nat.le_refl _⟩
  generalize ({ frames := rf + 16, cells := 0, slots := 0, locals := rl + 428 } : Room) = R at hR ⊢
  clear hsz
  generalize (hA z L sz) = A at hw ⊢
  have hx := X.1
  have hb := X.2.1
  unfold Rd_readOr_o at h
  refine lv_iload_n hx hb dX6_readOr_0 rfl (lv_at hl 1 rfl) ?_
  refine lv_iconst (v := 5) hx hb dX6_readOr_1 (by decide) ?_
  refine lv_icmp_le (tgt := 35) hx hb dX6_readOr_2 (by decide) (fun hc => ?_) (fun hc => ?_)
  · have h := Eq.mp (if_pos hc) h
    exact wkRd_readOr_b35 hRO X hr hlk hR hG hTx  h hw (lv_sub hl [0, 1] rfl)
  · have h := Eq.mp (if_neg hc) h
    refine lv_aload_n hx hb dX6_readOr_5 rfl (lv_at hl 0 rfl) ?_
    refine hm_calli hw (hm_runV (rest := []) EvC_cl X hw (cRd_isNumber EvC_cl hG hTx h) yk_X6_isNumber kw976 rfl (gl_28 hG) rfl hl.1 rfl rfl rfl (Nat.le_of_ble_eq_true rfl) ⟨Nat.le_trans (show 0 + 1 ≤ rf + 16 by omega) hR.1, Nat.le_trans (show 8 + (1 + 11) + (0) ≤ rl + 428 by omega) hR.2⟩ ⟨Nat.zero_le _, Nat.zero_le _⟩ dX6_readOr_6) (fun a12 u13 H locs hp hw => ?_)
    obtain ⟨rfl, h⟩ := hp
    refine lv_if_ne (tgt := 28) hx hb dX6_readOr_9 (by decide) (fun hc => ?_) (fun hc => ?_)
    · have h := Eq.mp (if_neg hc) h
      refine lv_aload_n hx hb dX6_readOr_28 rfl (lv_at hl 0 rfl) ?_
      refine lv_iconst (v := 2) hx hb dX6_readOr_29 (by decide) ?_
      refine hm_callv hw (hm_runV (rest := []) EvC_cl X hw (cRd_stop EvC_cl hG hTx h) yk_X6_stop kw960 rfl (gl_28 hG) rfl hl.1 rfl rfl rfl (Nat.le_of_ble_eq_true rfl) ⟨Nat.le_trans (show 0 + 1 ≤ rf + 16 by omega) hR.1, Nat.le_trans (show 8 + (2 + 11) + (0) ≤ rl + 428 by omega) hR.2⟩ ⟨Nat.zero_le _, Nat.zero_le _⟩ dX6_readOr_30) (fun u15 H locs hp hw => ?_)
      obtain ⟨I14, rfl, h⟩ := hp
      refine lv_iconst (v := 0) hx hb dX6_readOr_33 (by decide) ?_
      exact hm_iret X hr hlk hw ⟨_, rfl, h⟩ dX6_readOr_34
    · have h := Eq.mp (if_pos hc) h
      refine lv_aload_n hx hb dX6_readOr_12 rfl (lv_at hl 0 rfl) ?_
      refine hm_calli hw (hm_runV (rest := []) EvC_cl X hw (cRd_isWord EvC_cl hG hTx h) yk_X6_isWord kw980 rfl (gl_28 hG) rfl hl.1 rfl rfl rfl (Nat.le_of_ble_eq_true rfl) ⟨Nat.le_trans (show 0 + 1 ≤ rf + 16 by omega) hR.1, Nat.le_trans (show 8 + (1 + 11) + (0) ≤ rl + 428 by omega) hR.2⟩ ⟨Nat.zero_le _, Nat.zero_le _⟩ dX6_readOr_13) (fun a16 u17 H locs hp hw => ?_)
      obtain ⟨rfl, h⟩ := hp
      refine lv_if_ne (tgt := 28) hx hb dX6_readOr_16 (by decide) (fun hc => ?_) (fun hc => ?_)
      · have h := Eq.mp (if_neg hc) h
        refine lv_aload_n hx hb dX6_readOr_28 rfl (lv_at hl 0 rfl) ?_
        refine lv_iconst (v := 2) hx hb dX6_readOr_29 (by decide) ?_
        refine hm_callv hw (hm_runV (rest := []) EvC_cl X hw (cRd_stop EvC_cl hG hTx h) yk_X6_stop kw960 rfl (gl_28 hG) rfl hl.1 rfl rfl rfl (Nat.le_of_ble_eq_true rfl) ⟨Nat.le_trans (show 0 + 1 ≤ rf + 16 by omega) hR.1, Nat.le_trans (show 8 + (2 + 11) + (0) ≤ rl + 428 by omega) hR.2⟩ ⟨Nat.zero_le _, Nat.zero_le _⟩ dX6_readOr_30) (fun u19 H locs hp hw => ?_)
        obtain ⟨I18, rfl, h⟩ := hp
        refine lv_iconst (v := 0) hx hb dX6_readOr_33 (by decide) ?_
        exact hm_iret X hr hlk hw ⟨_, rfl, h⟩ dX6_readOr_34
      · have h := Eq.mp (if_pos hc) h
        refine lv_aload_n hx hb dX6_readOr_19 rfl (lv_at hl 0 rfl) ?_
        refine hm_geti X hw lk_6_40 (gl_28 hG) dX6_readOr_20 ?_
        refine lv_bipush (v := 40) hx hb dX6_readOr_23 (by decide) ?_
        refine lv_icmp_ne (tgt := 35) hx hb dX6_readOr_25 (by decide) (fun hc => ?_) (fun hc => ?_)
        · have h := Eq.mp (if_neg hc) h
          exact wkRd_readOr_b35 hRO X hr hlk hR hG hTx  h hw (lv_sub hl [0, 1] rfl)
        · have h := Eq.mp (if_pos hc) h
          refine lv_aload_n hx hb dX6_readOr_28 rfl (lv_at hl 0 rfl) ?_
          refine lv_iconst (v := 2) hx hb dX6_readOr_29 (by decide) ?_
          refine hm_callv hw (hm_runV (rest := []) EvC_cl X hw (cRd_stop EvC_cl hG hTx h) yk_X6_stop kw960 rfl (gl_28 hG) rfl hl.1 rfl rfl rfl (Nat.le_of_ble_eq_true rfl) ⟨Nat.le_trans (show 0 + 1 ≤ rf + 16 by omega) hR.1, Nat.le_trans (show 8 + (2 + 11) + (0) ≤ rl + 428 by omega) hR.2⟩ ⟨Nat.zero_le _, Nat.zero_le _⟩ dX6_readOr_30) (fun u21 H locs hp hw => ?_)
          obtain ⟨I20, rfl, h⟩ := hp
          refine lv_iconst (v := 0) hx hb dX6_readOr_33 (by decide) ?_
          exact hm_iret X hr hlk hw ⟨_, rfl, h⟩ dX6_readOr_34

theorem cRd_readOr (d : Nat) : ∀ {l : Launch} {D : va_G} {cA : Nat → ClassId} {z sz : Nat} {J : HJ} {I : HI} {T : HR} {F : HR} {L : HL} {y1 : Int32} {Q : Int32 → HI → Prop}, (Geo F L) → (F 28 3 = some 34) → Rd_readOr d I y1 Q → Met l yX6_readOr (hws0 yX6_readOr cX6_readOr 4 (some .int)) { frames := 16 * d, cells := 0, slots := 0, locals := 428 * d } (hPc D cA z EvC (I, J, T, F, L) sz [.ref (z + 28), .int y1]) (va_Qi (pI J T F L Q) (hB D cA z (hA z L sz)) (hA z L sz)) 0 0 (hA z L sz) := by
  induction d with
  | zero => intros; rename_i h; exact False.elim h
  | succ d ih => intros; rename_i h; exact cRd_readOr_o (rf := 16 * d) (rl := 428 * d) ih (by assumption) (by assumption) h
theorem wkH_needWearer_b15 {I : HI} {T : HR} {F : HR} {L : HL} {Q : Prop} {Xc : Prop} (X : hX p m c s args RX10 cX10_needWearer 2) (hr : meth.sig.returnType = none) (hlk : meth.locks = false) (hR : 7 ≤ R.frames ∧ 120 ≤ R.locals) (hRc : 1 ≤ R.cells ∧ 6 ≤ R.slots) (hlt : l.stackTraces = false) (hxt : c.exceptionTable.isEmpty = true) (hG : Geo F L)  : ∀ {ls : Array Slot} {H : Heap} {locs : List Loc}, H_needWearer_b15 I Q Xc → hW D cA z EvC (I, J, T, F, L) A s H locs → lv_has ls 2 [] → W p l e R s m args below meth c H locs 0 0 (vx_MQ below (va_Qv (p0v (I, J, T, F, L) Q) (hB D cA z A) A) (vx_X (p0v (I, J, T, F, L) Xc) (pX "java/util/NoSuchElementException" D cA z A) A) args s 1 6 A) (F0 m 15 ls []) := by
  have hx := X.1
  have hb := X.2.1
  intro ls H locs h hw hl
  unfold H_needWearer_b15 at h
  exact hm_thrNW (is := 363) (text := "no such wearer") hlt X hxt hlk hw (by decide) ⟨rfl, h⟩ hl.1 dX10_needWearer_15 dX10_needWearer_18 dX10_needWearer_19 dX10_needWearer_22 dX10_needWearer_25 ⟨Nat.le_trans (Nat.le_of_ble_eq_true rfl) hR.1, Nat.le_trans (Nat.le_of_ble_eq_true rfl) hR.2⟩ (Nat.le_trans (Nat.le_of_ble_eq_true rfl) hRc.1) (Nat.le_trans (Nat.le_of_ble_eq_true rfl) hRc.2) (Nat.le_of_ble_eq_true rfl) (Nat.le_of_ble_eq_true rfl)

theorem cH_needWearer {l : Launch} {D : va_G} {cA : Nat → ClassId} {z sz : Nat} {I : HI} {T : HR} {F : HR} {L : HL} {x1 : Int32} {Q : Prop} {Xc : Prop} (hlt : l.stackTraces = false) (hG : Geo F L) (h : H_needWearer I x1 Q Xc) : vx_Met l yX10_needWearer (hws0 yX10_needWearer cX10_needWearer 2 none) { frames := 7, cells := 1, slots := 6, locals := 120 } (hPc D cA z EvC (I, J, T, F, L) sz [.ref (z + 0), .int x1]) (va_Qv (p0v (I, J, T, F, L) Q) (hB D cA z (hA z L sz)) (hA z L sz)) (vx_X (p0v (I, J, T, F, L) Xc) (pX "java/util/NoSuchElementException" D cA z (hA z L sz)) (hA z L sz)) 1 6 (hA z L sz) := by
  refine hm_xmet (I, J, T, F, L) [.ref (z + 0), .int x1] rfl (by decide) (Nat.le_of_ble_eq_true rfl) ?_
  intro p e s m below meth c ls X hr hlk hnm hxt hsz hw hl
  have hl : lv_has ls 2 [(0, .ref (z + 0)), (1, .int x1)] := hl
  have hR : 7 ≤ ({ frames := 7, cells := 1, slots := 6, locals := 120 } : Room).frames ∧ 120 ≤ ({ frames := 7, cells := 1, slots := 6, locals := 120 } : Room).locals := ⟨Nat.le_refl _, Nat.le_refl _⟩
  have hRc : 1 ≤ ({ frames := 7, cells := 1, slots := 6, locals := 120 } : Room).cells ∧ 6 ≤ ({ frames := 7, cells := 1, slots := 6, locals := 120 } : Room).slots := ⟨Nat.le_refl _, Nat.le_refl _⟩
  generalize ({ frames := 7, cells := 1, slots := 6, locals := 120 } : Room) = R at hR hRc ⊢
  clear hsz
  generalize (hA z L sz) = A at hw ⊢
  have hx := X.1
  have hb := X.2.1
  unfold H_needWearer at h
  refine lv_iload_n hx hb dX10_needWearer_0 rfl (lv_at hl 1 rfl) ?_
  refine lv_if_lt (tgt := 15) hx hb dX10_needWearer_1 (by decide) (fun hc => ?_) (fun hc => ?_)
  · have h := Eq.mp (if_pos hc) h
    exact wkH_needWearer_b15 X hr hlk hR hRc hlt hxt hG  h hw (lv_sub hl [] rfl)
  · have h := Eq.mp (if_neg hc) h
    refine lv_iload_n hx hb dX10_needWearer_4 rfl (lv_at hl 1 rfl) ?_
    refine lv_aload_n hx hb dX10_needWearer_5 rfl (lv_at hl 0 rfl) ?_
    refine hm_getr X hw lk_10_10 (gl_0 hG) (gf_0_0 hG) dX10_needWearer_6 ?_
    refine hm_geti X hw lk_10_150 (gl_1 hG) dX10_needWearer_9 ?_
    refine lv_icmp_lt (tgt := 26) hx hb dX10_needWearer_12 (by decide) (fun hc => ?_) (fun hc => ?_)
    · have h := Eq.mp (if_pos hc) h
      refine vx_ret ?_
      refine W.widen (k := 1) (n := 6) (Nat.le_of_ble_eq_true rfl) (Nat.le_of_ble_eq_true rfl) ?_
      exact hm_vret X hr hlk hw ⟨rfl, h⟩ dX10_needWearer_26
    · have h := Eq.mp (if_neg hc) h
      exact wkH_needWearer_b15 X hr hlk hR hRc hlt hxt hG  h hw (lv_sub hl [] rfl)

theorem cH_looks {l : Launch} {D : va_G} {cA : Nat → ClassId} {z sz : Nat} {I : HI} {T : HR} {F : HR} {L : HL} {x1 : Int32} {x2 : Int32} {Q : Int32 → HI → Prop} {Xc : HI → Prop} (hlt : l.stackTraces = false) (hG : Geo F L) (h : H_looks I x1 x2 Q Xc) : vx_Met l yX10_looks (hws0 yX10_looks cX10_looks 3 (some .boolean)) { frames := 8, cells := 1, slots := 6, locals := 141 } (hPc D cA z EvC (I, J, T, F, L) sz [.ref (z + 0), .int x1, .int x2]) (va_Qi (pI J T F L Q) (hB D cA z (hA z L sz)) (hA z L sz)) (vx_X (pIv J T F L Xc) (pX "java/util/NoSuchElementException" D cA z (hA z L sz)) (hA z L sz)) 1 6 (hA z L sz) := by
  refine hm_xmet (I, J, T, F, L) [.ref (z + 0), .int x1, .int x2] rfl (by decide) (Nat.le_of_ble_eq_true rfl) ?_
  intro p e s m below meth c ls X hr hlk hnm hxt hsz hw hl
  have hl : lv_has ls 3 [(0, .ref (z + 0)), (1, .int x1), (2, .int x2)] := hl
  have hR : 8 ≤ ({ frames := 8, cells := 1, slots := 6, locals := 141 } : Room).frames ∧ 141 ≤ ({ frames := 8, cells := 1, slots := 6, locals := 141 } : Room).locals := ⟨Nat.le_refl _, Nat.le_refl _⟩
  have hRc : 1 ≤ ({ frames := 8, cells := 1, slots := 6, locals := 141 } : Room).cells ∧ 6 ≤ ({ frames := 8, cells := 1, slots := 6, locals := 141 } : Room).slots := ⟨Nat.le_refl _, Nat.le_refl _⟩
  generalize ({ frames := 8, cells := 1, slots := 6, locals := 141 } : Room) = R at hR hRc ⊢
  clear hsz
  generalize (hA z L sz) = A at hw ⊢
  have hx := X.1
  have hb := X.2.1
  unfold H_looks at h
  refine lv_aload_n hx hb dX10_looks_0 rfl (lv_at hl 0 rfl) ?_
  refine lv_iload_n hx hb dX10_looks_1 rfl (lv_at hl 1 rfl) ?_
  refine hm_xcallv hw (hm_xrunV (rest := []) EvC_cl X hw (cH_needWearer hlt hG h) yk_X10_needWearer kw843 rfl (gl_0 hG) rfl hl.1 rfl rfl rfl (Nat.le_of_ble_eq_true rfl) ⟨Nat.le_trans (Nat.le_of_ble_eq_true rfl) hR.1, Nat.le_trans (Nat.le_of_ble_eq_true rfl) hR.2⟩ ⟨Nat.le_trans (Nat.le_of_ble_eq_true rfl) hRc.1, Nat.le_trans (Nat.le_of_ble_eq_true rfl) hRc.2⟩ dX10_looks_2) (fun ce q9 u1 H locs hp hw hq hv hcl => ?_) (fun u1 H locs hp hw => ?_)
  · obtain ⟨rfl, h⟩ := hp
    exact hm_xout hxt hlk hw ⟨_, rfl, h⟩ hq hv hcl (Nat.le_of_ble_eq_true rfl) (Nat.le_of_ble_eq_true rfl)
  obtain ⟨rfl, h⟩ := hp
  refine lv_iload_n hx hb dX10_looks_5 rfl (lv_at hl 2 rfl) ?_
  refine lv_aload_n hx hb dX10_looks_6 rfl (lv_at hl 0 rfl) ?_
  refine hm_getr X hw lk_10_10 (gl_0 hG) (gf_0_0 hG) dX10_looks_7 ?_
  refine lv_iload_n hx hb dX10_looks_10 rfl (lv_at hl 1 rfl) ?_
  refine hm_calli hw (hm_runV (rest := [_]) EvC_cl X hw (cNet_othersOf EvC_cl (geo_net hG) h) yk_X5_othersOf kw848 rfl (gl_1 hG) rfl hl.1 rfl rfl rfl (Nat.le_of_ble_eq_true rfl) ⟨Nat.le_trans (Nat.le_of_ble_eq_true rfl) hR.1, Nat.le_trans (Nat.le_of_ble_eq_true rfl) hR.2⟩ ⟨Nat.le_trans (Nat.le_of_ble_eq_true rfl) hRc.1, Nat.le_trans (Nat.le_of_ble_eq_true rfl) hRc.2⟩ dX10_looks_11) (fun a2 u3 H locs hp hw => ?_)
  obtain ⟨rfl, h⟩ := hp
  refine lv_iconst (v := (-1)) hx hb dX10_looks_14 (by decide) ?_
  refine lv_ixor hx hb dX10_looks_15 ?_
  refine lv_iand hx hb dX10_looks_16 ?_
  refine lv_if_eq (tgt := 22) hx hb dX10_looks_17 (by decide) (fun hc => ?_) (fun hc => ?_)
  · have h := Eq.mp (if_pos hc) h
    refine lv_aload_n hx hb dX10_looks_22 rfl (lv_at hl 0 rfl) ?_
    refine hm_getr X hw lk_10_10 (gl_0 hG) (gf_0_0 hG) dX10_looks_23 ?_
    refine lv_iload_n hx hb dX10_looks_26 rfl (lv_at hl 1 rfl) ?_
    refine lv_iload_n hx hb dX10_looks_27 rfl (lv_at hl 2 rfl) ?_
    refine hm_callv hw (hm_runV (rest := []) EvC_cl X hw (cNet_lookAt EvC_cl (geo_net hG) h) yk_X5_lookAt kw849 rfl (gl_1 hG) rfl hl.1 rfl rfl rfl (Nat.le_of_ble_eq_true rfl) ⟨Nat.le_trans (Nat.le_of_ble_eq_true rfl) hR.1, Nat.le_trans (Nat.le_of_ble_eq_true rfl) hR.2⟩ ⟨Nat.le_trans (Nat.le_of_ble_eq_true rfl) hRc.1, Nat.le_trans (Nat.le_of_ble_eq_true rfl) hRc.2⟩ dX10_looks_28) (fun u5 H locs hp hw => ?_)
    obtain ⟨I4, rfl, h⟩ := hp
    refine lv_aload_n hx hb dX10_looks_31 rfl (lv_at hl 0 rfl) ?_
    refine hm_getr X hw lk_10_40 (gl_0 hG) (gf_0_5 hG) dX10_looks_32 ?_
    refine hm_callv hw (hm_runV (rest := []) EvC_cl X hw (cLed_spoil EvC_cl hG h) yk_X3_spoil kw515 rfl (gl_26 hG) rfl hl.1 rfl rfl rfl (Nat.le_of_ble_eq_true rfl) ⟨Nat.le_trans (Nat.le_of_ble_eq_true rfl) hR.1, Nat.le_trans (Nat.le_of_ble_eq_true rfl) hR.2⟩ ⟨Nat.le_trans (Nat.le_of_ble_eq_true rfl) hRc.1, Nat.le_trans (Nat.le_of_ble_eq_true rfl) hRc.2⟩ dX10_looks_35) (fun u7 H locs hp hw => ?_)
    obtain ⟨I6, rfl, h⟩ := hp
    refine lv_iconst (v := 1) hx hb dX10_looks_38 (by decide) ?_
    refine vx_ret ?_
    exact hm_zret X hr hlk hw zb_1 ⟨_, rfl, h⟩ dX10_looks_39
  · have h := Eq.mp (if_neg hc) h
    refine lv_iconst (v := 0) hx hb dX10_looks_20 (by decide) ?_
    refine vx_ret ?_
    exact hm_zret X hr hlk hw zb_0 ⟨_, rfl, h⟩ dX10_looks_21

theorem cH_round {l : Launch} {D : va_G} {cA : Nat → ClassId} {z sz : Nat} {I : HI} {T : HR} {F : HR} {L : HL} {x1 : Int32} {x2 : Int32} {Q : Int32 → HI → Prop} {Xc : HI → Prop} (hlt : l.stackTraces = false) (hG : Geo F L) (h : H_round I x1 x2 Q Xc) : vx_Met l yX10_round (hws0 yX10_round cX10_round 3 (some .boolean)) { frames := 8, cells := 1, slots := 6, locals := 141 } (hPc D cA z EvC (I, J, T, F, L) sz [.ref (z + 0), .int x1, .int x2]) (va_Qi (pI J T F L Q) (hB D cA z (hA z L sz)) (hA z L sz)) (vx_X (pIv J T F L Xc) (pX "java/util/NoSuchElementException" D cA z (hA z L sz)) (hA z L sz)) 1 6 (hA z L sz) := by
  refine hm_xmet (I, J, T, F, L) [.ref (z + 0), .int x1, .int x2] rfl (by decide) (Nat.le_of_ble_eq_true rfl) ?_
  intro p e s m below meth c ls X hr hlk hnm hxt hsz hw hl
  have hl : lv_has ls 3 [(0, .ref (z + 0)), (1, .int x1), (2, .int x2)] := hl
  have hR : 8 ≤ ({ frames := 8, cells := 1, slots := 6, locals := 141 } : Room).frames ∧ 141 ≤ ({ frames := 8, cells := 1, slots := 6, locals := 141 } : Room).locals := ⟨Nat.le_refl _, Nat.le_refl _⟩
  have hRc : 1 ≤ ({ frames := 8, cells := 1, slots := 6, locals := 141 } : Room).cells ∧ 6 ≤ ({ frames := 8, cells := 1, slots := 6, locals := 141 } : Room).slots := ⟨Nat.le_refl _, Nat.le_refl _⟩
  generalize ({ frames := 8, cells := 1, slots := 6, locals := 141 } : Room) = R at hR hRc ⊢
  clear hsz
  generalize (hA z L sz) = A at hw ⊢
  have hx := X.1
  have hb := X.2.1
  unfold H_round at h
  refine lv_aload_n hx hb dX10_round_0 rfl (lv_at hl 0 rfl) ?_
  refine lv_iload_n hx hb dX10_round_1 rfl (lv_at hl 1 rfl) ?_
  refine hm_xcallv hw (hm_xrunV (rest := []) EvC_cl X hw (cH_needWearer hlt hG h) yk_X10_needWearer kw843 rfl (gl_0 hG) rfl hl.1 rfl rfl rfl (Nat.le_of_ble_eq_true rfl) ⟨Nat.le_trans (Nat.le_of_ble_eq_true rfl) hR.1, Nat.le_trans (Nat.le_of_ble_eq_true rfl) hR.2⟩ ⟨Nat.le_trans (Nat.le_of_ble_eq_true rfl) hRc.1, Nat.le_trans (Nat.le_of_ble_eq_true rfl) hRc.2⟩ dX10_round_2) (fun ce q9 u1 H locs hp hw hq hv hcl => ?_) (fun u1 H locs hp hw => ?_)
  · obtain ⟨rfl, h⟩ := hp
    exact hm_xout hxt hlk hw ⟨_, rfl, h⟩ hq hv hcl (Nat.le_of_ble_eq_true rfl) (Nat.le_of_ble_eq_true rfl)
  obtain ⟨rfl, h⟩ := hp
  refine lv_iload_n hx hb dX10_round_5 rfl (lv_at hl 2 rfl) ?_
  refine lv_if_lt (tgt := 15) hx hb dX10_round_6 (by decide) (fun hc => ?_) (fun hc => ?_)
  · have h := Eq.mp (if_pos hc) h
    refine lv_iconst (v := 0) hx hb dX10_round_15 (by decide) ?_
    refine vx_ret ?_
    exact hm_zret X hr hlk hw zb_0 ⟨_, rfl, h⟩ dX10_round_16
  · have h := Eq.mp (if_neg hc) h
    refine lv_iload_n hx hb dX10_round_9 rfl (lv_at hl 2 rfl) ?_
    refine lv_bipush (v := 7) hx hb dX10_round_10 (by decide) ?_
    refine lv_icmp_le (tgt := 17) hx hb dX10_round_12 (by decide) (fun hc => ?_) (fun hc => ?_)
    · have h := Eq.mp (if_pos hc) h
      refine lv_aload_n hx hb dX10_round_17 rfl (lv_at hl 0 rfl) ?_
      refine hm_getr X hw lk_10_10 (gl_0 hG) (gf_0_0 hG) dX10_round_18 ?_
      refine lv_iload_n hx hb dX10_round_21 rfl (lv_at hl 1 rfl) ?_
      refine lv_iload_n hx hb dX10_round_22 rfl (lv_at hl 2 rfl) ?_
      refine hm_callv hw (hm_runV (rest := []) EvC_cl X hw (cNet_guessIn EvC_cl (geo_net hG) h) yk_X5_guessIn kw857 rfl (gl_1 hG) rfl hl.1 rfl rfl rfl (Nat.le_of_ble_eq_true rfl) ⟨Nat.le_trans (Nat.le_of_ble_eq_true rfl) hR.1, Nat.le_trans (Nat.le_of_ble_eq_true rfl) hR.2⟩ ⟨Nat.le_trans (Nat.le_of_ble_eq_true rfl) hRc.1, Nat.le_trans (Nat.le_of_ble_eq_true rfl) hRc.2⟩ dX10_round_23) (fun u3 H locs hp hw => ?_)
      obtain ⟨I2, rfl, h⟩ := hp
      refine lv_aload_n hx hb dX10_round_26 rfl (lv_at hl 0 rfl) ?_
      refine hm_getr X hw lk_10_40 (gl_0 hG) (gf_0_5 hG) dX10_round_27 ?_
      refine hm_callv hw (hm_runV (rest := []) EvC_cl X hw (cLed_spoil EvC_cl hG h) yk_X3_spoil kw515 rfl (gl_26 hG) rfl hl.1 rfl rfl rfl (Nat.le_of_ble_eq_true rfl) ⟨Nat.le_trans (Nat.le_of_ble_eq_true rfl) hR.1, Nat.le_trans (Nat.le_of_ble_eq_true rfl) hR.2⟩ ⟨Nat.le_trans (Nat.le_of_ble_eq_true rfl) hRc.1, Nat.le_trans (Nat.le_of_ble_eq_true rfl) hRc.2⟩ dX10_round_30) (fun u5 H locs hp hw => ?_)
      obtain ⟨I4, rfl, h⟩ := hp
      refine lv_iconst (v := 1) hx hb dX10_round_33 (by decide) ?_
      refine vx_ret ?_
      exact hm_zret X hr hlk hw zb_1 ⟨_, rfl, h⟩ dX10_round_34
    · have h := Eq.mp (if_neg hc) h
      refine lv_iconst (v := 0) hx hb dX10_round_15 (by decide) ?_
      refine vx_ret ?_
      exact hm_zret X hr hlk hw zb_0 ⟨_, rfl, h⟩ dX10_round_16

theorem cH_about {l : Launch} {D : va_G} {cA : Nat → ClassId} {z sz : Nat} {I : HI} {T : HR} {F : HR} {L : HL} {x1 : Int32} {x2 : Int32} {Q : Int32 → Prop} {Xc : Prop} (hlt : l.stackTraces = false) (hG : Geo F L) (h : H_about I T x1 x2 Q Xc) : vx_Met l yX10_about (hws0 yX10_about cX10_about 3 (some .int)) { frames := 8, cells := 2, slots := 12, locals := 141 } (hPc D cA z EvC (I, J, T, F, L) sz [.ref (z + 0), .int x1, .int x2]) (va_Qi (p0 (I, J, T, F, L) Q) (hB D cA z (hA z L sz)) (hA z L sz)) (vx_X (p0v (I, J, T, F, L) Xc) (pX "java/util/NoSuchElementException" D cA z (hA z L sz)) (hA z L sz)) 2 12 (hA z L sz) := by
  refine hm_xmet (I, J, T, F, L) [.ref (z + 0), .int x1, .int x2] rfl (by decide) (Nat.le_of_ble_eq_true rfl) ?_
  intro p e s m below meth c ls X hr hlk hnm hxt hsz hw hl
  have hl : lv_has ls 3 [(0, .ref (z + 0)), (1, .int x1), (2, .int x2)] := hl
  have hR : 8 ≤ ({ frames := 8, cells := 2, slots := 12, locals := 141 } : Room).frames ∧ 141 ≤ ({ frames := 8, cells := 2, slots := 12, locals := 141 } : Room).locals := ⟨Nat.le_refl _, Nat.le_refl _⟩
  have hRc : 2 ≤ ({ frames := 8, cells := 2, slots := 12, locals := 141 } : Room).cells ∧ 12 ≤ ({ frames := 8, cells := 2, slots := 12, locals := 141 } : Room).slots := ⟨Nat.le_refl _, Nat.le_refl _⟩
  generalize ({ frames := 8, cells := 2, slots := 12, locals := 141 } : Room) = R at hR hRc ⊢
  clear hsz
  generalize (hA z L sz) = A at hw ⊢
  have hx := X.1
  have hb := X.2.1
  unfold H_about at h
  refine lv_aload_n hx hb dX10_about_0 rfl (lv_at hl 0 rfl) ?_
  refine lv_iload_n hx hb dX10_about_1 rfl (lv_at hl 1 rfl) ?_
  refine hm_xcallv hw (hm_xrunV (rest := []) EvC_cl X hw (cH_needWearer hlt hG h) yk_X10_needWearer kw843 rfl (gl_0 hG) rfl hl.1 rfl rfl rfl (Nat.le_of_ble_eq_true rfl) ⟨Nat.le_trans (Nat.le_of_ble_eq_true rfl) hR.1, Nat.le_trans (Nat.le_of_ble_eq_true rfl) hR.2⟩ ⟨Nat.le_trans (Nat.le_of_ble_eq_true rfl) hRc.1, Nat.le_trans (Nat.le_of_ble_eq_true rfl) hRc.2⟩ dX10_about_2) (fun ce q9 u1 H locs hp hw hq hv hcl => ?_) (fun u1 H locs hp hw => ?_)
  · obtain ⟨rfl, h⟩ := hp
    exact hm_xout hxt hlk hw ⟨rfl, h⟩ hq hv hcl (Nat.le_of_ble_eq_true rfl) (Nat.le_of_ble_eq_true rfl)
  obtain ⟨rfl, h⟩ := hp
  refine lv_iload_n hx hb dX10_about_5 rfl (lv_at hl 2 rfl) ?_
  by_cases hc0 : x2 = 0
  · have h := Eq.mp (if_pos hc0) h
    refine lv_tableIn (tgt := 40) (off := 34) hx hb dX10_about_6 (by rw [hc0]; decide) (by rw [hc0]; decide) (by rw [hc0]; decide) (by decide) ?_
    refine lv_aload_n hx hb dX10_about_40 rfl (lv_at hl 0 rfl) ?_
    refine hm_getr X hw lk_10_10 (gl_0 hG) (gf_0_0 hG) dX10_about_41 ?_
    refine hm_getr X hw lk_10_171 (gl_1 hG) (gf_1_3 hG) dX10_about_44 ?_
    refine lv_iload_n hx hb dX10_about_47 rfl (lv_at hl 1 rfl) ?_
    obtain ⟨hi, h⟩ := h
    refine hm_iald X hw (gl_2 hG) hi dX10_about_48 ?_
    refine vx_ret ?_
    refine W.widen (k := 2) (n := 12) (Nat.le_of_ble_eq_true rfl) (Nat.le_of_ble_eq_true rfl) ?_
    exact hm_iret X hr hlk hw ⟨rfl, h⟩ dX10_about_49
  have h := Eq.mp (if_neg hc0) h
  by_cases hc1 : x2 = 1
  · have h := Eq.mp (if_pos hc1) h
    refine lv_tableIn (tgt := 50) (off := 44) hx hb dX10_about_6 (by rw [hc1]; decide) (by rw [hc1]; decide) (by rw [hc1]; decide) (by decide) ?_
    refine lv_aload_n hx hb dX10_about_50 rfl (lv_at hl 0 rfl) ?_
    refine hm_getr X hw lk_10_10 (gl_0 hG) (gf_0_0 hG) dX10_about_51 ?_
    refine hm_getr X hw lk_10_174 (gl_1 hG) (gf_1_4 hG) dX10_about_54 ?_
    refine lv_iload_n hx hb dX10_about_57 rfl (lv_at hl 1 rfl) ?_
    obtain ⟨hi, h⟩ := h
    refine hm_iald X hw (gl_3 hG) hi dX10_about_58 ?_
    refine vx_ret ?_
    refine W.widen (k := 2) (n := 12) (Nat.le_of_ble_eq_true rfl) (Nat.le_of_ble_eq_true rfl) ?_
    exact hm_iret X hr hlk hw ⟨rfl, h⟩ dX10_about_59
  have h := Eq.mp (if_neg hc1) h
  by_cases hc2 : x2 = 2
  · have h := Eq.mp (if_pos hc2) h
    refine lv_tableIn (tgt := 60) (off := 54) hx hb dX10_about_6 (by rw [hc2]; decide) (by rw [hc2]; decide) (by rw [hc2]; decide) (by decide) ?_
    refine lv_aload_n hx hb dX10_about_60 rfl (lv_at hl 0 rfl) ?_
    refine hm_getr X hw lk_10_10 (gl_0 hG) (gf_0_0 hG) dX10_about_61 ?_
    refine hm_getr X hw lk_10_177 (gl_1 hG) (gf_1_5 hG) dX10_about_64 ?_
    refine lv_iload_n hx hb dX10_about_67 rfl (lv_at hl 1 rfl) ?_
    obtain ⟨hi, h⟩ := h
    refine hm_iald X hw (gl_4 hG) hi dX10_about_68 ?_
    refine vx_ret ?_
    refine W.widen (k := 2) (n := 12) (Nat.le_of_ble_eq_true rfl) (Nat.le_of_ble_eq_true rfl) ?_
    exact hm_iret X hr hlk hw ⟨rfl, h⟩ dX10_about_69
  have h := Eq.mp (if_neg hc2) h
  by_cases hc3 : x2 = 3
  · have h := Eq.mp (if_pos hc3) h
    refine lv_tableIn (tgt := 70) (off := 64) hx hb dX10_about_6 (by rw [hc3]; decide) (by rw [hc3]; decide) (by rw [hc3]; decide) (by decide) ?_
    refine lv_aload_n hx hb dX10_about_70 rfl (lv_at hl 0 rfl) ?_
    refine hm_getr X hw lk_10_10 (gl_0 hG) (gf_0_0 hG) dX10_about_71 ?_
    refine hm_getr X hw lk_10_180 (gl_1 hG) (gf_1_6 hG) dX10_about_74 ?_
    refine lv_iload_n hx hb dX10_about_77 rfl (lv_at hl 1 rfl) ?_
    obtain ⟨hi, h⟩ := h
    refine hm_iald X hw (gl_5 hG) hi dX10_about_78 ?_
    refine vx_ret ?_
    refine W.widen (k := 2) (n := 12) (Nat.le_of_ble_eq_true rfl) (Nat.le_of_ble_eq_true rfl) ?_
    exact hm_iret X hr hlk hw ⟨rfl, h⟩ dX10_about_79
  have h := Eq.mp (if_neg hc3) h
  by_cases hc4 : x2 = 4
  · have h := Eq.mp (if_pos hc4) h
    refine lv_tableIn (tgt := 80) (off := 74) hx hb dX10_about_6 (by rw [hc4]; decide) (by rw [hc4]; decide) (by rw [hc4]; decide) (by decide) ?_
    refine lv_aload_n hx hb dX10_about_80 rfl (lv_at hl 0 rfl) ?_
    refine hm_getr X hw lk_10_10 (gl_0 hG) (gf_0_0 hG) dX10_about_81 ?_
    refine lv_iload_n hx hb dX10_about_84 rfl (lv_at hl 1 rfl) ?_
    refine hm_calli hw (hm_runV (rest := []) EvC_cl X hw (cNet_kindOfRule EvC_cl (geo_net hG) h) yk_X5_kindOfRule kw1040 rfl (gl_1 hG) rfl hl.1 rfl rfl rfl (Nat.le_of_ble_eq_true rfl) ⟨Nat.le_trans (Nat.le_of_ble_eq_true rfl) hR.1, Nat.le_trans (Nat.le_of_ble_eq_true rfl) hR.2⟩ ⟨Nat.le_trans (Nat.le_of_ble_eq_true rfl) hRc.1, Nat.le_trans (Nat.le_of_ble_eq_true rfl) hRc.2⟩ dX10_about_85) (fun a2 u3 H locs hp hw => ?_)
    obtain ⟨rfl, h⟩ := hp
    refine vx_ret ?_
    refine W.widen (k := 2) (n := 12) (Nat.le_of_ble_eq_true rfl) (Nat.le_of_ble_eq_true rfl) ?_
    exact hm_iret X hr hlk hw ⟨rfl, h⟩ dX10_about_88
  have h := Eq.mp (if_neg hc4) h
  refine hm_tabD (tgt := 89) [0, 1, 2, 3, 4] hx hb dX10_about_6 (by decide) (by simp only [List.forall_mem_cons]; exact ⟨hc0, hc1, hc2, hc3, hc4, fun _ h => (by cases h)⟩) (by decide) ?_
  exact hm_thrN (is := 188) (text := "nothing such is known of a wearer") hlt X hxt hlk hw (by decide) ⟨rfl, h⟩ hl.1 dX10_about_89 dX10_about_92 dX10_about_93 dX10_about_95 dX10_about_98 ⟨Nat.le_trans (Nat.le_of_ble_eq_true rfl) hR.1, Nat.le_trans (Nat.le_of_ble_eq_true rfl) hR.2⟩ (Nat.le_trans (Nat.le_of_ble_eq_true rfl) hRc.1) (Nat.le_trans (Nat.le_of_ble_eq_true rfl) hRc.2) (Nat.le_of_ble_eq_true rfl) (Nat.le_of_ble_eq_true rfl)

theorem wkH_tell_b59 {I : HI} {T : HR} {F : HR} {L : HL} {x1 : Int32} {x2 : Int32} {x3 : Int32} {Q : Int32 → HI → HR → Prop} {Xc : HI → HR → Prop} (X : hX p m c s args RX10 cX10_tell 4) (hr : meth.sig.returnType = (some .boolean)) (hlk : meth.locks = false) (hR : 8 ≤ R.frames ∧ 141 ≤ R.locals) (hRc : 1 ≤ R.cells ∧ 6 ≤ R.slots) (hlt : l.stackTraces = false) (hxt : c.exceptionTable.isEmpty = true) (hG : Geo F L)  : ∀ {ls : Array Slot} {H : Heap} {locs : List Loc}, H_tell_b59 I T L x1 x2 x3 Q Xc → hW D cA z EvC (I, J, T, F, L) A s H locs → lv_has ls 4 [(0, .ref (z + 0)), (1, .int x1), (2, .int x2), (3, .int x3)] → W p l e R s m args below meth c H locs 1 6 (vx_MQ below (va_Qi (pIT J F L Q) (hB D cA z A) A) (vx_X (pITv J F L Xc) (pX "java/util/NoSuchElementException" D cA z A) A) args s 1 6 A) (F0 m 59 ls []) := by
  have hx := X.1
  have hb := X.2.1
  intro ls H locs h hw hl
  unfold H_tell_b59 at h
  refine lv_aload_n hx hb dX10_tell_59 rfl (lv_at hl 0 rfl) ?_
  refine hm_getr X hw lk_10_10 (gl_0 hG) (gf_0_0 hG) dX10_tell_60 ?_
  refine lv_iload_n hx hb dX10_tell_63 rfl (lv_at hl 1 rfl) ?_
  refine lv_iload_n hx hb dX10_tell_64 rfl (lv_at hl 2 rfl) ?_
  refine lv_iload_n hx hb dX10_tell_65 rfl (lv_at hl 3 rfl) ?_
  refine hm_callv hw (hm_runV (rest := []) EvC_cl X hw (cNet_setGuess EvC_cl (geo_net hG) h) yk_X5_setGuess kw1053 rfl (gl_1 hG) rfl hl.1 rfl rfl rfl (Nat.le_of_ble_eq_true rfl) ⟨Nat.le_trans (Nat.le_of_ble_eq_true rfl) hR.1, Nat.le_trans (Nat.le_of_ble_eq_true rfl) hR.2⟩ ⟨Nat.le_trans (Nat.le_of_ble_eq_true rfl) hRc.1, Nat.le_trans (Nat.le_of_ble_eq_true rfl) hRc.2⟩ dX10_tell_66) (fun u4 H locs hp hw => ?_)
  obtain ⟨I3, rfl, h⟩ := hp
  refine lv_aload_n hx hb dX10_tell_69 rfl (lv_at hl 0 rfl) ?_
  refine hm_getr X hw lk_10_40 (gl_0 hG) (gf_0_5 hG) dX10_tell_70 ?_
  refine hm_callv hw (hm_runV (rest := []) EvC_cl X hw (cLed_spoil EvC_cl hG h) yk_X3_spoil kw515 rfl (gl_26 hG) rfl hl.1 rfl rfl rfl (Nat.le_of_ble_eq_true rfl) ⟨Nat.le_trans (Nat.le_of_ble_eq_true rfl) hR.1, Nat.le_trans (Nat.le_of_ble_eq_true rfl) hR.2⟩ ⟨Nat.le_trans (Nat.le_of_ble_eq_true rfl) hRc.1, Nat.le_trans (Nat.le_of_ble_eq_true rfl) hRc.2⟩ dX10_tell_73) (fun u6 H locs hp hw => ?_)
  obtain ⟨I5, rfl, h⟩ := hp
  refine lv_iconst (v := 1) hx hb dX10_tell_76 (by decide) ?_
  refine vx_ret ?_
  exact hm_zret X hr hlk hw zb_1 ⟨_, _, rfl, h⟩ dX10_tell_77

theorem cH_tell {l : Launch} {D : va_G} {cA : Nat → ClassId} {z sz : Nat} {I : HI} {T : HR} {F : HR} {L : HL} {x1 : Int32} {x2 : Int32} {x3 : Int32} {Q : Int32 → HI → HR → Prop} {Xc : HI → HR → Prop} (hlt : l.stackTraces = false) (hG : Geo F L) (h : H_tell I T L x1 x2 x3 Q Xc) : vx_Met l yX10_tell (hws0 yX10_tell cX10_tell 4 (some .boolean)) { frames := 8, cells := 1, slots := 6, locals := 141 } (hPc D cA z EvC (I, J, T, F, L) sz [.ref (z + 0), .int x1, .int x2, .int x3]) (va_Qi (pIT J F L Q) (hB D cA z (hA z L sz)) (hA z L sz)) (vx_X (pITv J F L Xc) (pX "java/util/NoSuchElementException" D cA z (hA z L sz)) (hA z L sz)) 1 6 (hA z L sz) := by
  refine hm_xmet (I, J, T, F, L) [.ref (z + 0), .int x1, .int x2, .int x3] rfl (by decide) (Nat.le_of_ble_eq_true rfl) ?_
  intro p e s m below meth c ls X hr hlk hnm hxt hsz hw hl
  have hl : lv_has ls 4 [(0, .ref (z + 0)), (1, .int x1), (2, .int x2), (3, .int x3)] := hl
  have hR : 8 ≤ ({ frames := 8, cells := 1, slots := 6, locals := 141 } : Room).frames ∧ 141 ≤ ({ frames := 8, cells := 1, slots := 6, locals := 141 } : Room).locals := ⟨Nat.le_refl _, Nat.le_refl _⟩
  have hRc : 1 ≤ ({ frames := 8, cells := 1, slots := 6, locals := 141 } : Room).cells ∧ 6 ≤ ({ frames := 8, cells := 1, slots := 6, locals := 141 } : Room).slots := ⟨Nat.le_refl _, Nat.le_refl _⟩
  generalize ({ frames := 8, cells := 1, slots := 6, locals := 141 } : Room) = R at hR hRc ⊢
  clear hsz
  generalize (hA z L sz) = A at hw ⊢
  have hx := X.1
  have hb := X.2.1
  unfold H_tell at h
  refine lv_aload_n hx hb dX10_tell_0 rfl (lv_at hl 0 rfl) ?_
  refine lv_iload_n hx hb dX10_tell_1 rfl (lv_at hl 1 rfl) ?_
  refine hm_xcallv hw (hm_xrunV (rest := []) EvC_cl X hw (cH_needWearer hlt hG h) yk_X10_needWearer kw843 rfl (gl_0 hG) rfl hl.1 rfl rfl rfl (Nat.le_of_ble_eq_true rfl) ⟨Nat.le_trans (Nat.le_of_ble_eq_true rfl) hR.1, Nat.le_trans (Nat.le_of_ble_eq_true rfl) hR.2⟩ ⟨Nat.le_trans (Nat.le_of_ble_eq_true rfl) hRc.1, Nat.le_trans (Nat.le_of_ble_eq_true rfl) hRc.2⟩ dX10_tell_2) (fun ce q9 u1 H locs hp hw hq hv hcl => ?_) (fun u1 H locs hp hw => ?_)
  · obtain ⟨rfl, h⟩ := hp
    exact hm_xout hxt hlk hw ⟨_, _, rfl, h⟩ hq hv hcl (Nat.le_of_ble_eq_true rfl) (Nat.le_of_ble_eq_true rfl)
  obtain ⟨rfl, h⟩ := hp
  refine lv_iload_n hx hb dX10_tell_5 rfl (lv_at hl 2 rfl) ?_
  refine lv_if_lt (tgt := 37) hx hb dX10_tell_6 (by decide) (fun hc => ?_) (fun hc => ?_)
  · have h := Eq.mp (if_pos hc) h
    refine lv_iconst (v := 0) hx hb dX10_tell_37 (by decide) ?_
    refine vx_ret ?_
    exact hm_zret X hr hlk hw zb_0 ⟨_, _, rfl, h⟩ dX10_tell_38
  · have h := Eq.mp (if_neg hc) h
    refine lv_iload_n hx hb dX10_tell_9 rfl (lv_at hl 2 rfl) ?_
    refine lv_aload_n hx hb dX10_tell_10 rfl (lv_at hl 0 rfl) ?_
    refine hm_getr X hw lk_10_10 (gl_0 hG) (gf_0_0 hG) dX10_tell_11 ?_
    refine hm_getr X hw lk_10_180 (gl_1 hG) (gf_1_6 hG) dX10_tell_14 ?_
    refine lv_iload_n hx hb dX10_tell_17 rfl (lv_at hl 1 rfl) ?_
    obtain ⟨hi, h⟩ := h
    refine hm_iald X hw (gl_5 hG) hi dX10_tell_18 ?_
    refine lv_icmp_ge (tgt := 37) hx hb dX10_tell_19 (by decide) (fun hc => ?_) (fun hc => ?_)
    · have h := Eq.mp (if_pos hc) h
      refine lv_iconst (v := 0) hx hb dX10_tell_37 (by decide) ?_
      refine vx_ret ?_
      exact hm_zret X hr hlk hw zb_0 ⟨_, _, rfl, h⟩ dX10_tell_38
    · have h := Eq.mp (if_neg hc) h
      refine lv_iload_n hx hb dX10_tell_22 rfl (lv_at hl 3 rfl) ?_
      refine lv_if_lt (tgt := 37) hx hb dX10_tell_23 (by decide) (fun hc => ?_) (fun hc => ?_)
      · have h := Eq.mp (if_pos hc) h
        refine lv_iconst (v := 0) hx hb dX10_tell_37 (by decide) ?_
        refine vx_ret ?_
        exact hm_zret X hr hlk hw zb_0 ⟨_, _, rfl, h⟩ dX10_tell_38
      · have h := Eq.mp (if_neg hc) h
        refine lv_iload_n hx hb dX10_tell_26 rfl (lv_at hl 3 rfl) ?_
        refine lv_aload_n hx hb dX10_tell_27 rfl (lv_at hl 0 rfl) ?_
        refine hm_getr X hw lk_10_10 (gl_0 hG) (gf_0_0 hG) dX10_tell_28 ?_
        refine hm_geti X hw lk_10_128 (gl_1 hG) dX10_tell_31 ?_
        refine lv_icmp_le (tgt := 39) hx hb dX10_tell_34 (by decide) (fun hc => ?_) (fun hc => ?_)
        · have h := Eq.mp (if_pos hc) h
          refine lv_aload_n hx hb dX10_tell_39 rfl (lv_at hl 0 rfl) ?_
          refine hm_getr X hw lk_10_10 (gl_0 hG) (gf_0_0 hG) dX10_tell_40 ?_
          refine hm_getr X hw lk_10_191 (gl_1 hG) (gf_1_8 hG) dX10_tell_43 ?_
          refine lv_iload_n hx hb dX10_tell_46 rfl (lv_at hl 1 rfl) ?_
          obtain ⟨hi, h⟩ := h
          refine hm_aldq5 X hw (gl_7 hG) hi dX10_tell_47 ?_
          refine hm_ifnull (tgt := 59) hx hb dX10_tell_48 (by decide) (fun he => ?_) (fun ef2 he => ?_)
          · have h := h.1 he
            exact wkH_tell_b59 X hr hlk hR hRc hlt hxt hG  h hw (lv_sub hl [0, 1, 2, 3] rfl)
          · have h := h.2 ef2 he
            refine lv_aload_n hx hb dX10_tell_51 rfl (lv_at hl 0 rfl) ?_
            refine hm_getr X hw lk_10_10 (gl_0 hG) (gf_0_0 hG) dX10_tell_52 ?_
            refine lv_iload_n hx hb dX10_tell_55 rfl (lv_at hl 1 rfl) ?_
            refine hm_callv hw (hm_runV (rest := []) EvC_cl X hw (cNet_startTable EvC_cl (geo_net hG) h) yk_X5_startTable kw1052 rfl (gl_1 hG) rfl hl.1 rfl rfl rfl (Nat.le_of_ble_eq_true rfl) ⟨Nat.le_trans (Nat.le_of_ble_eq_true rfl) hR.1, Nat.le_trans (Nat.le_of_ble_eq_true rfl) hR.2⟩ ⟨Nat.le_trans (Nat.le_of_ble_eq_true rfl) hRc.1, Nat.le_trans (Nat.le_of_ble_eq_true rfl) hRc.2⟩ dX10_tell_56) (fun u9 H locs hp hw => ?_)
            obtain ⟨I7, T8, rfl, h⟩ := hp
            exact wkH_tell_b59 X hr hlk hR hRc hlt hxt hG  h hw (lv_sub hl [0, 1, 2, 3] rfl)
        · have h := Eq.mp (if_neg hc) h
          refine lv_iconst (v := 0) hx hb dX10_tell_37 (by decide) ?_
          refine vx_ret ?_
          exact hm_zret X hr hlk hw zb_0 ⟨_, _, rfl, h⟩ dX10_tell_38

theorem wkH_cell_b33 {I : HI} {T : HR} {F : HR} {L : HL} {Q : Int32 → Prop} {Xc : Prop} (X : hX p m c s args RX10 cX10_cell 3) (hr : meth.sig.returnType = (some .int)) (hlk : meth.locks = false) (hR : 8 ≤ R.frames ∧ 141 ≤ R.locals) (hRc : 2 ≤ R.cells ∧ 12 ≤ R.slots) (hlt : l.stackTraces = false) (hxt : c.exceptionTable.isEmpty = true) (hG : Geo F L)  : ∀ {ls : Array Slot} {H : Heap} {locs : List Loc}, H_cell_b33 I T Q Xc → hW D cA z EvC (I, J, T, F, L) A s H locs → lv_has ls 3 [] → W p l e R s m args below meth c H locs 1 6 (vx_MQ below (va_Qi (p0 (I, J, T, F, L) Q) (hB D cA z A) A) (vx_X (p0v (I, J, T, F, L) Xc) (pX "java/util/NoSuchElementException" D cA z A) A) args s 2 12 A) (F0 m 33 ls []) := by
  have hx := X.1
  have hb := X.2.1
  intro ls H locs h hw hl
  unfold H_cell_b33 at h
  exact hm_thrN (is := 205) (text := "no such guess in a table") hlt X hxt hlk hw (by decide) ⟨rfl, h⟩ hl.1 dX10_cell_33 dX10_cell_36 dX10_cell_37 dX10_cell_39 dX10_cell_42 ⟨Nat.le_trans (Nat.le_of_ble_eq_true rfl) hR.1, Nat.le_trans (Nat.le_of_ble_eq_true rfl) hR.2⟩ (Nat.le_trans (Nat.le_of_ble_eq_true rfl) hRc.1) (Nat.le_trans (Nat.le_of_ble_eq_true rfl) hRc.2) (Nat.le_of_ble_eq_true rfl) (Nat.le_of_ble_eq_true rfl)

theorem cH_cell {l : Launch} {D : va_G} {cA : Nat → ClassId} {z sz : Nat} {I : HI} {T : HR} {F : HR} {L : HL} {x1 : Int32} {x2 : Int32} {Q : Int32 → Prop} {Xc : Prop} (hlt : l.stackTraces = false) (hG : Geo F L) (h : H_cell I T x1 x2 Q Xc) : vx_Met l yX10_cell (hws0 yX10_cell cX10_cell 3 (some .int)) { frames := 8, cells := 2, slots := 12, locals := 141 } (hPc D cA z EvC (I, J, T, F, L) sz [.ref (z + 0), .int x1, .int x2]) (va_Qi (p0 (I, J, T, F, L) Q) (hB D cA z (hA z L sz)) (hA z L sz)) (vx_X (p0v (I, J, T, F, L) Xc) (pX "java/util/NoSuchElementException" D cA z (hA z L sz)) (hA z L sz)) 2 12 (hA z L sz) := by
  refine hm_xmet (I, J, T, F, L) [.ref (z + 0), .int x1, .int x2] rfl (by decide) (Nat.le_of_ble_eq_true rfl) ?_
  intro p e s m below meth c ls X hr hlk hnm hxt hsz hw hl
  have hl : lv_has ls 3 [(0, .ref (z + 0)), (1, .int x1), (2, .int x2)] := hl
  have hR : 8 ≤ ({ frames := 8, cells := 2, slots := 12, locals := 141 } : Room).frames ∧ 141 ≤ ({ frames := 8, cells := 2, slots := 12, locals := 141 } : Room).locals := ⟨Nat.le_refl _, Nat.le_refl _⟩
  have hRc : 2 ≤ ({ frames := 8, cells := 2, slots := 12, locals := 141 } : Room).cells ∧ 12 ≤ ({ frames := 8, cells := 2, slots := 12, locals := 141 } : Room).slots := ⟨Nat.le_refl _, Nat.le_refl _⟩
  generalize ({ frames := 8, cells := 2, slots := 12, locals := 141 } : Room) = R at hR hRc ⊢
  clear hsz
  generalize (hA z L sz) = A at hw ⊢
  have hx := X.1
  have hb := X.2.1
  unfold H_cell at h
  refine lv_aload_n hx hb dX10_cell_0 rfl (lv_at hl 0 rfl) ?_
  refine lv_iload_n hx hb dX10_cell_1 rfl (lv_at hl 1 rfl) ?_
  refine hm_xcallv hw (hm_xrunV (rest := []) EvC_cl X hw (cH_needWearer hlt hG h) yk_X10_needWearer kw843 rfl (gl_0 hG) rfl hl.1 rfl rfl rfl (Nat.le_of_ble_eq_true rfl) ⟨Nat.le_trans (Nat.le_of_ble_eq_true rfl) hR.1, Nat.le_trans (Nat.le_of_ble_eq_true rfl) hR.2⟩ ⟨Nat.le_trans (Nat.le_of_ble_eq_true rfl) hRc.1, Nat.le_trans (Nat.le_of_ble_eq_true rfl) hRc.2⟩ dX10_cell_2) (fun ce q9 u1 H locs hp hw hq hv hcl => ?_) (fun u1 H locs hp hw => ?_)
  · obtain ⟨rfl, h⟩ := hp
    exact hm_xout hxt hlk hw ⟨rfl, h⟩ hq hv hcl (Nat.le_of_ble_eq_true rfl) (Nat.le_of_ble_eq_true rfl)
  obtain ⟨rfl, h⟩ := hp
  refine lv_aload_n hx hb dX10_cell_5 rfl (lv_at hl 0 rfl) ?_
  refine hm_getr X hw lk_10_10 (gl_0 hG) (gf_0_0 hG) dX10_cell_6 ?_
  refine lv_iload_n hx hb dX10_cell_9 rfl (lv_at hl 1 rfl) ?_
  refine hm_calli hw (hm_runV (rest := []) EvC_cl X hw (cNet_hasTable EvC_cl (geo_net hG) h) yk_X5_hasTable kw1061 rfl (gl_1 hG) rfl hl.1 rfl rfl rfl (Nat.le_of_ble_eq_true rfl) ⟨Nat.le_trans (Nat.le_of_ble_eq_true rfl) hR.1, Nat.le_trans (Nat.le_of_ble_eq_true rfl) hR.2⟩ ⟨Nat.le_trans (Nat.le_of_ble_eq_true rfl) hRc.1, Nat.le_trans (Nat.le_of_ble_eq_true rfl) hRc.2⟩ dX10_cell_10) (fun a2 u3 H locs hp hw => ?_)
  obtain ⟨rfl, h⟩ := hp
  refine lv_if_eq (tgt := 33) hx hb dX10_cell_13 (by decide) (fun hc => ?_) (fun hc => ?_)
  · have h := Eq.mp (if_pos hc) h
    exact wkH_cell_b33 X hr hlk hR hRc hlt hxt hG  h hw (lv_sub hl [] rfl)
  · have h := Eq.mp (if_neg hc) h
    refine lv_iload_n hx hb dX10_cell_16 rfl (lv_at hl 2 rfl) ?_
    refine lv_if_lt (tgt := 33) hx hb dX10_cell_17 (by decide) (fun hc => ?_) (fun hc => ?_)
    · have h := Eq.mp (if_pos hc) h
      exact wkH_cell_b33 X hr hlk hR hRc hlt hxt hG  h hw (lv_sub hl [] rfl)
    · have h := Eq.mp (if_neg hc) h
      refine lv_iload_n hx hb dX10_cell_20 rfl (lv_at hl 2 rfl) ?_
      refine lv_aload_n hx hb dX10_cell_21 rfl (lv_at hl 0 rfl) ?_
      refine hm_getr X hw lk_10_10 (gl_0 hG) (gf_0_0 hG) dX10_cell_22 ?_
      refine hm_getr X hw lk_10_180 (gl_1 hG) (gf_1_6 hG) dX10_cell_25 ?_
      refine lv_iload_n hx hb dX10_cell_28 rfl (lv_at hl 1 rfl) ?_
      obtain ⟨hi, h⟩ := h
      refine hm_iald X hw (gl_5 hG) hi dX10_cell_29 ?_
      refine lv_icmp_lt (tgt := 43) hx hb dX10_cell_30 (by decide) (fun hc => ?_) (fun hc => ?_)
      · have h := Eq.mp (if_pos hc) h
        refine lv_aload_n hx hb dX10_cell_43 rfl (lv_at hl 0 rfl) ?_
        refine hm_getr X hw lk_10_10 (gl_0 hG) (gf_0_0 hG) dX10_cell_44 ?_
        refine lv_iload_n hx hb dX10_cell_47 rfl (lv_at hl 1 rfl) ?_
        refine lv_iload_n hx hb dX10_cell_48 rfl (lv_at hl 2 rfl) ?_
        refine hm_calli hw (hm_runV (rest := []) EvC_cl X hw (cNet_guessAt EvC_cl (geo_net hG) h) yk_X5_guessAt kw1063 rfl (gl_1 hG) rfl hl.1 rfl rfl rfl (Nat.le_of_ble_eq_true rfl) ⟨Nat.le_trans (Nat.le_of_ble_eq_true rfl) hR.1, Nat.le_trans (Nat.le_of_ble_eq_true rfl) hR.2⟩ ⟨Nat.le_trans (Nat.le_of_ble_eq_true rfl) hRc.1, Nat.le_trans (Nat.le_of_ble_eq_true rfl) hRc.2⟩ dX10_cell_49) (fun a4 u5 H locs hp hw => ?_)
        obtain ⟨rfl, h⟩ := hp
        refine vx_ret ?_
        refine W.widen (k := 2) (n := 12) (Nat.le_of_ble_eq_true rfl) (Nat.le_of_ble_eq_true rfl) ?_
        exact hm_iret X hr hlk hw ⟨rfl, h⟩ dX10_cell_52
      · have h := Eq.mp (if_neg hc) h
        exact wkH_cell_b33 X hr hlk hR hRc hlt hxt hG  h hw (lv_sub hl [] rfl)

end
