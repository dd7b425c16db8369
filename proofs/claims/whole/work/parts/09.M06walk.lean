theorem dX11_says_0 : decode cX11_says 0 = .ok (.aload_n 0, 1) := by decide +kernel
theorem dX11_says_1 : decode cX11_says 1 = .ok (.getfield 38, 3) := by decide +kernel
theorem dX11_says_4 : decode cX11_says 4 = .ok (.sipush 1000, 3) := by decide +kernel
theorem dX11_says_7 : decode cX11_says 7 = .ok (.iload_n 1, 1) := by decide +kernel
theorem dX11_says_8 : decode cX11_says 8 = .ok (.imul, 1) := by decide +kernel
theorem dX11_says_9 : decode cX11_says 9 = .ok (.iload_n 2, 1) := by decide +kernel
theorem dX11_says_10 : decode cX11_says 10 = .ok (.iadd, 1) := by decide +kernel
theorem dX11_says_11 : decode cX11_says 11 = .ok (.iload_n 3, 1) := by decide +kernel
theorem dX11_says_12 : decode cX11_says 12 = .ok (.iastore, 1) := by decide +kernel
theorem dX11_says_13 : decode cX11_says 13 = .ok (.aload_n 0, 1) := by decide +kernel
theorem dX11_says_14 : decode cX11_says 14 = .ok (.getfield 38, 3) := by decide +kernel
theorem dX11_says_17 : decode cX11_says 17 = .ok (.sipush 1000, 3) := by decide +kernel
theorem dX11_says_20 : decode cX11_says 20 = .ok (.iload_n 1, 1) := by decide +kernel
theorem dX11_says_21 : decode cX11_says 21 = .ok (.imul, 1) := by decide +kernel
theorem dX11_says_22 : decode cX11_says 22 = .ok (.iload_n 2, 1) := by decide +kernel
theorem dX11_says_23 : decode cX11_says 23 = .ok (.iadd, 1) := by decide +kernel
theorem dX11_says_24 : decode cX11_says 24 = .ok (.iconst 1, 1) := by decide +kernel
theorem dX11_says_25 : decode cX11_says 25 = .ok (.iadd, 1) := by decide +kernel
theorem dX11_says_26 : decode cX11_says 26 = .ok (.iload 4, 2) := by decide +kernel
theorem dX11_says_28 : decode cX11_says 28 = .ok (.iastore, 1) := by decide +kernel
theorem dX11_says_29 : decode cX11_says 29 = .ok (.return_, 1) := by decide +kernel
theorem dX11_line_0 : decode cX11_line 0 = .ok (.aload_n 0, 1) := by decide +kernel
theorem dX11_line_1 : decode cX11_line 1 = .ok (.iconst 0, 1) := by decide +kernel
theorem dX11_line_2 : decode cX11_line 2 = .ok (.putfield 174, 3) := by decide +kernel
theorem dX11_line_5 : decode cX11_line 5 = .ok (.iconst 0, 1) := by decide +kernel
theorem dX11_line_6 : decode cX11_line 6 = .ok (.istore_n 1, 1) := by decide +kernel
theorem dX11_line_7 : decode cX11_line 7 = .ok (.iload_n 1, 1) := by decide +kernel
theorem dX11_line_8 : decode cX11_line 8 = .ok (.aload_n 0, 1) := by decide +kernel
theorem dX11_line_9 : decode cX11_line 9 = .ok (.getfield 7, 3) := by decide +kernel
theorem dX11_line_12 : decode cX11_line 12 = .ok (.if_icmp .ge 175, 3) := by decide +kernel
theorem dX11_line_15 : decode cX11_line 15 = .ok (.aload_n 0, 1) := by decide +kernel
theorem dX11_line_16 : decode cX11_line 16 = .ok (.getfield 26, 3) := by decide +kernel
theorem dX11_line_19 : decode cX11_line 19 = .ok (.iload_n 1, 1) := by decide +kernel
theorem dX11_line_20 : decode cX11_line 20 = .ok (.aload_n 0, 1) := by decide +kernel
theorem dX11_line_21 : decode cX11_line 21 = .ok (.invokevirtual 187, 3) := by decide +kernel
theorem dX11_line_24 : decode cX11_line 24 = .ok (.iconst 1, 1) := by decide +kernel
theorem dX11_line_25 : decode cX11_line 25 = .ok (.iload_n 1, 1) := by decide +kernel
theorem dX11_line_26 : decode cX11_line 26 = .ok (.iconst 1, 1) := by decide +kernel
theorem dX11_line_27 : decode cX11_line 27 = .ok (.iadd, 1) := by decide +kernel
theorem dX11_line_28 : decode cX11_line 28 = .ok (.ishl, 1) := by decide +kernel
theorem dX11_line_29 : decode cX11_line 29 = .ok (.iconst 1, 1) := by decide +kernel
theorem dX11_line_30 : decode cX11_line 30 = .ok (.isub, 1) := by decide +kernel
theorem dX11_line_31 : decode cX11_line 31 = .ok (.iconst (-1), 1) := by decide +kernel
theorem dX11_line_32 : decode cX11_line 32 = .ok (.ixor, 1) := by decide +kernel
theorem dX11_line_33 : decode cX11_line 33 = .ok (.iand, 1) := by decide +kernel
theorem dX11_line_34 : decode cX11_line 34 = .ok (.iastore, 1) := by decide +kernel
theorem dX11_line_35 : decode cX11_line 35 = .ok (.aload_n 0, 1) := by decide +kernel
theorem dX11_line_36 : decode cX11_line 36 = .ok (.getfield 29, 3) := by decide +kernel
theorem dX11_line_39 : decode cX11_line 39 = .ok (.iload_n 1, 1) := by decide +kernel
theorem dX11_line_40 : decode cX11_line 40 = .ok (.iload_n 1, 1) := by decide +kernel
theorem dX11_line_41 : decode cX11_line 41 = .ok (.iastore, 1) := by decide +kernel
theorem dX11_line_42 : decode cX11_line 42 = .ok (.aload_n 0, 1) := by decide +kernel
theorem dX11_line_43 : decode cX11_line 43 = .ok (.getfield 32, 3) := by decide +kernel
theorem dX11_line_46 : decode cX11_line 46 = .ok (.iload_n 1, 1) := by decide +kernel
theorem dX11_line_47 : decode cX11_line 47 = .ok (.iconst 1, 1) := by decide +kernel
theorem dX11_line_48 : decode cX11_line 48 = .ok (.iastore, 1) := by decide +kernel
theorem dX11_line_49 : decode cX11_line 49 = .ok (.aload_n 0, 1) := by decide +kernel
theorem dX11_line_50 : decode cX11_line 50 = .ok (.getfield 41, 3) := by decide +kernel
theorem dX11_line_53 : decode cX11_line 53 = .ok (.iload_n 1, 1) := by decide +kernel
theorem dX11_line_54 : decode cX11_line 54 = .ok (.iconst (-1), 1) := by decide +kernel
theorem dX11_line_55 : decode cX11_line 55 = .ok (.iastore, 1) := by decide +kernel
theorem dX11_line_56 : decode cX11_line 56 = .ok (.aload_n 0, 1) := by decide +kernel
theorem dX11_line_57 : decode cX11_line 57 = .ok (.getfield 44, 3) := by decide +kernel
theorem dX11_line_60 : decode cX11_line 60 = .ok (.iload_n 1, 1) := by decide +kernel
theorem dX11_line_61 : decode cX11_line 61 = .ok (.iconst 0, 1) := by decide +kernel
theorem dX11_line_62 : decode cX11_line 62 = .ok (.iastore, 1) := by decide +kernel
theorem dX11_line_63 : decode cX11_line 63 = .ok (.iload_n 1, 1) := by decide +kernel
theorem dX11_line_64 : decode cX11_line 64 = .ok (.ifCond .ne 22, 3) := by decide +kernel
theorem dX11_line_67 : decode cX11_line 67 = .ok (.aload_n 0, 1) := by decide +kernel
theorem dX11_line_68 : decode cX11_line 68 = .ok (.iconst 0, 1) := by decide +kernel
theorem dX11_line_69 : decode cX11_line 69 = .ok (.iconst 0, 1) := by decide +kernel
theorem dX11_line_70 : decode cX11_line 70 = .ok (.iconst 2, 1) := by decide +kernel
theorem dX11_line_71 : decode cX11_line 71 = .ok (.bipush 11, 2) := by decide +kernel
theorem dX11_line_73 : decode cX11_line 73 = .ok (.invokevirtual 424, 3) := by decide +kernel
theorem dX11_line_76 : decode cX11_line 76 = .ok (.aload_n 0, 1) := by decide +kernel
theorem dX11_line_77 : decode cX11_line 77 = .ok (.getfield 38, 3) := by decide +kernel
theorem dX11_line_80 : decode cX11_line 80 = .ok (.iconst 2, 1) := by decide +kernel
theorem dX11_line_81 : decode cX11_line 81 = .ok (.iconst 0, 1) := by decide +kernel
theorem dX11_line_82 : decode cX11_line 82 = .ok (.iastore, 1) := by decide +kernel
theorem dX11_line_83 : decode cX11_line 83 = .ok (.goto 98, 3) := by decide +kernel
theorem dX11_line_86 : decode cX11_line 86 = .ok (.aload_n 0, 1) := by decide +kernel
theorem dX11_line_87 : decode cX11_line 87 = .ok (.iload_n 1, 1) := by decide +kernel
theorem dX11_line_88 : decode cX11_line 88 = .ok (.iconst 0, 1) := by decide +kernel
theorem dX11_line_89 : decode cX11_line 89 = .ok (.iconst 2, 1) := by decide +kernel
theorem dX11_line_90 : decode cX11_line 90 = .ok (.bipush 10, 2) := by decide +kernel
theorem dX11_line_92 : decode cX11_line 92 = .ok (.invokevirtual 424, 3) := by decide +kernel
theorem dX11_line_95 : decode cX11_line 95 = .ok (.aload_n 0, 1) := by decide +kernel
theorem dX11_line_96 : decode cX11_line 96 = .ok (.iload_n 1, 1) := by decide +kernel
theorem dX11_line_97 : decode cX11_line 97 = .ok (.iconst 2, 1) := by decide +kernel
theorem dX11_line_98 : decode cX11_line 98 = .ok (.iconst 2, 1) := by decide +kernel
theorem dX11_line_99 : decode cX11_line 99 = .ok (.bipush 11, 2) := by decide +kernel
theorem dX11_line_101 : decode cX11_line 101 = .ok (.invokevirtual 424, 3) := by decide +kernel
theorem dX11_line_104 : decode cX11_line 104 = .ok (.aload_n 0, 1) := by decide +kernel
theorem dX11_line_105 : decode cX11_line 105 = .ok (.getfield 38, 3) := by decide +kernel
theorem dX11_line_108 : decode cX11_line 108 = .ok (.sipush 1000, 3) := by decide +kernel
theorem dX11_line_111 : decode cX11_line 111 = .ok (.iload_n 1, 1) := by decide +kernel
theorem dX11_line_112 : decode cX11_line 112 = .ok (.imul, 1) := by decide +kernel
theorem dX11_line_113 : decode cX11_line 113 = .ok (.iconst 4, 1) := by decide +kernel
theorem dX11_line_114 : decode cX11_line 114 = .ok (.iadd, 1) := by decide +kernel
theorem dX11_line_115 : decode cX11_line 115 = .ok (.bipush 9, 2) := by decide +kernel
theorem dX11_line_117 : decode cX11_line 117 = .ok (.iastore, 1) := by decide +kernel
theorem dX11_line_118 : decode cX11_line 118 = .ok (.aload_n 0, 1) := by decide +kernel
theorem dX11_line_119 : decode cX11_line 119 = .ok (.iload_n 1, 1) := by decide +kernel
theorem dX11_line_120 : decode cX11_line 120 = .ok (.iconst 5, 1) := by decide +kernel
theorem dX11_line_121 : decode cX11_line 121 = .ok (.iconst 2, 1) := by decide +kernel
theorem dX11_line_122 : decode cX11_line 122 = .ok (.bipush 12, 2) := by decide +kernel
theorem dX11_line_124 : decode cX11_line 124 = .ok (.invokevirtual 424, 3) := by decide +kernel
theorem dX11_line_127 : decode cX11_line 127 = .ok (.aload_n 0, 1) := by decide +kernel
theorem dX11_line_128 : decode cX11_line 128 = .ok (.iload_n 1, 1) := by decide +kernel
theorem dX11_line_129 : decode cX11_line 129 = .ok (.bipush 7, 2) := by decide +kernel
theorem dX11_line_131 : decode cX11_line 131 = .ok (.iconst 2, 1) := by decide +kernel
theorem dX11_line_132 : decode cX11_line 132 = .ok (.bipush 10, 2) := by decide +kernel
theorem dX11_line_134 : decode cX11_line 134 = .ok (.invokevirtual 424, 3) := by decide +kernel
theorem dX11_line_137 : decode cX11_line 137 = .ok (.aload_n 0, 1) := by decide +kernel
theorem dX11_line_138 : decode cX11_line 138 = .ok (.getfield 38, 3) := by decide +kernel
theorem dX11_line_141 : decode cX11_line 141 = .ok (.sipush 1000, 3) := by decide +kernel
theorem dX11_line_144 : decode cX11_line 144 = .ok (.iload_n 1, 1) := by decide +kernel
theorem dX11_line_145 : decode cX11_line 145 = .ok (.imul, 1) := by decide +kernel
theorem dX11_line_146 : decode cX11_line 146 = .ok (.bipush 9, 2) := by decide +kernel
theorem dX11_line_148 : decode cX11_line 148 = .ok (.iadd, 1) := by decide +kernel
theorem dX11_line_149 : decode cX11_line 149 = .ok (.bipush 9, 2) := by decide +kernel
theorem dX11_line_151 : decode cX11_line 151 = .ok (.iastore, 1) := by decide +kernel
theorem dX11_line_152 : decode cX11_line 152 = .ok (.aload_n 0, 1) := by decide +kernel
theorem dX11_line_153 : decode cX11_line 153 = .ok (.getfield 38, 3) := by decide +kernel
theorem dX11_line_156 : decode cX11_line 156 = .ok (.sipush 1000, 3) := by decide +kernel
theorem dX11_line_159 : decode cX11_line 159 = .ok (.iload_n 1, 1) := by decide +kernel
theorem dX11_line_160 : decode cX11_line 160 = .ok (.imul, 1) := by decide +kernel
theorem dX11_line_161 : decode cX11_line 161 = .ok (.bipush 10, 2) := by decide +kernel
theorem dX11_line_163 : decode cX11_line 163 = .ok (.iadd, 1) := by decide +kernel
theorem dX11_line_164 : decode cX11_line 164 = .ok (.bipush 9, 2) := by decide +kernel
theorem dX11_line_166 : decode cX11_line 166 = .ok (.iastore, 1) := by decide +kernel
theorem dX11_line_167 : decode cX11_line 167 = .ok (.aload_n 0, 1) := by decide +kernel
theorem dX11_line_168 : decode cX11_line 168 = .ok (.getfield 38, 3) := by decide +kernel
theorem dX11_line_171 : decode cX11_line 171 = .ok (.sipush 1000, 3) := by decide +kernel
theorem dX11_line_174 : decode cX11_line 174 = .ok (.iload_n 1, 1) := by decide +kernel
theorem dX11_line_175 : decode cX11_line 175 = .ok (.imul, 1) := by decide +kernel
theorem dX11_line_176 : decode cX11_line 176 = .ok (.bipush 11, 2) := by decide +kernel
theorem dX11_line_178 : decode cX11_line 178 = .ok (.iadd, 1) := by decide +kernel
theorem dX11_line_179 : decode cX11_line 179 = .ok (.iconst 0, 1) := by decide +kernel
theorem dX11_line_180 : decode cX11_line 180 = .ok (.iastore, 1) := by decide +kernel
theorem dX11_line_181 : decode cX11_line 181 = .ok (.iinc 1 1, 3) := by decide +kernel
theorem dX11_line_184 : decode cX11_line 184 = .ok (.goto (-177), 3) := by decide +kernel
theorem dX11_line_187 : decode cX11_line 187 = .ok (.aload_n 0, 1) := by decide +kernel
theorem dX11_line_188 : decode cX11_line 188 = .ok (.iconst 0, 1) := by decide +kernel
theorem dX11_line_189 : decode cX11_line 189 = .ok (.putfield 195, 3) := by decide +kernel
theorem dX11_line_192 : decode cX11_line 192 = .ok (.aload_n 0, 1) := by decide +kernel
theorem dX11_line_193 : decode cX11_line 193 = .ok (.invokevirtual 373, 3) := by decide +kernel
theorem dX11_line_196 : decode cX11_line 196 = .ok (.istore_n 1, 1) := by decide +kernel
theorem dX11_line_197 : decode cX11_line 197 = .ok (.iload_n 1, 1) := by decide +kernel
theorem dX11_line_198 : decode cX11_line 198 = .ok (.iconst (-1), 1) := by decide +kernel
theorem dX11_line_199 : decode cX11_line 199 = .ok (.if_icmp .ne 7, 3) := by decide +kernel
theorem dX11_line_202 : decode cX11_line 202 = .ok (.iconst (-1), 1) := by decide +kernel
theorem dX11_line_203 : decode cX11_line 203 = .ok (.goto 12, 3) := by decide +kernel
theorem dX11_line_206 : decode cX11_line 206 = .ok (.aload_n 0, 1) := by decide +kernel
theorem dX11_line_207 : decode cX11_line 207 = .ok (.getfield 87, 3) := by decide +kernel
theorem dX11_line_210 : decode cX11_line 210 = .ok (.iload_n 1, 1) := by decide +kernel
theorem dX11_line_211 : decode cX11_line 211 = .ok (.iaload, 1) := by decide +kernel
theorem dX11_line_212 : decode cX11_line 212 = .ok (.invokestatic 177, 3) := by decide +kernel
theorem dX11_line_215 : decode cX11_line 215 = .ok (.ireturn, 1) := by decide +kernel
theorem dX11_isWonIf_0 : decode cX11_isWonIf 0 = .ok (.aload_n 0, 1) := by decide +kernel
theorem dX11_isWonIf_1 : decode cX11_isWonIf 1 = .ok (.iload_n 1, 1) := by decide +kernel
theorem dX11_isWonIf_2 : decode cX11_isWonIf 2 = .ok (.invokevirtual 376, 3) := by decide +kernel
theorem dX11_isWonIf_5 : decode cX11_isWonIf 5 = .ok (.aload_n 0, 1) := by decide +kernel
theorem dX11_isWonIf_6 : decode cX11_isWonIf 6 = .ok (.getfield 78, 3) := by decide +kernel
theorem dX11_isWonIf_9 : decode cX11_isWonIf 9 = .ok (.iload_n 2, 1) := by decide +kernel
theorem dX11_isWonIf_10 : decode cX11_isWonIf 10 = .ok (.iload_n 3, 1) := by decide +kernel
theorem dX11_isWonIf_11 : decode cX11_isWonIf 11 = .ok (.iastore, 1) := by decide +kernel
theorem dX11_isWonIf_12 : decode cX11_isWonIf 12 = .ok (.aload_n 0, 1) := by decide +kernel
theorem dX11_isWonIf_13 : decode cX11_isWonIf 13 = .ok (.getfield 29, 3) := by decide +kernel
theorem dX11_isWonIf_16 : decode cX11_isWonIf 16 = .ok (.iload_n 2, 1) := by decide +kernel
theorem dX11_isWonIf_17 : decode cX11_isWonIf 17 = .ok (.iaload, 1) := by decide +kernel
theorem dX11_isWonIf_18 : decode cX11_isWonIf 18 = .ok (.iconst 1, 1) := by decide +kernel
theorem dX11_isWonIf_19 : decode cX11_isWonIf 19 = .ok (.iadd, 1) := by decide +kernel
theorem dX11_isWonIf_20 : decode cX11_isWonIf 20 = .ok (.istore 4, 2) := by decide +kernel
theorem dX11_isWonIf_22 : decode cX11_isWonIf 22 = .ok (.iload 4, 2) := by decide +kernel
theorem dX11_isWonIf_24 : decode cX11_isWonIf 24 = .ok (.bipush 8, 2) := by decide +kernel
theorem dX11_isWonIf_26 : decode cX11_isWonIf 26 = .ok (.if_icmp .ge 52, 3) := by decide +kernel
theorem dX11_isWonIf_29 : decode cX11_isWonIf 29 = .ok (.iconst 0, 1) := by decide +kernel
theorem dX11_isWonIf_30 : decode cX11_isWonIf 30 = .ok (.istore 5, 2) := by decide +kernel
theorem dX11_isWonIf_32 : decode cX11_isWonIf 32 = .ok (.iload 5, 2) := by decide +kernel
theorem dX11_isWonIf_34 : decode cX11_isWonIf 34 = .ok (.aload_n 0, 1) := by decide +kernel
theorem dX11_isWonIf_35 : decode cX11_isWonIf 35 = .ok (.getfield 7, 3) := by decide +kernel
theorem dX11_isWonIf_38 : decode cX11_isWonIf 38 = .ok (.if_icmp .ge 34, 3) := by decide +kernel
theorem dX11_isWonIf_41 : decode cX11_isWonIf 41 = .ok (.aload_n 0, 1) := by decide +kernel
theorem dX11_isWonIf_42 : decode cX11_isWonIf 42 = .ok (.getfield 29, 3) := by decide +kernel
theorem dX11_isWonIf_45 : decode cX11_isWonIf 45 = .ok (.iload 5, 2) := by decide +kernel
theorem dX11_isWonIf_47 : decode cX11_isWonIf 47 = .ok (.iaload, 1) := by decide +kernel
theorem dX11_isWonIf_48 : decode cX11_isWonIf 48 = .ok (.iload 4, 2) := by decide +kernel
theorem dX11_isWonIf_50 : decode cX11_isWonIf 50 = .ok (.if_icmp .ne 16, 3) := by decide +kernel
theorem dX11_isWonIf_53 : decode cX11_isWonIf 53 = .ok (.aload_n 0, 1) := by decide +kernel
theorem dX11_isWonIf_54 : decode cX11_isWonIf 54 = .ok (.getfield 78, 3) := by decide +kernel
theorem dX11_isWonIf_57 : decode cX11_isWonIf 57 = .ok (.iload 5, 2) := by decide +kernel
theorem dX11_isWonIf_59 : decode cX11_isWonIf 59 = .ok (.aload_n 0, 1) := by decide +kernel
theorem dX11_isWonIf_60 : decode cX11_isWonIf 60 = .ok (.iload 5, 2) := by decide +kernel
theorem dX11_isWonIf_62 : decode cX11_isWonIf 62 = .ok (.invokevirtual 348, 3) := by decide +kernel
theorem dX11_isWonIf_65 : decode cX11_isWonIf 65 = .ok (.iastore, 1) := by decide +kernel
theorem dX11_isWonIf_66 : decode cX11_isWonIf 66 = .ok (.iinc 5 1, 3) := by decide +kernel
theorem dX11_isWonIf_69 : decode cX11_isWonIf 69 = .ok (.goto (-37), 3) := by decide +kernel
theorem dX11_isWonIf_72 : decode cX11_isWonIf 72 = .ok (.iinc 4 1, 3) := by decide +kernel
theorem dX11_isWonIf_75 : decode cX11_isWonIf 75 = .ok (.goto (-53), 3) := by decide +kernel
theorem dX11_isWonIf_78 : decode cX11_isWonIf 78 = .ok (.iconst 0, 1) := by decide +kernel
theorem dX11_isWonIf_79 : decode cX11_isWonIf 79 = .ok (.istore 4, 2) := by decide +kernel
theorem dX11_isWonIf_81 : decode cX11_isWonIf 81 = .ok (.iconst 0, 1) := by decide +kernel
theorem dX11_isWonIf_82 : decode cX11_isWonIf 82 = .ok (.istore 5, 2) := by decide +kernel
theorem dX11_isWonIf_84 : decode cX11_isWonIf 84 = .ok (.iconst 0, 1) := by decide +kernel
theorem dX11_isWonIf_85 : decode cX11_isWonIf 85 = .ok (.istore 6, 2) := by decide +kernel
theorem dX11_isWonIf_87 : decode cX11_isWonIf 87 = .ok (.iload 6, 2) := by decide +kernel
theorem dX11_isWonIf_89 : decode cX11_isWonIf 89 = .ok (.aload_n 0, 1) := by decide +kernel
theorem dX11_isWonIf_90 : decode cX11_isWonIf 90 = .ok (.getfield 7, 3) := by decide +kernel
theorem dX11_isWonIf_93 : decode cX11_isWonIf 93 = .ok (.if_icmp .ge 61, 3) := by decide +kernel
theorem dX11_isWonIf_96 : decode cX11_isWonIf 96 = .ok (.aload_n 0, 1) := by decide +kernel
theorem dX11_isWonIf_97 : decode cX11_isWonIf 97 = .ok (.getfield 78, 3) := by decide +kernel
theorem dX11_isWonIf_100 : decode cX11_isWonIf 100 = .ok (.iload 6, 2) := by decide +kernel
theorem dX11_isWonIf_102 : decode cX11_isWonIf 102 = .ok (.iaload, 1) := by decide +kernel
theorem dX11_isWonIf_103 : decode cX11_isWonIf 103 = .ok (.aload_n 0, 1) := by decide +kernel
theorem dX11_isWonIf_104 : decode cX11_isWonIf 104 = .ok (.getfield 75, 3) := by decide +kernel
theorem dX11_isWonIf_107 : decode cX11_isWonIf 107 = .ok (.iload 6, 2) := by decide +kernel
theorem dX11_isWonIf_109 : decode cX11_isWonIf 109 = .ok (.iaload, 1) := by decide +kernel
theorem dX11_isWonIf_110 : decode cX11_isWonIf 110 = .ok (.if_icmp .ne 15, 3) := by decide +kernel
theorem dX11_isWonIf_113 : decode cX11_isWonIf 113 = .ok (.iload 4, 2) := by decide +kernel
theorem dX11_isWonIf_115 : decode cX11_isWonIf 115 = .ok (.iconst 1, 1) := by decide +kernel
theorem dX11_isWonIf_116 : decode cX11_isWonIf 116 = .ok (.iload 6, 2) := by decide +kernel
theorem dX11_isWonIf_118 : decode cX11_isWonIf 118 = .ok (.ishl, 1) := by decide +kernel
theorem dX11_isWonIf_119 : decode cX11_isWonIf 119 = .ok (.ior, 1) := by decide +kernel
theorem dX11_isWonIf_120 : decode cX11_isWonIf 120 = .ok (.istore 4, 2) := by decide +kernel
theorem dX11_isWonIf_122 : decode cX11_isWonIf 122 = .ok (.goto 26, 3) := by decide +kernel
theorem dX11_isWonIf_125 : decode cX11_isWonIf 125 = .ok (.aload_n 0, 1) := by decide +kernel
theorem dX11_isWonIf_126 : decode cX11_isWonIf 126 = .ok (.getfield 78, 3) := by decide +kernel
theorem dX11_isWonIf_129 : decode cX11_isWonIf 129 = .ok (.iload 6, 2) := by decide +kernel
theorem dX11_isWonIf_131 : decode cX11_isWonIf 131 = .ok (.iaload, 1) := by decide +kernel
theorem dX11_isWonIf_132 : decode cX11_isWonIf 132 = .ok (.aload_n 0, 1) := by decide +kernel
theorem dX11_isWonIf_133 : decode cX11_isWonIf 133 = .ok (.getfield 13, 3) := by decide +kernel
theorem dX11_isWonIf_136 : decode cX11_isWonIf 136 = .ok (.if_icmp .eq 12, 3) := by decide +kernel
theorem dX11_isWonIf_139 : decode cX11_isWonIf 139 = .ok (.iload 5, 2) := by decide +kernel
theorem dX11_isWonIf_141 : decode cX11_isWonIf 141 = .ok (.iconst 1, 1) := by decide +kernel
theorem dX11_isWonIf_142 : decode cX11_isWonIf 142 = .ok (.iload 6, 2) := by decide +kernel
theorem dX11_isWonIf_144 : decode cX11_isWonIf 144 = .ok (.ishl, 1) := by decide +kernel
theorem dX11_isWonIf_145 : decode cX11_isWonIf 145 = .ok (.ior, 1) := by decide +kernel
theorem dX11_isWonIf_146 : decode cX11_isWonIf 146 = .ok (.istore 5, 2) := by decide +kernel
theorem dX11_isWonIf_148 : decode cX11_isWonIf 148 = .ok (.iinc 6 1, 3) := by decide +kernel
theorem dX11_isWonIf_151 : decode cX11_isWonIf 151 = .ok (.goto (-64), 3) := by decide +kernel
theorem dX11_isWonIf_154 : decode cX11_isWonIf 154 = .ok (.aload_n 0, 1) := by decide +kernel
theorem dX11_isWonIf_155 : decode cX11_isWonIf 155 = .ok (.iload 4, 2) := by decide +kernel
theorem dX11_isWonIf_157 : decode cX11_isWonIf 157 = .ok (.iload 5, 2) := by decide +kernel
theorem dX11_isWonIf_159 : decode cX11_isWonIf 159 = .ok (.invokevirtual 366, 3) := by decide +kernel
theorem dX11_isWonIf_162 : decode cX11_isWonIf 162 = .ok (.ireturn, 1) := by decide +kernel
theorem dX11_weighs_0 : decode cX11_weighs 0 = .ok (.aload_n 0, 1) := by decide +kernel
theorem dX11_weighs_1 : decode cX11_weighs 1 = .ok (.iload_n 1, 1) := by decide +kernel
theorem dX11_weighs_2 : decode cX11_weighs 2 = .ok (.invokevirtual 184, 3) := by decide +kernel
theorem dX11_weighs_5 : decode cX11_weighs 5 = .ok (.istore_n 2, 1) := by decide +kernel
theorem dX11_weighs_6 : decode cX11_weighs 6 = .ok (.iconst 0, 1) := by decide +kernel
theorem dX11_weighs_7 : decode cX11_weighs 7 = .ok (.istore_n 3, 1) := by decide +kernel
theorem dX11_weighs_8 : decode cX11_weighs 8 = .ok (.iload_n 3, 1) := by decide +kernel
theorem dX11_weighs_9 : decode cX11_weighs 9 = .ok (.iconst 5, 1) := by decide +kernel
theorem dX11_weighs_10 : decode cX11_weighs 10 = .ok (.iload_n 2, 1) := by decide +kernel
theorem dX11_weighs_11 : decode cX11_weighs 11 = .ok (.imul, 1) := by decide +kernel
theorem dX11_weighs_12 : decode cX11_weighs 12 = .ok (.if_icmp .ge 16, 3) := by decide +kernel
theorem dX11_weighs_15 : decode cX11_weighs 15 = .ok (.aload_n 0, 1) := by decide +kernel
theorem dX11_weighs_16 : decode cX11_weighs 16 = .ok (.getfield 139, 3) := by decide +kernel
theorem dX11_weighs_19 : decode cX11_weighs 19 = .ok (.iload_n 3, 1) := by decide +kernel
theorem dX11_weighs_20 : decode cX11_weighs 20 = .ok (.iconst 0, 1) := by decide +kernel
theorem dX11_weighs_21 : decode cX11_weighs 21 = .ok (.iastore, 1) := by decide +kernel
theorem dX11_weighs_22 : decode cX11_weighs 22 = .ok (.iinc 3 1, 3) := by decide +kernel
theorem dX11_weighs_25 : decode cX11_weighs 25 = .ok (.goto (-17), 3) := by decide +kernel
theorem dX11_weighs_28 : decode cX11_weighs 28 = .ok (.iconst 0, 1) := by decide +kernel
theorem dX11_weighs_29 : decode cX11_weighs 29 = .ok (.istore_n 3, 1) := by decide +kernel
theorem dX11_weighs_30 : decode cX11_weighs 30 = .ok (.iload_n 3, 1) := by decide +kernel
theorem dX11_weighs_31 : decode cX11_weighs 31 = .ok (.aload_n 0, 1) := by decide +kernel
theorem dX11_weighs_32 : decode cX11_weighs 32 = .ok (.getfield 16, 3) := by decide +kernel
theorem dX11_weighs_35 : decode cX11_weighs 35 = .ok (.if_icmp .ge 128, 3) := by decide +kernel
theorem dX11_weighs_38 : decode cX11_weighs 38 = .ok (.aload_n 0, 1) := by decide +kernel
theorem dX11_weighs_39 : decode cX11_weighs 39 = .ok (.iload_n 3, 1) := by decide +kernel
theorem dX11_weighs_40 : decode cX11_weighs 40 = .ok (.invokevirtual 363, 3) := by decide +kernel
theorem dX11_weighs_43 : decode cX11_weighs 43 = .ok (.ifCond .ne 6, 3) := by decide +kernel
theorem dX11_weighs_46 : decode cX11_weighs 46 = .ok (.goto 111, 3) := by decide +kernel
theorem dX11_weighs_49 : decode cX11_weighs 49 = .ok (.aload_n 0, 1) := by decide +kernel
theorem dX11_weighs_50 : decode cX11_weighs 50 = .ok (.iload_n 3, 1) := by decide +kernel
theorem dX11_weighs_51 : decode cX11_weighs 51 = .ok (.invokevirtual 376, 3) := by decide +kernel
theorem dX11_weighs_54 : decode cX11_weighs 54 = .ok (.aload_n 0, 1) := by decide +kernel
theorem dX11_weighs_55 : decode cX11_weighs 55 = .ok (.iload_n 1, 1) := by decide +kernel
theorem dX11_weighs_56 : decode cX11_weighs 56 = .ok (.invokevirtual 339, 3) := by decide +kernel
theorem dX11_weighs_59 : decode cX11_weighs 59 = .ok (.istore 4, 2) := by decide +kernel
theorem dX11_weighs_61 : decode cX11_weighs 61 = .ok (.aload_n 0, 1) := by decide +kernel
theorem dX11_weighs_62 : decode cX11_weighs 62 = .ok (.aload_n 0, 1) := by decide +kernel
theorem dX11_weighs_63 : decode cX11_weighs 63 = .ok (.getfield 84, 3) := by decide +kernel
theorem dX11_weighs_66 : decode cX11_weighs 66 = .ok (.iload_n 3, 1) := by decide +kernel
theorem dX11_weighs_67 : decode cX11_weighs 67 = .ok (.iaload, 1) := by decide +kernel
theorem dX11_weighs_68 : decode cX11_weighs 68 = .ok (.aload_n 0, 1) := by decide +kernel
theorem dX11_weighs_69 : decode cX11_weighs 69 = .ok (.getfield 87, 3) := by decide +kernel
theorem dX11_weighs_72 : decode cX11_weighs 72 = .ok (.iload_n 3, 1) := by decide +kernel
theorem dX11_weighs_73 : decode cX11_weighs 73 = .ok (.iaload, 1) := by decide +kernel
theorem dX11_weighs_74 : decode cX11_weighs 74 = .ok (.invokevirtual 366, 3) := by decide +kernel
theorem dX11_weighs_77 : decode cX11_weighs 77 = .ok (.ifCond .eq 7, 3) := by decide +kernel
theorem dX11_weighs_80 : decode cX11_weighs 80 = .ok (.iconst 1, 1) := by decide +kernel
theorem dX11_weighs_81 : decode cX11_weighs 81 = .ok (.goto 4, 3) := by decide +kernel
theorem dX11_weighs_84 : decode cX11_weighs 84 = .ok (.iconst 0, 1) := by decide +kernel
theorem dX11_weighs_85 : decode cX11_weighs 85 = .ok (.istore 5, 2) := by decide +kernel
theorem dX11_weighs_87 : decode cX11_weighs 87 = .ok (.iconst 0, 1) := by decide +kernel
theorem dX11_weighs_88 : decode cX11_weighs 88 = .ok (.istore 6, 2) := by decide +kernel
theorem dX11_weighs_90 : decode cX11_weighs 90 = .ok (.iload 6, 2) := by decide +kernel
theorem dX11_weighs_92 : decode cX11_weighs 92 = .ok (.aload_n 0, 1) := by decide +kernel
theorem dX11_weighs_93 : decode cX11_weighs 93 = .ok (.getfield 13, 3) := by decide +kernel
theorem dX11_weighs_96 : decode cX11_weighs 96 = .ok (.if_icmp .gt 61, 3) := by decide +kernel
theorem dX11_weighs_99 : decode cX11_weighs 99 = .ok (.iload 6, 2) := by decide +kernel
theorem dX11_weighs_101 : decode cX11_weighs 101 = .ok (.aload_n 0, 1) := by decide +kernel
theorem dX11_weighs_102 : decode cX11_weighs 102 = .ok (.getfield 35, 3) := by decide +kernel
theorem dX11_weighs_105 : decode cX11_weighs 105 = .ok (.sipush 1024, 3) := by decide +kernel
theorem dX11_weighs_108 : decode cX11_weighs 108 = .ok (.iload_n 1, 1) := by decide +kernel
theorem dX11_weighs_109 : decode cX11_weighs 109 = .ok (.imul, 1) := by decide +kernel
theorem dX11_weighs_110 : decode cX11_weighs 110 = .ok (.iload 4, 2) := by decide +kernel
theorem dX11_weighs_112 : decode cX11_weighs 112 = .ok (.iadd, 1) := by decide +kernel
theorem dX11_weighs_113 : decode cX11_weighs 113 = .ok (.iaload, 1) := by decide +kernel
theorem dX11_weighs_114 : decode cX11_weighs 114 = .ok (.if_icmp .eq 37, 3) := by decide +kernel
theorem dX11_weighs_117 : decode cX11_weighs 117 = .ok (.aload_n 0, 1) := by decide +kernel
theorem dX11_weighs_118 : decode cX11_weighs 118 = .ok (.getfield 139, 3) := by decide +kernel
theorem dX11_weighs_121 : decode cX11_weighs 121 = .ok (.iconst 5, 1) := by decide +kernel
theorem dX11_weighs_122 : decode cX11_weighs 122 = .ok (.iload 4, 2) := by decide +kernel
theorem dX11_weighs_124 : decode cX11_weighs 124 = .ok (.imul, 1) := by decide +kernel
theorem dX11_weighs_125 : decode cX11_weighs 125 = .ok (.iload 6, 2) := by decide +kernel
theorem dX11_weighs_127 : decode cX11_weighs 127 = .ok (.iadd, 1) := by decide +kernel
theorem dX11_weighs_128 : decode cX11_weighs 128 = .ok (.dup2, 1) := by decide +kernel
theorem dX11_weighs_129 : decode cX11_weighs 129 = .ok (.iaload, 1) := by decide +kernel
theorem dX11_weighs_130 : decode cX11_weighs 130 = .ok (.aload_n 0, 1) := by decide +kernel
theorem dX11_weighs_131 : decode cX11_weighs 131 = .ok (.iload_n 3, 1) := by decide +kernel
theorem dX11_weighs_132 : decode cX11_weighs 132 = .ok (.iload_n 1, 1) := by decide +kernel
theorem dX11_weighs_133 : decode cX11_weighs 133 = .ok (.iload 6, 2) := by decide +kernel
theorem dX11_weighs_135 : decode cX11_weighs 135 = .ok (.invokevirtual 428, 3) := by decide +kernel
theorem dX11_weighs_138 : decode cX11_weighs 138 = .ok (.ifCond .eq 7, 3) := by decide +kernel
theorem dX11_weighs_141 : decode cX11_weighs 141 = .ok (.iconst 1, 1) := by decide +kernel
theorem dX11_weighs_142 : decode cX11_weighs 142 = .ok (.goto 4, 3) := by decide +kernel
theorem dX11_weighs_145 : decode cX11_weighs 145 = .ok (.iconst 0, 1) := by decide +kernel
theorem dX11_weighs_146 : decode cX11_weighs 146 = .ok (.iload 5, 2) := by decide +kernel
theorem dX11_weighs_148 : decode cX11_weighs 148 = .ok (.isub, 1) := by decide +kernel
theorem dX11_weighs_149 : decode cX11_weighs 149 = .ok (.iadd, 1) := by decide +kernel
theorem dX11_weighs_150 : decode cX11_weighs 150 = .ok (.iastore, 1) := by decide +kernel
theorem dX11_weighs_151 : decode cX11_weighs 151 = .ok (.iinc 6 1, 3) := by decide +kernel
theorem dX11_weighs_154 : decode cX11_weighs 154 = .ok (.goto (-64), 3) := by decide +kernel
theorem dX11_weighs_157 : decode cX11_weighs 157 = .ok (.iinc 3 1, 3) := by decide +kernel
theorem dX11_weighs_160 : decode cX11_weighs 160 = .ok (.goto (-130), 3) := by decide +kernel
theorem dX11_weighs_163 : decode cX11_weighs 163 = .ok (.iconst 0, 1) := by decide +kernel
theorem dX11_weighs_164 : decode cX11_weighs 164 = .ok (.istore_n 3, 1) := by decide +kernel
theorem dX11_weighs_165 : decode cX11_weighs 165 = .ok (.iload_n 3, 1) := by decide +kernel
theorem dX11_weighs_166 : decode cX11_weighs 166 = .ok (.iload_n 2, 1) := by decide +kernel
theorem dX11_weighs_167 : decode cX11_weighs 167 = .ok (.if_icmp .ge 79, 3) := by decide +kernel
theorem dX11_weighs_170 : decode cX11_weighs 170 = .ok (.iconst 0, 1) := by decide +kernel
theorem dX11_weighs_171 : decode cX11_weighs 171 = .ok (.istore 4, 2) := by decide +kernel
theorem dX11_weighs_173 : decode cX11_weighs 173 = .ok (.iload 4, 2) := by decide +kernel
theorem dX11_weighs_175 : decode cX11_weighs 175 = .ok (.aload_n 0, 1) := by decide +kernel
theorem dX11_weighs_176 : decode cX11_weighs 176 = .ok (.getfield 13, 3) := by decide +kernel
theorem dX11_weighs_179 : decode cX11_weighs 179 = .ok (.if_icmp .gt 61, 3) := by decide +kernel
theorem dX11_weighs_182 : decode cX11_weighs 182 = .ok (.aload_n 0, 1) := by decide +kernel
theorem dX11_weighs_183 : decode cX11_weighs 183 = .ok (.getfield 139, 3) := by decide +kernel
theorem dX11_weighs_186 : decode cX11_weighs 186 = .ok (.iconst 5, 1) := by decide +kernel
theorem dX11_weighs_187 : decode cX11_weighs 187 = .ok (.iload_n 3, 1) := by decide +kernel
theorem dX11_weighs_188 : decode cX11_weighs 188 = .ok (.imul, 1) := by decide +kernel
theorem dX11_weighs_189 : decode cX11_weighs 189 = .ok (.iload 4, 2) := by decide +kernel
theorem dX11_weighs_191 : decode cX11_weighs 191 = .ok (.iadd, 1) := by decide +kernel
theorem dX11_weighs_192 : decode cX11_weighs 192 = .ok (.iaload, 1) := by decide +kernel
theorem dX11_weighs_193 : decode cX11_weighs 193 = .ok (.aload_n 0, 1) := by decide +kernel
theorem dX11_weighs_194 : decode cX11_weighs 194 = .ok (.getfield 431, 3) := by decide +kernel
theorem dX11_weighs_197 : decode cX11_weighs 197 = .ok (.if_icmp .gt 6, 3) := by decide +kernel
theorem dX11_weighs_200 : decode cX11_weighs 200 = .ok (.goto 34, 3) := by decide +kernel
theorem dX11_weighs_203 : decode cX11_weighs 203 = .ok (.aload_n 0, 1) := by decide +kernel
theorem dX11_weighs_204 : decode cX11_weighs 204 = .ok (.aload_n 0, 1) := by decide +kernel
theorem dX11_weighs_205 : decode cX11_weighs 205 = .ok (.getfield 139, 3) := by decide +kernel
theorem dX11_weighs_208 : decode cX11_weighs 208 = .ok (.iconst 5, 1) := by decide +kernel
theorem dX11_weighs_209 : decode cX11_weighs 209 = .ok (.iload_n 3, 1) := by decide +kernel
theorem dX11_weighs_210 : decode cX11_weighs 210 = .ok (.imul, 1) := by decide +kernel
theorem dX11_weighs_211 : decode cX11_weighs 211 = .ok (.iload 4, 2) := by decide +kernel
theorem dX11_weighs_213 : decode cX11_weighs 213 = .ok (.iadd, 1) := by decide +kernel
theorem dX11_weighs_214 : decode cX11_weighs 214 = .ok (.iaload, 1) := by decide +kernel
theorem dX11_weighs_215 : decode cX11_weighs 215 = .ok (.putfield 431, 3) := by decide +kernel
theorem dX11_weighs_218 : decode cX11_weighs 218 = .ok (.aload_n 0, 1) := by decide +kernel
theorem dX11_weighs_219 : decode cX11_weighs 219 = .ok (.iload_n 1, 1) := by decide +kernel
theorem dX11_weighs_220 : decode cX11_weighs 220 = .ok (.putfield 434, 3) := by decide +kernel
theorem dX11_weighs_223 : decode cX11_weighs 223 = .ok (.aload_n 0, 1) := by decide +kernel
theorem dX11_weighs_224 : decode cX11_weighs 224 = .ok (.iload_n 3, 1) := by decide +kernel
theorem dX11_weighs_225 : decode cX11_weighs 225 = .ok (.putfield 437, 3) := by decide +kernel
theorem dX11_weighs_228 : decode cX11_weighs 228 = .ok (.aload_n 0, 1) := by decide +kernel
theorem dX11_weighs_229 : decode cX11_weighs 229 = .ok (.iload 4, 2) := by decide +kernel
theorem dX11_weighs_231 : decode cX11_weighs 231 = .ok (.putfield 440, 3) := by decide +kernel
theorem dX11_weighs_234 : decode cX11_weighs 234 = .ok (.iinc 4 1, 3) := by decide +kernel
theorem dX11_weighs_237 : decode cX11_weighs 237 = .ok (.goto (-64), 3) := by decide +kernel
theorem dX11_weighs_240 : decode cX11_weighs 240 = .ok (.iinc 3 1, 3) := by decide +kernel
theorem dX11_weighs_243 : decode cX11_weighs 243 = .ok (.goto (-78), 3) := by decide +kernel
theorem dX11_weighs_246 : decode cX11_weighs 246 = .ok (.return_, 1) := by decide +kernel
theorem dX11_mend_0 : decode cX11_mend 0 = .ok (.aload_n 0, 1) := by decide +kernel
theorem dX11_mend_1 : decode cX11_mend 1 = .ok (.iconst 0, 1) := by decide +kernel
theorem dX11_mend_2 : decode cX11_mend 2 = .ok (.putfield 174, 3) := by decide +kernel
theorem dX11_mend_5 : decode cX11_mend 5 = .ok (.aload_n 0, 1) := by decide +kernel
theorem dX11_mend_6 : decode cX11_mend 6 = .ok (.iload_n 1, 1) := by decide +kernel
theorem dX11_mend_7 : decode cX11_mend 7 = .ok (.iconst 0, 1) := by decide +kernel
theorem dX11_mend_8 : decode cX11_mend 8 = .ok (.bipush 20, 2) := by decide +kernel
theorem dX11_mend_10 : decode cX11_mend 10 = .ok (.invokestatic 199, 3) := by decide +kernel
theorem dX11_mend_13 : decode cX11_mend 13 = .ok (.iconst 1, 1) := by decide +kernel
theorem dX11_mend_14 : decode cX11_mend 14 = .ok (.invokevirtual 203, 3) := by decide +kernel
theorem dX11_mend_17 : decode cX11_mend 17 = .ok (.ifCond .ne 5, 3) := by decide +kernel
theorem dX11_mend_20 : decode cX11_mend 20 = .ok (.iconst 0, 1) := by decide +kernel
theorem dX11_mend_21 : decode cX11_mend 21 = .ok (.ireturn, 1) := by decide +kernel
theorem dX11_mend_22 : decode cX11_mend 22 = .ok (.iconst 0, 1) := by decide +kernel
theorem dX11_mend_23 : decode cX11_mend 23 = .ok (.istore_n 2, 1) := by decide +kernel
theorem dX11_mend_24 : decode cX11_mend 24 = .ok (.iconst 0, 1) := by decide +kernel
theorem dX11_mend_25 : decode cX11_mend 25 = .ok (.istore_n 3, 1) := by decide +kernel
theorem dX11_mend_26 : decode cX11_mend 26 = .ok (.iload_n 3, 1) := by decide +kernel
theorem dX11_mend_27 : decode cX11_mend 27 = .ok (.aload_n 0, 1) := by decide +kernel
theorem dX11_mend_28 : decode cX11_mend 28 = .ok (.getfield 7, 3) := by decide +kernel
theorem dX11_mend_31 : decode cX11_mend 31 = .ok (.if_icmp .ge 30, 3) := by decide +kernel
theorem dX11_mend_34 : decode cX11_mend 34 = .ok (.iload_n 2, 1) := by decide +kernel
theorem dX11_mend_35 : decode cX11_mend 35 = .ok (.aload_n 0, 1) := by decide +kernel
theorem dX11_mend_36 : decode cX11_mend 36 = .ok (.getfield 32, 3) := by decide +kernel
theorem dX11_mend_39 : decode cX11_mend 39 = .ok (.iload_n 3, 1) := by decide +kernel
theorem dX11_mend_40 : decode cX11_mend 40 = .ok (.iaload, 1) := by decide +kernel
theorem dX11_mend_41 : decode cX11_mend 41 = .ok (.ifCond .ne 11, 3) := by decide +kernel
theorem dX11_mend_44 : decode cX11_mend 44 = .ok (.aload_n 0, 1) := by decide +kernel
theorem dX11_mend_45 : decode cX11_mend 45 = .ok (.iload_n 3, 1) := by decide +kernel
theorem dX11_mend_46 : decode cX11_mend 46 = .ok (.invokevirtual 184, 3) := by decide +kernel
theorem dX11_mend_49 : decode cX11_mend 49 = .ok (.goto 4, 3) := by decide +kernel
theorem dX11_mend_52 : decode cX11_mend 52 = .ok (.iconst 0, 1) := by decide +kernel
theorem dX11_mend_53 : decode cX11_mend 53 = .ok (.iadd, 1) := by decide +kernel
theorem dX11_mend_54 : decode cX11_mend 54 = .ok (.istore_n 2, 1) := by decide +kernel
theorem dX11_mend_55 : decode cX11_mend 55 = .ok (.iinc 3 1, 3) := by decide +kernel
theorem dX11_mend_58 : decode cX11_mend 58 = .ok (.goto (-32), 3) := by decide +kernel
theorem dX11_mend_61 : decode cX11_mend 61 = .ok (.iload_n 2, 1) := by decide +kernel
theorem dX11_mend_62 : decode cX11_mend 62 = .ok (.sipush 256, 3) := by decide +kernel
theorem dX11_mend_65 : decode cX11_mend 65 = .ok (.if_icmp .gt 13, 3) := by decide +kernel
theorem dX11_mend_68 : decode cX11_mend 68 = .ok (.aload_n 0, 1) := by decide +kernel
theorem dX11_mend_69 : decode cX11_mend 69 = .ok (.getfield 16, 3) := by decide +kernel
theorem dX11_mend_72 : decode cX11_mend 72 = .ok (.sipush 256, 3) := by decide +kernel
theorem dX11_mend_75 : decode cX11_mend 75 = .ok (.if_icmp .le 5, 3) := by decide +kernel
theorem dX11_mend_78 : decode cX11_mend 78 = .ok (.iconst (-1), 1) := by decide +kernel
theorem dX11_mend_79 : decode cX11_mend 79 = .ok (.ireturn, 1) := by decide +kernel
theorem dX11_mend_80 : decode cX11_mend 80 = .ok (.iconst 0, 1) := by decide +kernel
theorem dX11_mend_81 : decode cX11_mend 81 = .ok (.istore_n 3, 1) := by decide +kernel
theorem dX11_mend_82 : decode cX11_mend 82 = .ok (.iconst 1, 1) := by decide +kernel
theorem dX11_mend_83 : decode cX11_mend 83 = .ok (.istore 4, 2) := by decide +kernel
theorem dX11_mend_85 : decode cX11_mend 85 = .ok (.iload 4, 2) := by decide +kernel
theorem dX11_mend_87 : decode cX11_mend 87 = .ok (.ifCond .eq 106, 3) := by decide +kernel
theorem dX11_mend_90 : decode cX11_mend 90 = .ok (.iload_n 3, 1) := by decide +kernel
theorem dX11_mend_91 : decode cX11_mend 91 = .ok (.iload_n 1, 1) := by decide +kernel
theorem dX11_mend_92 : decode cX11_mend 92 = .ok (.if_icmp .ge 101, 3) := by decide +kernel
theorem dX11_mend_95 : decode cX11_mend 95 = .ok (.aload_n 0, 1) := by decide +kernel
theorem dX11_mend_96 : decode cX11_mend 96 = .ok (.invokevirtual 360, 3) := by decide +kernel
theorem dX11_mend_99 : decode cX11_mend 99 = .ok (.aload_n 0, 1) := by decide +kernel
theorem dX11_mend_100 : decode cX11_mend 100 = .ok (.iconst 0, 1) := by decide +kernel
theorem dX11_mend_101 : decode cX11_mend 101 = .ok (.putfield 431, 3) := by decide +kernel
theorem dX11_mend_104 : decode cX11_mend 104 = .ok (.iconst 0, 1) := by decide +kernel
theorem dX11_mend_105 : decode cX11_mend 105 = .ok (.istore 5, 2) := by decide +kernel
theorem dX11_mend_107 : decode cX11_mend 107 = .ok (.iload 5, 2) := by decide +kernel
theorem dX11_mend_109 : decode cX11_mend 109 = .ok (.aload_n 0, 1) := by decide +kernel
theorem dX11_mend_110 : decode cX11_mend 110 = .ok (.getfield 7, 3) := by decide +kernel
theorem dX11_mend_113 : decode cX11_mend 113 = .ok (.if_icmp .ge 25, 3) := by decide +kernel
theorem dX11_mend_116 : decode cX11_mend 116 = .ok (.aload_n 0, 1) := by decide +kernel
theorem dX11_mend_117 : decode cX11_mend 117 = .ok (.getfield 32, 3) := by decide +kernel
theorem dX11_mend_120 : decode cX11_mend 120 = .ok (.iload 5, 2) := by decide +kernel
theorem dX11_mend_122 : decode cX11_mend 122 = .ok (.iaload, 1) := by decide +kernel
theorem dX11_mend_123 : decode cX11_mend 123 = .ok (.ifCond .ne 9, 3) := by decide +kernel
theorem dX11_mend_126 : decode cX11_mend 126 = .ok (.aload_n 0, 1) := by decide +kernel
theorem dX11_mend_127 : decode cX11_mend 127 = .ok (.iload 5, 2) := by decide +kernel
theorem dX11_mend_129 : decode cX11_mend 129 = .ok (.invokevirtual 443, 3) := by decide +kernel
theorem dX11_mend_132 : decode cX11_mend 132 = .ok (.iinc 5 1, 3) := by decide +kernel
theorem dX11_mend_135 : decode cX11_mend 135 = .ok (.goto (-28), 3) := by decide +kernel
theorem dX11_mend_138 : decode cX11_mend 138 = .ok (.aload_n 0, 1) := by decide +kernel
theorem dX11_mend_139 : decode cX11_mend 139 = .ok (.getfield 431, 3) := by decide +kernel
theorem dX11_mend_142 : decode cX11_mend 142 = .ok (.ifCond .le 7, 3) := by decide +kernel
theorem dX11_mend_145 : decode cX11_mend 145 = .ok (.iconst 1, 1) := by decide +kernel
theorem dX11_mend_146 : decode cX11_mend 146 = .ok (.goto 4, 3) := by decide +kernel
theorem dX11_mend_149 : decode cX11_mend 149 = .ok (.iconst 0, 1) := by decide +kernel
theorem dX11_mend_150 : decode cX11_mend 150 = .ok (.istore 4, 2) := by decide +kernel
theorem dX11_mend_152 : decode cX11_mend 152 = .ok (.iload 4, 2) := by decide +kernel
theorem dX11_mend_154 : decode cX11_mend 154 = .ok (.ifCond .ne 6, 3) := by decide +kernel
theorem dX11_mend_157 : decode cX11_mend 157 = .ok (.goto (-72), 3) := by decide +kernel
theorem dX11_mend_160 : decode cX11_mend 160 = .ok (.aload_n 0, 1) := by decide +kernel
theorem dX11_mend_161 : decode cX11_mend 161 = .ok (.getfield 35, 3) := by decide +kernel
theorem dX11_mend_164 : decode cX11_mend 164 = .ok (.sipush 1024, 3) := by decide +kernel
theorem dX11_mend_167 : decode cX11_mend 167 = .ok (.aload_n 0, 1) := by decide +kernel
theorem dX11_mend_168 : decode cX11_mend 168 = .ok (.getfield 434, 3) := by decide +kernel
theorem dX11_mend_171 : decode cX11_mend 171 = .ok (.imul, 1) := by decide +kernel
theorem dX11_mend_172 : decode cX11_mend 172 = .ok (.aload_n 0, 1) := by decide +kernel
theorem dX11_mend_173 : decode cX11_mend 173 = .ok (.getfield 437, 3) := by decide +kernel
theorem dX11_mend_176 : decode cX11_mend 176 = .ok (.iadd, 1) := by decide +kernel
theorem dX11_mend_177 : decode cX11_mend 177 = .ok (.aload_n 0, 1) := by decide +kernel
theorem dX11_mend_178 : decode cX11_mend 178 = .ok (.getfield 440, 3) := by decide +kernel
theorem dX11_mend_181 : decode cX11_mend 181 = .ok (.iastore, 1) := by decide +kernel
theorem dX11_mend_182 : decode cX11_mend 182 = .ok (.aload_n 0, 1) := by decide +kernel
theorem dX11_mend_183 : decode cX11_mend 183 = .ok (.iconst 0, 1) := by decide +kernel
theorem dX11_mend_184 : decode cX11_mend 184 = .ok (.putfield 195, 3) := by decide +kernel
theorem dX11_mend_187 : decode cX11_mend 187 = .ok (.iinc 3 1, 3) := by decide +kernel
theorem dX11_mend_190 : decode cX11_mend 190 = .ok (.goto (-105), 3) := by decide +kernel
theorem dX11_mend_193 : decode cX11_mend 193 = .ok (.iload_n 3, 1) := by decide +kernel
theorem dX11_mend_194 : decode cX11_mend 194 = .ok (.ireturn, 1) := by decide +kernel
theorem dX11_draw_0 : decode cX11_draw 0 = .ok (.aload_n 0, 1) := by decide +kernel
theorem dX11_draw_1 : decode cX11_draw 1 = .ok (.iconst 0, 1) := by decide +kernel
theorem dX11_draw_2 : decode cX11_draw 2 = .ok (.putfield 174, 3) := by decide +kernel
theorem dX11_draw_5 : decode cX11_draw 5 = .ok (.iload_n 1, 1) := by decide +kernel
theorem dX11_draw_6 : decode cX11_draw 6 = .ok (.istore_n 2, 1) := by decide +kernel
theorem dX11_draw_7 : decode cX11_draw 7 = .ok (.iconst 0, 1) := by decide +kernel
theorem dX11_draw_8 : decode cX11_draw 8 = .ok (.istore_n 3, 1) := by decide +kernel
theorem dX11_draw_9 : decode cX11_draw 9 = .ok (.iconst 0, 1) := by decide +kernel
theorem dX11_draw_10 : decode cX11_draw 10 = .ok (.istore 4, 2) := by decide +kernel
theorem dX11_draw_12 : decode cX11_draw 12 = .ok (.iload 4, 2) := by decide +kernel
theorem dX11_draw_14 : decode cX11_draw 14 = .ok (.aload_n 0, 1) := by decide +kernel
theorem dX11_draw_15 : decode cX11_draw 15 = .ok (.getfield 7, 3) := by decide +kernel
theorem dX11_draw_18 : decode cX11_draw 18 = .ok (.if_icmp .ge 79, 3) := by decide +kernel
theorem dX11_draw_21 : decode cX11_draw 21 = .ok (.iconst 0, 1) := by decide +kernel
theorem dX11_draw_22 : decode cX11_draw 22 = .ok (.istore 5, 2) := by decide +kernel
theorem dX11_draw_24 : decode cX11_draw 24 = .ok (.aload_n 0, 1) := by decide +kernel
theorem dX11_draw_25 : decode cX11_draw 25 = .ok (.getfield 32, 3) := by decide +kernel
theorem dX11_draw_28 : decode cX11_draw 28 = .ok (.iload 4, 2) := by decide +kernel
theorem dX11_draw_30 : decode cX11_draw 30 = .ok (.iaload, 1) := by decide +kernel
theorem dX11_draw_31 : decode cX11_draw 31 = .ok (.ifCond .ne 60, 3) := by decide +kernel
theorem dX11_draw_34 : decode cX11_draw 34 = .ok (.iload 5, 2) := by decide +kernel
theorem dX11_draw_36 : decode cX11_draw 36 = .ok (.aload_n 0, 1) := by decide +kernel
theorem dX11_draw_37 : decode cX11_draw 37 = .ok (.iload 4, 2) := by decide +kernel
theorem dX11_draw_39 : decode cX11_draw 39 = .ok (.invokevirtual 184, 3) := by decide +kernel
theorem dX11_draw_42 : decode cX11_draw 42 = .ok (.if_icmp .ge 49, 3) := by decide +kernel
theorem dX11_draw_45 : decode cX11_draw 45 = .ok (.iload_n 2, 1) := by decide +kernel
theorem dX11_draw_46 : decode cX11_draw 46 = .ok (.ldc_w 446, 3) := by decide +kernel
theorem dX11_draw_49 : decode cX11_draw 49 = .ok (.imul, 1) := by decide +kernel
theorem dX11_draw_50 : decode cX11_draw 50 = .ok (.sipush 12345, 3) := by decide +kernel
theorem dX11_draw_53 : decode cX11_draw 53 = .ok (.iadd, 1) := by decide +kernel
theorem dX11_draw_54 : decode cX11_draw 54 = .ok (.istore_n 2, 1) := by decide +kernel
theorem dX11_draw_55 : decode cX11_draw 55 = .ok (.aload_n 0, 1) := by decide +kernel
theorem dX11_draw_56 : decode cX11_draw 56 = .ok (.getfield 35, 3) := by decide +kernel
theorem dX11_draw_59 : decode cX11_draw 59 = .ok (.sipush 1024, 3) := by decide +kernel
theorem dX11_draw_62 : decode cX11_draw 62 = .ok (.iload 4, 2) := by decide +kernel
theorem dX11_draw_64 : decode cX11_draw 64 = .ok (.imul, 1) := by decide +kernel
theorem dX11_draw_65 : decode cX11_draw 65 = .ok (.iload 5, 2) := by decide +kernel
theorem dX11_draw_67 : decode cX11_draw 67 = .ok (.iadd, 1) := by decide +kernel
theorem dX11_draw_68 : decode cX11_draw 68 = .ok (.iload_n 2, 1) := by decide +kernel
theorem dX11_draw_69 : decode cX11_draw 69 = .ok (.bipush 16, 2) := by decide +kernel
theorem dX11_draw_71 : decode cX11_draw 71 = .ok (.ishr, 1) := by decide +kernel
theorem dX11_draw_72 : decode cX11_draw 72 = .ok (.sipush 32767, 3) := by decide +kernel
theorem dX11_draw_75 : decode cX11_draw 75 = .ok (.iand, 1) := by decide +kernel
theorem dX11_draw_76 : decode cX11_draw 76 = .ok (.aload_n 0, 1) := by decide +kernel
theorem dX11_draw_77 : decode cX11_draw 77 = .ok (.getfield 13, 3) := by decide +kernel
theorem dX11_draw_80 : decode cX11_draw 80 = .ok (.irem, 1) := by decide +kernel
theorem dX11_draw_81 : decode cX11_draw 81 = .ok (.iastore, 1) := by decide +kernel
theorem dX11_draw_82 : decode cX11_draw 82 = .ok (.iinc 3 1, 3) := by decide +kernel
theorem dX11_draw_85 : decode cX11_draw 85 = .ok (.iinc 5 1, 3) := by decide +kernel
theorem dX11_draw_88 : decode cX11_draw 88 = .ok (.goto (-64), 3) := by decide +kernel
theorem dX11_draw_91 : decode cX11_draw 91 = .ok (.iinc 4 1, 3) := by decide +kernel
theorem dX11_draw_94 : decode cX11_draw 94 = .ok (.goto (-82), 3) := by decide +kernel
theorem dX11_draw_97 : decode cX11_draw 97 = .ok (.aload_n 0, 1) := by decide +kernel
theorem dX11_draw_98 : decode cX11_draw 98 = .ok (.iconst 0, 1) := by decide +kernel
theorem dX11_draw_99 : decode cX11_draw 99 = .ok (.putfield 195, 3) := by decide +kernel
theorem dX11_draw_102 : decode cX11_draw 102 = .ok (.iload_n 3, 1) := by decide +kernel
theorem dX11_draw_103 : decode cX11_draw 103 = .ok (.ireturn, 1) := by decide +kernel
theorem dX11_keep_0 : decode cX11_keep 0 = .ok (.aload_n 0, 1) := by decide +kernel
theorem dX11_keep_1 : decode cX11_keep 1 = .ok (.iconst 0, 1) := by decide +kernel
theorem dX11_keep_2 : decode cX11_keep 2 = .ok (.putfield 174, 3) := by decide +kernel
theorem dX11_keep_5 : decode cX11_keep 5 = .ok (.iload_n 1, 1) := by decide +kernel
theorem dX11_keep_6 : decode cX11_keep 6 = .ok (.iconst 0, 1) := by decide +kernel
theorem dX11_keep_7 : decode cX11_keep 7 = .ok (.iconst 3, 1) := by decide +kernel
theorem dX11_keep_8 : decode cX11_keep 8 = .ok (.invokestatic 199, 3) := by decide +kernel
theorem dX11_keep_11 : decode cX11_keep 11 = .ok (.ifCond .ne 5, 3) := by decide +kernel
theorem dX11_keep_14 : decode cX11_keep 14 = .ok (.iconst 0, 1) := by decide +kernel
theorem dX11_keep_15 : decode cX11_keep 15 = .ok (.ireturn, 1) := by decide +kernel
theorem dX11_keep_16 : decode cX11_keep 16 = .ok (.aload_n 0, 1) := by decide +kernel
theorem dX11_keep_17 : decode cX11_keep 17 = .ok (.getfield 142, 3) := by decide +kernel
theorem dX11_keep_20 : decode cX11_keep 20 = .ok (.iload_n 1, 1) := by decide +kernel
theorem dX11_keep_21 : decode cX11_keep 21 = .ok (.aload_n 0, 1) := by decide +kernel
theorem dX11_keep_22 : decode cX11_keep 22 = .ok (.getfield 7, 3) := by decide +kernel
theorem dX11_keep_25 : decode cX11_keep 25 = .ok (.iastore, 1) := by decide +kernel
theorem dX11_keep_26 : decode cX11_keep 26 = .ok (.aload_n 0, 1) := by decide +kernel
theorem dX11_keep_27 : decode cX11_keep 27 = .ok (.getfield 145, 3) := by decide +kernel
theorem dX11_keep_30 : decode cX11_keep 30 = .ok (.iload_n 1, 1) := by decide +kernel
theorem dX11_keep_31 : decode cX11_keep 31 = .ok (.aload_n 0, 1) := by decide +kernel
theorem dX11_keep_32 : decode cX11_keep 32 = .ok (.getfield 13, 3) := by decide +kernel
theorem dX11_keep_35 : decode cX11_keep 35 = .ok (.iastore, 1) := by decide +kernel
theorem dX11_keep_36 : decode cX11_keep 36 = .ok (.iconst 0, 1) := by decide +kernel
theorem dX11_keep_37 : decode cX11_keep 37 = .ok (.istore_n 2, 1) := by decide +kernel
theorem dX11_keep_38 : decode cX11_keep 38 = .ok (.iload_n 2, 1) := by decide +kernel
theorem dX11_keep_39 : decode cX11_keep 39 = .ok (.bipush 8, 2) := by decide +kernel
theorem dX11_keep_41 : decode cX11_keep 41 = .ok (.if_icmp .ge 94, 3) := by decide +kernel
theorem dX11_keep_44 : decode cX11_keep 44 = .ok (.aload_n 0, 1) := by decide +kernel
theorem dX11_keep_45 : decode cX11_keep 45 = .ok (.getfield 148, 3) := by decide +kernel
theorem dX11_keep_48 : decode cX11_keep 48 = .ok (.bipush 8, 2) := by decide +kernel
theorem dX11_keep_50 : decode cX11_keep 50 = .ok (.iload_n 1, 1) := by decide +kernel
theorem dX11_keep_51 : decode cX11_keep 51 = .ok (.imul, 1) := by decide +kernel
theorem dX11_keep_52 : decode cX11_keep 52 = .ok (.iload_n 2, 1) := by decide +kernel
theorem dX11_keep_53 : decode cX11_keep 53 = .ok (.iadd, 1) := by decide +kernel
theorem dX11_keep_54 : decode cX11_keep 54 = .ok (.aload_n 0, 1) := by decide +kernel
theorem dX11_keep_55 : decode cX11_keep 55 = .ok (.getfield 26, 3) := by decide +kernel
theorem dX11_keep_58 : decode cX11_keep 58 = .ok (.iload_n 2, 1) := by decide +kernel
theorem dX11_keep_59 : decode cX11_keep 59 = .ok (.iaload, 1) := by decide +kernel
theorem dX11_keep_60 : decode cX11_keep 60 = .ok (.iastore, 1) := by decide +kernel
theorem dX11_keep_61 : decode cX11_keep 61 = .ok (.aload_n 0, 1) := by decide +kernel
theorem dX11_keep_62 : decode cX11_keep 62 = .ok (.getfield 151, 3) := by decide +kernel
theorem dX11_keep_65 : decode cX11_keep 65 = .ok (.bipush 8, 2) := by decide +kernel
theorem dX11_keep_67 : decode cX11_keep 67 = .ok (.iload_n 1, 1) := by decide +kernel
theorem dX11_keep_68 : decode cX11_keep 68 = .ok (.imul, 1) := by decide +kernel
theorem dX11_keep_69 : decode cX11_keep 69 = .ok (.iload_n 2, 1) := by decide +kernel
theorem dX11_keep_70 : decode cX11_keep 70 = .ok (.iadd, 1) := by decide +kernel
theorem dX11_keep_71 : decode cX11_keep 71 = .ok (.aload_n 0, 1) := by decide +kernel
theorem dX11_keep_72 : decode cX11_keep 72 = .ok (.getfield 29, 3) := by decide +kernel
theorem dX11_keep_75 : decode cX11_keep 75 = .ok (.iload_n 2, 1) := by decide +kernel
theorem dX11_keep_76 : decode cX11_keep 76 = .ok (.iaload, 1) := by decide +kernel
theorem dX11_keep_77 : decode cX11_keep 77 = .ok (.iastore, 1) := by decide +kernel
theorem dX11_keep_78 : decode cX11_keep 78 = .ok (.aload_n 0, 1) := by decide +kernel
theorem dX11_keep_79 : decode cX11_keep 79 = .ok (.getfield 154, 3) := by decide +kernel
theorem dX11_keep_82 : decode cX11_keep 82 = .ok (.bipush 8, 2) := by decide +kernel
theorem dX11_keep_84 : decode cX11_keep 84 = .ok (.iload_n 1, 1) := by decide +kernel
theorem dX11_keep_85 : decode cX11_keep 85 = .ok (.imul, 1) := by decide +kernel
theorem dX11_keep_86 : decode cX11_keep 86 = .ok (.iload_n 2, 1) := by decide +kernel
theorem dX11_keep_87 : decode cX11_keep 87 = .ok (.iadd, 1) := by decide +kernel
theorem dX11_keep_88 : decode cX11_keep 88 = .ok (.aload_n 0, 1) := by decide +kernel
theorem dX11_keep_89 : decode cX11_keep 89 = .ok (.getfield 32, 3) := by decide +kernel
theorem dX11_keep_92 : decode cX11_keep 92 = .ok (.iload_n 2, 1) := by decide +kernel
theorem dX11_keep_93 : decode cX11_keep 93 = .ok (.iaload, 1) := by decide +kernel
theorem dX11_keep_94 : decode cX11_keep 94 = .ok (.iastore, 1) := by decide +kernel
theorem dX11_keep_95 : decode cX11_keep 95 = .ok (.aload_n 0, 1) := by decide +kernel
theorem dX11_keep_96 : decode cX11_keep 96 = .ok (.getfield 164, 3) := by decide +kernel
theorem dX11_keep_99 : decode cX11_keep 99 = .ok (.bipush 8, 2) := by decide +kernel
theorem dX11_keep_101 : decode cX11_keep 101 = .ok (.iload_n 1, 1) := by decide +kernel
theorem dX11_keep_102 : decode cX11_keep 102 = .ok (.imul, 1) := by decide +kernel
theorem dX11_keep_103 : decode cX11_keep 103 = .ok (.iload_n 2, 1) := by decide +kernel
theorem dX11_keep_104 : decode cX11_keep 104 = .ok (.iadd, 1) := by decide +kernel
theorem dX11_keep_105 : decode cX11_keep 105 = .ok (.aload_n 0, 1) := by decide +kernel
theorem dX11_keep_106 : decode cX11_keep 106 = .ok (.getfield 41, 3) := by decide +kernel
theorem dX11_keep_109 : decode cX11_keep 109 = .ok (.iload_n 2, 1) := by decide +kernel
theorem dX11_keep_110 : decode cX11_keep 110 = .ok (.iaload, 1) := by decide +kernel
theorem dX11_keep_111 : decode cX11_keep 111 = .ok (.iastore, 1) := by decide +kernel
theorem dX11_keep_112 : decode cX11_keep 112 = .ok (.aload_n 0, 1) := by decide +kernel
theorem dX11_keep_113 : decode cX11_keep 113 = .ok (.getfield 167, 3) := by decide +kernel
theorem dX11_keep_116 : decode cX11_keep 116 = .ok (.bipush 8, 2) := by decide +kernel
theorem dX11_keep_118 : decode cX11_keep 118 = .ok (.iload_n 1, 1) := by decide +kernel
theorem dX11_keep_119 : decode cX11_keep 119 = .ok (.imul, 1) := by decide +kernel
theorem dX11_keep_120 : decode cX11_keep 120 = .ok (.iload_n 2, 1) := by decide +kernel
theorem dX11_keep_121 : decode cX11_keep 121 = .ok (.iadd, 1) := by decide +kernel
theorem dX11_keep_122 : decode cX11_keep 122 = .ok (.aload_n 0, 1) := by decide +kernel
theorem dX11_keep_123 : decode cX11_keep 123 = .ok (.getfield 44, 3) := by decide +kernel
theorem dX11_keep_126 : decode cX11_keep 126 = .ok (.iload_n 2, 1) := by decide +kernel
theorem dX11_keep_127 : decode cX11_keep 127 = .ok (.iaload, 1) := by decide +kernel
theorem dX11_keep_128 : decode cX11_keep 128 = .ok (.iastore, 1) := by decide +kernel
theorem dX11_keep_129 : decode cX11_keep 129 = .ok (.iinc 2 1, 3) := by decide +kernel
theorem dX11_keep_132 : decode cX11_keep 132 = .ok (.goto (-94), 3) := by decide +kernel
theorem dX11_keep_135 : decode cX11_keep 135 = .ok (.iconst 0, 1) := by decide +kernel
theorem dX11_keep_136 : decode cX11_keep 136 = .ok (.istore_n 2, 1) := by decide +kernel
theorem dX11_keep_137 : decode cX11_keep 137 = .ok (.iload_n 2, 1) := by decide +kernel
theorem dX11_keep_138 : decode cX11_keep 138 = .ok (.sipush 8192, 3) := by decide +kernel
theorem dX11_keep_141 : decode cX11_keep 141 = .ok (.if_icmp .ge 27, 3) := by decide +kernel
theorem dX11_keep_144 : decode cX11_keep 144 = .ok (.aload_n 0, 1) := by decide +kernel
theorem dX11_keep_145 : decode cX11_keep 145 = .ok (.getfield 158, 3) := by decide +kernel
theorem dX11_keep_148 : decode cX11_keep 148 = .ok (.sipush 8192, 3) := by decide +kernel
theorem dX11_keep_151 : decode cX11_keep 151 = .ok (.iload_n 1, 1) := by decide +kernel
theorem dX11_keep_152 : decode cX11_keep 152 = .ok (.imul, 1) := by decide +kernel
theorem dX11_keep_153 : decode cX11_keep 153 = .ok (.iload_n 2, 1) := by decide +kernel
theorem dX11_keep_154 : decode cX11_keep 154 = .ok (.iadd, 1) := by decide +kernel
theorem dX11_keep_155 : decode cX11_keep 155 = .ok (.aload_n 0, 1) := by decide +kernel
theorem dX11_keep_156 : decode cX11_keep 156 = .ok (.getfield 35, 3) := by decide +kernel
theorem dX11_keep_159 : decode cX11_keep 159 = .ok (.iload_n 2, 1) := by decide +kernel
theorem dX11_keep_160 : decode cX11_keep 160 = .ok (.iaload, 1) := by decide +kernel
theorem dX11_keep_161 : decode cX11_keep 161 = .ok (.iastore, 1) := by decide +kernel
theorem dX11_keep_162 : decode cX11_keep 162 = .ok (.iinc 2 1, 3) := by decide +kernel
theorem dX11_keep_165 : decode cX11_keep 165 = .ok (.goto (-28), 3) := by decide +kernel
theorem dX11_keep_168 : decode cX11_keep 168 = .ok (.iconst 0, 1) := by decide +kernel
theorem dX11_keep_169 : decode cX11_keep 169 = .ok (.istore_n 2, 1) := by decide +kernel
theorem dX11_keep_170 : decode cX11_keep 170 = .ok (.iload_n 2, 1) := by decide +kernel
theorem dX11_keep_171 : decode cX11_keep 171 = .ok (.sipush 8000, 3) := by decide +kernel
theorem dX11_keep_174 : decode cX11_keep 174 = .ok (.if_icmp .ge 27, 3) := by decide +kernel
theorem dX11_keep_177 : decode cX11_keep 177 = .ok (.aload_n 0, 1) := by decide +kernel
theorem dX11_keep_178 : decode cX11_keep 178 = .ok (.getfield 161, 3) := by decide +kernel
theorem dX11_keep_181 : decode cX11_keep 181 = .ok (.sipush 8000, 3) := by decide +kernel
theorem dX11_keep_184 : decode cX11_keep 184 = .ok (.iload_n 1, 1) := by decide +kernel
theorem dX11_keep_185 : decode cX11_keep 185 = .ok (.imul, 1) := by decide +kernel
theorem dX11_keep_186 : decode cX11_keep 186 = .ok (.iload_n 2, 1) := by decide +kernel
theorem dX11_keep_187 : decode cX11_keep 187 = .ok (.iadd, 1) := by decide +kernel
theorem dX11_keep_188 : decode cX11_keep 188 = .ok (.aload_n 0, 1) := by decide +kernel
theorem dX11_keep_189 : decode cX11_keep 189 = .ok (.getfield 38, 3) := by decide +kernel
theorem dX11_keep_192 : decode cX11_keep 192 = .ok (.iload_n 2, 1) := by decide +kernel
theorem dX11_keep_193 : decode cX11_keep 193 = .ok (.iaload, 1) := by decide +kernel
theorem dX11_keep_194 : decode cX11_keep 194 = .ok (.iastore, 1) := by decide +kernel
theorem dX11_keep_195 : decode cX11_keep 195 = .ok (.iinc 2 1, 3) := by decide +kernel
theorem dX11_keep_198 : decode cX11_keep 198 = .ok (.goto (-28), 3) := by decide +kernel
theorem dX11_keep_201 : decode cX11_keep 201 = .ok (.iconst 1, 1) := by decide +kernel
theorem dX11_keep_202 : decode cX11_keep 202 = .ok (.ireturn, 1) := by decide +kernel
theorem dX11_take_0 : decode cX11_take 0 = .ok (.aload_n 0, 1) := by decide +kernel
theorem dX11_take_1 : decode cX11_take 1 = .ok (.iconst 0, 1) := by decide +kernel
theorem dX11_take_2 : decode cX11_take 2 = .ok (.putfield 174, 3) := by decide +kernel
theorem dX11_take_5 : decode cX11_take 5 = .ok (.iload_n 1, 1) := by decide +kernel
theorem dX11_take_6 : decode cX11_take 6 = .ok (.iconst 0, 1) := by decide +kernel
theorem dX11_take_7 : decode cX11_take 7 = .ok (.iconst 3, 1) := by decide +kernel
theorem dX11_take_8 : decode cX11_take 8 = .ok (.invokestatic 199, 3) := by decide +kernel
theorem dX11_take_11 : decode cX11_take 11 = .ok (.ifCond .eq 12, 3) := by decide +kernel
theorem dX11_take_14 : decode cX11_take 14 = .ok (.aload_n 0, 1) := by decide +kernel
theorem dX11_take_15 : decode cX11_take 15 = .ok (.getfield 142, 3) := by decide +kernel
theorem dX11_take_18 : decode cX11_take 18 = .ok (.iload_n 1, 1) := by decide +kernel
theorem dX11_take_19 : decode cX11_take 19 = .ok (.iaload, 1) := by decide +kernel
theorem dX11_take_20 : decode cX11_take 20 = .ok (.ifCond .ne 5, 3) := by decide +kernel
theorem dX11_take_23 : decode cX11_take 23 = .ok (.iconst 0, 1) := by decide +kernel
theorem dX11_take_24 : decode cX11_take 24 = .ok (.ireturn, 1) := by decide +kernel
theorem dX11_take_25 : decode cX11_take 25 = .ok (.aload_n 0, 1) := by decide +kernel
theorem dX11_take_26 : decode cX11_take 26 = .ok (.aload_n 0, 1) := by decide +kernel
theorem dX11_take_27 : decode cX11_take 27 = .ok (.getfield 142, 3) := by decide +kernel
theorem dX11_take_30 : decode cX11_take 30 = .ok (.iload_n 1, 1) := by decide +kernel
theorem dX11_take_31 : decode cX11_take 31 = .ok (.iaload, 1) := by decide +kernel
theorem dX11_take_32 : decode cX11_take 32 = .ok (.aload_n 0, 1) := by decide +kernel
theorem dX11_take_33 : decode cX11_take 33 = .ok (.getfield 145, 3) := by decide +kernel
theorem dX11_take_36 : decode cX11_take 36 = .ok (.iload_n 1, 1) := by decide +kernel
theorem dX11_take_37 : decode cX11_take 37 = .ok (.iaload, 1) := by decide +kernel
theorem dX11_take_38 : decode cX11_take 38 = .ok (.invokevirtual 170, 3) := by decide +kernel
theorem dX11_take_41 : decode cX11_take 41 = .ok (.iconst 0, 1) := by decide +kernel
theorem dX11_take_42 : decode cX11_take 42 = .ok (.istore_n 2, 1) := by decide +kernel
theorem dX11_take_43 : decode cX11_take 43 = .ok (.iload_n 2, 1) := by decide +kernel
theorem dX11_take_44 : decode cX11_take 44 = .ok (.bipush 8, 2) := by decide +kernel
theorem dX11_take_46 : decode cX11_take 46 = .ok (.if_icmp .ge 94, 3) := by decide +kernel
theorem dX11_take_49 : decode cX11_take 49 = .ok (.aload_n 0, 1) := by decide +kernel
theorem dX11_take_50 : decode cX11_take 50 = .ok (.getfield 26, 3) := by decide +kernel
theorem dX11_take_53 : decode cX11_take 53 = .ok (.iload_n 2, 1) := by decide +kernel
theorem dX11_take_54 : decode cX11_take 54 = .ok (.aload_n 0, 1) := by decide +kernel
theorem dX11_take_55 : decode cX11_take 55 = .ok (.getfield 148, 3) := by decide +kernel
theorem dX11_take_58 : decode cX11_take 58 = .ok (.bipush 8, 2) := by decide +kernel
theorem dX11_take_60 : decode cX11_take 60 = .ok (.iload_n 1, 1) := by decide +kernel
theorem dX11_take_61 : decode cX11_take 61 = .ok (.imul, 1) := by decide +kernel
theorem dX11_take_62 : decode cX11_take 62 = .ok (.iload_n 2, 1) := by decide +kernel
theorem dX11_take_63 : decode cX11_take 63 = .ok (.iadd, 1) := by decide +kernel
theorem dX11_take_64 : decode cX11_take 64 = .ok (.iaload, 1) := by decide +kernel
theorem dX11_take_65 : decode cX11_take 65 = .ok (.iastore, 1) := by decide +kernel
theorem dX11_take_66 : decode cX11_take 66 = .ok (.aload_n 0, 1) := by decide +kernel
theorem dX11_take_67 : decode cX11_take 67 = .ok (.getfield 29, 3) := by decide +kernel
theorem dX11_take_70 : decode cX11_take 70 = .ok (.iload_n 2, 1) := by decide +kernel
theorem dX11_take_71 : decode cX11_take 71 = .ok (.aload_n 0, 1) := by decide +kernel
theorem dX11_take_72 : decode cX11_take 72 = .ok (.getfield 151, 3) := by decide +kernel
theorem dX11_take_75 : decode cX11_take 75 = .ok (.bipush 8, 2) := by decide +kernel
theorem dX11_take_77 : decode cX11_take 77 = .ok (.iload_n 1, 1) := by decide +kernel
theorem dX11_take_78 : decode cX11_take 78 = .ok (.imul, 1) := by decide +kernel
theorem dX11_take_79 : decode cX11_take 79 = .ok (.iload_n 2, 1) := by decide +kernel
theorem dX11_take_80 : decode cX11_take 80 = .ok (.iadd, 1) := by decide +kernel
theorem dX11_take_81 : decode cX11_take 81 = .ok (.iaload, 1) := by decide +kernel
theorem dX11_take_82 : decode cX11_take 82 = .ok (.iastore, 1) := by decide +kernel
theorem dX11_take_83 : decode cX11_take 83 = .ok (.aload_n 0, 1) := by decide +kernel
theorem dX11_take_84 : decode cX11_take 84 = .ok (.getfield 32, 3) := by decide +kernel
theorem dX11_take_87 : decode cX11_take 87 = .ok (.iload_n 2, 1) := by decide +kernel
theorem dX11_take_88 : decode cX11_take 88 = .ok (.aload_n 0, 1) := by decide +kernel
theorem dX11_take_89 : decode cX11_take 89 = .ok (.getfield 154, 3) := by decide +kernel
theorem dX11_take_92 : decode cX11_take 92 = .ok (.bipush 8, 2) := by decide +kernel
theorem dX11_take_94 : decode cX11_take 94 = .ok (.iload_n 1, 1) := by decide +kernel
theorem dX11_take_95 : decode cX11_take 95 = .ok (.imul, 1) := by decide +kernel
theorem dX11_take_96 : decode cX11_take 96 = .ok (.iload_n 2, 1) := by decide +kernel
theorem dX11_take_97 : decode cX11_take 97 = .ok (.iadd, 1) := by decide +kernel
theorem dX11_take_98 : decode cX11_take 98 = .ok (.iaload, 1) := by decide +kernel
theorem dX11_take_99 : decode cX11_take 99 = .ok (.iastore, 1) := by decide +kernel
theorem dX11_take_100 : decode cX11_take 100 = .ok (.aload_n 0, 1) := by decide +kernel
theorem dX11_take_101 : decode cX11_take 101 = .ok (.getfield 41, 3) := by decide +kernel
theorem dX11_take_104 : decode cX11_take 104 = .ok (.iload_n 2, 1) := by decide +kernel
theorem dX11_take_105 : decode cX11_take 105 = .ok (.aload_n 0, 1) := by decide +kernel
theorem dX11_take_106 : decode cX11_take 106 = .ok (.getfield 164, 3) := by decide +kernel
theorem dX11_take_109 : decode cX11_take 109 = .ok (.bipush 8, 2) := by decide +kernel
theorem dX11_take_111 : decode cX11_take 111 = .ok (.iload_n 1, 1) := by decide +kernel
theorem dX11_take_112 : decode cX11_take 112 = .ok (.imul, 1) := by decide +kernel
theorem dX11_take_113 : decode cX11_take 113 = .ok (.iload_n 2, 1) := by decide +kernel
theorem dX11_take_114 : decode cX11_take 114 = .ok (.iadd, 1) := by decide +kernel
theorem dX11_take_115 : decode cX11_take 115 = .ok (.iaload, 1) := by decide +kernel
theorem dX11_take_116 : decode cX11_take 116 = .ok (.iastore, 1) := by decide +kernel
theorem dX11_take_117 : decode cX11_take 117 = .ok (.aload_n 0, 1) := by decide +kernel
theorem dX11_take_118 : decode cX11_take 118 = .ok (.getfield 44, 3) := by decide +kernel
theorem dX11_take_121 : decode cX11_take 121 = .ok (.iload_n 2, 1) := by decide +kernel
theorem dX11_take_122 : decode cX11_take 122 = .ok (.aload_n 0, 1) := by decide +kernel
theorem dX11_take_123 : decode cX11_take 123 = .ok (.getfield 167, 3) := by decide +kernel
theorem dX11_take_126 : decode cX11_take 126 = .ok (.bipush 8, 2) := by decide +kernel
theorem dX11_take_128 : decode cX11_take 128 = .ok (.iload_n 1, 1) := by decide +kernel
theorem dX11_take_129 : decode cX11_take 129 = .ok (.imul, 1) := by decide +kernel
theorem dX11_take_130 : decode cX11_take 130 = .ok (.iload_n 2, 1) := by decide +kernel
theorem dX11_take_131 : decode cX11_take 131 = .ok (.iadd, 1) := by decide +kernel
theorem dX11_take_132 : decode cX11_take 132 = .ok (.iaload, 1) := by decide +kernel
theorem dX11_take_133 : decode cX11_take 133 = .ok (.iastore, 1) := by decide +kernel
theorem dX11_take_134 : decode cX11_take 134 = .ok (.iinc 2 1, 3) := by decide +kernel
theorem dX11_take_137 : decode cX11_take 137 = .ok (.goto (-94), 3) := by decide +kernel
theorem dX11_take_140 : decode cX11_take 140 = .ok (.iconst 0, 1) := by decide +kernel
theorem dX11_take_141 : decode cX11_take 141 = .ok (.istore_n 2, 1) := by decide +kernel
theorem dX11_take_142 : decode cX11_take 142 = .ok (.iload_n 2, 1) := by decide +kernel
theorem dX11_take_143 : decode cX11_take 143 = .ok (.sipush 8192, 3) := by decide +kernel
theorem dX11_take_146 : decode cX11_take 146 = .ok (.if_icmp .ge 27, 3) := by decide +kernel
theorem dX11_take_149 : decode cX11_take 149 = .ok (.aload_n 0, 1) := by decide +kernel
theorem dX11_take_150 : decode cX11_take 150 = .ok (.getfield 35, 3) := by decide +kernel
theorem dX11_take_153 : decode cX11_take 153 = .ok (.iload_n 2, 1) := by decide +kernel
theorem dX11_take_154 : decode cX11_take 154 = .ok (.aload_n 0, 1) := by decide +kernel
theorem dX11_take_155 : decode cX11_take 155 = .ok (.getfield 158, 3) := by decide +kernel
theorem dX11_take_158 : decode cX11_take 158 = .ok (.sipush 8192, 3) := by decide +kernel
theorem dX11_take_161 : decode cX11_take 161 = .ok (.iload_n 1, 1) := by decide +kernel
theorem dX11_take_162 : decode cX11_take 162 = .ok (.imul, 1) := by decide +kernel
theorem dX11_take_163 : decode cX11_take 163 = .ok (.iload_n 2, 1) := by decide +kernel
theorem dX11_take_164 : decode cX11_take 164 = .ok (.iadd, 1) := by decide +kernel
theorem dX11_take_165 : decode cX11_take 165 = .ok (.iaload, 1) := by decide +kernel
theorem dX11_take_166 : decode cX11_take 166 = .ok (.iastore, 1) := by decide +kernel
theorem dX11_take_167 : decode cX11_take 167 = .ok (.iinc 2 1, 3) := by decide +kernel
theorem dX11_take_170 : decode cX11_take 170 = .ok (.goto (-28), 3) := by decide +kernel
theorem dX11_take_173 : decode cX11_take 173 = .ok (.iconst 0, 1) := by decide +kernel
theorem dX11_take_174 : decode cX11_take 174 = .ok (.istore_n 2, 1) := by decide +kernel
theorem dX11_take_175 : decode cX11_take 175 = .ok (.iload_n 2, 1) := by decide +kernel
theorem dX11_take_176 : decode cX11_take 176 = .ok (.sipush 8000, 3) := by decide +kernel
theorem dX11_take_179 : decode cX11_take 179 = .ok (.if_icmp .ge 27, 3) := by decide +kernel
theorem dX11_take_182 : decode cX11_take 182 = .ok (.aload_n 0, 1) := by decide +kernel
theorem dX11_take_183 : decode cX11_take 183 = .ok (.getfield 38, 3) := by decide +kernel
theorem dX11_take_186 : decode cX11_take 186 = .ok (.iload_n 2, 1) := by decide +kernel
theorem dX11_take_187 : decode cX11_take 187 = .ok (.aload_n 0, 1) := by decide +kernel
theorem dX11_take_188 : decode cX11_take 188 = .ok (.getfield 161, 3) := by decide +kernel
theorem dX11_take_191 : decode cX11_take 191 = .ok (.sipush 8000, 3) := by decide +kernel
theorem dX11_take_194 : decode cX11_take 194 = .ok (.iload_n 1, 1) := by decide +kernel
theorem dX11_take_195 : decode cX11_take 195 = .ok (.imul, 1) := by decide +kernel
theorem dX11_take_196 : decode cX11_take 196 = .ok (.iload_n 2, 1) := by decide +kernel
theorem dX11_take_197 : decode cX11_take 197 = .ok (.iadd, 1) := by decide +kernel
theorem dX11_take_198 : decode cX11_take 198 = .ok (.iaload, 1) := by decide +kernel
theorem dX11_take_199 : decode cX11_take 199 = .ok (.iastore, 1) := by decide +kernel
theorem dX11_take_200 : decode cX11_take 200 = .ok (.iinc 2 1, 3) := by decide +kernel
theorem dX11_take_203 : decode cX11_take 203 = .ok (.goto (-28), 3) := by decide +kernel
theorem dX11_take_206 : decode cX11_take 206 = .ok (.iconst 1, 1) := by decide +kernel
theorem dX11_take_207 : decode cX11_take 207 = .ok (.ireturn, 1) := by decide +kernel
section
variable {p : Program} {l : Launch} {e : Env} {R : Room} {s : State} {m : MethodId} {args : Array Value} {below : List Frame} {meth : Method} {c : Code} {D : va_G} {cA : Nat → ClassId} {z : Nat} {A : Nat → Prop} {T : HR}
theorem cM_says {l : Launch} {D : va_G} {cA : Nat → ClassId} {z sz : Nat} {I : HI} {J : HJ} {x1 : Int32} {x2 : Int32} {x3 : Int32} {x4 : Int32} {Q : HI → Prop}  (h : M_says I x1 x2 x3 x4 Q) : Met l yX11_says (hws0 yX11_says cX11_says 5 none) { frames := 0, cells := 0, slots := 0, locals := 0 } (hPc D cA z Ev0 (I, J, T, FM, LM) sz [.ref (z + 0), .int x1, .int x2, .int x3, .int x4]) (va_Qv (pIv J T FM LM Q) (hB D cA z (hA z LM sz)) (hA z LM sz)) 0 0 (hA z LM sz) := by
  refine hm_met (I, J, T, FM, LM) [.ref (z + 0), .int x1, .int x2, .int x3, .int x4] rfl (by decide) (Nat.le_of_ble_eq_true rfl) ?_
  intro p e s m below meth c ls X hr hlk hnm hxt hsz hw hl
  have hl : lv_has ls 5 [(0, .ref (z + 0)), (1, .int x1), (2, .int x2), (3, .int x3), (4, .int x4)] := hl
  have hR : 0 ≤ ({ frames := 0, cells := 0, slots := 0, locals := 0 } : Room).frames ∧ 0 ≤ ({ frames := 0, cells := 0, slots := 0, locals := 0 } : Room).locals := ⟨Nat.le_refl _, Nat.le_refl _⟩
  generalize ({ frames := 0, cells := 0, slots := 0, locals := 0 } : Room) = R at hR ⊢
  clear hsz
  generalize (hA z LM sz) = A at hw ⊢
  have hx := X.1
  have hb := X.2.1
  unfold M_says at h
  refine lv_aload_n hx hb dX11_says_0 rfl (lv_at hl 0 rfl) ?_
  refine hm_getr X hw lkM_38 LM_0 (b := 6) rfl dX11_says_1 ?_
  refine lv_sipush (v := 1000) hx hb dX11_says_4 (by decide) ?_
  refine lv_iload_n hx hb dX11_says_7 rfl (lv_at hl 1 rfl) ?_
  refine lv_imul hx hb dX11_says_8 ?_
  refine lv_iload_n hx hb dX11_says_9 rfl (lv_at hl 2 rfl) ?_
  refine lv_iadd hx hb dX11_says_10 ?_
  refine lv_iload_n hx hb dX11_says_11 rfl (lv_at hl 3 rfl) ?_
  obtain ⟨hi, h⟩ := h
  refine hm_iast X hw LM_6 hi dX11_says_12 (fun H locs hw => ?_)
  refine lv_aload_n hx hb dX11_says_13 rfl (lv_at hl 0 rfl) ?_
  refine hm_getr X hw lkM_38 LM_0 (b := 6) rfl dX11_says_14 ?_
  refine lv_sipush (v := 1000) hx hb dX11_says_17 (by decide) ?_
  refine lv_iload_n hx hb dX11_says_20 rfl (lv_at hl 1 rfl) ?_
  refine lv_imul hx hb dX11_says_21 ?_
  refine lv_iload_n hx hb dX11_says_22 rfl (lv_at hl 2 rfl) ?_
  refine lv_iadd hx hb dX11_says_23 ?_
  refine lv_iconst (v := 1) hx hb dX11_says_24 (by decide) ?_
  refine lv_iadd hx hb dX11_says_25 ?_
  refine lv_iload hx hb dX11_says_26 (lv_at hl 4 rfl) ?_
  obtain ⟨hi, h⟩ := h
  refine hm_iast X hw LM_6 hi dX11_says_28 (fun H locs hw => ?_)
  exact hm_vret X hr hlk hw ⟨_, rfl, h⟩ dX11_says_29

theorem wkM_line_l7 {J : HJ} {Q : Int32 → HI → Prop} (X : hX p m c s args RX11 cX11_line 2) (hr : meth.sig.returnType = (some .int)) (hlk : meth.locks = false) (hR : 7 ≤ R.frames ∧ 161 ≤ R.locals)   : ∀ (n : Nat) (I : HI) (x1 : Int32) {ls : Array Slot} {H : Heap} {locs : List Loc}, M_line_l7 Q n I x1 → hW D cA z Ev0 (I, J, T, FM, LM) A s H locs → lv_has ls 2 [(0, .ref (z + 0)), (1, .int x1)] → W p l e R s m args below meth c H locs 0 0 (MQ below (va_Qi (pI J T FM LM Q) (hB D cA z A) A) args s 0 0 A) (F0 m 7 ls []) := by
  have hx := X.1
  have hb := X.2.1
  intro n
  induction n with
  | zero => intro I x1 ls H locs h; exact False.elim h
  | succ n ih =>
    intro I x1 ls H locs h hw hl
    rw [M_line_l7] at h
    refine lv_iload_n hx hb dX11_line_7 rfl (lv_at hl 1 rfl) ?_
    refine lv_aload_n hx hb dX11_line_8 rfl (lv_at hl 0 rfl) ?_
    refine hm_geti X hw lkM_7 LM_0 dX11_line_9 ?_
    refine lv_icmp_ge (tgt := 187) hx hb dX11_line_12 (by decide) (fun hc => ?_) (fun hc => ?_)
    · have h := Eq.mp (if_pos hc) h
      refine lv_aload_n hx hb dX11_line_187 rfl (lv_at hl 0 rfl) ?_
      refine lv_iconst (v := 0) hx hb dX11_line_188 (by decide) ?_
      refine hm_puti X hw lkM_195 LM_0 rfl rfl dX11_line_189 (fun H locs hw => ?_)
      refine lv_aload_n hx hb dX11_line_192 rfl (lv_at hl 0 rfl) ?_
      refine hm_calli hw (hm_runV (rest := []) hCl_true X hw (cM_worstRow  h) ykM_worstRow kw1800 rfl LM_0 rfl hl.1 rfl rfl rfl (Nat.le_of_ble_eq_true rfl) ⟨Nat.le_trans (Nat.le_of_ble_eq_true rfl) hR.1, Nat.le_trans (Nat.le_of_ble_eq_true rfl) hR.2⟩ ⟨Nat.zero_le _, Nat.zero_le _⟩ dX11_line_193) (fun r1 u3 H locs hp hw => ?_)
      obtain ⟨I2, rfl, h⟩ := hp
      refine lv_istore_n (lv' := [(1, _), (0, _)]) hx hb dX11_line_196 rfl hl (by decide) rfl (fun ls hl => ?_)
      refine lv_iload_n hx hb dX11_line_197 rfl (lv_at hl 0 rfl) ?_
      refine lv_iconst (v := (-1)) hx hb dX11_line_198 (by decide) ?_
      refine lv_icmp_ne (tgt := 206) hx hb dX11_line_199 (by decide) (fun hc => ?_) (fun hc => ?_)
      · have h := Eq.mp (if_neg hc) h
        refine lv_aload_n hx hb dX11_line_206 rfl (lv_at hl 1 rfl) ?_
        refine hm_getr X hw lkM_87 LM_0 (b := 21) rfl dX11_line_207 ?_
        refine lv_iload_n hx hb dX11_line_210 rfl (lv_at hl 0 rfl) ?_
        obtain ⟨hi, h⟩ := h
        refine hm_iald X hw LM_21 hi dX11_line_211 ?_
        refine hm_calli hw (hm_runS (rest := []) hCl_true X hw (cM_bits  h) ykM_bits kw1342 rfl hl.1 rfl rfl rfl (Nat.le_of_ble_eq_true rfl) ⟨Nat.le_trans (Nat.le_of_ble_eq_true rfl) hR.1, Nat.le_trans (Nat.le_of_ble_eq_true rfl) hR.2⟩ ⟨Nat.zero_le _, Nat.zero_le _⟩ dX11_line_212) (fun r4 u5 H locs hp hw => ?_)
        obtain ⟨rfl, h⟩ := hp
        exact hm_iret X hr hlk hw ⟨_, rfl, h⟩ dX11_line_215
      · have h := Eq.mp (if_pos hc) h
        refine lv_iconst (v := (-1)) hx hb dX11_line_202 (by decide) ?_
        refine lv_goto (tgt := 215) hx hb dX11_line_203 (by decide) ?_
        exact hm_iret X hr hlk hw ⟨_, rfl, h⟩ dX11_line_215
    · have h := Eq.mp (if_neg hc) h
      refine lv_aload_n hx hb dX11_line_15 rfl (lv_at hl 0 rfl) ?_
      refine hm_getr X hw lkM_26 LM_0 (b := 2) rfl dX11_line_16 ?_
      refine lv_iload_n hx hb dX11_line_19 rfl (lv_at hl 1 rfl) ?_
      refine lv_aload_n hx hb dX11_line_20 rfl (lv_at hl 0 rfl) ?_
      refine hm_calli hw (hm_runV (rest := [_, _]) hCl_true X hw (cM_all  h) ykM_all kw1330 rfl LM_0 rfl hl.1 rfl rfl rfl (Nat.le_of_ble_eq_true rfl) ⟨Nat.le_trans (Nat.le_of_ble_eq_true rfl) hR.1, Nat.le_trans (Nat.le_of_ble_eq_true rfl) hR.2⟩ ⟨Nat.zero_le _, Nat.zero_le _⟩ dX11_line_21) (fun r6 u7 H locs hp hw => ?_)
      obtain ⟨rfl, h⟩ := hp
      refine lv_iconst (v := 1) hx hb dX11_line_24 (by decide) ?_
      refine lv_iload_n hx hb dX11_line_25 rfl (lv_at hl 1 rfl) ?_
      refine lv_iconst (v := 1) hx hb dX11_line_26 (by decide) ?_
      refine lv_iadd hx hb dX11_line_27 ?_
      refine lv_ishl hx hb dX11_line_28 ?_
      refine lv_iconst (v := 1) hx hb dX11_line_29 (by decide) ?_
      refine lv_isub hx hb dX11_line_30 ?_
      refine lv_iconst (v := (-1)) hx hb dX11_line_31 (by decide) ?_
      refine lv_ixor hx hb dX11_line_32 ?_
      refine lv_iand hx hb dX11_line_33 ?_
      obtain ⟨hi, h⟩ := h
      refine hm_iast X hw LM_2 hi dX11_line_34 (fun H locs hw => ?_)
      refine lv_aload_n hx hb dX11_line_35 rfl (lv_at hl 0 rfl) ?_
      refine hm_getr X hw lkM_29 LM_0 (b := 3) rfl dX11_line_36 ?_
      refine lv_iload_n hx hb dX11_line_39 rfl (lv_at hl 1 rfl) ?_
      refine lv_iload_n hx hb dX11_line_40 rfl (lv_at hl 1 rfl) ?_
      obtain ⟨hi, h⟩ := h
      refine hm_iast X hw LM_3 hi dX11_line_41 (fun H locs hw => ?_)
      refine lv_aload_n hx hb dX11_line_42 rfl (lv_at hl 0 rfl) ?_
      refine hm_getr X hw lkM_32 LM_0 (b := 4) rfl dX11_line_43 ?_
      refine lv_iload_n hx hb dX11_line_46 rfl (lv_at hl 1 rfl) ?_
      refine lv_iconst (v := 1) hx hb dX11_line_47 (by decide) ?_
      obtain ⟨hi, h⟩ := h
      refine hm_iast X hw LM_4 hi dX11_line_48 (fun H locs hw => ?_)
      refine lv_aload_n hx hb dX11_line_49 rfl (lv_at hl 0 rfl) ?_
      refine hm_getr X hw lkM_41 LM_0 (b := 7) rfl dX11_line_50 ?_
      refine lv_iload_n hx hb dX11_line_53 rfl (lv_at hl 1 rfl) ?_
      refine lv_iconst (v := (-1)) hx hb dX11_line_54 (by decide) ?_
      obtain ⟨hi, h⟩ := h
      refine hm_iast X hw LM_7 hi dX11_line_55 (fun H locs hw => ?_)
      refine lv_aload_n hx hb dX11_line_56 rfl (lv_at hl 0 rfl) ?_
      refine hm_getr X hw lkM_44 LM_0 (b := 8) rfl dX11_line_57 ?_
      refine lv_iload_n hx hb dX11_line_60 rfl (lv_at hl 1 rfl) ?_
      refine lv_iconst (v := 0) hx hb dX11_line_61 (by decide) ?_
      obtain ⟨hi, h⟩ := h
      refine hm_iast X hw LM_8 hi dX11_line_62 (fun H locs hw => ?_)
      refine lv_iload_n hx hb dX11_line_63 rfl (lv_at hl 1 rfl) ?_
      refine lv_if_ne (tgt := 86) hx hb dX11_line_64 (by decide) (fun hc => ?_) (fun hc => ?_)
      · have h := Eq.mp (if_neg hc) h
        refine lv_aload_n hx hb dX11_line_86 rfl (lv_at hl 0 rfl) ?_
        refine lv_iload_n hx hb dX11_line_87 rfl (lv_at hl 1 rfl) ?_
        refine lv_iconst (v := 0) hx hb dX11_line_88 (by decide) ?_
        refine lv_iconst (v := 2) hx hb dX11_line_89 (by decide) ?_
        refine lv_bipush (v := 10) hx hb dX11_line_90 (by decide) ?_
        refine hm_callv hw (hm_runV (rest := []) hCl_true X hw (cM_says  h) ykM_says kw1902 rfl LM_0 rfl hl.1 rfl rfl rfl (Nat.le_of_ble_eq_true rfl) ⟨Nat.le_trans (Nat.le_of_ble_eq_true rfl) hR.1, Nat.le_trans (Nat.le_of_ble_eq_true rfl) hR.2⟩ ⟨Nat.zero_le _, Nat.zero_le _⟩ dX11_line_92) (fun u9 H locs hp hw => ?_)
        obtain ⟨I8, rfl, h⟩ := hp
        refine lv_aload_n hx hb dX11_line_95 rfl (lv_at hl 0 rfl) ?_
        refine lv_iload_n hx hb dX11_line_96 rfl (lv_at hl 1 rfl) ?_
        refine lv_iconst (v := 2) hx hb dX11_line_97 (by decide) ?_
        refine lv_iconst (v := 2) hx hb dX11_line_98 (by decide) ?_
        refine lv_bipush (v := 11) hx hb dX11_line_99 (by decide) ?_
        refine hm_callv hw (hm_runV (rest := []) hCl_true X hw (cM_says  h) ykM_says kw1902 rfl LM_0 rfl hl.1 rfl rfl rfl (Nat.le_of_ble_eq_true rfl) ⟨Nat.le_trans (Nat.le_of_ble_eq_true rfl) hR.1, Nat.le_trans (Nat.le_of_ble_eq_true rfl) hR.2⟩ ⟨Nat.zero_le _, Nat.zero_le _⟩ dX11_line_101) (fun u11 H locs hp hw => ?_)
        obtain ⟨I10, rfl, h⟩ := hp
        refine lv_aload_n hx hb dX11_line_104 rfl (lv_at hl 0 rfl) ?_
        refine hm_getr X hw lkM_38 LM_0 (b := 6) rfl dX11_line_105 ?_
        refine lv_sipush (v := 1000) hx hb dX11_line_108 (by decide) ?_
        refine lv_iload_n hx hb dX11_line_111 rfl (lv_at hl 1 rfl) ?_
        refine lv_imul hx hb dX11_line_112 ?_
        refine lv_iconst (v := 4) hx hb dX11_line_113 (by decide) ?_
        refine lv_iadd hx hb dX11_line_114 ?_
        refine lv_bipush (v := 9) hx hb dX11_line_115 (by decide) ?_
        obtain ⟨hi, h⟩ := h
        refine hm_iast X hw LM_6 hi dX11_line_117 (fun H locs hw => ?_)
        refine lv_aload_n hx hb dX11_line_118 rfl (lv_at hl 0 rfl) ?_
        refine lv_iload_n hx hb dX11_line_119 rfl (lv_at hl 1 rfl) ?_
        refine lv_iconst (v := 5) hx hb dX11_line_120 (by decide) ?_
        refine lv_iconst (v := 2) hx hb dX11_line_121 (by decide) ?_
        refine lv_bipush (v := 12) hx hb dX11_line_122 (by decide) ?_
        refine hm_callv hw (hm_runV (rest := []) hCl_true X hw (cM_says  h) ykM_says kw1902 rfl LM_0 rfl hl.1 rfl rfl rfl (Nat.le_of_ble_eq_true rfl) ⟨Nat.le_trans (Nat.le_of_ble_eq_true rfl) hR.1, Nat.le_trans (Nat.le_of_ble_eq_true rfl) hR.2⟩ ⟨Nat.zero_le _, Nat.zero_le _⟩ dX11_line_124) (fun u13 H locs hp hw => ?_)
        obtain ⟨I12, rfl, h⟩ := hp
        refine lv_aload_n hx hb dX11_line_127 rfl (lv_at hl 0 rfl) ?_
        refine lv_iload_n hx hb dX11_line_128 rfl (lv_at hl 1 rfl) ?_
        refine lv_bipush (v := 7) hx hb dX11_line_129 (by decide) ?_
        refine lv_iconst (v := 2) hx hb dX11_line_131 (by decide) ?_
        refine lv_bipush (v := 10) hx hb dX11_line_132 (by decide) ?_
        refine hm_callv hw (hm_runV (rest := []) hCl_true X hw (cM_says  h) ykM_says kw1902 rfl LM_0 rfl hl.1 rfl rfl rfl (Nat.le_of_ble_eq_true rfl) ⟨Nat.le_trans (Nat.le_of_ble_eq_true rfl) hR.1, Nat.le_trans (Nat.le_of_ble_eq_true rfl) hR.2⟩ ⟨Nat.zero_le _, Nat.zero_le _⟩ dX11_line_134) (fun u15 H locs hp hw => ?_)
        obtain ⟨I14, rfl, h⟩ := hp
        refine lv_aload_n hx hb dX11_line_137 rfl (lv_at hl 0 rfl) ?_
        refine hm_getr X hw lkM_38 LM_0 (b := 6) rfl dX11_line_138 ?_
        refine lv_sipush (v := 1000) hx hb dX11_line_141 (by decide) ?_
        refine lv_iload_n hx hb dX11_line_144 rfl (lv_at hl 1 rfl) ?_
        refine lv_imul hx hb dX11_line_145 ?_
        refine lv_bipush (v := 9) hx hb dX11_line_146 (by decide) ?_
        refine lv_iadd hx hb dX11_line_148 ?_
        refine lv_bipush (v := 9) hx hb dX11_line_149 (by decide) ?_
        obtain ⟨hi, h⟩ := h
        refine hm_iast X hw LM_6 hi dX11_line_151 (fun H locs hw => ?_)
        refine lv_aload_n hx hb dX11_line_152 rfl (lv_at hl 0 rfl) ?_
        refine hm_getr X hw lkM_38 LM_0 (b := 6) rfl dX11_line_153 ?_
        refine lv_sipush (v := 1000) hx hb dX11_line_156 (by decide) ?_
        refine lv_iload_n hx hb dX11_line_159 rfl (lv_at hl 1 rfl) ?_
        refine lv_imul hx hb dX11_line_160 ?_
        refine lv_bipush (v := 10) hx hb dX11_line_161 (by decide) ?_
        refine lv_iadd hx hb dX11_line_163 ?_
        refine lv_bipush (v := 9) hx hb dX11_line_164 (by decide) ?_
        obtain ⟨hi, h⟩ := h
        refine hm_iast X hw LM_6 hi dX11_line_166 (fun H locs hw => ?_)
        refine lv_aload_n hx hb dX11_line_167 rfl (lv_at hl 0 rfl) ?_
        refine hm_getr X hw lkM_38 LM_0 (b := 6) rfl dX11_line_168 ?_
        refine lv_sipush (v := 1000) hx hb dX11_line_171 (by decide) ?_
        refine lv_iload_n hx hb dX11_line_174 rfl (lv_at hl 1 rfl) ?_
        refine lv_imul hx hb dX11_line_175 ?_
        refine lv_bipush (v := 11) hx hb dX11_line_176 (by decide) ?_
        refine lv_iadd hx hb dX11_line_178 ?_
        refine lv_iconst (v := 0) hx hb dX11_line_179 (by decide) ?_
        obtain ⟨hi, h⟩ := h
        refine hm_iast X hw LM_6 hi dX11_line_180 (fun H locs hw => ?_)
        refine lv_iinc (v := x1 + 1) (lv' := [(1, _), (0, _)]) hx hb dX11_line_181 hl (k := 1) rfl rfl (by decide) rfl (fun ls hl => ?_)
        refine lv_goto (tgt := 7) hx hb dX11_line_184 (by decide) ?_
        exact ih _ _ h hw (lv_sub hl [1, 0] rfl)
      · have h := Eq.mp (if_pos hc) h
        refine lv_aload_n hx hb dX11_line_67 rfl (lv_at hl 0 rfl) ?_
        refine lv_iconst (v := 0) hx hb dX11_line_68 (by decide) ?_
        refine lv_iconst (v := 0) hx hb dX11_line_69 (by decide) ?_
        refine lv_iconst (v := 2) hx hb dX11_line_70 (by decide) ?_
        refine lv_bipush (v := 11) hx hb dX11_line_71 (by decide) ?_
        refine hm_callv hw (hm_runV (rest := []) hCl_true X hw (cM_says  h) ykM_says kw1902 rfl LM_0 rfl hl.1 rfl rfl rfl (Nat.le_of_ble_eq_true rfl) ⟨Nat.le_trans (Nat.le_of_ble_eq_true rfl) hR.1, Nat.le_trans (Nat.le_of_ble_eq_true rfl) hR.2⟩ ⟨Nat.zero_le _, Nat.zero_le _⟩ dX11_line_73) (fun u17 H locs hp hw => ?_)
        obtain ⟨I16, rfl, h⟩ := hp
        refine lv_aload_n hx hb dX11_line_76 rfl (lv_at hl 0 rfl) ?_
        refine hm_getr X hw lkM_38 LM_0 (b := 6) rfl dX11_line_77 ?_
        refine lv_iconst (v := 2) hx hb dX11_line_80 (by decide) ?_
        refine lv_iconst (v := 0) hx hb dX11_line_81 (by decide) ?_
        refine hm_iast X hw LM_6 (by unfold vp_in; decide) dX11_line_82 (fun H locs hw => ?_)
        refine lv_goto (tgt := 181) hx hb dX11_line_83 (by decide) ?_
        refine lv_iinc (v := x1 + 1) (lv' := [(1, _), (0, _)]) hx hb dX11_line_181 hl (k := 1) rfl rfl (by decide) rfl (fun ls hl => ?_)
        refine lv_goto (tgt := 7) hx hb dX11_line_184 (by decide) ?_
        exact ih _ _ h hw (lv_sub hl [1, 0] rfl)

theorem cM_line {l : Launch} {D : va_G} {cA : Nat → ClassId} {z sz : Nat} {I : HI} {J : HJ}  {Q : Int32 → HI → Prop}  (h : M_line I  Q) : Met l yX11_line (hws0 yX11_line cX11_line 2 (some .int)) { frames := 7, cells := 0, slots := 0, locals := 161 } (hPc D cA z Ev0 (I, J, T, FM, LM) sz [.ref (z + 0)]) (va_Qi (pI J T FM LM Q) (hB D cA z (hA z LM sz)) (hA z LM sz)) 0 0 (hA z LM sz) := by
  refine hm_met (I, J, T, FM, LM) [.ref (z + 0)] rfl (by decide) (Nat.le_of_ble_eq_true rfl) ?_
  intro p e s m below meth c ls X hr hlk hnm hxt hsz hw hl
  have hl : lv_has ls 2 [(0, .ref (z + 0))] := hl
  have hR : 7 ≤ ({ frames := 7, cells := 0, slots := 0, locals := 161 } : Room).frames ∧ 161 ≤ ({ frames := 7, cells := 0, slots := 0, locals := 161 } : Room).locals := ⟨Nat.le_refl _, Nat.le_refl _⟩
  generalize ({ frames := 7, cells := 0, slots := 0, locals := 161 } : Room) = R at hR ⊢
  clear hsz
  generalize (hA z LM sz) = A at hw ⊢
  have hx := X.1
  have hb := X.2.1
  unfold M_line at h
  refine lv_aload_n hx hb dX11_line_0 rfl (lv_at hl 0 rfl) ?_
  refine lv_iconst (v := 0) hx hb dX11_line_1 (by decide) ?_
  refine hm_puti X hw lkM_174 LM_0 rfl rfl dX11_line_2 (fun H locs hw => ?_)
  refine lv_iconst (v := 0) hx hb dX11_line_5 (by decide) ?_
  refine lv_istore_n (lv' := [(1, _), (0, _)]) hx hb dX11_line_6 rfl hl (by decide) rfl (fun ls hl => ?_)
  obtain ⟨n2, h⟩ := h
  exact wkM_line_l7 X hr hlk hR   n2 _ _ h hw (lv_sub hl [1, 0] rfl)

theorem wkM_isWonIf_l87 {I : HI} {J : HJ} {Q : Int32 → HI → Prop} (X : hX p m c s args RX11 cX11_isWonIf 7) (hr : meth.sig.returnType = (some .boolean)) (hlk : meth.locks = false) (hR : 4 ≤ R.frames ∧ 94 ≤ R.locals)   : ∀ (n : Nat) (x4 : Int32) (x5 : Int32) (x6 : Int32) {ls : Array Slot} {H : Heap} {locs : List Loc}, M_isWonIf_l87 I Q n x4 x5 x6 → hW D cA z Ev0 (I, J, T, FM, LM) A s H locs → lv_has ls 7 [(0, .ref (z + 0)), (4, .int x4), (5, .int x5), (6, .int x6)] → W p l e R s m args below meth c H locs 0 0 (MQ below (va_Qi (pI J T FM LM Q) (hB D cA z A) A) args s 0 0 A) (F0 m 87 ls []) := by
  have hx := X.1
  have hb := X.2.1
  intro n
  induction n with
  | zero => intro x4 x5 x6 ls H locs h; exact False.elim h
  | succ n ih =>
    intro x4 x5 x6 ls H locs h hw hl
    rw [M_isWonIf_l87] at h
    refine lv_iload hx hb dX11_isWonIf_87 (lv_at hl 3 rfl) ?_
    refine lv_aload_n hx hb dX11_isWonIf_89 rfl (lv_at hl 0 rfl) ?_
    refine hm_geti X hw lkM_7 LM_0 dX11_isWonIf_90 ?_
    refine lv_icmp_ge (tgt := 154) hx hb dX11_isWonIf_93 (by decide) (fun hc => ?_) (fun hc => ?_)
    · have h := Eq.mp (if_pos hc) h
      refine lv_aload_n hx hb dX11_isWonIf_154 rfl (lv_at hl 0 rfl) ?_
      refine lv_iload hx hb dX11_isWonIf_155 (lv_at hl 1 rfl) ?_
      refine lv_iload hx hb dX11_isWonIf_157 (lv_at hl 2 rfl) ?_
      refine hm_calli hw (hm_runV (rest := []) hCl_true X hw (cM_isWon  h) ykM_isWon kw1772 rfl LM_0 rfl hl.1 rfl rfl rfl (Nat.le_of_ble_eq_true rfl) ⟨Nat.le_trans (Nat.le_of_ble_eq_true rfl) hR.1, Nat.le_trans (Nat.le_of_ble_eq_true rfl) hR.2⟩ ⟨Nat.zero_le _, Nat.zero_le _⟩ dX11_isWonIf_159) (fun r3 u4 H locs hp hw => ?_)
      obtain ⟨rfl, h⟩ := hp
      obtain ⟨hz, h⟩ := h
      exact hm_zret X hr hlk hw hz ⟨_, rfl, h⟩ dX11_isWonIf_162
    · have h := Eq.mp (if_neg hc) h
      refine lv_aload_n hx hb dX11_isWonIf_96 rfl (lv_at hl 0 rfl) ?_
      refine hm_getr X hw lkM_78 LM_0 (b := 18) rfl dX11_isWonIf_97 ?_
      refine lv_iload hx hb dX11_isWonIf_100 (lv_at hl 3 rfl) ?_
      obtain ⟨hi, h⟩ := h
      refine hm_iald X hw LM_18 hi dX11_isWonIf_102 ?_
      refine lv_aload_n hx hb dX11_isWonIf_103 rfl (lv_at hl 0 rfl) ?_
      refine hm_getr X hw lkM_75 LM_0 (b := 17) rfl dX11_isWonIf_104 ?_
      refine lv_iload hx hb dX11_isWonIf_107 (lv_at hl 3 rfl) ?_
      obtain ⟨hi, h⟩ := h
      refine hm_iald X hw LM_17 hi dX11_isWonIf_109 ?_
      refine lv_icmp_ne (tgt := 125) hx hb dX11_isWonIf_110 (by decide) (fun hc => ?_) (fun hc => ?_)
      · have h := Eq.mp (if_neg hc) h
        refine lv_aload_n hx hb dX11_isWonIf_125 rfl (lv_at hl 0 rfl) ?_
        refine hm_getr X hw lkM_78 LM_0 (b := 18) rfl dX11_isWonIf_126 ?_
        refine lv_iload hx hb dX11_isWonIf_129 (lv_at hl 3 rfl) ?_
        obtain ⟨hi, h⟩ := h
        refine hm_iald X hw LM_18 hi dX11_isWonIf_131 ?_
        refine lv_aload_n hx hb dX11_isWonIf_132 rfl (lv_at hl 0 rfl) ?_
        refine hm_geti X hw lkM_13 LM_0 dX11_isWonIf_133 ?_
        refine lv_icmp_eq (tgt := 148) hx hb dX11_isWonIf_136 (by decide) (fun hc => ?_) (fun hc => ?_)
        · have h := Eq.mp (if_pos hc) h
          refine lv_iinc (v := x6 + 1) (lv' := [(6, _), (0, _), (4, _), (5, _)]) hx hb dX11_isWonIf_148 hl (k := 3) rfl rfl (by decide) rfl (fun ls hl => ?_)
          refine lv_goto (tgt := 87) hx hb dX11_isWonIf_151 (by decide) ?_
          exact ih _ _ _ h hw (lv_sub hl [1, 2, 3, 0] rfl)
        · have h := Eq.mp (if_neg hc) h
          refine lv_iload hx hb dX11_isWonIf_139 (lv_at hl 2 rfl) ?_
          refine lv_iconst (v := 1) hx hb dX11_isWonIf_141 (by decide) ?_
          refine lv_iload hx hb dX11_isWonIf_142 (lv_at hl 3 rfl) ?_
          refine lv_ishl hx hb dX11_isWonIf_144 ?_
          refine lv_ior hx hb dX11_isWonIf_145 ?_
          refine lv_istore (lv' := [(5, _), (0, _), (4, _), (6, _)]) hx hb dX11_isWonIf_146 hl (by decide) rfl (fun ls hl => ?_)
          refine lv_iinc (v := x6 + 1) (lv' := [(6, _), (5, _), (0, _), (4, _)]) hx hb dX11_isWonIf_148 hl (k := 3) rfl rfl (by decide) rfl (fun ls hl => ?_)
          refine lv_goto (tgt := 87) hx hb dX11_isWonIf_151 (by decide) ?_
          exact ih _ _ _ h hw (lv_sub hl [2, 3, 1, 0] rfl)
      · have h := Eq.mp (if_pos hc) h
        refine lv_iload hx hb dX11_isWonIf_113 (lv_at hl 1 rfl) ?_
        refine lv_iconst (v := 1) hx hb dX11_isWonIf_115 (by decide) ?_
        refine lv_iload hx hb dX11_isWonIf_116 (lv_at hl 3 rfl) ?_
        refine lv_ishl hx hb dX11_isWonIf_118 ?_
        refine lv_ior hx hb dX11_isWonIf_119 ?_
        refine lv_istore (lv' := [(4, _), (0, _), (5, _), (6, _)]) hx hb dX11_isWonIf_120 hl (by decide) rfl (fun ls hl => ?_)
        refine lv_goto (tgt := 148) hx hb dX11_isWonIf_122 (by decide) ?_
        refine lv_iinc (v := x6 + 1) (lv' := [(6, _), (4, _), (0, _), (5, _)]) hx hb dX11_isWonIf_148 hl (k := 3) rfl rfl (by decide) rfl (fun ls hl => ?_)
        refine lv_goto (tgt := 87) hx hb dX11_isWonIf_151 (by decide) ?_
        exact ih _ _ _ h hw (lv_sub hl [2, 1, 3, 0] rfl)

theorem wkM_isWonIf_l32 {J : HJ} {x4 : Int32} {K22 : HI → Int32 → Prop} {Q : Int32 → HI → Prop} (X : hX p m c s args RX11 cX11_isWonIf 7) (hr : meth.sig.returnType = (some .boolean)) (hlk : meth.locks = false) (hR : 4 ≤ R.frames ∧ 94 ≤ R.locals)  (hK22 : ∀ (I : HI) (x4 : Int32) {ls : Array Slot} {H : Heap} {locs : List Loc}, K22 I x4 → hW D cA z Ev0 (I, J, T, FM, LM) A s H locs → lv_has ls 7 [(0, .ref (z + 0)), (4, .int x4)] → W p l e R s m args below meth c H locs 0 0 (MQ below (va_Qi (pI J T FM LM Q) (hB D cA z A) A) args s 0 0 A) (F0 m 22 ls [])) : ∀ (n : Nat) (I : HI) (x5 : Int32) {ls : Array Slot} {H : Heap} {locs : List Loc}, M_isWonIf_l32 x4 K22 Q n I x5 → hW D cA z Ev0 (I, J, T, FM, LM) A s H locs → lv_has ls 7 [(0, .ref (z + 0)), (4, .int x4), (5, .int x5)] → W p l e R s m args below meth c H locs 0 0 (MQ below (va_Qi (pI J T FM LM Q) (hB D cA z A) A) args s 0 0 A) (F0 m 32 ls []) := by
  have hx := X.1
  have hb := X.2.1
  intro n
  induction n with
  | zero => intro I x5 ls H locs h; exact False.elim h
  | succ n ih =>
    intro I x5 ls H locs h hw hl
    rw [M_isWonIf_l32] at h
    refine lv_iload hx hb dX11_isWonIf_32 (lv_at hl 2 rfl) ?_
    refine lv_aload_n hx hb dX11_isWonIf_34 rfl (lv_at hl 0 rfl) ?_
    refine hm_geti X hw lkM_7 LM_0 dX11_isWonIf_35 ?_
    refine lv_icmp_ge (tgt := 72) hx hb dX11_isWonIf_38 (by decide) (fun hc => ?_) (fun hc => ?_)
    · have h := Eq.mp (if_pos hc) h
      refine lv_iinc (v := x4 + 1) (lv' := [(4, _), (0, _), (5, _)]) hx hb dX11_isWonIf_72 hl (k := 1) rfl rfl (by decide) rfl (fun ls hl => ?_)
      refine lv_goto (tgt := 22) hx hb dX11_isWonIf_75 (by decide) ?_
      exact hK22 _ _ h hw (lv_sub hl [1, 0] rfl)
    · have h := Eq.mp (if_neg hc) h
      refine lv_aload_n hx hb dX11_isWonIf_41 rfl (lv_at hl 0 rfl) ?_
      refine hm_getr X hw lkM_29 LM_0 (b := 3) rfl dX11_isWonIf_42 ?_
      refine lv_iload hx hb dX11_isWonIf_45 (lv_at hl 2 rfl) ?_
      obtain ⟨hi, h⟩ := h
      refine hm_iald X hw LM_3 hi dX11_isWonIf_47 ?_
      refine lv_iload hx hb dX11_isWonIf_48 (lv_at hl 1 rfl) ?_
      refine lv_icmp_ne (tgt := 66) hx hb dX11_isWonIf_50 (by decide) (fun hc => ?_) (fun hc => ?_)
      · have h := Eq.mp (if_neg hc) h
        refine lv_iinc (v := x5 + 1) (lv' := [(5, _), (0, _), (4, _)]) hx hb dX11_isWonIf_66 hl (k := 2) rfl rfl (by decide) rfl (fun ls hl => ?_)
        refine lv_goto (tgt := 32) hx hb dX11_isWonIf_69 (by decide) ?_
        exact ih _ _ h hw (lv_sub hl [1, 2, 0] rfl)
      · have h := Eq.mp (if_pos hc) h
        refine lv_aload_n hx hb dX11_isWonIf_53 rfl (lv_at hl 0 rfl) ?_
        refine hm_getr X hw lkM_78 LM_0 (b := 18) rfl dX11_isWonIf_54 ?_
        refine lv_iload hx hb dX11_isWonIf_57 (lv_at hl 2 rfl) ?_
        refine lv_aload_n hx hb dX11_isWonIf_59 rfl (lv_at hl 0 rfl) ?_
        refine lv_iload hx hb dX11_isWonIf_60 (lv_at hl 2 rfl) ?_
        refine hm_calli hw (hm_runV (rest := [_, _]) hCl_true X hw (cM_guesses  h) ykM_guesses kw1737 rfl LM_0 rfl hl.1 rfl rfl rfl (Nat.le_of_ble_eq_true rfl) ⟨Nat.le_trans (Nat.le_of_ble_eq_true rfl) hR.1, Nat.le_trans (Nat.le_of_ble_eq_true rfl) hR.2⟩ ⟨Nat.zero_le _, Nat.zero_le _⟩ dX11_isWonIf_62) (fun r5 u7 H locs hp hw => ?_)
        obtain ⟨I6, rfl, h⟩ := hp
        obtain ⟨hi, h⟩ := h
        refine hm_iast X hw LM_18 hi dX11_isWonIf_65 (fun H locs hw => ?_)
        refine lv_iinc (v := x5 + 1) (lv' := [(5, _), (0, _), (4, _)]) hx hb dX11_isWonIf_66 hl (k := 2) rfl rfl (by decide) rfl (fun ls hl => ?_)
        refine lv_goto (tgt := 32) hx hb dX11_isWonIf_69 (by decide) ?_
        exact ih _ _ h hw (lv_sub hl [1, 2, 0] rfl)

theorem wkM_isWonIf_l22 {J : HJ} {Q : Int32 → HI → Prop} (X : hX p m c s args RX11 cX11_isWonIf 7) (hr : meth.sig.returnType = (some .boolean)) (hlk : meth.locks = false) (hR : 4 ≤ R.frames ∧ 94 ≤ R.locals)   : ∀ (n : Nat) (I : HI) (x4 : Int32) {ls : Array Slot} {H : Heap} {locs : List Loc}, M_isWonIf_l22 Q n I x4 → hW D cA z Ev0 (I, J, T, FM, LM) A s H locs → lv_has ls 7 [(0, .ref (z + 0)), (4, .int x4)] → W p l e R s m args below meth c H locs 0 0 (MQ below (va_Qi (pI J T FM LM Q) (hB D cA z A) A) args s 0 0 A) (F0 m 22 ls []) := by
  have hx := X.1
  have hb := X.2.1
  intro n
  induction n with
  | zero => intro I x4 ls H locs h; exact False.elim h
  | succ n ih =>
    intro I x4 ls H locs h hw hl
    rw [M_isWonIf_l22] at h
    refine lv_iload hx hb dX11_isWonIf_22 (lv_at hl 1 rfl) ?_
    refine lv_bipush (v := 8) hx hb dX11_isWonIf_24 (by decide) ?_
    refine lv_icmp_ge (tgt := 78) hx hb dX11_isWonIf_26 (by decide) (fun hc => ?_) (fun hc => ?_)
    · have h := Eq.mp (if_pos hc) h
      refine lv_iconst (v := 0) hx hb dX11_isWonIf_78 (by decide) ?_
      refine lv_istore (lv' := [(4, _), (0, _)]) hx hb dX11_isWonIf_79 hl (by decide) rfl (fun ls hl => ?_)
      refine lv_iconst (v := 0) hx hb dX11_isWonIf_81 (by decide) ?_
      refine lv_istore (lv' := [(5, _), (4, _), (0, _)]) hx hb dX11_isWonIf_82 hl (by decide) rfl (fun ls hl => ?_)
      refine lv_iconst (v := 0) hx hb dX11_isWonIf_84 (by decide) ?_
      refine lv_istore (lv' := [(6, _), (5, _), (4, _), (0, _)]) hx hb dX11_isWonIf_85 hl (by decide) rfl (fun ls hl => ?_)
      obtain ⟨n2, h⟩ := h
      exact wkM_isWonIf_l87 X hr hlk hR   n2 _ _ _ h hw (lv_sub hl [3, 2, 1, 0] rfl)
    · have h := Eq.mp (if_neg hc) h
      refine lv_iconst (v := 0) hx hb dX11_isWonIf_29 (by decide) ?_
      refine lv_istore (lv' := [(5, _), (0, _), (4, _)]) hx hb dX11_isWonIf_30 hl (by decide) rfl (fun ls hl => ?_)
      obtain ⟨n2, h⟩ := h
      exact wkM_isWonIf_l32 X hr hlk hR  ih n2 _ _ h hw (lv_sub hl [1, 2, 0] rfl)

theorem cM_isWonIf {l : Launch} {D : va_G} {cA : Nat → ClassId} {z sz : Nat} {I : HI} {J : HJ} {x1 : Int32} {x2 : Int32} {x3 : Int32} {Q : Int32 → HI → Prop}  (h : M_isWonIf I x1 x2 x3 Q) : Met l yX11_isWonIf (hws0 yX11_isWonIf cX11_isWonIf 7 (some .boolean)) { frames := 4, cells := 0, slots := 0, locals := 94 } (hPc D cA z Ev0 (I, J, T, FM, LM) sz [.ref (z + 0), .int x1, .int x2, .int x3]) (va_Qi (pI J T FM LM Q) (hB D cA z (hA z LM sz)) (hA z LM sz)) 0 0 (hA z LM sz) := by
  refine hm_met (I, J, T, FM, LM) [.ref (z + 0), .int x1, .int x2, .int x3] rfl (by decide) (Nat.le_of_ble_eq_true rfl) ?_
  intro p e s m below meth c ls X hr hlk hnm hxt hsz hw hl
  have hl : lv_has ls 7 [(0, .ref (z + 0)), (1, .int x1), (2, .int x2), (3, .int x3)] := hl
  have hR : 4 ≤ ({ frames := 4, cells := 0, slots := 0, locals := 94 } : Room).frames ∧ 94 ≤ ({ frames := 4, cells := 0, slots := 0, locals := 94 } : Room).locals := ⟨Nat.le_refl _, Nat.le_refl _⟩
  generalize ({ frames := 4, cells := 0, slots := 0, locals := 94 } : Room) = R at hR ⊢
  clear hsz
  generalize (hA z LM sz) = A at hw ⊢
  have hx := X.1
  have hb := X.2.1
  unfold M_isWonIf at h
  refine lv_aload_n hx hb dX11_isWonIf_0 rfl (lv_at hl 0 rfl) ?_
  refine lv_iload_n hx hb dX11_isWonIf_1 rfl (lv_at hl 1 rfl) ?_
  refine hm_callv hw (hm_runV (rest := []) hCl_true X hw (cM_laysOut  h) ykM_laysOut kw1808 rfl LM_0 rfl hl.1 rfl rfl rfl (Nat.le_of_ble_eq_true rfl) ⟨Nat.le_trans (Nat.le_of_ble_eq_true rfl) hR.1, Nat.le_trans (Nat.le_of_ble_eq_true rfl) hR.2⟩ ⟨Nat.zero_le _, Nat.zero_le _⟩ dX11_isWonIf_2) (fun u2 H locs hp hw => ?_)
  obtain ⟨I1, rfl, h⟩ := hp
  refine lv_aload_n hx hb dX11_isWonIf_5 rfl (lv_at hl 0 rfl) ?_
  refine hm_getr X hw lkM_78 LM_0 (b := 18) rfl dX11_isWonIf_6 ?_
  refine lv_iload_n hx hb dX11_isWonIf_9 rfl (lv_at hl 2 rfl) ?_
  refine lv_iload_n hx hb dX11_isWonIf_10 rfl (lv_at hl 3 rfl) ?_
  obtain ⟨hi, h⟩ := h
  refine hm_iast X hw LM_18 hi dX11_isWonIf_11 (fun H locs hw => ?_)
  refine lv_aload_n hx hb dX11_isWonIf_12 rfl (lv_at hl 0 rfl) ?_
  refine hm_getr X hw lkM_29 LM_0 (b := 3) rfl dX11_isWonIf_13 ?_
  refine lv_iload_n hx hb dX11_isWonIf_16 rfl (lv_at hl 2 rfl) ?_
  obtain ⟨hi, h⟩ := h
  refine hm_iald X hw LM_3 hi dX11_isWonIf_17 ?_
  refine lv_iconst (v := 1) hx hb dX11_isWonIf_18 (by decide) ?_
  refine lv_iadd hx hb dX11_isWonIf_19 ?_
  refine lv_istore (lv' := [(4, _), (0, _), (1, _), (2, _), (3, _)]) hx hb dX11_isWonIf_20 hl (by decide) rfl (fun ls hl => ?_)
  obtain ⟨n2, h⟩ := h
  exact wkM_isWonIf_l22 X hr hlk hR   n2 _ _ h hw (lv_sub hl [1, 0] rfl)

theorem wkM_weighs_l173 {J : HJ} {x1 : Int32} {x2 : Int32} {x3 : Int32} {K165 : HI → Int32 → Prop} {Q : HI → Prop} (X : hX p m c s args RX11 cX11_weighs 7) (hr : meth.sig.returnType = none) (hlk : meth.locks = false) (hR : 5 ≤ R.frames ∧ 120 ≤ R.locals)  (hK165 : ∀ (I : HI) (x3 : Int32) {ls : Array Slot} {H : Heap} {locs : List Loc}, K165 I x3 → hW D cA z Ev0 (I, J, T, FM, LM) A s H locs → lv_has ls 7 [(0, .ref (z + 0)), (1, .int x1), (2, .int x2), (3, .int x3)] → W p l e R s m args below meth c H locs 0 0 (MQ below (va_Qv (pIv J T FM LM Q) (hB D cA z A) A) args s 0 0 A) (F0 m 165 ls [])) : ∀ (n : Nat) (I : HI) (x4 : Int32) {ls : Array Slot} {H : Heap} {locs : List Loc}, M_weighs_l173 x1 x2 x3 K165 Q n I x4 → hW D cA z Ev0 (I, J, T, FM, LM) A s H locs → lv_has ls 7 [(0, .ref (z + 0)), (1, .int x1), (2, .int x2), (3, .int x3), (4, .int x4)] → W p l e R s m args below meth c H locs 0 0 (MQ below (va_Qv (pIv J T FM LM Q) (hB D cA z A) A) args s 0 0 A) (F0 m 173 ls []) := by
  have hx := X.1
  have hb := X.2.1
  intro n
  induction n with
  | zero => intro I x4 ls H locs h; exact False.elim h
  | succ n ih =>
    intro I x4 ls H locs h hw hl
    rw [M_weighs_l173] at h
    refine lv_iload hx hb dX11_weighs_173 (lv_at hl 4 rfl) ?_
    refine lv_aload_n hx hb dX11_weighs_175 rfl (lv_at hl 0 rfl) ?_
    refine hm_geti X hw lkM_13 LM_0 dX11_weighs_176 ?_
    refine lv_icmp_gt (tgt := 240) hx hb dX11_weighs_179 (by decide) (fun hc => ?_) (fun hc => ?_)
    · have h := Eq.mp (if_pos hc) h
      refine lv_iinc (v := x3 + 1) (lv' := [(3, _), (0, _), (1, _), (2, _), (4, _)]) hx hb dX11_weighs_240 hl (k := 3) rfl rfl (by decide) rfl (fun ls hl => ?_)
      refine lv_goto (tgt := 165) hx hb dX11_weighs_243 (by decide) ?_
      exact hK165 _ _ h hw (lv_sub hl [1, 2, 3, 0] rfl)
    · have h := Eq.mp (if_neg hc) h
      refine lv_aload_n hx hb dX11_weighs_182 rfl (lv_at hl 0 rfl) ?_
      refine hm_getr X hw lkM_139 LM_0 (b := 37) rfl dX11_weighs_183 ?_
      refine lv_iconst (v := 5) hx hb dX11_weighs_186 (by decide) ?_
      refine lv_iload_n hx hb dX11_weighs_187 rfl (lv_at hl 3 rfl) ?_
      refine lv_imul hx hb dX11_weighs_188 ?_
      refine lv_iload hx hb dX11_weighs_189 (lv_at hl 4 rfl) ?_
      refine lv_iadd hx hb dX11_weighs_191 ?_
      obtain ⟨hi, h⟩ := h
      refine hm_iald X hw LM_37 hi dX11_weighs_192 ?_
      refine lv_aload_n hx hb dX11_weighs_193 rfl (lv_at hl 0 rfl) ?_
      refine hm_geti X hw lkM_431 LM_0 dX11_weighs_194 ?_
      refine lv_icmp_gt (tgt := 203) hx hb dX11_weighs_197 (by decide) (fun hc => ?_) (fun hc => ?_)
      · have h := Eq.mp (if_pos hc) h
        refine lv_aload_n hx hb dX11_weighs_203 rfl (lv_at hl 0 rfl) ?_
        refine lv_aload_n hx hb dX11_weighs_204 rfl (lv_at hl 0 rfl) ?_
        refine hm_getr X hw lkM_139 LM_0 (b := 37) rfl dX11_weighs_205 ?_
        refine lv_iconst (v := 5) hx hb dX11_weighs_208 (by decide) ?_
        refine lv_iload_n hx hb dX11_weighs_209 rfl (lv_at hl 3 rfl) ?_
        refine lv_imul hx hb dX11_weighs_210 ?_
        refine lv_iload hx hb dX11_weighs_211 (lv_at hl 4 rfl) ?_
        refine lv_iadd hx hb dX11_weighs_213 ?_
        obtain ⟨hi, h⟩ := h
        refine hm_iald X hw LM_37 hi dX11_weighs_214 ?_
        refine hm_puti X hw lkM_431 LM_0 rfl rfl dX11_weighs_215 (fun H locs hw => ?_)
        refine lv_aload_n hx hb dX11_weighs_218 rfl (lv_at hl 0 rfl) ?_
        refine lv_iload_n hx hb dX11_weighs_219 rfl (lv_at hl 1 rfl) ?_
        refine hm_puti X hw lkM_434 LM_0 rfl rfl dX11_weighs_220 (fun H locs hw => ?_)
        refine lv_aload_n hx hb dX11_weighs_223 rfl (lv_at hl 0 rfl) ?_
        refine lv_iload_n hx hb dX11_weighs_224 rfl (lv_at hl 3 rfl) ?_
        refine hm_puti X hw lkM_437 LM_0 rfl rfl dX11_weighs_225 (fun H locs hw => ?_)
        refine lv_aload_n hx hb dX11_weighs_228 rfl (lv_at hl 0 rfl) ?_
        refine lv_iload hx hb dX11_weighs_229 (lv_at hl 4 rfl) ?_
        refine hm_puti X hw lkM_440 LM_0 rfl rfl dX11_weighs_231 (fun H locs hw => ?_)
        refine lv_iinc (v := x4 + 1) (lv' := [(4, _), (0, _), (1, _), (2, _), (3, _)]) hx hb dX11_weighs_234 hl (k := 4) rfl rfl (by decide) rfl (fun ls hl => ?_)
        refine lv_goto (tgt := 173) hx hb dX11_weighs_237 (by decide) ?_
        exact ih _ _ h hw (lv_sub hl [1, 2, 3, 4, 0] rfl)
      · have h := Eq.mp (if_neg hc) h
        refine lv_goto (tgt := 234) hx hb dX11_weighs_200 (by decide) ?_
        refine lv_iinc (v := x4 + 1) (lv' := [(4, _), (0, _), (1, _), (2, _), (3, _)]) hx hb dX11_weighs_234 hl (k := 4) rfl rfl (by decide) rfl (fun ls hl => ?_)
        refine lv_goto (tgt := 173) hx hb dX11_weighs_237 (by decide) ?_
        exact ih _ _ h hw (lv_sub hl [1, 2, 3, 4, 0] rfl)

theorem wkM_weighs_l165 {J : HJ} {x1 : Int32} {x2 : Int32} {Q : HI → Prop} (X : hX p m c s args RX11 cX11_weighs 7) (hr : meth.sig.returnType = none) (hlk : meth.locks = false) (hR : 5 ≤ R.frames ∧ 120 ≤ R.locals)   : ∀ (n : Nat) (I : HI) (x3 : Int32) {ls : Array Slot} {H : Heap} {locs : List Loc}, M_weighs_l165 x1 x2 Q n I x3 → hW D cA z Ev0 (I, J, T, FM, LM) A s H locs → lv_has ls 7 [(0, .ref (z + 0)), (1, .int x1), (2, .int x2), (3, .int x3)] → W p l e R s m args below meth c H locs 0 0 (MQ below (va_Qv (pIv J T FM LM Q) (hB D cA z A) A) args s 0 0 A) (F0 m 165 ls []) := by
  have hx := X.1
  have hb := X.2.1
  intro n
  induction n with
  | zero => intro I x3 ls H locs h; exact False.elim h
  | succ n ih =>
    intro I x3 ls H locs h hw hl
    rw [M_weighs_l165] at h
    refine lv_iload_n hx hb dX11_weighs_165 rfl (lv_at hl 3 rfl) ?_
    refine lv_iload_n hx hb dX11_weighs_166 rfl (lv_at hl 2 rfl) ?_
    refine lv_icmp_ge (tgt := 246) hx hb dX11_weighs_167 (by decide) (fun hc => ?_) (fun hc => ?_)
    · have h := Eq.mp (if_pos hc) h
      exact hm_vret X hr hlk hw ⟨_, rfl, h⟩ dX11_weighs_246
    · have h := Eq.mp (if_neg hc) h
      refine lv_iconst (v := 0) hx hb dX11_weighs_170 (by decide) ?_
      refine lv_istore (lv' := [(4, _), (0, _), (1, _), (2, _), (3, _)]) hx hb dX11_weighs_171 hl (by decide) rfl (fun ls hl => ?_)
      obtain ⟨n2, h⟩ := h
      exact wkM_weighs_l173 X hr hlk hR  ih n2 _ _ h hw (lv_sub hl [1, 2, 3, 4, 0] rfl)

theorem wkM_weighs_b146 {I : HI} {J : HJ} {x1 : Int32} {x2 : Int32} {x3 : Int32} {x4 : Int32} {x5 : Int32} {x6 : Int32} {t0 : Int32} {t1 : Int32} {t2 : Int32} {K30 : HI → Int32 → Prop} {K90 : HI → Int32 → Prop} {Q : HI → Prop} (X : hX p m c s args RX11 cX11_weighs 7) (hr : meth.sig.returnType = none) (hlk : meth.locks = false) (hR : 5 ≤ R.frames ∧ 120 ≤ R.locals)  (hK30 : ∀ (I : HI) (x3 : Int32) {ls : Array Slot} {H : Heap} {locs : List Loc}, K30 I x3 → hW D cA z Ev0 (I, J, T, FM, LM) A s H locs → lv_has ls 7 [(0, .ref (z + 0)), (1, .int x1), (2, .int x2), (3, .int x3)] → W p l e R s m args below meth c H locs 0 0 (MQ below (va_Qv (pIv J T FM LM Q) (hB D cA z A) A) args s 0 0 A) (F0 m 30 ls [])) (hK90 : ∀ (I : HI) (x6 : Int32) {ls : Array Slot} {H : Heap} {locs : List Loc}, K90 I x6 → hW D cA z Ev0 (I, J, T, FM, LM) A s H locs → lv_has ls 7 [(0, .ref (z + 0)), (1, .int x1), (2, .int x2), (3, .int x3), (4, .int x4), (5, .int x5), (6, .int x6)] → W p l e R s m args below meth c H locs 0 0 (MQ below (va_Qv (pIv J T FM LM Q) (hB D cA z A) A) args s 0 0 A) (F0 m 90 ls [])) : ∀ {ls : Array Slot} {H : Heap} {locs : List Loc}, M_weighs_b146 I x1 x2 x3 x4 x5 x6 t0 t1 t2 K30 K90 Q → hW D cA z Ev0 (I, J, T, FM, LM) A s H locs → lv_has ls 7 [(0, .ref (z + 0)), (1, .int x1), (2, .int x2), (3, .int x3), (4, .int x4), (5, .int x5), (6, .int x6)] → W p l e R s m args below meth c H locs 0 0 (MQ below (va_Qv (pIv J T FM LM Q) (hB D cA z A) A) args s 0 0 A) (F0 m 146 ls [.int t0, .int t1, .int t2, .ref (z + 37)]) := by
  have hx := X.1
  have hb := X.2.1
  intro ls H locs h hw hl
  unfold M_weighs_b146 at h
  refine lv_iload hx hb dX11_weighs_146 (lv_at hl 5 rfl) ?_
  refine lv_isub hx hb dX11_weighs_148 ?_
  refine lv_iadd hx hb dX11_weighs_149 ?_
  obtain ⟨hi, h⟩ := h
  refine hm_iast X hw LM_37 hi dX11_weighs_150 (fun H locs hw => ?_)
  refine lv_iinc (v := x6 + 1) (lv' := [(6, _), (0, _), (1, _), (2, _), (3, _), (4, _), (5, _)]) hx hb dX11_weighs_151 hl (k := 6) rfl rfl (by decide) rfl (fun ls hl => ?_)
  refine lv_goto (tgt := 90) hx hb dX11_weighs_154 (by decide) ?_
  exact hK90 _ _ h hw (lv_sub hl [1, 2, 3, 4, 5, 6, 0] rfl)

theorem wkM_weighs_l90 {J : HJ} {x1 : Int32} {x2 : Int32} {x3 : Int32} {x4 : Int32} {x5 : Int32} {K30 : HI → Int32 → Prop} {Q : HI → Prop} (X : hX p m c s args RX11 cX11_weighs 7) (hr : meth.sig.returnType = none) (hlk : meth.locks = false) (hR : 5 ≤ R.frames ∧ 120 ≤ R.locals)  (hK30 : ∀ (I : HI) (x3 : Int32) {ls : Array Slot} {H : Heap} {locs : List Loc}, K30 I x3 → hW D cA z Ev0 (I, J, T, FM, LM) A s H locs → lv_has ls 7 [(0, .ref (z + 0)), (1, .int x1), (2, .int x2), (3, .int x3)] → W p l e R s m args below meth c H locs 0 0 (MQ below (va_Qv (pIv J T FM LM Q) (hB D cA z A) A) args s 0 0 A) (F0 m 30 ls [])) : ∀ (n : Nat) (I : HI) (x6 : Int32) {ls : Array Slot} {H : Heap} {locs : List Loc}, M_weighs_l90 x1 x2 x3 x4 x5 K30 Q n I x6 → hW D cA z Ev0 (I, J, T, FM, LM) A s H locs → lv_has ls 7 [(0, .ref (z + 0)), (1, .int x1), (2, .int x2), (3, .int x3), (4, .int x4), (5, .int x5), (6, .int x6)] → W p l e R s m args below meth c H locs 0 0 (MQ below (va_Qv (pIv J T FM LM Q) (hB D cA z A) A) args s 0 0 A) (F0 m 90 ls []) := by
  have hx := X.1
  have hb := X.2.1
  intro n
  induction n with
  | zero => intro I x6 ls H locs h; exact False.elim h
  | succ n ih =>
    intro I x6 ls H locs h hw hl
    rw [M_weighs_l90] at h
    refine lv_iload hx hb dX11_weighs_90 (lv_at hl 6 rfl) ?_
    refine lv_aload_n hx hb dX11_weighs_92 rfl (lv_at hl 0 rfl) ?_
    refine hm_geti X hw lkM_13 LM_0 dX11_weighs_93 ?_
    refine lv_icmp_gt (tgt := 157) hx hb dX11_weighs_96 (by decide) (fun hc => ?_) (fun hc => ?_)
    · have h := Eq.mp (if_pos hc) h
      refine lv_iinc (v := x3 + 1) (lv' := [(3, _), (0, _), (1, _), (2, _), (4, _), (5, _), (6, _)]) hx hb dX11_weighs_157 hl (k := 3) rfl rfl (by decide) rfl (fun ls hl => ?_)
      refine lv_goto (tgt := 30) hx hb dX11_weighs_160 (by decide) ?_
      exact hK30 _ _ h hw (lv_sub hl [1, 2, 3, 0] rfl)
    · have h := Eq.mp (if_neg hc) h
      refine lv_iload hx hb dX11_weighs_99 (lv_at hl 6 rfl) ?_
      refine lv_aload_n hx hb dX11_weighs_101 rfl (lv_at hl 0 rfl) ?_
      refine hm_getr X hw lkM_35 LM_0 (b := 5) rfl dX11_weighs_102 ?_
      refine lv_sipush (v := 1024) hx hb dX11_weighs_105 (by decide) ?_
      refine lv_iload_n hx hb dX11_weighs_108 rfl (lv_at hl 1 rfl) ?_
      refine lv_imul hx hb dX11_weighs_109 ?_
      refine lv_iload hx hb dX11_weighs_110 (lv_at hl 4 rfl) ?_
      refine lv_iadd hx hb dX11_weighs_112 ?_
      obtain ⟨hi, h⟩ := h
      refine hm_iald X hw LM_5 hi dX11_weighs_113 ?_
      refine lv_icmp_eq (tgt := 151) hx hb dX11_weighs_114 (by decide) (fun hc => ?_) (fun hc => ?_)
      · have h := Eq.mp (if_pos hc) h
        refine lv_iinc (v := x6 + 1) (lv' := [(6, _), (0, _), (1, _), (2, _), (3, _), (4, _), (5, _)]) hx hb dX11_weighs_151 hl (k := 6) rfl rfl (by decide) rfl (fun ls hl => ?_)
        refine lv_goto (tgt := 90) hx hb dX11_weighs_154 (by decide) ?_
        exact ih _ _ h hw (lv_sub hl [1, 2, 3, 4, 5, 6, 0] rfl)
      · have h := Eq.mp (if_neg hc) h
        refine lv_aload_n hx hb dX11_weighs_117 rfl (lv_at hl 0 rfl) ?_
        refine hm_getr X hw lkM_139 LM_0 (b := 37) rfl dX11_weighs_118 ?_
        refine lv_iconst (v := 5) hx hb dX11_weighs_121 (by decide) ?_
        refine lv_iload hx hb dX11_weighs_122 (lv_at hl 4 rfl) ?_
        refine lv_imul hx hb dX11_weighs_124 ?_
        refine lv_iload hx hb dX11_weighs_125 (lv_at hl 6 rfl) ?_
        refine lv_iadd hx hb dX11_weighs_127 ?_
        refine lv_dup2_11 hx hb dX11_weighs_128 rfl rfl ?_
        obtain ⟨hi, h⟩ := h
        refine hm_iald X hw LM_37 hi dX11_weighs_129 ?_
        refine lv_aload_n hx hb dX11_weighs_130 rfl (lv_at hl 0 rfl) ?_
        refine lv_iload_n hx hb dX11_weighs_131 rfl (lv_at hl 3 rfl) ?_
        refine lv_iload_n hx hb dX11_weighs_132 rfl (lv_at hl 1 rfl) ?_
        refine lv_iload hx hb dX11_weighs_133 (lv_at hl 6 rfl) ?_
        refine hm_calli hw (hm_runV (rest := [_, _, _]) hCl_true X hw (cM_isWonIf  h) ykM_isWonIf kw1914 rfl LM_0 rfl hl.1 rfl rfl rfl (Nat.le_of_ble_eq_true rfl) ⟨Nat.le_trans (Nat.le_of_ble_eq_true rfl) hR.1, Nat.le_trans (Nat.le_of_ble_eq_true rfl) hR.2⟩ ⟨Nat.zero_le _, Nat.zero_le _⟩ dX11_weighs_135) (fun r11 u13 H locs hp hw => ?_)
        obtain ⟨I12, rfl, h⟩ := hp
        refine lv_if_eq (tgt := 145) hx hb dX11_weighs_138 (by decide) (fun hc => ?_) (fun hc => ?_)
        · have h := Eq.mp (if_pos hc) h
          refine lv_iconst (v := 0) hx hb dX11_weighs_145 (by decide) ?_
          exact wkM_weighs_b146 X hr hlk hR  hK30 ih h hw (lv_sub hl [0, 1, 2, 3, 4, 5, 6] rfl)
        · have h := Eq.mp (if_neg hc) h
          refine lv_iconst (v := 1) hx hb dX11_weighs_141 (by decide) ?_
          refine lv_goto (tgt := 146) hx hb dX11_weighs_142 (by decide) ?_
          exact wkM_weighs_b146 X hr hlk hR  hK30 ih h hw (lv_sub hl [0, 1, 2, 3, 4, 5, 6] rfl)

theorem wkM_weighs_l30 {J : HJ} {x1 : Int32} {x2 : Int32} {Q : HI → Prop} (X : hX p m c s args RX11 cX11_weighs 7) (hr : meth.sig.returnType = none) (hlk : meth.locks = false) (hR : 5 ≤ R.frames ∧ 120 ≤ R.locals)   : ∀ (n : Nat) (I : HI) (x3 : Int32) {ls : Array Slot} {H : Heap} {locs : List Loc}, M_weighs_l30 x1 x2 Q n I x3 → hW D cA z Ev0 (I, J, T, FM, LM) A s H locs → lv_has ls 7 [(0, .ref (z + 0)), (1, .int x1), (2, .int x2), (3, .int x3)] → W p l e R s m args below meth c H locs 0 0 (MQ below (va_Qv (pIv J T FM LM Q) (hB D cA z A) A) args s 0 0 A) (F0 m 30 ls []) := by
  have hx := X.1
  have hb := X.2.1
  intro n
  induction n with
  | zero => intro I x3 ls H locs h; exact False.elim h
  | succ n ih =>
    intro I x3 ls H locs h hw hl
    rw [M_weighs_l30] at h
    refine lv_iload_n hx hb dX11_weighs_30 rfl (lv_at hl 3 rfl) ?_
    refine lv_aload_n hx hb dX11_weighs_31 rfl (lv_at hl 0 rfl) ?_
    refine hm_geti X hw lkM_16 LM_0 dX11_weighs_32 ?_
    refine lv_icmp_ge (tgt := 163) hx hb dX11_weighs_35 (by decide) (fun hc => ?_) (fun hc => ?_)
    · have h := Eq.mp (if_pos hc) h
      refine lv_iconst (v := 0) hx hb dX11_weighs_163 (by decide) ?_
      refine lv_istore_n (lv' := [(3, _), (0, _), (1, _), (2, _)]) hx hb dX11_weighs_164 rfl hl (by decide) rfl (fun ls hl => ?_)
      obtain ⟨n2, h⟩ := h
      exact wkM_weighs_l165 X hr hlk hR   n2 _ _ h hw (lv_sub hl [1, 2, 3, 0] rfl)
    · have h := Eq.mp (if_neg hc) h
      refine lv_aload_n hx hb dX11_weighs_38 rfl (lv_at hl 0 rfl) ?_
      refine lv_iload_n hx hb dX11_weighs_39 rfl (lv_at hl 3 rfl) ?_
      refine hm_calli hw (hm_runV (rest := []) hCl_true X hw (cM_counts  h) ykM_counts kw1764 rfl LM_0 rfl hl.1 rfl rfl rfl (Nat.le_of_ble_eq_true rfl) ⟨Nat.le_trans (Nat.le_of_ble_eq_true rfl) hR.1, Nat.le_trans (Nat.le_of_ble_eq_true rfl) hR.2⟩ ⟨Nat.zero_le _, Nat.zero_le _⟩ dX11_weighs_40) (fun r3 u4 H locs hp hw => ?_)
      obtain ⟨rfl, h⟩ := hp
      refine lv_if_ne (tgt := 49) hx hb dX11_weighs_43 (by decide) (fun hc => ?_) (fun hc => ?_)
      · have h := Eq.mp (if_neg hc) h
        refine lv_aload_n hx hb dX11_weighs_49 rfl (lv_at hl 0 rfl) ?_
        refine lv_iload_n hx hb dX11_weighs_50 rfl (lv_at hl 3 rfl) ?_
        refine hm_callv hw (hm_runV (rest := []) hCl_true X hw (cM_laysOut  h) ykM_laysOut kw1808 rfl LM_0 rfl hl.1 rfl rfl rfl (Nat.le_of_ble_eq_true rfl) ⟨Nat.le_trans (Nat.le_of_ble_eq_true rfl) hR.1, Nat.le_trans (Nat.le_of_ble_eq_true rfl) hR.2⟩ ⟨Nat.zero_le _, Nat.zero_le _⟩ dX11_weighs_51) (fun u6 H locs hp hw => ?_)
        obtain ⟨I5, rfl, h⟩ := hp
        refine lv_aload_n hx hb dX11_weighs_54 rfl (lv_at hl 0 rfl) ?_
        refine lv_iload_n hx hb dX11_weighs_55 rfl (lv_at hl 1 rfl) ?_
        refine hm_calli hw (hm_runV (rest := []) hCl_true X hw (cM_viewOf  h) ykM_viewOf kw1741 rfl LM_0 rfl hl.1 rfl rfl rfl (Nat.le_of_ble_eq_true rfl) ⟨Nat.le_trans (Nat.le_of_ble_eq_true rfl) hR.1, Nat.le_trans (Nat.le_of_ble_eq_true rfl) hR.2⟩ ⟨Nat.zero_le _, Nat.zero_le _⟩ dX11_weighs_56) (fun r7 u8 H locs hp hw => ?_)
        obtain ⟨rfl, h⟩ := hp
        refine lv_istore (lv' := [(4, _), (0, _), (1, _), (2, _), (3, _)]) hx hb dX11_weighs_59 hl (by decide) rfl (fun ls hl => ?_)
        refine lv_aload_n hx hb dX11_weighs_61 rfl (lv_at hl 1 rfl) ?_
        refine lv_aload_n hx hb dX11_weighs_62 rfl (lv_at hl 1 rfl) ?_
        refine hm_getr X hw lkM_84 LM_0 (b := 20) rfl dX11_weighs_63 ?_
        refine lv_iload_n hx hb dX11_weighs_66 rfl (lv_at hl 4 rfl) ?_
        obtain ⟨hi, h⟩ := h
        refine hm_iald X hw LM_20 hi dX11_weighs_67 ?_
        refine lv_aload_n hx hb dX11_weighs_68 rfl (lv_at hl 1 rfl) ?_
        refine hm_getr X hw lkM_87 LM_0 (b := 21) rfl dX11_weighs_69 ?_
        refine lv_iload_n hx hb dX11_weighs_72 rfl (lv_at hl 4 rfl) ?_
        obtain ⟨hi, h⟩ := h
        refine hm_iald X hw LM_21 hi dX11_weighs_73 ?_
        refine hm_calli hw (hm_runV (rest := []) hCl_true X hw (cM_isWon  h) ykM_isWon kw1772 rfl LM_0 rfl hl.1 rfl rfl rfl (Nat.le_of_ble_eq_true rfl) ⟨Nat.le_trans (Nat.le_of_ble_eq_true rfl) hR.1, Nat.le_trans (Nat.le_of_ble_eq_true rfl) hR.2⟩ ⟨Nat.zero_le _, Nat.zero_le _⟩ dX11_weighs_74) (fun r9 u10 H locs hp hw => ?_)
        obtain ⟨rfl, h⟩ := hp
        refine lv_if_eq (tgt := 84) hx hb dX11_weighs_77 (by decide) (fun hc => ?_) (fun hc => ?_)
        · have h := Eq.mp (if_pos hc) h
          refine lv_iconst (v := 0) hx hb dX11_weighs_84 (by decide) ?_
          refine lv_istore (lv' := [(5, _), (4, _), (0, _), (1, _), (2, _), (3, _)]) hx hb dX11_weighs_85 hl (by decide) rfl (fun ls hl => ?_)
          refine lv_iconst (v := 0) hx hb dX11_weighs_87 (by decide) ?_
          refine lv_istore (lv' := [(6, _), (5, _), (4, _), (0, _), (1, _), (2, _), (3, _)]) hx hb dX11_weighs_88 hl (by decide) rfl (fun ls hl => ?_)
          obtain ⟨n2, h⟩ := h
          exact wkM_weighs_l90 X hr hlk hR  ih n2 _ _ h hw (lv_sub hl [3, 4, 5, 6, 2, 1, 0] rfl)
        · have h := Eq.mp (if_neg hc) h
          refine lv_iconst (v := 1) hx hb dX11_weighs_80 (by decide) ?_
          refine lv_goto (tgt := 85) hx hb dX11_weighs_81 (by decide) ?_
          refine lv_istore (lv' := [(5, _), (4, _), (0, _), (1, _), (2, _), (3, _)]) hx hb dX11_weighs_85 hl (by decide) rfl (fun ls hl => ?_)
          refine lv_iconst (v := 0) hx hb dX11_weighs_87 (by decide) ?_
          refine lv_istore (lv' := [(6, _), (5, _), (4, _), (0, _), (1, _), (2, _), (3, _)]) hx hb dX11_weighs_88 hl (by decide) rfl (fun ls hl => ?_)
          obtain ⟨n2, h⟩ := h
          exact wkM_weighs_l90 X hr hlk hR  ih n2 _ _ h hw (lv_sub hl [3, 4, 5, 6, 2, 1, 0] rfl)
      · have h := Eq.mp (if_pos hc) h
        refine lv_goto (tgt := 157) hx hb dX11_weighs_46 (by decide) ?_
        refine lv_iinc (v := x3 + 1) (lv' := [(3, _), (0, _), (1, _), (2, _)]) hx hb dX11_weighs_157 hl (k := 3) rfl rfl (by decide) rfl (fun ls hl => ?_)
        refine lv_goto (tgt := 30) hx hb dX11_weighs_160 (by decide) ?_
        exact ih _ _ h hw (lv_sub hl [1, 2, 3, 0] rfl)

theorem wkM_weighs_l8 {J : HJ} {x1 : Int32} {x2 : Int32} {Q : HI → Prop} (X : hX p m c s args RX11 cX11_weighs 7) (hr : meth.sig.returnType = none) (hlk : meth.locks = false) (hR : 5 ≤ R.frames ∧ 120 ≤ R.locals)   : ∀ (n : Nat) (I : HI) (x3 : Int32) {ls : Array Slot} {H : Heap} {locs : List Loc}, M_weighs_l8 x1 x2 Q n I x3 → hW D cA z Ev0 (I, J, T, FM, LM) A s H locs → lv_has ls 7 [(0, .ref (z + 0)), (1, .int x1), (2, .int x2), (3, .int x3)] → W p l e R s m args below meth c H locs 0 0 (MQ below (va_Qv (pIv J T FM LM Q) (hB D cA z A) A) args s 0 0 A) (F0 m 8 ls []) := by
  have hx := X.1
  have hb := X.2.1
  intro n
  induction n with
  | zero => intro I x3 ls H locs h; exact False.elim h
  | succ n ih =>
    intro I x3 ls H locs h hw hl
    rw [M_weighs_l8] at h
    refine lv_iload_n hx hb dX11_weighs_8 rfl (lv_at hl 3 rfl) ?_
    refine lv_iconst (v := 5) hx hb dX11_weighs_9 (by decide) ?_
    refine lv_iload_n hx hb dX11_weighs_10 rfl (lv_at hl 2 rfl) ?_
    refine lv_imul hx hb dX11_weighs_11 ?_
    refine lv_icmp_ge (tgt := 28) hx hb dX11_weighs_12 (by decide) (fun hc => ?_) (fun hc => ?_)
    · have h := Eq.mp (if_pos hc) h
      refine lv_iconst (v := 0) hx hb dX11_weighs_28 (by decide) ?_
      refine lv_istore_n (lv' := [(3, _), (0, _), (1, _), (2, _)]) hx hb dX11_weighs_29 rfl hl (by decide) rfl (fun ls hl => ?_)
      obtain ⟨n2, h⟩ := h
      exact wkM_weighs_l30 X hr hlk hR   n2 _ _ h hw (lv_sub hl [1, 2, 3, 0] rfl)
    · have h := Eq.mp (if_neg hc) h
      refine lv_aload_n hx hb dX11_weighs_15 rfl (lv_at hl 0 rfl) ?_
      refine hm_getr X hw lkM_139 LM_0 (b := 37) rfl dX11_weighs_16 ?_
      refine lv_iload_n hx hb dX11_weighs_19 rfl (lv_at hl 3 rfl) ?_
      refine lv_iconst (v := 0) hx hb dX11_weighs_20 (by decide) ?_
      obtain ⟨hi, h⟩ := h
      refine hm_iast X hw LM_37 hi dX11_weighs_21 (fun H locs hw => ?_)
      refine lv_iinc (v := x3 + 1) (lv' := [(3, _), (0, _), (1, _), (2, _)]) hx hb dX11_weighs_22 hl (k := 3) rfl rfl (by decide) rfl (fun ls hl => ?_)
      refine lv_goto (tgt := 8) hx hb dX11_weighs_25 (by decide) ?_
      exact ih _ _ h hw (lv_sub hl [1, 2, 3, 0] rfl)

theorem cM_weighs {l : Launch} {D : va_G} {cA : Nat → ClassId} {z sz : Nat} {I : HI} {J : HJ} {x1 : Int32} {Q : HI → Prop}  (h : M_weighs I x1 Q) : Met l yX11_weighs (hws0 yX11_weighs cX11_weighs 7 none) { frames := 5, cells := 0, slots := 0, locals := 120 } (hPc D cA z Ev0 (I, J, T, FM, LM) sz [.ref (z + 0), .int x1]) (va_Qv (pIv J T FM LM Q) (hB D cA z (hA z LM sz)) (hA z LM sz)) 0 0 (hA z LM sz) := by
  refine hm_met (I, J, T, FM, LM) [.ref (z + 0), .int x1] rfl (by decide) (Nat.le_of_ble_eq_true rfl) ?_
  intro p e s m below meth c ls X hr hlk hnm hxt hsz hw hl
  have hl : lv_has ls 7 [(0, .ref (z + 0)), (1, .int x1)] := hl
  have hR : 5 ≤ ({ frames := 5, cells := 0, slots := 0, locals := 120 } : Room).frames ∧ 120 ≤ ({ frames := 5, cells := 0, slots := 0, locals := 120 } : Room).locals := ⟨Nat.le_refl _, Nat.le_refl _⟩
  generalize ({ frames := 5, cells := 0, slots := 0, locals := 120 } : Room) = R at hR ⊢
  clear hsz
  generalize (hA z LM sz) = A at hw ⊢
  have hx := X.1
  have hb := X.2.1
  unfold M_weighs at h
  refine lv_aload_n hx hb dX11_weighs_0 rfl (lv_at hl 0 rfl) ?_
  refine lv_iload_n hx hb dX11_weighs_1 rfl (lv_at hl 1 rfl) ?_
  refine hm_calli hw (hm_runV (rest := []) hCl_true X hw (cM_viewsOf  h) ykM_viewsOf kw1338 rfl LM_0 rfl hl.1 rfl rfl rfl (Nat.le_of_ble_eq_true rfl) ⟨Nat.le_trans (Nat.le_of_ble_eq_true rfl) hR.1, Nat.le_trans (Nat.le_of_ble_eq_true rfl) hR.2⟩ ⟨Nat.zero_le _, Nat.zero_le _⟩ dX11_weighs_2) (fun r1 u2 H locs hp hw => ?_)
  obtain ⟨rfl, h⟩ := hp
  refine lv_istore_n (lv' := [(2, _), (0, _), (1, _)]) hx hb dX11_weighs_5 rfl hl (by decide) rfl (fun ls hl => ?_)
  refine lv_iconst (v := 0) hx hb dX11_weighs_6 (by decide) ?_
  refine lv_istore_n (lv' := [(3, _), (2, _), (0, _), (1, _)]) hx hb dX11_weighs_7 rfl hl (by decide) rfl (fun ls hl => ?_)
  obtain ⟨n2, h⟩ := h
  exact wkM_weighs_l8 X hr hlk hR   n2 _ _ h hw (lv_sub hl [2, 3, 1, 0] rfl)

theorem wkM_mend_b150 {I : HI} {J : HJ} {x1 : Int32} {x3 : Int32} {t0 : Int32} {K85 : HI → Int32 → Int32 → Prop} {Q : Int32 → HI → Prop} (X : hX p m c s args RX11 cX11_mend 6) (hr : meth.sig.returnType = (some .int)) (hlk : meth.locks = false) (hR : 6 ≤ R.frames ∧ 146 ≤ R.locals)  (hK85 : ∀ (I : HI) (x3 : Int32) (x4 : Int32) {ls : Array Slot} {H : Heap} {locs : List Loc}, K85 I x3 x4 → hW D cA z Ev0 (I, J, T, FM, LM) A s H locs → lv_has ls 6 [(0, .ref (z + 0)), (1, .int x1), (3, .int x3), (4, .int x4)] → W p l e R s m args below meth c H locs 0 0 (MQ below (va_Qi (pI J T FM LM Q) (hB D cA z A) A) args s 0 0 A) (F0 m 85 ls [])) : ∀ {ls : Array Slot} {H : Heap} {locs : List Loc}, M_mend_b150 I x1 x3 t0 K85 Q → hW D cA z Ev0 (I, J, T, FM, LM) A s H locs → lv_has ls 6 [(0, .ref (z + 0)), (1, .int x1), (3, .int x3)] → W p l e R s m args below meth c H locs 0 0 (MQ below (va_Qi (pI J T FM LM Q) (hB D cA z A) A) args s 0 0 A) (F0 m 150 ls [.int t0]) := by
  have hx := X.1
  have hb := X.2.1
  intro ls H locs h hw hl
  unfold M_mend_b150 at h
  refine lv_istore (lv' := [(4, _), (0, _), (1, _), (3, _)]) hx hb dX11_mend_150 hl (by decide) rfl (fun ls hl => ?_)
  refine lv_iload hx hb dX11_mend_152 (lv_at hl 0 rfl) ?_
  refine lv_if_ne (tgt := 160) hx hb dX11_mend_154 (by decide) (fun hc => ?_) (fun hc => ?_)
  · have h := Eq.mp (if_neg hc) h
    refine lv_aload_n hx hb dX11_mend_160 rfl (lv_at hl 1 rfl) ?_
    refine hm_getr X hw lkM_35 LM_0 (b := 5) rfl dX11_mend_161 ?_
    refine lv_sipush (v := 1024) hx hb dX11_mend_164 (by decide) ?_
    refine lv_aload_n hx hb dX11_mend_167 rfl (lv_at hl 1 rfl) ?_
    refine hm_geti X hw lkM_434 LM_0 dX11_mend_168 ?_
    refine lv_imul hx hb dX11_mend_171 ?_
    refine lv_aload_n hx hb dX11_mend_172 rfl (lv_at hl 1 rfl) ?_
    refine hm_geti X hw lkM_437 LM_0 dX11_mend_173 ?_
    refine lv_iadd hx hb dX11_mend_176 ?_
    refine lv_aload_n hx hb dX11_mend_177 rfl (lv_at hl 1 rfl) ?_
    refine hm_geti X hw lkM_440 LM_0 dX11_mend_178 ?_
    obtain ⟨hi, h⟩ := h
    refine hm_iast X hw LM_5 hi dX11_mend_181 (fun H locs hw => ?_)
    refine lv_aload_n hx hb dX11_mend_182 rfl (lv_at hl 1 rfl) ?_
    refine lv_iconst (v := 0) hx hb dX11_mend_183 (by decide) ?_
    refine hm_puti X hw lkM_195 LM_0 rfl rfl dX11_mend_184 (fun H locs hw => ?_)
    refine lv_iinc (v := x3 + 1) (lv' := [(3, _), (4, _), (0, _), (1, _)]) hx hb dX11_mend_187 hl (k := 3) rfl rfl (by decide) rfl (fun ls hl => ?_)
    refine lv_goto (tgt := 85) hx hb dX11_mend_190 (by decide) ?_
    exact hK85 _ _ _ h hw (lv_sub hl [2, 3, 0, 1] rfl)
  · have h := Eq.mp (if_pos hc) h
    refine lv_goto (tgt := 85) hx hb dX11_mend_157 (by decide) ?_
    exact hK85 _ _ _ h hw (lv_sub hl [1, 2, 3, 0] rfl)

theorem wkM_mend_l107 {J : HJ} {x1 : Int32} {x3 : Int32} {K85 : HI → Int32 → Int32 → Prop} {Q : Int32 → HI → Prop} (X : hX p m c s args RX11 cX11_mend 6) (hr : meth.sig.returnType = (some .int)) (hlk : meth.locks = false) (hR : 6 ≤ R.frames ∧ 146 ≤ R.locals)  (hK85 : ∀ (I : HI) (x3 : Int32) (x4 : Int32) {ls : Array Slot} {H : Heap} {locs : List Loc}, K85 I x3 x4 → hW D cA z Ev0 (I, J, T, FM, LM) A s H locs → lv_has ls 6 [(0, .ref (z + 0)), (1, .int x1), (3, .int x3), (4, .int x4)] → W p l e R s m args below meth c H locs 0 0 (MQ below (va_Qi (pI J T FM LM Q) (hB D cA z A) A) args s 0 0 A) (F0 m 85 ls [])) : ∀ (n : Nat) (I : HI) (x5 : Int32) {ls : Array Slot} {H : Heap} {locs : List Loc}, M_mend_l107 x1 x3 K85 Q n I x5 → hW D cA z Ev0 (I, J, T, FM, LM) A s H locs → lv_has ls 6 [(0, .ref (z + 0)), (1, .int x1), (3, .int x3), (5, .int x5)] → W p l e R s m args below meth c H locs 0 0 (MQ below (va_Qi (pI J T FM LM Q) (hB D cA z A) A) args s 0 0 A) (F0 m 107 ls []) := by
  have hx := X.1
  have hb := X.2.1
  intro n
  induction n with
  | zero => intro I x5 ls H locs h; exact False.elim h
  | succ n ih =>
    intro I x5 ls H locs h hw hl
    rw [M_mend_l107] at h
    refine lv_iload hx hb dX11_mend_107 (lv_at hl 3 rfl) ?_
    refine lv_aload_n hx hb dX11_mend_109 rfl (lv_at hl 0 rfl) ?_
    refine hm_geti X hw lkM_7 LM_0 dX11_mend_110 ?_
    refine lv_icmp_ge (tgt := 138) hx hb dX11_mend_113 (by decide) (fun hc => ?_) (fun hc => ?_)
    · have h := Eq.mp (if_pos hc) h
      refine lv_aload_n hx hb dX11_mend_138 rfl (lv_at hl 0 rfl) ?_
      refine hm_geti X hw lkM_431 LM_0 dX11_mend_139 ?_
      refine lv_if_le (tgt := 149) hx hb dX11_mend_142 (by decide) (fun hc => ?_) (fun hc => ?_)
      · have h := Eq.mp (if_pos hc) h
        refine lv_iconst (v := 0) hx hb dX11_mend_149 (by decide) ?_
        exact wkM_mend_b150 X hr hlk hR  hK85 h hw (lv_sub hl [0, 1, 2] rfl)
      · have h := Eq.mp (if_neg hc) h
        refine lv_iconst (v := 1) hx hb dX11_mend_145 (by decide) ?_
        refine lv_goto (tgt := 150) hx hb dX11_mend_146 (by decide) ?_
        exact wkM_mend_b150 X hr hlk hR  hK85 h hw (lv_sub hl [0, 1, 2] rfl)
    · have h := Eq.mp (if_neg hc) h
      refine lv_aload_n hx hb dX11_mend_116 rfl (lv_at hl 0 rfl) ?_
      refine hm_getr X hw lkM_32 LM_0 (b := 4) rfl dX11_mend_117 ?_
      refine lv_iload hx hb dX11_mend_120 (lv_at hl 3 rfl) ?_
      obtain ⟨hi, h⟩ := h
      refine hm_iald X hw LM_4 hi dX11_mend_122 ?_
      refine lv_if_ne (tgt := 132) hx hb dX11_mend_123 (by decide) (fun hc => ?_) (fun hc => ?_)
      · have h := Eq.mp (if_neg hc) h
        refine lv_iinc (v := x5 + 1) (lv' := [(5, _), (0, _), (1, _), (3, _)]) hx hb dX11_mend_132 hl (k := 3) rfl rfl (by decide) rfl (fun ls hl => ?_)
        refine lv_goto (tgt := 107) hx hb dX11_mend_135 (by decide) ?_
        exact ih _ _ h hw (lv_sub hl [1, 2, 3, 0] rfl)
      · have h := Eq.mp (if_pos hc) h
        refine lv_aload_n hx hb dX11_mend_126 rfl (lv_at hl 0 rfl) ?_
        refine lv_iload hx hb dX11_mend_127 (lv_at hl 3 rfl) ?_
        refine hm_callv hw (hm_runV (rest := []) hCl_true X hw (cM_weighs  h) ykM_weighs kw1910 rfl LM_0 rfl hl.1 rfl rfl rfl (Nat.le_of_ble_eq_true rfl) ⟨Nat.le_trans (Nat.le_of_ble_eq_true rfl) hR.1, Nat.le_trans (Nat.le_of_ble_eq_true rfl) hR.2⟩ ⟨Nat.zero_le _, Nat.zero_le _⟩ dX11_mend_129) (fun u9 H locs hp hw => ?_)
        obtain ⟨I8, rfl, h⟩ := hp
        refine lv_iinc (v := x5 + 1) (lv' := [(5, _), (0, _), (1, _), (3, _)]) hx hb dX11_mend_132 hl (k := 3) rfl rfl (by decide) rfl (fun ls hl => ?_)
        refine lv_goto (tgt := 107) hx hb dX11_mend_135 (by decide) ?_
        exact ih _ _ h hw (lv_sub hl [1, 2, 3, 0] rfl)

theorem wkM_mend_l85 {J : HJ} {x1 : Int32} {Q : Int32 → HI → Prop} (X : hX p m c s args RX11 cX11_mend 6) (hr : meth.sig.returnType = (some .int)) (hlk : meth.locks = false) (hR : 6 ≤ R.frames ∧ 146 ≤ R.locals)   : ∀ (n : Nat) (I : HI) (x3 : Int32) (x4 : Int32) {ls : Array Slot} {H : Heap} {locs : List Loc}, M_mend_l85 x1 Q n I x3 x4 → hW D cA z Ev0 (I, J, T, FM, LM) A s H locs → lv_has ls 6 [(0, .ref (z + 0)), (1, .int x1), (3, .int x3), (4, .int x4)] → W p l e R s m args below meth c H locs 0 0 (MQ below (va_Qi (pI J T FM LM Q) (hB D cA z A) A) args s 0 0 A) (F0 m 85 ls []) := by
  have hx := X.1
  have hb := X.2.1
  intro n
  induction n with
  | zero => intro I x3 x4 ls H locs h; exact False.elim h
  | succ n ih =>
    intro I x3 x4 ls H locs h hw hl
    rw [M_mend_l85] at h
    refine lv_iload hx hb dX11_mend_85 (lv_at hl 3 rfl) ?_
    refine lv_if_eq (tgt := 193) hx hb dX11_mend_87 (by decide) (fun hc => ?_) (fun hc => ?_)
    · have h := Eq.mp (if_pos hc) h
      refine lv_iload_n hx hb dX11_mend_193 rfl (lv_at hl 2 rfl) ?_
      exact hm_iret X hr hlk hw ⟨_, rfl, h⟩ dX11_mend_194
    · have h := Eq.mp (if_neg hc) h
      refine lv_iload_n hx hb dX11_mend_90 rfl (lv_at hl 2 rfl) ?_
      refine lv_iload_n hx hb dX11_mend_91 rfl (lv_at hl 1 rfl) ?_
      refine lv_icmp_ge (tgt := 193) hx hb dX11_mend_92 (by decide) (fun hc => ?_) (fun hc => ?_)
      · have h := Eq.mp (if_pos hc) h
        refine lv_iload_n hx hb dX11_mend_193 rfl (lv_at hl 2 rfl) ?_
        exact hm_iret X hr hlk hw ⟨_, rfl, h⟩ dX11_mend_194
      · have h := Eq.mp (if_neg hc) h
        refine lv_aload_n hx hb dX11_mend_95 rfl (lv_at hl 0 rfl) ?_
        refine hm_callv hw (hm_runV (rest := []) hCl_true X hw (cM_worksAll  h) ykM_worksAll kw1725 rfl LM_0 rfl hl.1 rfl rfl rfl (Nat.le_of_ble_eq_true rfl) ⟨Nat.le_trans (Nat.le_of_ble_eq_true rfl) hR.1, Nat.le_trans (Nat.le_of_ble_eq_true rfl) hR.2⟩ ⟨Nat.zero_le _, Nat.zero_le _⟩ dX11_mend_96) (fun u7 H locs hp hw => ?_)
        obtain ⟨I6, rfl, h⟩ := hp
        refine lv_aload_n hx hb dX11_mend_99 rfl (lv_at hl 0 rfl) ?_
        refine lv_iconst (v := 0) hx hb dX11_mend_100 (by decide) ?_
        refine hm_puti X hw lkM_431 LM_0 rfl rfl dX11_mend_101 (fun H locs hw => ?_)
        refine lv_iconst (v := 0) hx hb dX11_mend_104 (by decide) ?_
        refine lv_istore (lv' := [(5, _), (0, _), (1, _), (3, _), (4, _)]) hx hb dX11_mend_105 hl (by decide) rfl (fun ls hl => ?_)
        obtain ⟨n2, h⟩ := h
        exact wkM_mend_l107 X hr hlk hR  ih n2 _ _ h hw (lv_sub hl [1, 2, 3, 0] rfl)

theorem wkM_mend_l26 {I : HI} {J : HJ} {x1 : Int32} {Q : Int32 → HI → Prop} (X : hX p m c s args RX11 cX11_mend 6) (hr : meth.sig.returnType = (some .int)) (hlk : meth.locks = false) (hR : 6 ≤ R.frames ∧ 146 ≤ R.locals)   : ∀ (n : Nat) (x2 : Int32) (x3 : Int32) {ls : Array Slot} {H : Heap} {locs : List Loc}, M_mend_l26 I x1 Q n x2 x3 → hW D cA z Ev0 (I, J, T, FM, LM) A s H locs → lv_has ls 6 [(0, .ref (z + 0)), (1, .int x1), (2, .int x2), (3, .int x3)] → W p l e R s m args below meth c H locs 0 0 (MQ below (va_Qi (pI J T FM LM Q) (hB D cA z A) A) args s 0 0 A) (F0 m 26 ls []) := by
  have hx := X.1
  have hb := X.2.1
  intro n
  induction n with
  | zero => intro x2 x3 ls H locs h; exact False.elim h
  | succ n ih =>
    intro x2 x3 ls H locs h hw hl
    rw [M_mend_l26] at h
    refine lv_iload_n hx hb dX11_mend_26 rfl (lv_at hl 3 rfl) ?_
    refine lv_aload_n hx hb dX11_mend_27 rfl (lv_at hl 0 rfl) ?_
    refine hm_geti X hw lkM_7 LM_0 dX11_mend_28 ?_
    refine lv_icmp_ge (tgt := 61) hx hb dX11_mend_31 (by decide) (fun hc => ?_) (fun hc => ?_)
    · have h := Eq.mp (if_pos hc) h
      refine lv_iload_n hx hb dX11_mend_61 rfl (lv_at hl 2 rfl) ?_
      refine lv_sipush (v := 256) hx hb dX11_mend_62 (by decide) ?_
      refine lv_icmp_gt (tgt := 78) hx hb dX11_mend_65 (by decide) (fun hc => ?_) (fun hc => ?_)
      · have h := Eq.mp (if_pos hc) h
        refine lv_iconst (v := (-1)) hx hb dX11_mend_78 (by decide) ?_
        exact hm_iret X hr hlk hw ⟨_, rfl, h⟩ dX11_mend_79
      · have h := Eq.mp (if_neg hc) h
        refine lv_aload_n hx hb dX11_mend_68 rfl (lv_at hl 0 rfl) ?_
        refine hm_geti X hw lkM_16 LM_0 dX11_mend_69 ?_
        refine lv_sipush (v := 256) hx hb dX11_mend_72 (by decide) ?_
        refine lv_icmp_le (tgt := 80) hx hb dX11_mend_75 (by decide) (fun hc => ?_) (fun hc => ?_)
        · have h := Eq.mp (if_pos hc) h
          refine lv_iconst (v := 0) hx hb dX11_mend_80 (by decide) ?_
          refine lv_istore_n (lv' := [(3, _), (0, _), (1, _), (2, _)]) hx hb dX11_mend_81 rfl hl (by decide) rfl (fun ls hl => ?_)
          refine lv_iconst (v := 1) hx hb dX11_mend_82 (by decide) ?_
          refine lv_istore (lv' := [(4, _), (3, _), (0, _), (1, _), (2, _)]) hx hb dX11_mend_83 hl (by decide) rfl (fun ls hl => ?_)
          obtain ⟨n2, h⟩ := h
          exact wkM_mend_l85 X hr hlk hR   n2 _ _ _ h hw (lv_sub hl [2, 3, 1, 0] rfl)
        · have h := Eq.mp (if_neg hc) h
          refine lv_iconst (v := (-1)) hx hb dX11_mend_78 (by decide) ?_
          exact hm_iret X hr hlk hw ⟨_, rfl, h⟩ dX11_mend_79
    · have h := Eq.mp (if_neg hc) h
      refine lv_iload_n hx hb dX11_mend_34 rfl (lv_at hl 2 rfl) ?_
      refine lv_aload_n hx hb dX11_mend_35 rfl (lv_at hl 0 rfl) ?_
      refine hm_getr X hw lkM_32 LM_0 (b := 4) rfl dX11_mend_36 ?_
      refine lv_iload_n hx hb dX11_mend_39 rfl (lv_at hl 3 rfl) ?_
      obtain ⟨hi, h⟩ := h
      refine hm_iald X hw LM_4 hi dX11_mend_40 ?_
      refine lv_if_ne (tgt := 52) hx hb dX11_mend_41 (by decide) (fun hc => ?_) (fun hc => ?_)
      · have h := Eq.mp (if_neg hc) h
        refine lv_iconst (v := 0) hx hb dX11_mend_52 (by decide) ?_
        refine lv_iadd hx hb dX11_mend_53 ?_
        refine lv_istore_n (lv' := [(2, _), (0, _), (1, _), (3, _)]) hx hb dX11_mend_54 rfl hl (by decide) rfl (fun ls hl => ?_)
        refine lv_iinc (v := x3 + 1) (lv' := [(3, _), (2, _), (0, _), (1, _)]) hx hb dX11_mend_55 hl (k := 3) rfl rfl (by decide) rfl (fun ls hl => ?_)
        refine lv_goto (tgt := 26) hx hb dX11_mend_58 (by decide) ?_
        exact ih _ _ h hw (lv_sub hl [2, 3, 1, 0] rfl)
      · have h := Eq.mp (if_pos hc) h
        refine lv_aload_n hx hb dX11_mend_44 rfl (lv_at hl 0 rfl) ?_
        refine lv_iload_n hx hb dX11_mend_45 rfl (lv_at hl 3 rfl) ?_
        refine hm_calli hw (hm_runV (rest := [_]) hCl_true X hw (cM_viewsOf  h) ykM_viewsOf kw1338 rfl LM_0 rfl hl.1 rfl rfl rfl (Nat.le_of_ble_eq_true rfl) ⟨Nat.le_trans (Nat.le_of_ble_eq_true rfl) hR.1, Nat.le_trans (Nat.le_of_ble_eq_true rfl) hR.2⟩ ⟨Nat.zero_le _, Nat.zero_le _⟩ dX11_mend_46) (fun r10 u11 H locs hp hw => ?_)
        obtain ⟨rfl, h⟩ := hp
        refine lv_goto (tgt := 53) hx hb dX11_mend_49 (by decide) ?_
        refine lv_iadd hx hb dX11_mend_53 ?_
        refine lv_istore_n (lv' := [(2, _), (0, _), (1, _), (3, _)]) hx hb dX11_mend_54 rfl hl (by decide) rfl (fun ls hl => ?_)
        refine lv_iinc (v := x3 + 1) (lv' := [(3, _), (2, _), (0, _), (1, _)]) hx hb dX11_mend_55 hl (k := 3) rfl rfl (by decide) rfl (fun ls hl => ?_)
        refine lv_goto (tgt := 26) hx hb dX11_mend_58 (by decide) ?_
        exact ih _ _ h hw (lv_sub hl [2, 3, 1, 0] rfl)

theorem cM_mend {l : Launch} {D : va_G} {cA : Nat → ClassId} {z sz : Nat} {I : HI} {J : HJ} {x1 : Int32} {Q : Int32 → HI → Prop}  (h : M_mend I x1 Q) : Met l yX11_mend (hws0 yX11_mend cX11_mend 6 (some .int)) { frames := 6, cells := 0, slots := 0, locals := 146 } (hPc D cA z Ev0 (I, J, T, FM, LM) sz [.ref (z + 0), .int x1]) (va_Qi (pI J T FM LM Q) (hB D cA z (hA z LM sz)) (hA z LM sz)) 0 0 (hA z LM sz) := by
  refine hm_met (I, J, T, FM, LM) [.ref (z + 0), .int x1] rfl (by decide) (Nat.le_of_ble_eq_true rfl) ?_
  intro p e s m below meth c ls X hr hlk hnm hxt hsz hw hl
  have hl : lv_has ls 6 [(0, .ref (z + 0)), (1, .int x1)] := hl
  have hR : 6 ≤ ({ frames := 6, cells := 0, slots := 0, locals := 146 } : Room).frames ∧ 146 ≤ ({ frames := 6, cells := 0, slots := 0, locals := 146 } : Room).locals := ⟨Nat.le_refl _, Nat.le_refl _⟩
  generalize ({ frames := 6, cells := 0, slots := 0, locals := 146 } : Room) = R at hR ⊢
  clear hsz
  generalize (hA z LM sz) = A at hw ⊢
  have hx := X.1
  have hb := X.2.1
  unfold M_mend at h
  refine lv_aload_n hx hb dX11_mend_0 rfl (lv_at hl 0 rfl) ?_
  refine lv_iconst (v := 0) hx hb dX11_mend_1 (by decide) ?_
  refine hm_puti X hw lkM_174 LM_0 rfl rfl dX11_mend_2 (fun H locs hw => ?_)
  refine lv_aload_n hx hb dX11_mend_5 rfl (lv_at hl 0 rfl) ?_
  refine lv_iload_n hx hb dX11_mend_6 rfl (lv_at hl 1 rfl) ?_
  refine lv_iconst (v := 0) hx hb dX11_mend_7 (by decide) ?_
  refine lv_bipush (v := 20) hx hb dX11_mend_8 (by decide) ?_
  refine hm_calli hw (hm_runS (rest := [_]) hCl_true X hw (cM_within  h) ykM_within kw1583 rfl hl.1 rfl rfl rfl (Nat.le_of_ble_eq_true rfl) ⟨Nat.le_trans (Nat.le_of_ble_eq_true rfl) hR.1, Nat.le_trans (Nat.le_of_ble_eq_true rfl) hR.2⟩ ⟨Nat.zero_le _, Nat.zero_le _⟩ dX11_mend_10) (fun r1 u2 H locs hp hw => ?_)
  obtain ⟨rfl, h⟩ := hp
  refine lv_iconst (v := 1) hx hb dX11_mend_13 (by decide) ?_
  refine hm_calli hw (hm_runV (rest := []) hCl_true X hw (cM_right  h) ykM_right kw1594 rfl LM_0 rfl hl.1 rfl rfl rfl (Nat.le_of_ble_eq_true rfl) ⟨Nat.le_trans (Nat.le_of_ble_eq_true rfl) hR.1, Nat.le_trans (Nat.le_of_ble_eq_true rfl) hR.2⟩ ⟨Nat.zero_le _, Nat.zero_le _⟩ dX11_mend_14) (fun r3 u5 H locs hp hw => ?_)
  obtain ⟨I4, rfl, h⟩ := hp
  refine lv_if_ne (tgt := 22) hx hb dX11_mend_17 (by decide) (fun hc => ?_) (fun hc => ?_)
  · have h := Eq.mp (if_neg hc) h
    refine lv_iconst (v := 0) hx hb dX11_mend_22 (by decide) ?_
    refine lv_istore_n (lv' := [(2, _), (0, _), (1, _)]) hx hb dX11_mend_23 rfl hl (by decide) rfl (fun ls hl => ?_)
    refine lv_iconst (v := 0) hx hb dX11_mend_24 (by decide) ?_
    refine lv_istore_n (lv' := [(3, _), (2, _), (0, _), (1, _)]) hx hb dX11_mend_25 rfl hl (by decide) rfl (fun ls hl => ?_)
    obtain ⟨n2, h⟩ := h
    exact wkM_mend_l26 X hr hlk hR   n2 _ _ h hw (lv_sub hl [2, 3, 1, 0] rfl)
  · have h := Eq.mp (if_pos hc) h
    refine lv_iconst (v := 0) hx hb dX11_mend_20 (by decide) ?_
    exact hm_iret X hr hlk hw ⟨_, rfl, h⟩ dX11_mend_21

theorem wkM_draw_l24 {J : HJ} {x4 : Int32} {K12 : HI → Int32 → Int32 → Int32 → Prop} {Q : Int32 → HI → Prop} (X : hX p m c s args RX11 cX11_draw 6) (hr : meth.sig.returnType = (some .int)) (hlk : meth.locks = false) (hR : 2 ≤ R.frames ∧ 46 ≤ R.locals)  (hK12 : ∀ (I : HI) (x2 : Int32) (x3 : Int32) (x4 : Int32) {ls : Array Slot} {H : Heap} {locs : List Loc}, K12 I x2 x3 x4 → hW D cA z Ev0 (I, J, T, FM, LM) A s H locs → lv_has ls 6 [(0, .ref (z + 0)), (2, .int x2), (3, .int x3), (4, .int x4)] → W p l e R s m args below meth c H locs 0 0 (MQ below (va_Qi (pI J T FM LM Q) (hB D cA z A) A) args s 0 0 A) (F0 m 12 ls [])) : ∀ (n : Nat) (I : HI) (x2 : Int32) (x3 : Int32) (x5 : Int32) {ls : Array Slot} {H : Heap} {locs : List Loc}, M_draw_l24 x4 K12 Q n I x2 x3 x5 → hW D cA z Ev0 (I, J, T, FM, LM) A s H locs → lv_has ls 6 [(0, .ref (z + 0)), (2, .int x2), (3, .int x3), (4, .int x4), (5, .int x5)] → W p l e R s m args below meth c H locs 0 0 (MQ below (va_Qi (pI J T FM LM Q) (hB D cA z A) A) args s 0 0 A) (F0 m 24 ls []) := by
  have hx := X.1
  have hb := X.2.1
  intro n
  induction n with
  | zero => intro I x2 x3 x5 ls H locs h; exact False.elim h
  | succ n ih =>
    intro I x2 x3 x5 ls H locs h hw hl
    rw [M_draw_l24] at h
    refine lv_aload_n hx hb dX11_draw_24 rfl (lv_at hl 0 rfl) ?_
    refine hm_getr X hw lkM_32 LM_0 (b := 4) rfl dX11_draw_25 ?_
    refine lv_iload hx hb dX11_draw_28 (lv_at hl 3 rfl) ?_
    obtain ⟨hi, h⟩ := h
    refine hm_iald X hw LM_4 hi dX11_draw_30 ?_
    refine lv_if_ne (tgt := 91) hx hb dX11_draw_31 (by decide) (fun hc => ?_) (fun hc => ?_)
    · have h := Eq.mp (if_neg hc) h
      refine lv_iinc (v := x4 + 1) (lv' := [(4, _), (0, _), (2, _), (3, _), (5, _)]) hx hb dX11_draw_91 hl (k := 3) rfl rfl (by decide) rfl (fun ls hl => ?_)
      refine lv_goto (tgt := 12) hx hb dX11_draw_94 (by decide) ?_
      exact hK12 _ _ _ _ h hw (lv_sub hl [1, 2, 3, 0] rfl)
    · have h := Eq.mp (if_pos hc) h
      refine lv_iload hx hb dX11_draw_34 (lv_at hl 4 rfl) ?_
      refine lv_aload_n hx hb dX11_draw_36 rfl (lv_at hl 0 rfl) ?_
      refine lv_iload hx hb dX11_draw_37 (lv_at hl 3 rfl) ?_
      refine hm_calli hw (hm_runV (rest := [_]) hCl_true X hw (cM_viewsOf  h) ykM_viewsOf kw1338 rfl LM_0 rfl hl.1 rfl rfl rfl (Nat.le_of_ble_eq_true rfl) ⟨Nat.le_trans (Nat.le_of_ble_eq_true rfl) hR.1, Nat.le_trans (Nat.le_of_ble_eq_true rfl) hR.2⟩ ⟨Nat.zero_le _, Nat.zero_le _⟩ dX11_draw_39) (fun r1 u2 H locs hp hw => ?_)
      obtain ⟨rfl, h⟩ := hp
      refine lv_icmp_ge (tgt := 91) hx hb dX11_draw_42 (by decide) (fun hc => ?_) (fun hc => ?_)
      · have h := Eq.mp (if_pos hc) h
        refine lv_iinc (v := x4 + 1) (lv' := [(4, _), (0, _), (2, _), (3, _), (5, _)]) hx hb dX11_draw_91 hl (k := 3) rfl rfl (by decide) rfl (fun ls hl => ?_)
        refine lv_goto (tgt := 12) hx hb dX11_draw_94 (by decide) ?_
        exact hK12 _ _ _ _ h hw (lv_sub hl [1, 2, 3, 0] rfl)
      · have h := Eq.mp (if_neg hc) h
        refine lv_iload_n hx hb dX11_draw_45 rfl (lv_at hl 1 rfl) ?_
        refine lv_ldcw (v := 1103515245) hx hb X.2.2.2.1 (X.2.2.2.2 _ kw1922) dX11_draw_46 ?_
        refine lv_imul hx hb dX11_draw_49 ?_
        refine lv_sipush (v := 12345) hx hb dX11_draw_50 (by decide) ?_
        refine lv_iadd hx hb dX11_draw_53 ?_
        refine lv_istore_n (lv' := [(2, _), (0, _), (3, _), (4, _), (5, _)]) hx hb dX11_draw_54 rfl hl (by decide) rfl (fun ls hl => ?_)
        refine lv_aload_n hx hb dX11_draw_55 rfl (lv_at hl 1 rfl) ?_
        refine hm_getr X hw lkM_35 LM_0 (b := 5) rfl dX11_draw_56 ?_
        refine lv_sipush (v := 1024) hx hb dX11_draw_59 (by decide) ?_
        refine lv_iload hx hb dX11_draw_62 (lv_at hl 3 rfl) ?_
        refine lv_imul hx hb dX11_draw_64 ?_
        refine lv_iload hx hb dX11_draw_65 (lv_at hl 4 rfl) ?_
        refine lv_iadd hx hb dX11_draw_67 ?_
        refine lv_iload_n hx hb dX11_draw_68 rfl (lv_at hl 0 rfl) ?_
        refine lv_bipush (v := 16) hx hb dX11_draw_69 (by decide) ?_
        refine lv_ishr hx hb dX11_draw_71 ?_
        refine lv_sipush (v := 32767) hx hb dX11_draw_72 (by decide) ?_
        refine lv_iand hx hb dX11_draw_75 ?_
        refine lv_aload_n hx hb dX11_draw_76 rfl (lv_at hl 1 rfl) ?_
        refine hm_geti X hw lkM_13 LM_0 dX11_draw_77 ?_
        obtain ⟨hi, h⟩ := h
        refine hm_irem hx hb dX11_draw_80 hi ?_
        obtain ⟨hi, h⟩ := h
        refine hm_iast X hw LM_5 hi dX11_draw_81 (fun H locs hw => ?_)
        refine lv_iinc (v := x3 + 1) (lv' := [(3, _), (2, _), (0, _), (4, _), (5, _)]) hx hb dX11_draw_82 hl (k := 2) rfl rfl (by decide) rfl (fun ls hl => ?_)
        refine lv_iinc (v := x5 + 1) (lv' := [(5, _), (3, _), (2, _), (0, _), (4, _)]) hx hb dX11_draw_85 hl (k := 4) rfl rfl (by decide) rfl (fun ls hl => ?_)
        refine lv_goto (tgt := 24) hx hb dX11_draw_88 (by decide) ?_
        exact ih _ _ _ _ h hw (lv_sub hl [3, 2, 1, 4, 0] rfl)

theorem wkM_draw_l12 {J : HJ} {Q : Int32 → HI → Prop} (X : hX p m c s args RX11 cX11_draw 6) (hr : meth.sig.returnType = (some .int)) (hlk : meth.locks = false) (hR : 2 ≤ R.frames ∧ 46 ≤ R.locals)   : ∀ (n : Nat) (I : HI) (x2 : Int32) (x3 : Int32) (x4 : Int32) {ls : Array Slot} {H : Heap} {locs : List Loc}, M_draw_l12 Q n I x2 x3 x4 → hW D cA z Ev0 (I, J, T, FM, LM) A s H locs → lv_has ls 6 [(0, .ref (z + 0)), (2, .int x2), (3, .int x3), (4, .int x4)] → W p l e R s m args below meth c H locs 0 0 (MQ below (va_Qi (pI J T FM LM Q) (hB D cA z A) A) args s 0 0 A) (F0 m 12 ls []) := by
  have hx := X.1
  have hb := X.2.1
  intro n
  induction n with
  | zero => intro I x2 x3 x4 ls H locs h; exact False.elim h
  | succ n ih =>
    intro I x2 x3 x4 ls H locs h hw hl
    rw [M_draw_l12] at h
    refine lv_iload hx hb dX11_draw_12 (lv_at hl 3 rfl) ?_
    refine lv_aload_n hx hb dX11_draw_14 rfl (lv_at hl 0 rfl) ?_
    refine hm_geti X hw lkM_7 LM_0 dX11_draw_15 ?_
    refine lv_icmp_ge (tgt := 97) hx hb dX11_draw_18 (by decide) (fun hc => ?_) (fun hc => ?_)
    · have h := Eq.mp (if_pos hc) h
      refine lv_aload_n hx hb dX11_draw_97 rfl (lv_at hl 0 rfl) ?_
      refine lv_iconst (v := 0) hx hb dX11_draw_98 (by decide) ?_
      refine hm_puti X hw lkM_195 LM_0 rfl rfl dX11_draw_99 (fun H locs hw => ?_)
      refine lv_iload_n hx hb dX11_draw_102 rfl (lv_at hl 2 rfl) ?_
      exact hm_iret X hr hlk hw ⟨_, rfl, h⟩ dX11_draw_103
    · have h := Eq.mp (if_neg hc) h
      refine lv_iconst (v := 0) hx hb dX11_draw_21 (by decide) ?_
      refine lv_istore (lv' := [(5, _), (0, _), (2, _), (3, _), (4, _)]) hx hb dX11_draw_22 hl (by decide) rfl (fun ls hl => ?_)
      obtain ⟨n2, h⟩ := h
      exact wkM_draw_l24 X hr hlk hR  ih n2 _ _ _ _ h hw (lv_sub hl [1, 2, 3, 4, 0] rfl)

theorem cM_draw {l : Launch} {D : va_G} {cA : Nat → ClassId} {z sz : Nat} {I : HI} {J : HJ} {x1 : Int32} {Q : Int32 → HI → Prop}  (h : M_draw I x1 Q) : Met l yX11_draw (hws0 yX11_draw cX11_draw 6 (some .int)) { frames := 2, cells := 0, slots := 0, locals := 46 } (hPc D cA z Ev0 (I, J, T, FM, LM) sz [.ref (z + 0), .int x1]) (va_Qi (pI J T FM LM Q) (hB D cA z (hA z LM sz)) (hA z LM sz)) 0 0 (hA z LM sz) := by
  refine hm_met (I, J, T, FM, LM) [.ref (z + 0), .int x1] rfl (by decide) (Nat.le_of_ble_eq_true rfl) ?_
  intro p e s m below meth c ls X hr hlk hnm hxt hsz hw hl
  have hl : lv_has ls 6 [(0, .ref (z + 0)), (1, .int x1)] := hl
  have hR : 2 ≤ ({ frames := 2, cells := 0, slots := 0, locals := 46 } : Room).frames ∧ 46 ≤ ({ frames := 2, cells := 0, slots := 0, locals := 46 } : Room).locals := ⟨Nat.le_refl _, Nat.le_refl _⟩
  generalize ({ frames := 2, cells := 0, slots := 0, locals := 46 } : Room) = R at hR ⊢
  clear hsz
  generalize (hA z LM sz) = A at hw ⊢
  have hx := X.1
  have hb := X.2.1
  unfold M_draw at h
  refine lv_aload_n hx hb dX11_draw_0 rfl (lv_at hl 0 rfl) ?_
  refine lv_iconst (v := 0) hx hb dX11_draw_1 (by decide) ?_
  refine hm_puti X hw lkM_174 LM_0 rfl rfl dX11_draw_2 (fun H locs hw => ?_)
  refine lv_iload_n hx hb dX11_draw_5 rfl (lv_at hl 1 rfl) ?_
  refine lv_istore_n (lv' := [(2, _), (0, _), (1, _)]) hx hb dX11_draw_6 rfl hl (by decide) rfl (fun ls hl => ?_)
  refine lv_iconst (v := 0) hx hb dX11_draw_7 (by decide) ?_
  refine lv_istore_n (lv' := [(3, _), (2, _), (0, _), (1, _)]) hx hb dX11_draw_8 rfl hl (by decide) rfl (fun ls hl => ?_)
  refine lv_iconst (v := 0) hx hb dX11_draw_9 (by decide) ?_
  refine lv_istore (lv' := [(4, _), (3, _), (2, _), (0, _), (1, _)]) hx hb dX11_draw_10 hl (by decide) rfl (fun ls hl => ?_)
  obtain ⟨n2, h⟩ := h
  exact wkM_draw_l12 X hr hlk hR   n2 _ _ _ _ h hw (lv_sub hl [3, 2, 1, 0] rfl)

theorem wkM_keep_l170 {J : HJ} {x1 : Int32} {Q : Int32 → HI → Prop} (X : hX p m c s args RX11 cX11_keep 3) (hr : meth.sig.returnType = (some .boolean)) (hlk : meth.locks = false) (hR : 1 ≤ R.frames ∧ 22 ≤ R.locals)   : ∀ (n : Nat) (I : HI) (x2 : Int32) {ls : Array Slot} {H : Heap} {locs : List Loc}, M_keep_l170 x1 Q n I x2 → hW D cA z Ev0 (I, J, T, FM, LM) A s H locs → lv_has ls 3 [(0, .ref (z + 0)), (1, .int x1), (2, .int x2)] → W p l e R s m args below meth c H locs 0 0 (MQ below (va_Qi (pI J T FM LM Q) (hB D cA z A) A) args s 0 0 A) (F0 m 170 ls []) := by
  have hx := X.1
  have hb := X.2.1
  intro n
  induction n with
  | zero => intro I x2 ls H locs h; exact False.elim h
  | succ n ih =>
    intro I x2 ls H locs h hw hl
    rw [M_keep_l170] at h
    refine lv_iload_n hx hb dX11_keep_170 rfl (lv_at hl 2 rfl) ?_
    refine lv_sipush (v := 8000) hx hb dX11_keep_171 (by decide) ?_
    refine lv_icmp_ge (tgt := 201) hx hb dX11_keep_174 (by decide) (fun hc => ?_) (fun hc => ?_)
    · have h := Eq.mp (if_pos hc) h
      refine lv_iconst (v := 1) hx hb dX11_keep_201 (by decide) ?_
      exact hm_zret X hr hlk hw zb_1 ⟨_, rfl, h⟩ dX11_keep_202
    · have h := Eq.mp (if_neg hc) h
      refine lv_aload_n hx hb dX11_keep_177 rfl (lv_at hl 0 rfl) ?_
      refine hm_getr X hw lkM_161 LM_0 (b := 44) rfl dX11_keep_178 ?_
      refine lv_sipush (v := 8000) hx hb dX11_keep_181 (by decide) ?_
      refine lv_iload_n hx hb dX11_keep_184 rfl (lv_at hl 1 rfl) ?_
      refine lv_imul hx hb dX11_keep_185 ?_
      refine lv_iload_n hx hb dX11_keep_186 rfl (lv_at hl 2 rfl) ?_
      refine lv_iadd hx hb dX11_keep_187 ?_
      refine lv_aload_n hx hb dX11_keep_188 rfl (lv_at hl 0 rfl) ?_
      refine hm_getr X hw lkM_38 LM_0 (b := 6) rfl dX11_keep_189 ?_
      refine lv_iload_n hx hb dX11_keep_192 rfl (lv_at hl 2 rfl) ?_
      obtain ⟨hi, h⟩ := h
      refine hm_iald X hw LM_6 hi dX11_keep_193 ?_
      obtain ⟨hi, h⟩ := h
      refine hm_iast X hw LM_44 hi dX11_keep_194 (fun H locs hw => ?_)
      refine lv_iinc (v := x2 + 1) (lv' := [(2, _), (0, _), (1, _)]) hx hb dX11_keep_195 hl (k := 2) rfl rfl (by decide) rfl (fun ls hl => ?_)
      refine lv_goto (tgt := 170) hx hb dX11_keep_198 (by decide) ?_
      exact ih _ _ h hw (lv_sub hl [1, 2, 0] rfl)

theorem wkM_keep_l137 {J : HJ} {x1 : Int32} {Q : Int32 → HI → Prop} (X : hX p m c s args RX11 cX11_keep 3) (hr : meth.sig.returnType = (some .boolean)) (hlk : meth.locks = false) (hR : 1 ≤ R.frames ∧ 22 ≤ R.locals)   : ∀ (n : Nat) (I : HI) (x2 : Int32) {ls : Array Slot} {H : Heap} {locs : List Loc}, M_keep_l137 x1 Q n I x2 → hW D cA z Ev0 (I, J, T, FM, LM) A s H locs → lv_has ls 3 [(0, .ref (z + 0)), (1, .int x1), (2, .int x2)] → W p l e R s m args below meth c H locs 0 0 (MQ below (va_Qi (pI J T FM LM Q) (hB D cA z A) A) args s 0 0 A) (F0 m 137 ls []) := by
  have hx := X.1
  have hb := X.2.1
  intro n
  induction n with
  | zero => intro I x2 ls H locs h; exact False.elim h
  | succ n ih =>
    intro I x2 ls H locs h hw hl
    rw [M_keep_l137] at h
    refine lv_iload_n hx hb dX11_keep_137 rfl (lv_at hl 2 rfl) ?_
    refine lv_sipush (v := 8192) hx hb dX11_keep_138 (by decide) ?_
    refine lv_icmp_ge (tgt := 168) hx hb dX11_keep_141 (by decide) (fun hc => ?_) (fun hc => ?_)
    · have h := Eq.mp (if_pos hc) h
      refine lv_iconst (v := 0) hx hb dX11_keep_168 (by decide) ?_
      refine lv_istore_n (lv' := [(2, _), (0, _), (1, _)]) hx hb dX11_keep_169 rfl hl (by decide) rfl (fun ls hl => ?_)
      obtain ⟨n2, h⟩ := h
      exact wkM_keep_l170 X hr hlk hR   n2 _ _ h hw (lv_sub hl [1, 2, 0] rfl)
    · have h := Eq.mp (if_neg hc) h
      refine lv_aload_n hx hb dX11_keep_144 rfl (lv_at hl 0 rfl) ?_
      refine hm_getr X hw lkM_158 LM_0 (b := 43) rfl dX11_keep_145 ?_
      refine lv_sipush (v := 8192) hx hb dX11_keep_148 (by decide) ?_
      refine lv_iload_n hx hb dX11_keep_151 rfl (lv_at hl 1 rfl) ?_
      refine lv_imul hx hb dX11_keep_152 ?_
      refine lv_iload_n hx hb dX11_keep_153 rfl (lv_at hl 2 rfl) ?_
      refine lv_iadd hx hb dX11_keep_154 ?_
      refine lv_aload_n hx hb dX11_keep_155 rfl (lv_at hl 0 rfl) ?_
      refine hm_getr X hw lkM_35 LM_0 (b := 5) rfl dX11_keep_156 ?_
      refine lv_iload_n hx hb dX11_keep_159 rfl (lv_at hl 2 rfl) ?_
      obtain ⟨hi, h⟩ := h
      refine hm_iald X hw LM_5 hi dX11_keep_160 ?_
      obtain ⟨hi, h⟩ := h
      refine hm_iast X hw LM_43 hi dX11_keep_161 (fun H locs hw => ?_)
      refine lv_iinc (v := x2 + 1) (lv' := [(2, _), (0, _), (1, _)]) hx hb dX11_keep_162 hl (k := 2) rfl rfl (by decide) rfl (fun ls hl => ?_)
      refine lv_goto (tgt := 137) hx hb dX11_keep_165 (by decide) ?_
      exact ih _ _ h hw (lv_sub hl [1, 2, 0] rfl)

theorem wkM_keep_l38 {J : HJ} {x1 : Int32} {Q : Int32 → HI → Prop} (X : hX p m c s args RX11 cX11_keep 3) (hr : meth.sig.returnType = (some .boolean)) (hlk : meth.locks = false) (hR : 1 ≤ R.frames ∧ 22 ≤ R.locals)   : ∀ (n : Nat) (I : HI) (x2 : Int32) {ls : Array Slot} {H : Heap} {locs : List Loc}, M_keep_l38 x1 Q n I x2 → hW D cA z Ev0 (I, J, T, FM, LM) A s H locs → lv_has ls 3 [(0, .ref (z + 0)), (1, .int x1), (2, .int x2)] → W p l e R s m args below meth c H locs 0 0 (MQ below (va_Qi (pI J T FM LM Q) (hB D cA z A) A) args s 0 0 A) (F0 m 38 ls []) := by
  have hx := X.1
  have hb := X.2.1
  intro n
  induction n with
  | zero => intro I x2 ls H locs h; exact False.elim h
  | succ n ih =>
    intro I x2 ls H locs h hw hl
    rw [M_keep_l38] at h
    refine lv_iload_n hx hb dX11_keep_38 rfl (lv_at hl 2 rfl) ?_
    refine lv_bipush (v := 8) hx hb dX11_keep_39 (by decide) ?_
    refine lv_icmp_ge (tgt := 135) hx hb dX11_keep_41 (by decide) (fun hc => ?_) (fun hc => ?_)
    · have h := Eq.mp (if_pos hc) h
      refine lv_iconst (v := 0) hx hb dX11_keep_135 (by decide) ?_
      refine lv_istore_n (lv' := [(2, _), (0, _), (1, _)]) hx hb dX11_keep_136 rfl hl (by decide) rfl (fun ls hl => ?_)
      obtain ⟨n2, h⟩ := h
      exact wkM_keep_l137 X hr hlk hR   n2 _ _ h hw (lv_sub hl [1, 2, 0] rfl)
    · have h := Eq.mp (if_neg hc) h
      refine lv_aload_n hx hb dX11_keep_44 rfl (lv_at hl 0 rfl) ?_
      refine hm_getr X hw lkM_148 LM_0 (b := 40) rfl dX11_keep_45 ?_
      refine lv_bipush (v := 8) hx hb dX11_keep_48 (by decide) ?_
      refine lv_iload_n hx hb dX11_keep_50 rfl (lv_at hl 1 rfl) ?_
      refine lv_imul hx hb dX11_keep_51 ?_
      refine lv_iload_n hx hb dX11_keep_52 rfl (lv_at hl 2 rfl) ?_
      refine lv_iadd hx hb dX11_keep_53 ?_
      refine lv_aload_n hx hb dX11_keep_54 rfl (lv_at hl 0 rfl) ?_
      refine hm_getr X hw lkM_26 LM_0 (b := 2) rfl dX11_keep_55 ?_
      refine lv_iload_n hx hb dX11_keep_58 rfl (lv_at hl 2 rfl) ?_
      obtain ⟨hi, h⟩ := h
      refine hm_iald X hw LM_2 hi dX11_keep_59 ?_
      obtain ⟨hi, h⟩ := h
      refine hm_iast X hw LM_40 hi dX11_keep_60 (fun H locs hw => ?_)
      refine lv_aload_n hx hb dX11_keep_61 rfl (lv_at hl 0 rfl) ?_
      refine hm_getr X hw lkM_151 LM_0 (b := 41) rfl dX11_keep_62 ?_
      refine lv_bipush (v := 8) hx hb dX11_keep_65 (by decide) ?_
      refine lv_iload_n hx hb dX11_keep_67 rfl (lv_at hl 1 rfl) ?_
      refine lv_imul hx hb dX11_keep_68 ?_
      refine lv_iload_n hx hb dX11_keep_69 rfl (lv_at hl 2 rfl) ?_
      refine lv_iadd hx hb dX11_keep_70 ?_
      refine lv_aload_n hx hb dX11_keep_71 rfl (lv_at hl 0 rfl) ?_
      refine hm_getr X hw lkM_29 LM_0 (b := 3) rfl dX11_keep_72 ?_
      refine lv_iload_n hx hb dX11_keep_75 rfl (lv_at hl 2 rfl) ?_
      obtain ⟨hi, h⟩ := h
      refine hm_iald X hw LM_3 hi dX11_keep_76 ?_
      obtain ⟨hi, h⟩ := h
      refine hm_iast X hw LM_41 hi dX11_keep_77 (fun H locs hw => ?_)
      refine lv_aload_n hx hb dX11_keep_78 rfl (lv_at hl 0 rfl) ?_
      refine hm_getr X hw lkM_154 LM_0 (b := 42) rfl dX11_keep_79 ?_
      refine lv_bipush (v := 8) hx hb dX11_keep_82 (by decide) ?_
      refine lv_iload_n hx hb dX11_keep_84 rfl (lv_at hl 1 rfl) ?_
      refine lv_imul hx hb dX11_keep_85 ?_
      refine lv_iload_n hx hb dX11_keep_86 rfl (lv_at hl 2 rfl) ?_
      refine lv_iadd hx hb dX11_keep_87 ?_
      refine lv_aload_n hx hb dX11_keep_88 rfl (lv_at hl 0 rfl) ?_
      refine hm_getr X hw lkM_32 LM_0 (b := 4) rfl dX11_keep_89 ?_
      refine lv_iload_n hx hb dX11_keep_92 rfl (lv_at hl 2 rfl) ?_
      obtain ⟨hi, h⟩ := h
      refine hm_iald X hw LM_4 hi dX11_keep_93 ?_
      obtain ⟨hi, h⟩ := h
      refine hm_iast X hw LM_42 hi dX11_keep_94 (fun H locs hw => ?_)
      refine lv_aload_n hx hb dX11_keep_95 rfl (lv_at hl 0 rfl) ?_
      refine hm_getr X hw lkM_164 LM_0 (b := 45) rfl dX11_keep_96 ?_
      refine lv_bipush (v := 8) hx hb dX11_keep_99 (by decide) ?_
      refine lv_iload_n hx hb dX11_keep_101 rfl (lv_at hl 1 rfl) ?_
      refine lv_imul hx hb dX11_keep_102 ?_
      refine lv_iload_n hx hb dX11_keep_103 rfl (lv_at hl 2 rfl) ?_
      refine lv_iadd hx hb dX11_keep_104 ?_
      refine lv_aload_n hx hb dX11_keep_105 rfl (lv_at hl 0 rfl) ?_
      refine hm_getr X hw lkM_41 LM_0 (b := 7) rfl dX11_keep_106 ?_
      refine lv_iload_n hx hb dX11_keep_109 rfl (lv_at hl 2 rfl) ?_
      obtain ⟨hi, h⟩ := h
      refine hm_iald X hw LM_7 hi dX11_keep_110 ?_
      obtain ⟨hi, h⟩ := h
      refine hm_iast X hw LM_45 hi dX11_keep_111 (fun H locs hw => ?_)
      refine lv_aload_n hx hb dX11_keep_112 rfl (lv_at hl 0 rfl) ?_
      refine hm_getr X hw lkM_167 LM_0 (b := 46) rfl dX11_keep_113 ?_
      refine lv_bipush (v := 8) hx hb dX11_keep_116 (by decide) ?_
      refine lv_iload_n hx hb dX11_keep_118 rfl (lv_at hl 1 rfl) ?_
      refine lv_imul hx hb dX11_keep_119 ?_
      refine lv_iload_n hx hb dX11_keep_120 rfl (lv_at hl 2 rfl) ?_
      refine lv_iadd hx hb dX11_keep_121 ?_
      refine lv_aload_n hx hb dX11_keep_122 rfl (lv_at hl 0 rfl) ?_
      refine hm_getr X hw lkM_44 LM_0 (b := 8) rfl dX11_keep_123 ?_
      refine lv_iload_n hx hb dX11_keep_126 rfl (lv_at hl 2 rfl) ?_
      obtain ⟨hi, h⟩ := h
      refine hm_iald X hw LM_8 hi dX11_keep_127 ?_
      obtain ⟨hi, h⟩ := h
      refine hm_iast X hw LM_46 hi dX11_keep_128 (fun H locs hw => ?_)
      refine lv_iinc (v := x2 + 1) (lv' := [(2, _), (0, _), (1, _)]) hx hb dX11_keep_129 hl (k := 2) rfl rfl (by decide) rfl (fun ls hl => ?_)
      refine lv_goto (tgt := 38) hx hb dX11_keep_132 (by decide) ?_
      exact ih _ _ h hw (lv_sub hl [1, 2, 0] rfl)

theorem cM_keep {l : Launch} {D : va_G} {cA : Nat → ClassId} {z sz : Nat} {I : HI} {J : HJ} {x1 : Int32} {Q : Int32 → HI → Prop}  (h : M_keep I x1 Q) : Met l yX11_keep (hws0 yX11_keep cX11_keep 3 (some .boolean)) { frames := 1, cells := 0, slots := 0, locals := 22 } (hPc D cA z Ev0 (I, J, T, FM, LM) sz [.ref (z + 0), .int x1]) (va_Qi (pI J T FM LM Q) (hB D cA z (hA z LM sz)) (hA z LM sz)) 0 0 (hA z LM sz) := by
  refine hm_met (I, J, T, FM, LM) [.ref (z + 0), .int x1] rfl (by decide) (Nat.le_of_ble_eq_true rfl) ?_
  intro p e s m below meth c ls X hr hlk hnm hxt hsz hw hl
  have hl : lv_has ls 3 [(0, .ref (z + 0)), (1, .int x1)] := hl
  have hR : 1 ≤ ({ frames := 1, cells := 0, slots := 0, locals := 22 } : Room).frames ∧ 22 ≤ ({ frames := 1, cells := 0, slots := 0, locals := 22 } : Room).locals := ⟨Nat.le_refl _, Nat.le_refl _⟩
  generalize ({ frames := 1, cells := 0, slots := 0, locals := 22 } : Room) = R at hR ⊢
  clear hsz
  generalize (hA z LM sz) = A at hw ⊢
  have hx := X.1
  have hb := X.2.1
  unfold M_keep at h
  refine lv_aload_n hx hb dX11_keep_0 rfl (lv_at hl 0 rfl) ?_
  refine lv_iconst (v := 0) hx hb dX11_keep_1 (by decide) ?_
  refine hm_puti X hw lkM_174 LM_0 rfl rfl dX11_keep_2 (fun H locs hw => ?_)
  refine lv_iload_n hx hb dX11_keep_5 rfl (lv_at hl 1 rfl) ?_
  refine lv_iconst (v := 0) hx hb dX11_keep_6 (by decide) ?_
  refine lv_iconst (v := 3) hx hb dX11_keep_7 (by decide) ?_
  refine hm_calli hw (hm_runS (rest := []) hCl_true X hw (cM_within  h) ykM_within kw1583 rfl hl.1 rfl rfl rfl (Nat.le_of_ble_eq_true rfl) ⟨Nat.le_trans (Nat.le_of_ble_eq_true rfl) hR.1, Nat.le_trans (Nat.le_of_ble_eq_true rfl) hR.2⟩ ⟨Nat.zero_le _, Nat.zero_le _⟩ dX11_keep_8) (fun r1 u2 H locs hp hw => ?_)
  obtain ⟨rfl, h⟩ := hp
  refine lv_if_ne (tgt := 16) hx hb dX11_keep_11 (by decide) (fun hc => ?_) (fun hc => ?_)
  · have h := Eq.mp (if_neg hc) h
    refine lv_aload_n hx hb dX11_keep_16 rfl (lv_at hl 0 rfl) ?_
    refine hm_getr X hw lkM_142 LM_0 (b := 38) rfl dX11_keep_17 ?_
    refine lv_iload_n hx hb dX11_keep_20 rfl (lv_at hl 1 rfl) ?_
    refine lv_aload_n hx hb dX11_keep_21 rfl (lv_at hl 0 rfl) ?_
    refine hm_geti X hw lkM_7 LM_0 dX11_keep_22 ?_
    obtain ⟨hi, h⟩ := h
    refine hm_iast X hw LM_38 hi dX11_keep_25 (fun H locs hw => ?_)
    refine lv_aload_n hx hb dX11_keep_26 rfl (lv_at hl 0 rfl) ?_
    refine hm_getr X hw lkM_145 LM_0 (b := 39) rfl dX11_keep_27 ?_
    refine lv_iload_n hx hb dX11_keep_30 rfl (lv_at hl 1 rfl) ?_
    refine lv_aload_n hx hb dX11_keep_31 rfl (lv_at hl 0 rfl) ?_
    refine hm_geti X hw lkM_13 LM_0 dX11_keep_32 ?_
    obtain ⟨hi, h⟩ := h
    refine hm_iast X hw LM_39 hi dX11_keep_35 (fun H locs hw => ?_)
    refine lv_iconst (v := 0) hx hb dX11_keep_36 (by decide) ?_
    refine lv_istore_n (lv' := [(2, _), (0, _), (1, _)]) hx hb dX11_keep_37 rfl hl (by decide) rfl (fun ls hl => ?_)
    obtain ⟨n2, h⟩ := h
    exact wkM_keep_l38 X hr hlk hR   n2 _ _ h hw (lv_sub hl [1, 2, 0] rfl)
  · have h := Eq.mp (if_pos hc) h
    refine lv_iconst (v := 0) hx hb dX11_keep_14 (by decide) ?_
    exact hm_zret X hr hlk hw zb_0 ⟨_, rfl, h⟩ dX11_keep_15

theorem wkM_take_l175 {J : HJ} {x1 : Int32} {Q : Int32 → HI → Prop} (X : hX p m c s args RX11 cX11_take 3) (hr : meth.sig.returnType = (some .boolean)) (hlk : meth.locks = false) (hR : 4 ≤ R.frames ∧ 91 ≤ R.locals)   : ∀ (n : Nat) (I : HI) (x2 : Int32) {ls : Array Slot} {H : Heap} {locs : List Loc}, M_take_l175 x1 Q n I x2 → hW D cA z Ev0 (I, J, T, FM, LM) A s H locs → lv_has ls 3 [(0, .ref (z + 0)), (1, .int x1), (2, .int x2)] → W p l e R s m args below meth c H locs 0 0 (MQ below (va_Qi (pI J T FM LM Q) (hB D cA z A) A) args s 0 0 A) (F0 m 175 ls []) := by
  have hx := X.1
  have hb := X.2.1
  intro n
  induction n with
  | zero => intro I x2 ls H locs h; exact False.elim h
  | succ n ih =>
    intro I x2 ls H locs h hw hl
    rw [M_take_l175] at h
    refine lv_iload_n hx hb dX11_take_175 rfl (lv_at hl 2 rfl) ?_
    refine lv_sipush (v := 8000) hx hb dX11_take_176 (by decide) ?_
    refine lv_icmp_ge (tgt := 206) hx hb dX11_take_179 (by decide) (fun hc => ?_) (fun hc => ?_)
    · have h := Eq.mp (if_pos hc) h
      refine lv_iconst (v := 1) hx hb dX11_take_206 (by decide) ?_
      exact hm_zret X hr hlk hw zb_1 ⟨_, rfl, h⟩ dX11_take_207
    · have h := Eq.mp (if_neg hc) h
      refine lv_aload_n hx hb dX11_take_182 rfl (lv_at hl 0 rfl) ?_
      refine hm_getr X hw lkM_38 LM_0 (b := 6) rfl dX11_take_183 ?_
      refine lv_iload_n hx hb dX11_take_186 rfl (lv_at hl 2 rfl) ?_
      refine lv_aload_n hx hb dX11_take_187 rfl (lv_at hl 0 rfl) ?_
      refine hm_getr X hw lkM_161 LM_0 (b := 44) rfl dX11_take_188 ?_
      refine lv_sipush (v := 8000) hx hb dX11_take_191 (by decide) ?_
      refine lv_iload_n hx hb dX11_take_194 rfl (lv_at hl 1 rfl) ?_
      refine lv_imul hx hb dX11_take_195 ?_
      refine lv_iload_n hx hb dX11_take_196 rfl (lv_at hl 2 rfl) ?_
      refine lv_iadd hx hb dX11_take_197 ?_
      obtain ⟨hi, h⟩ := h
      refine hm_iald X hw LM_44 hi dX11_take_198 ?_
      obtain ⟨hi, h⟩ := h
      refine hm_iast X hw LM_6 hi dX11_take_199 (fun H locs hw => ?_)
      refine lv_iinc (v := x2 + 1) (lv' := [(2, _), (0, _), (1, _)]) hx hb dX11_take_200 hl (k := 2) rfl rfl (by decide) rfl (fun ls hl => ?_)
      refine lv_goto (tgt := 175) hx hb dX11_take_203 (by decide) ?_
      exact ih _ _ h hw (lv_sub hl [1, 2, 0] rfl)

theorem wkM_take_l142 {J : HJ} {x1 : Int32} {Q : Int32 → HI → Prop} (X : hX p m c s args RX11 cX11_take 3) (hr : meth.sig.returnType = (some .boolean)) (hlk : meth.locks = false) (hR : 4 ≤ R.frames ∧ 91 ≤ R.locals)   : ∀ (n : Nat) (I : HI) (x2 : Int32) {ls : Array Slot} {H : Heap} {locs : List Loc}, M_take_l142 x1 Q n I x2 → hW D cA z Ev0 (I, J, T, FM, LM) A s H locs → lv_has ls 3 [(0, .ref (z + 0)), (1, .int x1), (2, .int x2)] → W p l e R s m args below meth c H locs 0 0 (MQ below (va_Qi (pI J T FM LM Q) (hB D cA z A) A) args s 0 0 A) (F0 m 142 ls []) := by
  have hx := X.1
  have hb := X.2.1
  intro n
  induction n with
  | zero => intro I x2 ls H locs h; exact False.elim h
  | succ n ih =>
    intro I x2 ls H locs h hw hl
    rw [M_take_l142] at h
    refine lv_iload_n hx hb dX11_take_142 rfl (lv_at hl 2 rfl) ?_
    refine lv_sipush (v := 8192) hx hb dX11_take_143 (by decide) ?_
    refine lv_icmp_ge (tgt := 173) hx hb dX11_take_146 (by decide) (fun hc => ?_) (fun hc => ?_)
    · have h := Eq.mp (if_pos hc) h
      refine lv_iconst (v := 0) hx hb dX11_take_173 (by decide) ?_
      refine lv_istore_n (lv' := [(2, _), (0, _), (1, _)]) hx hb dX11_take_174 rfl hl (by decide) rfl (fun ls hl => ?_)
      obtain ⟨n2, h⟩ := h
      exact wkM_take_l175 X hr hlk hR   n2 _ _ h hw (lv_sub hl [1, 2, 0] rfl)
    · have h := Eq.mp (if_neg hc) h
      refine lv_aload_n hx hb dX11_take_149 rfl (lv_at hl 0 rfl) ?_
      refine hm_getr X hw lkM_35 LM_0 (b := 5) rfl dX11_take_150 ?_
      refine lv_iload_n hx hb dX11_take_153 rfl (lv_at hl 2 rfl) ?_
      refine lv_aload_n hx hb dX11_take_154 rfl (lv_at hl 0 rfl) ?_
      refine hm_getr X hw lkM_158 LM_0 (b := 43) rfl dX11_take_155 ?_
      refine lv_sipush (v := 8192) hx hb dX11_take_158 (by decide) ?_
      refine lv_iload_n hx hb dX11_take_161 rfl (lv_at hl 1 rfl) ?_
      refine lv_imul hx hb dX11_take_162 ?_
      refine lv_iload_n hx hb dX11_take_163 rfl (lv_at hl 2 rfl) ?_
      refine lv_iadd hx hb dX11_take_164 ?_
      obtain ⟨hi, h⟩ := h
      refine hm_iald X hw LM_43 hi dX11_take_165 ?_
      obtain ⟨hi, h⟩ := h
      refine hm_iast X hw LM_5 hi dX11_take_166 (fun H locs hw => ?_)
      refine lv_iinc (v := x2 + 1) (lv' := [(2, _), (0, _), (1, _)]) hx hb dX11_take_167 hl (k := 2) rfl rfl (by decide) rfl (fun ls hl => ?_)
      refine lv_goto (tgt := 142) hx hb dX11_take_170 (by decide) ?_
      exact ih _ _ h hw (lv_sub hl [1, 2, 0] rfl)

theorem wkM_take_l43 {J : HJ} {x1 : Int32} {Q : Int32 → HI → Prop} (X : hX p m c s args RX11 cX11_take 3) (hr : meth.sig.returnType = (some .boolean)) (hlk : meth.locks = false) (hR : 4 ≤ R.frames ∧ 91 ≤ R.locals)   : ∀ (n : Nat) (I : HI) (x2 : Int32) {ls : Array Slot} {H : Heap} {locs : List Loc}, M_take_l43 x1 Q n I x2 → hW D cA z Ev0 (I, J, T, FM, LM) A s H locs → lv_has ls 3 [(0, .ref (z + 0)), (1, .int x1), (2, .int x2)] → W p l e R s m args below meth c H locs 0 0 (MQ below (va_Qi (pI J T FM LM Q) (hB D cA z A) A) args s 0 0 A) (F0 m 43 ls []) := by
  have hx := X.1
  have hb := X.2.1
  intro n
  induction n with
  | zero => intro I x2 ls H locs h; exact False.elim h
  | succ n ih =>
    intro I x2 ls H locs h hw hl
    rw [M_take_l43] at h
    refine lv_iload_n hx hb dX11_take_43 rfl (lv_at hl 2 rfl) ?_
    refine lv_bipush (v := 8) hx hb dX11_take_44 (by decide) ?_
    refine lv_icmp_ge (tgt := 140) hx hb dX11_take_46 (by decide) (fun hc => ?_) (fun hc => ?_)
    · have h := Eq.mp (if_pos hc) h
      refine lv_iconst (v := 0) hx hb dX11_take_140 (by decide) ?_
      refine lv_istore_n (lv' := [(2, _), (0, _), (1, _)]) hx hb dX11_take_141 rfl hl (by decide) rfl (fun ls hl => ?_)
      obtain ⟨n2, h⟩ := h
      exact wkM_take_l142 X hr hlk hR   n2 _ _ h hw (lv_sub hl [1, 2, 0] rfl)
    · have h := Eq.mp (if_neg hc) h
      refine lv_aload_n hx hb dX11_take_49 rfl (lv_at hl 0 rfl) ?_
      refine hm_getr X hw lkM_26 LM_0 (b := 2) rfl dX11_take_50 ?_
      refine lv_iload_n hx hb dX11_take_53 rfl (lv_at hl 2 rfl) ?_
      refine lv_aload_n hx hb dX11_take_54 rfl (lv_at hl 0 rfl) ?_
      refine hm_getr X hw lkM_148 LM_0 (b := 40) rfl dX11_take_55 ?_
      refine lv_bipush (v := 8) hx hb dX11_take_58 (by decide) ?_
      refine lv_iload_n hx hb dX11_take_60 rfl (lv_at hl 1 rfl) ?_
      refine lv_imul hx hb dX11_take_61 ?_
      refine lv_iload_n hx hb dX11_take_62 rfl (lv_at hl 2 rfl) ?_
      refine lv_iadd hx hb dX11_take_63 ?_
      obtain ⟨hi, h⟩ := h
      refine hm_iald X hw LM_40 hi dX11_take_64 ?_
      obtain ⟨hi, h⟩ := h
      refine hm_iast X hw LM_2 hi dX11_take_65 (fun H locs hw => ?_)
      refine lv_aload_n hx hb dX11_take_66 rfl (lv_at hl 0 rfl) ?_
      refine hm_getr X hw lkM_29 LM_0 (b := 3) rfl dX11_take_67 ?_
      refine lv_iload_n hx hb dX11_take_70 rfl (lv_at hl 2 rfl) ?_
      refine lv_aload_n hx hb dX11_take_71 rfl (lv_at hl 0 rfl) ?_
      refine hm_getr X hw lkM_151 LM_0 (b := 41) rfl dX11_take_72 ?_
      refine lv_bipush (v := 8) hx hb dX11_take_75 (by decide) ?_
      refine lv_iload_n hx hb dX11_take_77 rfl (lv_at hl 1 rfl) ?_
      refine lv_imul hx hb dX11_take_78 ?_
      refine lv_iload_n hx hb dX11_take_79 rfl (lv_at hl 2 rfl) ?_
      refine lv_iadd hx hb dX11_take_80 ?_
      obtain ⟨hi, h⟩ := h
      refine hm_iald X hw LM_41 hi dX11_take_81 ?_
      obtain ⟨hi, h⟩ := h
      refine hm_iast X hw LM_3 hi dX11_take_82 (fun H locs hw => ?_)
      refine lv_aload_n hx hb dX11_take_83 rfl (lv_at hl 0 rfl) ?_
      refine hm_getr X hw lkM_32 LM_0 (b := 4) rfl dX11_take_84 ?_
      refine lv_iload_n hx hb dX11_take_87 rfl (lv_at hl 2 rfl) ?_
      refine lv_aload_n hx hb dX11_take_88 rfl (lv_at hl 0 rfl) ?_
      refine hm_getr X hw lkM_154 LM_0 (b := 42) rfl dX11_take_89 ?_
      refine lv_bipush (v := 8) hx hb dX11_take_92 (by decide) ?_
      refine lv_iload_n hx hb dX11_take_94 rfl (lv_at hl 1 rfl) ?_
      refine lv_imul hx hb dX11_take_95 ?_
      refine lv_iload_n hx hb dX11_take_96 rfl (lv_at hl 2 rfl) ?_
      refine lv_iadd hx hb dX11_take_97 ?_
      obtain ⟨hi, h⟩ := h
      refine hm_iald X hw LM_42 hi dX11_take_98 ?_
      obtain ⟨hi, h⟩ := h
      refine hm_iast X hw LM_4 hi dX11_take_99 (fun H locs hw => ?_)
      refine lv_aload_n hx hb dX11_take_100 rfl (lv_at hl 0 rfl) ?_
      refine hm_getr X hw lkM_41 LM_0 (b := 7) rfl dX11_take_101 ?_
      refine lv_iload_n hx hb dX11_take_104 rfl (lv_at hl 2 rfl) ?_
      refine lv_aload_n hx hb dX11_take_105 rfl (lv_at hl 0 rfl) ?_
      refine hm_getr X hw lkM_164 LM_0 (b := 45) rfl dX11_take_106 ?_
      refine lv_bipush (v := 8) hx hb dX11_take_109 (by decide) ?_
      refine lv_iload_n hx hb dX11_take_111 rfl (lv_at hl 1 rfl) ?_
      refine lv_imul hx hb dX11_take_112 ?_
      refine lv_iload_n hx hb dX11_take_113 rfl (lv_at hl 2 rfl) ?_
      refine lv_iadd hx hb dX11_take_114 ?_
      obtain ⟨hi, h⟩ := h
      refine hm_iald X hw LM_45 hi dX11_take_115 ?_
      obtain ⟨hi, h⟩ := h
      refine hm_iast X hw LM_7 hi dX11_take_116 (fun H locs hw => ?_)
      refine lv_aload_n hx hb dX11_take_117 rfl (lv_at hl 0 rfl) ?_
      refine hm_getr X hw lkM_44 LM_0 (b := 8) rfl dX11_take_118 ?_
      refine lv_iload_n hx hb dX11_take_121 rfl (lv_at hl 2 rfl) ?_
      refine lv_aload_n hx hb dX11_take_122 rfl (lv_at hl 0 rfl) ?_
      refine hm_getr X hw lkM_167 LM_0 (b := 46) rfl dX11_take_123 ?_
      refine lv_bipush (v := 8) hx hb dX11_take_126 (by decide) ?_
      refine lv_iload_n hx hb dX11_take_128 rfl (lv_at hl 1 rfl) ?_
      refine lv_imul hx hb dX11_take_129 ?_
      refine lv_iload_n hx hb dX11_take_130 rfl (lv_at hl 2 rfl) ?_
      refine lv_iadd hx hb dX11_take_131 ?_
      obtain ⟨hi, h⟩ := h
      refine hm_iald X hw LM_46 hi dX11_take_132 ?_
      obtain ⟨hi, h⟩ := h
      refine hm_iast X hw LM_8 hi dX11_take_133 (fun H locs hw => ?_)
      refine lv_iinc (v := x2 + 1) (lv' := [(2, _), (0, _), (1, _)]) hx hb dX11_take_134 hl (k := 2) rfl rfl (by decide) rfl (fun ls hl => ?_)
      refine lv_goto (tgt := 43) hx hb dX11_take_137 (by decide) ?_
      exact ih _ _ h hw (lv_sub hl [1, 2, 0] rfl)

theorem cM_take {l : Launch} {D : va_G} {cA : Nat → ClassId} {z sz : Nat} {I : HI} {J : HJ} {x1 : Int32} {Q : Int32 → HI → Prop}  (h : M_take I x1 Q) : Met l yX11_take (hws0 yX11_take cX11_take 3 (some .boolean)) { frames := 4, cells := 0, slots := 0, locals := 91 } (hPc D cA z Ev0 (I, J, T, FM, LM) sz [.ref (z + 0), .int x1]) (va_Qi (pI J T FM LM Q) (hB D cA z (hA z LM sz)) (hA z LM sz)) 0 0 (hA z LM sz) := by
  refine hm_met (I, J, T, FM, LM) [.ref (z + 0), .int x1] rfl (by decide) (Nat.le_of_ble_eq_true rfl) ?_
  intro p e s m below meth c ls X hr hlk hnm hxt hsz hw hl
  have hl : lv_has ls 3 [(0, .ref (z + 0)), (1, .int x1)] := hl
  have hR : 4 ≤ ({ frames := 4, cells := 0, slots := 0, locals := 91 } : Room).frames ∧ 91 ≤ ({ frames := 4, cells := 0, slots := 0, locals := 91 } : Room).locals := ⟨Nat.le_refl _, Nat.le_refl _⟩
  generalize ({ frames := 4, cells := 0, slots := 0, locals := 91 } : Room) = R at hR ⊢
  clear hsz
  generalize (hA z LM sz) = A at hw ⊢
  have hx := X.1
  have hb := X.2.1
  unfold M_take at h
  refine lv_aload_n hx hb dX11_take_0 rfl (lv_at hl 0 rfl) ?_
  refine lv_iconst (v := 0) hx hb dX11_take_1 (by decide) ?_
  refine hm_puti X hw lkM_174 LM_0 rfl rfl dX11_take_2 (fun H locs hw => ?_)
  refine lv_iload_n hx hb dX11_take_5 rfl (lv_at hl 1 rfl) ?_
  refine lv_iconst (v := 0) hx hb dX11_take_6 (by decide) ?_
  refine lv_iconst (v := 3) hx hb dX11_take_7 (by decide) ?_
  refine hm_calli hw (hm_runS (rest := []) hCl_true X hw (cM_within  h) ykM_within kw1583 rfl hl.1 rfl rfl rfl (Nat.le_of_ble_eq_true rfl) ⟨Nat.le_trans (Nat.le_of_ble_eq_true rfl) hR.1, Nat.le_trans (Nat.le_of_ble_eq_true rfl) hR.2⟩ ⟨Nat.zero_le _, Nat.zero_le _⟩ dX11_take_8) (fun r1 u2 H locs hp hw => ?_)
  obtain ⟨rfl, h⟩ := hp
  refine lv_if_eq (tgt := 23) hx hb dX11_take_11 (by decide) (fun hc => ?_) (fun hc => ?_)
  · have h := Eq.mp (if_pos hc) h
    refine lv_iconst (v := 0) hx hb dX11_take_23 (by decide) ?_
    exact hm_zret X hr hlk hw zb_0 ⟨_, rfl, h⟩ dX11_take_24
  · have h := Eq.mp (if_neg hc) h
    refine lv_aload_n hx hb dX11_take_14 rfl (lv_at hl 0 rfl) ?_
    refine hm_getr X hw lkM_142 LM_0 (b := 38) rfl dX11_take_15 ?_
    refine lv_iload_n hx hb dX11_take_18 rfl (lv_at hl 1 rfl) ?_
    obtain ⟨hi, h⟩ := h
    refine hm_iald X hw LM_38 hi dX11_take_19 ?_
    refine lv_if_ne (tgt := 25) hx hb dX11_take_20 (by decide) (fun hc => ?_) (fun hc => ?_)
    · have h := Eq.mp (if_neg hc) h
      refine lv_aload_n hx hb dX11_take_25 rfl (lv_at hl 0 rfl) ?_
      refine lv_aload_n hx hb dX11_take_26 rfl (lv_at hl 0 rfl) ?_
      refine hm_getr X hw lkM_142 LM_0 (b := 38) rfl dX11_take_27 ?_
      refine lv_iload_n hx hb dX11_take_30 rfl (lv_at hl 1 rfl) ?_
      obtain ⟨hi, h⟩ := h
      refine hm_iald X hw LM_38 hi dX11_take_31 ?_
      refine lv_aload_n hx hb dX11_take_32 rfl (lv_at hl 0 rfl) ?_
      refine hm_getr X hw lkM_145 LM_0 (b := 39) rfl dX11_take_33 ?_
      refine lv_iload_n hx hb dX11_take_36 rfl (lv_at hl 1 rfl) ?_
      obtain ⟨hi, h⟩ := h
      refine hm_iald X hw LM_39 hi dX11_take_37 ?_
      refine hm_callv hw (hm_runV (rest := []) hCl_true X hw (cM_anew  h) ykM_anew kw1326 rfl LM_0 rfl hl.1 rfl rfl rfl (Nat.le_of_ble_eq_true rfl) ⟨Nat.le_trans (Nat.le_of_ble_eq_true rfl) hR.1, Nat.le_trans (Nat.le_of_ble_eq_true rfl) hR.2⟩ ⟨Nat.zero_le _, Nat.zero_le _⟩ dX11_take_38) (fun u4 H locs hp hw => ?_)
      obtain ⟨I3, rfl, h⟩ := hp
      refine lv_iconst (v := 0) hx hb dX11_take_41 (by decide) ?_
      refine lv_istore_n (lv' := [(2, _), (0, _), (1, _)]) hx hb dX11_take_42 rfl hl (by decide) rfl (fun ls hl => ?_)
      obtain ⟨n2, h⟩ := h
      exact wkM_take_l43 X hr hlk hR   n2 _ _ h hw (lv_sub hl [1, 2, 0] rfl)
    · have h := Eq.mp (if_pos hc) h
      refine lv_iconst (v := 0) hx hb dX11_take_23 (by decide) ?_
      exact hm_zret X hr hlk hw zb_0 ⟨_, rfl, h⟩ dX11_take_24

end
