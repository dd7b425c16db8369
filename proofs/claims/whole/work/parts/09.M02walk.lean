theorem dX11_rule_0 : decode cX11_rule 0 = .ok (.aload_n 0, 1) := by decide +kernel
theorem dX11_rule_1 : decode cX11_rule 1 = .ok (.invokevirtual 287, 3) := by decide +kernel
theorem dX11_rule_4 : decode cX11_rule 4 = .ok (.ifCond .eq 8, 3) := by decide +kernel
theorem dX11_rule_7 : decode cX11_rule 7 = .ok (.aload_n 0, 1) := by decide +kernel
theorem dX11_rule_8 : decode cX11_rule 8 = .ok (.iconst 1, 1) := by decide +kernel
theorem dX11_rule_9 : decode cX11_rule 9 = .ok (.invokevirtual 281, 3) := by decide +kernel
theorem dX11_rule_12 : decode cX11_rule 12 = .ok (.aload_n 0, 1) := by decide +kernel
theorem dX11_rule_13 : decode cX11_rule 13 = .ok (.getfield 315, 3) := by decide +kernel
theorem dX11_rule_16 : decode cX11_rule 16 = .ok (.bipush 16, 2) := by decide +kernel
theorem dX11_rule_18 : decode cX11_rule 18 = .ok (.if_icmp .ne 8, 3) := by decide +kernel
theorem dX11_rule_21 : decode cX11_rule 21 = .ok (.aload_n 0, 1) := by decide +kernel
theorem dX11_rule_22 : decode cX11_rule 22 = .ok (.iconst 2, 1) := by decide +kernel
theorem dX11_rule_23 : decode cX11_rule 23 = .ok (.invokevirtual 281, 3) := by decide +kernel
theorem dX11_rule_26 : decode cX11_rule 26 = .ok (.aload_n 0, 1) := by decide +kernel
theorem dX11_rule_27 : decode cX11_rule 27 = .ok (.invokevirtual 277, 3) := by decide +kernel
theorem dX11_rule_30 : decode cX11_rule 30 = .ok (.ifCond .ne 4, 3) := by decide +kernel
theorem dX11_rule_33 : decode cX11_rule 33 = .ok (.return_, 1) := by decide +kernel
theorem dX11_rule_34 : decode cX11_rule 34 = .ok (.aload_n 0, 1) := by decide +kernel
theorem dX11_rule_35 : decode cX11_rule 35 = .ok (.invokevirtual 284, 3) := by decide +kernel
theorem dX11_rule_38 : decode cX11_rule 38 = .ok (.aload_n 0, 1) := by decide +kernel
theorem dX11_rule_39 : decode cX11_rule 39 = .ok (.invokevirtual 290, 3) := by decide +kernel
theorem dX11_rule_42 : decode cX11_rule 42 = .ok (.istore_n 1, 1) := by decide +kernel
theorem dX11_rule_43 : decode cX11_rule 43 = .ok (.iconst (-1), 1) := by decide +kernel
theorem dX11_rule_44 : decode cX11_rule 44 = .ok (.istore_n 2, 1) := by decide +kernel
theorem dX11_rule_45 : decode cX11_rule 45 = .ok (.aload_n 0, 1) := by decide +kernel
theorem dX11_rule_46 : decode cX11_rule 46 = .ok (.invokevirtual 277, 3) := by decide +kernel
theorem dX11_rule_49 : decode cX11_rule 49 = .ok (.ifCond .eq 20, 3) := by decide +kernel
theorem dX11_rule_52 : decode cX11_rule 52 = .ok (.aload_n 0, 1) := by decide +kernel
theorem dX11_rule_53 : decode cX11_rule 53 = .ok (.invokevirtual 287, 3) := by decide +kernel
theorem dX11_rule_56 : decode cX11_rule 56 = .ok (.iconst 1, 1) := by decide +kernel
theorem dX11_rule_57 : decode cX11_rule 57 = .ok (.if_icmp .ne 12, 3) := by decide +kernel
theorem dX11_rule_60 : decode cX11_rule 60 = .ok (.aload_n 0, 1) := by decide +kernel
theorem dX11_rule_61 : decode cX11_rule 61 = .ok (.invokevirtual 284, 3) := by decide +kernel
theorem dX11_rule_64 : decode cX11_rule 64 = .ok (.aload_n 0, 1) := by decide +kernel
theorem dX11_rule_65 : decode cX11_rule 65 = .ok (.invokevirtual 318, 3) := by decide +kernel
theorem dX11_rule_68 : decode cX11_rule 68 = .ok (.istore_n 2, 1) := by decide +kernel
theorem dX11_rule_69 : decode cX11_rule 69 = .ok (.aload_n 0, 1) := by decide +kernel
theorem dX11_rule_70 : decode cX11_rule 70 = .ok (.invokevirtual 277, 3) := by decide +kernel
theorem dX11_rule_73 : decode cX11_rule 73 = .ok (.ifCond .eq 16, 3) := by decide +kernel
theorem dX11_rule_76 : decode cX11_rule 76 = .ok (.aload_n 0, 1) := by decide +kernel
theorem dX11_rule_77 : decode cX11_rule 77 = .ok (.invokevirtual 287, 3) := by decide +kernel
theorem dX11_rule_80 : decode cX11_rule 80 = .ok (.iconst 2, 1) := by decide +kernel
theorem dX11_rule_81 : decode cX11_rule 81 = .ok (.if_icmp .eq 8, 3) := by decide +kernel
theorem dX11_rule_84 : decode cX11_rule 84 = .ok (.aload_n 0, 1) := by decide +kernel
theorem dX11_rule_85 : decode cX11_rule 85 = .ok (.iconst 1, 1) := by decide +kernel
theorem dX11_rule_86 : decode cX11_rule 86 = .ok (.invokevirtual 281, 3) := by decide +kernel
theorem dX11_rule_89 : decode cX11_rule 89 = .ok (.aload_n 0, 1) := by decide +kernel
theorem dX11_rule_90 : decode cX11_rule 90 = .ok (.invokevirtual 277, 3) := by decide +kernel
theorem dX11_rule_93 : decode cX11_rule 93 = .ok (.ifCond .ne 4, 3) := by decide +kernel
theorem dX11_rule_96 : decode cX11_rule 96 = .ok (.return_, 1) := by decide +kernel
theorem dX11_rule_97 : decode cX11_rule 97 = .ok (.aload_n 0, 1) := by decide +kernel
theorem dX11_rule_98 : decode cX11_rule 98 = .ok (.invokevirtual 284, 3) := by decide +kernel
theorem dX11_rule_101 : decode cX11_rule 101 = .ok (.aload_n 0, 1) := by decide +kernel
theorem dX11_rule_102 : decode cX11_rule 102 = .ok (.invokevirtual 318, 3) := by decide +kernel
theorem dX11_rule_105 : decode cX11_rule 105 = .ok (.istore_n 3, 1) := by decide +kernel
theorem dX11_rule_106 : decode cX11_rule 106 = .ok (.aload_n 0, 1) := by decide +kernel
theorem dX11_rule_107 : decode cX11_rule 107 = .ok (.invokevirtual 277, 3) := by decide +kernel
theorem dX11_rule_110 : decode cX11_rule 110 = .ok (.ifCond .eq 17, 3) := by decide +kernel
theorem dX11_rule_113 : decode cX11_rule 113 = .ok (.aload_n 0, 1) := by decide +kernel
theorem dX11_rule_114 : decode cX11_rule 114 = .ok (.bipush 59, 2) := by decide +kernel
theorem dX11_rule_116 : decode cX11_rule 116 = .ok (.invokevirtual 296, 3) := by decide +kernel
theorem dX11_rule_119 : decode cX11_rule 119 = .ok (.ifCond .ne 8, 3) := by decide +kernel
theorem dX11_rule_122 : decode cX11_rule 122 = .ok (.aload_n 0, 1) := by decide +kernel
theorem dX11_rule_123 : decode cX11_rule 123 = .ok (.iconst 1, 1) := by decide +kernel
theorem dX11_rule_124 : decode cX11_rule 124 = .ok (.invokevirtual 281, 3) := by decide +kernel
theorem dX11_rule_127 : decode cX11_rule 127 = .ok (.aload_n 0, 1) := by decide +kernel
theorem dX11_rule_128 : decode cX11_rule 128 = .ok (.invokevirtual 277, 3) := by decide +kernel
theorem dX11_rule_131 : decode cX11_rule 131 = .ok (.ifCond .ne 4, 3) := by decide +kernel
theorem dX11_rule_134 : decode cX11_rule 134 = .ok (.return_, 1) := by decide +kernel
theorem dX11_rule_135 : decode cX11_rule 135 = .ok (.aload_n 0, 1) := by decide +kernel
theorem dX11_rule_136 : decode cX11_rule 136 = .ok (.invokevirtual 284, 3) := by decide +kernel
theorem dX11_rule_139 : decode cX11_rule 139 = .ok (.aload_n 0, 1) := by decide +kernel
theorem dX11_rule_140 : decode cX11_rule 140 = .ok (.getfield 56, 3) := by decide +kernel
theorem dX11_rule_143 : decode cX11_rule 143 = .ok (.aload_n 0, 1) := by decide +kernel
theorem dX11_rule_144 : decode cX11_rule 144 = .ok (.getfield 315, 3) := by decide +kernel
theorem dX11_rule_147 : decode cX11_rule 147 = .ok (.iload_n 1, 1) := by decide +kernel
theorem dX11_rule_148 : decode cX11_rule 148 = .ok (.iastore, 1) := by decide +kernel
theorem dX11_rule_149 : decode cX11_rule 149 = .ok (.aload_n 0, 1) := by decide +kernel
theorem dX11_rule_150 : decode cX11_rule 150 = .ok (.getfield 59, 3) := by decide +kernel
theorem dX11_rule_153 : decode cX11_rule 153 = .ok (.aload_n 0, 1) := by decide +kernel
theorem dX11_rule_154 : decode cX11_rule 154 = .ok (.getfield 315, 3) := by decide +kernel
theorem dX11_rule_157 : decode cX11_rule 157 = .ok (.iload_n 2, 1) := by decide +kernel
theorem dX11_rule_158 : decode cX11_rule 158 = .ok (.iastore, 1) := by decide +kernel
theorem dX11_rule_159 : decode cX11_rule 159 = .ok (.aload_n 0, 1) := by decide +kernel
theorem dX11_rule_160 : decode cX11_rule 160 = .ok (.getfield 62, 3) := by decide +kernel
theorem dX11_rule_163 : decode cX11_rule 163 = .ok (.aload_n 0, 1) := by decide +kernel
theorem dX11_rule_164 : decode cX11_rule 164 = .ok (.getfield 315, 3) := by decide +kernel
theorem dX11_rule_167 : decode cX11_rule 167 = .ok (.iload_n 3, 1) := by decide +kernel
theorem dX11_rule_168 : decode cX11_rule 168 = .ok (.iastore, 1) := by decide +kernel
theorem dX11_rule_169 : decode cX11_rule 169 = .ok (.aload_n 0, 1) := by decide +kernel
theorem dX11_rule_170 : decode cX11_rule 170 = .ok (.dup, 1) := by decide +kernel
theorem dX11_rule_171 : decode cX11_rule 171 = .ok (.getfield 315, 3) := by decide +kernel
theorem dX11_rule_174 : decode cX11_rule 174 = .ok (.iconst 1, 1) := by decide +kernel
theorem dX11_rule_175 : decode cX11_rule 175 = .ok (.iadd, 1) := by decide +kernel
theorem dX11_rule_176 : decode cX11_rule 176 = .ok (.putfield 315, 3) := by decide +kernel
theorem dX11_rule_179 : decode cX11_rule 179 = .ok (.return_, 1) := by decide +kernel
theorem dX11_copies_0 : decode cX11_copies 0 = .ok (.iload_n 2, 1) := by decide +kernel
theorem dX11_copies_1 : decode cX11_copies 1 = .ok (.istore 4, 2) := by decide +kernel
theorem dX11_copies_3 : decode cX11_copies 3 = .ok (.iload_n 3, 1) := by decide +kernel
theorem dX11_copies_4 : decode cX11_copies 4 = .ok (.istore 5, 2) := by decide +kernel
theorem dX11_copies_6 : decode cX11_copies 6 = .ok (.aload_n 0, 1) := by decide +kernel
theorem dX11_copies_7 : decode cX11_copies 7 = .ok (.getfield 65, 3) := by decide +kernel
theorem dX11_copies_10 : decode cX11_copies 10 = .ok (.iload 4, 2) := by decide +kernel
theorem dX11_copies_12 : decode cX11_copies 12 = .ok (.iaload, 1) := by decide +kernel
theorem dX11_copies_13 : decode cX11_copies 13 = .ok (.ifCond .eq 95, 3) := by decide +kernel
theorem dX11_copies_16 : decode cX11_copies 16 = .ok (.aload_n 0, 1) := by decide +kernel
theorem dX11_copies_17 : decode cX11_copies 17 = .ok (.getfield 38, 3) := by decide +kernel
theorem dX11_copies_20 : decode cX11_copies 20 = .ok (.sipush 1000, 3) := by decide +kernel
theorem dX11_copies_23 : decode cX11_copies 23 = .ok (.iload_n 1, 1) := by decide +kernel
theorem dX11_copies_24 : decode cX11_copies 24 = .ok (.imul, 1) := by decide +kernel
theorem dX11_copies_25 : decode cX11_copies 25 = .ok (.iload 5, 2) := by decide +kernel
theorem dX11_copies_27 : decode cX11_copies 27 = .ok (.iadd, 1) := by decide +kernel
theorem dX11_copies_28 : decode cX11_copies 28 = .ok (.aload_n 0, 1) := by decide +kernel
theorem dX11_copies_29 : decode cX11_copies 29 = .ok (.getfield 65, 3) := by decide +kernel
theorem dX11_copies_32 : decode cX11_copies 32 = .ok (.iload 4, 2) := by decide +kernel
theorem dX11_copies_34 : decode cX11_copies 34 = .ok (.iaload, 1) := by decide +kernel
theorem dX11_copies_35 : decode cX11_copies 35 = .ok (.iastore, 1) := by decide +kernel
theorem dX11_copies_36 : decode cX11_copies 36 = .ok (.aload_n 0, 1) := by decide +kernel
theorem dX11_copies_37 : decode cX11_copies 37 = .ok (.getfield 65, 3) := by decide +kernel
theorem dX11_copies_40 : decode cX11_copies 40 = .ok (.iload 4, 2) := by decide +kernel
theorem dX11_copies_42 : decode cX11_copies 42 = .ok (.iaload, 1) := by decide +kernel
theorem dX11_copies_43 : decode cX11_copies 43 = .ok (.iconst 1, 1) := by decide +kernel
theorem dX11_copies_44 : decode cX11_copies 44 = .ok (.if_icmp .eq 14, 3) := by decide +kernel
theorem dX11_copies_47 : decode cX11_copies 47 = .ok (.aload_n 0, 1) := by decide +kernel
theorem dX11_copies_48 : decode cX11_copies 48 = .ok (.getfield 65, 3) := by decide +kernel
theorem dX11_copies_51 : decode cX11_copies 51 = .ok (.iload 4, 2) := by decide +kernel
theorem dX11_copies_53 : decode cX11_copies 53 = .ok (.iaload, 1) := by decide +kernel
theorem dX11_copies_54 : decode cX11_copies 54 = .ok (.iconst 2, 1) := by decide +kernel
theorem dX11_copies_55 : decode cX11_copies 55 = .ok (.if_icmp .ne 7, 3) := by decide +kernel
theorem dX11_copies_58 : decode cX11_copies 58 = .ok (.iconst 1, 1) := by decide +kernel
theorem dX11_copies_59 : decode cX11_copies 59 = .ok (.goto 4, 3) := by decide +kernel
theorem dX11_copies_62 : decode cX11_copies 62 = .ok (.iconst 0, 1) := by decide +kernel
theorem dX11_copies_63 : decode cX11_copies 63 = .ok (.istore 6, 2) := by decide +kernel
theorem dX11_copies_65 : decode cX11_copies 65 = .ok (.iinc 4 1, 3) := by decide +kernel
theorem dX11_copies_68 : decode cX11_copies 68 = .ok (.iinc 5 1, 3) := by decide +kernel
theorem dX11_copies_71 : decode cX11_copies 71 = .ok (.iload 6, 2) := by decide +kernel
theorem dX11_copies_73 : decode cX11_copies 73 = .ok (.ifCond .ne 6, 3) := by decide +kernel
theorem dX11_copies_76 : decode cX11_copies 76 = .ok (.goto (-70), 3) := by decide +kernel
theorem dX11_copies_79 : decode cX11_copies 79 = .ok (.aload_n 0, 1) := by decide +kernel
theorem dX11_copies_80 : decode cX11_copies 80 = .ok (.getfield 38, 3) := by decide +kernel
theorem dX11_copies_83 : decode cX11_copies 83 = .ok (.sipush 1000, 3) := by decide +kernel
theorem dX11_copies_86 : decode cX11_copies 86 = .ok (.iload_n 1, 1) := by decide +kernel
theorem dX11_copies_87 : decode cX11_copies 87 = .ok (.imul, 1) := by decide +kernel
theorem dX11_copies_88 : decode cX11_copies 88 = .ok (.iload 5, 2) := by decide +kernel
theorem dX11_copies_90 : decode cX11_copies 90 = .ok (.iadd, 1) := by decide +kernel
theorem dX11_copies_91 : decode cX11_copies 91 = .ok (.aload_n 0, 1) := by decide +kernel
theorem dX11_copies_92 : decode cX11_copies 92 = .ok (.getfield 65, 3) := by decide +kernel
theorem dX11_copies_95 : decode cX11_copies 95 = .ok (.iload 4, 2) := by decide +kernel
theorem dX11_copies_97 : decode cX11_copies 97 = .ok (.iaload, 1) := by decide +kernel
theorem dX11_copies_98 : decode cX11_copies 98 = .ok (.iastore, 1) := by decide +kernel
theorem dX11_copies_99 : decode cX11_copies 99 = .ok (.iinc 4 1, 3) := by decide +kernel
theorem dX11_copies_102 : decode cX11_copies 102 = .ok (.iinc 5 1, 3) := by decide +kernel
theorem dX11_copies_105 : decode cX11_copies 105 = .ok (.goto (-99), 3) := by decide +kernel
theorem dX11_copies_108 : decode cX11_copies 108 = .ok (.aload_n 0, 1) := by decide +kernel
theorem dX11_copies_109 : decode cX11_copies 109 = .ok (.getfield 38, 3) := by decide +kernel
theorem dX11_copies_112 : decode cX11_copies 112 = .ok (.sipush 1000, 3) := by decide +kernel
theorem dX11_copies_115 : decode cX11_copies 115 = .ok (.iload_n 1, 1) := by decide +kernel
theorem dX11_copies_116 : decode cX11_copies 116 = .ok (.imul, 1) := by decide +kernel
theorem dX11_copies_117 : decode cX11_copies 117 = .ok (.iload 5, 2) := by decide +kernel
theorem dX11_copies_119 : decode cX11_copies 119 = .ok (.iadd, 1) := by decide +kernel
theorem dX11_copies_120 : decode cX11_copies 120 = .ok (.iconst 0, 1) := by decide +kernel
theorem dX11_copies_121 : decode cX11_copies 121 = .ok (.iastore, 1) := by decide +kernel
theorem dX11_copies_122 : decode cX11_copies 122 = .ok (.iload 5, 2) := by decide +kernel
theorem dX11_copies_124 : decode cX11_copies 124 = .ok (.iconst 1, 1) := by decide +kernel
theorem dX11_copies_125 : decode cX11_copies 125 = .ok (.iadd, 1) := by decide +kernel
theorem dX11_copies_126 : decode cX11_copies 126 = .ok (.ireturn, 1) := by decide +kernel
theorem dX11_rules_0 : decode cX11_rules 0 = .ok (.aload_n 0, 1) := by decide +kernel
theorem dX11_rules_1 : decode cX11_rules 1 = .ok (.iconst 0, 1) := by decide +kernel
theorem dX11_rules_2 : decode cX11_rules 2 = .ok (.putfield 174, 3) := by decide +kernel
theorem dX11_rules_5 : decode cX11_rules 5 = .ok (.aload_n 0, 1) := by decide +kernel
theorem dX11_rules_6 : decode cX11_rules 6 = .ok (.iload_n 1, 1) := by decide +kernel
theorem dX11_rules_7 : decode cX11_rules 7 = .ok (.ifCond .lt 15, 3) := by decide +kernel
theorem dX11_rules_10 : decode cX11_rules 10 = .ok (.iload_n 1, 1) := by decide +kernel
theorem dX11_rules_11 : decode cX11_rules 11 = .ok (.aload_n 0, 1) := by decide +kernel
theorem dX11_rules_12 : decode cX11_rules 12 = .ok (.getfield 214, 3) := by decide +kernel
theorem dX11_rules_15 : decode cX11_rules 15 = .ok (.if_icmp .gt 7, 3) := by decide +kernel
theorem dX11_rules_18 : decode cX11_rules 18 = .ok (.iconst 1, 1) := by decide +kernel
theorem dX11_rules_19 : decode cX11_rules 19 = .ok (.goto 4, 3) := by decide +kernel
theorem dX11_rules_22 : decode cX11_rules 22 = .ok (.iconst 0, 1) := by decide +kernel
theorem dX11_rules_23 : decode cX11_rules 23 = .ok (.iconst 1, 1) := by decide +kernel
theorem dX11_rules_24 : decode cX11_rules 24 = .ok (.invokevirtual 203, 3) := by decide +kernel
theorem dX11_rules_27 : decode cX11_rules 27 = .ok (.ifCond .ne 5, 3) := by decide +kernel
theorem dX11_rules_30 : decode cX11_rules 30 = .ok (.iconst 0, 1) := by decide +kernel
theorem dX11_rules_31 : decode cX11_rules 31 = .ok (.ireturn, 1) := by decide +kernel
theorem dX11_rules_32 : decode cX11_rules 32 = .ok (.aload_n 0, 1) := by decide +kernel
theorem dX11_rules_33 : decode cX11_rules 33 = .ok (.iconst 0, 1) := by decide +kernel
theorem dX11_rules_34 : decode cX11_rules 34 = .ok (.putfield 214, 3) := by decide +kernel
theorem dX11_rules_37 : decode cX11_rules 37 = .ok (.aload_n 0, 1) := by decide +kernel
theorem dX11_rules_38 : decode cX11_rules 38 = .ok (.iconst (-1), 1) := by decide +kernel
theorem dX11_rules_39 : decode cX11_rules 39 = .ok (.putfield 53, 3) := by decide +kernel
theorem dX11_rules_42 : decode cX11_rules 42 = .ok (.aload_n 0, 1) := by decide +kernel
theorem dX11_rules_43 : decode cX11_rules 43 = .ok (.iconst 0, 1) := by decide +kernel
theorem dX11_rules_44 : decode cX11_rules 44 = .ok (.putfield 262, 3) := by decide +kernel
theorem dX11_rules_47 : decode cX11_rules 47 = .ok (.aload_n 0, 1) := by decide +kernel
theorem dX11_rules_48 : decode cX11_rules 48 = .ok (.iload_n 1, 1) := by decide +kernel
theorem dX11_rules_49 : decode cX11_rules 49 = .ok (.putfield 220, 3) := by decide +kernel
theorem dX11_rules_52 : decode cX11_rules 52 = .ok (.aload_n 0, 1) := by decide +kernel
theorem dX11_rules_53 : decode cX11_rules 53 = .ok (.iconst 0, 1) := by decide +kernel
theorem dX11_rules_54 : decode cX11_rules 54 = .ok (.putfield 223, 3) := by decide +kernel
theorem dX11_rules_57 : decode cX11_rules 57 = .ok (.aload_n 0, 1) := by decide +kernel
theorem dX11_rules_58 : decode cX11_rules 58 = .ok (.iconst 0, 1) := by decide +kernel
theorem dX11_rules_59 : decode cX11_rules 59 = .ok (.putfield 265, 3) := by decide +kernel
theorem dX11_rules_62 : decode cX11_rules 62 = .ok (.aload_n 0, 1) := by decide +kernel
theorem dX11_rules_63 : decode cX11_rules 63 = .ok (.iconst 0, 1) := by decide +kernel
theorem dX11_rules_64 : decode cX11_rules 64 = .ok (.putfield 315, 3) := by decide +kernel
theorem dX11_rules_67 : decode cX11_rules 67 = .ok (.aload_n 0, 1) := by decide +kernel
theorem dX11_rules_68 : decode cX11_rules 68 = .ok (.invokevirtual 284, 3) := by decide +kernel
theorem dX11_rules_71 : decode cX11_rules 71 = .ok (.aload_n 0, 1) := by decide +kernel
theorem dX11_rules_72 : decode cX11_rules 72 = .ok (.invokevirtual 277, 3) := by decide +kernel
theorem dX11_rules_75 : decode cX11_rules 75 = .ok (.ifCond .eq 17, 3) := by decide +kernel
theorem dX11_rules_78 : decode cX11_rules 78 = .ok (.aload_n 0, 1) := by decide +kernel
theorem dX11_rules_79 : decode cX11_rules 79 = .ok (.getfield 242, 3) := by decide +kernel
theorem dX11_rules_82 : decode cX11_rules 82 = .ok (.ifCond .eq 10, 3) := by decide +kernel
theorem dX11_rules_85 : decode cX11_rules 85 = .ok (.aload_n 0, 1) := by decide +kernel
theorem dX11_rules_86 : decode cX11_rules 86 = .ok (.invokevirtual 321, 3) := by decide +kernel
theorem dX11_rules_89 : decode cX11_rules 89 = .ok (.goto (-18), 3) := by decide +kernel
theorem dX11_rules_92 : decode cX11_rules 92 = .ok (.aload_n 0, 1) := by decide +kernel
theorem dX11_rules_93 : decode cX11_rules 93 = .ok (.invokevirtual 277, 3) := by decide +kernel
theorem dX11_rules_96 : decode cX11_rules 96 = .ok (.ifCond .ne 8, 3) := by decide +kernel
theorem dX11_rules_99 : decode cX11_rules 99 = .ok (.aload_n 0, 1) := by decide +kernel
theorem dX11_rules_100 : decode cX11_rules 100 = .ok (.getfield 262, 3) := by decide +kernel
theorem dX11_rules_103 : decode cX11_rules 103 = .ok (.ireturn, 1) := by decide +kernel
theorem dX11_rules_104 : decode cX11_rules 104 = .ok (.iconst 0, 1) := by decide +kernel
theorem dX11_rules_105 : decode cX11_rules 105 = .ok (.istore_n 2, 1) := by decide +kernel
theorem dX11_rules_106 : decode cX11_rules 106 = .ok (.iload_n 2, 1) := by decide +kernel
theorem dX11_rules_107 : decode cX11_rules 107 = .ok (.aload_n 0, 1) := by decide +kernel
theorem dX11_rules_108 : decode cX11_rules 108 = .ok (.getfield 315, 3) := by decide +kernel
theorem dX11_rules_111 : decode cX11_rules 111 = .ok (.if_icmp .ge 87, 3) := by decide +kernel
theorem dX11_rules_114 : decode cX11_rules 114 = .ok (.aload_n 0, 1) := by decide +kernel
theorem dX11_rules_115 : decode cX11_rules 115 = .ok (.getfield 56, 3) := by decide +kernel
theorem dX11_rules_118 : decode cX11_rules 118 = .ok (.iload_n 2, 1) := by decide +kernel
theorem dX11_rules_119 : decode cX11_rules 119 = .ok (.iaload, 1) := by decide +kernel
theorem dX11_rules_120 : decode cX11_rules 120 = .ok (.istore_n 3, 1) := by decide +kernel
theorem dX11_rules_121 : decode cX11_rules 121 = .ok (.aload_n 0, 1) := by decide +kernel
theorem dX11_rules_122 : decode cX11_rules 122 = .ok (.getfield 32, 3) := by decide +kernel
theorem dX11_rules_125 : decode cX11_rules 125 = .ok (.iload_n 3, 1) := by decide +kernel
theorem dX11_rules_126 : decode cX11_rules 126 = .ok (.iconst 1, 1) := by decide +kernel
theorem dX11_rules_127 : decode cX11_rules 127 = .ok (.iastore, 1) := by decide +kernel
theorem dX11_rules_128 : decode cX11_rules 128 = .ok (.iconst 0, 1) := by decide +kernel
theorem dX11_rules_129 : decode cX11_rules 129 = .ok (.istore 4, 2) := by decide +kernel
theorem dX11_rules_131 : decode cX11_rules 131 = .ok (.aload_n 0, 1) := by decide +kernel
theorem dX11_rules_132 : decode cX11_rules 132 = .ok (.getfield 41, 3) := by decide +kernel
theorem dX11_rules_135 : decode cX11_rules 135 = .ok (.iload_n 3, 1) := by decide +kernel
theorem dX11_rules_136 : decode cX11_rules 136 = .ok (.iconst (-1), 1) := by decide +kernel
theorem dX11_rules_137 : decode cX11_rules 137 = .ok (.iastore, 1) := by decide +kernel
theorem dX11_rules_138 : decode cX11_rules 138 = .ok (.aload_n 0, 1) := by decide +kernel
theorem dX11_rules_139 : decode cX11_rules 139 = .ok (.getfield 59, 3) := by decide +kernel
theorem dX11_rules_142 : decode cX11_rules 142 = .ok (.iload_n 2, 1) := by decide +kernel
theorem dX11_rules_143 : decode cX11_rules 143 = .ok (.iaload, 1) := by decide +kernel
theorem dX11_rules_144 : decode cX11_rules 144 = .ok (.iconst (-1), 1) := by decide +kernel
theorem dX11_rules_145 : decode cX11_rules 145 = .ok (.if_icmp .eq 24, 3) := by decide +kernel
theorem dX11_rules_148 : decode cX11_rules 148 = .ok (.aload_n 0, 1) := by decide +kernel
theorem dX11_rules_149 : decode cX11_rules 149 = .ok (.getfield 41, 3) := by decide +kernel
theorem dX11_rules_152 : decode cX11_rules 152 = .ok (.iload_n 3, 1) := by decide +kernel
theorem dX11_rules_153 : decode cX11_rules 153 = .ok (.iconst 0, 1) := by decide +kernel
theorem dX11_rules_154 : decode cX11_rules 154 = .ok (.iastore, 1) := by decide +kernel
theorem dX11_rules_155 : decode cX11_rules 155 = .ok (.aload_n 0, 1) := by decide +kernel
theorem dX11_rules_156 : decode cX11_rules 156 = .ok (.iload_n 3, 1) := by decide +kernel
theorem dX11_rules_157 : decode cX11_rules 157 = .ok (.aload_n 0, 1) := by decide +kernel
theorem dX11_rules_158 : decode cX11_rules 158 = .ok (.getfield 59, 3) := by decide +kernel
theorem dX11_rules_161 : decode cX11_rules 161 = .ok (.iload_n 2, 1) := by decide +kernel
theorem dX11_rules_162 : decode cX11_rules 162 = .ok (.iaload, 1) := by decide +kernel
theorem dX11_rules_163 : decode cX11_rules 163 = .ok (.iconst 0, 1) := by decide +kernel
theorem dX11_rules_164 : decode cX11_rules 164 = .ok (.invokevirtual 324, 3) := by decide +kernel
theorem dX11_rules_167 : decode cX11_rules 167 = .ok (.istore 4, 2) := by decide +kernel
theorem dX11_rules_169 : decode cX11_rules 169 = .ok (.aload_n 0, 1) := by decide +kernel
theorem dX11_rules_170 : decode cX11_rules 170 = .ok (.getfield 44, 3) := by decide +kernel
theorem dX11_rules_173 : decode cX11_rules 173 = .ok (.iload_n 3, 1) := by decide +kernel
theorem dX11_rules_174 : decode cX11_rules 174 = .ok (.iload 4, 2) := by decide +kernel
theorem dX11_rules_176 : decode cX11_rules 176 = .ok (.iastore, 1) := by decide +kernel
theorem dX11_rules_177 : decode cX11_rules 177 = .ok (.aload_n 0, 1) := by decide +kernel
theorem dX11_rules_178 : decode cX11_rules 178 = .ok (.iload_n 3, 1) := by decide +kernel
theorem dX11_rules_179 : decode cX11_rules 179 = .ok (.aload_n 0, 1) := by decide +kernel
theorem dX11_rules_180 : decode cX11_rules 180 = .ok (.getfield 62, 3) := by decide +kernel
theorem dX11_rules_183 : decode cX11_rules 183 = .ok (.iload_n 2, 1) := by decide +kernel
theorem dX11_rules_184 : decode cX11_rules 184 = .ok (.iaload, 1) := by decide +kernel
theorem dX11_rules_185 : decode cX11_rules 185 = .ok (.iload 4, 2) := by decide +kernel
theorem dX11_rules_187 : decode cX11_rules 187 = .ok (.invokevirtual 324, 3) := by decide +kernel
theorem dX11_rules_190 : decode cX11_rules 190 = .ok (.istore 4, 2) := by decide +kernel
theorem dX11_rules_192 : decode cX11_rules 192 = .ok (.iinc 2 1, 3) := by decide +kernel
theorem dX11_rules_195 : decode cX11_rules 195 = .ok (.goto (-89), 3) := by decide +kernel
theorem dX11_rules_198 : decode cX11_rules 198 = .ok (.aload_n 0, 1) := by decide +kernel
theorem dX11_rules_199 : decode cX11_rules 199 = .ok (.iconst 0, 1) := by decide +kernel
theorem dX11_rules_200 : decode cX11_rules 200 = .ok (.putfield 195, 3) := by decide +kernel
theorem dX11_rules_203 : decode cX11_rules 203 = .ok (.iconst 0, 1) := by decide +kernel
theorem dX11_rules_204 : decode cX11_rules 204 = .ok (.ireturn, 1) := by decide +kernel
theorem dX11_fault_0 : decode cX11_fault 0 = .ok (.aload_n 0, 1) := by decide +kernel
theorem dX11_fault_1 : decode cX11_fault 1 = .ok (.iconst 0, 1) := by decide +kernel
theorem dX11_fault_2 : decode cX11_fault 2 = .ok (.putfield 174, 3) := by decide +kernel
theorem dX11_fault_5 : decode cX11_fault 5 = .ok (.aload_n 0, 1) := by decide +kernel
theorem dX11_fault_6 : decode cX11_fault 6 = .ok (.getfield 53, 3) := by decide +kernel
theorem dX11_fault_9 : decode cX11_fault 9 = .ok (.ireturn, 1) := by decide +kernel
theorem dX11_wears_0 : decode cX11_wears 0 = .ok (.iload_n 1, 1) := by decide +kernel
theorem dX11_wears_1 : decode cX11_wears 1 = .ok (.istore_n 2, 1) := by decide +kernel
theorem dX11_wears_2 : decode cX11_wears 2 = .ok (.iconst 0, 1) := by decide +kernel
theorem dX11_wears_3 : decode cX11_wears 3 = .ok (.istore_n 3, 1) := by decide +kernel
theorem dX11_wears_4 : decode cX11_wears 4 = .ok (.iload_n 3, 1) := by decide +kernel
theorem dX11_wears_5 : decode cX11_wears 5 = .ok (.aload_n 0, 1) := by decide +kernel
theorem dX11_wears_6 : decode cX11_wears 6 = .ok (.getfield 7, 3) := by decide +kernel
theorem dX11_wears_9 : decode cX11_wears 9 = .ok (.if_icmp .ge 28, 3) := by decide +kernel
theorem dX11_wears_12 : decode cX11_wears 12 = .ok (.aload_n 0, 1) := by decide +kernel
theorem dX11_wears_13 : decode cX11_wears 13 = .ok (.getfield 75, 3) := by decide +kernel
theorem dX11_wears_16 : decode cX11_wears 16 = .ok (.iload_n 3, 1) := by decide +kernel
theorem dX11_wears_17 : decode cX11_wears 17 = .ok (.iload_n 2, 1) := by decide +kernel
theorem dX11_wears_18 : decode cX11_wears 18 = .ok (.aload_n 0, 1) := by decide +kernel
theorem dX11_wears_19 : decode cX11_wears 19 = .ok (.getfield 13, 3) := by decide +kernel
theorem dX11_wears_22 : decode cX11_wears 22 = .ok (.irem, 1) := by decide +kernel
theorem dX11_wears_23 : decode cX11_wears 23 = .ok (.iastore, 1) := by decide +kernel
theorem dX11_wears_24 : decode cX11_wears 24 = .ok (.iload_n 2, 1) := by decide +kernel
theorem dX11_wears_25 : decode cX11_wears 25 = .ok (.aload_n 0, 1) := by decide +kernel
theorem dX11_wears_26 : decode cX11_wears 26 = .ok (.getfield 13, 3) := by decide +kernel
theorem dX11_wears_29 : decode cX11_wears 29 = .ok (.idiv, 1) := by decide +kernel
theorem dX11_wears_30 : decode cX11_wears 30 = .ok (.istore_n 2, 1) := by decide +kernel
theorem dX11_wears_31 : decode cX11_wears 31 = .ok (.iinc 3 1, 3) := by decide +kernel
theorem dX11_wears_34 : decode cX11_wears 34 = .ok (.goto (-30), 3) := by decide +kernel
theorem dX11_wears_37 : decode cX11_wears 37 = .ok (.return_, 1) := by decide +kernel
theorem dX11_sum_0 : decode cX11_sum 0 = .ok (.iconst 0, 1) := by decide +kernel
theorem dX11_sum_1 : decode cX11_sum 1 = .ok (.istore_n 3, 1) := by decide +kernel
theorem dX11_sum_2 : decode cX11_sum 2 = .ok (.iconst 0, 1) := by decide +kernel
theorem dX11_sum_3 : decode cX11_sum 3 = .ok (.istore 4, 2) := by decide +kernel
theorem dX11_sum_5 : decode cX11_sum 5 = .ok (.iload 4, 2) := by decide +kernel
theorem dX11_sum_7 : decode cX11_sum 7 = .ok (.aload_n 0, 1) := by decide +kernel
theorem dX11_sum_8 : decode cX11_sum 8 = .ok (.getfield 7, 3) := by decide +kernel
theorem dX11_sum_11 : decode cX11_sum 11 = .ok (.if_icmp .ge 30, 3) := by decide +kernel
theorem dX11_sum_14 : decode cX11_sum 14 = .ok (.iload_n 3, 1) := by decide +kernel
theorem dX11_sum_15 : decode cX11_sum 15 = .ok (.iload_n 2, 1) := by decide +kernel
theorem dX11_sum_16 : decode cX11_sum 16 = .ok (.iload 4, 2) := by decide +kernel
theorem dX11_sum_18 : decode cX11_sum 18 = .ok (.ishr, 1) := by decide +kernel
theorem dX11_sum_19 : decode cX11_sum 19 = .ok (.iconst 1, 1) := by decide +kernel
theorem dX11_sum_20 : decode cX11_sum 20 = .ok (.iand, 1) := by decide +kernel
theorem dX11_sum_21 : decode cX11_sum 21 = .ok (.iconst 1, 1) := by decide +kernel
theorem dX11_sum_22 : decode cX11_sum 22 = .ok (.if_icmp .ne 10, 3) := by decide +kernel
theorem dX11_sum_25 : decode cX11_sum 25 = .ok (.aload_n 1, 1) := by decide +kernel
theorem dX11_sum_26 : decode cX11_sum 26 = .ok (.iload 4, 2) := by decide +kernel
theorem dX11_sum_28 : decode cX11_sum 28 = .ok (.iaload, 1) := by decide +kernel
theorem dX11_sum_29 : decode cX11_sum 29 = .ok (.goto 4, 3) := by decide +kernel
theorem dX11_sum_32 : decode cX11_sum 32 = .ok (.iconst 0, 1) := by decide +kernel
theorem dX11_sum_33 : decode cX11_sum 33 = .ok (.iadd, 1) := by decide +kernel
theorem dX11_sum_34 : decode cX11_sum 34 = .ok (.istore_n 3, 1) := by decide +kernel
theorem dX11_sum_35 : decode cX11_sum 35 = .ok (.iinc 4 1, 3) := by decide +kernel
theorem dX11_sum_38 : decode cX11_sum 38 = .ok (.goto (-33), 3) := by decide +kernel
theorem dX11_sum_41 : decode cX11_sum 41 = .ok (.iload_n 3, 1) := by decide +kernel
theorem dX11_sum_42 : decode cX11_sum 42 = .ok (.ireturn, 1) := by decide +kernel
theorem dX11_valueOf_0 : decode cX11_valueOf 0 = .ok (.iload_n 2, 1) := by decide +kernel
theorem dX11_valueOf_1 : decode cX11_valueOf 1 = .ok (.bipush 16, 2) := by decide +kernel
theorem dX11_valueOf_3 : decode cX11_valueOf 3 = .ok (.idiv, 1) := by decide +kernel
theorem dX11_valueOf_4 : decode cX11_valueOf 4 = .ok (.istore_n 3, 1) := by decide +kernel
theorem dX11_valueOf_5 : decode cX11_valueOf 5 = .ok (.iload_n 2, 1) := by decide +kernel
theorem dX11_valueOf_6 : decode cX11_valueOf 6 = .ok (.bipush 16, 2) := by decide +kernel
theorem dX11_valueOf_8 : decode cX11_valueOf 8 = .ok (.irem, 1) := by decide +kernel
theorem dX11_valueOf_9 : decode cX11_valueOf 9 = .ok (.tableswitch 115 6 11 #[39, 41, 46, 51, 76, 100], 39) := by decide +kernel
theorem dX11_valueOf_48 : decode cX11_valueOf 48 = .ok (.iload_n 1, 1) := by decide +kernel
theorem dX11_valueOf_49 : decode cX11_valueOf 49 = .ok (.ireturn, 1) := by decide +kernel
theorem dX11_valueOf_50 : decode cX11_valueOf 50 = .ok (.aload_n 0, 1) := by decide +kernel
theorem dX11_valueOf_51 : decode cX11_valueOf 51 = .ok (.getfield 7, 3) := by decide +kernel
theorem dX11_valueOf_54 : decode cX11_valueOf 54 = .ok (.ireturn, 1) := by decide +kernel
theorem dX11_valueOf_55 : decode cX11_valueOf 55 = .ok (.aload_n 0, 1) := by decide +kernel
theorem dX11_valueOf_56 : decode cX11_valueOf 56 = .ok (.getfield 13, 3) := by decide +kernel
theorem dX11_valueOf_59 : decode cX11_valueOf 59 = .ok (.ireturn, 1) := by decide +kernel
theorem dX11_valueOf_60 : decode cX11_valueOf 60 = .ok (.aload_n 0, 1) := by decide +kernel
theorem dX11_valueOf_61 : decode cX11_valueOf 61 = .ok (.getfield 26, 3) := by decide +kernel
theorem dX11_valueOf_64 : decode cX11_valueOf 64 = .ok (.iload_n 1, 1) := by decide +kernel
theorem dX11_valueOf_65 : decode cX11_valueOf 65 = .ok (.iaload, 1) := by decide +kernel
theorem dX11_valueOf_66 : decode cX11_valueOf 66 = .ok (.iload_n 3, 1) := by decide +kernel
theorem dX11_valueOf_67 : decode cX11_valueOf 67 = .ok (.ishr, 1) := by decide +kernel
theorem dX11_valueOf_68 : decode cX11_valueOf 68 = .ok (.iconst 1, 1) := by decide +kernel
theorem dX11_valueOf_69 : decode cX11_valueOf 69 = .ok (.iand, 1) := by decide +kernel
theorem dX11_valueOf_70 : decode cX11_valueOf 70 = .ok (.iconst 1, 1) := by decide +kernel
theorem dX11_valueOf_71 : decode cX11_valueOf 71 = .ok (.if_icmp .ne 12, 3) := by decide +kernel
theorem dX11_valueOf_74 : decode cX11_valueOf 74 = .ok (.aload_n 0, 1) := by decide +kernel
theorem dX11_valueOf_75 : decode cX11_valueOf 75 = .ok (.getfield 75, 3) := by decide +kernel
theorem dX11_valueOf_78 : decode cX11_valueOf 78 = .ok (.iload_n 3, 1) := by decide +kernel
theorem dX11_valueOf_79 : decode cX11_valueOf 79 = .ok (.iaload, 1) := by decide +kernel
theorem dX11_valueOf_80 : decode cX11_valueOf 80 = .ok (.goto 4, 3) := by decide +kernel
theorem dX11_valueOf_83 : decode cX11_valueOf 83 = .ok (.iconst 0, 1) := by decide +kernel
theorem dX11_valueOf_84 : decode cX11_valueOf 84 = .ok (.ireturn, 1) := by decide +kernel
theorem dX11_valueOf_85 : decode cX11_valueOf 85 = .ok (.aload_n 0, 1) := by decide +kernel
theorem dX11_valueOf_86 : decode cX11_valueOf 86 = .ok (.iload_n 1, 1) := by decide +kernel
theorem dX11_valueOf_87 : decode cX11_valueOf 87 = .ok (.invokevirtual 181, 3) := by decide +kernel
theorem dX11_valueOf_90 : decode cX11_valueOf 90 = .ok (.iload_n 3, 1) := by decide +kernel
theorem dX11_valueOf_91 : decode cX11_valueOf 91 = .ok (.ishr, 1) := by decide +kernel
theorem dX11_valueOf_92 : decode cX11_valueOf 92 = .ok (.iconst 1, 1) := by decide +kernel
theorem dX11_valueOf_93 : decode cX11_valueOf 93 = .ok (.iand, 1) := by decide +kernel
theorem dX11_valueOf_94 : decode cX11_valueOf 94 = .ok (.iconst 1, 1) := by decide +kernel
theorem dX11_valueOf_95 : decode cX11_valueOf 95 = .ok (.if_icmp .ne 12, 3) := by decide +kernel
theorem dX11_valueOf_98 : decode cX11_valueOf 98 = .ok (.aload_n 0, 1) := by decide +kernel
theorem dX11_valueOf_99 : decode cX11_valueOf 99 = .ok (.getfield 78, 3) := by decide +kernel
theorem dX11_valueOf_102 : decode cX11_valueOf 102 = .ok (.iload_n 3, 1) := by decide +kernel
theorem dX11_valueOf_103 : decode cX11_valueOf 103 = .ok (.iaload, 1) := by decide +kernel
theorem dX11_valueOf_104 : decode cX11_valueOf 104 = .ok (.goto 4, 3) := by decide +kernel
theorem dX11_valueOf_107 : decode cX11_valueOf 107 = .ok (.iconst 0, 1) := by decide +kernel
theorem dX11_valueOf_108 : decode cX11_valueOf 108 = .ok (.ireturn, 1) := by decide +kernel
theorem dX11_valueOf_109 : decode cX11_valueOf 109 = .ok (.aload_n 0, 1) := by decide +kernel
theorem dX11_valueOf_110 : decode cX11_valueOf 110 = .ok (.aload_n 0, 1) := by decide +kernel
theorem dX11_valueOf_111 : decode cX11_valueOf 111 = .ok (.getfield 75, 3) := by decide +kernel
theorem dX11_valueOf_114 : decode cX11_valueOf 114 = .ok (.aload_n 0, 1) := by decide +kernel
theorem dX11_valueOf_115 : decode cX11_valueOf 115 = .ok (.getfield 26, 3) := by decide +kernel
theorem dX11_valueOf_118 : decode cX11_valueOf 118 = .ok (.iload_n 1, 1) := by decide +kernel
theorem dX11_valueOf_119 : decode cX11_valueOf 119 = .ok (.iaload, 1) := by decide +kernel
theorem dX11_valueOf_120 : decode cX11_valueOf 120 = .ok (.invokevirtual 328, 3) := by decide +kernel
theorem dX11_valueOf_123 : decode cX11_valueOf 123 = .ok (.ireturn, 1) := by decide +kernel
theorem dX11_valueOf_124 : decode cX11_valueOf 124 = .ok (.aload_n 0, 1) := by decide +kernel
theorem dX11_valueOf_125 : decode cX11_valueOf 125 = .ok (.aload_n 0, 1) := by decide +kernel
theorem dX11_valueOf_126 : decode cX11_valueOf 126 = .ok (.getfield 78, 3) := by decide +kernel
theorem dX11_valueOf_129 : decode cX11_valueOf 129 = .ok (.aload_n 0, 1) := by decide +kernel
theorem dX11_valueOf_130 : decode cX11_valueOf 130 = .ok (.iload_n 1, 1) := by decide +kernel
theorem dX11_valueOf_131 : decode cX11_valueOf 131 = .ok (.invokevirtual 181, 3) := by decide +kernel
theorem dX11_valueOf_134 : decode cX11_valueOf 134 = .ok (.invokevirtual 328, 3) := by decide +kernel
theorem dX11_valueOf_137 : decode cX11_valueOf 137 = .ok (.ireturn, 1) := by decide +kernel
theorem dX11_works_0 : decode cX11_works 0 = .ok (.iload_n 0, 1) := by decide +kernel
theorem dX11_works_1 : decode cX11_works 1 = .ok (.tableswitch 105 4 10 #[43, 57, 71, 82, 93, 97, 101], 43) := by decide +kernel
theorem dX11_works_44 : decode cX11_works 44 = .ok (.iload_n 1, 1) := by decide +kernel
theorem dX11_works_45 : decode cX11_works 45 = .ok (.ifCond .eq 11, 3) := by decide +kernel
theorem dX11_works_48 : decode cX11_works 48 = .ok (.iload_n 2, 1) := by decide +kernel
theorem dX11_works_49 : decode cX11_works 49 = .ok (.ifCond .eq 7, 3) := by decide +kernel
theorem dX11_works_52 : decode cX11_works 52 = .ok (.iconst 1, 1) := by decide +kernel
theorem dX11_works_53 : decode cX11_works 53 = .ok (.goto 4, 3) := by decide +kernel
theorem dX11_works_56 : decode cX11_works 56 = .ok (.iconst 0, 1) := by decide +kernel
theorem dX11_works_57 : decode cX11_works 57 = .ok (.ireturn, 1) := by decide +kernel
theorem dX11_works_58 : decode cX11_works 58 = .ok (.iload_n 1, 1) := by decide +kernel
theorem dX11_works_59 : decode cX11_works 59 = .ok (.ifCond .ne 7, 3) := by decide +kernel
theorem dX11_works_62 : decode cX11_works 62 = .ok (.iload_n 2, 1) := by decide +kernel
theorem dX11_works_63 : decode cX11_works 63 = .ok (.ifCond .eq 7, 3) := by decide +kernel
theorem dX11_works_66 : decode cX11_works 66 = .ok (.iconst 1, 1) := by decide +kernel
theorem dX11_works_67 : decode cX11_works 67 = .ok (.goto 4, 3) := by decide +kernel
theorem dX11_works_70 : decode cX11_works 70 = .ok (.iconst 0, 1) := by decide +kernel
theorem dX11_works_71 : decode cX11_works 71 = .ok (.ireturn, 1) := by decide +kernel
theorem dX11_works_72 : decode cX11_works 72 = .ok (.iload_n 1, 1) := by decide +kernel
theorem dX11_works_73 : decode cX11_works 73 = .ok (.iload_n 2, 1) := by decide +kernel
theorem dX11_works_74 : decode cX11_works 74 = .ok (.if_icmp .ge 7, 3) := by decide +kernel
theorem dX11_works_77 : decode cX11_works 77 = .ok (.iconst 1, 1) := by decide +kernel
theorem dX11_works_78 : decode cX11_works 78 = .ok (.goto 4, 3) := by decide +kernel
theorem dX11_works_81 : decode cX11_works 81 = .ok (.iconst 0, 1) := by decide +kernel
theorem dX11_works_82 : decode cX11_works 82 = .ok (.ireturn, 1) := by decide +kernel
theorem dX11_works_83 : decode cX11_works 83 = .ok (.iload_n 1, 1) := by decide +kernel
theorem dX11_works_84 : decode cX11_works 84 = .ok (.iload_n 2, 1) := by decide +kernel
theorem dX11_works_85 : decode cX11_works 85 = .ok (.if_icmp .ne 7, 3) := by decide +kernel
theorem dX11_works_88 : decode cX11_works 88 = .ok (.iconst 1, 1) := by decide +kernel
theorem dX11_works_89 : decode cX11_works 89 = .ok (.goto 4, 3) := by decide +kernel
theorem dX11_works_92 : decode cX11_works 92 = .ok (.iconst 0, 1) := by decide +kernel
theorem dX11_works_93 : decode cX11_works 93 = .ok (.ireturn, 1) := by decide +kernel
theorem dX11_works_94 : decode cX11_works 94 = .ok (.iload_n 1, 1) := by decide +kernel
theorem dX11_works_95 : decode cX11_works 95 = .ok (.iload_n 2, 1) := by decide +kernel
theorem dX11_works_96 : decode cX11_works 96 = .ok (.iadd, 1) := by decide +kernel
theorem dX11_works_97 : decode cX11_works 97 = .ok (.ireturn, 1) := by decide +kernel
theorem dX11_works_98 : decode cX11_works 98 = .ok (.iload_n 1, 1) := by decide +kernel
theorem dX11_works_99 : decode cX11_works 99 = .ok (.iload_n 2, 1) := by decide +kernel
theorem dX11_works_100 : decode cX11_works 100 = .ok (.isub, 1) := by decide +kernel
theorem dX11_works_101 : decode cX11_works 101 = .ok (.ireturn, 1) := by decide +kernel
theorem dX11_works_102 : decode cX11_works 102 = .ok (.iload_n 1, 1) := by decide +kernel
theorem dX11_works_103 : decode cX11_works 103 = .ok (.iload_n 2, 1) := by decide +kernel
theorem dX11_works_104 : decode cX11_works 104 = .ok (.imul, 1) := by decide +kernel
theorem dX11_works_105 : decode cX11_works 105 = .ok (.ireturn, 1) := by decide +kernel
theorem dX11_works_106 : decode cX11_works 106 = .ok (.iload_n 2, 1) := by decide +kernel
theorem dX11_works_107 : decode cX11_works 107 = .ok (.ifCond .ne 7, 3) := by decide +kernel
theorem dX11_works_110 : decode cX11_works 110 = .ok (.iconst 0, 1) := by decide +kernel
theorem dX11_works_111 : decode cX11_works 111 = .ok (.goto 6, 3) := by decide +kernel
theorem dX11_works_114 : decode cX11_works 114 = .ok (.iload_n 1, 1) := by decide +kernel
theorem dX11_works_115 : decode cX11_works 115 = .ok (.iload_n 2, 1) := by decide +kernel
theorem dX11_works_116 : decode cX11_works 116 = .ok (.idiv, 1) := by decide +kernel
theorem dX11_works_117 : decode cX11_works 117 = .ok (.ireturn, 1) := by decide +kernel
theorem dX11_worth_0 : decode cX11_worth 0 = .ok (.iconst 0, 1) := by decide +kernel
theorem dX11_worth_1 : decode cX11_worth 1 = .ok (.istore_n 3, 1) := by decide +kernel
theorem dX11_worth_2 : decode cX11_worth 2 = .ok (.sipush 1000, 3) := by decide +kernel
theorem dX11_worth_5 : decode cX11_worth 5 = .ok (.iload_n 1, 1) := by decide +kernel
theorem dX11_worth_6 : decode cX11_worth 6 = .ok (.imul, 1) := by decide +kernel
theorem dX11_worth_7 : decode cX11_worth 7 = .ok (.iload_n 2, 1) := by decide +kernel
theorem dX11_worth_8 : decode cX11_worth 8 = .ok (.iadd, 1) := by decide +kernel
theorem dX11_worth_9 : decode cX11_worth 9 = .ok (.istore 4, 2) := by decide +kernel
theorem dX11_worth_11 : decode cX11_worth 11 = .ok (.aload_n 0, 1) := by decide +kernel
theorem dX11_worth_12 : decode cX11_worth 12 = .ok (.getfield 38, 3) := by decide +kernel
theorem dX11_worth_15 : decode cX11_worth 15 = .ok (.iload 4, 2) := by decide +kernel
theorem dX11_worth_17 : decode cX11_worth 17 = .ok (.iaload, 1) := by decide +kernel
theorem dX11_worth_18 : decode cX11_worth 18 = .ok (.ifCond .eq 136, 3) := by decide +kernel
theorem dX11_worth_21 : decode cX11_worth 21 = .ok (.aload_n 0, 1) := by decide +kernel
theorem dX11_worth_22 : decode cX11_worth 22 = .ok (.getfield 38, 3) := by decide +kernel
theorem dX11_worth_25 : decode cX11_worth 25 = .ok (.iload 4, 2) := by decide +kernel
theorem dX11_worth_27 : decode cX11_worth 27 = .ok (.iaload, 1) := by decide +kernel
theorem dX11_worth_28 : decode cX11_worth 28 = .ok (.istore 5, 2) := by decide +kernel
theorem dX11_worth_30 : decode cX11_worth 30 = .ok (.iinc 4 1, 3) := by decide +kernel
theorem dX11_worth_33 : decode cX11_worth 33 = .ok (.iload 5, 2) := by decide +kernel
theorem dX11_worth_35 : decode cX11_worth 35 = .ok (.iconst 1, 1) := by decide +kernel
theorem dX11_worth_36 : decode cX11_worth 36 = .ok (.if_icmp .eq 9, 3) := by decide +kernel
theorem dX11_worth_39 : decode cX11_worth 39 = .ok (.iload 5, 2) := by decide +kernel
theorem dX11_worth_41 : decode cX11_worth 41 = .ok (.iconst 2, 1) := by decide +kernel
theorem dX11_worth_42 : decode cX11_worth 42 = .ok (.if_icmp .ne 46, 3) := by decide +kernel
theorem dX11_worth_45 : decode cX11_worth 45 = .ok (.aload_n 0, 1) := by decide +kernel
theorem dX11_worth_46 : decode cX11_worth 46 = .ok (.getfield 81, 3) := by decide +kernel
theorem dX11_worth_49 : decode cX11_worth 49 = .ok (.iload_n 3, 1) := by decide +kernel
theorem dX11_worth_50 : decode cX11_worth 50 = .ok (.iload 5, 2) := by decide +kernel
theorem dX11_worth_52 : decode cX11_worth 52 = .ok (.iconst 1, 1) := by decide +kernel
theorem dX11_worth_53 : decode cX11_worth 53 = .ok (.if_icmp .ne 13, 3) := by decide +kernel
theorem dX11_worth_56 : decode cX11_worth 56 = .ok (.aload_n 0, 1) := by decide +kernel
theorem dX11_worth_57 : decode cX11_worth 57 = .ok (.getfield 38, 3) := by decide +kernel
theorem dX11_worth_60 : decode cX11_worth 60 = .ok (.iload 4, 2) := by decide +kernel
theorem dX11_worth_62 : decode cX11_worth 62 = .ok (.iaload, 1) := by decide +kernel
theorem dX11_worth_63 : decode cX11_worth 63 = .ok (.goto 15, 3) := by decide +kernel
theorem dX11_worth_66 : decode cX11_worth 66 = .ok (.aload_n 0, 1) := by decide +kernel
theorem dX11_worth_67 : decode cX11_worth 67 = .ok (.iload_n 1, 1) := by decide +kernel
theorem dX11_worth_68 : decode cX11_worth 68 = .ok (.aload_n 0, 1) := by decide +kernel
theorem dX11_worth_69 : decode cX11_worth 69 = .ok (.getfield 38, 3) := by decide +kernel
theorem dX11_worth_72 : decode cX11_worth 72 = .ok (.iload 4, 2) := by decide +kernel
theorem dX11_worth_74 : decode cX11_worth 74 = .ok (.iaload, 1) := by decide +kernel
theorem dX11_worth_75 : decode cX11_worth 75 = .ok (.invokevirtual 332, 3) := by decide +kernel
theorem dX11_worth_78 : decode cX11_worth 78 = .ok (.iastore, 1) := by decide +kernel
theorem dX11_worth_79 : decode cX11_worth 79 = .ok (.iinc 4 1, 3) := by decide +kernel
theorem dX11_worth_82 : decode cX11_worth 82 = .ok (.iinc 3 1, 3) := by decide +kernel
theorem dX11_worth_85 : decode cX11_worth 85 = .ok (.goto 66, 3) := by decide +kernel
theorem dX11_worth_88 : decode cX11_worth 88 = .ok (.iload 5, 2) := by decide +kernel
theorem dX11_worth_90 : decode cX11_worth 90 = .ok (.iconst 3, 1) := by decide +kernel
theorem dX11_worth_91 : decode cX11_worth 91 = .ok (.if_icmp .ne 30, 3) := by decide +kernel
theorem dX11_worth_94 : decode cX11_worth 94 = .ok (.aload_n 0, 1) := by decide +kernel
theorem dX11_worth_95 : decode cX11_worth 95 = .ok (.getfield 81, 3) := by decide +kernel
theorem dX11_worth_98 : decode cX11_worth 98 = .ok (.iload_n 3, 1) := by decide +kernel
theorem dX11_worth_99 : decode cX11_worth 99 = .ok (.iconst 1, 1) := by decide +kernel
theorem dX11_worth_100 : decode cX11_worth 100 = .ok (.isub, 1) := by decide +kernel
theorem dX11_worth_101 : decode cX11_worth 101 = .ok (.aload_n 0, 1) := by decide +kernel
theorem dX11_worth_102 : decode cX11_worth 102 = .ok (.getfield 81, 3) := by decide +kernel
theorem dX11_worth_105 : decode cX11_worth 105 = .ok (.iload_n 3, 1) := by decide +kernel
theorem dX11_worth_106 : decode cX11_worth 106 = .ok (.iconst 1, 1) := by decide +kernel
theorem dX11_worth_107 : decode cX11_worth 107 = .ok (.isub, 1) := by decide +kernel
theorem dX11_worth_108 : decode cX11_worth 108 = .ok (.iaload, 1) := by decide +kernel
theorem dX11_worth_109 : decode cX11_worth 109 = .ok (.ifCond .ne 7, 3) := by decide +kernel
theorem dX11_worth_112 : decode cX11_worth 112 = .ok (.iconst 1, 1) := by decide +kernel
theorem dX11_worth_113 : decode cX11_worth 113 = .ok (.goto 4, 3) := by decide +kernel
theorem dX11_worth_116 : decode cX11_worth 116 = .ok (.iconst 0, 1) := by decide +kernel
theorem dX11_worth_117 : decode cX11_worth 117 = .ok (.iastore, 1) := by decide +kernel
theorem dX11_worth_118 : decode cX11_worth 118 = .ok (.goto 33, 3) := by decide +kernel
theorem dX11_worth_121 : decode cX11_worth 121 = .ok (.iinc 3 (-1), 3) := by decide +kernel
theorem dX11_worth_124 : decode cX11_worth 124 = .ok (.aload_n 0, 1) := by decide +kernel
theorem dX11_worth_125 : decode cX11_worth 125 = .ok (.getfield 81, 3) := by decide +kernel
theorem dX11_worth_128 : decode cX11_worth 128 = .ok (.iload_n 3, 1) := by decide +kernel
theorem dX11_worth_129 : decode cX11_worth 129 = .ok (.iconst 1, 1) := by decide +kernel
theorem dX11_worth_130 : decode cX11_worth 130 = .ok (.isub, 1) := by decide +kernel
theorem dX11_worth_131 : decode cX11_worth 131 = .ok (.iload 5, 2) := by decide +kernel
theorem dX11_worth_133 : decode cX11_worth 133 = .ok (.aload_n 0, 1) := by decide +kernel
theorem dX11_worth_134 : decode cX11_worth 134 = .ok (.getfield 81, 3) := by decide +kernel
theorem dX11_worth_137 : decode cX11_worth 137 = .ok (.iload_n 3, 1) := by decide +kernel
theorem dX11_worth_138 : decode cX11_worth 138 = .ok (.iconst 1, 1) := by decide +kernel
theorem dX11_worth_139 : decode cX11_worth 139 = .ok (.isub, 1) := by decide +kernel
theorem dX11_worth_140 : decode cX11_worth 140 = .ok (.iaload, 1) := by decide +kernel
theorem dX11_worth_141 : decode cX11_worth 141 = .ok (.aload_n 0, 1) := by decide +kernel
theorem dX11_worth_142 : decode cX11_worth 142 = .ok (.getfield 81, 3) := by decide +kernel
theorem dX11_worth_145 : decode cX11_worth 145 = .ok (.iload_n 3, 1) := by decide +kernel
theorem dX11_worth_146 : decode cX11_worth 146 = .ok (.iaload, 1) := by decide +kernel
theorem dX11_worth_147 : decode cX11_worth 147 = .ok (.invokestatic 336, 3) := by decide +kernel
theorem dX11_worth_150 : decode cX11_worth 150 = .ok (.iastore, 1) := by decide +kernel
theorem dX11_worth_151 : decode cX11_worth 151 = .ok (.goto (-140), 3) := by decide +kernel
theorem dX11_worth_154 : decode cX11_worth 154 = .ok (.aload_n 0, 1) := by decide +kernel
theorem dX11_worth_155 : decode cX11_worth 155 = .ok (.getfield 81, 3) := by decide +kernel
theorem dX11_worth_158 : decode cX11_worth 158 = .ok (.iconst 0, 1) := by decide +kernel
theorem dX11_worth_159 : decode cX11_worth 159 = .ok (.iaload, 1) := by decide +kernel
theorem dX11_worth_160 : decode cX11_worth 160 = .ok (.ireturn, 1) := by decide +kernel
theorem dX11_viewOf_0 : decode cX11_viewOf 0 = .ok (.iconst 0, 1) := by decide +kernel
theorem dX11_viewOf_1 : decode cX11_viewOf 1 = .ok (.istore_n 2, 1) := by decide +kernel
theorem dX11_viewOf_2 : decode cX11_viewOf 2 = .ok (.iconst 1, 1) := by decide +kernel
theorem dX11_viewOf_3 : decode cX11_viewOf 3 = .ok (.istore_n 3, 1) := by decide +kernel
theorem dX11_viewOf_4 : decode cX11_viewOf 4 = .ok (.iconst 0, 1) := by decide +kernel
theorem dX11_viewOf_5 : decode cX11_viewOf 5 = .ok (.istore 4, 2) := by decide +kernel
theorem dX11_viewOf_7 : decode cX11_viewOf 7 = .ok (.iload 4, 2) := by decide +kernel
theorem dX11_viewOf_9 : decode cX11_viewOf 9 = .ok (.aload_n 0, 1) := by decide +kernel
theorem dX11_viewOf_10 : decode cX11_viewOf 10 = .ok (.getfield 7, 3) := by decide +kernel
theorem dX11_viewOf_13 : decode cX11_viewOf 13 = .ok (.if_icmp .ge 45, 3) := by decide +kernel
theorem dX11_viewOf_16 : decode cX11_viewOf 16 = .ok (.aload_n 0, 1) := by decide +kernel
theorem dX11_viewOf_17 : decode cX11_viewOf 17 = .ok (.getfield 26, 3) := by decide +kernel
theorem dX11_viewOf_20 : decode cX11_viewOf 20 = .ok (.iload_n 1, 1) := by decide +kernel
theorem dX11_viewOf_21 : decode cX11_viewOf 21 = .ok (.iaload, 1) := by decide +kernel
theorem dX11_viewOf_22 : decode cX11_viewOf 22 = .ok (.iload 4, 2) := by decide +kernel
theorem dX11_viewOf_24 : decode cX11_viewOf 24 = .ok (.ishr, 1) := by decide +kernel
theorem dX11_viewOf_25 : decode cX11_viewOf 25 = .ok (.iconst 1, 1) := by decide +kernel
theorem dX11_viewOf_26 : decode cX11_viewOf 26 = .ok (.iand, 1) := by decide +kernel
theorem dX11_viewOf_27 : decode cX11_viewOf 27 = .ok (.ifCond .ne 6, 3) := by decide +kernel
theorem dX11_viewOf_30 : decode cX11_viewOf 30 = .ok (.goto 22, 3) := by decide +kernel
theorem dX11_viewOf_33 : decode cX11_viewOf 33 = .ok (.iload_n 2, 1) := by decide +kernel
theorem dX11_viewOf_34 : decode cX11_viewOf 34 = .ok (.iload_n 3, 1) := by decide +kernel
theorem dX11_viewOf_35 : decode cX11_viewOf 35 = .ok (.aload_n 0, 1) := by decide +kernel
theorem dX11_viewOf_36 : decode cX11_viewOf 36 = .ok (.getfield 75, 3) := by decide +kernel
theorem dX11_viewOf_39 : decode cX11_viewOf 39 = .ok (.iload 4, 2) := by decide +kernel
theorem dX11_viewOf_41 : decode cX11_viewOf 41 = .ok (.iaload, 1) := by decide +kernel
theorem dX11_viewOf_42 : decode cX11_viewOf 42 = .ok (.imul, 1) := by decide +kernel
theorem dX11_viewOf_43 : decode cX11_viewOf 43 = .ok (.iadd, 1) := by decide +kernel
theorem dX11_viewOf_44 : decode cX11_viewOf 44 = .ok (.istore_n 2, 1) := by decide +kernel
theorem dX11_viewOf_45 : decode cX11_viewOf 45 = .ok (.iload_n 3, 1) := by decide +kernel
theorem dX11_viewOf_46 : decode cX11_viewOf 46 = .ok (.aload_n 0, 1) := by decide +kernel
theorem dX11_viewOf_47 : decode cX11_viewOf 47 = .ok (.getfield 13, 3) := by decide +kernel
theorem dX11_viewOf_50 : decode cX11_viewOf 50 = .ok (.imul, 1) := by decide +kernel
theorem dX11_viewOf_51 : decode cX11_viewOf 51 = .ok (.istore_n 3, 1) := by decide +kernel
theorem dX11_viewOf_52 : decode cX11_viewOf 52 = .ok (.iinc 4 1, 3) := by decide +kernel
theorem dX11_viewOf_55 : decode cX11_viewOf 55 = .ok (.goto (-48), 3) := by decide +kernel
theorem dX11_viewOf_58 : decode cX11_viewOf 58 = .ok (.aload_n 0, 1) := by decide +kernel
theorem dX11_viewOf_59 : decode cX11_viewOf 59 = .ok (.iload_n 1, 1) := by decide +kernel
theorem dX11_viewOf_60 : decode cX11_viewOf 60 = .ok (.invokevirtual 181, 3) := by decide +kernel
theorem dX11_viewOf_63 : decode cX11_viewOf 63 = .ok (.istore 4, 2) := by decide +kernel
theorem dX11_viewOf_65 : decode cX11_viewOf 65 = .ok (.iconst 0, 1) := by decide +kernel
theorem dX11_viewOf_66 : decode cX11_viewOf 66 = .ok (.istore 5, 2) := by decide +kernel
theorem dX11_viewOf_68 : decode cX11_viewOf 68 = .ok (.iload 5, 2) := by decide +kernel
theorem dX11_viewOf_70 : decode cX11_viewOf 70 = .ok (.aload_n 0, 1) := by decide +kernel
theorem dX11_viewOf_71 : decode cX11_viewOf 71 = .ok (.getfield 7, 3) := by decide +kernel
theorem dX11_viewOf_74 : decode cX11_viewOf 74 = .ok (.if_icmp .ge 43, 3) := by decide +kernel
theorem dX11_viewOf_77 : decode cX11_viewOf 77 = .ok (.iload 4, 2) := by decide +kernel
theorem dX11_viewOf_79 : decode cX11_viewOf 79 = .ok (.iload 5, 2) := by decide +kernel
theorem dX11_viewOf_81 : decode cX11_viewOf 81 = .ok (.ishr, 1) := by decide +kernel
theorem dX11_viewOf_82 : decode cX11_viewOf 82 = .ok (.iconst 1, 1) := by decide +kernel
theorem dX11_viewOf_83 : decode cX11_viewOf 83 = .ok (.iand, 1) := by decide +kernel
theorem dX11_viewOf_84 : decode cX11_viewOf 84 = .ok (.ifCond .ne 6, 3) := by decide +kernel
theorem dX11_viewOf_87 : decode cX11_viewOf 87 = .ok (.goto 24, 3) := by decide +kernel
theorem dX11_viewOf_90 : decode cX11_viewOf 90 = .ok (.iload_n 2, 1) := by decide +kernel
theorem dX11_viewOf_91 : decode cX11_viewOf 91 = .ok (.iload_n 3, 1) := by decide +kernel
theorem dX11_viewOf_92 : decode cX11_viewOf 92 = .ok (.aload_n 0, 1) := by decide +kernel
theorem dX11_viewOf_93 : decode cX11_viewOf 93 = .ok (.getfield 78, 3) := by decide +kernel
theorem dX11_viewOf_96 : decode cX11_viewOf 96 = .ok (.iload 5, 2) := by decide +kernel
theorem dX11_viewOf_98 : decode cX11_viewOf 98 = .ok (.iaload, 1) := by decide +kernel
theorem dX11_viewOf_99 : decode cX11_viewOf 99 = .ok (.imul, 1) := by decide +kernel
theorem dX11_viewOf_100 : decode cX11_viewOf 100 = .ok (.iadd, 1) := by decide +kernel
theorem dX11_viewOf_101 : decode cX11_viewOf 101 = .ok (.istore_n 2, 1) := by decide +kernel
theorem dX11_viewOf_102 : decode cX11_viewOf 102 = .ok (.iload_n 3, 1) := by decide +kernel
theorem dX11_viewOf_103 : decode cX11_viewOf 103 = .ok (.aload_n 0, 1) := by decide +kernel
theorem dX11_viewOf_104 : decode cX11_viewOf 104 = .ok (.getfield 13, 3) := by decide +kernel
theorem dX11_viewOf_107 : decode cX11_viewOf 107 = .ok (.iconst 1, 1) := by decide +kernel
theorem dX11_viewOf_108 : decode cX11_viewOf 108 = .ok (.iadd, 1) := by decide +kernel
theorem dX11_viewOf_109 : decode cX11_viewOf 109 = .ok (.imul, 1) := by decide +kernel
theorem dX11_viewOf_110 : decode cX11_viewOf 110 = .ok (.istore_n 3, 1) := by decide +kernel
theorem dX11_viewOf_111 : decode cX11_viewOf 111 = .ok (.iinc 5 1, 3) := by decide +kernel
theorem dX11_viewOf_114 : decode cX11_viewOf 114 = .ok (.goto (-46), 3) := by decide +kernel
theorem dX11_viewOf_117 : decode cX11_viewOf 117 = .ok (.iload_n 2, 1) := by decide +kernel
theorem dX11_viewOf_118 : decode cX11_viewOf 118 = .ok (.ireturn, 1) := by decide +kernel
theorem dX11_guesses_0 : decode cX11_guesses 0 = .ok (.aload_n 0, 1) := by decide +kernel
theorem dX11_guesses_1 : decode cX11_guesses 1 = .ok (.getfield 32, 3) := by decide +kernel
theorem dX11_guesses_4 : decode cX11_guesses 4 = .ok (.iload_n 1, 1) := by decide +kernel
theorem dX11_guesses_5 : decode cX11_guesses 5 = .ok (.iaload, 1) := by decide +kernel
theorem dX11_guesses_6 : decode cX11_guesses 6 = .ok (.iconst 2, 1) := by decide +kernel
theorem dX11_guesses_7 : decode cX11_guesses 7 = .ok (.if_icmp .ne 5, 3) := by decide +kernel
theorem dX11_guesses_10 : decode cX11_guesses 10 = .ok (.iconst 0, 1) := by decide +kernel
theorem dX11_guesses_11 : decode cX11_guesses 11 = .ok (.ireturn, 1) := by decide +kernel
theorem dX11_guesses_12 : decode cX11_guesses 12 = .ok (.aload_n 0, 1) := by decide +kernel
theorem dX11_guesses_13 : decode cX11_guesses 13 = .ok (.getfield 32, 3) := by decide +kernel
theorem dX11_guesses_16 : decode cX11_guesses 16 = .ok (.iload_n 1, 1) := by decide +kernel
theorem dX11_guesses_17 : decode cX11_guesses 17 = .ok (.iaload, 1) := by decide +kernel
theorem dX11_guesses_18 : decode cX11_guesses 18 = .ok (.ifCond .ne 20, 3) := by decide +kernel
theorem dX11_guesses_21 : decode cX11_guesses 21 = .ok (.aload_n 0, 1) := by decide +kernel
theorem dX11_guesses_22 : decode cX11_guesses 22 = .ok (.getfield 35, 3) := by decide +kernel
theorem dX11_guesses_25 : decode cX11_guesses 25 = .ok (.sipush 1024, 3) := by decide +kernel
theorem dX11_guesses_28 : decode cX11_guesses 28 = .ok (.iload_n 1, 1) := by decide +kernel
theorem dX11_guesses_29 : decode cX11_guesses 29 = .ok (.imul, 1) := by decide +kernel
theorem dX11_guesses_30 : decode cX11_guesses 30 = .ok (.aload_n 0, 1) := by decide +kernel
theorem dX11_guesses_31 : decode cX11_guesses 31 = .ok (.iload_n 1, 1) := by decide +kernel
theorem dX11_guesses_32 : decode cX11_guesses 32 = .ok (.invokevirtual 339, 3) := by decide +kernel
theorem dX11_guesses_35 : decode cX11_guesses 35 = .ok (.iadd, 1) := by decide +kernel
theorem dX11_guesses_36 : decode cX11_guesses 36 = .ok (.iaload, 1) := by decide +kernel
theorem dX11_guesses_37 : decode cX11_guesses 37 = .ok (.ireturn, 1) := by decide +kernel
theorem dX11_guesses_38 : decode cX11_guesses 38 = .ok (.aload_n 0, 1) := by decide +kernel
theorem dX11_guesses_39 : decode cX11_guesses 39 = .ok (.getfield 41, 3) := by decide +kernel
theorem dX11_guesses_42 : decode cX11_guesses 42 = .ok (.iload_n 1, 1) := by decide +kernel
theorem dX11_guesses_43 : decode cX11_guesses 43 = .ok (.iaload, 1) := by decide +kernel
theorem dX11_guesses_44 : decode cX11_guesses 44 = .ok (.iconst (-1), 1) := by decide +kernel
theorem dX11_guesses_45 : decode cX11_guesses 45 = .ok (.if_icmp .eq 22, 3) := by decide +kernel
theorem dX11_guesses_48 : decode cX11_guesses 48 = .ok (.aload_n 0, 1) := by decide +kernel
theorem dX11_guesses_49 : decode cX11_guesses 49 = .ok (.iload_n 1, 1) := by decide +kernel
theorem dX11_guesses_50 : decode cX11_guesses 50 = .ok (.aload_n 0, 1) := by decide +kernel
theorem dX11_guesses_51 : decode cX11_guesses 51 = .ok (.getfield 41, 3) := by decide +kernel
theorem dX11_guesses_54 : decode cX11_guesses 54 = .ok (.iload_n 1, 1) := by decide +kernel
theorem dX11_guesses_55 : decode cX11_guesses 55 = .ok (.iaload, 1) := by decide +kernel
theorem dX11_guesses_56 : decode cX11_guesses 56 = .ok (.invokevirtual 342, 3) := by decide +kernel
theorem dX11_guesses_59 : decode cX11_guesses 59 = .ok (.ifCond .eq 8, 3) := by decide +kernel
theorem dX11_guesses_62 : decode cX11_guesses 62 = .ok (.aload_n 0, 1) := by decide +kernel
theorem dX11_guesses_63 : decode cX11_guesses 63 = .ok (.getfield 13, 3) := by decide +kernel
theorem dX11_guesses_66 : decode cX11_guesses 66 = .ok (.ireturn, 1) := by decide +kernel
theorem dX11_guesses_67 : decode cX11_guesses 67 = .ok (.aload_n 0, 1) := by decide +kernel
theorem dX11_guesses_68 : decode cX11_guesses 68 = .ok (.iload_n 1, 1) := by decide +kernel
theorem dX11_guesses_69 : decode cX11_guesses 69 = .ok (.aload_n 0, 1) := by decide +kernel
theorem dX11_guesses_70 : decode cX11_guesses 70 = .ok (.getfield 44, 3) := by decide +kernel
theorem dX11_guesses_73 : decode cX11_guesses 73 = .ok (.iload_n 1, 1) := by decide +kernel
theorem dX11_guesses_74 : decode cX11_guesses 74 = .ok (.iaload, 1) := by decide +kernel
theorem dX11_guesses_75 : decode cX11_guesses 75 = .ok (.invokevirtual 342, 3) := by decide +kernel
theorem dX11_guesses_78 : decode cX11_guesses 78 = .ok (.aload_n 0, 1) := by decide +kernel
theorem dX11_guesses_79 : decode cX11_guesses 79 = .ok (.getfield 13, 3) := by decide +kernel
theorem dX11_guesses_82 : decode cX11_guesses 82 = .ok (.irem, 1) := by decide +kernel
theorem dX11_guesses_83 : decode cX11_guesses 83 = .ok (.istore_n 2, 1) := by decide +kernel
theorem dX11_guesses_84 : decode cX11_guesses 84 = .ok (.iload_n 2, 1) := by decide +kernel
theorem dX11_guesses_85 : decode cX11_guesses 85 = .ok (.ifCond .ge 12, 3) := by decide +kernel
theorem dX11_guesses_88 : decode cX11_guesses 88 = .ok (.iload_n 2, 1) := by decide +kernel
theorem dX11_guesses_89 : decode cX11_guesses 89 = .ok (.aload_n 0, 1) := by decide +kernel
theorem dX11_guesses_90 : decode cX11_guesses 90 = .ok (.getfield 13, 3) := by decide +kernel
theorem dX11_guesses_93 : decode cX11_guesses 93 = .ok (.iadd, 1) := by decide +kernel
theorem dX11_guesses_94 : decode cX11_guesses 94 = .ok (.goto 4, 3) := by decide +kernel
theorem dX11_guesses_97 : decode cX11_guesses 97 = .ok (.iload_n 2, 1) := by decide +kernel
theorem dX11_guesses_98 : decode cX11_guesses 98 = .ok (.ireturn, 1) := by decide +kernel
theorem dX11_worksRow_0 : decode cX11_worksRow 0 = .ok (.aload_n 0, 1) := by decide +kernel
theorem dX11_worksRow_1 : decode cX11_worksRow 1 = .ok (.iload_n 1, 1) := by decide +kernel
theorem dX11_worksRow_2 : decode cX11_worksRow 2 = .ok (.invokevirtual 345, 3) := by decide +kernel
theorem dX11_worksRow_5 : decode cX11_worksRow 5 = .ok (.iconst 0, 1) := by decide +kernel
theorem dX11_worksRow_6 : decode cX11_worksRow 6 = .ok (.istore_n 2, 1) := by decide +kernel
theorem dX11_worksRow_7 : decode cX11_worksRow 7 = .ok (.iload_n 2, 1) := by decide +kernel
theorem dX11_worksRow_8 : decode cX11_worksRow 8 = .ok (.bipush 8, 2) := by decide +kernel
theorem dX11_worksRow_10 : decode cX11_worksRow 10 = .ok (.if_icmp .ge 46, 3) := by decide +kernel
theorem dX11_worksRow_13 : decode cX11_worksRow 13 = .ok (.iconst 0, 1) := by decide +kernel
theorem dX11_worksRow_14 : decode cX11_worksRow 14 = .ok (.istore_n 3, 1) := by decide +kernel
theorem dX11_worksRow_15 : decode cX11_worksRow 15 = .ok (.iload_n 3, 1) := by decide +kernel
theorem dX11_worksRow_16 : decode cX11_worksRow 16 = .ok (.aload_n 0, 1) := by decide +kernel
theorem dX11_worksRow_17 : decode cX11_worksRow 17 = .ok (.getfield 7, 3) := by decide +kernel
theorem dX11_worksRow_20 : decode cX11_worksRow 20 = .ok (.if_icmp .ge 30, 3) := by decide +kernel
theorem dX11_worksRow_23 : decode cX11_worksRow 23 = .ok (.aload_n 0, 1) := by decide +kernel
theorem dX11_worksRow_24 : decode cX11_worksRow 24 = .ok (.getfield 29, 3) := by decide +kernel
theorem dX11_worksRow_27 : decode cX11_worksRow 27 = .ok (.iload_n 3, 1) := by decide +kernel
theorem dX11_worksRow_28 : decode cX11_worksRow 28 = .ok (.iaload, 1) := by decide +kernel
theorem dX11_worksRow_29 : decode cX11_worksRow 29 = .ok (.iload_n 2, 1) := by decide +kernel
theorem dX11_worksRow_30 : decode cX11_worksRow 30 = .ok (.if_icmp .ne 14, 3) := by decide +kernel
theorem dX11_worksRow_33 : decode cX11_worksRow 33 = .ok (.aload_n 0, 1) := by decide +kernel
theorem dX11_worksRow_34 : decode cX11_worksRow 34 = .ok (.getfield 78, 3) := by decide +kernel
theorem dX11_worksRow_37 : decode cX11_worksRow 37 = .ok (.iload_n 3, 1) := by decide +kernel
theorem dX11_worksRow_38 : decode cX11_worksRow 38 = .ok (.aload_n 0, 1) := by decide +kernel
theorem dX11_worksRow_39 : decode cX11_worksRow 39 = .ok (.iload_n 3, 1) := by decide +kernel
theorem dX11_worksRow_40 : decode cX11_worksRow 40 = .ok (.invokevirtual 348, 3) := by decide +kernel
theorem dX11_worksRow_43 : decode cX11_worksRow 43 = .ok (.iastore, 1) := by decide +kernel
theorem dX11_worksRow_44 : decode cX11_worksRow 44 = .ok (.iinc 3 1, 3) := by decide +kernel
theorem dX11_worksRow_47 : decode cX11_worksRow 47 = .ok (.goto (-32), 3) := by decide +kernel
theorem dX11_worksRow_50 : decode cX11_worksRow 50 = .ok (.iinc 2 1, 3) := by decide +kernel
theorem dX11_worksRow_53 : decode cX11_worksRow 53 = .ok (.goto (-46), 3) := by decide +kernel
theorem dX11_worksRow_56 : decode cX11_worksRow 56 = .ok (.return_, 1) := by decide +kernel
section
variable {p : Program} {l : Launch} {e : Env} {R : Room} {s : State} {m : MethodId} {args : Array Value} {below : List Frame} {meth : Method} {c : Code} {D : va_G} {cA : Nat → ClassId} {z : Nat} {A : Nat → Prop} {T : HR}
theorem wkM_rule_b127 {I : HI} {J : HJ} {x1 : Int32} {x2 : Int32} {x3 : Int32} {Q : HI → HJ → Prop} (X : hX p m c s args RX11 cX11_rule 4) (hr : meth.sig.returnType = none) (hlk : meth.locks = false) (hR : 6 ≤ R.frames ∧ 137 ≤ R.locals)   : ∀ {ls : Array Slot} {H : Heap} {locs : List Loc}, M_rule_b127 I J x1 x2 x3 Q → hW D cA z Ev0 (I, J, T, FM, LM) A s H locs → lv_has ls 4 [(0, .ref (z + 0)), (1, .int x1), (2, .int x2), (3, .int x3)] → W p l e R s m args below meth c H locs 0 0 (MQ below (va_Qv (pIJv T FM LM Q) (hB D cA z A) A) args s 0 0 A) (F0 m 127 ls []) := by
  have hx := X.1
  have hb := X.2.1
  intro ls H locs h hw hl
  unfold M_rule_b127 at h
  refine lv_aload_n hx hb dX11_rule_127 rfl (lv_at hl 0 rfl) ?_
  refine hm_calli hw (hm_runV (rest := []) hCl_true X hw (cM_isGood  h) ykM_isGood kw1636 rfl LM_0 rfl hl.1 rfl rfl rfl (Nat.le_of_ble_eq_true rfl) ⟨Nat.le_trans (Nat.le_of_ble_eq_true rfl) hR.1, Nat.le_trans (Nat.le_of_ble_eq_true rfl) hR.2⟩ ⟨Nat.zero_le _, Nat.zero_le _⟩ dX11_rule_128) (fun r27 u28 H locs hp hw => ?_)
  obtain ⟨rfl, h⟩ := hp
  refine lv_if_ne (tgt := 135) hx hb dX11_rule_131 (by decide) (fun hc => ?_) (fun hc => ?_)
  · have h := Eq.mp (if_neg hc) h
    refine lv_aload_n hx hb dX11_rule_135 rfl (lv_at hl 0 rfl) ?_
    refine hm_callv hw (hm_runV (rest := []) hCl_true X hw (cM_goes  h) ykM_goes kw1622 rfl LM_0 rfl hl.1 rfl rfl rfl (Nat.le_of_ble_eq_true rfl) ⟨Nat.le_trans (Nat.le_of_ble_eq_true rfl) hR.1, Nat.le_trans (Nat.le_of_ble_eq_true rfl) hR.2⟩ ⟨Nat.zero_le _, Nat.zero_le _⟩ dX11_rule_136) (fun u31 H locs hp hw => ?_)
    obtain ⟨I29, J30, rfl, h⟩ := hp
    refine lv_aload_n hx hb dX11_rule_139 rfl (lv_at hl 0 rfl) ?_
    refine hm_getr X hw lkM_56 LM_0 (b := 11) rfl dX11_rule_140 ?_
    refine lv_aload_n hx hb dX11_rule_143 rfl (lv_at hl 0 rfl) ?_
    refine hm_geti X hw lkM_315 LM_0 dX11_rule_144 ?_
    refine lv_iload_n hx hb dX11_rule_147 rfl (lv_at hl 1 rfl) ?_
    obtain ⟨hi, h⟩ := h
    refine hm_iast X hw LM_11 hi dX11_rule_148 (fun H locs hw => ?_)
    refine lv_aload_n hx hb dX11_rule_149 rfl (lv_at hl 0 rfl) ?_
    refine hm_getr X hw lkM_59 LM_0 (b := 12) rfl dX11_rule_150 ?_
    refine lv_aload_n hx hb dX11_rule_153 rfl (lv_at hl 0 rfl) ?_
    refine hm_geti X hw lkM_315 LM_0 dX11_rule_154 ?_
    refine lv_iload_n hx hb dX11_rule_157 rfl (lv_at hl 2 rfl) ?_
    obtain ⟨hi, h⟩ := h
    refine hm_iast X hw LM_12 hi dX11_rule_158 (fun H locs hw => ?_)
    refine lv_aload_n hx hb dX11_rule_159 rfl (lv_at hl 0 rfl) ?_
    refine hm_getr X hw lkM_62 LM_0 (b := 13) rfl dX11_rule_160 ?_
    refine lv_aload_n hx hb dX11_rule_163 rfl (lv_at hl 0 rfl) ?_
    refine hm_geti X hw lkM_315 LM_0 dX11_rule_164 ?_
    refine lv_iload_n hx hb dX11_rule_167 rfl (lv_at hl 3 rfl) ?_
    obtain ⟨hi, h⟩ := h
    refine hm_iast X hw LM_13 hi dX11_rule_168 (fun H locs hw => ?_)
    refine lv_aload_n hx hb dX11_rule_169 rfl (lv_at hl 0 rfl) ?_
    refine lv_dup hx hb dX11_rule_170 rfl ?_
    refine hm_geti X hw lkM_315 LM_0 dX11_rule_171 ?_
    refine lv_iconst (v := 1) hx hb dX11_rule_174 (by decide) ?_
    refine lv_iadd hx hb dX11_rule_175 ?_
    refine hm_puti X hw lkM_315 LM_0 rfl rfl dX11_rule_176 (fun H locs hw => ?_)
    exact hm_vret X hr hlk hw ⟨_, _, rfl, h⟩ dX11_rule_179
  · have h := Eq.mp (if_pos hc) h
    exact hm_vret X hr hlk hw ⟨_, _, rfl, h⟩ dX11_rule_134

theorem wkM_rule_b89 {I : HI} {J : HJ} {x1 : Int32} {x2 : Int32} {Q : HI → HJ → Prop} (X : hX p m c s args RX11 cX11_rule 4) (hr : meth.sig.returnType = none) (hlk : meth.locks = false) (hR : 6 ≤ R.frames ∧ 137 ≤ R.locals)   : ∀ {ls : Array Slot} {H : Heap} {locs : List Loc}, M_rule_b89 I J x1 x2 Q → hW D cA z Ev0 (I, J, T, FM, LM) A s H locs → lv_has ls 4 [(0, .ref (z + 0)), (1, .int x1), (2, .int x2)] → W p l e R s m args below meth c H locs 0 0 (MQ below (va_Qv (pIJv T FM LM Q) (hB D cA z A) A) args s 0 0 A) (F0 m 89 ls []) := by
  have hx := X.1
  have hb := X.2.1
  intro ls H locs h hw hl
  unfold M_rule_b89 at h
  refine lv_aload_n hx hb dX11_rule_89 rfl (lv_at hl 0 rfl) ?_
  refine hm_calli hw (hm_runV (rest := []) hCl_true X hw (cM_isGood  h) ykM_isGood kw1636 rfl LM_0 rfl hl.1 rfl rfl rfl (Nat.le_of_ble_eq_true rfl) ⟨Nat.le_trans (Nat.le_of_ble_eq_true rfl) hR.1, Nat.le_trans (Nat.le_of_ble_eq_true rfl) hR.2⟩ ⟨Nat.zero_le _, Nat.zero_le _⟩ dX11_rule_90) (fun r16 u17 H locs hp hw => ?_)
  obtain ⟨rfl, h⟩ := hp
  refine lv_if_ne (tgt := 97) hx hb dX11_rule_93 (by decide) (fun hc => ?_) (fun hc => ?_)
  · have h := Eq.mp (if_neg hc) h
    refine lv_aload_n hx hb dX11_rule_97 rfl (lv_at hl 0 rfl) ?_
    refine hm_callv hw (hm_runV (rest := []) hCl_true X hw (cM_goes  h) ykM_goes kw1622 rfl LM_0 rfl hl.1 rfl rfl rfl (Nat.le_of_ble_eq_true rfl) ⟨Nat.le_trans (Nat.le_of_ble_eq_true rfl) hR.1, Nat.le_trans (Nat.le_of_ble_eq_true rfl) hR.2⟩ ⟨Nat.zero_le _, Nat.zero_le _⟩ dX11_rule_98) (fun u20 H locs hp hw => ?_)
    obtain ⟨I18, J19, rfl, h⟩ := hp
    refine lv_aload_n hx hb dX11_rule_101 rfl (lv_at hl 0 rfl) ?_
    refine hm_calli hw (hm_runV (rest := []) hCl_true X hw (cM_expression  h) ykM_expression kw1662 rfl LM_0 rfl hl.1 rfl rfl rfl (Nat.le_of_ble_eq_true rfl) ⟨Nat.le_trans (Nat.le_of_ble_eq_true rfl) hR.1, Nat.le_trans (Nat.le_of_ble_eq_true rfl) hR.2⟩ ⟨Nat.zero_le _, Nat.zero_le _⟩ dX11_rule_102) (fun r21 u24 H locs hp hw => ?_)
    obtain ⟨I22, J23, rfl, h⟩ := hp
    refine lv_istore_n (lv' := [(3, _), (0, _), (1, _), (2, _)]) hx hb dX11_rule_105 rfl hl (by decide) rfl (fun ls hl => ?_)
    refine lv_aload_n hx hb dX11_rule_106 rfl (lv_at hl 1 rfl) ?_
    refine hm_calli hw (hm_runV (rest := []) hCl_true X hw (cM_isGood  h) ykM_isGood kw1636 rfl LM_0 rfl hl.1 rfl rfl rfl (Nat.le_of_ble_eq_true rfl) ⟨Nat.le_trans (Nat.le_of_ble_eq_true rfl) hR.1, Nat.le_trans (Nat.le_of_ble_eq_true rfl) hR.2⟩ ⟨Nat.zero_le _, Nat.zero_le _⟩ dX11_rule_107) (fun r25 u26 H locs hp hw => ?_)
    obtain ⟨rfl, h⟩ := hp
    refine lv_if_eq (tgt := 127) hx hb dX11_rule_110 (by decide) (fun hc => ?_) (fun hc => ?_)
    · have h := Eq.mp (if_pos hc) h
      exact wkM_rule_b127 X hr hlk hR   h hw (lv_sub hl [1, 2, 3, 0] rfl)
    · have h := Eq.mp (if_neg hc) h
      refine lv_aload_n hx hb dX11_rule_113 rfl (lv_at hl 1 rfl) ?_
      refine lv_bipush (v := 59) hx hb dX11_rule_114 (by decide) ?_
      refine hm_calli hw (hm_runV (rest := []) hCl_true X hw (cM_isSign  h) ykM_isSign kw1670 rfl LM_0 rfl hl.1 rfl rfl rfl (Nat.le_of_ble_eq_true rfl) ⟨Nat.le_trans (Nat.le_of_ble_eq_true rfl) hR.1, Nat.le_trans (Nat.le_of_ble_eq_true rfl) hR.2⟩ ⟨Nat.zero_le _, Nat.zero_le _⟩ dX11_rule_116) (fun r32 u33 H locs hp hw => ?_)
      obtain ⟨rfl, h⟩ := hp
      refine lv_if_ne (tgt := 127) hx hb dX11_rule_119 (by decide) (fun hc => ?_) (fun hc => ?_)
      · have h := Eq.mp (if_neg hc) h
        exact wkM_rule_b127 X hr hlk hR   h hw (lv_sub hl [1, 2, 3, 0] rfl)
      · have h := Eq.mp (if_pos hc) h
        refine lv_aload_n hx hb dX11_rule_122 rfl (lv_at hl 1 rfl) ?_
        refine lv_iconst (v := 1) hx hb dX11_rule_123 (by decide) ?_
        refine hm_callv hw (hm_runV (rest := []) hCl_true X hw (cM_wrong  h) ykM_wrong kw1654 rfl LM_0 rfl hl.1 rfl rfl rfl (Nat.le_of_ble_eq_true rfl) ⟨Nat.le_trans (Nat.le_of_ble_eq_true rfl) hR.1, Nat.le_trans (Nat.le_of_ble_eq_true rfl) hR.2⟩ ⟨Nat.zero_le _, Nat.zero_le _⟩ dX11_rule_124) (fun u35 H locs hp hw => ?_)
        obtain ⟨I34, rfl, h⟩ := hp
        exact wkM_rule_b127 X hr hlk hR   h hw (lv_sub hl [1, 2, 3, 0] rfl)
  · have h := Eq.mp (if_pos hc) h
    exact hm_vret X hr hlk hw ⟨_, _, rfl, h⟩ dX11_rule_96

theorem wkM_rule_b69 {I : HI} {J : HJ} {x1 : Int32} {x2 : Int32} {Q : HI → HJ → Prop} (X : hX p m c s args RX11 cX11_rule 4) (hr : meth.sig.returnType = none) (hlk : meth.locks = false) (hR : 6 ≤ R.frames ∧ 137 ≤ R.locals)   : ∀ {ls : Array Slot} {H : Heap} {locs : List Loc}, M_rule_b69 I J x1 x2 Q → hW D cA z Ev0 (I, J, T, FM, LM) A s H locs → lv_has ls 4 [(0, .ref (z + 0)), (1, .int x1), (2, .int x2)] → W p l e R s m args below meth c H locs 0 0 (MQ below (va_Qv (pIJv T FM LM Q) (hB D cA z A) A) args s 0 0 A) (F0 m 69 ls []) := by
  have hx := X.1
  have hb := X.2.1
  intro ls H locs h hw hl
  unfold M_rule_b69 at h
  refine lv_aload_n hx hb dX11_rule_69 rfl (lv_at hl 0 rfl) ?_
  refine hm_calli hw (hm_runV (rest := []) hCl_true X hw (cM_isGood  h) ykM_isGood kw1636 rfl LM_0 rfl hl.1 rfl rfl rfl (Nat.le_of_ble_eq_true rfl) ⟨Nat.le_trans (Nat.le_of_ble_eq_true rfl) hR.1, Nat.le_trans (Nat.le_of_ble_eq_true rfl) hR.2⟩ ⟨Nat.zero_le _, Nat.zero_le _⟩ dX11_rule_70) (fun r14 u15 H locs hp hw => ?_)
  obtain ⟨rfl, h⟩ := hp
  refine lv_if_eq (tgt := 89) hx hb dX11_rule_73 (by decide) (fun hc => ?_) (fun hc => ?_)
  · have h := Eq.mp (if_pos hc) h
    exact wkM_rule_b89 X hr hlk hR   h hw (lv_sub hl [0, 1, 2] rfl)
  · have h := Eq.mp (if_neg hc) h
    refine lv_aload_n hx hb dX11_rule_76 rfl (lv_at hl 0 rfl) ?_
    refine hm_calli hw (hm_runV (rest := []) hCl_true X hw (cM_knownWord  h) ykM_knownWord kw1644 rfl LM_0 rfl hl.1 rfl rfl rfl (Nat.le_of_ble_eq_true rfl) ⟨Nat.le_trans (Nat.le_of_ble_eq_true rfl) hR.1, Nat.le_trans (Nat.le_of_ble_eq_true rfl) hR.2⟩ ⟨Nat.zero_le _, Nat.zero_le _⟩ dX11_rule_77) (fun r36 u37 H locs hp hw => ?_)
    obtain ⟨rfl, h⟩ := hp
    refine lv_iconst (v := 2) hx hb dX11_rule_80 (by decide) ?_
    refine lv_icmp_eq (tgt := 89) hx hb dX11_rule_81 (by decide) (fun hc => ?_) (fun hc => ?_)
    · have h := Eq.mp (if_pos hc) h
      exact wkM_rule_b89 X hr hlk hR   h hw (lv_sub hl [0, 1, 2] rfl)
    · have h := Eq.mp (if_neg hc) h
      refine lv_aload_n hx hb dX11_rule_84 rfl (lv_at hl 0 rfl) ?_
      refine lv_iconst (v := 1) hx hb dX11_rule_85 (by decide) ?_
      refine hm_callv hw (hm_runV (rest := []) hCl_true X hw (cM_wrong  h) ykM_wrong kw1654 rfl LM_0 rfl hl.1 rfl rfl rfl (Nat.le_of_ble_eq_true rfl) ⟨Nat.le_trans (Nat.le_of_ble_eq_true rfl) hR.1, Nat.le_trans (Nat.le_of_ble_eq_true rfl) hR.2⟩ ⟨Nat.zero_le _, Nat.zero_le _⟩ dX11_rule_86) (fun u39 H locs hp hw => ?_)
      obtain ⟨I38, rfl, h⟩ := hp
      exact wkM_rule_b89 X hr hlk hR   h hw (lv_sub hl [0, 1, 2] rfl)

theorem wkM_rule_b26 {I : HI} {J : HJ} {Q : HI → HJ → Prop} (X : hX p m c s args RX11 cX11_rule 4) (hr : meth.sig.returnType = none) (hlk : meth.locks = false) (hR : 6 ≤ R.frames ∧ 137 ≤ R.locals)   : ∀ {ls : Array Slot} {H : Heap} {locs : List Loc}, M_rule_b26 I J Q → hW D cA z Ev0 (I, J, T, FM, LM) A s H locs → lv_has ls 4 [(0, .ref (z + 0))] → W p l e R s m args below meth c H locs 0 0 (MQ below (va_Qv (pIJv T FM LM Q) (hB D cA z A) A) args s 0 0 A) (F0 m 26 ls []) := by
  have hx := X.1
  have hb := X.2.1
  intro ls H locs h hw hl
  unfold M_rule_b26 at h
  refine lv_aload_n hx hb dX11_rule_26 rfl (lv_at hl 0 rfl) ?_
  refine hm_calli hw (hm_runV (rest := []) hCl_true X hw (cM_isGood  h) ykM_isGood kw1636 rfl LM_0 rfl hl.1 rfl rfl rfl (Nat.le_of_ble_eq_true rfl) ⟨Nat.le_trans (Nat.le_of_ble_eq_true rfl) hR.1, Nat.le_trans (Nat.le_of_ble_eq_true rfl) hR.2⟩ ⟨Nat.zero_le _, Nat.zero_le _⟩ dX11_rule_27) (fun r3 u4 H locs hp hw => ?_)
  obtain ⟨rfl, h⟩ := hp
  refine lv_if_ne (tgt := 34) hx hb dX11_rule_30 (by decide) (fun hc => ?_) (fun hc => ?_)
  · have h := Eq.mp (if_neg hc) h
    refine lv_aload_n hx hb dX11_rule_34 rfl (lv_at hl 0 rfl) ?_
    refine hm_callv hw (hm_runV (rest := []) hCl_true X hw (cM_goes  h) ykM_goes kw1622 rfl LM_0 rfl hl.1 rfl rfl rfl (Nat.le_of_ble_eq_true rfl) ⟨Nat.le_trans (Nat.le_of_ble_eq_true rfl) hR.1, Nat.le_trans (Nat.le_of_ble_eq_true rfl) hR.2⟩ ⟨Nat.zero_le _, Nat.zero_le _⟩ dX11_rule_35) (fun u7 H locs hp hw => ?_)
    obtain ⟨I5, J6, rfl, h⟩ := hp
    refine lv_aload_n hx hb dX11_rule_38 rfl (lv_at hl 0 rfl) ?_
    refine hm_calli hw (hm_runV (rest := []) hCl_true X hw (cM_wearer  h) ykM_wearer kw1658 rfl LM_0 rfl hl.1 rfl rfl rfl (Nat.le_of_ble_eq_true rfl) ⟨Nat.le_trans (Nat.le_of_ble_eq_true rfl) hR.1, Nat.le_trans (Nat.le_of_ble_eq_true rfl) hR.2⟩ ⟨Nat.zero_le _, Nat.zero_le _⟩ dX11_rule_39) (fun r8 u11 H locs hp hw => ?_)
    obtain ⟨I9, J10, rfl, h⟩ := hp
    refine lv_istore_n (lv' := [(1, _), (0, _)]) hx hb dX11_rule_42 rfl hl (by decide) rfl (fun ls hl => ?_)
    refine lv_iconst (v := (-1)) hx hb dX11_rule_43 (by decide) ?_
    refine lv_istore_n (lv' := [(2, _), (1, _), (0, _)]) hx hb dX11_rule_44 rfl hl (by decide) rfl (fun ls hl => ?_)
    refine lv_aload_n hx hb dX11_rule_45 rfl (lv_at hl 2 rfl) ?_
    refine hm_calli hw (hm_runV (rest := []) hCl_true X hw (cM_isGood  h) ykM_isGood kw1636 rfl LM_0 rfl hl.1 rfl rfl rfl (Nat.le_of_ble_eq_true rfl) ⟨Nat.le_trans (Nat.le_of_ble_eq_true rfl) hR.1, Nat.le_trans (Nat.le_of_ble_eq_true rfl) hR.2⟩ ⟨Nat.zero_le _, Nat.zero_le _⟩ dX11_rule_46) (fun r12 u13 H locs hp hw => ?_)
    obtain ⟨rfl, h⟩ := hp
    refine lv_if_eq (tgt := 69) hx hb dX11_rule_49 (by decide) (fun hc => ?_) (fun hc => ?_)
    · have h := Eq.mp (if_pos hc) h
      exact wkM_rule_b69 X hr hlk hR   h hw (lv_sub hl [2, 1, 0] rfl)
    · have h := Eq.mp (if_neg hc) h
      refine lv_aload_n hx hb dX11_rule_52 rfl (lv_at hl 2 rfl) ?_
      refine hm_calli hw (hm_runV (rest := []) hCl_true X hw (cM_knownWord  h) ykM_knownWord kw1644 rfl LM_0 rfl hl.1 rfl rfl rfl (Nat.le_of_ble_eq_true rfl) ⟨Nat.le_trans (Nat.le_of_ble_eq_true rfl) hR.1, Nat.le_trans (Nat.le_of_ble_eq_true rfl) hR.2⟩ ⟨Nat.zero_le _, Nat.zero_le _⟩ dX11_rule_53) (fun r40 u41 H locs hp hw => ?_)
      obtain ⟨rfl, h⟩ := hp
      refine lv_iconst (v := 1) hx hb dX11_rule_56 (by decide) ?_
      refine lv_icmp_ne (tgt := 69) hx hb dX11_rule_57 (by decide) (fun hc => ?_) (fun hc => ?_)
      · have h := Eq.mp (if_neg hc) h
        exact wkM_rule_b69 X hr hlk hR   h hw (lv_sub hl [2, 1, 0] rfl)
      · have h := Eq.mp (if_pos hc) h
        refine lv_aload_n hx hb dX11_rule_60 rfl (lv_at hl 2 rfl) ?_
        refine hm_callv hw (hm_runV (rest := []) hCl_true X hw (cM_goes  h) ykM_goes kw1622 rfl LM_0 rfl hl.1 rfl rfl rfl (Nat.le_of_ble_eq_true rfl) ⟨Nat.le_trans (Nat.le_of_ble_eq_true rfl) hR.1, Nat.le_trans (Nat.le_of_ble_eq_true rfl) hR.2⟩ ⟨Nat.zero_le _, Nat.zero_le _⟩ dX11_rule_61) (fun u44 H locs hp hw => ?_)
        obtain ⟨I42, J43, rfl, h⟩ := hp
        refine lv_aload_n hx hb dX11_rule_64 rfl (lv_at hl 2 rfl) ?_
        refine hm_calli hw (hm_runV (rest := []) hCl_true X hw (cM_expression  h) ykM_expression kw1662 rfl LM_0 rfl hl.1 rfl rfl rfl (Nat.le_of_ble_eq_true rfl) ⟨Nat.le_trans (Nat.le_of_ble_eq_true rfl) hR.1, Nat.le_trans (Nat.le_of_ble_eq_true rfl) hR.2⟩ ⟨Nat.zero_le _, Nat.zero_le _⟩ dX11_rule_65) (fun r45 u48 H locs hp hw => ?_)
        obtain ⟨I46, J47, rfl, h⟩ := hp
        refine lv_istore_n (lv' := [(2, _), (1, _), (0, _)]) hx hb dX11_rule_68 rfl hl (by decide) rfl (fun ls hl => ?_)
        exact wkM_rule_b69 X hr hlk hR   h hw (lv_sub hl [2, 1, 0] rfl)
  · have h := Eq.mp (if_pos hc) h
    exact hm_vret X hr hlk hw ⟨_, _, rfl, h⟩ dX11_rule_33

theorem wkM_rule_b12 {I : HI} {J : HJ} {Q : HI → HJ → Prop} (X : hX p m c s args RX11 cX11_rule 4) (hr : meth.sig.returnType = none) (hlk : meth.locks = false) (hR : 6 ≤ R.frames ∧ 137 ≤ R.locals)   : ∀ {ls : Array Slot} {H : Heap} {locs : List Loc}, M_rule_b12 I J Q → hW D cA z Ev0 (I, J, T, FM, LM) A s H locs → lv_has ls 4 [(0, .ref (z + 0))] → W p l e R s m args below meth c H locs 0 0 (MQ below (va_Qv (pIJv T FM LM Q) (hB D cA z A) A) args s 0 0 A) (F0 m 12 ls []) := by
  have hx := X.1
  have hb := X.2.1
  intro ls H locs h hw hl
  unfold M_rule_b12 at h
  refine lv_aload_n hx hb dX11_rule_12 rfl (lv_at hl 0 rfl) ?_
  refine hm_geti X hw lkM_315 LM_0 dX11_rule_13 ?_
  refine lv_bipush (v := 16) hx hb dX11_rule_16 (by decide) ?_
  refine lv_icmp_ne (tgt := 26) hx hb dX11_rule_18 (by decide) (fun hc => ?_) (fun hc => ?_)
  · have h := Eq.mp (if_neg hc) h
    exact wkM_rule_b26 X hr hlk hR   h hw (lv_sub hl [0] rfl)
  · have h := Eq.mp (if_pos hc) h
    refine lv_aload_n hx hb dX11_rule_21 rfl (lv_at hl 0 rfl) ?_
    refine lv_iconst (v := 2) hx hb dX11_rule_22 (by decide) ?_
    refine hm_callv hw (hm_runV (rest := []) hCl_true X hw (cM_wrong  h) ykM_wrong kw1654 rfl LM_0 rfl hl.1 rfl rfl rfl (Nat.le_of_ble_eq_true rfl) ⟨Nat.le_trans (Nat.le_of_ble_eq_true rfl) hR.1, Nat.le_trans (Nat.le_of_ble_eq_true rfl) hR.2⟩ ⟨Nat.zero_le _, Nat.zero_le _⟩ dX11_rule_23) (fun u50 H locs hp hw => ?_)
    obtain ⟨I49, rfl, h⟩ := hp
    exact wkM_rule_b26 X hr hlk hR   h hw (lv_sub hl [0] rfl)

theorem cM_rule {l : Launch} {D : va_G} {cA : Nat → ClassId} {z sz : Nat} {I : HI} {J : HJ}  {Q : HI → HJ → Prop}  (h : M_rule I J  Q) : Met l yX11_rule (hws0 yX11_rule cX11_rule 4 none) { frames := 6, cells := 0, slots := 0, locals := 137 } (hPc D cA z Ev0 (I, J, T, FM, LM) sz [.ref (z + 0)]) (va_Qv (pIJv T FM LM Q) (hB D cA z (hA z LM sz)) (hA z LM sz)) 0 0 (hA z LM sz) := by
  refine hm_met (I, J, T, FM, LM) [.ref (z + 0)] rfl (by decide) (Nat.le_of_ble_eq_true rfl) ?_
  intro p e s m below meth c ls X hr hlk hnm hxt hsz hw hl
  have hl : lv_has ls 4 [(0, .ref (z + 0))] := hl
  have hR : 6 ≤ ({ frames := 6, cells := 0, slots := 0, locals := 137 } : Room).frames ∧ 137 ≤ ({ frames := 6, cells := 0, slots := 0, locals := 137 } : Room).locals := ⟨Nat.le_refl _, Nat.le_refl _⟩
  generalize ({ frames := 6, cells := 0, slots := 0, locals := 137 } : Room) = R at hR ⊢
  clear hsz
  generalize (hA z LM sz) = A at hw ⊢
  have hx := X.1
  have hb := X.2.1
  unfold M_rule at h
  refine lv_aload_n hx hb dX11_rule_0 rfl (lv_at hl 0 rfl) ?_
  refine hm_calli hw (hm_runV (rest := []) hCl_true X hw (cM_knownWord  h) ykM_knownWord kw1644 rfl LM_0 rfl hl.1 rfl rfl rfl (Nat.le_of_ble_eq_true rfl) ⟨Nat.le_trans (Nat.le_of_ble_eq_true rfl) hR.1, Nat.le_trans (Nat.le_of_ble_eq_true rfl) hR.2⟩ ⟨Nat.zero_le _, Nat.zero_le _⟩ dX11_rule_1) (fun r1 u2 H locs hp hw => ?_)
  obtain ⟨rfl, h⟩ := hp
  refine lv_if_eq (tgt := 12) hx hb dX11_rule_4 (by decide) (fun hc => ?_) (fun hc => ?_)
  · have h := Eq.mp (if_pos hc) h
    exact wkM_rule_b12 X hr hlk hR   h hw (lv_sub hl [0] rfl)
  · have h := Eq.mp (if_neg hc) h
    refine lv_aload_n hx hb dX11_rule_7 rfl (lv_at hl 0 rfl) ?_
    refine lv_iconst (v := 1) hx hb dX11_rule_8 (by decide) ?_
    refine hm_callv hw (hm_runV (rest := []) hCl_true X hw (cM_wrong  h) ykM_wrong kw1654 rfl LM_0 rfl hl.1 rfl rfl rfl (Nat.le_of_ble_eq_true rfl) ⟨Nat.le_trans (Nat.le_of_ble_eq_true rfl) hR.1, Nat.le_trans (Nat.le_of_ble_eq_true rfl) hR.2⟩ ⟨Nat.zero_le _, Nat.zero_le _⟩ dX11_rule_9) (fun u52 H locs hp hw => ?_)
    obtain ⟨I51, rfl, h⟩ := hp
    exact wkM_rule_b12 X hr hlk hR   h hw (lv_sub hl [0] rfl)

theorem wkM_copies_b63 {I : HI} {J : HJ} {x1 : Int32} {x4 : Int32} {x5 : Int32} {t0 : Int32} {K6 : HI → Int32 → Int32 → Prop} {Q : Int32 → HI → Prop} (X : hX p m c s args RX11 cX11_copies 7) (hr : meth.sig.returnType = (some .int)) (hlk : meth.locks = false) (hR : 0 ≤ R.frames ∧ 0 ≤ R.locals)  (hK6 : ∀ (I : HI) (x4 : Int32) (x5 : Int32) {ls : Array Slot} {H : Heap} {locs : List Loc}, K6 I x4 x5 → hW D cA z Ev0 (I, J, T, FM, LM) A s H locs → lv_has ls 7 [(0, .ref (z + 0)), (1, .int x1), (4, .int x4), (5, .int x5)] → W p l e R s m args below meth c H locs 0 0 (MQ below (va_Qi (pI J T FM LM Q) (hB D cA z A) A) args s 0 0 A) (F0 m 6 ls [])) : ∀ {ls : Array Slot} {H : Heap} {locs : List Loc}, M_copies_b63 I x1 x4 x5 t0 K6 Q → hW D cA z Ev0 (I, J, T, FM, LM) A s H locs → lv_has ls 7 [(0, .ref (z + 0)), (1, .int x1), (4, .int x4), (5, .int x5)] → W p l e R s m args below meth c H locs 0 0 (MQ below (va_Qi (pI J T FM LM Q) (hB D cA z A) A) args s 0 0 A) (F0 m 63 ls [.int t0]) := by
  have hx := X.1
  have hb := X.2.1
  intro ls H locs h hw hl
  unfold M_copies_b63 at h
  refine lv_istore (lv' := [(6, _), (0, _), (1, _), (4, _), (5, _)]) hx hb dX11_copies_63 hl (by decide) rfl (fun ls hl => ?_)
  refine lv_iinc (v := x4 + 1) (lv' := [(4, _), (6, _), (0, _), (1, _), (5, _)]) hx hb dX11_copies_65 hl (k := 3) rfl rfl (by decide) rfl (fun ls hl => ?_)
  refine lv_iinc (v := x5 + 1) (lv' := [(5, _), (4, _), (6, _), (0, _), (1, _)]) hx hb dX11_copies_68 hl (k := 4) rfl rfl (by decide) rfl (fun ls hl => ?_)
  refine lv_iload hx hb dX11_copies_71 (lv_at hl 2 rfl) ?_
  refine lv_if_ne (tgt := 79) hx hb dX11_copies_73 (by decide) (fun hc => ?_) (fun hc => ?_)
  · have h := Eq.mp (if_neg hc) h
    refine lv_aload_n hx hb dX11_copies_79 rfl (lv_at hl 3 rfl) ?_
    refine hm_getr X hw lkM_38 LM_0 (b := 6) rfl dX11_copies_80 ?_
    refine lv_sipush (v := 1000) hx hb dX11_copies_83 (by decide) ?_
    refine lv_iload_n hx hb dX11_copies_86 rfl (lv_at hl 4 rfl) ?_
    refine lv_imul hx hb dX11_copies_87 ?_
    refine lv_iload hx hb dX11_copies_88 (lv_at hl 0 rfl) ?_
    refine lv_iadd hx hb dX11_copies_90 ?_
    refine lv_aload_n hx hb dX11_copies_91 rfl (lv_at hl 3 rfl) ?_
    refine hm_getr X hw lkM_65 LM_0 (b := 14) rfl dX11_copies_92 ?_
    refine lv_iload hx hb dX11_copies_95 (lv_at hl 1 rfl) ?_
    obtain ⟨hi, h⟩ := h
    refine hm_iald X hw LM_14 hi dX11_copies_97 ?_
    obtain ⟨hi, h⟩ := h
    refine hm_iast X hw LM_6 hi dX11_copies_98 (fun H locs hw => ?_)
    refine lv_iinc (v := (x4 + 1) + 1) (lv' := [(4, _), (5, _), (6, _), (0, _), (1, _)]) hx hb dX11_copies_99 hl (k := 1) rfl rfl (by decide) rfl (fun ls hl => ?_)
    refine lv_iinc (v := (x5 + 1) + 1) (lv' := [(5, _), (4, _), (6, _), (0, _), (1, _)]) hx hb dX11_copies_102 hl (k := 1) rfl rfl (by decide) rfl (fun ls hl => ?_)
    refine lv_goto (tgt := 6) hx hb dX11_copies_105 (by decide) ?_
    exact hK6 _ _ _ h hw (lv_sub hl [3, 4, 1, 0] rfl)
  · have h := Eq.mp (if_pos hc) h
    refine lv_goto (tgt := 6) hx hb dX11_copies_76 (by decide) ?_
    exact hK6 _ _ _ h hw (lv_sub hl [3, 4, 1, 0] rfl)

theorem wkM_copies_l6 {J : HJ} {x1 : Int32} {Q : Int32 → HI → Prop} (X : hX p m c s args RX11 cX11_copies 7) (hr : meth.sig.returnType = (some .int)) (hlk : meth.locks = false) (hR : 0 ≤ R.frames ∧ 0 ≤ R.locals)   : ∀ (n : Nat) (I : HI) (x4 : Int32) (x5 : Int32) {ls : Array Slot} {H : Heap} {locs : List Loc}, M_copies_l6 x1 Q n I x4 x5 → hW D cA z Ev0 (I, J, T, FM, LM) A s H locs → lv_has ls 7 [(0, .ref (z + 0)), (1, .int x1), (4, .int x4), (5, .int x5)] → W p l e R s m args below meth c H locs 0 0 (MQ below (va_Qi (pI J T FM LM Q) (hB D cA z A) A) args s 0 0 A) (F0 m 6 ls []) := by
  have hx := X.1
  have hb := X.2.1
  intro n
  induction n with
  | zero => intro I x4 x5 ls H locs h; exact False.elim h
  | succ n ih =>
    intro I x4 x5 ls H locs h hw hl
    rw [M_copies_l6] at h
    refine lv_aload_n hx hb dX11_copies_6 rfl (lv_at hl 0 rfl) ?_
    refine hm_getr X hw lkM_65 LM_0 (b := 14) rfl dX11_copies_7 ?_
    refine lv_iload hx hb dX11_copies_10 (lv_at hl 2 rfl) ?_
    obtain ⟨hi, h⟩ := h
    refine hm_iald X hw LM_14 hi dX11_copies_12 ?_
    refine lv_if_eq (tgt := 108) hx hb dX11_copies_13 (by decide) (fun hc => ?_) (fun hc => ?_)
    · have h := Eq.mp (if_pos hc) h
      refine lv_aload_n hx hb dX11_copies_108 rfl (lv_at hl 0 rfl) ?_
      refine hm_getr X hw lkM_38 LM_0 (b := 6) rfl dX11_copies_109 ?_
      refine lv_sipush (v := 1000) hx hb dX11_copies_112 (by decide) ?_
      refine lv_iload_n hx hb dX11_copies_115 rfl (lv_at hl 1 rfl) ?_
      refine lv_imul hx hb dX11_copies_116 ?_
      refine lv_iload hx hb dX11_copies_117 (lv_at hl 3 rfl) ?_
      refine lv_iadd hx hb dX11_copies_119 ?_
      refine lv_iconst (v := 0) hx hb dX11_copies_120 (by decide) ?_
      obtain ⟨hi, h⟩ := h
      refine hm_iast X hw LM_6 hi dX11_copies_121 (fun H locs hw => ?_)
      refine lv_iload hx hb dX11_copies_122 (lv_at hl 3 rfl) ?_
      refine lv_iconst (v := 1) hx hb dX11_copies_124 (by decide) ?_
      refine lv_iadd hx hb dX11_copies_125 ?_
      exact hm_iret X hr hlk hw ⟨_, rfl, h⟩ dX11_copies_126
    · have h := Eq.mp (if_neg hc) h
      refine lv_aload_n hx hb dX11_copies_16 rfl (lv_at hl 0 rfl) ?_
      refine hm_getr X hw lkM_38 LM_0 (b := 6) rfl dX11_copies_17 ?_
      refine lv_sipush (v := 1000) hx hb dX11_copies_20 (by decide) ?_
      refine lv_iload_n hx hb dX11_copies_23 rfl (lv_at hl 1 rfl) ?_
      refine lv_imul hx hb dX11_copies_24 ?_
      refine lv_iload hx hb dX11_copies_25 (lv_at hl 3 rfl) ?_
      refine lv_iadd hx hb dX11_copies_27 ?_
      refine lv_aload_n hx hb dX11_copies_28 rfl (lv_at hl 0 rfl) ?_
      refine hm_getr X hw lkM_65 LM_0 (b := 14) rfl dX11_copies_29 ?_
      refine lv_iload hx hb dX11_copies_32 (lv_at hl 2 rfl) ?_
      obtain ⟨hi, h⟩ := h
      refine hm_iald X hw LM_14 hi dX11_copies_34 ?_
      obtain ⟨hi, h⟩ := h
      refine hm_iast X hw LM_6 hi dX11_copies_35 (fun H locs hw => ?_)
      refine lv_aload_n hx hb dX11_copies_36 rfl (lv_at hl 0 rfl) ?_
      refine hm_getr X hw lkM_65 LM_0 (b := 14) rfl dX11_copies_37 ?_
      refine lv_iload hx hb dX11_copies_40 (lv_at hl 2 rfl) ?_
      obtain ⟨hi, h⟩ := h
      refine hm_iald X hw LM_14 hi dX11_copies_42 ?_
      refine lv_iconst (v := 1) hx hb dX11_copies_43 (by decide) ?_
      refine lv_icmp_eq (tgt := 58) hx hb dX11_copies_44 (by decide) (fun hc => ?_) (fun hc => ?_)
      · have h := Eq.mp (if_pos hc) h
        refine lv_iconst (v := 1) hx hb dX11_copies_58 (by decide) ?_
        refine lv_goto (tgt := 63) hx hb dX11_copies_59 (by decide) ?_
        exact wkM_copies_b63 X hr hlk hR  ih h hw (lv_sub hl [0, 1, 2, 3] rfl)
      · have h := Eq.mp (if_neg hc) h
        refine lv_aload_n hx hb dX11_copies_47 rfl (lv_at hl 0 rfl) ?_
        refine hm_getr X hw lkM_65 LM_0 (b := 14) rfl dX11_copies_48 ?_
        refine lv_iload hx hb dX11_copies_51 (lv_at hl 2 rfl) ?_
        obtain ⟨hi, h⟩ := h
        refine hm_iald X hw LM_14 hi dX11_copies_53 ?_
        refine lv_iconst (v := 2) hx hb dX11_copies_54 (by decide) ?_
        refine lv_icmp_ne (tgt := 62) hx hb dX11_copies_55 (by decide) (fun hc => ?_) (fun hc => ?_)
        · have h := Eq.mp (if_neg hc) h
          refine lv_iconst (v := 0) hx hb dX11_copies_62 (by decide) ?_
          exact wkM_copies_b63 X hr hlk hR  ih h hw (lv_sub hl [0, 1, 2, 3] rfl)
        · have h := Eq.mp (if_pos hc) h
          refine lv_iconst (v := 1) hx hb dX11_copies_58 (by decide) ?_
          refine lv_goto (tgt := 63) hx hb dX11_copies_59 (by decide) ?_
          exact wkM_copies_b63 X hr hlk hR  ih h hw (lv_sub hl [0, 1, 2, 3] rfl)

theorem cM_copies {l : Launch} {D : va_G} {cA : Nat → ClassId} {z sz : Nat} {I : HI} {J : HJ} {x1 : Int32} {x2 : Int32} {x3 : Int32} {Q : Int32 → HI → Prop}  (h : M_copies I x1 x2 x3 Q) : Met l yX11_copies (hws0 yX11_copies cX11_copies 7 (some .int)) { frames := 0, cells := 0, slots := 0, locals := 0 } (hPc D cA z Ev0 (I, J, T, FM, LM) sz [.ref (z + 0), .int x1, .int x2, .int x3]) (va_Qi (pI J T FM LM Q) (hB D cA z (hA z LM sz)) (hA z LM sz)) 0 0 (hA z LM sz) := by
  refine hm_met (I, J, T, FM, LM) [.ref (z + 0), .int x1, .int x2, .int x3] rfl (by decide) (Nat.le_of_ble_eq_true rfl) ?_
  intro p e s m below meth c ls X hr hlk hnm hxt hsz hw hl
  have hl : lv_has ls 7 [(0, .ref (z + 0)), (1, .int x1), (2, .int x2), (3, .int x3)] := hl
  have hR : 0 ≤ ({ frames := 0, cells := 0, slots := 0, locals := 0 } : Room).frames ∧ 0 ≤ ({ frames := 0, cells := 0, slots := 0, locals := 0 } : Room).locals := ⟨Nat.le_refl _, Nat.le_refl _⟩
  generalize ({ frames := 0, cells := 0, slots := 0, locals := 0 } : Room) = R at hR ⊢
  clear hsz
  generalize (hA z LM sz) = A at hw ⊢
  have hx := X.1
  have hb := X.2.1
  unfold M_copies at h
  refine lv_iload_n hx hb dX11_copies_0 rfl (lv_at hl 2 rfl) ?_
  refine lv_istore (lv' := [(4, _), (0, _), (1, _), (2, _), (3, _)]) hx hb dX11_copies_1 hl (by decide) rfl (fun ls hl => ?_)
  refine lv_iload_n hx hb dX11_copies_3 rfl (lv_at hl 4 rfl) ?_
  refine lv_istore (lv' := [(5, _), (4, _), (0, _), (1, _), (2, _), (3, _)]) hx hb dX11_copies_4 hl (by decide) rfl (fun ls hl => ?_)
  obtain ⟨n2, h⟩ := h
  exact wkM_copies_l6 X hr hlk hR   n2 _ _ _ h hw (lv_sub hl [2, 3, 1, 0] rfl)

theorem wkM_rules_b169 {I : HI} {J : HJ} {x2 : Int32} {x3 : Int32} {x4 : Int32} {K106 : HI → Int32 → Prop} {Q : Int32 → HI → HJ → Prop} (X : hX p m c s args RX11 cX11_rules 5) (hr : meth.sig.returnType = (some .int)) (hlk : meth.locks = false) (hR : 7 ≤ R.frames ∧ 160 ≤ R.locals)  (hK106 : ∀ (I : HI) (x2 : Int32) {ls : Array Slot} {H : Heap} {locs : List Loc}, K106 I x2 → hW D cA z Ev0 (I, J, T, FM, LM) A s H locs → lv_has ls 5 [(0, .ref (z + 0)), (2, .int x2)] → W p l e R s m args below meth c H locs 0 0 (MQ below (va_Qi (pIJ T FM LM Q) (hB D cA z A) A) args s 0 0 A) (F0 m 106 ls [])) : ∀ {ls : Array Slot} {H : Heap} {locs : List Loc}, M_rules_b169 I J x2 x3 x4 K106 Q → hW D cA z Ev0 (I, J, T, FM, LM) A s H locs → lv_has ls 5 [(0, .ref (z + 0)), (2, .int x2), (3, .int x3), (4, .int x4)] → W p l e R s m args below meth c H locs 0 0 (MQ below (va_Qi (pIJ T FM LM Q) (hB D cA z A) A) args s 0 0 A) (F0 m 169 ls []) := by
  have hx := X.1
  have hb := X.2.1
  intro ls H locs h hw hl
  unfold M_rules_b169 at h
  refine lv_aload_n hx hb dX11_rules_169 rfl (lv_at hl 0 rfl) ?_
  refine hm_getr X hw lkM_44 LM_0 (b := 8) rfl dX11_rules_170 ?_
  refine lv_iload_n hx hb dX11_rules_173 rfl (lv_at hl 2 rfl) ?_
  refine lv_iload hx hb dX11_rules_174 (lv_at hl 3 rfl) ?_
  obtain ⟨hi, h⟩ := h
  refine hm_iast X hw LM_8 hi dX11_rules_176 (fun H locs hw => ?_)
  refine lv_aload_n hx hb dX11_rules_177 rfl (lv_at hl 0 rfl) ?_
  refine lv_iload_n hx hb dX11_rules_178 rfl (lv_at hl 2 rfl) ?_
  refine lv_aload_n hx hb dX11_rules_179 rfl (lv_at hl 0 rfl) ?_
  refine hm_getr X hw lkM_62 LM_0 (b := 13) rfl dX11_rules_180 ?_
  refine lv_iload_n hx hb dX11_rules_183 rfl (lv_at hl 1 rfl) ?_
  obtain ⟨hi, h⟩ := h
  refine hm_iald X hw LM_13 hi dX11_rules_184 ?_
  refine lv_iload hx hb dX11_rules_185 (lv_at hl 3 rfl) ?_
  refine hm_calli hw (hm_runV (rest := []) hCl_true X hw (cM_copies  h) ykM_copies kw1697 rfl LM_0 rfl hl.1 rfl rfl rfl (Nat.le_of_ble_eq_true rfl) ⟨Nat.le_trans (Nat.le_of_ble_eq_true rfl) hR.1, Nat.le_trans (Nat.le_of_ble_eq_true rfl) hR.2⟩ ⟨Nat.zero_le _, Nat.zero_le _⟩ dX11_rules_187) (fun r11 u13 H locs hp hw => ?_)
  obtain ⟨I12, rfl, h⟩ := hp
  refine lv_istore (lv' := [(4, _), (0, _), (2, _), (3, _)]) hx hb dX11_rules_190 hl (by decide) rfl (fun ls hl => ?_)
  refine lv_iinc (v := x2 + 1) (lv' := [(2, _), (4, _), (0, _), (3, _)]) hx hb dX11_rules_192 hl (k := 2) rfl rfl (by decide) rfl (fun ls hl => ?_)
  refine lv_goto (tgt := 106) hx hb dX11_rules_195 (by decide) ?_
  exact hK106 _ _ h hw (lv_sub hl [2, 0] rfl)

theorem wkM_rules_l106 {J : HJ} {Q : Int32 → HI → HJ → Prop} (X : hX p m c s args RX11 cX11_rules 5) (hr : meth.sig.returnType = (some .int)) (hlk : meth.locks = false) (hR : 7 ≤ R.frames ∧ 160 ≤ R.locals)   : ∀ (n : Nat) (I : HI) (x2 : Int32) {ls : Array Slot} {H : Heap} {locs : List Loc}, M_rules_l106 J Q n I x2 → hW D cA z Ev0 (I, J, T, FM, LM) A s H locs → lv_has ls 5 [(0, .ref (z + 0)), (2, .int x2)] → W p l e R s m args below meth c H locs 0 0 (MQ below (va_Qi (pIJ T FM LM Q) (hB D cA z A) A) args s 0 0 A) (F0 m 106 ls []) := by
  have hx := X.1
  have hb := X.2.1
  intro n
  induction n with
  | zero => intro I x2 ls H locs h; exact False.elim h
  | succ n ih =>
    intro I x2 ls H locs h hw hl
    rw [M_rules_l106] at h
    refine lv_iload_n hx hb dX11_rules_106 rfl (lv_at hl 1 rfl) ?_
    refine lv_aload_n hx hb dX11_rules_107 rfl (lv_at hl 0 rfl) ?_
    refine hm_geti X hw lkM_315 LM_0 dX11_rules_108 ?_
    refine lv_icmp_ge (tgt := 198) hx hb dX11_rules_111 (by decide) (fun hc => ?_) (fun hc => ?_)
    · have h := Eq.mp (if_pos hc) h
      refine lv_aload_n hx hb dX11_rules_198 rfl (lv_at hl 0 rfl) ?_
      refine lv_iconst (v := 0) hx hb dX11_rules_199 (by decide) ?_
      refine hm_puti X hw lkM_195 LM_0 rfl rfl dX11_rules_200 (fun H locs hw => ?_)
      refine lv_iconst (v := 0) hx hb dX11_rules_203 (by decide) ?_
      exact hm_iret X hr hlk hw ⟨_, _, rfl, h⟩ dX11_rules_204
    · have h := Eq.mp (if_neg hc) h
      refine lv_aload_n hx hb dX11_rules_114 rfl (lv_at hl 0 rfl) ?_
      refine hm_getr X hw lkM_56 LM_0 (b := 11) rfl dX11_rules_115 ?_
      refine lv_iload_n hx hb dX11_rules_118 rfl (lv_at hl 1 rfl) ?_
      obtain ⟨hi, h⟩ := h
      refine hm_iald X hw LM_11 hi dX11_rules_119 ?_
      refine lv_istore_n (lv' := [(3, _), (0, _), (2, _)]) hx hb dX11_rules_120 rfl hl (by decide) rfl (fun ls hl => ?_)
      refine lv_aload_n hx hb dX11_rules_121 rfl (lv_at hl 1 rfl) ?_
      refine hm_getr X hw lkM_32 LM_0 (b := 4) rfl dX11_rules_122 ?_
      refine lv_iload_n hx hb dX11_rules_125 rfl (lv_at hl 0 rfl) ?_
      refine lv_iconst (v := 1) hx hb dX11_rules_126 (by decide) ?_
      obtain ⟨hi, h⟩ := h
      refine hm_iast X hw LM_4 hi dX11_rules_127 (fun H locs hw => ?_)
      refine lv_iconst (v := 0) hx hb dX11_rules_128 (by decide) ?_
      refine lv_istore (lv' := [(4, _), (3, _), (0, _), (2, _)]) hx hb dX11_rules_129 hl (by decide) rfl (fun ls hl => ?_)
      refine lv_aload_n hx hb dX11_rules_131 rfl (lv_at hl 2 rfl) ?_
      refine hm_getr X hw lkM_41 LM_0 (b := 7) rfl dX11_rules_132 ?_
      refine lv_iload_n hx hb dX11_rules_135 rfl (lv_at hl 1 rfl) ?_
      refine lv_iconst (v := (-1)) hx hb dX11_rules_136 (by decide) ?_
      obtain ⟨hi, h⟩ := h
      refine hm_iast X hw LM_7 hi dX11_rules_137 (fun H locs hw => ?_)
      refine lv_aload_n hx hb dX11_rules_138 rfl (lv_at hl 2 rfl) ?_
      refine hm_getr X hw lkM_59 LM_0 (b := 12) rfl dX11_rules_139 ?_
      refine lv_iload_n hx hb dX11_rules_142 rfl (lv_at hl 3 rfl) ?_
      obtain ⟨hi, h⟩ := h
      refine hm_iald X hw LM_12 hi dX11_rules_143 ?_
      refine lv_iconst (v := (-1)) hx hb dX11_rules_144 (by decide) ?_
      refine lv_icmp_eq (tgt := 169) hx hb dX11_rules_145 (by decide) (fun hc => ?_) (fun hc => ?_)
      · have h := Eq.mp (if_pos hc) h
        exact wkM_rules_b169 X hr hlk hR  ih h hw (lv_sub hl [2, 3, 1, 0] rfl)
      · have h := Eq.mp (if_neg hc) h
        refine lv_aload_n hx hb dX11_rules_148 rfl (lv_at hl 2 rfl) ?_
        refine hm_getr X hw lkM_41 LM_0 (b := 7) rfl dX11_rules_149 ?_
        refine lv_iload_n hx hb dX11_rules_152 rfl (lv_at hl 1 rfl) ?_
        refine lv_iconst (v := 0) hx hb dX11_rules_153 (by decide) ?_
        obtain ⟨hi, h⟩ := h
        refine hm_iast X hw LM_7 hi dX11_rules_154 (fun H locs hw => ?_)
        refine lv_aload_n hx hb dX11_rules_155 rfl (lv_at hl 2 rfl) ?_
        refine lv_iload_n hx hb dX11_rules_156 rfl (lv_at hl 1 rfl) ?_
        refine lv_aload_n hx hb dX11_rules_157 rfl (lv_at hl 2 rfl) ?_
        refine hm_getr X hw lkM_59 LM_0 (b := 12) rfl dX11_rules_158 ?_
        refine lv_iload_n hx hb dX11_rules_161 rfl (lv_at hl 3 rfl) ?_
        obtain ⟨hi, h⟩ := h
        refine hm_iald X hw LM_12 hi dX11_rules_162 ?_
        refine lv_iconst (v := 0) hx hb dX11_rules_163 (by decide) ?_
        refine hm_calli hw (hm_runV (rest := []) hCl_true X hw (cM_copies  h) ykM_copies kw1697 rfl LM_0 rfl hl.1 rfl rfl rfl (Nat.le_of_ble_eq_true rfl) ⟨Nat.le_trans (Nat.le_of_ble_eq_true rfl) hR.1, Nat.le_trans (Nat.le_of_ble_eq_true rfl) hR.2⟩ ⟨Nat.zero_le _, Nat.zero_le _⟩ dX11_rules_164) (fun r14 u16 H locs hp hw => ?_)
        obtain ⟨I15, rfl, h⟩ := hp
        refine lv_istore (lv' := [(4, _), (3, _), (0, _), (2, _)]) hx hb dX11_rules_167 hl (by decide) rfl (fun ls hl => ?_)
        exact wkM_rules_b169 X hr hlk hR  ih h hw (lv_sub hl [2, 3, 1, 0] rfl)

theorem wkM_rules_b92 {I : HI} {J : HJ} {Q : Int32 → HI → HJ → Prop} (X : hX p m c s args RX11 cX11_rules 5) (hr : meth.sig.returnType = (some .int)) (hlk : meth.locks = false) (hR : 7 ≤ R.frames ∧ 160 ≤ R.locals)   : ∀ {ls : Array Slot} {H : Heap} {locs : List Loc}, M_rules_b92 I J Q → hW D cA z Ev0 (I, J, T, FM, LM) A s H locs → lv_has ls 5 [(0, .ref (z + 0))] → W p l e R s m args below meth c H locs 0 0 (MQ below (va_Qi (pIJ T FM LM Q) (hB D cA z A) A) args s 0 0 A) (F0 m 92 ls []) := by
  have hx := X.1
  have hb := X.2.1
  intro ls H locs h hw hl
  unfold M_rules_b92 at h
  refine lv_aload_n hx hb dX11_rules_92 rfl (lv_at hl 0 rfl) ?_
  refine hm_calli hw (hm_runV (rest := []) hCl_true X hw (cM_isGood  h) ykM_isGood kw1636 rfl LM_0 rfl hl.1 rfl rfl rfl (Nat.le_of_ble_eq_true rfl) ⟨Nat.le_trans (Nat.le_of_ble_eq_true rfl) hR.1, Nat.le_trans (Nat.le_of_ble_eq_true rfl) hR.2⟩ ⟨Nat.zero_le _, Nat.zero_le _⟩ dX11_rules_93) (fun r9 u10 H locs hp hw => ?_)
  obtain ⟨rfl, h⟩ := hp
  refine lv_if_ne (tgt := 104) hx hb dX11_rules_96 (by decide) (fun hc => ?_) (fun hc => ?_)
  · have h := Eq.mp (if_neg hc) h
    refine lv_iconst (v := 0) hx hb dX11_rules_104 (by decide) ?_
    refine lv_istore_n (lv' := [(2, _), (0, _)]) hx hb dX11_rules_105 rfl hl (by decide) rfl (fun ls hl => ?_)
    obtain ⟨n2, h⟩ := h
    exact wkM_rules_l106 X hr hlk hR   n2 _ _ h hw (lv_sub hl [1, 0] rfl)
  · have h := Eq.mp (if_pos hc) h
    refine lv_aload_n hx hb dX11_rules_99 rfl (lv_at hl 0 rfl) ?_
    refine hm_geti X hw lkM_262 LM_0 dX11_rules_100 ?_
    exact hm_iret X hr hlk hw ⟨_, _, rfl, h⟩ dX11_rules_103

theorem wkM_rules_l71  {Q : Int32 → HI → HJ → Prop} (X : hX p m c s args RX11 cX11_rules 5) (hr : meth.sig.returnType = (some .int)) (hlk : meth.locks = false) (hR : 7 ≤ R.frames ∧ 160 ≤ R.locals)   : ∀ (n : Nat) (I : HI) (J : HJ) {ls : Array Slot} {H : Heap} {locs : List Loc}, M_rules_l71 Q n I J → hW D cA z Ev0 (I, J, T, FM, LM) A s H locs → lv_has ls 5 [(0, .ref (z + 0))] → W p l e R s m args below meth c H locs 0 0 (MQ below (va_Qi (pIJ T FM LM Q) (hB D cA z A) A) args s 0 0 A) (F0 m 71 ls []) := by
  have hx := X.1
  have hb := X.2.1
  intro n
  induction n with
  | zero => intro I J ls H locs h; exact False.elim h
  | succ n ih =>
    intro I J ls H locs h hw hl
    rw [M_rules_l71] at h
    refine lv_aload_n hx hb dX11_rules_71 rfl (lv_at hl 0 rfl) ?_
    refine hm_calli hw (hm_runV (rest := []) hCl_true X hw (cM_isGood  h) ykM_isGood kw1636 rfl LM_0 rfl hl.1 rfl rfl rfl (Nat.le_of_ble_eq_true rfl) ⟨Nat.le_trans (Nat.le_of_ble_eq_true rfl) hR.1, Nat.le_trans (Nat.le_of_ble_eq_true rfl) hR.2⟩ ⟨Nat.zero_le _, Nat.zero_le _⟩ dX11_rules_72) (fun r7 u8 H locs hp hw => ?_)
    obtain ⟨rfl, h⟩ := hp
    refine lv_if_eq (tgt := 92) hx hb dX11_rules_75 (by decide) (fun hc => ?_) (fun hc => ?_)
    · have h := Eq.mp (if_pos hc) h
      exact wkM_rules_b92 X hr hlk hR   h hw (lv_sub hl [0] rfl)
    · have h := Eq.mp (if_neg hc) h
      refine lv_aload_n hx hb dX11_rules_78 rfl (lv_at hl 0 rfl) ?_
      refine hm_geti X hw lkM_242 LM_0 dX11_rules_79 ?_
      refine lv_if_eq (tgt := 92) hx hb dX11_rules_82 (by decide) (fun hc => ?_) (fun hc => ?_)
      · have h := Eq.mp (if_pos hc) h
        exact wkM_rules_b92 X hr hlk hR   h hw (lv_sub hl [0] rfl)
      · have h := Eq.mp (if_neg hc) h
        refine lv_aload_n hx hb dX11_rules_85 rfl (lv_at hl 0 rfl) ?_
        refine hm_callv hw (hm_runV (rest := []) hCl_true X hw (cM_rule  h) ykM_rule kw1640 rfl LM_0 rfl hl.1 rfl rfl rfl (Nat.le_of_ble_eq_true rfl) ⟨Nat.le_trans (Nat.le_of_ble_eq_true rfl) hR.1, Nat.le_trans (Nat.le_of_ble_eq_true rfl) hR.2⟩ ⟨Nat.zero_le _, Nat.zero_le _⟩ dX11_rules_86) (fun u19 H locs hp hw => ?_)
        obtain ⟨I17, J18, rfl, h⟩ := hp
        refine lv_goto (tgt := 71) hx hb dX11_rules_89 (by decide) ?_
        exact ih _ _ h hw (lv_sub hl [0] rfl)

theorem wkM_rules_b23 {I : HI} {J : HJ} {x1 : Int32} {t0 : Int32} {Q : Int32 → HI → HJ → Prop} (X : hX p m c s args RX11 cX11_rules 5) (hr : meth.sig.returnType = (some .int)) (hlk : meth.locks = false) (hR : 7 ≤ R.frames ∧ 160 ≤ R.locals)   : ∀ {ls : Array Slot} {H : Heap} {locs : List Loc}, M_rules_b23 I J x1 t0 Q → hW D cA z Ev0 (I, J, T, FM, LM) A s H locs → lv_has ls 5 [(0, .ref (z + 0)), (1, .int x1)] → W p l e R s m args below meth c H locs 0 0 (MQ below (va_Qi (pIJ T FM LM Q) (hB D cA z A) A) args s 0 0 A) (F0 m 23 ls [.int t0, .ref (z + 0)]) := by
  have hx := X.1
  have hb := X.2.1
  intro ls H locs h hw hl
  unfold M_rules_b23 at h
  refine lv_iconst (v := 1) hx hb dX11_rules_23 (by decide) ?_
  refine hm_calli hw (hm_runV (rest := []) hCl_true X hw (cM_right  h) ykM_right kw1594 rfl LM_0 rfl hl.1 rfl rfl rfl (Nat.le_of_ble_eq_true rfl) ⟨Nat.le_trans (Nat.le_of_ble_eq_true rfl) hR.1, Nat.le_trans (Nat.le_of_ble_eq_true rfl) hR.2⟩ ⟨Nat.zero_le _, Nat.zero_le _⟩ dX11_rules_24) (fun r1 u3 H locs hp hw => ?_)
  obtain ⟨I2, rfl, h⟩ := hp
  refine lv_if_ne (tgt := 32) hx hb dX11_rules_27 (by decide) (fun hc => ?_) (fun hc => ?_)
  · have h := Eq.mp (if_neg hc) h
    refine lv_aload_n hx hb dX11_rules_32 rfl (lv_at hl 0 rfl) ?_
    refine lv_iconst (v := 0) hx hb dX11_rules_33 (by decide) ?_
    refine hm_puti X hw lkM_214 LM_0 rfl rfl dX11_rules_34 (fun H locs hw => ?_)
    refine lv_aload_n hx hb dX11_rules_37 rfl (lv_at hl 0 rfl) ?_
    refine lv_iconst (v := (-1)) hx hb dX11_rules_38 (by decide) ?_
    refine hm_puti X hw lkM_53 LM_0 rfl rfl dX11_rules_39 (fun H locs hw => ?_)
    refine lv_aload_n hx hb dX11_rules_42 rfl (lv_at hl 0 rfl) ?_
    refine lv_iconst (v := 0) hx hb dX11_rules_43 (by decide) ?_
    refine hm_puti X hw lkM_262 LM_0 rfl rfl dX11_rules_44 (fun H locs hw => ?_)
    refine lv_aload_n hx hb dX11_rules_47 rfl (lv_at hl 0 rfl) ?_
    refine lv_iload_n hx hb dX11_rules_48 rfl (lv_at hl 1 rfl) ?_
    refine hm_puti X hw lkM_220 LM_0 rfl rfl dX11_rules_49 (fun H locs hw => ?_)
    refine lv_aload_n hx hb dX11_rules_52 rfl (lv_at hl 0 rfl) ?_
    refine lv_iconst (v := 0) hx hb dX11_rules_53 (by decide) ?_
    refine hm_puti X hw lkM_223 LM_0 rfl rfl dX11_rules_54 (fun H locs hw => ?_)
    refine lv_aload_n hx hb dX11_rules_57 rfl (lv_at hl 0 rfl) ?_
    refine lv_iconst (v := 0) hx hb dX11_rules_58 (by decide) ?_
    refine hm_puti X hw lkM_265 LM_0 rfl rfl dX11_rules_59 (fun H locs hw => ?_)
    refine lv_aload_n hx hb dX11_rules_62 rfl (lv_at hl 0 rfl) ?_
    refine lv_iconst (v := 0) hx hb dX11_rules_63 (by decide) ?_
    refine hm_puti X hw lkM_315 LM_0 rfl rfl dX11_rules_64 (fun H locs hw => ?_)
    refine lv_aload_n hx hb dX11_rules_67 rfl (lv_at hl 0 rfl) ?_
    refine hm_callv hw (hm_runV (rest := []) hCl_true X hw (cM_goes  h) ykM_goes kw1622 rfl LM_0 rfl hl.1 rfl rfl rfl (Nat.le_of_ble_eq_true rfl) ⟨Nat.le_trans (Nat.le_of_ble_eq_true rfl) hR.1, Nat.le_trans (Nat.le_of_ble_eq_true rfl) hR.2⟩ ⟨Nat.zero_le _, Nat.zero_le _⟩ dX11_rules_68) (fun u6 H locs hp hw => ?_)
    obtain ⟨I4, J5, rfl, h⟩ := hp
    obtain ⟨n2, h⟩ := h
    exact wkM_rules_l71 X hr hlk hR   n2 _ _ h hw (lv_sub hl [0] rfl)
  · have h := Eq.mp (if_pos hc) h
    refine lv_iconst (v := 0) hx hb dX11_rules_30 (by decide) ?_
    exact hm_iret X hr hlk hw ⟨_, _, rfl, h⟩ dX11_rules_31

theorem wkM_rules_b22 {I : HI} {J : HJ} {x1 : Int32} {Q : Int32 → HI → HJ → Prop} (X : hX p m c s args RX11 cX11_rules 5) (hr : meth.sig.returnType = (some .int)) (hlk : meth.locks = false) (hR : 7 ≤ R.frames ∧ 160 ≤ R.locals)   : ∀ {ls : Array Slot} {H : Heap} {locs : List Loc}, M_rules_b22 I J x1 Q → hW D cA z Ev0 (I, J, T, FM, LM) A s H locs → lv_has ls 5 [(0, .ref (z + 0)), (1, .int x1)] → W p l e R s m args below meth c H locs 0 0 (MQ below (va_Qi (pIJ T FM LM Q) (hB D cA z A) A) args s 0 0 A) (F0 m 22 ls [.ref (z + 0)]) := by
  have hx := X.1
  have hb := X.2.1
  intro ls H locs h hw hl
  unfold M_rules_b22 at h
  refine lv_iconst (v := 0) hx hb dX11_rules_22 (by decide) ?_
  exact wkM_rules_b23 X hr hlk hR   h hw (lv_sub hl [0, 1] rfl)

theorem cM_rules {l : Launch} {D : va_G} {cA : Nat → ClassId} {z sz : Nat} {I : HI} {J : HJ} {x1 : Int32} {Q : Int32 → HI → HJ → Prop}  (h : M_rules I J x1 Q) : Met l yX11_rules (hws0 yX11_rules cX11_rules 5 (some .int)) { frames := 7, cells := 0, slots := 0, locals := 160 } (hPc D cA z Ev0 (I, J, T, FM, LM) sz [.ref (z + 0), .int x1]) (va_Qi (pIJ T FM LM Q) (hB D cA z (hA z LM sz)) (hA z LM sz)) 0 0 (hA z LM sz) := by
  refine hm_met (I, J, T, FM, LM) [.ref (z + 0), .int x1] rfl (by decide) (Nat.le_of_ble_eq_true rfl) ?_
  intro p e s m below meth c ls X hr hlk hnm hxt hsz hw hl
  have hl : lv_has ls 5 [(0, .ref (z + 0)), (1, .int x1)] := hl
  have hR : 7 ≤ ({ frames := 7, cells := 0, slots := 0, locals := 160 } : Room).frames ∧ 160 ≤ ({ frames := 7, cells := 0, slots := 0, locals := 160 } : Room).locals := ⟨Nat.le_refl _, Nat.le_refl _⟩
  generalize ({ frames := 7, cells := 0, slots := 0, locals := 160 } : Room) = R at hR ⊢
  clear hsz
  generalize (hA z LM sz) = A at hw ⊢
  have hx := X.1
  have hb := X.2.1
  unfold M_rules at h
  refine lv_aload_n hx hb dX11_rules_0 rfl (lv_at hl 0 rfl) ?_
  refine lv_iconst (v := 0) hx hb dX11_rules_1 (by decide) ?_
  refine hm_puti X hw lkM_174 LM_0 rfl rfl dX11_rules_2 (fun H locs hw => ?_)
  refine lv_aload_n hx hb dX11_rules_5 rfl (lv_at hl 0 rfl) ?_
  refine lv_iload_n hx hb dX11_rules_6 rfl (lv_at hl 1 rfl) ?_
  refine lv_if_lt (tgt := 22) hx hb dX11_rules_7 (by decide) (fun hc => ?_) (fun hc => ?_)
  · have h := Eq.mp (if_pos hc) h
    exact wkM_rules_b22 X hr hlk hR   h hw (lv_sub hl [0, 1] rfl)
  · have h := Eq.mp (if_neg hc) h
    refine lv_iload_n hx hb dX11_rules_10 rfl (lv_at hl 1 rfl) ?_
    refine lv_aload_n hx hb dX11_rules_11 rfl (lv_at hl 0 rfl) ?_
    refine hm_geti X hw lkM_214 LM_0 dX11_rules_12 ?_
    refine lv_icmp_gt (tgt := 22) hx hb dX11_rules_15 (by decide) (fun hc => ?_) (fun hc => ?_)
    · have h := Eq.mp (if_pos hc) h
      exact wkM_rules_b22 X hr hlk hR   h hw (lv_sub hl [0, 1] rfl)
    · have h := Eq.mp (if_neg hc) h
      refine lv_iconst (v := 1) hx hb dX11_rules_18 (by decide) ?_
      refine lv_goto (tgt := 23) hx hb dX11_rules_19 (by decide) ?_
      exact wkM_rules_b23 X hr hlk hR   h hw (lv_sub hl [0, 1] rfl)

theorem cM_fault {l : Launch} {D : va_G} {cA : Nat → ClassId} {z sz : Nat} {I : HI} {J : HJ}  {Q : Int32 → HI → Prop}  (h : M_fault I  Q) : Met l yX11_fault (hws0 yX11_fault cX11_fault 1 (some .int)) { frames := 0, cells := 0, slots := 0, locals := 0 } (hPc D cA z Ev0 (I, J, T, FM, LM) sz [.ref (z + 0)]) (va_Qi (pI J T FM LM Q) (hB D cA z (hA z LM sz)) (hA z LM sz)) 0 0 (hA z LM sz) := by
  refine hm_met (I, J, T, FM, LM) [.ref (z + 0)] rfl (by decide) (Nat.le_of_ble_eq_true rfl) ?_
  intro p e s m below meth c ls X hr hlk hnm hxt hsz hw hl
  have hl : lv_has ls 1 [(0, .ref (z + 0))] := hl
  have hR : 0 ≤ ({ frames := 0, cells := 0, slots := 0, locals := 0 } : Room).frames ∧ 0 ≤ ({ frames := 0, cells := 0, slots := 0, locals := 0 } : Room).locals := ⟨Nat.le_refl _, Nat.le_refl _⟩
  generalize ({ frames := 0, cells := 0, slots := 0, locals := 0 } : Room) = R at hR ⊢
  clear hsz
  generalize (hA z LM sz) = A at hw ⊢
  have hx := X.1
  have hb := X.2.1
  unfold M_fault at h
  refine lv_aload_n hx hb dX11_fault_0 rfl (lv_at hl 0 rfl) ?_
  refine lv_iconst (v := 0) hx hb dX11_fault_1 (by decide) ?_
  refine hm_puti X hw lkM_174 LM_0 rfl rfl dX11_fault_2 (fun H locs hw => ?_)
  refine lv_aload_n hx hb dX11_fault_5 rfl (lv_at hl 0 rfl) ?_
  refine hm_geti X hw lkM_53 LM_0 dX11_fault_6 ?_
  exact hm_iret X hr hlk hw ⟨_, rfl, h⟩ dX11_fault_9

theorem wkM_wears_l4 {J : HJ} {Q : HI → Prop} (X : hX p m c s args RX11 cX11_wears 4) (hr : meth.sig.returnType = none) (hlk : meth.locks = false) (hR : 0 ≤ R.frames ∧ 0 ≤ R.locals)   : ∀ (n : Nat) (I : HI) (x2 : Int32) (x3 : Int32) {ls : Array Slot} {H : Heap} {locs : List Loc}, M_wears_l4 Q n I x2 x3 → hW D cA z Ev0 (I, J, T, FM, LM) A s H locs → lv_has ls 4 [(0, .ref (z + 0)), (2, .int x2), (3, .int x3)] → W p l e R s m args below meth c H locs 0 0 (MQ below (va_Qv (pIv J T FM LM Q) (hB D cA z A) A) args s 0 0 A) (F0 m 4 ls []) := by
  have hx := X.1
  have hb := X.2.1
  intro n
  induction n with
  | zero => intro I x2 x3 ls H locs h; exact False.elim h
  | succ n ih =>
    intro I x2 x3 ls H locs h hw hl
    rw [M_wears_l4] at h
    refine lv_iload_n hx hb dX11_wears_4 rfl (lv_at hl 2 rfl) ?_
    refine lv_aload_n hx hb dX11_wears_5 rfl (lv_at hl 0 rfl) ?_
    refine hm_geti X hw lkM_7 LM_0 dX11_wears_6 ?_
    refine lv_icmp_ge (tgt := 37) hx hb dX11_wears_9 (by decide) (fun hc => ?_) (fun hc => ?_)
    · have h := Eq.mp (if_pos hc) h
      exact hm_vret X hr hlk hw ⟨_, rfl, h⟩ dX11_wears_37
    · have h := Eq.mp (if_neg hc) h
      refine lv_aload_n hx hb dX11_wears_12 rfl (lv_at hl 0 rfl) ?_
      refine hm_getr X hw lkM_75 LM_0 (b := 17) rfl dX11_wears_13 ?_
      refine lv_iload_n hx hb dX11_wears_16 rfl (lv_at hl 2 rfl) ?_
      refine lv_iload_n hx hb dX11_wears_17 rfl (lv_at hl 1 rfl) ?_
      refine lv_aload_n hx hb dX11_wears_18 rfl (lv_at hl 0 rfl) ?_
      refine hm_geti X hw lkM_13 LM_0 dX11_wears_19 ?_
      obtain ⟨hi, h⟩ := h
      refine hm_irem hx hb dX11_wears_22 hi ?_
      obtain ⟨hi, h⟩ := h
      refine hm_iast X hw LM_17 hi dX11_wears_23 (fun H locs hw => ?_)
      refine lv_iload_n hx hb dX11_wears_24 rfl (lv_at hl 1 rfl) ?_
      refine lv_aload_n hx hb dX11_wears_25 rfl (lv_at hl 0 rfl) ?_
      refine hm_geti X hw lkM_13 LM_0 dX11_wears_26 ?_
      obtain ⟨hi, h⟩ := h
      refine hm_idiv hx hb dX11_wears_29 hi ?_
      refine lv_istore_n (lv' := [(2, _), (0, _), (3, _)]) hx hb dX11_wears_30 rfl hl (by decide) rfl (fun ls hl => ?_)
      refine lv_iinc (v := x3 + 1) (lv' := [(3, _), (2, _), (0, _)]) hx hb dX11_wears_31 hl (k := 2) rfl rfl (by decide) rfl (fun ls hl => ?_)
      refine lv_goto (tgt := 4) hx hb dX11_wears_34 (by decide) ?_
      exact ih _ _ _ h hw (lv_sub hl [2, 1, 0] rfl)

theorem cM_wears {l : Launch} {D : va_G} {cA : Nat → ClassId} {z sz : Nat} {I : HI} {J : HJ} {x1 : Int32} {Q : HI → Prop}  (h : M_wears I x1 Q) : Met l yX11_wears (hws0 yX11_wears cX11_wears 4 none) { frames := 0, cells := 0, slots := 0, locals := 0 } (hPc D cA z Ev0 (I, J, T, FM, LM) sz [.ref (z + 0), .int x1]) (va_Qv (pIv J T FM LM Q) (hB D cA z (hA z LM sz)) (hA z LM sz)) 0 0 (hA z LM sz) := by
  refine hm_met (I, J, T, FM, LM) [.ref (z + 0), .int x1] rfl (by decide) (Nat.le_of_ble_eq_true rfl) ?_
  intro p e s m below meth c ls X hr hlk hnm hxt hsz hw hl
  have hl : lv_has ls 4 [(0, .ref (z + 0)), (1, .int x1)] := hl
  have hR : 0 ≤ ({ frames := 0, cells := 0, slots := 0, locals := 0 } : Room).frames ∧ 0 ≤ ({ frames := 0, cells := 0, slots := 0, locals := 0 } : Room).locals := ⟨Nat.le_refl _, Nat.le_refl _⟩
  generalize ({ frames := 0, cells := 0, slots := 0, locals := 0 } : Room) = R at hR ⊢
  clear hsz
  generalize (hA z LM sz) = A at hw ⊢
  have hx := X.1
  have hb := X.2.1
  unfold M_wears at h
  refine lv_iload_n hx hb dX11_wears_0 rfl (lv_at hl 1 rfl) ?_
  refine lv_istore_n (lv' := [(2, _), (0, _), (1, _)]) hx hb dX11_wears_1 rfl hl (by decide) rfl (fun ls hl => ?_)
  refine lv_iconst (v := 0) hx hb dX11_wears_2 (by decide) ?_
  refine lv_istore_n (lv' := [(3, _), (2, _), (0, _), (1, _)]) hx hb dX11_wears_3 rfl hl (by decide) rfl (fun ls hl => ?_)
  obtain ⟨n2, h⟩ := h
  exact wkM_wears_l4 X hr hlk hR   n2 _ _ _ h hw (lv_sub hl [2, 1, 0] rfl)

theorem wkM_sum_l5 {I : HI} {J : HJ} {r1 : Nat} {x2 : Int32} {Q : Int32 → Prop} (X : hX p m c s args RX11 cX11_sum 5) (hr : meth.sig.returnType = (some .int)) (hlk : meth.locks = false) (hR : 0 ≤ R.frames ∧ 0 ≤ R.locals) (hs1 : (r1, 0, 8) ∈ LM)  : ∀ (n : Nat) (x3 : Int32) (x4 : Int32) {ls : Array Slot} {H : Heap} {locs : List Loc}, M_sum_l5 I r1 x2 Q n x3 x4 → hW D cA z Ev0 (I, J, T, FM, LM) A s H locs → lv_has ls 5 [(0, .ref (z + 0)), (1, .ref (z + r1)), (2, .int x2), (3, .int x3), (4, .int x4)] → W p l e R s m args below meth c H locs 0 0 (MQ below (va_Qi (p0 (I, J, T, FM, LM) Q) (hB D cA z A) A) args s 0 0 A) (F0 m 5 ls []) := by
  have hx := X.1
  have hb := X.2.1
  intro n
  induction n with
  | zero => intro x3 x4 ls H locs h; exact False.elim h
  | succ n ih =>
    intro x3 x4 ls H locs h hw hl
    rw [M_sum_l5] at h
    refine lv_iload hx hb dX11_sum_5 (lv_at hl 4 rfl) ?_
    refine lv_aload_n hx hb dX11_sum_7 rfl (lv_at hl 0 rfl) ?_
    refine hm_geti X hw lkM_7 LM_0 dX11_sum_8 ?_
    refine lv_icmp_ge (tgt := 41) hx hb dX11_sum_11 (by decide) (fun hc => ?_) (fun hc => ?_)
    · have h := Eq.mp (if_pos hc) h
      refine lv_iload_n hx hb dX11_sum_41 rfl (lv_at hl 3 rfl) ?_
      exact hm_iret X hr hlk hw ⟨rfl, h⟩ dX11_sum_42
    · have h := Eq.mp (if_neg hc) h
      refine lv_iload_n hx hb dX11_sum_14 rfl (lv_at hl 3 rfl) ?_
      refine lv_iload_n hx hb dX11_sum_15 rfl (lv_at hl 2 rfl) ?_
      refine lv_iload hx hb dX11_sum_16 (lv_at hl 4 rfl) ?_
      refine lv_ishr hx hb dX11_sum_18 ?_
      refine lv_iconst (v := 1) hx hb dX11_sum_19 (by decide) ?_
      refine lv_iand hx hb dX11_sum_20 ?_
      refine lv_iconst (v := 1) hx hb dX11_sum_21 (by decide) ?_
      refine lv_icmp_ne (tgt := 32) hx hb dX11_sum_22 (by decide) (fun hc => ?_) (fun hc => ?_)
      · have h := Eq.mp (if_neg hc) h
        refine lv_iconst (v := 0) hx hb dX11_sum_32 (by decide) ?_
        refine lv_iadd hx hb dX11_sum_33 ?_
        refine lv_istore_n (lv' := [(3, _), (0, _), (1, _), (2, _), (4, _)]) hx hb dX11_sum_34 rfl hl (by decide) rfl (fun ls hl => ?_)
        refine lv_iinc (v := x4 + 1) (lv' := [(4, _), (3, _), (0, _), (1, _), (2, _)]) hx hb dX11_sum_35 hl (k := 4) rfl rfl (by decide) rfl (fun ls hl => ?_)
        refine lv_goto (tgt := 5) hx hb dX11_sum_38 (by decide) ?_
        exact ih _ _ h hw (lv_sub hl [2, 3, 4, 1, 0] rfl)
      · have h := Eq.mp (if_pos hc) h
        refine lv_aload_n hx hb dX11_sum_25 rfl (lv_at hl 1 rfl) ?_
        refine lv_iload hx hb dX11_sum_26 (lv_at hl 4 rfl) ?_
        obtain ⟨hi, h⟩ := h
        refine hm_iald X hw hs1 hi dX11_sum_28 ?_
        refine lv_goto (tgt := 33) hx hb dX11_sum_29 (by decide) ?_
        refine lv_iadd hx hb dX11_sum_33 ?_
        refine lv_istore_n (lv' := [(3, _), (0, _), (1, _), (2, _), (4, _)]) hx hb dX11_sum_34 rfl hl (by decide) rfl (fun ls hl => ?_)
        refine lv_iinc (v := x4 + 1) (lv' := [(4, _), (3, _), (0, _), (1, _), (2, _)]) hx hb dX11_sum_35 hl (k := 4) rfl rfl (by decide) rfl (fun ls hl => ?_)
        refine lv_goto (tgt := 5) hx hb dX11_sum_38 (by decide) ?_
        exact ih _ _ h hw (lv_sub hl [2, 3, 4, 1, 0] rfl)

theorem cM_sum {l : Launch} {D : va_G} {cA : Nat → ClassId} {z sz : Nat} {I : HI} {J : HJ} {r1 : Nat} {x2 : Int32} {Q : Int32 → Prop} (hs1 : (r1, 0, 8) ∈ LM) (h : M_sum I r1 x2 Q) : Met l yX11_sum (hws0 yX11_sum cX11_sum 5 (some .int)) { frames := 0, cells := 0, slots := 0, locals := 0 } (hPc D cA z Ev0 (I, J, T, FM, LM) sz [.ref (z + 0), .ref (z + r1), .int x2]) (va_Qi (p0 (I, J, T, FM, LM) Q) (hB D cA z (hA z LM sz)) (hA z LM sz)) 0 0 (hA z LM sz) := by
  refine hm_met (I, J, T, FM, LM) [.ref (z + 0), .ref (z + r1), .int x2] rfl (by decide) (Nat.le_of_ble_eq_true rfl) ?_
  intro p e s m below meth c ls X hr hlk hnm hxt hsz hw hl
  have hl : lv_has ls 5 [(0, .ref (z + 0)), (1, .ref (z + r1)), (2, .int x2)] := hl
  have hR : 0 ≤ ({ frames := 0, cells := 0, slots := 0, locals := 0 } : Room).frames ∧ 0 ≤ ({ frames := 0, cells := 0, slots := 0, locals := 0 } : Room).locals := ⟨Nat.le_refl _, Nat.le_refl _⟩
  generalize ({ frames := 0, cells := 0, slots := 0, locals := 0 } : Room) = R at hR ⊢
  clear hsz
  generalize (hA z LM sz) = A at hw ⊢
  have hx := X.1
  have hb := X.2.1
  unfold M_sum at h
  refine lv_iconst (v := 0) hx hb dX11_sum_0 (by decide) ?_
  refine lv_istore_n (lv' := [(3, _), (0, _), (1, _), (2, _)]) hx hb dX11_sum_1 rfl hl (by decide) rfl (fun ls hl => ?_)
  refine lv_iconst (v := 0) hx hb dX11_sum_2 (by decide) ?_
  refine lv_istore (lv' := [(4, _), (3, _), (0, _), (1, _), (2, _)]) hx hb dX11_sum_3 hl (by decide) rfl (fun ls hl => ?_)
  obtain ⟨n2, h⟩ := h
  exact wkM_sum_l5 X hr hlk hR hs1  n2 _ _ h hw (lv_sub hl [2, 3, 4, 1, 0] rfl)

theorem cM_valueOf {l : Launch} {D : va_G} {cA : Nat → ClassId} {z sz : Nat} {I : HI} {J : HJ} {x1 : Int32} {x2 : Int32} {Q : Int32 → Prop}  (h : M_valueOf I x1 x2 Q) : Met l yX11_valueOf (hws0 yX11_valueOf cX11_valueOf 4 (some .int)) { frames := 1, cells := 0, slots := 0, locals := 24 } (hPc D cA z Ev0 (I, J, T, FM, LM) sz [.ref (z + 0), .int x1, .int x2]) (va_Qi (p0 (I, J, T, FM, LM) Q) (hB D cA z (hA z LM sz)) (hA z LM sz)) 0 0 (hA z LM sz) := by
  refine hm_met (I, J, T, FM, LM) [.ref (z + 0), .int x1, .int x2] rfl (by decide) (Nat.le_of_ble_eq_true rfl) ?_
  intro p e s m below meth c ls X hr hlk hnm hxt hsz hw hl
  have hl : lv_has ls 4 [(0, .ref (z + 0)), (1, .int x1), (2, .int x2)] := hl
  have hR : 1 ≤ ({ frames := 1, cells := 0, slots := 0, locals := 24 } : Room).frames ∧ 24 ≤ ({ frames := 1, cells := 0, slots := 0, locals := 24 } : Room).locals := ⟨Nat.le_refl _, Nat.le_refl _⟩
  generalize ({ frames := 1, cells := 0, slots := 0, locals := 24 } : Room) = R at hR ⊢
  clear hsz
  generalize (hA z LM sz) = A at hw ⊢
  have hx := X.1
  have hb := X.2.1
  unfold M_valueOf at h
  refine lv_iload_n hx hb dX11_valueOf_0 rfl (lv_at hl 2 rfl) ?_
  refine lv_bipush (v := 16) hx hb dX11_valueOf_1 (by decide) ?_
  refine hm_idiv hx hb dX11_valueOf_3 (by decide) ?_
  refine lv_istore_n (lv' := [(3, _), (0, _), (1, _), (2, _)]) hx hb dX11_valueOf_4 rfl hl (by decide) rfl (fun ls hl => ?_)
  refine lv_iload_n hx hb dX11_valueOf_5 rfl (lv_at hl 3 rfl) ?_
  refine lv_bipush (v := 16) hx hb dX11_valueOf_6 (by decide) ?_
  refine hm_irem hx hb dX11_valueOf_8 (by decide) ?_
  by_cases hc6 : (irm x2 16) = 6
  · have h := Eq.mp (if_pos hc6) h
    refine lv_tableIn (tgt := 48) (off := 39) hx hb dX11_valueOf_9 (by rw [hc6]; decide) (by rw [hc6]; decide) (by rw [hc6]; decide) (by decide) ?_
    refine lv_iload_n hx hb dX11_valueOf_48 rfl (lv_at hl 2 rfl) ?_
    exact hm_iret X hr hlk hw ⟨rfl, h⟩ dX11_valueOf_49
  have h := Eq.mp (if_neg hc6) h
  by_cases hc7 : (irm x2 16) = 7
  · have h := Eq.mp (if_pos hc7) h
    refine lv_tableIn (tgt := 50) (off := 41) hx hb dX11_valueOf_9 (by rw [hc7]; decide) (by rw [hc7]; decide) (by rw [hc7]; decide) (by decide) ?_
    refine lv_aload_n hx hb dX11_valueOf_50 rfl (lv_at hl 1 rfl) ?_
    refine hm_geti X hw lkM_7 LM_0 dX11_valueOf_51 ?_
    exact hm_iret X hr hlk hw ⟨rfl, h⟩ dX11_valueOf_54
  have h := Eq.mp (if_neg hc7) h
  by_cases hc8 : (irm x2 16) = 8
  · have h := Eq.mp (if_pos hc8) h
    refine lv_tableIn (tgt := 55) (off := 46) hx hb dX11_valueOf_9 (by rw [hc8]; decide) (by rw [hc8]; decide) (by rw [hc8]; decide) (by decide) ?_
    refine lv_aload_n hx hb dX11_valueOf_55 rfl (lv_at hl 1 rfl) ?_
    refine hm_geti X hw lkM_13 LM_0 dX11_valueOf_56 ?_
    exact hm_iret X hr hlk hw ⟨rfl, h⟩ dX11_valueOf_59
  have h := Eq.mp (if_neg hc8) h
  by_cases hc9 : (irm x2 16) = 9
  · have h := Eq.mp (if_pos hc9) h
    refine lv_tableIn (tgt := 60) (off := 51) hx hb dX11_valueOf_9 (by rw [hc9]; decide) (by rw [hc9]; decide) (by rw [hc9]; decide) (by decide) ?_
    refine lv_aload_n hx hb dX11_valueOf_60 rfl (lv_at hl 1 rfl) ?_
    refine hm_getr X hw lkM_26 LM_0 (b := 2) rfl dX11_valueOf_61 ?_
    refine lv_iload_n hx hb dX11_valueOf_64 rfl (lv_at hl 2 rfl) ?_
    obtain ⟨hi, h⟩ := h
    refine hm_iald X hw LM_2 hi dX11_valueOf_65 ?_
    refine lv_iload_n hx hb dX11_valueOf_66 rfl (lv_at hl 0 rfl) ?_
    refine lv_ishr hx hb dX11_valueOf_67 ?_
    refine lv_iconst (v := 1) hx hb dX11_valueOf_68 (by decide) ?_
    refine lv_iand hx hb dX11_valueOf_69 ?_
    refine lv_iconst (v := 1) hx hb dX11_valueOf_70 (by decide) ?_
    refine lv_icmp_ne (tgt := 83) hx hb dX11_valueOf_71 (by decide) (fun hc => ?_) (fun hc => ?_)
    · have h := Eq.mp (if_neg hc) h
      refine lv_iconst (v := 0) hx hb dX11_valueOf_83 (by decide) ?_
      exact hm_iret X hr hlk hw ⟨rfl, h⟩ dX11_valueOf_84
    · have h := Eq.mp (if_pos hc) h
      refine lv_aload_n hx hb dX11_valueOf_74 rfl (lv_at hl 1 rfl) ?_
      refine hm_getr X hw lkM_75 LM_0 (b := 17) rfl dX11_valueOf_75 ?_
      refine lv_iload_n hx hb dX11_valueOf_78 rfl (lv_at hl 0 rfl) ?_
      obtain ⟨hi, h⟩ := h
      refine hm_iald X hw LM_17 hi dX11_valueOf_79 ?_
      refine lv_goto (tgt := 84) hx hb dX11_valueOf_80 (by decide) ?_
      exact hm_iret X hr hlk hw ⟨rfl, h⟩ dX11_valueOf_84
  have h := Eq.mp (if_neg hc9) h
  by_cases hc10 : (irm x2 16) = 10
  · have h := Eq.mp (if_pos hc10) h
    refine lv_tableIn (tgt := 85) (off := 76) hx hb dX11_valueOf_9 (by rw [hc10]; decide) (by rw [hc10]; decide) (by rw [hc10]; decide) (by decide) ?_
    refine lv_aload_n hx hb dX11_valueOf_85 rfl (lv_at hl 1 rfl) ?_
    refine lv_iload_n hx hb dX11_valueOf_86 rfl (lv_at hl 2 rfl) ?_
    refine hm_calli hw (hm_runV (rest := []) hCl_true X hw (cM_hears  h) ykM_hears kw1345 rfl LM_0 rfl hl.1 rfl rfl rfl (Nat.le_of_ble_eq_true rfl) ⟨Nat.le_trans (Nat.le_of_ble_eq_true rfl) hR.1, Nat.le_trans (Nat.le_of_ble_eq_true rfl) hR.2⟩ ⟨Nat.zero_le _, Nat.zero_le _⟩ dX11_valueOf_87) (fun r1 u2 H locs hp hw => ?_)
    obtain ⟨rfl, h⟩ := hp
    refine lv_iload_n hx hb dX11_valueOf_90 rfl (lv_at hl 0 rfl) ?_
    refine lv_ishr hx hb dX11_valueOf_91 ?_
    refine lv_iconst (v := 1) hx hb dX11_valueOf_92 (by decide) ?_
    refine lv_iand hx hb dX11_valueOf_93 ?_
    refine lv_iconst (v := 1) hx hb dX11_valueOf_94 (by decide) ?_
    refine lv_icmp_ne (tgt := 107) hx hb dX11_valueOf_95 (by decide) (fun hc => ?_) (fun hc => ?_)
    · have h := Eq.mp (if_neg hc) h
      refine lv_iconst (v := 0) hx hb dX11_valueOf_107 (by decide) ?_
      exact hm_iret X hr hlk hw ⟨rfl, h⟩ dX11_valueOf_108
    · have h := Eq.mp (if_pos hc) h
      refine lv_aload_n hx hb dX11_valueOf_98 rfl (lv_at hl 1 rfl) ?_
      refine hm_getr X hw lkM_78 LM_0 (b := 18) rfl dX11_valueOf_99 ?_
      refine lv_iload_n hx hb dX11_valueOf_102 rfl (lv_at hl 0 rfl) ?_
      obtain ⟨hi, h⟩ := h
      refine hm_iald X hw LM_18 hi dX11_valueOf_103 ?_
      refine lv_goto (tgt := 108) hx hb dX11_valueOf_104 (by decide) ?_
      exact hm_iret X hr hlk hw ⟨rfl, h⟩ dX11_valueOf_108
  have h := Eq.mp (if_neg hc10) h
  by_cases hc11 : (irm x2 16) = 11
  · have h := Eq.mp (if_pos hc11) h
    refine lv_tableIn (tgt := 109) (off := 100) hx hb dX11_valueOf_9 (by rw [hc11]; decide) (by rw [hc11]; decide) (by rw [hc11]; decide) (by decide) ?_
    refine lv_aload_n hx hb dX11_valueOf_109 rfl (lv_at hl 1 rfl) ?_
    refine lv_aload_n hx hb dX11_valueOf_110 rfl (lv_at hl 1 rfl) ?_
    refine hm_getr X hw lkM_75 LM_0 (b := 17) rfl dX11_valueOf_111 ?_
    refine lv_aload_n hx hb dX11_valueOf_114 rfl (lv_at hl 1 rfl) ?_
    refine hm_getr X hw lkM_26 LM_0 (b := 2) rfl dX11_valueOf_115 ?_
    refine lv_iload_n hx hb dX11_valueOf_118 rfl (lv_at hl 2 rfl) ?_
    obtain ⟨hi, h⟩ := h
    refine hm_iald X hw LM_2 hi dX11_valueOf_119 ?_
    refine hm_calli hw (hm_runV (rest := []) hCl_true X hw (cM_sum LM_17 h) ykM_sum kw1753 rfl LM_0 rfl hl.1 rfl rfl rfl (Nat.le_of_ble_eq_true rfl) ⟨Nat.le_trans (Nat.le_of_ble_eq_true rfl) hR.1, Nat.le_trans (Nat.le_of_ble_eq_true rfl) hR.2⟩ ⟨Nat.zero_le _, Nat.zero_le _⟩ dX11_valueOf_120) (fun r3 u4 H locs hp hw => ?_)
    obtain ⟨rfl, h⟩ := hp
    exact hm_iret X hr hlk hw ⟨rfl, h⟩ dX11_valueOf_123
  have h := Eq.mp (if_neg hc11) h
  refine hm_tabD (tgt := 124) [6, 7, 8, 9, 10, 11] hx hb dX11_valueOf_9 (by decide) (by simp only [List.forall_mem_cons]; exact ⟨hc6, hc7, hc8, hc9, hc10, hc11, fun _ h => (by cases h)⟩) (by decide) ?_
  refine lv_aload_n hx hb dX11_valueOf_124 rfl (lv_at hl 1 rfl) ?_
  refine lv_aload_n hx hb dX11_valueOf_125 rfl (lv_at hl 1 rfl) ?_
  refine hm_getr X hw lkM_78 LM_0 (b := 18) rfl dX11_valueOf_126 ?_
  refine lv_aload_n hx hb dX11_valueOf_129 rfl (lv_at hl 1 rfl) ?_
  refine lv_iload_n hx hb dX11_valueOf_130 rfl (lv_at hl 2 rfl) ?_
  refine hm_calli hw (hm_runV (rest := [_, _]) hCl_true X hw (cM_hears  h) ykM_hears kw1345 rfl LM_0 rfl hl.1 rfl rfl rfl (Nat.le_of_ble_eq_true rfl) ⟨Nat.le_trans (Nat.le_of_ble_eq_true rfl) hR.1, Nat.le_trans (Nat.le_of_ble_eq_true rfl) hR.2⟩ ⟨Nat.zero_le _, Nat.zero_le _⟩ dX11_valueOf_131) (fun r5 u6 H locs hp hw => ?_)
  obtain ⟨rfl, h⟩ := hp
  refine hm_calli hw (hm_runV (rest := []) hCl_true X hw (cM_sum LM_18 h) ykM_sum kw1753 rfl LM_0 rfl hl.1 rfl rfl rfl (Nat.le_of_ble_eq_true rfl) ⟨Nat.le_trans (Nat.le_of_ble_eq_true rfl) hR.1, Nat.le_trans (Nat.le_of_ble_eq_true rfl) hR.2⟩ ⟨Nat.zero_le _, Nat.zero_le _⟩ dX11_valueOf_134) (fun r7 u8 H locs hp hw => ?_)
  obtain ⟨rfl, h⟩ := hp
  exact hm_iret X hr hlk hw ⟨rfl, h⟩ dX11_valueOf_137

theorem cM_works {l : Launch} {D : va_G} {cA : Nat → ClassId} {z sz : Nat} {I : HI} {J : HJ} {x0 : Int32} {x1 : Int32} {x2 : Int32} {Q : Int32 → Prop}  (h : M_works  x0 x1 x2 Q) : Met l yX11_works (hws0 yX11_works cX11_works 3 (some .int)) { frames := 0, cells := 0, slots := 0, locals := 0 } (hPc D cA z Ev0 (I, J, T, FM, LM) sz [.int x0, .int x1, .int x2]) (va_Qi (p0 (I, J, T, FM, LM) Q) (hB D cA z (hA z LM sz)) (hA z LM sz)) 0 0 (hA z LM sz) := by
  refine hm_met (I, J, T, FM, LM) [.int x0, .int x1, .int x2] rfl (by decide) (Nat.le_of_ble_eq_true rfl) ?_
  intro p e s m below meth c ls X hr hlk hnm hxt hsz hw hl
  have hl : lv_has ls 3 [(0, .int x0), (1, .int x1), (2, .int x2)] := hl
  have hR : 0 ≤ ({ frames := 0, cells := 0, slots := 0, locals := 0 } : Room).frames ∧ 0 ≤ ({ frames := 0, cells := 0, slots := 0, locals := 0 } : Room).locals := ⟨Nat.le_refl _, Nat.le_refl _⟩
  generalize ({ frames := 0, cells := 0, slots := 0, locals := 0 } : Room) = R at hR ⊢
  clear hsz
  generalize (hA z LM sz) = A at hw ⊢
  have hx := X.1
  have hb := X.2.1
  unfold M_works at h
  refine lv_iload_n hx hb dX11_works_0 rfl (lv_at hl 0 rfl) ?_
  by_cases hc4 : x0 = 4
  · have h := Eq.mp (if_pos hc4) h
    refine lv_tableIn (tgt := 44) (off := 43) hx hb dX11_works_1 (by rw [hc4]; decide) (by rw [hc4]; decide) (by rw [hc4]; decide) (by decide) ?_
    refine lv_iload_n hx hb dX11_works_44 rfl (lv_at hl 1 rfl) ?_
    refine lv_if_eq (tgt := 56) hx hb dX11_works_45 (by decide) (fun hc => ?_) (fun hc => ?_)
    · have h := Eq.mp (if_pos hc) h
      refine lv_iconst (v := 0) hx hb dX11_works_56 (by decide) ?_
      exact hm_iret X hr hlk hw ⟨rfl, h⟩ dX11_works_57
    · have h := Eq.mp (if_neg hc) h
      refine lv_iload_n hx hb dX11_works_48 rfl (lv_at hl 2 rfl) ?_
      refine lv_if_eq (tgt := 56) hx hb dX11_works_49 (by decide) (fun hc => ?_) (fun hc => ?_)
      · have h := Eq.mp (if_pos hc) h
        refine lv_iconst (v := 0) hx hb dX11_works_56 (by decide) ?_
        exact hm_iret X hr hlk hw ⟨rfl, h⟩ dX11_works_57
      · have h := Eq.mp (if_neg hc) h
        refine lv_iconst (v := 1) hx hb dX11_works_52 (by decide) ?_
        refine lv_goto (tgt := 57) hx hb dX11_works_53 (by decide) ?_
        exact hm_iret X hr hlk hw ⟨rfl, h⟩ dX11_works_57
  have h := Eq.mp (if_neg hc4) h
  by_cases hc5 : x0 = 5
  · have h := Eq.mp (if_pos hc5) h
    refine lv_tableIn (tgt := 58) (off := 57) hx hb dX11_works_1 (by rw [hc5]; decide) (by rw [hc5]; decide) (by rw [hc5]; decide) (by decide) ?_
    refine lv_iload_n hx hb dX11_works_58 rfl (lv_at hl 1 rfl) ?_
    refine lv_if_ne (tgt := 66) hx hb dX11_works_59 (by decide) (fun hc => ?_) (fun hc => ?_)
    · have h := Eq.mp (if_neg hc) h
      refine lv_iconst (v := 1) hx hb dX11_works_66 (by decide) ?_
      refine lv_goto (tgt := 71) hx hb dX11_works_67 (by decide) ?_
      exact hm_iret X hr hlk hw ⟨rfl, h⟩ dX11_works_71
    · have h := Eq.mp (if_pos hc) h
      refine lv_iload_n hx hb dX11_works_62 rfl (lv_at hl 2 rfl) ?_
      refine lv_if_eq (tgt := 70) hx hb dX11_works_63 (by decide) (fun hc => ?_) (fun hc => ?_)
      · have h := Eq.mp (if_pos hc) h
        refine lv_iconst (v := 0) hx hb dX11_works_70 (by decide) ?_
        exact hm_iret X hr hlk hw ⟨rfl, h⟩ dX11_works_71
      · have h := Eq.mp (if_neg hc) h
        refine lv_iconst (v := 1) hx hb dX11_works_66 (by decide) ?_
        refine lv_goto (tgt := 71) hx hb dX11_works_67 (by decide) ?_
        exact hm_iret X hr hlk hw ⟨rfl, h⟩ dX11_works_71
  have h := Eq.mp (if_neg hc5) h
  by_cases hc6 : x0 = 6
  · have h := Eq.mp (if_pos hc6) h
    refine lv_tableIn (tgt := 72) (off := 71) hx hb dX11_works_1 (by rw [hc6]; decide) (by rw [hc6]; decide) (by rw [hc6]; decide) (by decide) ?_
    refine lv_iload_n hx hb dX11_works_72 rfl (lv_at hl 1 rfl) ?_
    refine lv_iload_n hx hb dX11_works_73 rfl (lv_at hl 2 rfl) ?_
    refine lv_icmp_ge (tgt := 81) hx hb dX11_works_74 (by decide) (fun hc => ?_) (fun hc => ?_)
    · have h := Eq.mp (if_pos hc) h
      refine lv_iconst (v := 0) hx hb dX11_works_81 (by decide) ?_
      exact hm_iret X hr hlk hw ⟨rfl, h⟩ dX11_works_82
    · have h := Eq.mp (if_neg hc) h
      refine lv_iconst (v := 1) hx hb dX11_works_77 (by decide) ?_
      refine lv_goto (tgt := 82) hx hb dX11_works_78 (by decide) ?_
      exact hm_iret X hr hlk hw ⟨rfl, h⟩ dX11_works_82
  have h := Eq.mp (if_neg hc6) h
  by_cases hc7 : x0 = 7
  · have h := Eq.mp (if_pos hc7) h
    refine lv_tableIn (tgt := 83) (off := 82) hx hb dX11_works_1 (by rw [hc7]; decide) (by rw [hc7]; decide) (by rw [hc7]; decide) (by decide) ?_
    refine lv_iload_n hx hb dX11_works_83 rfl (lv_at hl 1 rfl) ?_
    refine lv_iload_n hx hb dX11_works_84 rfl (lv_at hl 2 rfl) ?_
    refine lv_icmp_ne (tgt := 92) hx hb dX11_works_85 (by decide) (fun hc => ?_) (fun hc => ?_)
    · have h := Eq.mp (if_neg hc) h
      refine lv_iconst (v := 0) hx hb dX11_works_92 (by decide) ?_
      exact hm_iret X hr hlk hw ⟨rfl, h⟩ dX11_works_93
    · have h := Eq.mp (if_pos hc) h
      refine lv_iconst (v := 1) hx hb dX11_works_88 (by decide) ?_
      refine lv_goto (tgt := 93) hx hb dX11_works_89 (by decide) ?_
      exact hm_iret X hr hlk hw ⟨rfl, h⟩ dX11_works_93
  have h := Eq.mp (if_neg hc7) h
  by_cases hc8 : x0 = 8
  · have h := Eq.mp (if_pos hc8) h
    refine lv_tableIn (tgt := 94) (off := 93) hx hb dX11_works_1 (by rw [hc8]; decide) (by rw [hc8]; decide) (by rw [hc8]; decide) (by decide) ?_
    refine lv_iload_n hx hb dX11_works_94 rfl (lv_at hl 1 rfl) ?_
    refine lv_iload_n hx hb dX11_works_95 rfl (lv_at hl 2 rfl) ?_
    refine lv_iadd hx hb dX11_works_96 ?_
    exact hm_iret X hr hlk hw ⟨rfl, h⟩ dX11_works_97
  have h := Eq.mp (if_neg hc8) h
  by_cases hc9 : x0 = 9
  · have h := Eq.mp (if_pos hc9) h
    refine lv_tableIn (tgt := 98) (off := 97) hx hb dX11_works_1 (by rw [hc9]; decide) (by rw [hc9]; decide) (by rw [hc9]; decide) (by decide) ?_
    refine lv_iload_n hx hb dX11_works_98 rfl (lv_at hl 1 rfl) ?_
    refine lv_iload_n hx hb dX11_works_99 rfl (lv_at hl 2 rfl) ?_
    refine lv_isub hx hb dX11_works_100 ?_
    exact hm_iret X hr hlk hw ⟨rfl, h⟩ dX11_works_101
  have h := Eq.mp (if_neg hc9) h
  by_cases hc10 : x0 = 10
  · have h := Eq.mp (if_pos hc10) h
    refine lv_tableIn (tgt := 102) (off := 101) hx hb dX11_works_1 (by rw [hc10]; decide) (by rw [hc10]; decide) (by rw [hc10]; decide) (by decide) ?_
    refine lv_iload_n hx hb dX11_works_102 rfl (lv_at hl 1 rfl) ?_
    refine lv_iload_n hx hb dX11_works_103 rfl (lv_at hl 2 rfl) ?_
    refine lv_imul hx hb dX11_works_104 ?_
    exact hm_iret X hr hlk hw ⟨rfl, h⟩ dX11_works_105
  have h := Eq.mp (if_neg hc10) h
  refine hm_tabD (tgt := 106) [4, 5, 6, 7, 8, 9, 10] hx hb dX11_works_1 (by decide) (by simp only [List.forall_mem_cons]; exact ⟨hc4, hc5, hc6, hc7, hc8, hc9, hc10, fun _ h => (by cases h)⟩) (by decide) ?_
  refine lv_iload_n hx hb dX11_works_106 rfl (lv_at hl 2 rfl) ?_
  refine lv_if_ne (tgt := 114) hx hb dX11_works_107 (by decide) (fun hc => ?_) (fun hc => ?_)
  · have h := Eq.mp (if_neg hc) h
    refine lv_iload_n hx hb dX11_works_114 rfl (lv_at hl 1 rfl) ?_
    refine lv_iload_n hx hb dX11_works_115 rfl (lv_at hl 2 rfl) ?_
    obtain ⟨hi, h⟩ := h
    refine hm_idiv hx hb dX11_works_116 hi ?_
    exact hm_iret X hr hlk hw ⟨rfl, h⟩ dX11_works_117
  · have h := Eq.mp (if_pos hc) h
    refine lv_iconst (v := 0) hx hb dX11_works_110 (by decide) ?_
    refine lv_goto (tgt := 117) hx hb dX11_works_111 (by decide) ?_
    exact hm_iret X hr hlk hw ⟨rfl, h⟩ dX11_works_117

theorem wkM_worth_b45 {I : HI} {J : HJ} {x1 : Int32} {x3 : Int32} {x4 : Int32} {x5 : Int32} {K11 : HI → Int32 → Int32 → Prop} {Q : Int32 → HI → Prop} (X : hX p m c s args RX11 cX11_worth 6) (hr : meth.sig.returnType = (some .int)) (hlk : meth.locks = false) (hR : 2 ≤ R.frames ∧ 47 ≤ R.locals)  (hK11 : ∀ (I : HI) (x3 : Int32) (x4 : Int32) {ls : Array Slot} {H : Heap} {locs : List Loc}, K11 I x3 x4 → hW D cA z Ev0 (I, J, T, FM, LM) A s H locs → lv_has ls 6 [(0, .ref (z + 0)), (1, .int x1), (3, .int x3), (4, .int x4)] → W p l e R s m args below meth c H locs 0 0 (MQ below (va_Qi (pI J T FM LM Q) (hB D cA z A) A) args s 0 0 A) (F0 m 11 ls [])) : ∀ {ls : Array Slot} {H : Heap} {locs : List Loc}, M_worth_b45 I x1 x3 x4 x5 K11 Q → hW D cA z Ev0 (I, J, T, FM, LM) A s H locs → lv_has ls 6 [(0, .ref (z + 0)), (1, .int x1), (3, .int x3), (4, .int x4), (5, .int x5)] → W p l e R s m args below meth c H locs 0 0 (MQ below (va_Qi (pI J T FM LM Q) (hB D cA z A) A) args s 0 0 A) (F0 m 45 ls []) := by
  have hx := X.1
  have hb := X.2.1
  intro ls H locs h hw hl
  unfold M_worth_b45 at h
  refine lv_aload_n hx hb dX11_worth_45 rfl (lv_at hl 0 rfl) ?_
  refine hm_getr X hw lkM_81 LM_0 (b := 19) rfl dX11_worth_46 ?_
  refine lv_iload_n hx hb dX11_worth_49 rfl (lv_at hl 2 rfl) ?_
  refine lv_iload hx hb dX11_worth_50 (lv_at hl 4 rfl) ?_
  refine lv_iconst (v := 1) hx hb dX11_worth_52 (by decide) ?_
  refine lv_icmp_ne (tgt := 66) hx hb dX11_worth_53 (by decide) (fun hc => ?_) (fun hc => ?_)
  · have h := Eq.mp (if_neg hc) h
    refine lv_aload_n hx hb dX11_worth_66 rfl (lv_at hl 0 rfl) ?_
    refine lv_iload_n hx hb dX11_worth_67 rfl (lv_at hl 1 rfl) ?_
    refine lv_aload_n hx hb dX11_worth_68 rfl (lv_at hl 0 rfl) ?_
    refine hm_getr X hw lkM_38 LM_0 (b := 6) rfl dX11_worth_69 ?_
    refine lv_iload hx hb dX11_worth_72 (lv_at hl 3 rfl) ?_
    obtain ⟨hi, h⟩ := h
    refine hm_iald X hw LM_6 hi dX11_worth_74 ?_
    refine hm_calli hw (hm_runV (rest := [_, _]) hCl_true X hw (cM_valueOf  h) ykM_valueOf kw1749 rfl LM_0 rfl hl.1 rfl rfl rfl (Nat.le_of_ble_eq_true rfl) ⟨Nat.le_trans (Nat.le_of_ble_eq_true rfl) hR.1, Nat.le_trans (Nat.le_of_ble_eq_true rfl) hR.2⟩ ⟨Nat.zero_le _, Nat.zero_le _⟩ dX11_worth_75) (fun r1 u2 H locs hp hw => ?_)
    obtain ⟨rfl, h⟩ := hp
    obtain ⟨hi, h⟩ := h
    refine hm_iast X hw LM_19 hi dX11_worth_78 (fun H locs hw => ?_)
    refine lv_iinc (v := x4 + 1) (lv' := [(4, _), (0, _), (1, _), (3, _), (5, _)]) hx hb dX11_worth_79 hl (k := 3) rfl rfl (by decide) rfl (fun ls hl => ?_)
    refine lv_iinc (v := x3 + 1) (lv' := [(3, _), (4, _), (0, _), (1, _), (5, _)]) hx hb dX11_worth_82 hl (k := 3) rfl rfl (by decide) rfl (fun ls hl => ?_)
    refine lv_goto (tgt := 151) hx hb dX11_worth_85 (by decide) ?_
    refine lv_goto (tgt := 11) hx hb dX11_worth_151 (by decide) ?_
    exact hK11 _ _ _ h hw (lv_sub hl [2, 3, 0, 1] rfl)
  · have h := Eq.mp (if_pos hc) h
    refine lv_aload_n hx hb dX11_worth_56 rfl (lv_at hl 0 rfl) ?_
    refine hm_getr X hw lkM_38 LM_0 (b := 6) rfl dX11_worth_57 ?_
    refine lv_iload hx hb dX11_worth_60 (lv_at hl 3 rfl) ?_
    obtain ⟨hi, h⟩ := h
    refine hm_iald X hw LM_6 hi dX11_worth_62 ?_
    refine lv_goto (tgt := 78) hx hb dX11_worth_63 (by decide) ?_
    obtain ⟨hi, h⟩ := h
    refine hm_iast X hw LM_19 hi dX11_worth_78 (fun H locs hw => ?_)
    refine lv_iinc (v := x4 + 1) (lv' := [(4, _), (0, _), (1, _), (3, _), (5, _)]) hx hb dX11_worth_79 hl (k := 3) rfl rfl (by decide) rfl (fun ls hl => ?_)
    refine lv_iinc (v := x3 + 1) (lv' := [(3, _), (4, _), (0, _), (1, _), (5, _)]) hx hb dX11_worth_82 hl (k := 3) rfl rfl (by decide) rfl (fun ls hl => ?_)
    refine lv_goto (tgt := 151) hx hb dX11_worth_85 (by decide) ?_
    refine lv_goto (tgt := 11) hx hb dX11_worth_151 (by decide) ?_
    exact hK11 _ _ _ h hw (lv_sub hl [2, 3, 0, 1] rfl)

theorem wkM_worth_l11 {J : HJ} {x1 : Int32} {Q : Int32 → HI → Prop} (X : hX p m c s args RX11 cX11_worth 6) (hr : meth.sig.returnType = (some .int)) (hlk : meth.locks = false) (hR : 2 ≤ R.frames ∧ 47 ≤ R.locals)   : ∀ (n : Nat) (I : HI) (x3 : Int32) (x4 : Int32) {ls : Array Slot} {H : Heap} {locs : List Loc}, M_worth_l11 x1 Q n I x3 x4 → hW D cA z Ev0 (I, J, T, FM, LM) A s H locs → lv_has ls 6 [(0, .ref (z + 0)), (1, .int x1), (3, .int x3), (4, .int x4)] → W p l e R s m args below meth c H locs 0 0 (MQ below (va_Qi (pI J T FM LM Q) (hB D cA z A) A) args s 0 0 A) (F0 m 11 ls []) := by
  have hx := X.1
  have hb := X.2.1
  intro n
  induction n with
  | zero => intro I x3 x4 ls H locs h; exact False.elim h
  | succ n ih =>
    intro I x3 x4 ls H locs h hw hl
    rw [M_worth_l11] at h
    refine lv_aload_n hx hb dX11_worth_11 rfl (lv_at hl 0 rfl) ?_
    refine hm_getr X hw lkM_38 LM_0 (b := 6) rfl dX11_worth_12 ?_
    refine lv_iload hx hb dX11_worth_15 (lv_at hl 3 rfl) ?_
    obtain ⟨hi, h⟩ := h
    refine hm_iald X hw LM_6 hi dX11_worth_17 ?_
    refine lv_if_eq (tgt := 154) hx hb dX11_worth_18 (by decide) (fun hc => ?_) (fun hc => ?_)
    · have h := Eq.mp (if_pos hc) h
      refine lv_aload_n hx hb dX11_worth_154 rfl (lv_at hl 0 rfl) ?_
      refine hm_getr X hw lkM_81 LM_0 (b := 19) rfl dX11_worth_155 ?_
      refine lv_iconst (v := 0) hx hb dX11_worth_158 (by decide) ?_
      refine hm_iald X hw LM_19 (by unfold vp_in; decide) dX11_worth_159 ?_
      exact hm_iret X hr hlk hw ⟨_, rfl, h⟩ dX11_worth_160
    · have h := Eq.mp (if_neg hc) h
      refine lv_aload_n hx hb dX11_worth_21 rfl (lv_at hl 0 rfl) ?_
      refine hm_getr X hw lkM_38 LM_0 (b := 6) rfl dX11_worth_22 ?_
      refine lv_iload hx hb dX11_worth_25 (lv_at hl 3 rfl) ?_
      obtain ⟨hi, h⟩ := h
      refine hm_iald X hw LM_6 hi dX11_worth_27 ?_
      refine lv_istore (lv' := [(5, _), (0, _), (1, _), (3, _), (4, _)]) hx hb dX11_worth_28 hl (by decide) rfl (fun ls hl => ?_)
      refine lv_iinc (v := x4 + 1) (lv' := [(4, _), (5, _), (0, _), (1, _), (3, _)]) hx hb dX11_worth_30 hl (k := 4) rfl rfl (by decide) rfl (fun ls hl => ?_)
      refine lv_iload hx hb dX11_worth_33 (lv_at hl 1 rfl) ?_
      refine lv_iconst (v := 1) hx hb dX11_worth_35 (by decide) ?_
      refine lv_icmp_eq (tgt := 45) hx hb dX11_worth_36 (by decide) (fun hc => ?_) (fun hc => ?_)
      · have h := Eq.mp (if_pos hc) h
        exact wkM_worth_b45 X hr hlk hR  ih h hw (lv_sub hl [2, 3, 4, 0, 1] rfl)
      · have h := Eq.mp (if_neg hc) h
        refine lv_iload hx hb dX11_worth_39 (lv_at hl 1 rfl) ?_
        refine lv_iconst (v := 2) hx hb dX11_worth_41 (by decide) ?_
        refine lv_icmp_ne (tgt := 88) hx hb dX11_worth_42 (by decide) (fun hc => ?_) (fun hc => ?_)
        · have h := Eq.mp (if_neg hc) h
          refine lv_iload hx hb dX11_worth_88 (lv_at hl 1 rfl) ?_
          refine lv_iconst (v := 3) hx hb dX11_worth_90 (by decide) ?_
          refine lv_icmp_ne (tgt := 121) hx hb dX11_worth_91 (by decide) (fun hc => ?_) (fun hc => ?_)
          · have h := Eq.mp (if_neg hc) h
            refine lv_iinc (v := x3 + (-1)) (lv' := [(3, _), (4, _), (5, _), (0, _), (1, _)]) hx hb dX11_worth_121 hl (k := 4) rfl rfl (by decide) rfl (fun ls hl => ?_)
            refine lv_aload_n hx hb dX11_worth_124 rfl (lv_at hl 3 rfl) ?_
            refine hm_getr X hw lkM_81 LM_0 (b := 19) rfl dX11_worth_125 ?_
            refine lv_iload_n hx hb dX11_worth_128 rfl (lv_at hl 0 rfl) ?_
            refine lv_iconst (v := 1) hx hb dX11_worth_129 (by decide) ?_
            refine lv_isub hx hb dX11_worth_130 ?_
            refine lv_iload hx hb dX11_worth_131 (lv_at hl 2 rfl) ?_
            refine lv_aload_n hx hb dX11_worth_133 rfl (lv_at hl 3 rfl) ?_
            refine hm_getr X hw lkM_81 LM_0 (b := 19) rfl dX11_worth_134 ?_
            refine lv_iload_n hx hb dX11_worth_137 rfl (lv_at hl 0 rfl) ?_
            refine lv_iconst (v := 1) hx hb dX11_worth_138 (by decide) ?_
            refine lv_isub hx hb dX11_worth_139 ?_
            obtain ⟨hi, h⟩ := h
            refine hm_iald X hw LM_19 hi dX11_worth_140 ?_
            refine lv_aload_n hx hb dX11_worth_141 rfl (lv_at hl 3 rfl) ?_
            refine hm_getr X hw lkM_81 LM_0 (b := 19) rfl dX11_worth_142 ?_
            refine lv_iload_n hx hb dX11_worth_145 rfl (lv_at hl 0 rfl) ?_
            obtain ⟨hi, h⟩ := h
            refine hm_iald X hw LM_19 hi dX11_worth_146 ?_
            refine hm_calli hw (hm_runS (rest := [_, _]) hCl_true X hw (cM_works  h) ykM_works kw1757 rfl hl.1 rfl rfl rfl (Nat.le_of_ble_eq_true rfl) ⟨Nat.le_trans (Nat.le_of_ble_eq_true rfl) hR.1, Nat.le_trans (Nat.le_of_ble_eq_true rfl) hR.2⟩ ⟨Nat.zero_le _, Nat.zero_le _⟩ dX11_worth_147) (fun r3 u4 H locs hp hw => ?_)
            obtain ⟨rfl, h⟩ := hp
            obtain ⟨hi, h⟩ := h
            refine hm_iast X hw LM_19 hi dX11_worth_150 (fun H locs hw => ?_)
            refine lv_goto (tgt := 11) hx hb dX11_worth_151 (by decide) ?_
            exact ih _ _ _ h hw (lv_sub hl [3, 4, 0, 1] rfl)
          · have h := Eq.mp (if_pos hc) h
            refine lv_aload_n hx hb dX11_worth_94 rfl (lv_at hl 2 rfl) ?_
            refine hm_getr X hw lkM_81 LM_0 (b := 19) rfl dX11_worth_95 ?_
            refine lv_iload_n hx hb dX11_worth_98 rfl (lv_at hl 4 rfl) ?_
            refine lv_iconst (v := 1) hx hb dX11_worth_99 (by decide) ?_
            refine lv_isub hx hb dX11_worth_100 ?_
            refine lv_aload_n hx hb dX11_worth_101 rfl (lv_at hl 2 rfl) ?_
            refine hm_getr X hw lkM_81 LM_0 (b := 19) rfl dX11_worth_102 ?_
            refine lv_iload_n hx hb dX11_worth_105 rfl (lv_at hl 4 rfl) ?_
            refine lv_iconst (v := 1) hx hb dX11_worth_106 (by decide) ?_
            refine lv_isub hx hb dX11_worth_107 ?_
            obtain ⟨hi, h⟩ := h
            refine hm_iald X hw LM_19 hi dX11_worth_108 ?_
            refine lv_if_ne (tgt := 116) hx hb dX11_worth_109 (by decide) (fun hc => ?_) (fun hc => ?_)
            · have h := Eq.mp (if_neg hc) h
              refine lv_iconst (v := 0) hx hb dX11_worth_116 (by decide) ?_
              obtain ⟨hi, h⟩ := h
              refine hm_iast X hw LM_19 hi dX11_worth_117 (fun H locs hw => ?_)
              refine lv_goto (tgt := 151) hx hb dX11_worth_118 (by decide) ?_
              refine lv_goto (tgt := 11) hx hb dX11_worth_151 (by decide) ?_
              exact ih _ _ _ h hw (lv_sub hl [2, 3, 4, 0] rfl)
            · have h := Eq.mp (if_pos hc) h
              refine lv_iconst (v := 1) hx hb dX11_worth_112 (by decide) ?_
              refine lv_goto (tgt := 117) hx hb dX11_worth_113 (by decide) ?_
              obtain ⟨hi, h⟩ := h
              refine hm_iast X hw LM_19 hi dX11_worth_117 (fun H locs hw => ?_)
              refine lv_goto (tgt := 151) hx hb dX11_worth_118 (by decide) ?_
              refine lv_goto (tgt := 11) hx hb dX11_worth_151 (by decide) ?_
              exact ih _ _ _ h hw (lv_sub hl [2, 3, 4, 0] rfl)
        · have h := Eq.mp (if_pos hc) h
          exact wkM_worth_b45 X hr hlk hR  ih h hw (lv_sub hl [2, 3, 4, 0, 1] rfl)

theorem cM_worth {l : Launch} {D : va_G} {cA : Nat → ClassId} {z sz : Nat} {I : HI} {J : HJ} {x1 : Int32} {x2 : Int32} {Q : Int32 → HI → Prop}  (h : M_worth I x1 x2 Q) : Met l yX11_worth (hws0 yX11_worth cX11_worth 6 (some .int)) { frames := 2, cells := 0, slots := 0, locals := 47 } (hPc D cA z Ev0 (I, J, T, FM, LM) sz [.ref (z + 0), .int x1, .int x2]) (va_Qi (pI J T FM LM Q) (hB D cA z (hA z LM sz)) (hA z LM sz)) 0 0 (hA z LM sz) := by
  refine hm_met (I, J, T, FM, LM) [.ref (z + 0), .int x1, .int x2] rfl (by decide) (Nat.le_of_ble_eq_true rfl) ?_
  intro p e s m below meth c ls X hr hlk hnm hxt hsz hw hl
  have hl : lv_has ls 6 [(0, .ref (z + 0)), (1, .int x1), (2, .int x2)] := hl
  have hR : 2 ≤ ({ frames := 2, cells := 0, slots := 0, locals := 47 } : Room).frames ∧ 47 ≤ ({ frames := 2, cells := 0, slots := 0, locals := 47 } : Room).locals := ⟨Nat.le_refl _, Nat.le_refl _⟩
  generalize ({ frames := 2, cells := 0, slots := 0, locals := 47 } : Room) = R at hR ⊢
  clear hsz
  generalize (hA z LM sz) = A at hw ⊢
  have hx := X.1
  have hb := X.2.1
  unfold M_worth at h
  refine lv_iconst (v := 0) hx hb dX11_worth_0 (by decide) ?_
  refine lv_istore_n (lv' := [(3, _), (0, _), (1, _), (2, _)]) hx hb dX11_worth_1 rfl hl (by decide) rfl (fun ls hl => ?_)
  refine lv_sipush (v := 1000) hx hb dX11_worth_2 (by decide) ?_
  refine lv_iload_n hx hb dX11_worth_5 rfl (lv_at hl 2 rfl) ?_
  refine lv_imul hx hb dX11_worth_6 ?_
  refine lv_iload_n hx hb dX11_worth_7 rfl (lv_at hl 3 rfl) ?_
  refine lv_iadd hx hb dX11_worth_8 ?_
  refine lv_istore (lv' := [(4, _), (3, _), (0, _), (1, _), (2, _)]) hx hb dX11_worth_9 hl (by decide) rfl (fun ls hl => ?_)
  obtain ⟨n2, h⟩ := h
  exact wkM_worth_l11 X hr hlk hR   n2 _ _ _ h hw (lv_sub hl [2, 3, 1, 0] rfl)

theorem wkM_viewOf_l68 {I : HI} {J : HJ} {x4 : Int32} {Q : Int32 → Prop} (X : hX p m c s args RX11 cX11_viewOf 6) (hr : meth.sig.returnType = (some .int)) (hlk : meth.locks = false) (hR : 1 ≤ R.frames ∧ 23 ≤ R.locals)   : ∀ (n : Nat) (x2 : Int32) (x3 : Int32) (x5 : Int32) {ls : Array Slot} {H : Heap} {locs : List Loc}, M_viewOf_l68 I x4 Q n x2 x3 x5 → hW D cA z Ev0 (I, J, T, FM, LM) A s H locs → lv_has ls 6 [(0, .ref (z + 0)), (2, .int x2), (3, .int x3), (4, .int x4), (5, .int x5)] → W p l e R s m args below meth c H locs 0 0 (MQ below (va_Qi (p0 (I, J, T, FM, LM) Q) (hB D cA z A) A) args s 0 0 A) (F0 m 68 ls []) := by
  have hx := X.1
  have hb := X.2.1
  intro n
  induction n with
  | zero => intro x2 x3 x5 ls H locs h; exact False.elim h
  | succ n ih =>
    intro x2 x3 x5 ls H locs h hw hl
    rw [M_viewOf_l68] at h
    refine lv_iload hx hb dX11_viewOf_68 (lv_at hl 4 rfl) ?_
    refine lv_aload_n hx hb dX11_viewOf_70 rfl (lv_at hl 0 rfl) ?_
    refine hm_geti X hw lkM_7 LM_0 dX11_viewOf_71 ?_
    refine lv_icmp_ge (tgt := 117) hx hb dX11_viewOf_74 (by decide) (fun hc => ?_) (fun hc => ?_)
    · have h := Eq.mp (if_pos hc) h
      refine lv_iload_n hx hb dX11_viewOf_117 rfl (lv_at hl 1 rfl) ?_
      exact hm_iret X hr hlk hw ⟨rfl, h⟩ dX11_viewOf_118
    · have h := Eq.mp (if_neg hc) h
      refine lv_iload hx hb dX11_viewOf_77 (lv_at hl 3 rfl) ?_
      refine lv_iload hx hb dX11_viewOf_79 (lv_at hl 4 rfl) ?_
      refine lv_ishr hx hb dX11_viewOf_81 ?_
      refine lv_iconst (v := 1) hx hb dX11_viewOf_82 (by decide) ?_
      refine lv_iand hx hb dX11_viewOf_83 ?_
      refine lv_if_ne (tgt := 90) hx hb dX11_viewOf_84 (by decide) (fun hc => ?_) (fun hc => ?_)
      · have h := Eq.mp (if_neg hc) h
        refine lv_iload_n hx hb dX11_viewOf_90 rfl (lv_at hl 1 rfl) ?_
        refine lv_iload_n hx hb dX11_viewOf_91 rfl (lv_at hl 2 rfl) ?_
        refine lv_aload_n hx hb dX11_viewOf_92 rfl (lv_at hl 0 rfl) ?_
        refine hm_getr X hw lkM_78 LM_0 (b := 18) rfl dX11_viewOf_93 ?_
        refine lv_iload hx hb dX11_viewOf_96 (lv_at hl 4 rfl) ?_
        obtain ⟨hi, h⟩ := h
        refine hm_iald X hw LM_18 hi dX11_viewOf_98 ?_
        refine lv_imul hx hb dX11_viewOf_99 ?_
        refine lv_iadd hx hb dX11_viewOf_100 ?_
        refine lv_istore_n (lv' := [(2, _), (0, _), (3, _), (4, _), (5, _)]) hx hb dX11_viewOf_101 rfl hl (by decide) rfl (fun ls hl => ?_)
        refine lv_iload_n hx hb dX11_viewOf_102 rfl (lv_at hl 2 rfl) ?_
        refine lv_aload_n hx hb dX11_viewOf_103 rfl (lv_at hl 1 rfl) ?_
        refine hm_geti X hw lkM_13 LM_0 dX11_viewOf_104 ?_
        refine lv_iconst (v := 1) hx hb dX11_viewOf_107 (by decide) ?_
        refine lv_iadd hx hb dX11_viewOf_108 ?_
        refine lv_imul hx hb dX11_viewOf_109 ?_
        refine lv_istore_n (lv' := [(3, _), (2, _), (0, _), (4, _), (5, _)]) hx hb dX11_viewOf_110 rfl hl (by decide) rfl (fun ls hl => ?_)
        refine lv_iinc (v := x5 + 1) (lv' := [(5, _), (3, _), (2, _), (0, _), (4, _)]) hx hb dX11_viewOf_111 hl (k := 4) rfl rfl (by decide) rfl (fun ls hl => ?_)
        refine lv_goto (tgt := 68) hx hb dX11_viewOf_114 (by decide) ?_
        exact ih _ _ _ h hw (lv_sub hl [3, 2, 1, 4, 0] rfl)
      · have h := Eq.mp (if_pos hc) h
        refine lv_goto (tgt := 111) hx hb dX11_viewOf_87 (by decide) ?_
        refine lv_iinc (v := x5 + 1) (lv' := [(5, _), (0, _), (2, _), (3, _), (4, _)]) hx hb dX11_viewOf_111 hl (k := 4) rfl rfl (by decide) rfl (fun ls hl => ?_)
        refine lv_goto (tgt := 68) hx hb dX11_viewOf_114 (by decide) ?_
        exact ih _ _ _ h hw (lv_sub hl [1, 2, 3, 4, 0] rfl)

theorem wkM_viewOf_l7 {I : HI} {J : HJ} {x1 : Int32} {Q : Int32 → Prop} (X : hX p m c s args RX11 cX11_viewOf 6) (hr : meth.sig.returnType = (some .int)) (hlk : meth.locks = false) (hR : 1 ≤ R.frames ∧ 23 ≤ R.locals)   : ∀ (n : Nat) (x2 : Int32) (x3 : Int32) (x4 : Int32) {ls : Array Slot} {H : Heap} {locs : List Loc}, M_viewOf_l7 I x1 Q n x2 x3 x4 → hW D cA z Ev0 (I, J, T, FM, LM) A s H locs → lv_has ls 6 [(0, .ref (z + 0)), (1, .int x1), (2, .int x2), (3, .int x3), (4, .int x4)] → W p l e R s m args below meth c H locs 0 0 (MQ below (va_Qi (p0 (I, J, T, FM, LM) Q) (hB D cA z A) A) args s 0 0 A) (F0 m 7 ls []) := by
  have hx := X.1
  have hb := X.2.1
  intro n
  induction n with
  | zero => intro x2 x3 x4 ls H locs h; exact False.elim h
  | succ n ih =>
    intro x2 x3 x4 ls H locs h hw hl
    rw [M_viewOf_l7] at h
    refine lv_iload hx hb dX11_viewOf_7 (lv_at hl 4 rfl) ?_
    refine lv_aload_n hx hb dX11_viewOf_9 rfl (lv_at hl 0 rfl) ?_
    refine hm_geti X hw lkM_7 LM_0 dX11_viewOf_10 ?_
    refine lv_icmp_ge (tgt := 58) hx hb dX11_viewOf_13 (by decide) (fun hc => ?_) (fun hc => ?_)
    · have h := Eq.mp (if_pos hc) h
      refine lv_aload_n hx hb dX11_viewOf_58 rfl (lv_at hl 0 rfl) ?_
      refine lv_iload_n hx hb dX11_viewOf_59 rfl (lv_at hl 1 rfl) ?_
      refine hm_calli hw (hm_runV (rest := []) hCl_true X hw (cM_hears  h) ykM_hears kw1345 rfl LM_0 rfl hl.1 rfl rfl rfl (Nat.le_of_ble_eq_true rfl) ⟨Nat.le_trans (Nat.le_of_ble_eq_true rfl) hR.1, Nat.le_trans (Nat.le_of_ble_eq_true rfl) hR.2⟩ ⟨Nat.zero_le _, Nat.zero_le _⟩ dX11_viewOf_60) (fun r1 u2 H locs hp hw => ?_)
      obtain ⟨rfl, h⟩ := hp
      refine lv_istore (lv' := [(4, _), (0, _), (1, _), (2, _), (3, _)]) hx hb dX11_viewOf_63 hl (by decide) rfl (fun ls hl => ?_)
      refine lv_iconst (v := 0) hx hb dX11_viewOf_65 (by decide) ?_
      refine lv_istore (lv' := [(5, _), (4, _), (0, _), (1, _), (2, _), (3, _)]) hx hb dX11_viewOf_66 hl (by decide) rfl (fun ls hl => ?_)
      obtain ⟨n2, h⟩ := h
      exact wkM_viewOf_l68 X hr hlk hR   n2 _ _ _ h hw (lv_sub hl [2, 4, 5, 1, 0] rfl)
    · have h := Eq.mp (if_neg hc) h
      refine lv_aload_n hx hb dX11_viewOf_16 rfl (lv_at hl 0 rfl) ?_
      refine hm_getr X hw lkM_26 LM_0 (b := 2) rfl dX11_viewOf_17 ?_
      refine lv_iload_n hx hb dX11_viewOf_20 rfl (lv_at hl 1 rfl) ?_
      obtain ⟨hi, h⟩ := h
      refine hm_iald X hw LM_2 hi dX11_viewOf_21 ?_
      refine lv_iload hx hb dX11_viewOf_22 (lv_at hl 4 rfl) ?_
      refine lv_ishr hx hb dX11_viewOf_24 ?_
      refine lv_iconst (v := 1) hx hb dX11_viewOf_25 (by decide) ?_
      refine lv_iand hx hb dX11_viewOf_26 ?_
      refine lv_if_ne (tgt := 33) hx hb dX11_viewOf_27 (by decide) (fun hc => ?_) (fun hc => ?_)
      · have h := Eq.mp (if_neg hc) h
        refine lv_iload_n hx hb dX11_viewOf_33 rfl (lv_at hl 2 rfl) ?_
        refine lv_iload_n hx hb dX11_viewOf_34 rfl (lv_at hl 3 rfl) ?_
        refine lv_aload_n hx hb dX11_viewOf_35 rfl (lv_at hl 0 rfl) ?_
        refine hm_getr X hw lkM_75 LM_0 (b := 17) rfl dX11_viewOf_36 ?_
        refine lv_iload hx hb dX11_viewOf_39 (lv_at hl 4 rfl) ?_
        obtain ⟨hi, h⟩ := h
        refine hm_iald X hw LM_17 hi dX11_viewOf_41 ?_
        refine lv_imul hx hb dX11_viewOf_42 ?_
        refine lv_iadd hx hb dX11_viewOf_43 ?_
        refine lv_istore_n (lv' := [(2, _), (0, _), (1, _), (3, _), (4, _)]) hx hb dX11_viewOf_44 rfl hl (by decide) rfl (fun ls hl => ?_)
        refine lv_iload_n hx hb dX11_viewOf_45 rfl (lv_at hl 3 rfl) ?_
        refine lv_aload_n hx hb dX11_viewOf_46 rfl (lv_at hl 1 rfl) ?_
        refine hm_geti X hw lkM_13 LM_0 dX11_viewOf_47 ?_
        refine lv_imul hx hb dX11_viewOf_50 ?_
        refine lv_istore_n (lv' := [(3, _), (2, _), (0, _), (1, _), (4, _)]) hx hb dX11_viewOf_51 rfl hl (by decide) rfl (fun ls hl => ?_)
        refine lv_iinc (v := x4 + 1) (lv' := [(4, _), (3, _), (2, _), (0, _), (1, _)]) hx hb dX11_viewOf_52 hl (k := 4) rfl rfl (by decide) rfl (fun ls hl => ?_)
        refine lv_goto (tgt := 7) hx hb dX11_viewOf_55 (by decide) ?_
        exact ih _ _ _ h hw (lv_sub hl [3, 4, 2, 1, 0] rfl)
      · have h := Eq.mp (if_pos hc) h
        refine lv_goto (tgt := 52) hx hb dX11_viewOf_30 (by decide) ?_
        refine lv_iinc (v := x4 + 1) (lv' := [(4, _), (0, _), (1, _), (2, _), (3, _)]) hx hb dX11_viewOf_52 hl (k := 4) rfl rfl (by decide) rfl (fun ls hl => ?_)
        refine lv_goto (tgt := 7) hx hb dX11_viewOf_55 (by decide) ?_
        exact ih _ _ _ h hw (lv_sub hl [1, 2, 3, 4, 0] rfl)

theorem cM_viewOf {l : Launch} {D : va_G} {cA : Nat → ClassId} {z sz : Nat} {I : HI} {J : HJ} {x1 : Int32} {Q : Int32 → Prop}  (h : M_viewOf I x1 Q) : Met l yX11_viewOf (hws0 yX11_viewOf cX11_viewOf 6 (some .int)) { frames := 1, cells := 0, slots := 0, locals := 23 } (hPc D cA z Ev0 (I, J, T, FM, LM) sz [.ref (z + 0), .int x1]) (va_Qi (p0 (I, J, T, FM, LM) Q) (hB D cA z (hA z LM sz)) (hA z LM sz)) 0 0 (hA z LM sz) := by
  refine hm_met (I, J, T, FM, LM) [.ref (z + 0), .int x1] rfl (by decide) (Nat.le_of_ble_eq_true rfl) ?_
  intro p e s m below meth c ls X hr hlk hnm hxt hsz hw hl
  have hl : lv_has ls 6 [(0, .ref (z + 0)), (1, .int x1)] := hl
  have hR : 1 ≤ ({ frames := 1, cells := 0, slots := 0, locals := 23 } : Room).frames ∧ 23 ≤ ({ frames := 1, cells := 0, slots := 0, locals := 23 } : Room).locals := ⟨Nat.le_refl _, Nat.le_refl _⟩
  generalize ({ frames := 1, cells := 0, slots := 0, locals := 23 } : Room) = R at hR ⊢
  clear hsz
  generalize (hA z LM sz) = A at hw ⊢
  have hx := X.1
  have hb := X.2.1
  unfold M_viewOf at h
  refine lv_iconst (v := 0) hx hb dX11_viewOf_0 (by decide) ?_
  refine lv_istore_n (lv' := [(2, _), (0, _), (1, _)]) hx hb dX11_viewOf_1 rfl hl (by decide) rfl (fun ls hl => ?_)
  refine lv_iconst (v := 1) hx hb dX11_viewOf_2 (by decide) ?_
  refine lv_istore_n (lv' := [(3, _), (2, _), (0, _), (1, _)]) hx hb dX11_viewOf_3 rfl hl (by decide) rfl (fun ls hl => ?_)
  refine lv_iconst (v := 0) hx hb dX11_viewOf_4 (by decide) ?_
  refine lv_istore (lv' := [(4, _), (3, _), (2, _), (0, _), (1, _)]) hx hb dX11_viewOf_5 hl (by decide) rfl (fun ls hl => ?_)
  obtain ⟨n2, h⟩ := h
  exact wkM_viewOf_l7 X hr hlk hR   n2 _ _ _ h hw (lv_sub hl [3, 4, 2, 1, 0] rfl)

theorem wkM_guesses_b67 {I : HI} {J : HJ} {x1 : Int32} {Q : Int32 → HI → Prop} (X : hX p m c s args RX11 cX11_guesses 3) (hr : meth.sig.returnType = (some .int)) (hlk : meth.locks = false) (hR : 3 ≤ R.frames ∧ 72 ≤ R.locals)   : ∀ {ls : Array Slot} {H : Heap} {locs : List Loc}, M_guesses_b67 I x1 Q → hW D cA z Ev0 (I, J, T, FM, LM) A s H locs → lv_has ls 3 [(0, .ref (z + 0)), (1, .int x1)] → W p l e R s m args below meth c H locs 0 0 (MQ below (va_Qi (pI J T FM LM Q) (hB D cA z A) A) args s 0 0 A) (F0 m 67 ls []) := by
  have hx := X.1
  have hb := X.2.1
  intro ls H locs h hw hl
  unfold M_guesses_b67 at h
  refine lv_aload_n hx hb dX11_guesses_67 rfl (lv_at hl 0 rfl) ?_
  refine lv_iload_n hx hb dX11_guesses_68 rfl (lv_at hl 1 rfl) ?_
  refine lv_aload_n hx hb dX11_guesses_69 rfl (lv_at hl 0 rfl) ?_
  refine hm_getr X hw lkM_44 LM_0 (b := 8) rfl dX11_guesses_70 ?_
  refine lv_iload_n hx hb dX11_guesses_73 rfl (lv_at hl 1 rfl) ?_
  obtain ⟨hi, h⟩ := h
  refine hm_iald X hw LM_8 hi dX11_guesses_74 ?_
  refine hm_calli hw (hm_runV (rest := []) hCl_true X hw (cM_worth  h) ykM_worth kw1745 rfl LM_0 rfl hl.1 rfl rfl rfl (Nat.le_of_ble_eq_true rfl) ⟨Nat.le_trans (Nat.le_of_ble_eq_true rfl) hR.1, Nat.le_trans (Nat.le_of_ble_eq_true rfl) hR.2⟩ ⟨Nat.zero_le _, Nat.zero_le _⟩ dX11_guesses_75) (fun r1 u3 H locs hp hw => ?_)
  obtain ⟨I2, rfl, h⟩ := hp
  refine lv_aload_n hx hb dX11_guesses_78 rfl (lv_at hl 0 rfl) ?_
  refine hm_geti X hw lkM_13 LM_0 dX11_guesses_79 ?_
  obtain ⟨hi, h⟩ := h
  refine hm_irem hx hb dX11_guesses_82 hi ?_
  refine lv_istore_n (lv' := [(2, _), (0, _), (1, _)]) hx hb dX11_guesses_83 rfl hl (by decide) rfl (fun ls hl => ?_)
  refine lv_iload_n hx hb dX11_guesses_84 rfl (lv_at hl 0 rfl) ?_
  refine lv_if_ge (tgt := 97) hx hb dX11_guesses_85 (by decide) (fun hc => ?_) (fun hc => ?_)
  · have h := Eq.mp (if_pos hc) h
    refine lv_iload_n hx hb dX11_guesses_97 rfl (lv_at hl 0 rfl) ?_
    exact hm_iret X hr hlk hw ⟨_, rfl, h⟩ dX11_guesses_98
  · have h := Eq.mp (if_neg hc) h
    refine lv_iload_n hx hb dX11_guesses_88 rfl (lv_at hl 0 rfl) ?_
    refine lv_aload_n hx hb dX11_guesses_89 rfl (lv_at hl 1 rfl) ?_
    refine hm_geti X hw lkM_13 LM_0 dX11_guesses_90 ?_
    refine lv_iadd hx hb dX11_guesses_93 ?_
    refine lv_goto (tgt := 98) hx hb dX11_guesses_94 (by decide) ?_
    exact hm_iret X hr hlk hw ⟨_, rfl, h⟩ dX11_guesses_98

theorem cM_guesses {l : Launch} {D : va_G} {cA : Nat → ClassId} {z sz : Nat} {I : HI} {J : HJ} {x1 : Int32} {Q : Int32 → HI → Prop}  (h : M_guesses I x1 Q) : Met l yX11_guesses (hws0 yX11_guesses cX11_guesses 3 (some .int)) { frames := 3, cells := 0, slots := 0, locals := 72 } (hPc D cA z Ev0 (I, J, T, FM, LM) sz [.ref (z + 0), .int x1]) (va_Qi (pI J T FM LM Q) (hB D cA z (hA z LM sz)) (hA z LM sz)) 0 0 (hA z LM sz) := by
  refine hm_met (I, J, T, FM, LM) [.ref (z + 0), .int x1] rfl (by decide) (Nat.le_of_ble_eq_true rfl) ?_
  intro p e s m below meth c ls X hr hlk hnm hxt hsz hw hl
  have hl : lv_has ls 3 [(0, .ref (z + 0)), (1, .int x1)] := hl
  have hR : 3 ≤ ({ frames := 3, cells := 0, slots := 0, locals := 72 } : Room).frames ∧ 72 ≤ ({ frames := 3, cells := 0, slots := 0, locals := 72 } : Room).locals := ⟨Nat.le_refl _, Nat.le_refl _⟩
  generalize ({ frames := 3, cells := 0, slots := 0, locals := 72 } : Room) = R at hR ⊢
  clear hsz
  generalize (hA z LM sz) = A at hw ⊢
  have hx := X.1
  have hb := X.2.1
  unfold M_guesses at h
  refine lv_aload_n hx hb dX11_guesses_0 rfl (lv_at hl 0 rfl) ?_
  refine hm_getr X hw lkM_32 LM_0 (b := 4) rfl dX11_guesses_1 ?_
  refine lv_iload_n hx hb dX11_guesses_4 rfl (lv_at hl 1 rfl) ?_
  obtain ⟨hi, h⟩ := h
  refine hm_iald X hw LM_4 hi dX11_guesses_5 ?_
  refine lv_iconst (v := 2) hx hb dX11_guesses_6 (by decide) ?_
  refine lv_icmp_ne (tgt := 12) hx hb dX11_guesses_7 (by decide) (fun hc => ?_) (fun hc => ?_)
  · have h := Eq.mp (if_neg hc) h
    refine lv_aload_n hx hb dX11_guesses_12 rfl (lv_at hl 0 rfl) ?_
    refine hm_getr X hw lkM_32 LM_0 (b := 4) rfl dX11_guesses_13 ?_
    refine lv_iload_n hx hb dX11_guesses_16 rfl (lv_at hl 1 rfl) ?_
    obtain ⟨hi, h⟩ := h
    refine hm_iald X hw LM_4 hi dX11_guesses_17 ?_
    refine lv_if_ne (tgt := 38) hx hb dX11_guesses_18 (by decide) (fun hc => ?_) (fun hc => ?_)
    · have h := Eq.mp (if_neg hc) h
      refine lv_aload_n hx hb dX11_guesses_38 rfl (lv_at hl 0 rfl) ?_
      refine hm_getr X hw lkM_41 LM_0 (b := 7) rfl dX11_guesses_39 ?_
      refine lv_iload_n hx hb dX11_guesses_42 rfl (lv_at hl 1 rfl) ?_
      obtain ⟨hi, h⟩ := h
      refine hm_iald X hw LM_7 hi dX11_guesses_43 ?_
      refine lv_iconst (v := (-1)) hx hb dX11_guesses_44 (by decide) ?_
      refine lv_icmp_eq (tgt := 67) hx hb dX11_guesses_45 (by decide) (fun hc => ?_) (fun hc => ?_)
      · have h := Eq.mp (if_pos hc) h
        exact wkM_guesses_b67 X hr hlk hR   h hw (lv_sub hl [0, 1] rfl)
      · have h := Eq.mp (if_neg hc) h
        refine lv_aload_n hx hb dX11_guesses_48 rfl (lv_at hl 0 rfl) ?_
        refine lv_iload_n hx hb dX11_guesses_49 rfl (lv_at hl 1 rfl) ?_
        refine lv_aload_n hx hb dX11_guesses_50 rfl (lv_at hl 0 rfl) ?_
        refine hm_getr X hw lkM_41 LM_0 (b := 7) rfl dX11_guesses_51 ?_
        refine lv_iload_n hx hb dX11_guesses_54 rfl (lv_at hl 1 rfl) ?_
        obtain ⟨hi, h⟩ := h
        refine hm_iald X hw LM_7 hi dX11_guesses_55 ?_
        refine hm_calli hw (hm_runV (rest := []) hCl_true X hw (cM_worth  h) ykM_worth kw1745 rfl LM_0 rfl hl.1 rfl rfl rfl (Nat.le_of_ble_eq_true rfl) ⟨Nat.le_trans (Nat.le_of_ble_eq_true rfl) hR.1, Nat.le_trans (Nat.le_of_ble_eq_true rfl) hR.2⟩ ⟨Nat.zero_le _, Nat.zero_le _⟩ dX11_guesses_56) (fun r4 u6 H locs hp hw => ?_)
        obtain ⟨I5, rfl, h⟩ := hp
        refine lv_if_eq (tgt := 67) hx hb dX11_guesses_59 (by decide) (fun hc => ?_) (fun hc => ?_)
        · have h := Eq.mp (if_pos hc) h
          exact wkM_guesses_b67 X hr hlk hR   h hw (lv_sub hl [0, 1] rfl)
        · have h := Eq.mp (if_neg hc) h
          refine lv_aload_n hx hb dX11_guesses_62 rfl (lv_at hl 0 rfl) ?_
          refine hm_geti X hw lkM_13 LM_0 dX11_guesses_63 ?_
          exact hm_iret X hr hlk hw ⟨_, rfl, h⟩ dX11_guesses_66
    · have h := Eq.mp (if_pos hc) h
      refine lv_aload_n hx hb dX11_guesses_21 rfl (lv_at hl 0 rfl) ?_
      refine hm_getr X hw lkM_35 LM_0 (b := 5) rfl dX11_guesses_22 ?_
      refine lv_sipush (v := 1024) hx hb dX11_guesses_25 (by decide) ?_
      refine lv_iload_n hx hb dX11_guesses_28 rfl (lv_at hl 1 rfl) ?_
      refine lv_imul hx hb dX11_guesses_29 ?_
      refine lv_aload_n hx hb dX11_guesses_30 rfl (lv_at hl 0 rfl) ?_
      refine lv_iload_n hx hb dX11_guesses_31 rfl (lv_at hl 1 rfl) ?_
      refine hm_calli hw (hm_runV (rest := [_, _]) hCl_true X hw (cM_viewOf  h) ykM_viewOf kw1741 rfl LM_0 rfl hl.1 rfl rfl rfl (Nat.le_of_ble_eq_true rfl) ⟨Nat.le_trans (Nat.le_of_ble_eq_true rfl) hR.1, Nat.le_trans (Nat.le_of_ble_eq_true rfl) hR.2⟩ ⟨Nat.zero_le _, Nat.zero_le _⟩ dX11_guesses_32) (fun r7 u8 H locs hp hw => ?_)
      obtain ⟨rfl, h⟩ := hp
      refine lv_iadd hx hb dX11_guesses_35 ?_
      obtain ⟨hi, h⟩ := h
      refine hm_iald X hw LM_5 hi dX11_guesses_36 ?_
      exact hm_iret X hr hlk hw ⟨_, rfl, h⟩ dX11_guesses_37
  · have h := Eq.mp (if_pos hc) h
    refine lv_iconst (v := 0) hx hb dX11_guesses_10 (by decide) ?_
    exact hm_iret X hr hlk hw ⟨_, rfl, h⟩ dX11_guesses_11

theorem wkM_worksRow_l15 {J : HJ} {x2 : Int32} {K7 : HI → Int32 → Prop} {Q : HI → Prop} (X : hX p m c s args RX11 cX11_worksRow 4) (hr : meth.sig.returnType = none) (hlk : meth.locks = false) (hR : 4 ≤ R.frames ∧ 94 ≤ R.locals)  (hK7 : ∀ (I : HI) (x2 : Int32) {ls : Array Slot} {H : Heap} {locs : List Loc}, K7 I x2 → hW D cA z Ev0 (I, J, T, FM, LM) A s H locs → lv_has ls 4 [(0, .ref (z + 0)), (2, .int x2)] → W p l e R s m args below meth c H locs 0 0 (MQ below (va_Qv (pIv J T FM LM Q) (hB D cA z A) A) args s 0 0 A) (F0 m 7 ls [])) : ∀ (n : Nat) (I : HI) (x3 : Int32) {ls : Array Slot} {H : Heap} {locs : List Loc}, M_worksRow_l15 x2 K7 Q n I x3 → hW D cA z Ev0 (I, J, T, FM, LM) A s H locs → lv_has ls 4 [(0, .ref (z + 0)), (2, .int x2), (3, .int x3)] → W p l e R s m args below meth c H locs 0 0 (MQ below (va_Qv (pIv J T FM LM Q) (hB D cA z A) A) args s 0 0 A) (F0 m 15 ls []) := by
  have hx := X.1
  have hb := X.2.1
  intro n
  induction n with
  | zero => intro I x3 ls H locs h; exact False.elim h
  | succ n ih =>
    intro I x3 ls H locs h hw hl
    rw [M_worksRow_l15] at h
    refine lv_iload_n hx hb dX11_worksRow_15 rfl (lv_at hl 2 rfl) ?_
    refine lv_aload_n hx hb dX11_worksRow_16 rfl (lv_at hl 0 rfl) ?_
    refine hm_geti X hw lkM_7 LM_0 dX11_worksRow_17 ?_
    refine lv_icmp_ge (tgt := 50) hx hb dX11_worksRow_20 (by decide) (fun hc => ?_) (fun hc => ?_)
    · have h := Eq.mp (if_pos hc) h
      refine lv_iinc (v := x2 + 1) (lv' := [(2, _), (0, _), (3, _)]) hx hb dX11_worksRow_50 hl (k := 1) rfl rfl (by decide) rfl (fun ls hl => ?_)
      refine lv_goto (tgt := 7) hx hb dX11_worksRow_53 (by decide) ?_
      exact hK7 _ _ h hw (lv_sub hl [1, 0] rfl)
    · have h := Eq.mp (if_neg hc) h
      refine lv_aload_n hx hb dX11_worksRow_23 rfl (lv_at hl 0 rfl) ?_
      refine hm_getr X hw lkM_29 LM_0 (b := 3) rfl dX11_worksRow_24 ?_
      refine lv_iload_n hx hb dX11_worksRow_27 rfl (lv_at hl 2 rfl) ?_
      obtain ⟨hi, h⟩ := h
      refine hm_iald X hw LM_3 hi dX11_worksRow_28 ?_
      refine lv_iload_n hx hb dX11_worksRow_29 rfl (lv_at hl 1 rfl) ?_
      refine lv_icmp_ne (tgt := 44) hx hb dX11_worksRow_30 (by decide) (fun hc => ?_) (fun hc => ?_)
      · have h := Eq.mp (if_neg hc) h
        refine lv_iinc (v := x3 + 1) (lv' := [(3, _), (0, _), (2, _)]) hx hb dX11_worksRow_44 hl (k := 2) rfl rfl (by decide) rfl (fun ls hl => ?_)
        refine lv_goto (tgt := 15) hx hb dX11_worksRow_47 (by decide) ?_
        exact ih _ _ h hw (lv_sub hl [1, 2, 0] rfl)
      · have h := Eq.mp (if_pos hc) h
        refine lv_aload_n hx hb dX11_worksRow_33 rfl (lv_at hl 0 rfl) ?_
        refine hm_getr X hw lkM_78 LM_0 (b := 18) rfl dX11_worksRow_34 ?_
        refine lv_iload_n hx hb dX11_worksRow_37 rfl (lv_at hl 2 rfl) ?_
        refine lv_aload_n hx hb dX11_worksRow_38 rfl (lv_at hl 0 rfl) ?_
        refine lv_iload_n hx hb dX11_worksRow_39 rfl (lv_at hl 2 rfl) ?_
        refine hm_calli hw (hm_runV (rest := [_, _]) hCl_true X hw (cM_guesses  h) ykM_guesses kw1737 rfl LM_0 rfl hl.1 rfl rfl rfl (Nat.le_of_ble_eq_true rfl) ⟨Nat.le_trans (Nat.le_of_ble_eq_true rfl) hR.1, Nat.le_trans (Nat.le_of_ble_eq_true rfl) hR.2⟩ ⟨Nat.zero_le _, Nat.zero_le _⟩ dX11_worksRow_40) (fun r3 u5 H locs hp hw => ?_)
        obtain ⟨I4, rfl, h⟩ := hp
        obtain ⟨hi, h⟩ := h
        refine hm_iast X hw LM_18 hi dX11_worksRow_43 (fun H locs hw => ?_)
        refine lv_iinc (v := x3 + 1) (lv' := [(3, _), (0, _), (2, _)]) hx hb dX11_worksRow_44 hl (k := 2) rfl rfl (by decide) rfl (fun ls hl => ?_)
        refine lv_goto (tgt := 15) hx hb dX11_worksRow_47 (by decide) ?_
        exact ih _ _ h hw (lv_sub hl [1, 2, 0] rfl)

theorem wkM_worksRow_l7 {J : HJ} {Q : HI → Prop} (X : hX p m c s args RX11 cX11_worksRow 4) (hr : meth.sig.returnType = none) (hlk : meth.locks = false) (hR : 4 ≤ R.frames ∧ 94 ≤ R.locals)   : ∀ (n : Nat) (I : HI) (x2 : Int32) {ls : Array Slot} {H : Heap} {locs : List Loc}, M_worksRow_l7 Q n I x2 → hW D cA z Ev0 (I, J, T, FM, LM) A s H locs → lv_has ls 4 [(0, .ref (z + 0)), (2, .int x2)] → W p l e R s m args below meth c H locs 0 0 (MQ below (va_Qv (pIv J T FM LM Q) (hB D cA z A) A) args s 0 0 A) (F0 m 7 ls []) := by
  have hx := X.1
  have hb := X.2.1
  intro n
  induction n with
  | zero => intro I x2 ls H locs h; exact False.elim h
  | succ n ih =>
    intro I x2 ls H locs h hw hl
    rw [M_worksRow_l7] at h
    refine lv_iload_n hx hb dX11_worksRow_7 rfl (lv_at hl 1 rfl) ?_
    refine lv_bipush (v := 8) hx hb dX11_worksRow_8 (by decide) ?_
    refine lv_icmp_ge (tgt := 56) hx hb dX11_worksRow_10 (by decide) (fun hc => ?_) (fun hc => ?_)
    · have h := Eq.mp (if_pos hc) h
      exact hm_vret X hr hlk hw ⟨_, rfl, h⟩ dX11_worksRow_56
    · have h := Eq.mp (if_neg hc) h
      refine lv_iconst (v := 0) hx hb dX11_worksRow_13 (by decide) ?_
      refine lv_istore_n (lv' := [(3, _), (0, _), (2, _)]) hx hb dX11_worksRow_14 rfl hl (by decide) rfl (fun ls hl => ?_)
      obtain ⟨n2, h⟩ := h
      exact wkM_worksRow_l15 X hr hlk hR  ih n2 _ _ h hw (lv_sub hl [1, 2, 0] rfl)

theorem cM_worksRow {l : Launch} {D : va_G} {cA : Nat → ClassId} {z sz : Nat} {I : HI} {J : HJ} {x1 : Int32} {Q : HI → Prop}  (h : M_worksRow I x1 Q) : Met l yX11_worksRow (hws0 yX11_worksRow cX11_worksRow 4 none) { frames := 4, cells := 0, slots := 0, locals := 94 } (hPc D cA z Ev0 (I, J, T, FM, LM) sz [.ref (z + 0), .int x1]) (va_Qv (pIv J T FM LM Q) (hB D cA z (hA z LM sz)) (hA z LM sz)) 0 0 (hA z LM sz) := by
  refine hm_met (I, J, T, FM, LM) [.ref (z + 0), .int x1] rfl (by decide) (Nat.le_of_ble_eq_true rfl) ?_
  intro p e s m below meth c ls X hr hlk hnm hxt hsz hw hl
  have hl : lv_has ls 4 [(0, .ref (z + 0)), (1, .int x1)] := hl
  have hR : 4 ≤ ({ frames := 4, cells := 0, slots := 0, locals := 94 } : Room).frames ∧ 94 ≤ ({ frames := 4, cells := 0, slots := 0, locals := 94 } : Room).locals := ⟨Nat.le_refl _, Nat.le_refl _⟩
  generalize ({ frames := 4, cells := 0, slots := 0, locals := 94 } : Room) = R at hR ⊢
  clear hsz
  generalize (hA z LM sz) = A at hw ⊢
  have hx := X.1
  have hb := X.2.1
  unfold M_worksRow at h
  refine lv_aload_n hx hb dX11_worksRow_0 rfl (lv_at hl 0 rfl) ?_
  refine lv_iload_n hx hb dX11_worksRow_1 rfl (lv_at hl 1 rfl) ?_
  refine hm_callv hw (hm_runV (rest := []) hCl_true X hw (cM_wears  h) ykM_wears kw1733 rfl LM_0 rfl hl.1 rfl rfl rfl (Nat.le_of_ble_eq_true rfl) ⟨Nat.le_trans (Nat.le_of_ble_eq_true rfl) hR.1, Nat.le_trans (Nat.le_of_ble_eq_true rfl) hR.2⟩ ⟨Nat.zero_le _, Nat.zero_le _⟩ dX11_worksRow_2) (fun u2 H locs hp hw => ?_)
  obtain ⟨I1, rfl, h⟩ := hp
  refine lv_iconst (v := 0) hx hb dX11_worksRow_5 (by decide) ?_
  refine lv_istore_n (lv' := [(2, _), (0, _), (1, _)]) hx hb dX11_worksRow_6 rfl hl (by decide) rfl (fun ls hl => ?_)
  obtain ⟨n2, h⟩ := h
  exact wkM_worksRow_l7 X hr hlk hR   n2 _ _ h hw (lv_sub hl [1, 0] rfl)

end
