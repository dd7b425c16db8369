theorem dX11_spelled_0 : decode cX11_spelled 0 = .ok (.iload_n 0, 1) := by decide +kernel
theorem dX11_spelled_1 : decode cX11_spelled 1 = .ok (.bipush 96, 2) := by decide +kernel
theorem dX11_spelled_3 : decode cX11_spelled 3 = .ok (.isub, 1) := by decide +kernel
theorem dX11_spelled_4 : decode cX11_spelled 4 = .ok (.i2l, 1) := by decide +kernel
theorem dX11_spelled_5 : decode cX11_spelled 5 = .ok (.lstore 6, 2) := by decide +kernel
theorem dX11_spelled_7 : decode cX11_spelled 7 = .ok (.iload_n 1, 1) := by decide +kernel
theorem dX11_spelled_8 : decode cX11_spelled 8 = .ok (.ifCond .eq 15, 3) := by decide +kernel
theorem dX11_spelled_11 : decode cX11_spelled 11 = .ok (.lload 6, 2) := by decide +kernel
theorem dX11_spelled_13 : decode cX11_spelled 13 = .ok (.iconst 5, 1) := by decide +kernel
theorem dX11_spelled_14 : decode cX11_spelled 14 = .ok (.lshl, 1) := by decide +kernel
theorem dX11_spelled_15 : decode cX11_spelled 15 = .ok (.iload_n 1, 1) := by decide +kernel
theorem dX11_spelled_16 : decode cX11_spelled 16 = .ok (.bipush 96, 2) := by decide +kernel
theorem dX11_spelled_18 : decode cX11_spelled 18 = .ok (.isub, 1) := by decide +kernel
theorem dX11_spelled_19 : decode cX11_spelled 19 = .ok (.i2l, 1) := by decide +kernel
theorem dX11_spelled_20 : decode cX11_spelled 20 = .ok (.lor, 1) := by decide +kernel
theorem dX11_spelled_21 : decode cX11_spelled 21 = .ok (.lstore 6, 2) := by decide +kernel
theorem dX11_spelled_23 : decode cX11_spelled 23 = .ok (.iload_n 2, 1) := by decide +kernel
theorem dX11_spelled_24 : decode cX11_spelled 24 = .ok (.ifCond .eq 15, 3) := by decide +kernel
theorem dX11_spelled_27 : decode cX11_spelled 27 = .ok (.lload 6, 2) := by decide +kernel
theorem dX11_spelled_29 : decode cX11_spelled 29 = .ok (.iconst 5, 1) := by decide +kernel
theorem dX11_spelled_30 : decode cX11_spelled 30 = .ok (.lshl, 1) := by decide +kernel
theorem dX11_spelled_31 : decode cX11_spelled 31 = .ok (.iload_n 2, 1) := by decide +kernel
theorem dX11_spelled_32 : decode cX11_spelled 32 = .ok (.bipush 96, 2) := by decide +kernel
theorem dX11_spelled_34 : decode cX11_spelled 34 = .ok (.isub, 1) := by decide +kernel
theorem dX11_spelled_35 : decode cX11_spelled 35 = .ok (.i2l, 1) := by decide +kernel
theorem dX11_spelled_36 : decode cX11_spelled 36 = .ok (.lor, 1) := by decide +kernel
theorem dX11_spelled_37 : decode cX11_spelled 37 = .ok (.lstore 6, 2) := by decide +kernel
theorem dX11_spelled_39 : decode cX11_spelled 39 = .ok (.iload_n 3, 1) := by decide +kernel
theorem dX11_spelled_40 : decode cX11_spelled 40 = .ok (.ifCond .eq 15, 3) := by decide +kernel
theorem dX11_spelled_43 : decode cX11_spelled 43 = .ok (.lload 6, 2) := by decide +kernel
theorem dX11_spelled_45 : decode cX11_spelled 45 = .ok (.iconst 5, 1) := by decide +kernel
theorem dX11_spelled_46 : decode cX11_spelled 46 = .ok (.lshl, 1) := by decide +kernel
theorem dX11_spelled_47 : decode cX11_spelled 47 = .ok (.iload_n 3, 1) := by decide +kernel
theorem dX11_spelled_48 : decode cX11_spelled 48 = .ok (.bipush 96, 2) := by decide +kernel
theorem dX11_spelled_50 : decode cX11_spelled 50 = .ok (.isub, 1) := by decide +kernel
theorem dX11_spelled_51 : decode cX11_spelled 51 = .ok (.i2l, 1) := by decide +kernel
theorem dX11_spelled_52 : decode cX11_spelled 52 = .ok (.lor, 1) := by decide +kernel
theorem dX11_spelled_53 : decode cX11_spelled 53 = .ok (.lstore 6, 2) := by decide +kernel
theorem dX11_spelled_55 : decode cX11_spelled 55 = .ok (.iload 4, 2) := by decide +kernel
theorem dX11_spelled_57 : decode cX11_spelled 57 = .ok (.ifCond .eq 16, 3) := by decide +kernel
theorem dX11_spelled_60 : decode cX11_spelled 60 = .ok (.lload 6, 2) := by decide +kernel
theorem dX11_spelled_62 : decode cX11_spelled 62 = .ok (.iconst 5, 1) := by decide +kernel
theorem dX11_spelled_63 : decode cX11_spelled 63 = .ok (.lshl, 1) := by decide +kernel
theorem dX11_spelled_64 : decode cX11_spelled 64 = .ok (.iload 4, 2) := by decide +kernel
theorem dX11_spelled_66 : decode cX11_spelled 66 = .ok (.bipush 96, 2) := by decide +kernel
theorem dX11_spelled_68 : decode cX11_spelled 68 = .ok (.isub, 1) := by decide +kernel
theorem dX11_spelled_69 : decode cX11_spelled 69 = .ok (.i2l, 1) := by decide +kernel
theorem dX11_spelled_70 : decode cX11_spelled 70 = .ok (.lor, 1) := by decide +kernel
theorem dX11_spelled_71 : decode cX11_spelled 71 = .ok (.lstore 6, 2) := by decide +kernel
theorem dX11_spelled_73 : decode cX11_spelled 73 = .ok (.iload 5, 2) := by decide +kernel
theorem dX11_spelled_75 : decode cX11_spelled 75 = .ok (.ifCond .eq 16, 3) := by decide +kernel
theorem dX11_spelled_78 : decode cX11_spelled 78 = .ok (.lload 6, 2) := by decide +kernel
theorem dX11_spelled_80 : decode cX11_spelled 80 = .ok (.iconst 5, 1) := by decide +kernel
theorem dX11_spelled_81 : decode cX11_spelled 81 = .ok (.lshl, 1) := by decide +kernel
theorem dX11_spelled_82 : decode cX11_spelled 82 = .ok (.iload 5, 2) := by decide +kernel
theorem dX11_spelled_84 : decode cX11_spelled 84 = .ok (.bipush 96, 2) := by decide +kernel
theorem dX11_spelled_86 : decode cX11_spelled 86 = .ok (.isub, 1) := by decide +kernel
theorem dX11_spelled_87 : decode cX11_spelled 87 = .ok (.i2l, 1) := by decide +kernel
theorem dX11_spelled_88 : decode cX11_spelled 88 = .ok (.lor, 1) := by decide +kernel
theorem dX11_spelled_89 : decode cX11_spelled 89 = .ok (.lstore 6, 2) := by decide +kernel
theorem dX11_spelled_91 : decode cX11_spelled 91 = .ok (.lload 6, 2) := by decide +kernel
theorem dX11_spelled_93 : decode cX11_spelled 93 = .ok (.lreturn, 1) := by decide +kernel
theorem dX11_letters_0 : decode cX11_letters 0 = .ok (.iload_n 0, 1) := by decide +kernel
theorem dX11_letters_1 : decode cX11_letters 1 = .ok (.tableswitch 223 0 11 #[63, 79, 93, 108, 121, 133, 146, 158, 169, 180, 194, 209], 63) := by decide +kernel
theorem dX11_letters_64 : decode cX11_letters 64 = .ok (.bipush 119, 2) := by decide +kernel
theorem dX11_letters_66 : decode cX11_letters 66 = .ok (.bipush 101, 2) := by decide +kernel
theorem dX11_letters_68 : decode cX11_letters 68 = .ok (.bipush 97, 2) := by decide +kernel
theorem dX11_letters_70 : decode cX11_letters 70 = .ok (.bipush 114, 2) := by decide +kernel
theorem dX11_letters_72 : decode cX11_letters 72 = .ok (.bipush 101, 2) := by decide +kernel
theorem dX11_letters_74 : decode cX11_letters 74 = .ok (.bipush 114, 2) := by decide +kernel
theorem dX11_letters_76 : decode cX11_letters 76 = .ok (.invokestatic 254, 3) := by decide +kernel
theorem dX11_letters_79 : decode cX11_letters 79 = .ok (.lreturn, 1) := by decide +kernel
theorem dX11_letters_80 : decode cX11_letters 80 = .ok (.bipush 112, 2) := by decide +kernel
theorem dX11_letters_82 : decode cX11_letters 82 = .ok (.bipush 97, 2) := by decide +kernel
theorem dX11_letters_84 : decode cX11_letters 84 = .ok (.bipush 115, 2) := by decide +kernel
theorem dX11_letters_86 : decode cX11_letters 86 = .ok (.bipush 115, 2) := by decide +kernel
theorem dX11_letters_88 : decode cX11_letters 88 = .ok (.iconst 0, 1) := by decide +kernel
theorem dX11_letters_89 : decode cX11_letters 89 = .ok (.iconst 0, 1) := by decide +kernel
theorem dX11_letters_90 : decode cX11_letters 90 = .ok (.invokestatic 254, 3) := by decide +kernel
theorem dX11_letters_93 : decode cX11_letters 93 = .ok (.lreturn, 1) := by decide +kernel
theorem dX11_letters_94 : decode cX11_letters 94 = .ok (.bipush 103, 2) := by decide +kernel
theorem dX11_letters_96 : decode cX11_letters 96 = .ok (.bipush 117, 2) := by decide +kernel
theorem dX11_letters_98 : decode cX11_letters 98 = .ok (.bipush 101, 2) := by decide +kernel
theorem dX11_letters_100 : decode cX11_letters 100 = .ok (.bipush 115, 2) := by decide +kernel
theorem dX11_letters_102 : decode cX11_letters 102 = .ok (.bipush 115, 2) := by decide +kernel
theorem dX11_letters_104 : decode cX11_letters 104 = .ok (.iconst 0, 1) := by decide +kernel
theorem dX11_letters_105 : decode cX11_letters 105 = .ok (.invokestatic 254, 3) := by decide +kernel
theorem dX11_letters_108 : decode cX11_letters 108 = .ok (.lreturn, 1) := by decide +kernel
theorem dX11_letters_109 : decode cX11_letters 109 = .ok (.bipush 97, 2) := by decide +kernel
theorem dX11_letters_111 : decode cX11_letters 111 = .ok (.bipush 110, 2) := by decide +kernel
theorem dX11_letters_113 : decode cX11_letters 113 = .ok (.bipush 100, 2) := by decide +kernel
theorem dX11_letters_115 : decode cX11_letters 115 = .ok (.iconst 0, 1) := by decide +kernel
theorem dX11_letters_116 : decode cX11_letters 116 = .ok (.iconst 0, 1) := by decide +kernel
theorem dX11_letters_117 : decode cX11_letters 117 = .ok (.iconst 0, 1) := by decide +kernel
theorem dX11_letters_118 : decode cX11_letters 118 = .ok (.invokestatic 254, 3) := by decide +kernel
theorem dX11_letters_121 : decode cX11_letters 121 = .ok (.lreturn, 1) := by decide +kernel
theorem dX11_letters_122 : decode cX11_letters 122 = .ok (.bipush 111, 2) := by decide +kernel
theorem dX11_letters_124 : decode cX11_letters 124 = .ok (.bipush 114, 2) := by decide +kernel
theorem dX11_letters_126 : decode cX11_letters 126 = .ok (.iconst 0, 1) := by decide +kernel
theorem dX11_letters_127 : decode cX11_letters 127 = .ok (.iconst 0, 1) := by decide +kernel
theorem dX11_letters_128 : decode cX11_letters 128 = .ok (.iconst 0, 1) := by decide +kernel
theorem dX11_letters_129 : decode cX11_letters 129 = .ok (.iconst 0, 1) := by decide +kernel
theorem dX11_letters_130 : decode cX11_letters 130 = .ok (.invokestatic 254, 3) := by decide +kernel
theorem dX11_letters_133 : decode cX11_letters 133 = .ok (.lreturn, 1) := by decide +kernel
theorem dX11_letters_134 : decode cX11_letters 134 = .ok (.bipush 110, 2) := by decide +kernel
theorem dX11_letters_136 : decode cX11_letters 136 = .ok (.bipush 111, 2) := by decide +kernel
theorem dX11_letters_138 : decode cX11_letters 138 = .ok (.bipush 116, 2) := by decide +kernel
theorem dX11_letters_140 : decode cX11_letters 140 = .ok (.iconst 0, 1) := by decide +kernel
theorem dX11_letters_141 : decode cX11_letters 141 = .ok (.iconst 0, 1) := by decide +kernel
theorem dX11_letters_142 : decode cX11_letters 142 = .ok (.iconst 0, 1) := by decide +kernel
theorem dX11_letters_143 : decode cX11_letters 143 = .ok (.invokestatic 254, 3) := by decide +kernel
theorem dX11_letters_146 : decode cX11_letters 146 = .ok (.lreturn, 1) := by decide +kernel
theorem dX11_letters_147 : decode cX11_letters 147 = .ok (.bipush 109, 2) := by decide +kernel
theorem dX11_letters_149 : decode cX11_letters 149 = .ok (.bipush 101, 2) := by decide +kernel
theorem dX11_letters_151 : decode cX11_letters 151 = .ok (.iconst 0, 1) := by decide +kernel
theorem dX11_letters_152 : decode cX11_letters 152 = .ok (.iconst 0, 1) := by decide +kernel
theorem dX11_letters_153 : decode cX11_letters 153 = .ok (.iconst 0, 1) := by decide +kernel
theorem dX11_letters_154 : decode cX11_letters 154 = .ok (.iconst 0, 1) := by decide +kernel
theorem dX11_letters_155 : decode cX11_letters 155 = .ok (.invokestatic 254, 3) := by decide +kernel
theorem dX11_letters_158 : decode cX11_letters 158 = .ok (.lreturn, 1) := by decide +kernel
theorem dX11_letters_159 : decode cX11_letters 159 = .ok (.bipush 110, 2) := by decide +kernel
theorem dX11_letters_161 : decode cX11_letters 161 = .ok (.iconst 0, 1) := by decide +kernel
theorem dX11_letters_162 : decode cX11_letters 162 = .ok (.iconst 0, 1) := by decide +kernel
theorem dX11_letters_163 : decode cX11_letters 163 = .ok (.iconst 0, 1) := by decide +kernel
theorem dX11_letters_164 : decode cX11_letters 164 = .ok (.iconst 0, 1) := by decide +kernel
theorem dX11_letters_165 : decode cX11_letters 165 = .ok (.iconst 0, 1) := by decide +kernel
theorem dX11_letters_166 : decode cX11_letters 166 = .ok (.invokestatic 254, 3) := by decide +kernel
theorem dX11_letters_169 : decode cX11_letters 169 = .ok (.lreturn, 1) := by decide +kernel
theorem dX11_letters_170 : decode cX11_letters 170 = .ok (.bipush 113, 2) := by decide +kernel
theorem dX11_letters_172 : decode cX11_letters 172 = .ok (.iconst 0, 1) := by decide +kernel
theorem dX11_letters_173 : decode cX11_letters 173 = .ok (.iconst 0, 1) := by decide +kernel
theorem dX11_letters_174 : decode cX11_letters 174 = .ok (.iconst 0, 1) := by decide +kernel
theorem dX11_letters_175 : decode cX11_letters 175 = .ok (.iconst 0, 1) := by decide +kernel
theorem dX11_letters_176 : decode cX11_letters 176 = .ok (.iconst 0, 1) := by decide +kernel
theorem dX11_letters_177 : decode cX11_letters 177 = .ok (.invokestatic 254, 3) := by decide +kernel
theorem dX11_letters_180 : decode cX11_letters 180 = .ok (.lreturn, 1) := by decide +kernel
theorem dX11_letters_181 : decode cX11_letters 181 = .ok (.bipush 115, 2) := by decide +kernel
theorem dX11_letters_183 : decode cX11_letters 183 = .ok (.bipush 101, 2) := by decide +kernel
theorem dX11_letters_185 : decode cX11_letters 185 = .ok (.bipush 101, 2) := by decide +kernel
theorem dX11_letters_187 : decode cX11_letters 187 = .ok (.bipush 115, 2) := by decide +kernel
theorem dX11_letters_189 : decode cX11_letters 189 = .ok (.iconst 0, 1) := by decide +kernel
theorem dX11_letters_190 : decode cX11_letters 190 = .ok (.iconst 0, 1) := by decide +kernel
theorem dX11_letters_191 : decode cX11_letters 191 = .ok (.invokestatic 254, 3) := by decide +kernel
theorem dX11_letters_194 : decode cX11_letters 194 = .ok (.lreturn, 1) := by decide +kernel
theorem dX11_letters_195 : decode cX11_letters 195 = .ok (.bipush 104, 2) := by decide +kernel
theorem dX11_letters_197 : decode cX11_letters 197 = .ok (.bipush 101, 2) := by decide +kernel
theorem dX11_letters_199 : decode cX11_letters 199 = .ok (.bipush 97, 2) := by decide +kernel
theorem dX11_letters_201 : decode cX11_letters 201 = .ok (.bipush 114, 2) := by decide +kernel
theorem dX11_letters_203 : decode cX11_letters 203 = .ok (.bipush 115, 2) := by decide +kernel
theorem dX11_letters_205 : decode cX11_letters 205 = .ok (.iconst 0, 1) := by decide +kernel
theorem dX11_letters_206 : decode cX11_letters 206 = .ok (.invokestatic 254, 3) := by decide +kernel
theorem dX11_letters_209 : decode cX11_letters 209 = .ok (.lreturn, 1) := by decide +kernel
theorem dX11_letters_210 : decode cX11_letters 210 = .ok (.bipush 115, 2) := by decide +kernel
theorem dX11_letters_212 : decode cX11_letters 212 = .ok (.bipush 101, 2) := by decide +kernel
theorem dX11_letters_214 : decode cX11_letters 214 = .ok (.bipush 101, 2) := by decide +kernel
theorem dX11_letters_216 : decode cX11_letters 216 = .ok (.bipush 110, 2) := by decide +kernel
theorem dX11_letters_218 : decode cX11_letters 218 = .ok (.iconst 0, 1) := by decide +kernel
theorem dX11_letters_219 : decode cX11_letters 219 = .ok (.iconst 0, 1) := by decide +kernel
theorem dX11_letters_220 : decode cX11_letters 220 = .ok (.invokestatic 254, 3) := by decide +kernel
theorem dX11_letters_223 : decode cX11_letters 223 = .ok (.lreturn, 1) := by decide +kernel
theorem dX11_letters_224 : decode cX11_letters 224 = .ok (.bipush 104, 2) := by decide +kernel
theorem dX11_letters_226 : decode cX11_letters 226 = .ok (.bipush 101, 2) := by decide +kernel
theorem dX11_letters_228 : decode cX11_letters 228 = .ok (.bipush 97, 2) := by decide +kernel
theorem dX11_letters_230 : decode cX11_letters 230 = .ok (.bipush 114, 2) := by decide +kernel
theorem dX11_letters_232 : decode cX11_letters 232 = .ok (.bipush 100, 2) := by decide +kernel
theorem dX11_letters_234 : decode cX11_letters 234 = .ok (.iconst 0, 1) := by decide +kernel
theorem dX11_letters_235 : decode cX11_letters 235 = .ok (.invokestatic 254, 3) := by decide +kernel
theorem dX11_letters_238 : decode cX11_letters 238 = .ok (.lreturn, 1) := by decide +kernel
theorem dX11_knownWord_0 : decode cX11_knownWord 0 = .ok (.aload_n 0, 1) := by decide +kernel
theorem dX11_knownWord_1 : decode cX11_knownWord 1 = .ok (.getfield 242, 3) := by decide +kernel
theorem dX11_knownWord_4 : decode cX11_knownWord 4 = .ok (.iconst 1, 1) := by decide +kernel
theorem dX11_knownWord_5 : decode cX11_knownWord 5 = .ok (.if_icmp .ne 12, 3) := by decide +kernel
theorem dX11_knownWord_8 : decode cX11_knownWord 8 = .ok (.aload_n 0, 1) := by decide +kernel
theorem dX11_knownWord_9 : decode cX11_knownWord 9 = .ok (.getfield 251, 3) := by decide +kernel
theorem dX11_knownWord_12 : decode cX11_knownWord 12 = .ok (.bipush 6, 2) := by decide +kernel
theorem dX11_knownWord_14 : decode cX11_knownWord 14 = .ok (.if_icmp .le 5, 3) := by decide +kernel
theorem dX11_knownWord_17 : decode cX11_knownWord 17 = .ok (.iconst (-1), 1) := by decide +kernel
theorem dX11_knownWord_18 : decode cX11_knownWord 18 = .ok (.ireturn, 1) := by decide +kernel
theorem dX11_knownWord_19 : decode cX11_knownWord 19 = .ok (.iconst 0, 1) := by decide +kernel
theorem dX11_knownWord_20 : decode cX11_knownWord 20 = .ok (.istore_n 1, 1) := by decide +kernel
theorem dX11_knownWord_21 : decode cX11_knownWord 21 = .ok (.iload_n 1, 1) := by decide +kernel
theorem dX11_knownWord_22 : decode cX11_knownWord 22 = .ok (.bipush 13, 2) := by decide +kernel
theorem dX11_knownWord_24 : decode cX11_knownWord 24 = .ok (.if_icmp .ge 23, 3) := by decide +kernel
theorem dX11_knownWord_27 : decode cX11_knownWord 27 = .ok (.iload_n 1, 1) := by decide +kernel
theorem dX11_knownWord_28 : decode cX11_knownWord 28 = .ok (.invokestatic 258, 3) := by decide +kernel
theorem dX11_knownWord_31 : decode cX11_knownWord 31 = .ok (.aload_n 0, 1) := by decide +kernel
theorem dX11_knownWord_32 : decode cX11_knownWord 32 = .ok (.getfield 232, 3) := by decide +kernel
theorem dX11_knownWord_35 : decode cX11_knownWord 35 = .ok (.lcmp, 1) := by decide +kernel
theorem dX11_knownWord_36 : decode cX11_knownWord 36 = .ok (.ifCond .ne 5, 3) := by decide +kernel
theorem dX11_knownWord_39 : decode cX11_knownWord 39 = .ok (.iload_n 1, 1) := by decide +kernel
theorem dX11_knownWord_40 : decode cX11_knownWord 40 = .ok (.ireturn, 1) := by decide +kernel
theorem dX11_knownWord_41 : decode cX11_knownWord 41 = .ok (.iinc 1 1, 3) := by decide +kernel
theorem dX11_knownWord_44 : decode cX11_knownWord 44 = .ok (.goto (-23), 3) := by decide +kernel
theorem dX11_knownWord_47 : decode cX11_knownWord 47 = .ok (.iconst (-1), 1) := by decide +kernel
theorem dX11_knownWord_48 : decode cX11_knownWord 48 = .ok (.ireturn, 1) := by decide +kernel
theorem dX11_wrong_0 : decode cX11_wrong 0 = .ok (.aload_n 0, 1) := by decide +kernel
theorem dX11_wrong_1 : decode cX11_wrong 1 = .ok (.getfield 262, 3) := by decide +kernel
theorem dX11_wrong_4 : decode cX11_wrong 4 = .ok (.ifCond .eq 4, 3) := by decide +kernel
theorem dX11_wrong_7 : decode cX11_wrong 7 = .ok (.return_, 1) := by decide +kernel
theorem dX11_wrong_8 : decode cX11_wrong 8 = .ok (.aload_n 0, 1) := by decide +kernel
theorem dX11_wrong_9 : decode cX11_wrong 9 = .ok (.iload_n 1, 1) := by decide +kernel
theorem dX11_wrong_10 : decode cX11_wrong 10 = .ok (.putfield 262, 3) := by decide +kernel
theorem dX11_wrong_13 : decode cX11_wrong 13 = .ok (.aload_n 0, 1) := by decide +kernel
theorem dX11_wrong_14 : decode cX11_wrong 14 = .ok (.aload_n 0, 1) := by decide +kernel
theorem dX11_wrong_15 : decode cX11_wrong 15 = .ok (.getfield 229, 3) := by decide +kernel
theorem dX11_wrong_18 : decode cX11_wrong 18 = .ok (.putfield 53, 3) := by decide +kernel
theorem dX11_wrong_21 : decode cX11_wrong 21 = .ok (.return_, 1) := by decide +kernel
theorem dX11_isGood_0 : decode cX11_isGood 0 = .ok (.aload_n 0, 1) := by decide +kernel
theorem dX11_isGood_1 : decode cX11_isGood 1 = .ok (.getfield 262, 3) := by decide +kernel
theorem dX11_isGood_4 : decode cX11_isGood 4 = .ok (.ifCond .ne 7, 3) := by decide +kernel
theorem dX11_isGood_7 : decode cX11_isGood 7 = .ok (.iconst 1, 1) := by decide +kernel
theorem dX11_isGood_8 : decode cX11_isGood 8 = .ok (.goto 4, 3) := by decide +kernel
theorem dX11_isGood_11 : decode cX11_isGood 11 = .ok (.iconst 0, 1) := by decide +kernel
theorem dX11_isGood_12 : decode cX11_isGood 12 = .ok (.ireturn, 1) := by decide +kernel
theorem dX11_isSign_0 : decode cX11_isSign 0 = .ok (.aload_n 0, 1) := by decide +kernel
theorem dX11_isSign_1 : decode cX11_isSign 1 = .ok (.getfield 242, 3) := by decide +kernel
theorem dX11_isSign_4 : decode cX11_isSign 4 = .ok (.iconst 3, 1) := by decide +kernel
theorem dX11_isSign_5 : decode cX11_isSign 5 = .ok (.if_icmp .ne 15, 3) := by decide +kernel
theorem dX11_isSign_8 : decode cX11_isSign 8 = .ok (.aload_n 0, 1) := by decide +kernel
theorem dX11_isSign_9 : decode cX11_isSign 9 = .ok (.getfield 239, 3) := by decide +kernel
theorem dX11_isSign_12 : decode cX11_isSign 12 = .ok (.iload_n 1, 1) := by decide +kernel
theorem dX11_isSign_13 : decode cX11_isSign 13 = .ok (.if_icmp .ne 7, 3) := by decide +kernel
theorem dX11_isSign_16 : decode cX11_isSign 16 = .ok (.iconst 1, 1) := by decide +kernel
theorem dX11_isSign_17 : decode cX11_isSign 17 = .ok (.goto 4, 3) := by decide +kernel
theorem dX11_isSign_20 : decode cX11_isSign 20 = .ok (.iconst 0, 1) := by decide +kernel
theorem dX11_isSign_21 : decode cX11_isSign 21 = .ok (.ireturn, 1) := by decide +kernel
theorem dX11_puts_0 : decode cX11_puts 0 = .ok (.aload_n 0, 1) := by decide +kernel
theorem dX11_puts_1 : decode cX11_puts 1 = .ok (.getfield 65, 3) := by decide +kernel
theorem dX11_puts_4 : decode cX11_puts 4 = .ok (.aload_n 0, 1) := by decide +kernel
theorem dX11_puts_5 : decode cX11_puts 5 = .ok (.getfield 265, 3) := by decide +kernel
theorem dX11_puts_8 : decode cX11_puts 8 = .ok (.iload_n 1, 1) := by decide +kernel
theorem dX11_puts_9 : decode cX11_puts 9 = .ok (.iastore, 1) := by decide +kernel
theorem dX11_puts_10 : decode cX11_puts 10 = .ok (.aload_n 0, 1) := by decide +kernel
theorem dX11_puts_11 : decode cX11_puts 11 = .ok (.dup, 1) := by decide +kernel
theorem dX11_puts_12 : decode cX11_puts 12 = .ok (.getfield 265, 3) := by decide +kernel
theorem dX11_puts_15 : decode cX11_puts 15 = .ok (.iconst 1, 1) := by decide +kernel
theorem dX11_puts_16 : decode cX11_puts 16 = .ok (.iadd, 1) := by decide +kernel
theorem dX11_puts_17 : decode cX11_puts 17 = .ok (.putfield 265, 3) := by decide +kernel
theorem dX11_puts_20 : decode cX11_puts 20 = .ok (.return_, 1) := by decide +kernel
theorem dX11_strength_0 : decode cX11_strength 0 = .ok (.iload_n 0, 1) := by decide +kernel
theorem dX11_strength_1 : decode cX11_strength 1 = .ok (.bipush 12, 2) := by decide +kernel
theorem dX11_strength_3 : decode cX11_strength 3 = .ok (.if_icmp .ne 7, 3) := by decide +kernel
theorem dX11_strength_6 : decode cX11_strength 6 = .ok (.iconst 0, 1) := by decide +kernel
theorem dX11_strength_7 : decode cX11_strength 7 = .ok (.goto 64, 3) := by decide +kernel
theorem dX11_strength_10 : decode cX11_strength 10 = .ok (.iload_n 0, 1) := by decide +kernel
theorem dX11_strength_11 : decode cX11_strength 11 = .ok (.iconst 5, 1) := by decide +kernel
theorem dX11_strength_12 : decode cX11_strength 12 = .ok (.if_icmp .ne 7, 3) := by decide +kernel
theorem dX11_strength_15 : decode cX11_strength 15 = .ok (.iconst 1, 1) := by decide +kernel
theorem dX11_strength_16 : decode cX11_strength 16 = .ok (.goto 55, 3) := by decide +kernel
theorem dX11_strength_19 : decode cX11_strength 19 = .ok (.iload_n 0, 1) := by decide +kernel
theorem dX11_strength_20 : decode cX11_strength 20 = .ok (.iconst 4, 1) := by decide +kernel
theorem dX11_strength_21 : decode cX11_strength 21 = .ok (.if_icmp .ne 7, 3) := by decide +kernel
theorem dX11_strength_24 : decode cX11_strength 24 = .ok (.iconst 2, 1) := by decide +kernel
theorem dX11_strength_25 : decode cX11_strength 25 = .ok (.goto 46, 3) := by decide +kernel
theorem dX11_strength_28 : decode cX11_strength 28 = .ok (.iload_n 0, 1) := by decide +kernel
theorem dX11_strength_29 : decode cX11_strength 29 = .ok (.iconst 3, 1) := by decide +kernel
theorem dX11_strength_30 : decode cX11_strength 30 = .ok (.if_icmp .ne 7, 3) := by decide +kernel
theorem dX11_strength_33 : decode cX11_strength 33 = .ok (.iconst 3, 1) := by decide +kernel
theorem dX11_strength_34 : decode cX11_strength 34 = .ok (.goto 37, 3) := by decide +kernel
theorem dX11_strength_37 : decode cX11_strength 37 = .ok (.iload_n 0, 1) := by decide +kernel
theorem dX11_strength_38 : decode cX11_strength 38 = .ok (.bipush 6, 2) := by decide +kernel
theorem dX11_strength_40 : decode cX11_strength 40 = .ok (.if_icmp .eq 9, 3) := by decide +kernel
theorem dX11_strength_43 : decode cX11_strength 43 = .ok (.iload_n 0, 1) := by decide +kernel
theorem dX11_strength_44 : decode cX11_strength 44 = .ok (.bipush 7, 2) := by decide +kernel
theorem dX11_strength_46 : decode cX11_strength 46 = .ok (.if_icmp .ne 7, 3) := by decide +kernel
theorem dX11_strength_49 : decode cX11_strength 49 = .ok (.iconst 4, 1) := by decide +kernel
theorem dX11_strength_50 : decode cX11_strength 50 = .ok (.goto 21, 3) := by decide +kernel
theorem dX11_strength_53 : decode cX11_strength 53 = .ok (.iload_n 0, 1) := by decide +kernel
theorem dX11_strength_54 : decode cX11_strength 54 = .ok (.bipush 8, 2) := by decide +kernel
theorem dX11_strength_56 : decode cX11_strength 56 = .ok (.if_icmp .eq 9, 3) := by decide +kernel
theorem dX11_strength_59 : decode cX11_strength 59 = .ok (.iload_n 0, 1) := by decide +kernel
theorem dX11_strength_60 : decode cX11_strength 60 = .ok (.bipush 9, 2) := by decide +kernel
theorem dX11_strength_62 : decode cX11_strength 62 = .ok (.if_icmp .ne 7, 3) := by decide +kernel
theorem dX11_strength_65 : decode cX11_strength 65 = .ok (.iconst 5, 1) := by decide +kernel
theorem dX11_strength_66 : decode cX11_strength 66 = .ok (.goto 5, 3) := by decide +kernel
theorem dX11_strength_69 : decode cX11_strength 69 = .ok (.bipush 6, 2) := by decide +kernel
theorem dX11_strength_71 : decode cX11_strength 71 = .ok (.ireturn, 1) := by decide +kernel
theorem dX11_drops_0 : decode cX11_drops 0 = .ok (.aload_n 0, 1) := by decide +kernel
theorem dX11_drops_1 : decode cX11_drops 1 = .ok (.getfield 268, 3) := by decide +kernel
theorem dX11_drops_4 : decode cX11_drops 4 = .ok (.ifCond .le 63, 3) := by decide +kernel
theorem dX11_drops_7 : decode cX11_drops 7 = .ok (.aload_n 0, 1) := by decide +kernel
theorem dX11_drops_8 : decode cX11_drops 8 = .ok (.getfield 68, 3) := by decide +kernel
theorem dX11_drops_11 : decode cX11_drops 11 = .ok (.aload_n 0, 1) := by decide +kernel
theorem dX11_drops_12 : decode cX11_drops 12 = .ok (.getfield 268, 3) := by decide +kernel
theorem dX11_drops_15 : decode cX11_drops 15 = .ok (.iconst 1, 1) := by decide +kernel
theorem dX11_drops_16 : decode cX11_drops 16 = .ok (.isub, 1) := by decide +kernel
theorem dX11_drops_17 : decode cX11_drops 17 = .ok (.iaload, 1) := by decide +kernel
theorem dX11_drops_18 : decode cX11_drops 18 = .ok (.bipush 12, 2) := by decide +kernel
theorem dX11_drops_20 : decode cX11_drops 20 = .ok (.if_icmp .eq 47, 3) := by decide +kernel
theorem dX11_drops_23 : decode cX11_drops 23 = .ok (.aload_n 0, 1) := by decide +kernel
theorem dX11_drops_24 : decode cX11_drops 24 = .ok (.getfield 68, 3) := by decide +kernel
theorem dX11_drops_27 : decode cX11_drops 27 = .ok (.aload_n 0, 1) := by decide +kernel
theorem dX11_drops_28 : decode cX11_drops 28 = .ok (.getfield 268, 3) := by decide +kernel
theorem dX11_drops_31 : decode cX11_drops 31 = .ok (.iconst 1, 1) := by decide +kernel
theorem dX11_drops_32 : decode cX11_drops 32 = .ok (.isub, 1) := by decide +kernel
theorem dX11_drops_33 : decode cX11_drops 33 = .ok (.iaload, 1) := by decide +kernel
theorem dX11_drops_34 : decode cX11_drops 34 = .ok (.invokestatic 271, 3) := by decide +kernel
theorem dX11_drops_37 : decode cX11_drops 37 = .ok (.iload_n 1, 1) := by decide +kernel
theorem dX11_drops_38 : decode cX11_drops 38 = .ok (.if_icmp .lt 29, 3) := by decide +kernel
theorem dX11_drops_41 : decode cX11_drops 41 = .ok (.aload_n 0, 1) := by decide +kernel
theorem dX11_drops_42 : decode cX11_drops 42 = .ok (.dup, 1) := by decide +kernel
theorem dX11_drops_43 : decode cX11_drops 43 = .ok (.getfield 268, 3) := by decide +kernel
theorem dX11_drops_46 : decode cX11_drops 46 = .ok (.iconst 1, 1) := by decide +kernel
theorem dX11_drops_47 : decode cX11_drops 47 = .ok (.isub, 1) := by decide +kernel
theorem dX11_drops_48 : decode cX11_drops 48 = .ok (.putfield 268, 3) := by decide +kernel
theorem dX11_drops_51 : decode cX11_drops 51 = .ok (.aload_n 0, 1) := by decide +kernel
theorem dX11_drops_52 : decode cX11_drops 52 = .ok (.aload_n 0, 1) := by decide +kernel
theorem dX11_drops_53 : decode cX11_drops 53 = .ok (.getfield 68, 3) := by decide +kernel
theorem dX11_drops_56 : decode cX11_drops 56 = .ok (.aload_n 0, 1) := by decide +kernel
theorem dX11_drops_57 : decode cX11_drops 57 = .ok (.getfield 268, 3) := by decide +kernel
theorem dX11_drops_60 : decode cX11_drops 60 = .ok (.iaload, 1) := by decide +kernel
theorem dX11_drops_61 : decode cX11_drops 61 = .ok (.invokevirtual 274, 3) := by decide +kernel
theorem dX11_drops_64 : decode cX11_drops 64 = .ok (.goto (-64), 3) := by decide +kernel
theorem dX11_drops_67 : decode cX11_drops 67 = .ok (.return_, 1) := by decide +kernel
theorem dX11_waitsFor_0 : decode cX11_waitsFor 0 = .ok (.aload_n 0, 1) := by decide +kernel
theorem dX11_waitsFor_1 : decode cX11_waitsFor 1 = .ok (.getfield 68, 3) := by decide +kernel
theorem dX11_waitsFor_4 : decode cX11_waitsFor 4 = .ok (.aload_n 0, 1) := by decide +kernel
theorem dX11_waitsFor_5 : decode cX11_waitsFor 5 = .ok (.getfield 268, 3) := by decide +kernel
theorem dX11_waitsFor_8 : decode cX11_waitsFor 8 = .ok (.iload_n 1, 1) := by decide +kernel
theorem dX11_waitsFor_9 : decode cX11_waitsFor 9 = .ok (.iastore, 1) := by decide +kernel
theorem dX11_waitsFor_10 : decode cX11_waitsFor 10 = .ok (.aload_n 0, 1) := by decide +kernel
theorem dX11_waitsFor_11 : decode cX11_waitsFor 11 = .ok (.dup, 1) := by decide +kernel
theorem dX11_waitsFor_12 : decode cX11_waitsFor 12 = .ok (.getfield 268, 3) := by decide +kernel
theorem dX11_waitsFor_15 : decode cX11_waitsFor 15 = .ok (.iconst 1, 1) := by decide +kernel
theorem dX11_waitsFor_16 : decode cX11_waitsFor 16 = .ok (.iadd, 1) := by decide +kernel
theorem dX11_waitsFor_17 : decode cX11_waitsFor 17 = .ok (.putfield 268, 3) := by decide +kernel
theorem dX11_waitsFor_20 : decode cX11_waitsFor 20 = .ok (.return_, 1) := by decide +kernel
theorem dX11_wearer_0 : decode cX11_wearer 0 = .ok (.aload_n 0, 1) := by decide +kernel
theorem dX11_wearer_1 : decode cX11_wearer 1 = .ok (.invokevirtual 277, 3) := by decide +kernel
theorem dX11_wearer_4 : decode cX11_wearer 4 = .ok (.ifCond .ne 5, 3) := by decide +kernel
theorem dX11_wearer_7 : decode cX11_wearer 7 = .ok (.iconst 0, 1) := by decide +kernel
theorem dX11_wearer_8 : decode cX11_wearer 8 = .ok (.ireturn, 1) := by decide +kernel
theorem dX11_wearer_9 : decode cX11_wearer 9 = .ok (.aload_n 0, 1) := by decide +kernel
theorem dX11_wearer_10 : decode cX11_wearer 10 = .ok (.getfield 242, 3) := by decide +kernel
theorem dX11_wearer_13 : decode cX11_wearer 13 = .ok (.iconst 2, 1) := by decide +kernel
theorem dX11_wearer_14 : decode cX11_wearer 14 = .ok (.if_icmp .eq 11, 3) := by decide +kernel
theorem dX11_wearer_17 : decode cX11_wearer 17 = .ok (.aload_n 0, 1) := by decide +kernel
theorem dX11_wearer_18 : decode cX11_wearer 18 = .ok (.iconst 1, 1) := by decide +kernel
theorem dX11_wearer_19 : decode cX11_wearer 19 = .ok (.invokevirtual 281, 3) := by decide +kernel
theorem dX11_wearer_22 : decode cX11_wearer 22 = .ok (.goto 35, 3) := by decide +kernel
theorem dX11_wearer_25 : decode cX11_wearer 25 = .ok (.aload_n 0, 1) := by decide +kernel
theorem dX11_wearer_26 : decode cX11_wearer 26 = .ok (.getfield 251, 3) := by decide +kernel
theorem dX11_wearer_29 : decode cX11_wearer 29 = .ok (.iconst 3, 1) := by decide +kernel
theorem dX11_wearer_30 : decode cX11_wearer 30 = .ok (.if_icmp .le 11, 3) := by decide +kernel
theorem dX11_wearer_33 : decode cX11_wearer 33 = .ok (.aload_n 0, 1) := by decide +kernel
theorem dX11_wearer_34 : decode cX11_wearer 34 = .ok (.iconst 2, 1) := by decide +kernel
theorem dX11_wearer_35 : decode cX11_wearer 35 = .ok (.invokevirtual 281, 3) := by decide +kernel
theorem dX11_wearer_38 : decode cX11_wearer 38 = .ok (.goto 19, 3) := by decide +kernel
theorem dX11_wearer_41 : decode cX11_wearer 41 = .ok (.aload_n 0, 1) := by decide +kernel
theorem dX11_wearer_42 : decode cX11_wearer 42 = .ok (.getfield 236, 3) := by decide +kernel
theorem dX11_wearer_45 : decode cX11_wearer 45 = .ok (.aload_n 0, 1) := by decide +kernel
theorem dX11_wearer_46 : decode cX11_wearer 46 = .ok (.getfield 7, 3) := by decide +kernel
theorem dX11_wearer_49 : decode cX11_wearer 49 = .ok (.if_icmp .lt 8, 3) := by decide +kernel
theorem dX11_wearer_52 : decode cX11_wearer 52 = .ok (.aload_n 0, 1) := by decide +kernel
theorem dX11_wearer_53 : decode cX11_wearer 53 = .ok (.iconst 4, 1) := by decide +kernel
theorem dX11_wearer_54 : decode cX11_wearer 54 = .ok (.invokevirtual 281, 3) := by decide +kernel
theorem dX11_wearer_57 : decode cX11_wearer 57 = .ok (.aload_n 0, 1) := by decide +kernel
theorem dX11_wearer_58 : decode cX11_wearer 58 = .ok (.getfield 236, 3) := by decide +kernel
theorem dX11_wearer_61 : decode cX11_wearer 61 = .ok (.istore_n 1, 1) := by decide +kernel
theorem dX11_wearer_62 : decode cX11_wearer 62 = .ok (.aload_n 0, 1) := by decide +kernel
theorem dX11_wearer_63 : decode cX11_wearer 63 = .ok (.invokevirtual 277, 3) := by decide +kernel
theorem dX11_wearer_66 : decode cX11_wearer 66 = .ok (.ifCond .eq 7, 3) := by decide +kernel
theorem dX11_wearer_69 : decode cX11_wearer 69 = .ok (.aload_n 0, 1) := by decide +kernel
theorem dX11_wearer_70 : decode cX11_wearer 70 = .ok (.invokevirtual 284, 3) := by decide +kernel
theorem dX11_wearer_73 : decode cX11_wearer 73 = .ok (.iload_n 1, 1) := by decide +kernel
theorem dX11_wearer_74 : decode cX11_wearer 74 = .ok (.ireturn, 1) := by decide +kernel
theorem dX11_part_0 : decode cX11_part 0 = .ok (.aload_n 0, 1) := by decide +kernel
theorem dX11_part_1 : decode cX11_part 1 = .ok (.invokevirtual 277, 3) := by decide +kernel
theorem dX11_part_4 : decode cX11_part 4 = .ok (.ifCond .ne 4, 3) := by decide +kernel
theorem dX11_part_7 : decode cX11_part 7 = .ok (.return_, 1) := by decide +kernel
theorem dX11_part_8 : decode cX11_part 8 = .ok (.aload_n 0, 1) := by decide +kernel
theorem dX11_part_9 : decode cX11_part 9 = .ok (.getfield 242, 3) := by decide +kernel
theorem dX11_part_12 : decode cX11_part 12 = .ok (.iconst 2, 1) := by decide +kernel
theorem dX11_part_13 : decode cX11_part 13 = .ok (.if_icmp .ne 41, 3) := by decide +kernel
theorem dX11_part_16 : decode cX11_part 16 = .ok (.aload_n 0, 1) := by decide +kernel
theorem dX11_part_17 : decode cX11_part 17 = .ok (.getfield 251, 3) := by decide +kernel
theorem dX11_part_20 : decode cX11_part 20 = .ok (.iconst 3, 1) := by decide +kernel
theorem dX11_part_21 : decode cX11_part 21 = .ok (.if_icmp .le 8, 3) := by decide +kernel
theorem dX11_part_24 : decode cX11_part 24 = .ok (.aload_n 0, 1) := by decide +kernel
theorem dX11_part_25 : decode cX11_part 25 = .ok (.iconst 2, 1) := by decide +kernel
theorem dX11_part_26 : decode cX11_part 26 = .ok (.invokevirtual 281, 3) := by decide +kernel
theorem dX11_part_29 : decode cX11_part 29 = .ok (.aload_n 0, 1) := by decide +kernel
theorem dX11_part_30 : decode cX11_part 30 = .ok (.iconst 1, 1) := by decide +kernel
theorem dX11_part_31 : decode cX11_part 31 = .ok (.invokevirtual 274, 3) := by decide +kernel
theorem dX11_part_34 : decode cX11_part 34 = .ok (.aload_n 0, 1) := by decide +kernel
theorem dX11_part_35 : decode cX11_part 35 = .ok (.aload_n 0, 1) := by decide +kernel
theorem dX11_part_36 : decode cX11_part 36 = .ok (.getfield 236, 3) := by decide +kernel
theorem dX11_part_39 : decode cX11_part 39 = .ok (.invokevirtual 274, 3) := by decide +kernel
theorem dX11_part_42 : decode cX11_part 42 = .ok (.aload_n 0, 1) := by decide +kernel
theorem dX11_part_43 : decode cX11_part 43 = .ok (.invokevirtual 277, 3) := by decide +kernel
theorem dX11_part_46 : decode cX11_part 46 = .ok (.ifCond .eq 7, 3) := by decide +kernel
theorem dX11_part_49 : decode cX11_part 49 = .ok (.aload_n 0, 1) := by decide +kernel
theorem dX11_part_50 : decode cX11_part 50 = .ok (.invokevirtual 284, 3) := by decide +kernel
theorem dX11_part_53 : decode cX11_part 53 = .ok (.return_, 1) := by decide +kernel
theorem dX11_part_54 : decode cX11_part 54 = .ok (.aload_n 0, 1) := by decide +kernel
theorem dX11_part_55 : decode cX11_part 55 = .ok (.invokevirtual 287, 3) := by decide +kernel
theorem dX11_part_58 : decode cX11_part 58 = .ok (.istore_n 1, 1) := by decide +kernel
theorem dX11_part_59 : decode cX11_part 59 = .ok (.aload_n 0, 1) := by decide +kernel
theorem dX11_part_60 : decode cX11_part 60 = .ok (.getfield 242, 3) := by decide +kernel
theorem dX11_part_63 : decode cX11_part 63 = .ok (.iconst 1, 1) := by decide +kernel
theorem dX11_part_64 : decode cX11_part 64 = .ok (.if_icmp .eq 11, 3) := by decide +kernel
theorem dX11_part_67 : decode cX11_part 67 = .ok (.aload_n 0, 1) := by decide +kernel
theorem dX11_part_68 : decode cX11_part 68 = .ok (.iconst 1, 1) := by decide +kernel
theorem dX11_part_69 : decode cX11_part 69 = .ok (.invokevirtual 281, 3) := by decide +kernel
theorem dX11_part_72 : decode cX11_part 72 = .ok (.goto 14, 3) := by decide +kernel
theorem dX11_part_75 : decode cX11_part 75 = .ok (.iload_n 1, 1) := by decide +kernel
theorem dX11_part_76 : decode cX11_part 76 = .ok (.bipush 6, 2) := by decide +kernel
theorem dX11_part_78 : decode cX11_part 78 = .ok (.if_icmp .ge 8, 3) := by decide +kernel
theorem dX11_part_81 : decode cX11_part 81 = .ok (.aload_n 0, 1) := by decide +kernel
theorem dX11_part_82 : decode cX11_part 82 = .ok (.iconst 3, 1) := by decide +kernel
theorem dX11_part_83 : decode cX11_part 83 = .ok (.invokevirtual 281, 3) := by decide +kernel
theorem dX11_part_86 : decode cX11_part 86 = .ok (.aload_n 0, 1) := by decide +kernel
theorem dX11_part_87 : decode cX11_part 87 = .ok (.invokevirtual 277, 3) := by decide +kernel
theorem dX11_part_90 : decode cX11_part 90 = .ok (.ifCond .ne 4, 3) := by decide +kernel
theorem dX11_part_93 : decode cX11_part 93 = .ok (.return_, 1) := by decide +kernel
theorem dX11_part_94 : decode cX11_part 94 = .ok (.aload_n 0, 1) := by decide +kernel
theorem dX11_part_95 : decode cX11_part 95 = .ok (.invokevirtual 284, 3) := by decide +kernel
theorem dX11_part_98 : decode cX11_part 98 = .ok (.iload_n 1, 1) := by decide +kernel
theorem dX11_part_99 : decode cX11_part 99 = .ok (.bipush 9, 2) := by decide +kernel
theorem dX11_part_101 : decode cX11_part 101 = .ok (.if_icmp .eq 9, 3) := by decide +kernel
theorem dX11_part_104 : decode cX11_part 104 = .ok (.iload_n 1, 1) := by decide +kernel
theorem dX11_part_105 : decode cX11_part 105 = .ok (.bipush 10, 2) := by decide +kernel
theorem dX11_part_107 : decode cX11_part 107 = .ok (.if_icmp .ne 10, 3) := by decide +kernel
theorem dX11_part_110 : decode cX11_part 110 = .ok (.aload_n 0, 1) := by decide +kernel
theorem dX11_part_111 : decode cX11_part 111 = .ok (.invokevirtual 290, 3) := by decide +kernel
theorem dX11_part_114 : decode cX11_part 114 = .ok (.goto 4, 3) := by decide +kernel
theorem dX11_part_117 : decode cX11_part 117 = .ok (.iconst 0, 1) := by decide +kernel
theorem dX11_part_118 : decode cX11_part 118 = .ok (.istore_n 2, 1) := by decide +kernel
theorem dX11_part_119 : decode cX11_part 119 = .ok (.aload_n 0, 1) := by decide +kernel
theorem dX11_part_120 : decode cX11_part 120 = .ok (.iconst 2, 1) := by decide +kernel
theorem dX11_part_121 : decode cX11_part 121 = .ok (.invokevirtual 274, 3) := by decide +kernel
theorem dX11_part_124 : decode cX11_part 124 = .ok (.aload_n 0, 1) := by decide +kernel
theorem dX11_part_125 : decode cX11_part 125 = .ok (.bipush 16, 2) := by decide +kernel
theorem dX11_part_127 : decode cX11_part 127 = .ok (.iload_n 2, 1) := by decide +kernel
theorem dX11_part_128 : decode cX11_part 128 = .ok (.imul, 1) := by decide +kernel
theorem dX11_part_129 : decode cX11_part 129 = .ok (.iload_n 1, 1) := by decide +kernel
theorem dX11_part_130 : decode cX11_part 130 = .ok (.iadd, 1) := by decide +kernel
theorem dX11_part_131 : decode cX11_part 131 = .ok (.invokevirtual 274, 3) := by decide +kernel
theorem dX11_part_134 : decode cX11_part 134 = .ok (.return_, 1) := by decide +kernel
theorem dX11_begins_0 : decode cX11_begins 0 = .ok (.aload_n 0, 1) := by decide +kernel
theorem dX11_begins_1 : decode cX11_begins 1 = .ok (.getfield 293, 3) := by decide +kernel
theorem dX11_begins_4 : decode cX11_begins 4 = .ok (.bipush 6, 2) := by decide +kernel
theorem dX11_begins_6 : decode cX11_begins 6 = .ok (.if_icmp .ge 24, 3) := by decide +kernel
theorem dX11_begins_9 : decode cX11_begins 9 = .ok (.aload_n 0, 1) := by decide +kernel
theorem dX11_begins_10 : decode cX11_begins 10 = .ok (.dup, 1) := by decide +kernel
theorem dX11_begins_11 : decode cX11_begins 11 = .ok (.getfield 293, 3) := by decide +kernel
theorem dX11_begins_14 : decode cX11_begins 14 = .ok (.iconst 1, 1) := by decide +kernel
theorem dX11_begins_15 : decode cX11_begins 15 = .ok (.iadd, 1) := by decide +kernel
theorem dX11_begins_16 : decode cX11_begins 16 = .ok (.putfield 293, 3) := by decide +kernel
theorem dX11_begins_19 : decode cX11_begins 19 = .ok (.aload_n 0, 1) := by decide +kernel
theorem dX11_begins_20 : decode cX11_begins 20 = .ok (.getfield 71, 3) := by decide +kernel
theorem dX11_begins_23 : decode cX11_begins 23 = .ok (.aload_n 0, 1) := by decide +kernel
theorem dX11_begins_24 : decode cX11_begins 24 = .ok (.getfield 293, 3) := by decide +kernel
theorem dX11_begins_27 : decode cX11_begins 27 = .ok (.iconst 0, 1) := by decide +kernel
theorem dX11_begins_28 : decode cX11_begins 28 = .ok (.bastore, 1) := by decide +kernel
theorem dX11_begins_29 : decode cX11_begins 29 = .ok (.return_, 1) := by decide +kernel
theorem dX11_begins_30 : decode cX11_begins 30 = .ok (.aload_n 0, 1) := by decide +kernel
theorem dX11_begins_31 : decode cX11_begins 31 = .ok (.aload_n 0, 1) := by decide +kernel
theorem dX11_begins_32 : decode cX11_begins 32 = .ok (.getfield 242, 3) := by decide +kernel
theorem dX11_begins_35 : decode cX11_begins 35 = .ok (.iconst 2, 1) := by decide +kernel
theorem dX11_begins_36 : decode cX11_begins 36 = .ok (.if_icmp .eq 20, 3) := by decide +kernel
theorem dX11_begins_39 : decode cX11_begins 39 = .ok (.aload_n 0, 1) := by decide +kernel
theorem dX11_begins_40 : decode cX11_begins 40 = .ok (.getfield 242, 3) := by decide +kernel
theorem dX11_begins_43 : decode cX11_begins 43 = .ok (.iconst 1, 1) := by decide +kernel
theorem dX11_begins_44 : decode cX11_begins 44 = .ok (.if_icmp .eq 12, 3) := by decide +kernel
theorem dX11_begins_47 : decode cX11_begins 47 = .ok (.aload_n 0, 1) := by decide +kernel
theorem dX11_begins_48 : decode cX11_begins 48 = .ok (.bipush 40, 2) := by decide +kernel
theorem dX11_begins_50 : decode cX11_begins 50 = .ok (.invokevirtual 296, 3) := by decide +kernel
theorem dX11_begins_53 : decode cX11_begins 53 = .ok (.ifCond .eq 7, 3) := by decide +kernel
theorem dX11_begins_56 : decode cX11_begins 56 = .ok (.iconst 2, 1) := by decide +kernel
theorem dX11_begins_57 : decode cX11_begins 57 = .ok (.goto 4, 3) := by decide +kernel
theorem dX11_begins_60 : decode cX11_begins 60 = .ok (.iconst 1, 1) := by decide +kernel
theorem dX11_begins_61 : decode cX11_begins 61 = .ok (.invokevirtual 281, 3) := by decide +kernel
theorem dX11_begins_64 : decode cX11_begins 64 = .ok (.return_, 1) := by decide +kernel
theorem dX11_operand_0 : decode cX11_operand 0 = .ok (.iload_n 1, 1) := by decide +kernel
theorem dX11_operand_1 : decode cX11_operand 1 = .ok (.istore_n 2, 1) := by decide +kernel
theorem dX11_operand_2 : decode cX11_operand 2 = .ok (.iconst 1, 1) := by decide +kernel
theorem dX11_operand_3 : decode cX11_operand 3 = .ok (.istore_n 3, 1) := by decide +kernel
theorem dX11_operand_4 : decode cX11_operand 4 = .ok (.iload_n 3, 1) := by decide +kernel
theorem dX11_operand_5 : decode cX11_operand 5 = .ok (.ifCond .eq 114, 3) := by decide +kernel
theorem dX11_operand_8 : decode cX11_operand 8 = .ok (.aload_n 0, 1) := by decide +kernel
theorem dX11_operand_9 : decode cX11_operand 9 = .ok (.invokevirtual 277, 3) := by decide +kernel
theorem dX11_operand_12 : decode cX11_operand 12 = .ok (.ifCond .eq 107, 3) := by decide +kernel
theorem dX11_operand_15 : decode cX11_operand 15 = .ok (.iconst 0, 1) := by decide +kernel
theorem dX11_operand_16 : decode cX11_operand 16 = .ok (.istore 4, 2) := by decide +kernel
theorem dX11_operand_18 : decode cX11_operand 18 = .ok (.aload_n 0, 1) := by decide +kernel
theorem dX11_operand_19 : decode cX11_operand 19 = .ok (.invokevirtual 277, 3) := by decide +kernel
theorem dX11_operand_22 : decode cX11_operand 22 = .ok (.ifCond .eq 52, 3) := by decide +kernel
theorem dX11_operand_25 : decode cX11_operand 25 = .ok (.iload_n 2, 1) := by decide +kernel
theorem dX11_operand_26 : decode cX11_operand 26 = .ok (.ifCond .eq 48, 3) := by decide +kernel
theorem dX11_operand_29 : decode cX11_operand 29 = .ok (.aload_n 0, 1) := by decide +kernel
theorem dX11_operand_30 : decode cX11_operand 30 = .ok (.invokevirtual 287, 3) := by decide +kernel
theorem dX11_operand_33 : decode cX11_operand 33 = .ok (.iconst 5, 1) := by decide +kernel
theorem dX11_operand_34 : decode cX11_operand 34 = .ok (.if_icmp .ne 40, 3) := by decide +kernel
theorem dX11_operand_37 : decode cX11_operand 37 = .ok (.iload 4, 2) := by decide +kernel
theorem dX11_operand_39 : decode cX11_operand 39 = .ok (.bipush 6, 2) := by decide +kernel
theorem dX11_operand_41 : decode cX11_operand 41 = .ok (.if_icmp .ne 8, 3) := by decide +kernel
theorem dX11_operand_44 : decode cX11_operand 44 = .ok (.aload_n 0, 1) := by decide +kernel
theorem dX11_operand_45 : decode cX11_operand 45 = .ok (.iconst 2, 1) := by decide +kernel
theorem dX11_operand_46 : decode cX11_operand 46 = .ok (.invokevirtual 281, 3) := by decide +kernel
theorem dX11_operand_49 : decode cX11_operand 49 = .ok (.iinc 4 1, 3) := by decide +kernel
theorem dX11_operand_52 : decode cX11_operand 52 = .ok (.aload_n 0, 1) := by decide +kernel
theorem dX11_operand_53 : decode cX11_operand 53 = .ok (.invokevirtual 277, 3) := by decide +kernel
theorem dX11_operand_56 : decode cX11_operand 56 = .ok (.ifCond .ne 6, 3) := by decide +kernel
theorem dX11_operand_59 : decode cX11_operand 59 = .ok (.goto (-41), 3) := by decide +kernel
theorem dX11_operand_62 : decode cX11_operand 62 = .ok (.aload_n 0, 1) := by decide +kernel
theorem dX11_operand_63 : decode cX11_operand 63 = .ok (.iconst 3, 1) := by decide +kernel
theorem dX11_operand_64 : decode cX11_operand 64 = .ok (.invokevirtual 299, 3) := by decide +kernel
theorem dX11_operand_67 : decode cX11_operand 67 = .ok (.aload_n 0, 1) := by decide +kernel
theorem dX11_operand_68 : decode cX11_operand 68 = .ok (.invokevirtual 284, 3) := by decide +kernel
theorem dX11_operand_71 : decode cX11_operand 71 = .ok (.goto (-53), 3) := by decide +kernel
theorem dX11_operand_74 : decode cX11_operand 74 = .ok (.aload_n 0, 1) := by decide +kernel
theorem dX11_operand_75 : decode cX11_operand 75 = .ok (.invokevirtual 277, 3) := by decide +kernel
theorem dX11_operand_78 : decode cX11_operand 78 = .ok (.ifCond .eq 16, 3) := by decide +kernel
theorem dX11_operand_81 : decode cX11_operand 81 = .ok (.aload_n 0, 1) := by decide +kernel
theorem dX11_operand_82 : decode cX11_operand 82 = .ok (.bipush 40, 2) := by decide +kernel
theorem dX11_operand_84 : decode cX11_operand 84 = .ok (.invokevirtual 296, 3) := by decide +kernel
theorem dX11_operand_87 : decode cX11_operand 87 = .ok (.ifCond .eq 7, 3) := by decide +kernel
theorem dX11_operand_90 : decode cX11_operand 90 = .ok (.iconst 1, 1) := by decide +kernel
theorem dX11_operand_91 : decode cX11_operand 91 = .ok (.goto 4, 3) := by decide +kernel
theorem dX11_operand_94 : decode cX11_operand 94 = .ok (.iconst 0, 1) := by decide +kernel
theorem dX11_operand_95 : decode cX11_operand 95 = .ok (.istore_n 3, 1) := by decide +kernel
theorem dX11_operand_96 : decode cX11_operand 96 = .ok (.iload_n 3, 1) := by decide +kernel
theorem dX11_operand_97 : decode cX11_operand 97 = .ok (.ifCond .eq 19, 3) := by decide +kernel
theorem dX11_operand_100 : decode cX11_operand 100 = .ok (.aload_n 0, 1) := by decide +kernel
theorem dX11_operand_101 : decode cX11_operand 101 = .ok (.bipush 12, 2) := by decide +kernel
theorem dX11_operand_103 : decode cX11_operand 103 = .ok (.invokevirtual 299, 3) := by decide +kernel
theorem dX11_operand_106 : decode cX11_operand 106 = .ok (.aload_n 0, 1) := by decide +kernel
theorem dX11_operand_107 : decode cX11_operand 107 = .ok (.invokevirtual 284, 3) := by decide +kernel
theorem dX11_operand_110 : decode cX11_operand 110 = .ok (.aload_n 0, 1) := by decide +kernel
theorem dX11_operand_111 : decode cX11_operand 111 = .ok (.invokevirtual 302, 3) := by decide +kernel
theorem dX11_operand_114 : decode cX11_operand 114 = .ok (.iconst 1, 1) := by decide +kernel
theorem dX11_operand_115 : decode cX11_operand 115 = .ok (.istore_n 2, 1) := by decide +kernel
theorem dX11_operand_116 : decode cX11_operand 116 = .ok (.goto (-112), 3) := by decide +kernel
theorem dX11_operand_119 : decode cX11_operand 119 = .ok (.aload_n 0, 1) := by decide +kernel
theorem dX11_operand_120 : decode cX11_operand 120 = .ok (.invokevirtual 305, 3) := by decide +kernel
theorem dX11_operand_123 : decode cX11_operand 123 = .ok (.return_, 1) := by decide +kernel
theorem dX11_expression_0 : decode cX11_expression 0 = .ok (.aload_n 0, 1) := by decide +kernel
theorem dX11_expression_1 : decode cX11_expression 1 = .ok (.getfield 265, 3) := by decide +kernel
theorem dX11_expression_4 : decode cX11_expression 4 = .ok (.istore_n 1, 1) := by decide +kernel
theorem dX11_expression_5 : decode cX11_expression 5 = .ok (.aload_n 0, 1) := by decide +kernel
theorem dX11_expression_6 : decode cX11_expression 6 = .ok (.invokevirtual 277, 3) := by decide +kernel
theorem dX11_expression_9 : decode cX11_expression 9 = .ok (.ifCond .ne 5, 3) := by decide +kernel
theorem dX11_expression_12 : decode cX11_expression 12 = .ok (.iload_n 1, 1) := by decide +kernel
theorem dX11_expression_13 : decode cX11_expression 13 = .ok (.ireturn, 1) := by decide +kernel
theorem dX11_expression_14 : decode cX11_expression 14 = .ok (.aload_n 0, 1) := by decide +kernel
theorem dX11_expression_15 : decode cX11_expression 15 = .ok (.iconst 0, 1) := by decide +kernel
theorem dX11_expression_16 : decode cX11_expression 16 = .ok (.putfield 268, 3) := by decide +kernel
theorem dX11_expression_19 : decode cX11_expression 19 = .ok (.aload_n 0, 1) := by decide +kernel
theorem dX11_expression_20 : decode cX11_expression 20 = .ok (.iconst 0, 1) := by decide +kernel
theorem dX11_expression_21 : decode cX11_expression 21 = .ok (.putfield 293, 3) := by decide +kernel
theorem dX11_expression_24 : decode cX11_expression 24 = .ok (.aload_n 0, 1) := by decide +kernel
theorem dX11_expression_25 : decode cX11_expression 25 = .ok (.invokevirtual 302, 3) := by decide +kernel
theorem dX11_expression_28 : decode cX11_expression 28 = .ok (.aload_n 0, 1) := by decide +kernel
theorem dX11_expression_29 : decode cX11_expression 29 = .ok (.iconst 1, 1) := by decide +kernel
theorem dX11_expression_30 : decode cX11_expression 30 = .ok (.invokevirtual 308, 3) := by decide +kernel
theorem dX11_expression_33 : decode cX11_expression 33 = .ok (.iconst 1, 1) := by decide +kernel
theorem dX11_expression_34 : decode cX11_expression 34 = .ok (.istore_n 2, 1) := by decide +kernel
theorem dX11_expression_35 : decode cX11_expression 35 = .ok (.iload_n 2, 1) := by decide +kernel
theorem dX11_expression_36 : decode cX11_expression 36 = .ok (.ifCond .eq 317, 3) := by decide +kernel
theorem dX11_expression_39 : decode cX11_expression 39 = .ok (.aload_n 0, 1) := by decide +kernel
theorem dX11_expression_40 : decode cX11_expression 40 = .ok (.invokevirtual 277, 3) := by decide +kernel
theorem dX11_expression_43 : decode cX11_expression 43 = .ok (.ifCond .eq 310, 3) := by decide +kernel
theorem dX11_expression_46 : decode cX11_expression 46 = .ok (.aload_n 0, 1) := by decide +kernel
theorem dX11_expression_47 : decode cX11_expression 47 = .ok (.invokevirtual 287, 3) := by decide +kernel
theorem dX11_expression_50 : decode cX11_expression 50 = .ok (.istore_n 3, 1) := by decide +kernel
theorem dX11_expression_51 : decode cX11_expression 51 = .ok (.iload_n 3, 1) := by decide +kernel
theorem dX11_expression_52 : decode cX11_expression 52 = .ok (.iconst 3, 1) := by decide +kernel
theorem dX11_expression_53 : decode cX11_expression 53 = .ok (.if_icmp .eq 8, 3) := by decide +kernel
theorem dX11_expression_56 : decode cX11_expression 56 = .ok (.iload_n 3, 1) := by decide +kernel
theorem dX11_expression_57 : decode cX11_expression 57 = .ok (.iconst 4, 1) := by decide +kernel
theorem dX11_expression_58 : decode cX11_expression 58 = .ok (.if_icmp .ne 53, 3) := by decide +kernel
theorem dX11_expression_61 : decode cX11_expression 61 = .ok (.aload_n 0, 1) := by decide +kernel
theorem dX11_expression_62 : decode cX11_expression 62 = .ok (.iload_n 3, 1) := by decide +kernel
theorem dX11_expression_63 : decode cX11_expression 63 = .ok (.iconst 3, 1) := by decide +kernel
theorem dX11_expression_64 : decode cX11_expression 64 = .ok (.if_icmp .ne 7, 3) := by decide +kernel
theorem dX11_expression_67 : decode cX11_expression 67 = .ok (.iconst 2, 1) := by decide +kernel
theorem dX11_expression_68 : decode cX11_expression 68 = .ok (.goto 4, 3) := by decide +kernel
theorem dX11_expression_71 : decode cX11_expression 71 = .ok (.iconst 1, 1) := by decide +kernel
theorem dX11_expression_72 : decode cX11_expression 72 = .ok (.invokevirtual 312, 3) := by decide +kernel
theorem dX11_expression_75 : decode cX11_expression 75 = .ok (.aload_n 0, 1) := by decide +kernel
theorem dX11_expression_76 : decode cX11_expression 76 = .ok (.iload_n 3, 1) := by decide +kernel
theorem dX11_expression_77 : decode cX11_expression 77 = .ok (.iconst 3, 1) := by decide +kernel
theorem dX11_expression_78 : decode cX11_expression 78 = .ok (.if_icmp .ne 7, 3) := by decide +kernel
theorem dX11_expression_81 : decode cX11_expression 81 = .ok (.iconst 4, 1) := by decide +kernel
theorem dX11_expression_82 : decode cX11_expression 82 = .ok (.goto 4, 3) := by decide +kernel
theorem dX11_expression_85 : decode cX11_expression 85 = .ok (.iconst 5, 1) := by decide +kernel
theorem dX11_expression_86 : decode cX11_expression 86 = .ok (.invokevirtual 299, 3) := by decide +kernel
theorem dX11_expression_89 : decode cX11_expression 89 = .ok (.aload_n 0, 1) := by decide +kernel
theorem dX11_expression_90 : decode cX11_expression 90 = .ok (.getfield 71, 3) := by decide +kernel
theorem dX11_expression_93 : decode cX11_expression 93 = .ok (.aload_n 0, 1) := by decide +kernel
theorem dX11_expression_94 : decode cX11_expression 94 = .ok (.getfield 293, 3) := by decide +kernel
theorem dX11_expression_97 : decode cX11_expression 97 = .ok (.iconst 0, 1) := by decide +kernel
theorem dX11_expression_98 : decode cX11_expression 98 = .ok (.bastore, 1) := by decide +kernel
theorem dX11_expression_99 : decode cX11_expression 99 = .ok (.aload_n 0, 1) := by decide +kernel
theorem dX11_expression_100 : decode cX11_expression 100 = .ok (.invokevirtual 284, 3) := by decide +kernel
theorem dX11_expression_103 : decode cX11_expression 103 = .ok (.aload_n 0, 1) := by decide +kernel
theorem dX11_expression_104 : decode cX11_expression 104 = .ok (.iconst 1, 1) := by decide +kernel
theorem dX11_expression_105 : decode cX11_expression 105 = .ok (.invokevirtual 308, 3) := by decide +kernel
theorem dX11_expression_108 : decode cX11_expression 108 = .ok (.goto 242, 3) := by decide +kernel
theorem dX11_expression_111 : decode cX11_expression 111 = .ok (.aload_n 0, 1) := by decide +kernel
theorem dX11_expression_112 : decode cX11_expression 112 = .ok (.bipush 60, 2) := by decide +kernel
theorem dX11_expression_114 : decode cX11_expression 114 = .ok (.invokevirtual 296, 3) := by decide +kernel
theorem dX11_expression_117 : decode cX11_expression 117 = .ok (.ifCond .ne 12, 3) := by decide +kernel
theorem dX11_expression_120 : decode cX11_expression 120 = .ok (.aload_n 0, 1) := by decide +kernel
theorem dX11_expression_121 : decode cX11_expression 121 = .ok (.bipush 61, 2) := by decide +kernel
theorem dX11_expression_123 : decode cX11_expression 123 = .ok (.invokevirtual 296, 3) := by decide +kernel
theorem dX11_expression_126 : decode cX11_expression 126 = .ok (.ifCond .eq 62, 3) := by decide +kernel
theorem dX11_expression_129 : decode cX11_expression 129 = .ok (.aload_n 0, 1) := by decide +kernel
theorem dX11_expression_130 : decode cX11_expression 130 = .ok (.getfield 71, 3) := by decide +kernel
theorem dX11_expression_133 : decode cX11_expression 133 = .ok (.aload_n 0, 1) := by decide +kernel
theorem dX11_expression_134 : decode cX11_expression 134 = .ok (.getfield 293, 3) := by decide +kernel
theorem dX11_expression_137 : decode cX11_expression 137 = .ok (.baload, 1) := by decide +kernel
theorem dX11_expression_138 : decode cX11_expression 138 = .ok (.ifCond .ne 50, 3) := by decide +kernel
theorem dX11_expression_141 : decode cX11_expression 141 = .ok (.aload_n 0, 1) := by decide +kernel
theorem dX11_expression_142 : decode cX11_expression 142 = .ok (.iconst 4, 1) := by decide +kernel
theorem dX11_expression_143 : decode cX11_expression 143 = .ok (.invokevirtual 312, 3) := by decide +kernel
theorem dX11_expression_146 : decode cX11_expression 146 = .ok (.aload_n 0, 1) := by decide +kernel
theorem dX11_expression_147 : decode cX11_expression 147 = .ok (.aload_n 0, 1) := by decide +kernel
theorem dX11_expression_148 : decode cX11_expression 148 = .ok (.bipush 60, 2) := by decide +kernel
theorem dX11_expression_150 : decode cX11_expression 150 = .ok (.invokevirtual 296, 3) := by decide +kernel
theorem dX11_expression_153 : decode cX11_expression 153 = .ok (.ifCond .eq 8, 3) := by decide +kernel
theorem dX11_expression_156 : decode cX11_expression 156 = .ok (.bipush 6, 2) := by decide +kernel
theorem dX11_expression_158 : decode cX11_expression 158 = .ok (.goto 5, 3) := by decide +kernel
theorem dX11_expression_161 : decode cX11_expression 161 = .ok (.bipush 7, 2) := by decide +kernel
theorem dX11_expression_163 : decode cX11_expression 163 = .ok (.invokevirtual 299, 3) := by decide +kernel
theorem dX11_expression_166 : decode cX11_expression 166 = .ok (.aload_n 0, 1) := by decide +kernel
theorem dX11_expression_167 : decode cX11_expression 167 = .ok (.getfield 71, 3) := by decide +kernel
theorem dX11_expression_170 : decode cX11_expression 170 = .ok (.aload_n 0, 1) := by decide +kernel
theorem dX11_expression_171 : decode cX11_expression 171 = .ok (.getfield 293, 3) := by decide +kernel
theorem dX11_expression_174 : decode cX11_expression 174 = .ok (.iconst 1, 1) := by decide +kernel
theorem dX11_expression_175 : decode cX11_expression 175 = .ok (.bastore, 1) := by decide +kernel
theorem dX11_expression_176 : decode cX11_expression 176 = .ok (.aload_n 0, 1) := by decide +kernel
theorem dX11_expression_177 : decode cX11_expression 177 = .ok (.invokevirtual 284, 3) := by decide +kernel
theorem dX11_expression_180 : decode cX11_expression 180 = .ok (.aload_n 0, 1) := by decide +kernel
theorem dX11_expression_181 : decode cX11_expression 181 = .ok (.iconst 0, 1) := by decide +kernel
theorem dX11_expression_182 : decode cX11_expression 182 = .ok (.invokevirtual 308, 3) := by decide +kernel
theorem dX11_expression_185 : decode cX11_expression 185 = .ok (.goto 165, 3) := by decide +kernel
theorem dX11_expression_188 : decode cX11_expression 188 = .ok (.aload_n 0, 1) := by decide +kernel
theorem dX11_expression_189 : decode cX11_expression 189 = .ok (.bipush 43, 2) := by decide +kernel
theorem dX11_expression_191 : decode cX11_expression 191 = .ok (.invokevirtual 296, 3) := by decide +kernel
theorem dX11_expression_194 : decode cX11_expression 194 = .ok (.ifCond .ne 12, 3) := by decide +kernel
theorem dX11_expression_197 : decode cX11_expression 197 = .ok (.aload_n 0, 1) := by decide +kernel
theorem dX11_expression_198 : decode cX11_expression 198 = .ok (.bipush 45, 2) := by decide +kernel
theorem dX11_expression_200 : decode cX11_expression 200 = .ok (.invokevirtual 296, 3) := by decide +kernel
theorem dX11_expression_203 : decode cX11_expression 203 = .ok (.ifCond .eq 40, 3) := by decide +kernel
theorem dX11_expression_206 : decode cX11_expression 206 = .ok (.aload_n 0, 1) := by decide +kernel
theorem dX11_expression_207 : decode cX11_expression 207 = .ok (.iconst 5, 1) := by decide +kernel
theorem dX11_expression_208 : decode cX11_expression 208 = .ok (.invokevirtual 312, 3) := by decide +kernel
theorem dX11_expression_211 : decode cX11_expression 211 = .ok (.aload_n 0, 1) := by decide +kernel
theorem dX11_expression_212 : decode cX11_expression 212 = .ok (.aload_n 0, 1) := by decide +kernel
theorem dX11_expression_213 : decode cX11_expression 213 = .ok (.bipush 43, 2) := by decide +kernel
theorem dX11_expression_215 : decode cX11_expression 215 = .ok (.invokevirtual 296, 3) := by decide +kernel
theorem dX11_expression_218 : decode cX11_expression 218 = .ok (.ifCond .eq 8, 3) := by decide +kernel
theorem dX11_expression_221 : decode cX11_expression 221 = .ok (.bipush 8, 2) := by decide +kernel
theorem dX11_expression_223 : decode cX11_expression 223 = .ok (.goto 5, 3) := by decide +kernel
theorem dX11_expression_226 : decode cX11_expression 226 = .ok (.bipush 9, 2) := by decide +kernel
theorem dX11_expression_228 : decode cX11_expression 228 = .ok (.invokevirtual 299, 3) := by decide +kernel
theorem dX11_expression_231 : decode cX11_expression 231 = .ok (.aload_n 0, 1) := by decide +kernel
theorem dX11_expression_232 : decode cX11_expression 232 = .ok (.invokevirtual 284, 3) := by decide +kernel
theorem dX11_expression_235 : decode cX11_expression 235 = .ok (.aload_n 0, 1) := by decide +kernel
theorem dX11_expression_236 : decode cX11_expression 236 = .ok (.iconst 0, 1) := by decide +kernel
theorem dX11_expression_237 : decode cX11_expression 237 = .ok (.invokevirtual 308, 3) := by decide +kernel
theorem dX11_expression_240 : decode cX11_expression 240 = .ok (.goto 110, 3) := by decide +kernel
theorem dX11_expression_243 : decode cX11_expression 243 = .ok (.aload_n 0, 1) := by decide +kernel
theorem dX11_expression_244 : decode cX11_expression 244 = .ok (.bipush 42, 2) := by decide +kernel
theorem dX11_expression_246 : decode cX11_expression 246 = .ok (.invokevirtual 296, 3) := by decide +kernel
theorem dX11_expression_249 : decode cX11_expression 249 = .ok (.ifCond .ne 12, 3) := by decide +kernel
theorem dX11_expression_252 : decode cX11_expression 252 = .ok (.aload_n 0, 1) := by decide +kernel
theorem dX11_expression_253 : decode cX11_expression 253 = .ok (.bipush 47, 2) := by decide +kernel
theorem dX11_expression_255 : decode cX11_expression 255 = .ok (.invokevirtual 296, 3) := by decide +kernel
theorem dX11_expression_258 : decode cX11_expression 258 = .ok (.ifCond .eq 41, 3) := by decide +kernel
theorem dX11_expression_261 : decode cX11_expression 261 = .ok (.aload_n 0, 1) := by decide +kernel
theorem dX11_expression_262 : decode cX11_expression 262 = .ok (.bipush 6, 2) := by decide +kernel
theorem dX11_expression_264 : decode cX11_expression 264 = .ok (.invokevirtual 312, 3) := by decide +kernel
theorem dX11_expression_267 : decode cX11_expression 267 = .ok (.aload_n 0, 1) := by decide +kernel
theorem dX11_expression_268 : decode cX11_expression 268 = .ok (.aload_n 0, 1) := by decide +kernel
theorem dX11_expression_269 : decode cX11_expression 269 = .ok (.bipush 42, 2) := by decide +kernel
theorem dX11_expression_271 : decode cX11_expression 271 = .ok (.invokevirtual 296, 3) := by decide +kernel
theorem dX11_expression_274 : decode cX11_expression 274 = .ok (.ifCond .eq 8, 3) := by decide +kernel
theorem dX11_expression_277 : decode cX11_expression 277 = .ok (.bipush 10, 2) := by decide +kernel
theorem dX11_expression_279 : decode cX11_expression 279 = .ok (.goto 5, 3) := by decide +kernel
theorem dX11_expression_282 : decode cX11_expression 282 = .ok (.bipush 11, 2) := by decide +kernel
theorem dX11_expression_284 : decode cX11_expression 284 = .ok (.invokevirtual 299, 3) := by decide +kernel
theorem dX11_expression_287 : decode cX11_expression 287 = .ok (.aload_n 0, 1) := by decide +kernel
theorem dX11_expression_288 : decode cX11_expression 288 = .ok (.invokevirtual 284, 3) := by decide +kernel
theorem dX11_expression_291 : decode cX11_expression 291 = .ok (.aload_n 0, 1) := by decide +kernel
theorem dX11_expression_292 : decode cX11_expression 292 = .ok (.iconst 0, 1) := by decide +kernel
theorem dX11_expression_293 : decode cX11_expression 293 = .ok (.invokevirtual 308, 3) := by decide +kernel
theorem dX11_expression_296 : decode cX11_expression 296 = .ok (.goto 54, 3) := by decide +kernel
theorem dX11_expression_299 : decode cX11_expression 299 = .ok (.aload_n 0, 1) := by decide +kernel
theorem dX11_expression_300 : decode cX11_expression 300 = .ok (.bipush 41, 2) := by decide +kernel
theorem dX11_expression_302 : decode cX11_expression 302 = .ok (.invokevirtual 296, 3) := by decide +kernel
theorem dX11_expression_305 : decode cX11_expression 305 = .ok (.ifCond .eq 43, 3) := by decide +kernel
theorem dX11_expression_308 : decode cX11_expression 308 = .ok (.aload_n 0, 1) := by decide +kernel
theorem dX11_expression_309 : decode cX11_expression 309 = .ok (.getfield 293, 3) := by decide +kernel
theorem dX11_expression_312 : decode cX11_expression 312 = .ok (.iconst 1, 1) := by decide +kernel
theorem dX11_expression_313 : decode cX11_expression 313 = .ok (.if_icmp .le 35, 3) := by decide +kernel
theorem dX11_expression_316 : decode cX11_expression 316 = .ok (.aload_n 0, 1) := by decide +kernel
theorem dX11_expression_317 : decode cX11_expression 317 = .ok (.iconst 0, 1) := by decide +kernel
theorem dX11_expression_318 : decode cX11_expression 318 = .ok (.invokevirtual 312, 3) := by decide +kernel
theorem dX11_expression_321 : decode cX11_expression 321 = .ok (.aload_n 0, 1) := by decide +kernel
theorem dX11_expression_322 : decode cX11_expression 322 = .ok (.dup, 1) := by decide +kernel
theorem dX11_expression_323 : decode cX11_expression 323 = .ok (.getfield 268, 3) := by decide +kernel
theorem dX11_expression_326 : decode cX11_expression 326 = .ok (.iconst 1, 1) := by decide +kernel
theorem dX11_expression_327 : decode cX11_expression 327 = .ok (.isub, 1) := by decide +kernel
theorem dX11_expression_328 : decode cX11_expression 328 = .ok (.putfield 268, 3) := by decide +kernel
theorem dX11_expression_331 : decode cX11_expression 331 = .ok (.aload_n 0, 1) := by decide +kernel
theorem dX11_expression_332 : decode cX11_expression 332 = .ok (.dup, 1) := by decide +kernel
theorem dX11_expression_333 : decode cX11_expression 333 = .ok (.getfield 293, 3) := by decide +kernel
theorem dX11_expression_336 : decode cX11_expression 336 = .ok (.iconst 1, 1) := by decide +kernel
theorem dX11_expression_337 : decode cX11_expression 337 = .ok (.isub, 1) := by decide +kernel
theorem dX11_expression_338 : decode cX11_expression 338 = .ok (.putfield 293, 3) := by decide +kernel
theorem dX11_expression_341 : decode cX11_expression 341 = .ok (.aload_n 0, 1) := by decide +kernel
theorem dX11_expression_342 : decode cX11_expression 342 = .ok (.invokevirtual 284, 3) := by decide +kernel
theorem dX11_expression_345 : decode cX11_expression 345 = .ok (.goto 5, 3) := by decide +kernel
theorem dX11_expression_348 : decode cX11_expression 348 = .ok (.iconst 0, 1) := by decide +kernel
theorem dX11_expression_349 : decode cX11_expression 349 = .ok (.istore_n 2, 1) := by decide +kernel
theorem dX11_expression_350 : decode cX11_expression 350 = .ok (.goto (-315), 3) := by decide +kernel
theorem dX11_expression_353 : decode cX11_expression 353 = .ok (.aload_n 0, 1) := by decide +kernel
theorem dX11_expression_354 : decode cX11_expression 354 = .ok (.invokevirtual 277, 3) := by decide +kernel
theorem dX11_expression_357 : decode cX11_expression 357 = .ok (.ifCond .eq 16, 3) := by decide +kernel
theorem dX11_expression_360 : decode cX11_expression 360 = .ok (.aload_n 0, 1) := by decide +kernel
theorem dX11_expression_361 : decode cX11_expression 361 = .ok (.getfield 293, 3) := by decide +kernel
theorem dX11_expression_364 : decode cX11_expression 364 = .ok (.iconst 1, 1) := by decide +kernel
theorem dX11_expression_365 : decode cX11_expression 365 = .ok (.if_icmp .le 8, 3) := by decide +kernel
theorem dX11_expression_368 : decode cX11_expression 368 = .ok (.aload_n 0, 1) := by decide +kernel
theorem dX11_expression_369 : decode cX11_expression 369 = .ok (.iconst 1, 1) := by decide +kernel
theorem dX11_expression_370 : decode cX11_expression 370 = .ok (.invokevirtual 281, 3) := by decide +kernel
theorem dX11_expression_373 : decode cX11_expression 373 = .ok (.aload_n 0, 1) := by decide +kernel
theorem dX11_expression_374 : decode cX11_expression 374 = .ok (.iconst 0, 1) := by decide +kernel
theorem dX11_expression_375 : decode cX11_expression 375 = .ok (.invokevirtual 312, 3) := by decide +kernel
theorem dX11_expression_378 : decode cX11_expression 378 = .ok (.aload_n 0, 1) := by decide +kernel
theorem dX11_expression_379 : decode cX11_expression 379 = .ok (.iconst 0, 1) := by decide +kernel
theorem dX11_expression_380 : decode cX11_expression 380 = .ok (.invokevirtual 274, 3) := by decide +kernel
theorem dX11_expression_383 : decode cX11_expression 383 = .ok (.iload_n 1, 1) := by decide +kernel
theorem dX11_expression_384 : decode cX11_expression 384 = .ok (.ireturn, 1) := by decide +kernel
section
variable {p : Program} {l : Launch} {e : Env} {R : Room} {s : State} {m : MethodId} {args : Array Value} {below : List Frame} {meth : Method} {c : Code} {D : va_G} {cA : Nat → ClassId} {z : Nat} {A : Nat → Prop} {T : HR}
theorem wkM_spelled_b73 {I : HI} {J : HJ} {x5 : Int32} {x6 : Int64} {Q : Int64 → Prop} (X : hX p m c s args RX11 cX11_spelled 8) (hr : meth.sig.returnType = (some .long)) (hlk : meth.locks = false) (hR : 0 ≤ R.frames ∧ 0 ≤ R.locals)   : ∀ {ls : Array Slot} {H : Heap} {locs : List Loc}, M_spelled_b73 x5 x6 Q → hW D cA z Ev0 (I, J, T, FM, LM) A s H locs → lv_has ls 8 [(5, .int x5), (6, .long x6)] → W p l e R s m args below meth c H locs 0 0 (MQ below (va_Ql (p0 (I, J, T, FM, LM) Q) (hB D cA z A) A) args s 0 0 A) (F0 m 73 ls []) := by
  have hx := X.1
  have hb := X.2.1
  intro ls H locs h hw hl
  unfold M_spelled_b73 at h
  refine lv_iload hx hb dX11_spelled_73 (lv_at hl 0 rfl) ?_
  refine lv_if_eq (tgt := 91) hx hb dX11_spelled_75 (by decide) (fun hc => ?_) (fun hc => ?_)
  · have h := Eq.mp (if_pos hc) h
    refine lv_lload hx hb dX11_spelled_91 (lv_at hl 1 rfl) ?_
    exact hm_lret X hr hlk hw ⟨rfl, h⟩ dX11_spelled_93
  · have h := Eq.mp (if_neg hc) h
    refine lv_lload hx hb dX11_spelled_78 (lv_at hl 1 rfl) ?_
    refine lv_iconst (v := 5) hx hb dX11_spelled_80 (by decide) ?_
    refine lv_lshl (v := x6 <<< (Int32.toInt64 (5 : Int32) &&& 63)) hx hb dX11_spelled_81 rfl ?_
    refine lv_iload hx hb dX11_spelled_82 (lv_at hl 0 rfl) ?_
    refine lv_bipush (v := 96) hx hb dX11_spelled_84 (by decide) ?_
    refine lv_isub hx hb dX11_spelled_86 ?_
    refine lv_i2l (v := Int32.toInt64 (x5 - 96)) hx hb dX11_spelled_87 rfl ?_
    refine lv_lor hx hb dX11_spelled_88 ?_
    refine lv_lstore (lv' := [(6, _), (5, _)]) hx hb dX11_spelled_89 hl (by decide) rfl (fun ls hl => ?_)
    refine lv_lload hx hb dX11_spelled_91 (lv_at hl 0 rfl) ?_
    exact hm_lret X hr hlk hw ⟨rfl, h⟩ dX11_spelled_93

theorem wkM_spelled_b55 {I : HI} {J : HJ} {x4 : Int32} {x5 : Int32} {x6 : Int64} {Q : Int64 → Prop} (X : hX p m c s args RX11 cX11_spelled 8) (hr : meth.sig.returnType = (some .long)) (hlk : meth.locks = false) (hR : 0 ≤ R.frames ∧ 0 ≤ R.locals)   : ∀ {ls : Array Slot} {H : Heap} {locs : List Loc}, M_spelled_b55 x4 x5 x6 Q → hW D cA z Ev0 (I, J, T, FM, LM) A s H locs → lv_has ls 8 [(4, .int x4), (5, .int x5), (6, .long x6)] → W p l e R s m args below meth c H locs 0 0 (MQ below (va_Ql (p0 (I, J, T, FM, LM) Q) (hB D cA z A) A) args s 0 0 A) (F0 m 55 ls []) := by
  have hx := X.1
  have hb := X.2.1
  intro ls H locs h hw hl
  unfold M_spelled_b55 at h
  refine lv_iload hx hb dX11_spelled_55 (lv_at hl 0 rfl) ?_
  refine lv_if_eq (tgt := 73) hx hb dX11_spelled_57 (by decide) (fun hc => ?_) (fun hc => ?_)
  · have h := Eq.mp (if_pos hc) h
    exact wkM_spelled_b73 X hr hlk hR   h hw (lv_sub hl [1, 2] rfl)
  · have h := Eq.mp (if_neg hc) h
    refine lv_lload hx hb dX11_spelled_60 (lv_at hl 2 rfl) ?_
    refine lv_iconst (v := 5) hx hb dX11_spelled_62 (by decide) ?_
    refine lv_lshl (v := x6 <<< (Int32.toInt64 (5 : Int32) &&& 63)) hx hb dX11_spelled_63 rfl ?_
    refine lv_iload hx hb dX11_spelled_64 (lv_at hl 0 rfl) ?_
    refine lv_bipush (v := 96) hx hb dX11_spelled_66 (by decide) ?_
    refine lv_isub hx hb dX11_spelled_68 ?_
    refine lv_i2l (v := Int32.toInt64 (x4 - 96)) hx hb dX11_spelled_69 rfl ?_
    refine lv_lor hx hb dX11_spelled_70 ?_
    refine lv_lstore (lv' := [(6, _), (4, _), (5, _)]) hx hb dX11_spelled_71 hl (by decide) rfl (fun ls hl => ?_)
    exact wkM_spelled_b73 X hr hlk hR   h hw (lv_sub hl [2, 0] rfl)

theorem wkM_spelled_b39 {I : HI} {J : HJ} {x3 : Int32} {x4 : Int32} {x5 : Int32} {x6 : Int64} {Q : Int64 → Prop} (X : hX p m c s args RX11 cX11_spelled 8) (hr : meth.sig.returnType = (some .long)) (hlk : meth.locks = false) (hR : 0 ≤ R.frames ∧ 0 ≤ R.locals)   : ∀ {ls : Array Slot} {H : Heap} {locs : List Loc}, M_spelled_b39 x3 x4 x5 x6 Q → hW D cA z Ev0 (I, J, T, FM, LM) A s H locs → lv_has ls 8 [(3, .int x3), (4, .int x4), (5, .int x5), (6, .long x6)] → W p l e R s m args below meth c H locs 0 0 (MQ below (va_Ql (p0 (I, J, T, FM, LM) Q) (hB D cA z A) A) args s 0 0 A) (F0 m 39 ls []) := by
  have hx := X.1
  have hb := X.2.1
  intro ls H locs h hw hl
  unfold M_spelled_b39 at h
  refine lv_iload_n hx hb dX11_spelled_39 rfl (lv_at hl 0 rfl) ?_
  refine lv_if_eq (tgt := 55) hx hb dX11_spelled_40 (by decide) (fun hc => ?_) (fun hc => ?_)
  · have h := Eq.mp (if_pos hc) h
    exact wkM_spelled_b55 X hr hlk hR   h hw (lv_sub hl [1, 2, 3] rfl)
  · have h := Eq.mp (if_neg hc) h
    refine lv_lload hx hb dX11_spelled_43 (lv_at hl 3 rfl) ?_
    refine lv_iconst (v := 5) hx hb dX11_spelled_45 (by decide) ?_
    refine lv_lshl (v := x6 <<< (Int32.toInt64 (5 : Int32) &&& 63)) hx hb dX11_spelled_46 rfl ?_
    refine lv_iload_n hx hb dX11_spelled_47 rfl (lv_at hl 0 rfl) ?_
    refine lv_bipush (v := 96) hx hb dX11_spelled_48 (by decide) ?_
    refine lv_isub hx hb dX11_spelled_50 ?_
    refine lv_i2l (v := Int32.toInt64 (x3 - 96)) hx hb dX11_spelled_51 rfl ?_
    refine lv_lor hx hb dX11_spelled_52 ?_
    refine lv_lstore (lv' := [(6, _), (3, _), (4, _), (5, _)]) hx hb dX11_spelled_53 hl (by decide) rfl (fun ls hl => ?_)
    exact wkM_spelled_b55 X hr hlk hR   h hw (lv_sub hl [2, 3, 0] rfl)

theorem wkM_spelled_b23 {I : HI} {J : HJ} {x2 : Int32} {x3 : Int32} {x4 : Int32} {x5 : Int32} {x6 : Int64} {Q : Int64 → Prop} (X : hX p m c s args RX11 cX11_spelled 8) (hr : meth.sig.returnType = (some .long)) (hlk : meth.locks = false) (hR : 0 ≤ R.frames ∧ 0 ≤ R.locals)   : ∀ {ls : Array Slot} {H : Heap} {locs : List Loc}, M_spelled_b23 x2 x3 x4 x5 x6 Q → hW D cA z Ev0 (I, J, T, FM, LM) A s H locs → lv_has ls 8 [(2, .int x2), (3, .int x3), (4, .int x4), (5, .int x5), (6, .long x6)] → W p l e R s m args below meth c H locs 0 0 (MQ below (va_Ql (p0 (I, J, T, FM, LM) Q) (hB D cA z A) A) args s 0 0 A) (F0 m 23 ls []) := by
  have hx := X.1
  have hb := X.2.1
  intro ls H locs h hw hl
  unfold M_spelled_b23 at h
  refine lv_iload_n hx hb dX11_spelled_23 rfl (lv_at hl 0 rfl) ?_
  refine lv_if_eq (tgt := 39) hx hb dX11_spelled_24 (by decide) (fun hc => ?_) (fun hc => ?_)
  · have h := Eq.mp (if_pos hc) h
    exact wkM_spelled_b39 X hr hlk hR   h hw (lv_sub hl [1, 2, 3, 4] rfl)
  · have h := Eq.mp (if_neg hc) h
    refine lv_lload hx hb dX11_spelled_27 (lv_at hl 4 rfl) ?_
    refine lv_iconst (v := 5) hx hb dX11_spelled_29 (by decide) ?_
    refine lv_lshl (v := x6 <<< (Int32.toInt64 (5 : Int32) &&& 63)) hx hb dX11_spelled_30 rfl ?_
    refine lv_iload_n hx hb dX11_spelled_31 rfl (lv_at hl 0 rfl) ?_
    refine lv_bipush (v := 96) hx hb dX11_spelled_32 (by decide) ?_
    refine lv_isub hx hb dX11_spelled_34 ?_
    refine lv_i2l (v := Int32.toInt64 (x2 - 96)) hx hb dX11_spelled_35 rfl ?_
    refine lv_lor hx hb dX11_spelled_36 ?_
    refine lv_lstore (lv' := [(6, _), (2, _), (3, _), (4, _), (5, _)]) hx hb dX11_spelled_37 hl (by decide) rfl (fun ls hl => ?_)
    exact wkM_spelled_b39 X hr hlk hR   h hw (lv_sub hl [2, 3, 4, 0] rfl)

theorem cM_spelled {l : Launch} {D : va_G} {cA : Nat → ClassId} {z sz : Nat} {I : HI} {J : HJ} {x0 : Int32} {x1 : Int32} {x2 : Int32} {x3 : Int32} {x4 : Int32} {x5 : Int32} {Q : Int64 → Prop}  (h : M_spelled  x0 x1 x2 x3 x4 x5 Q) : Met l yX11_spelled (hws0 yX11_spelled cX11_spelled 8 (some .long)) { frames := 0, cells := 0, slots := 0, locals := 0 } (hPc D cA z Ev0 (I, J, T, FM, LM) sz [.int x0, .int x1, .int x2, .int x3, .int x4, .int x5]) (va_Ql (p0 (I, J, T, FM, LM) Q) (hB D cA z (hA z LM sz)) (hA z LM sz)) 0 0 (hA z LM sz) := by
  refine hm_met (I, J, T, FM, LM) [.int x0, .int x1, .int x2, .int x3, .int x4, .int x5] rfl (by decide) (Nat.le_of_ble_eq_true rfl) ?_
  intro p e s m below meth c ls X hr hlk hnm hxt hsz hw hl
  have hl : lv_has ls 8 [(0, .int x0), (1, .int x1), (2, .int x2), (3, .int x3), (4, .int x4), (5, .int x5)] := hl
  have hR : 0 ≤ ({ frames := 0, cells := 0, slots := 0, locals := 0 } : Room).frames ∧ 0 ≤ ({ frames := 0, cells := 0, slots := 0, locals := 0 } : Room).locals := ⟨Nat.le_refl _, Nat.le_refl _⟩
  generalize ({ frames := 0, cells := 0, slots := 0, locals := 0 } : Room) = R at hR ⊢
  clear hsz
  generalize (hA z LM sz) = A at hw ⊢
  have hx := X.1
  have hb := X.2.1
  unfold M_spelled at h
  refine lv_iload_n hx hb dX11_spelled_0 rfl (lv_at hl 0 rfl) ?_
  refine lv_bipush (v := 96) hx hb dX11_spelled_1 (by decide) ?_
  refine lv_isub hx hb dX11_spelled_3 ?_
  refine lv_i2l (v := Int32.toInt64 (x0 - 96)) hx hb dX11_spelled_4 rfl ?_
  refine lv_lstore (lv' := [(6, _), (0, _), (1, _), (2, _), (3, _), (4, _), (5, _)]) hx hb dX11_spelled_5 hl (by decide) rfl (fun ls hl => ?_)
  refine lv_iload_n hx hb dX11_spelled_7 rfl (lv_at hl 2 rfl) ?_
  refine lv_if_eq (tgt := 23) hx hb dX11_spelled_8 (by decide) (fun hc => ?_) (fun hc => ?_)
  · have h := Eq.mp (if_pos hc) h
    exact wkM_spelled_b23 X hr hlk hR   h hw (lv_sub hl [3, 4, 5, 6, 0] rfl)
  · have h := Eq.mp (if_neg hc) h
    refine lv_lload hx hb dX11_spelled_11 (lv_at hl 0 rfl) ?_
    refine lv_iconst (v := 5) hx hb dX11_spelled_13 (by decide) ?_
    refine lv_lshl (v := (Int32.toInt64 (x0 - 96)) <<< (Int32.toInt64 (5 : Int32) &&& 63)) hx hb dX11_spelled_14 rfl ?_
    refine lv_iload_n hx hb dX11_spelled_15 rfl (lv_at hl 2 rfl) ?_
    refine lv_bipush (v := 96) hx hb dX11_spelled_16 (by decide) ?_
    refine lv_isub hx hb dX11_spelled_18 ?_
    refine lv_i2l (v := Int32.toInt64 (x1 - 96)) hx hb dX11_spelled_19 rfl ?_
    refine lv_lor hx hb dX11_spelled_20 ?_
    refine lv_lstore (lv' := [(6, _), (0, _), (1, _), (2, _), (3, _), (4, _), (5, _)]) hx hb dX11_spelled_21 hl (by decide) rfl (fun ls hl => ?_)
    exact wkM_spelled_b23 X hr hlk hR   h hw (lv_sub hl [3, 4, 5, 6, 0] rfl)

theorem cM_letters {l : Launch} {D : va_G} {cA : Nat → ClassId} {z sz : Nat} {I : HI} {J : HJ} {x0 : Int32} {Q : Int64 → Prop}  (h : M_letters  x0 Q) : Met l yX11_letters (hws0 yX11_letters cX11_letters 1 (some .long)) { frames := 1, cells := 0, slots := 0, locals := 27 } (hPc D cA z Ev0 (I, J, T, FM, LM) sz [.int x0]) (va_Ql (p0 (I, J, T, FM, LM) Q) (hB D cA z (hA z LM sz)) (hA z LM sz)) 0 0 (hA z LM sz) := by
  refine hm_met (I, J, T, FM, LM) [.int x0] rfl (by decide) (Nat.le_of_ble_eq_true rfl) ?_
  intro p e s m below meth c ls X hr hlk hnm hxt hsz hw hl
  have hl : lv_has ls 1 [(0, .int x0)] := hl
  have hR : 1 ≤ ({ frames := 1, cells := 0, slots := 0, locals := 27 } : Room).frames ∧ 27 ≤ ({ frames := 1, cells := 0, slots := 0, locals := 27 } : Room).locals := ⟨Nat.le_refl _, Nat.le_refl _⟩
  generalize ({ frames := 1, cells := 0, slots := 0, locals := 27 } : Room) = R at hR ⊢
  clear hsz
  generalize (hA z LM sz) = A at hw ⊢
  have hx := X.1
  have hb := X.2.1
  unfold M_letters at h
  refine lv_iload_n hx hb dX11_letters_0 rfl (lv_at hl 0 rfl) ?_
  by_cases hc0 : x0 = 0
  · have h := Eq.mp (if_pos hc0) h
    refine lv_tableIn (tgt := 64) (off := 63) hx hb dX11_letters_1 (by rw [hc0]; decide) (by rw [hc0]; decide) (by rw [hc0]; decide) (by decide) ?_
    refine lv_bipush (v := 119) hx hb dX11_letters_64 (by decide) ?_
    refine lv_bipush (v := 101) hx hb dX11_letters_66 (by decide) ?_
    refine lv_bipush (v := 97) hx hb dX11_letters_68 (by decide) ?_
    refine lv_bipush (v := 114) hx hb dX11_letters_70 (by decide) ?_
    refine lv_bipush (v := 101) hx hb dX11_letters_72 (by decide) ?_
    refine lv_bipush (v := 114) hx hb dX11_letters_74 (by decide) ?_
    refine hm_calll hw (hm_runS (rest := []) hCl_true X hw (cM_spelled  h) ykM_spelled kw1651 rfl hl.1 rfl rfl rfl (Nat.le_of_ble_eq_true rfl) ⟨Nat.le_trans (Nat.le_of_ble_eq_true rfl) hR.1, Nat.le_trans (Nat.le_of_ble_eq_true rfl) hR.2⟩ ⟨Nat.zero_le _, Nat.zero_le _⟩ dX11_letters_76) (fun r1 u2 H locs hp hw => ?_)
    obtain ⟨rfl, h⟩ := hp
    exact hm_lret X hr hlk hw ⟨rfl, h⟩ dX11_letters_79
  have h := Eq.mp (if_neg hc0) h
  by_cases hc1 : x0 = 1
  · have h := Eq.mp (if_pos hc1) h
    refine lv_tableIn (tgt := 80) (off := 79) hx hb dX11_letters_1 (by rw [hc1]; decide) (by rw [hc1]; decide) (by rw [hc1]; decide) (by decide) ?_
    refine lv_bipush (v := 112) hx hb dX11_letters_80 (by decide) ?_
    refine lv_bipush (v := 97) hx hb dX11_letters_82 (by decide) ?_
    refine lv_bipush (v := 115) hx hb dX11_letters_84 (by decide) ?_
    refine lv_bipush (v := 115) hx hb dX11_letters_86 (by decide) ?_
    refine lv_iconst (v := 0) hx hb dX11_letters_88 (by decide) ?_
    refine lv_iconst (v := 0) hx hb dX11_letters_89 (by decide) ?_
    refine hm_calll hw (hm_runS (rest := []) hCl_true X hw (cM_spelled  h) ykM_spelled kw1651 rfl hl.1 rfl rfl rfl (Nat.le_of_ble_eq_true rfl) ⟨Nat.le_trans (Nat.le_of_ble_eq_true rfl) hR.1, Nat.le_trans (Nat.le_of_ble_eq_true rfl) hR.2⟩ ⟨Nat.zero_le _, Nat.zero_le _⟩ dX11_letters_90) (fun r3 u4 H locs hp hw => ?_)
    obtain ⟨rfl, h⟩ := hp
    exact hm_lret X hr hlk hw ⟨rfl, h⟩ dX11_letters_93
  have h := Eq.mp (if_neg hc1) h
  by_cases hc2 : x0 = 2
  · have h := Eq.mp (if_pos hc2) h
    refine lv_tableIn (tgt := 94) (off := 93) hx hb dX11_letters_1 (by rw [hc2]; decide) (by rw [hc2]; decide) (by rw [hc2]; decide) (by decide) ?_
    refine lv_bipush (v := 103) hx hb dX11_letters_94 (by decide) ?_
    refine lv_bipush (v := 117) hx hb dX11_letters_96 (by decide) ?_
    refine lv_bipush (v := 101) hx hb dX11_letters_98 (by decide) ?_
    refine lv_bipush (v := 115) hx hb dX11_letters_100 (by decide) ?_
    refine lv_bipush (v := 115) hx hb dX11_letters_102 (by decide) ?_
    refine lv_iconst (v := 0) hx hb dX11_letters_104 (by decide) ?_
    refine hm_calll hw (hm_runS (rest := []) hCl_true X hw (cM_spelled  h) ykM_spelled kw1651 rfl hl.1 rfl rfl rfl (Nat.le_of_ble_eq_true rfl) ⟨Nat.le_trans (Nat.le_of_ble_eq_true rfl) hR.1, Nat.le_trans (Nat.le_of_ble_eq_true rfl) hR.2⟩ ⟨Nat.zero_le _, Nat.zero_le _⟩ dX11_letters_105) (fun r5 u6 H locs hp hw => ?_)
    obtain ⟨rfl, h⟩ := hp
    exact hm_lret X hr hlk hw ⟨rfl, h⟩ dX11_letters_108
  have h := Eq.mp (if_neg hc2) h
  by_cases hc3 : x0 = 3
  · have h := Eq.mp (if_pos hc3) h
    refine lv_tableIn (tgt := 109) (off := 108) hx hb dX11_letters_1 (by rw [hc3]; decide) (by rw [hc3]; decide) (by rw [hc3]; decide) (by decide) ?_
    refine lv_bipush (v := 97) hx hb dX11_letters_109 (by decide) ?_
    refine lv_bipush (v := 110) hx hb dX11_letters_111 (by decide) ?_
    refine lv_bipush (v := 100) hx hb dX11_letters_113 (by decide) ?_
    refine lv_iconst (v := 0) hx hb dX11_letters_115 (by decide) ?_
    refine lv_iconst (v := 0) hx hb dX11_letters_116 (by decide) ?_
    refine lv_iconst (v := 0) hx hb dX11_letters_117 (by decide) ?_
    refine hm_calll hw (hm_runS (rest := []) hCl_true X hw (cM_spelled  h) ykM_spelled kw1651 rfl hl.1 rfl rfl rfl (Nat.le_of_ble_eq_true rfl) ⟨Nat.le_trans (Nat.le_of_ble_eq_true rfl) hR.1, Nat.le_trans (Nat.le_of_ble_eq_true rfl) hR.2⟩ ⟨Nat.zero_le _, Nat.zero_le _⟩ dX11_letters_118) (fun r7 u8 H locs hp hw => ?_)
    obtain ⟨rfl, h⟩ := hp
    exact hm_lret X hr hlk hw ⟨rfl, h⟩ dX11_letters_121
  have h := Eq.mp (if_neg hc3) h
  by_cases hc4 : x0 = 4
  · have h := Eq.mp (if_pos hc4) h
    refine lv_tableIn (tgt := 122) (off := 121) hx hb dX11_letters_1 (by rw [hc4]; decide) (by rw [hc4]; decide) (by rw [hc4]; decide) (by decide) ?_
    refine lv_bipush (v := 111) hx hb dX11_letters_122 (by decide) ?_
    refine lv_bipush (v := 114) hx hb dX11_letters_124 (by decide) ?_
    refine lv_iconst (v := 0) hx hb dX11_letters_126 (by decide) ?_
    refine lv_iconst (v := 0) hx hb dX11_letters_127 (by decide) ?_
    refine lv_iconst (v := 0) hx hb dX11_letters_128 (by decide) ?_
    refine lv_iconst (v := 0) hx hb dX11_letters_129 (by decide) ?_
    refine hm_calll hw (hm_runS (rest := []) hCl_true X hw (cM_spelled  h) ykM_spelled kw1651 rfl hl.1 rfl rfl rfl (Nat.le_of_ble_eq_true rfl) ⟨Nat.le_trans (Nat.le_of_ble_eq_true rfl) hR.1, Nat.le_trans (Nat.le_of_ble_eq_true rfl) hR.2⟩ ⟨Nat.zero_le _, Nat.zero_le _⟩ dX11_letters_130) (fun r9 u10 H locs hp hw => ?_)
    obtain ⟨rfl, h⟩ := hp
    exact hm_lret X hr hlk hw ⟨rfl, h⟩ dX11_letters_133
  have h := Eq.mp (if_neg hc4) h
  by_cases hc5 : x0 = 5
  · have h := Eq.mp (if_pos hc5) h
    refine lv_tableIn (tgt := 134) (off := 133) hx hb dX11_letters_1 (by rw [hc5]; decide) (by rw [hc5]; decide) (by rw [hc5]; decide) (by decide) ?_
    refine lv_bipush (v := 110) hx hb dX11_letters_134 (by decide) ?_
    refine lv_bipush (v := 111) hx hb dX11_letters_136 (by decide) ?_
    refine lv_bipush (v := 116) hx hb dX11_letters_138 (by decide) ?_
    refine lv_iconst (v := 0) hx hb dX11_letters_140 (by decide) ?_
    refine lv_iconst (v := 0) hx hb dX11_letters_141 (by decide) ?_
    refine lv_iconst (v := 0) hx hb dX11_letters_142 (by decide) ?_
    refine hm_calll hw (hm_runS (rest := []) hCl_true X hw (cM_spelled  h) ykM_spelled kw1651 rfl hl.1 rfl rfl rfl (Nat.le_of_ble_eq_true rfl) ⟨Nat.le_trans (Nat.le_of_ble_eq_true rfl) hR.1, Nat.le_trans (Nat.le_of_ble_eq_true rfl) hR.2⟩ ⟨Nat.zero_le _, Nat.zero_le _⟩ dX11_letters_143) (fun r11 u12 H locs hp hw => ?_)
    obtain ⟨rfl, h⟩ := hp
    exact hm_lret X hr hlk hw ⟨rfl, h⟩ dX11_letters_146
  have h := Eq.mp (if_neg hc5) h
  by_cases hc6 : x0 = 6
  · have h := Eq.mp (if_pos hc6) h
    refine lv_tableIn (tgt := 147) (off := 146) hx hb dX11_letters_1 (by rw [hc6]; decide) (by rw [hc6]; decide) (by rw [hc6]; decide) (by decide) ?_
    refine lv_bipush (v := 109) hx hb dX11_letters_147 (by decide) ?_
    refine lv_bipush (v := 101) hx hb dX11_letters_149 (by decide) ?_
    refine lv_iconst (v := 0) hx hb dX11_letters_151 (by decide) ?_
    refine lv_iconst (v := 0) hx hb dX11_letters_152 (by decide) ?_
    refine lv_iconst (v := 0) hx hb dX11_letters_153 (by decide) ?_
    refine lv_iconst (v := 0) hx hb dX11_letters_154 (by decide) ?_
    refine hm_calll hw (hm_runS (rest := []) hCl_true X hw (cM_spelled  h) ykM_spelled kw1651 rfl hl.1 rfl rfl rfl (Nat.le_of_ble_eq_true rfl) ⟨Nat.le_trans (Nat.le_of_ble_eq_true rfl) hR.1, Nat.le_trans (Nat.le_of_ble_eq_true rfl) hR.2⟩ ⟨Nat.zero_le _, Nat.zero_le _⟩ dX11_letters_155) (fun r13 u14 H locs hp hw => ?_)
    obtain ⟨rfl, h⟩ := hp
    exact hm_lret X hr hlk hw ⟨rfl, h⟩ dX11_letters_158
  have h := Eq.mp (if_neg hc6) h
  by_cases hc7 : x0 = 7
  · have h := Eq.mp (if_pos hc7) h
    refine lv_tableIn (tgt := 159) (off := 158) hx hb dX11_letters_1 (by rw [hc7]; decide) (by rw [hc7]; decide) (by rw [hc7]; decide) (by decide) ?_
    refine lv_bipush (v := 110) hx hb dX11_letters_159 (by decide) ?_
    refine lv_iconst (v := 0) hx hb dX11_letters_161 (by decide) ?_
    refine lv_iconst (v := 0) hx hb dX11_letters_162 (by decide) ?_
    refine lv_iconst (v := 0) hx hb dX11_letters_163 (by decide) ?_
    refine lv_iconst (v := 0) hx hb dX11_letters_164 (by decide) ?_
    refine lv_iconst (v := 0) hx hb dX11_letters_165 (by decide) ?_
    refine hm_calll hw (hm_runS (rest := []) hCl_true X hw (cM_spelled  h) ykM_spelled kw1651 rfl hl.1 rfl rfl rfl (Nat.le_of_ble_eq_true rfl) ⟨Nat.le_trans (Nat.le_of_ble_eq_true rfl) hR.1, Nat.le_trans (Nat.le_of_ble_eq_true rfl) hR.2⟩ ⟨Nat.zero_le _, Nat.zero_le _⟩ dX11_letters_166) (fun r15 u16 H locs hp hw => ?_)
    obtain ⟨rfl, h⟩ := hp
    exact hm_lret X hr hlk hw ⟨rfl, h⟩ dX11_letters_169
  have h := Eq.mp (if_neg hc7) h
  by_cases hc8 : x0 = 8
  · have h := Eq.mp (if_pos hc8) h
    refine lv_tableIn (tgt := 170) (off := 169) hx hb dX11_letters_1 (by rw [hc8]; decide) (by rw [hc8]; decide) (by rw [hc8]; decide) (by decide) ?_
    refine lv_bipush (v := 113) hx hb dX11_letters_170 (by decide) ?_
    refine lv_iconst (v := 0) hx hb dX11_letters_172 (by decide) ?_
    refine lv_iconst (v := 0) hx hb dX11_letters_173 (by decide) ?_
    refine lv_iconst (v := 0) hx hb dX11_letters_174 (by decide) ?_
    refine lv_iconst (v := 0) hx hb dX11_letters_175 (by decide) ?_
    refine lv_iconst (v := 0) hx hb dX11_letters_176 (by decide) ?_
    refine hm_calll hw (hm_runS (rest := []) hCl_true X hw (cM_spelled  h) ykM_spelled kw1651 rfl hl.1 rfl rfl rfl (Nat.le_of_ble_eq_true rfl) ⟨Nat.le_trans (Nat.le_of_ble_eq_true rfl) hR.1, Nat.le_trans (Nat.le_of_ble_eq_true rfl) hR.2⟩ ⟨Nat.zero_le _, Nat.zero_le _⟩ dX11_letters_177) (fun r17 u18 H locs hp hw => ?_)
    obtain ⟨rfl, h⟩ := hp
    exact hm_lret X hr hlk hw ⟨rfl, h⟩ dX11_letters_180
  have h := Eq.mp (if_neg hc8) h
  by_cases hc9 : x0 = 9
  · have h := Eq.mp (if_pos hc9) h
    refine lv_tableIn (tgt := 181) (off := 180) hx hb dX11_letters_1 (by rw [hc9]; decide) (by rw [hc9]; decide) (by rw [hc9]; decide) (by decide) ?_
    refine lv_bipush (v := 115) hx hb dX11_letters_181 (by decide) ?_
    refine lv_bipush (v := 101) hx hb dX11_letters_183 (by decide) ?_
    refine lv_bipush (v := 101) hx hb dX11_letters_185 (by decide) ?_
    refine lv_bipush (v := 115) hx hb dX11_letters_187 (by decide) ?_
    refine lv_iconst (v := 0) hx hb dX11_letters_189 (by decide) ?_
    refine lv_iconst (v := 0) hx hb dX11_letters_190 (by decide) ?_
    refine hm_calll hw (hm_runS (rest := []) hCl_true X hw (cM_spelled  h) ykM_spelled kw1651 rfl hl.1 rfl rfl rfl (Nat.le_of_ble_eq_true rfl) ⟨Nat.le_trans (Nat.le_of_ble_eq_true rfl) hR.1, Nat.le_trans (Nat.le_of_ble_eq_true rfl) hR.2⟩ ⟨Nat.zero_le _, Nat.zero_le _⟩ dX11_letters_191) (fun r19 u20 H locs hp hw => ?_)
    obtain ⟨rfl, h⟩ := hp
    exact hm_lret X hr hlk hw ⟨rfl, h⟩ dX11_letters_194
  have h := Eq.mp (if_neg hc9) h
  by_cases hc10 : x0 = 10
  · have h := Eq.mp (if_pos hc10) h
    refine lv_tableIn (tgt := 195) (off := 194) hx hb dX11_letters_1 (by rw [hc10]; decide) (by rw [hc10]; decide) (by rw [hc10]; decide) (by decide) ?_
    refine lv_bipush (v := 104) hx hb dX11_letters_195 (by decide) ?_
    refine lv_bipush (v := 101) hx hb dX11_letters_197 (by decide) ?_
    refine lv_bipush (v := 97) hx hb dX11_letters_199 (by decide) ?_
    refine lv_bipush (v := 114) hx hb dX11_letters_201 (by decide) ?_
    refine lv_bipush (v := 115) hx hb dX11_letters_203 (by decide) ?_
    refine lv_iconst (v := 0) hx hb dX11_letters_205 (by decide) ?_
    refine hm_calll hw (hm_runS (rest := []) hCl_true X hw (cM_spelled  h) ykM_spelled kw1651 rfl hl.1 rfl rfl rfl (Nat.le_of_ble_eq_true rfl) ⟨Nat.le_trans (Nat.le_of_ble_eq_true rfl) hR.1, Nat.le_trans (Nat.le_of_ble_eq_true rfl) hR.2⟩ ⟨Nat.zero_le _, Nat.zero_le _⟩ dX11_letters_206) (fun r21 u22 H locs hp hw => ?_)
    obtain ⟨rfl, h⟩ := hp
    exact hm_lret X hr hlk hw ⟨rfl, h⟩ dX11_letters_209
  have h := Eq.mp (if_neg hc10) h
  by_cases hc11 : x0 = 11
  · have h := Eq.mp (if_pos hc11) h
    refine lv_tableIn (tgt := 210) (off := 209) hx hb dX11_letters_1 (by rw [hc11]; decide) (by rw [hc11]; decide) (by rw [hc11]; decide) (by decide) ?_
    refine lv_bipush (v := 115) hx hb dX11_letters_210 (by decide) ?_
    refine lv_bipush (v := 101) hx hb dX11_letters_212 (by decide) ?_
    refine lv_bipush (v := 101) hx hb dX11_letters_214 (by decide) ?_
    refine lv_bipush (v := 110) hx hb dX11_letters_216 (by decide) ?_
    refine lv_iconst (v := 0) hx hb dX11_letters_218 (by decide) ?_
    refine lv_iconst (v := 0) hx hb dX11_letters_219 (by decide) ?_
    refine hm_calll hw (hm_runS (rest := []) hCl_true X hw (cM_spelled  h) ykM_spelled kw1651 rfl hl.1 rfl rfl rfl (Nat.le_of_ble_eq_true rfl) ⟨Nat.le_trans (Nat.le_of_ble_eq_true rfl) hR.1, Nat.le_trans (Nat.le_of_ble_eq_true rfl) hR.2⟩ ⟨Nat.zero_le _, Nat.zero_le _⟩ dX11_letters_220) (fun r23 u24 H locs hp hw => ?_)
    obtain ⟨rfl, h⟩ := hp
    exact hm_lret X hr hlk hw ⟨rfl, h⟩ dX11_letters_223
  have h := Eq.mp (if_neg hc11) h
  refine hm_tabD (tgt := 224) [0, 1, 2, 3, 4, 5, 6, 7, 8, 9, 10, 11] hx hb dX11_letters_1 (by decide) (by simp only [List.forall_mem_cons]; exact ⟨hc0, hc1, hc2, hc3, hc4, hc5, hc6, hc7, hc8, hc9, hc10, hc11, fun _ h => (by cases h)⟩) (by decide) ?_
  refine lv_bipush (v := 104) hx hb dX11_letters_224 (by decide) ?_
  refine lv_bipush (v := 101) hx hb dX11_letters_226 (by decide) ?_
  refine lv_bipush (v := 97) hx hb dX11_letters_228 (by decide) ?_
  refine lv_bipush (v := 114) hx hb dX11_letters_230 (by decide) ?_
  refine lv_bipush (v := 100) hx hb dX11_letters_232 (by decide) ?_
  refine lv_iconst (v := 0) hx hb dX11_letters_234 (by decide) ?_
  refine hm_calll hw (hm_runS (rest := []) hCl_true X hw (cM_spelled  h) ykM_spelled kw1651 rfl hl.1 rfl rfl rfl (Nat.le_of_ble_eq_true rfl) ⟨Nat.le_trans (Nat.le_of_ble_eq_true rfl) hR.1, Nat.le_trans (Nat.le_of_ble_eq_true rfl) hR.2⟩ ⟨Nat.zero_le _, Nat.zero_le _⟩ dX11_letters_235) (fun r25 u26 H locs hp hw => ?_)
  obtain ⟨rfl, h⟩ := hp
  exact hm_lret X hr hlk hw ⟨rfl, h⟩ dX11_letters_238

theorem wkM_knownWord_l21 {I : HI} {J : HJ} {Q : Int32 → Prop} (X : hX p m c s args RX11 cX11_knownWord 2) (hr : meth.sig.returnType = (some .int)) (hlk : meth.locks = false) (hR : 2 ≤ R.frames ∧ 47 ≤ R.locals)   : ∀ (n : Nat) (x1 : Int32) {ls : Array Slot} {H : Heap} {locs : List Loc}, M_knownWord_l21 I J Q n x1 → hW D cA z Ev0 (I, J, T, FM, LM) A s H locs → lv_has ls 2 [(0, .ref (z + 0)), (1, .int x1)] → W p l e R s m args below meth c H locs 0 0 (MQ below (va_Qi (p0 (I, J, T, FM, LM) Q) (hB D cA z A) A) args s 0 0 A) (F0 m 21 ls []) := by
  have hx := X.1
  have hb := X.2.1
  intro n
  induction n with
  | zero => intro x1 ls H locs h; exact False.elim h
  | succ n ih =>
    intro x1 ls H locs h hw hl
    rw [M_knownWord_l21] at h
    refine lv_iload_n hx hb dX11_knownWord_21 rfl (lv_at hl 1 rfl) ?_
    refine lv_bipush (v := 13) hx hb dX11_knownWord_22 (by decide) ?_
    refine lv_icmp_ge (tgt := 47) hx hb dX11_knownWord_24 (by decide) (fun hc => ?_) (fun hc => ?_)
    · have h := Eq.mp (if_pos hc) h
      refine lv_iconst (v := (-1)) hx hb dX11_knownWord_47 (by decide) ?_
      exact hm_iret X hr hlk hw ⟨rfl, h⟩ dX11_knownWord_48
    · have h := Eq.mp (if_neg hc) h
      refine lv_iload_n hx hb dX11_knownWord_27 rfl (lv_at hl 1 rfl) ?_
      refine hm_calll hw (hm_runS (rest := []) hCl_true X hw (cM_letters  h) ykM_letters kw1648 rfl hl.1 rfl rfl rfl (Nat.le_of_ble_eq_true rfl) ⟨Nat.le_trans (Nat.le_of_ble_eq_true rfl) hR.1, Nat.le_trans (Nat.le_of_ble_eq_true rfl) hR.2⟩ ⟨Nat.zero_le _, Nat.zero_le _⟩ dX11_knownWord_28) (fun r1 u2 H locs hp hw => ?_)
      obtain ⟨rfl, h⟩ := hp
      refine lv_aload_n hx hb dX11_knownWord_31 rfl (lv_at hl 0 rfl) ?_
      refine hm_getl X hw lkM_232 LM_0 dX11_knownWord_32 ?_
      refine W.lcmp hx hb dX11_knownWord_35 ?_
      refine lv_if_ne (tgt := 41) hx hb dX11_knownWord_36 (by decide) (fun hc => ?_) (fun hc => ?_)
      · have h := Eq.mp (if_neg hc) h
        refine lv_iinc (v := x1 + 1) (lv' := [(1, _), (0, _)]) hx hb dX11_knownWord_41 hl (k := 1) rfl rfl (by decide) rfl (fun ls hl => ?_)
        refine lv_goto (tgt := 21) hx hb dX11_knownWord_44 (by decide) ?_
        exact ih _ h hw (lv_sub hl [1, 0] rfl)
      · have h := Eq.mp (if_pos hc) h
        refine lv_iload_n hx hb dX11_knownWord_39 rfl (lv_at hl 1 rfl) ?_
        exact hm_iret X hr hlk hw ⟨rfl, h⟩ dX11_knownWord_40

theorem cM_knownWord {l : Launch} {D : va_G} {cA : Nat → ClassId} {z sz : Nat} {I : HI} {J : HJ}  {Q : Int32 → Prop}  (h : M_knownWord I J  Q) : Met l yX11_knownWord (hws0 yX11_knownWord cX11_knownWord 2 (some .int)) { frames := 2, cells := 0, slots := 0, locals := 47 } (hPc D cA z Ev0 (I, J, T, FM, LM) sz [.ref (z + 0)]) (va_Qi (p0 (I, J, T, FM, LM) Q) (hB D cA z (hA z LM sz)) (hA z LM sz)) 0 0 (hA z LM sz) := by
  refine hm_met (I, J, T, FM, LM) [.ref (z + 0)] rfl (by decide) (Nat.le_of_ble_eq_true rfl) ?_
  intro p e s m below meth c ls X hr hlk hnm hxt hsz hw hl
  have hl : lv_has ls 2 [(0, .ref (z + 0))] := hl
  have hR : 2 ≤ ({ frames := 2, cells := 0, slots := 0, locals := 47 } : Room).frames ∧ 47 ≤ ({ frames := 2, cells := 0, slots := 0, locals := 47 } : Room).locals := ⟨Nat.le_refl _, Nat.le_refl _⟩
  generalize ({ frames := 2, cells := 0, slots := 0, locals := 47 } : Room) = R at hR ⊢
  clear hsz
  generalize (hA z LM sz) = A at hw ⊢
  have hx := X.1
  have hb := X.2.1
  unfold M_knownWord at h
  refine lv_aload_n hx hb dX11_knownWord_0 rfl (lv_at hl 0 rfl) ?_
  refine hm_geti X hw lkM_242 LM_0 dX11_knownWord_1 ?_
  refine lv_iconst (v := 1) hx hb dX11_knownWord_4 (by decide) ?_
  refine lv_icmp_ne (tgt := 17) hx hb dX11_knownWord_5 (by decide) (fun hc => ?_) (fun hc => ?_)
  · have h := Eq.mp (if_neg hc) h
    refine lv_iconst (v := (-1)) hx hb dX11_knownWord_17 (by decide) ?_
    exact hm_iret X hr hlk hw ⟨rfl, h⟩ dX11_knownWord_18
  · have h := Eq.mp (if_pos hc) h
    refine lv_aload_n hx hb dX11_knownWord_8 rfl (lv_at hl 0 rfl) ?_
    refine hm_geti X hw lkM_251 LM_0 dX11_knownWord_9 ?_
    refine lv_bipush (v := 6) hx hb dX11_knownWord_12 (by decide) ?_
    refine lv_icmp_le (tgt := 19) hx hb dX11_knownWord_14 (by decide) (fun hc => ?_) (fun hc => ?_)
    · have h := Eq.mp (if_pos hc) h
      refine lv_iconst (v := 0) hx hb dX11_knownWord_19 (by decide) ?_
      refine lv_istore_n (lv' := [(1, _), (0, _)]) hx hb dX11_knownWord_20 rfl hl (by decide) rfl (fun ls hl => ?_)
      obtain ⟨n2, h⟩ := h
      exact wkM_knownWord_l21 X hr hlk hR   n2 _ h hw (lv_sub hl [1, 0] rfl)
    · have h := Eq.mp (if_neg hc) h
      refine lv_iconst (v := (-1)) hx hb dX11_knownWord_17 (by decide) ?_
      exact hm_iret X hr hlk hw ⟨rfl, h⟩ dX11_knownWord_18

theorem cM_wrong {l : Launch} {D : va_G} {cA : Nat → ClassId} {z sz : Nat} {I : HI} {J : HJ} {x1 : Int32} {Q : HI → Prop}  (h : M_wrong I x1 Q) : Met l yX11_wrong (hws0 yX11_wrong cX11_wrong 2 none) { frames := 0, cells := 0, slots := 0, locals := 0 } (hPc D cA z Ev0 (I, J, T, FM, LM) sz [.ref (z + 0), .int x1]) (va_Qv (pIv J T FM LM Q) (hB D cA z (hA z LM sz)) (hA z LM sz)) 0 0 (hA z LM sz) := by
  refine hm_met (I, J, T, FM, LM) [.ref (z + 0), .int x1] rfl (by decide) (Nat.le_of_ble_eq_true rfl) ?_
  intro p e s m below meth c ls X hr hlk hnm hxt hsz hw hl
  have hl : lv_has ls 2 [(0, .ref (z + 0)), (1, .int x1)] := hl
  have hR : 0 ≤ ({ frames := 0, cells := 0, slots := 0, locals := 0 } : Room).frames ∧ 0 ≤ ({ frames := 0, cells := 0, slots := 0, locals := 0 } : Room).locals := ⟨Nat.le_refl _, Nat.le_refl _⟩
  generalize ({ frames := 0, cells := 0, slots := 0, locals := 0 } : Room) = R at hR ⊢
  clear hsz
  generalize (hA z LM sz) = A at hw ⊢
  have hx := X.1
  have hb := X.2.1
  unfold M_wrong at h
  refine lv_aload_n hx hb dX11_wrong_0 rfl (lv_at hl 0 rfl) ?_
  refine hm_geti X hw lkM_262 LM_0 dX11_wrong_1 ?_
  refine lv_if_eq (tgt := 8) hx hb dX11_wrong_4 (by decide) (fun hc => ?_) (fun hc => ?_)
  · have h := Eq.mp (if_pos hc) h
    refine lv_aload_n hx hb dX11_wrong_8 rfl (lv_at hl 0 rfl) ?_
    refine lv_iload_n hx hb dX11_wrong_9 rfl (lv_at hl 1 rfl) ?_
    refine hm_puti X hw lkM_262 LM_0 rfl rfl dX11_wrong_10 (fun H locs hw => ?_)
    refine lv_aload_n hx hb dX11_wrong_13 rfl (lv_at hl 0 rfl) ?_
    refine lv_aload_n hx hb dX11_wrong_14 rfl (lv_at hl 0 rfl) ?_
    refine hm_geti X hw lkM_229 LM_0 dX11_wrong_15 ?_
    refine hm_puti X hw lkM_53 LM_0 rfl rfl dX11_wrong_18 (fun H locs hw => ?_)
    exact hm_vret X hr hlk hw ⟨_, rfl, h⟩ dX11_wrong_21
  · have h := Eq.mp (if_neg hc) h
    exact hm_vret X hr hlk hw ⟨_, rfl, h⟩ dX11_wrong_7

theorem cM_isGood {l : Launch} {D : va_G} {cA : Nat → ClassId} {z sz : Nat} {I : HI} {J : HJ}  {Q : Int32 → Prop}  (h : M_isGood I  Q) : Met l yX11_isGood (hws0 yX11_isGood cX11_isGood 1 (some .boolean)) { frames := 0, cells := 0, slots := 0, locals := 0 } (hPc D cA z Ev0 (I, J, T, FM, LM) sz [.ref (z + 0)]) (va_Qi (p0 (I, J, T, FM, LM) Q) (hB D cA z (hA z LM sz)) (hA z LM sz)) 0 0 (hA z LM sz) := by
  refine hm_met (I, J, T, FM, LM) [.ref (z + 0)] rfl (by decide) (Nat.le_of_ble_eq_true rfl) ?_
  intro p e s m below meth c ls X hr hlk hnm hxt hsz hw hl
  have hl : lv_has ls 1 [(0, .ref (z + 0))] := hl
  have hR : 0 ≤ ({ frames := 0, cells := 0, slots := 0, locals := 0 } : Room).frames ∧ 0 ≤ ({ frames := 0, cells := 0, slots := 0, locals := 0 } : Room).locals := ⟨Nat.le_refl _, Nat.le_refl _⟩
  generalize ({ frames := 0, cells := 0, slots := 0, locals := 0 } : Room) = R at hR ⊢
  clear hsz
  generalize (hA z LM sz) = A at hw ⊢
  have hx := X.1
  have hb := X.2.1
  unfold M_isGood at h
  refine lv_aload_n hx hb dX11_isGood_0 rfl (lv_at hl 0 rfl) ?_
  refine hm_geti X hw lkM_262 LM_0 dX11_isGood_1 ?_
  refine lv_if_ne (tgt := 11) hx hb dX11_isGood_4 (by decide) (fun hc => ?_) (fun hc => ?_)
  · have h := Eq.mp (if_neg hc) h
    refine lv_iconst (v := 0) hx hb dX11_isGood_11 (by decide) ?_
    exact hm_zret X hr hlk hw zb_0 ⟨rfl, h⟩ dX11_isGood_12
  · have h := Eq.mp (if_pos hc) h
    refine lv_iconst (v := 1) hx hb dX11_isGood_7 (by decide) ?_
    refine lv_goto (tgt := 12) hx hb dX11_isGood_8 (by decide) ?_
    exact hm_zret X hr hlk hw zb_1 ⟨rfl, h⟩ dX11_isGood_12

theorem cM_isSign {l : Launch} {D : va_G} {cA : Nat → ClassId} {z sz : Nat} {I : HI} {J : HJ} {x1 : Int32} {Q : Int32 → Prop}  (h : M_isSign I x1 Q) : Met l yX11_isSign (hws0 yX11_isSign cX11_isSign 2 (some .boolean)) { frames := 0, cells := 0, slots := 0, locals := 0 } (hPc D cA z Ev0 (I, J, T, FM, LM) sz [.ref (z + 0), .int x1]) (va_Qi (p0 (I, J, T, FM, LM) Q) (hB D cA z (hA z LM sz)) (hA z LM sz)) 0 0 (hA z LM sz) := by
  refine hm_met (I, J, T, FM, LM) [.ref (z + 0), .int x1] rfl (by decide) (Nat.le_of_ble_eq_true rfl) ?_
  intro p e s m below meth c ls X hr hlk hnm hxt hsz hw hl
  have hl : lv_has ls 2 [(0, .ref (z + 0)), (1, .int x1)] := hl
  have hR : 0 ≤ ({ frames := 0, cells := 0, slots := 0, locals := 0 } : Room).frames ∧ 0 ≤ ({ frames := 0, cells := 0, slots := 0, locals := 0 } : Room).locals := ⟨Nat.le_refl _, Nat.le_refl _⟩
  generalize ({ frames := 0, cells := 0, slots := 0, locals := 0 } : Room) = R at hR ⊢
  clear hsz
  generalize (hA z LM sz) = A at hw ⊢
  have hx := X.1
  have hb := X.2.1
  unfold M_isSign at h
  refine lv_aload_n hx hb dX11_isSign_0 rfl (lv_at hl 0 rfl) ?_
  refine hm_geti X hw lkM_242 LM_0 dX11_isSign_1 ?_
  refine lv_iconst (v := 3) hx hb dX11_isSign_4 (by decide) ?_
  refine lv_icmp_ne (tgt := 20) hx hb dX11_isSign_5 (by decide) (fun hc => ?_) (fun hc => ?_)
  · have h := Eq.mp (if_neg hc) h
    refine lv_iconst (v := 0) hx hb dX11_isSign_20 (by decide) ?_
    exact hm_zret X hr hlk hw zb_0 ⟨rfl, h⟩ dX11_isSign_21
  · have h := Eq.mp (if_pos hc) h
    refine lv_aload_n hx hb dX11_isSign_8 rfl (lv_at hl 0 rfl) ?_
    refine hm_geti X hw lkM_239 LM_0 dX11_isSign_9 ?_
    refine lv_iload_n hx hb dX11_isSign_12 rfl (lv_at hl 1 rfl) ?_
    refine lv_icmp_ne (tgt := 20) hx hb dX11_isSign_13 (by decide) (fun hc => ?_) (fun hc => ?_)
    · have h := Eq.mp (if_neg hc) h
      refine lv_iconst (v := 0) hx hb dX11_isSign_20 (by decide) ?_
      exact hm_zret X hr hlk hw zb_0 ⟨rfl, h⟩ dX11_isSign_21
    · have h := Eq.mp (if_pos hc) h
      refine lv_iconst (v := 1) hx hb dX11_isSign_16 (by decide) ?_
      refine lv_goto (tgt := 21) hx hb dX11_isSign_17 (by decide) ?_
      exact hm_zret X hr hlk hw zb_1 ⟨rfl, h⟩ dX11_isSign_21

theorem cM_puts {l : Launch} {D : va_G} {cA : Nat → ClassId} {z sz : Nat} {I : HI} {J : HJ} {x1 : Int32} {Q : HI → Prop}  (h : M_puts I x1 Q) : Met l yX11_puts (hws0 yX11_puts cX11_puts 2 none) { frames := 0, cells := 0, slots := 0, locals := 0 } (hPc D cA z Ev0 (I, J, T, FM, LM) sz [.ref (z + 0), .int x1]) (va_Qv (pIv J T FM LM Q) (hB D cA z (hA z LM sz)) (hA z LM sz)) 0 0 (hA z LM sz) := by
  refine hm_met (I, J, T, FM, LM) [.ref (z + 0), .int x1] rfl (by decide) (Nat.le_of_ble_eq_true rfl) ?_
  intro p e s m below meth c ls X hr hlk hnm hxt hsz hw hl
  have hl : lv_has ls 2 [(0, .ref (z + 0)), (1, .int x1)] := hl
  have hR : 0 ≤ ({ frames := 0, cells := 0, slots := 0, locals := 0 } : Room).frames ∧ 0 ≤ ({ frames := 0, cells := 0, slots := 0, locals := 0 } : Room).locals := ⟨Nat.le_refl _, Nat.le_refl _⟩
  generalize ({ frames := 0, cells := 0, slots := 0, locals := 0 } : Room) = R at hR ⊢
  clear hsz
  generalize (hA z LM sz) = A at hw ⊢
  have hx := X.1
  have hb := X.2.1
  unfold M_puts at h
  refine lv_aload_n hx hb dX11_puts_0 rfl (lv_at hl 0 rfl) ?_
  refine hm_getr X hw lkM_65 LM_0 (b := 14) rfl dX11_puts_1 ?_
  refine lv_aload_n hx hb dX11_puts_4 rfl (lv_at hl 0 rfl) ?_
  refine hm_geti X hw lkM_265 LM_0 dX11_puts_5 ?_
  refine lv_iload_n hx hb dX11_puts_8 rfl (lv_at hl 1 rfl) ?_
  obtain ⟨hi, h⟩ := h
  refine hm_iast X hw LM_14 hi dX11_puts_9 (fun H locs hw => ?_)
  refine lv_aload_n hx hb dX11_puts_10 rfl (lv_at hl 0 rfl) ?_
  refine lv_dup hx hb dX11_puts_11 rfl ?_
  refine hm_geti X hw lkM_265 LM_0 dX11_puts_12 ?_
  refine lv_iconst (v := 1) hx hb dX11_puts_15 (by decide) ?_
  refine lv_iadd hx hb dX11_puts_16 ?_
  refine hm_puti X hw lkM_265 LM_0 rfl rfl dX11_puts_17 (fun H locs hw => ?_)
  exact hm_vret X hr hlk hw ⟨_, rfl, h⟩ dX11_puts_20

theorem cM_strength {l : Launch} {D : va_G} {cA : Nat → ClassId} {z sz : Nat} {I : HI} {J : HJ} {x0 : Int32} {Q : Int32 → Prop}  (h : M_strength  x0 Q) : Met l yX11_strength (hws0 yX11_strength cX11_strength 1 (some .int)) { frames := 0, cells := 0, slots := 0, locals := 0 } (hPc D cA z Ev0 (I, J, T, FM, LM) sz [.int x0]) (va_Qi (p0 (I, J, T, FM, LM) Q) (hB D cA z (hA z LM sz)) (hA z LM sz)) 0 0 (hA z LM sz) := by
  refine hm_met (I, J, T, FM, LM) [.int x0] rfl (by decide) (Nat.le_of_ble_eq_true rfl) ?_
  intro p e s m below meth c ls X hr hlk hnm hxt hsz hw hl
  have hl : lv_has ls 1 [(0, .int x0)] := hl
  have hR : 0 ≤ ({ frames := 0, cells := 0, slots := 0, locals := 0 } : Room).frames ∧ 0 ≤ ({ frames := 0, cells := 0, slots := 0, locals := 0 } : Room).locals := ⟨Nat.le_refl _, Nat.le_refl _⟩
  generalize ({ frames := 0, cells := 0, slots := 0, locals := 0 } : Room) = R at hR ⊢
  clear hsz
  generalize (hA z LM sz) = A at hw ⊢
  have hx := X.1
  have hb := X.2.1
  unfold M_strength at h
  refine lv_iload_n hx hb dX11_strength_0 rfl (lv_at hl 0 rfl) ?_
  refine lv_bipush (v := 12) hx hb dX11_strength_1 (by decide) ?_
  refine lv_icmp_ne (tgt := 10) hx hb dX11_strength_3 (by decide) (fun hc => ?_) (fun hc => ?_)
  · have h := Eq.mp (if_neg hc) h
    refine lv_iload_n hx hb dX11_strength_10 rfl (lv_at hl 0 rfl) ?_
    refine lv_iconst (v := 5) hx hb dX11_strength_11 (by decide) ?_
    refine lv_icmp_ne (tgt := 19) hx hb dX11_strength_12 (by decide) (fun hc => ?_) (fun hc => ?_)
    · have h := Eq.mp (if_neg hc) h
      refine lv_iload_n hx hb dX11_strength_19 rfl (lv_at hl 0 rfl) ?_
      refine lv_iconst (v := 4) hx hb dX11_strength_20 (by decide) ?_
      refine lv_icmp_ne (tgt := 28) hx hb dX11_strength_21 (by decide) (fun hc => ?_) (fun hc => ?_)
      · have h := Eq.mp (if_neg hc) h
        refine lv_iload_n hx hb dX11_strength_28 rfl (lv_at hl 0 rfl) ?_
        refine lv_iconst (v := 3) hx hb dX11_strength_29 (by decide) ?_
        refine lv_icmp_ne (tgt := 37) hx hb dX11_strength_30 (by decide) (fun hc => ?_) (fun hc => ?_)
        · have h := Eq.mp (if_neg hc) h
          refine lv_iload_n hx hb dX11_strength_37 rfl (lv_at hl 0 rfl) ?_
          refine lv_bipush (v := 6) hx hb dX11_strength_38 (by decide) ?_
          refine lv_icmp_eq (tgt := 49) hx hb dX11_strength_40 (by decide) (fun hc => ?_) (fun hc => ?_)
          · have h := Eq.mp (if_pos hc) h
            refine lv_iconst (v := 4) hx hb dX11_strength_49 (by decide) ?_
            refine lv_goto (tgt := 71) hx hb dX11_strength_50 (by decide) ?_
            exact hm_iret X hr hlk hw ⟨rfl, h⟩ dX11_strength_71
          · have h := Eq.mp (if_neg hc) h
            refine lv_iload_n hx hb dX11_strength_43 rfl (lv_at hl 0 rfl) ?_
            refine lv_bipush (v := 7) hx hb dX11_strength_44 (by decide) ?_
            refine lv_icmp_ne (tgt := 53) hx hb dX11_strength_46 (by decide) (fun hc => ?_) (fun hc => ?_)
            · have h := Eq.mp (if_neg hc) h
              refine lv_iload_n hx hb dX11_strength_53 rfl (lv_at hl 0 rfl) ?_
              refine lv_bipush (v := 8) hx hb dX11_strength_54 (by decide) ?_
              refine lv_icmp_eq (tgt := 65) hx hb dX11_strength_56 (by decide) (fun hc => ?_) (fun hc => ?_)
              · have h := Eq.mp (if_pos hc) h
                refine lv_iconst (v := 5) hx hb dX11_strength_65 (by decide) ?_
                refine lv_goto (tgt := 71) hx hb dX11_strength_66 (by decide) ?_
                exact hm_iret X hr hlk hw ⟨rfl, h⟩ dX11_strength_71
              · have h := Eq.mp (if_neg hc) h
                refine lv_iload_n hx hb dX11_strength_59 rfl (lv_at hl 0 rfl) ?_
                refine lv_bipush (v := 9) hx hb dX11_strength_60 (by decide) ?_
                refine lv_icmp_ne (tgt := 69) hx hb dX11_strength_62 (by decide) (fun hc => ?_) (fun hc => ?_)
                · have h := Eq.mp (if_neg hc) h
                  refine lv_bipush (v := 6) hx hb dX11_strength_69 (by decide) ?_
                  exact hm_iret X hr hlk hw ⟨rfl, h⟩ dX11_strength_71
                · have h := Eq.mp (if_pos hc) h
                  refine lv_iconst (v := 5) hx hb dX11_strength_65 (by decide) ?_
                  refine lv_goto (tgt := 71) hx hb dX11_strength_66 (by decide) ?_
                  exact hm_iret X hr hlk hw ⟨rfl, h⟩ dX11_strength_71
            · have h := Eq.mp (if_pos hc) h
              refine lv_iconst (v := 4) hx hb dX11_strength_49 (by decide) ?_
              refine lv_goto (tgt := 71) hx hb dX11_strength_50 (by decide) ?_
              exact hm_iret X hr hlk hw ⟨rfl, h⟩ dX11_strength_71
        · have h := Eq.mp (if_pos hc) h
          refine lv_iconst (v := 3) hx hb dX11_strength_33 (by decide) ?_
          refine lv_goto (tgt := 71) hx hb dX11_strength_34 (by decide) ?_
          exact hm_iret X hr hlk hw ⟨rfl, h⟩ dX11_strength_71
      · have h := Eq.mp (if_pos hc) h
        refine lv_iconst (v := 2) hx hb dX11_strength_24 (by decide) ?_
        refine lv_goto (tgt := 71) hx hb dX11_strength_25 (by decide) ?_
        exact hm_iret X hr hlk hw ⟨rfl, h⟩ dX11_strength_71
    · have h := Eq.mp (if_pos hc) h
      refine lv_iconst (v := 1) hx hb dX11_strength_15 (by decide) ?_
      refine lv_goto (tgt := 71) hx hb dX11_strength_16 (by decide) ?_
      exact hm_iret X hr hlk hw ⟨rfl, h⟩ dX11_strength_71
  · have h := Eq.mp (if_pos hc) h
    refine lv_iconst (v := 0) hx hb dX11_strength_6 (by decide) ?_
    refine lv_goto (tgt := 71) hx hb dX11_strength_7 (by decide) ?_
    exact hm_iret X hr hlk hw ⟨rfl, h⟩ dX11_strength_71

theorem wkM_drops_l0 {J : HJ} {x1 : Int32} {Q : HI → Prop} (X : hX p m c s args RX11 cX11_drops 2) (hr : meth.sig.returnType = none) (hlk : meth.locks = false) (hR : 1 ≤ R.frames ∧ 21 ≤ R.locals)   : ∀ (n : Nat) (I : HI) {ls : Array Slot} {H : Heap} {locs : List Loc}, M_drops_l0 x1 Q n I → hW D cA z Ev0 (I, J, T, FM, LM) A s H locs → lv_has ls 2 [(0, .ref (z + 0)), (1, .int x1)] → W p l e R s m args below meth c H locs 0 0 (MQ below (va_Qv (pIv J T FM LM Q) (hB D cA z A) A) args s 0 0 A) (F0 m 0 ls []) := by
  have hx := X.1
  have hb := X.2.1
  intro n
  induction n with
  | zero => intro I ls H locs h; exact False.elim h
  | succ n ih =>
    intro I ls H locs h hw hl
    rw [M_drops_l0] at h
    refine lv_aload_n hx hb dX11_drops_0 rfl (lv_at hl 0 rfl) ?_
    refine hm_geti X hw lkM_268 LM_0 dX11_drops_1 ?_
    refine lv_if_le (tgt := 67) hx hb dX11_drops_4 (by decide) (fun hc => ?_) (fun hc => ?_)
    · have h := Eq.mp (if_pos hc) h
      exact hm_vret X hr hlk hw ⟨_, rfl, h⟩ dX11_drops_67
    · have h := Eq.mp (if_neg hc) h
      refine lv_aload_n hx hb dX11_drops_7 rfl (lv_at hl 0 rfl) ?_
      refine hm_getr X hw lkM_68 LM_0 (b := 15) rfl dX11_drops_8 ?_
      refine lv_aload_n hx hb dX11_drops_11 rfl (lv_at hl 0 rfl) ?_
      refine hm_geti X hw lkM_268 LM_0 dX11_drops_12 ?_
      refine lv_iconst (v := 1) hx hb dX11_drops_15 (by decide) ?_
      refine lv_isub hx hb dX11_drops_16 ?_
      obtain ⟨hi, h⟩ := h
      refine hm_iald X hw LM_15 hi dX11_drops_17 ?_
      refine lv_bipush (v := 12) hx hb dX11_drops_18 (by decide) ?_
      refine lv_icmp_eq (tgt := 67) hx hb dX11_drops_20 (by decide) (fun hc => ?_) (fun hc => ?_)
      · have h := Eq.mp (if_pos hc) h
        exact hm_vret X hr hlk hw ⟨_, rfl, h⟩ dX11_drops_67
      · have h := Eq.mp (if_neg hc) h
        refine lv_aload_n hx hb dX11_drops_23 rfl (lv_at hl 0 rfl) ?_
        refine hm_getr X hw lkM_68 LM_0 (b := 15) rfl dX11_drops_24 ?_
        refine lv_aload_n hx hb dX11_drops_27 rfl (lv_at hl 0 rfl) ?_
        refine hm_geti X hw lkM_268 LM_0 dX11_drops_28 ?_
        refine lv_iconst (v := 1) hx hb dX11_drops_31 (by decide) ?_
        refine lv_isub hx hb dX11_drops_32 ?_
        obtain ⟨hi, h⟩ := h
        refine hm_iald X hw LM_15 hi dX11_drops_33 ?_
        refine hm_calli hw (hm_runS (rest := []) hCl_true X hw (cM_strength  h) ykM_strength kw1694 rfl hl.1 rfl rfl rfl (Nat.le_of_ble_eq_true rfl) ⟨Nat.le_trans (Nat.le_of_ble_eq_true rfl) hR.1, Nat.le_trans (Nat.le_of_ble_eq_true rfl) hR.2⟩ ⟨Nat.zero_le _, Nat.zero_le _⟩ dX11_drops_34) (fun r1 u2 H locs hp hw => ?_)
        obtain ⟨rfl, h⟩ := hp
        refine lv_iload_n hx hb dX11_drops_37 rfl (lv_at hl 1 rfl) ?_
        refine lv_icmp_lt (tgt := 67) hx hb dX11_drops_38 (by decide) (fun hc => ?_) (fun hc => ?_)
        · have h := Eq.mp (if_pos hc) h
          exact hm_vret X hr hlk hw ⟨_, rfl, h⟩ dX11_drops_67
        · have h := Eq.mp (if_neg hc) h
          refine lv_aload_n hx hb dX11_drops_41 rfl (lv_at hl 0 rfl) ?_
          refine lv_dup hx hb dX11_drops_42 rfl ?_
          refine hm_geti X hw lkM_268 LM_0 dX11_drops_43 ?_
          refine lv_iconst (v := 1) hx hb dX11_drops_46 (by decide) ?_
          refine lv_isub hx hb dX11_drops_47 ?_
          refine hm_puti X hw lkM_268 LM_0 rfl rfl dX11_drops_48 (fun H locs hw => ?_)
          refine lv_aload_n hx hb dX11_drops_51 rfl (lv_at hl 0 rfl) ?_
          refine lv_aload_n hx hb dX11_drops_52 rfl (lv_at hl 0 rfl) ?_
          refine hm_getr X hw lkM_68 LM_0 (b := 15) rfl dX11_drops_53 ?_
          refine lv_aload_n hx hb dX11_drops_56 rfl (lv_at hl 0 rfl) ?_
          refine hm_geti X hw lkM_268 LM_0 dX11_drops_57 ?_
          obtain ⟨hi, h⟩ := h
          refine hm_iald X hw LM_15 hi dX11_drops_60 ?_
          refine hm_callv hw (hm_runV (rest := []) hCl_true X hw (cM_puts  h) ykM_puts kw1686 rfl LM_0 rfl hl.1 rfl rfl rfl (Nat.le_of_ble_eq_true rfl) ⟨Nat.le_trans (Nat.le_of_ble_eq_true rfl) hR.1, Nat.le_trans (Nat.le_of_ble_eq_true rfl) hR.2⟩ ⟨Nat.zero_le _, Nat.zero_le _⟩ dX11_drops_61) (fun u4 H locs hp hw => ?_)
          obtain ⟨I3, rfl, h⟩ := hp
          refine lv_goto (tgt := 0) hx hb dX11_drops_64 (by decide) ?_
          exact ih _ h hw (lv_sub hl [0, 1] rfl)

theorem cM_drops {l : Launch} {D : va_G} {cA : Nat → ClassId} {z sz : Nat} {I : HI} {J : HJ} {x1 : Int32} {Q : HI → Prop}  (h : M_drops I x1 Q) : Met l yX11_drops (hws0 yX11_drops cX11_drops 2 none) { frames := 1, cells := 0, slots := 0, locals := 21 } (hPc D cA z Ev0 (I, J, T, FM, LM) sz [.ref (z + 0), .int x1]) (va_Qv (pIv J T FM LM Q) (hB D cA z (hA z LM sz)) (hA z LM sz)) 0 0 (hA z LM sz) := by
  refine hm_met (I, J, T, FM, LM) [.ref (z + 0), .int x1] rfl (by decide) (Nat.le_of_ble_eq_true rfl) ?_
  intro p e s m below meth c ls X hr hlk hnm hxt hsz hw hl
  have hl : lv_has ls 2 [(0, .ref (z + 0)), (1, .int x1)] := hl
  have hR : 1 ≤ ({ frames := 1, cells := 0, slots := 0, locals := 21 } : Room).frames ∧ 21 ≤ ({ frames := 1, cells := 0, slots := 0, locals := 21 } : Room).locals := ⟨Nat.le_refl _, Nat.le_refl _⟩
  generalize ({ frames := 1, cells := 0, slots := 0, locals := 21 } : Room) = R at hR ⊢
  clear hsz
  generalize (hA z LM sz) = A at hw ⊢
  have hx := X.1
  have hb := X.2.1
  unfold M_drops at h
  obtain ⟨n2, h⟩ := h
  exact wkM_drops_l0 X hr hlk hR   n2 _ h hw (lv_sub hl [0, 1] rfl)

theorem cM_waitsFor {l : Launch} {D : va_G} {cA : Nat → ClassId} {z sz : Nat} {I : HI} {J : HJ} {x1 : Int32} {Q : HI → Prop}  (h : M_waitsFor I x1 Q) : Met l yX11_waitsFor (hws0 yX11_waitsFor cX11_waitsFor 2 none) { frames := 0, cells := 0, slots := 0, locals := 0 } (hPc D cA z Ev0 (I, J, T, FM, LM) sz [.ref (z + 0), .int x1]) (va_Qv (pIv J T FM LM Q) (hB D cA z (hA z LM sz)) (hA z LM sz)) 0 0 (hA z LM sz) := by
  refine hm_met (I, J, T, FM, LM) [.ref (z + 0), .int x1] rfl (by decide) (Nat.le_of_ble_eq_true rfl) ?_
  intro p e s m below meth c ls X hr hlk hnm hxt hsz hw hl
  have hl : lv_has ls 2 [(0, .ref (z + 0)), (1, .int x1)] := hl
  have hR : 0 ≤ ({ frames := 0, cells := 0, slots := 0, locals := 0 } : Room).frames ∧ 0 ≤ ({ frames := 0, cells := 0, slots := 0, locals := 0 } : Room).locals := ⟨Nat.le_refl _, Nat.le_refl _⟩
  generalize ({ frames := 0, cells := 0, slots := 0, locals := 0 } : Room) = R at hR ⊢
  clear hsz
  generalize (hA z LM sz) = A at hw ⊢
  have hx := X.1
  have hb := X.2.1
  unfold M_waitsFor at h
  refine lv_aload_n hx hb dX11_waitsFor_0 rfl (lv_at hl 0 rfl) ?_
  refine hm_getr X hw lkM_68 LM_0 (b := 15) rfl dX11_waitsFor_1 ?_
  refine lv_aload_n hx hb dX11_waitsFor_4 rfl (lv_at hl 0 rfl) ?_
  refine hm_geti X hw lkM_268 LM_0 dX11_waitsFor_5 ?_
  refine lv_iload_n hx hb dX11_waitsFor_8 rfl (lv_at hl 1 rfl) ?_
  obtain ⟨hi, h⟩ := h
  refine hm_iast X hw LM_15 hi dX11_waitsFor_9 (fun H locs hw => ?_)
  refine lv_aload_n hx hb dX11_waitsFor_10 rfl (lv_at hl 0 rfl) ?_
  refine lv_dup hx hb dX11_waitsFor_11 rfl ?_
  refine hm_geti X hw lkM_268 LM_0 dX11_waitsFor_12 ?_
  refine lv_iconst (v := 1) hx hb dX11_waitsFor_15 (by decide) ?_
  refine lv_iadd hx hb dX11_waitsFor_16 ?_
  refine hm_puti X hw lkM_268 LM_0 rfl rfl dX11_waitsFor_17 (fun H locs hw => ?_)
  exact hm_vret X hr hlk hw ⟨_, rfl, h⟩ dX11_waitsFor_20

theorem wkM_wearer_b57 {I : HI} {J : HJ} {Q : Int32 → HI → HJ → Prop} (X : hX p m c s args RX11 cX11_wearer 2) (hr : meth.sig.returnType = (some .int)) (hlk : meth.locks = false) (hR : 2 ≤ R.frames ∧ 42 ≤ R.locals)   : ∀ {ls : Array Slot} {H : Heap} {locs : List Loc}, M_wearer_b57 I J Q → hW D cA z Ev0 (I, J, T, FM, LM) A s H locs → lv_has ls 2 [(0, .ref (z + 0))] → W p l e R s m args below meth c H locs 0 0 (MQ below (va_Qi (pIJ T FM LM Q) (hB D cA z A) A) args s 0 0 A) (F0 m 57 ls []) := by
  have hx := X.1
  have hb := X.2.1
  intro ls H locs h hw hl
  unfold M_wearer_b57 at h
  refine lv_aload_n hx hb dX11_wearer_57 rfl (lv_at hl 0 rfl) ?_
  refine hm_geti X hw lkM_236 LM_0 dX11_wearer_58 ?_
  refine lv_istore_n (lv' := [(1, _), (0, _)]) hx hb dX11_wearer_61 rfl hl (by decide) rfl (fun ls hl => ?_)
  refine lv_aload_n hx hb dX11_wearer_62 rfl (lv_at hl 1 rfl) ?_
  refine hm_calli hw (hm_runV (rest := []) hCl_true X hw (cM_isGood  h) ykM_isGood kw1636 rfl LM_0 rfl hl.1 rfl rfl rfl (Nat.le_of_ble_eq_true rfl) ⟨Nat.le_trans (Nat.le_of_ble_eq_true rfl) hR.1, Nat.le_trans (Nat.le_of_ble_eq_true rfl) hR.2⟩ ⟨Nat.zero_le _, Nat.zero_le _⟩ dX11_wearer_63) (fun r3 u4 H locs hp hw => ?_)
  obtain ⟨rfl, h⟩ := hp
  refine lv_if_eq (tgt := 73) hx hb dX11_wearer_66 (by decide) (fun hc => ?_) (fun hc => ?_)
  · have h := Eq.mp (if_pos hc) h
    refine lv_iload_n hx hb dX11_wearer_73 rfl (lv_at hl 0 rfl) ?_
    exact hm_iret X hr hlk hw ⟨_, _, rfl, h⟩ dX11_wearer_74
  · have h := Eq.mp (if_neg hc) h
    refine lv_aload_n hx hb dX11_wearer_69 rfl (lv_at hl 1 rfl) ?_
    refine hm_callv hw (hm_runV (rest := []) hCl_true X hw (cM_goes  h) ykM_goes kw1622 rfl LM_0 rfl hl.1 rfl rfl rfl (Nat.le_of_ble_eq_true rfl) ⟨Nat.le_trans (Nat.le_of_ble_eq_true rfl) hR.1, Nat.le_trans (Nat.le_of_ble_eq_true rfl) hR.2⟩ ⟨Nat.zero_le _, Nat.zero_le _⟩ dX11_wearer_70) (fun u7 H locs hp hw => ?_)
    obtain ⟨I5, J6, rfl, h⟩ := hp
    refine lv_iload_n hx hb dX11_wearer_73 rfl (lv_at hl 0 rfl) ?_
    exact hm_iret X hr hlk hw ⟨_, _, rfl, h⟩ dX11_wearer_74

theorem cM_wearer {l : Launch} {D : va_G} {cA : Nat → ClassId} {z sz : Nat} {I : HI} {J : HJ}  {Q : Int32 → HI → HJ → Prop}  (h : M_wearer I J  Q) : Met l yX11_wearer (hws0 yX11_wearer cX11_wearer 2 (some .int)) { frames := 2, cells := 0, slots := 0, locals := 42 } (hPc D cA z Ev0 (I, J, T, FM, LM) sz [.ref (z + 0)]) (va_Qi (pIJ T FM LM Q) (hB D cA z (hA z LM sz)) (hA z LM sz)) 0 0 (hA z LM sz) := by
  refine hm_met (I, J, T, FM, LM) [.ref (z + 0)] rfl (by decide) (Nat.le_of_ble_eq_true rfl) ?_
  intro p e s m below meth c ls X hr hlk hnm hxt hsz hw hl
  have hl : lv_has ls 2 [(0, .ref (z + 0))] := hl
  have hR : 2 ≤ ({ frames := 2, cells := 0, slots := 0, locals := 42 } : Room).frames ∧ 42 ≤ ({ frames := 2, cells := 0, slots := 0, locals := 42 } : Room).locals := ⟨Nat.le_refl _, Nat.le_refl _⟩
  generalize ({ frames := 2, cells := 0, slots := 0, locals := 42 } : Room) = R at hR ⊢
  clear hsz
  generalize (hA z LM sz) = A at hw ⊢
  have hx := X.1
  have hb := X.2.1
  unfold M_wearer at h
  refine lv_aload_n hx hb dX11_wearer_0 rfl (lv_at hl 0 rfl) ?_
  refine hm_calli hw (hm_runV (rest := []) hCl_true X hw (cM_isGood  h) ykM_isGood kw1636 rfl LM_0 rfl hl.1 rfl rfl rfl (Nat.le_of_ble_eq_true rfl) ⟨Nat.le_trans (Nat.le_of_ble_eq_true rfl) hR.1, Nat.le_trans (Nat.le_of_ble_eq_true rfl) hR.2⟩ ⟨Nat.zero_le _, Nat.zero_le _⟩ dX11_wearer_1) (fun r1 u2 H locs hp hw => ?_)
  obtain ⟨rfl, h⟩ := hp
  refine lv_if_ne (tgt := 9) hx hb dX11_wearer_4 (by decide) (fun hc => ?_) (fun hc => ?_)
  · have h := Eq.mp (if_neg hc) h
    refine lv_aload_n hx hb dX11_wearer_9 rfl (lv_at hl 0 rfl) ?_
    refine hm_geti X hw lkM_242 LM_0 dX11_wearer_10 ?_
    refine lv_iconst (v := 2) hx hb dX11_wearer_13 (by decide) ?_
    refine lv_icmp_eq (tgt := 25) hx hb dX11_wearer_14 (by decide) (fun hc => ?_) (fun hc => ?_)
    · have h := Eq.mp (if_pos hc) h
      refine lv_aload_n hx hb dX11_wearer_25 rfl (lv_at hl 0 rfl) ?_
      refine hm_geti X hw lkM_251 LM_0 dX11_wearer_26 ?_
      refine lv_iconst (v := 3) hx hb dX11_wearer_29 (by decide) ?_
      refine lv_icmp_le (tgt := 41) hx hb dX11_wearer_30 (by decide) (fun hc => ?_) (fun hc => ?_)
      · have h := Eq.mp (if_pos hc) h
        refine lv_aload_n hx hb dX11_wearer_41 rfl (lv_at hl 0 rfl) ?_
        refine hm_geti X hw lkM_236 LM_0 dX11_wearer_42 ?_
        refine lv_aload_n hx hb dX11_wearer_45 rfl (lv_at hl 0 rfl) ?_
        refine hm_geti X hw lkM_7 LM_0 dX11_wearer_46 ?_
        refine lv_icmp_lt (tgt := 57) hx hb dX11_wearer_49 (by decide) (fun hc => ?_) (fun hc => ?_)
        · have h := Eq.mp (if_pos hc) h
          exact wkM_wearer_b57 X hr hlk hR   h hw (lv_sub hl [0] rfl)
        · have h := Eq.mp (if_neg hc) h
          refine lv_aload_n hx hb dX11_wearer_52 rfl (lv_at hl 0 rfl) ?_
          refine lv_iconst (v := 4) hx hb dX11_wearer_53 (by decide) ?_
          refine hm_callv hw (hm_runV (rest := []) hCl_true X hw (cM_wrong  h) ykM_wrong kw1654 rfl LM_0 rfl hl.1 rfl rfl rfl (Nat.le_of_ble_eq_true rfl) ⟨Nat.le_trans (Nat.le_of_ble_eq_true rfl) hR.1, Nat.le_trans (Nat.le_of_ble_eq_true rfl) hR.2⟩ ⟨Nat.zero_le _, Nat.zero_le _⟩ dX11_wearer_54) (fun u9 H locs hp hw => ?_)
          obtain ⟨I8, rfl, h⟩ := hp
          exact wkM_wearer_b57 X hr hlk hR   h hw (lv_sub hl [0] rfl)
      · have h := Eq.mp (if_neg hc) h
        refine lv_aload_n hx hb dX11_wearer_33 rfl (lv_at hl 0 rfl) ?_
        refine lv_iconst (v := 2) hx hb dX11_wearer_34 (by decide) ?_
        refine hm_callv hw (hm_runV (rest := []) hCl_true X hw (cM_wrong  h) ykM_wrong kw1654 rfl LM_0 rfl hl.1 rfl rfl rfl (Nat.le_of_ble_eq_true rfl) ⟨Nat.le_trans (Nat.le_of_ble_eq_true rfl) hR.1, Nat.le_trans (Nat.le_of_ble_eq_true rfl) hR.2⟩ ⟨Nat.zero_le _, Nat.zero_le _⟩ dX11_wearer_35) (fun u11 H locs hp hw => ?_)
        obtain ⟨I10, rfl, h⟩ := hp
        refine lv_goto (tgt := 57) hx hb dX11_wearer_38 (by decide) ?_
        exact wkM_wearer_b57 X hr hlk hR   h hw (lv_sub hl [0] rfl)
    · have h := Eq.mp (if_neg hc) h
      refine lv_aload_n hx hb dX11_wearer_17 rfl (lv_at hl 0 rfl) ?_
      refine lv_iconst (v := 1) hx hb dX11_wearer_18 (by decide) ?_
      refine hm_callv hw (hm_runV (rest := []) hCl_true X hw (cM_wrong  h) ykM_wrong kw1654 rfl LM_0 rfl hl.1 rfl rfl rfl (Nat.le_of_ble_eq_true rfl) ⟨Nat.le_trans (Nat.le_of_ble_eq_true rfl) hR.1, Nat.le_trans (Nat.le_of_ble_eq_true rfl) hR.2⟩ ⟨Nat.zero_le _, Nat.zero_le _⟩ dX11_wearer_19) (fun u13 H locs hp hw => ?_)
      obtain ⟨I12, rfl, h⟩ := hp
      refine lv_goto (tgt := 57) hx hb dX11_wearer_22 (by decide) ?_
      exact wkM_wearer_b57 X hr hlk hR   h hw (lv_sub hl [0] rfl)
  · have h := Eq.mp (if_pos hc) h
    refine lv_iconst (v := 0) hx hb dX11_wearer_7 (by decide) ?_
    exact hm_iret X hr hlk hw ⟨_, _, rfl, h⟩ dX11_wearer_8

theorem wkM_part_b118 {I : HI} {J : HJ} {x1 : Int32} {t0 : Int32} {Q : HI → HJ → Prop} (X : hX p m c s args RX11 cX11_part 3) (hr : meth.sig.returnType = none) (hlk : meth.locks = false) (hR : 3 ≤ R.frames ∧ 68 ≤ R.locals)   : ∀ {ls : Array Slot} {H : Heap} {locs : List Loc}, M_part_b118 I J x1 t0 Q → hW D cA z Ev0 (I, J, T, FM, LM) A s H locs → lv_has ls 3 [(0, .ref (z + 0)), (1, .int x1)] → W p l e R s m args below meth c H locs 0 0 (MQ below (va_Qv (pIJv T FM LM Q) (hB D cA z A) A) args s 0 0 A) (F0 m 118 ls [.int t0]) := by
  have hx := X.1
  have hb := X.2.1
  intro ls H locs h hw hl
  unfold M_part_b118 at h
  refine lv_istore_n (lv' := [(2, _), (0, _), (1, _)]) hx hb dX11_part_118 rfl hl (by decide) rfl (fun ls hl => ?_)
  refine lv_aload_n hx hb dX11_part_119 rfl (lv_at hl 1 rfl) ?_
  refine lv_iconst (v := 2) hx hb dX11_part_120 (by decide) ?_
  refine hm_callv hw (hm_runV (rest := []) hCl_true X hw (cM_puts  h) ykM_puts kw1686 rfl LM_0 rfl hl.1 rfl rfl rfl (Nat.le_of_ble_eq_true rfl) ⟨Nat.le_trans (Nat.le_of_ble_eq_true rfl) hR.1, Nat.le_trans (Nat.le_of_ble_eq_true rfl) hR.2⟩ ⟨Nat.zero_le _, Nat.zero_le _⟩ dX11_part_121) (fun u15 H locs hp hw => ?_)
  obtain ⟨I14, rfl, h⟩ := hp
  refine lv_aload_n hx hb dX11_part_124 rfl (lv_at hl 1 rfl) ?_
  refine lv_bipush (v := 16) hx hb dX11_part_125 (by decide) ?_
  refine lv_iload_n hx hb dX11_part_127 rfl (lv_at hl 0 rfl) ?_
  refine lv_imul hx hb dX11_part_128 ?_
  refine lv_iload_n hx hb dX11_part_129 rfl (lv_at hl 2 rfl) ?_
  refine lv_iadd hx hb dX11_part_130 ?_
  refine hm_callv hw (hm_runV (rest := []) hCl_true X hw (cM_puts  h) ykM_puts kw1686 rfl LM_0 rfl hl.1 rfl rfl rfl (Nat.le_of_ble_eq_true rfl) ⟨Nat.le_trans (Nat.le_of_ble_eq_true rfl) hR.1, Nat.le_trans (Nat.le_of_ble_eq_true rfl) hR.2⟩ ⟨Nat.zero_le _, Nat.zero_le _⟩ dX11_part_131) (fun u17 H locs hp hw => ?_)
  obtain ⟨I16, rfl, h⟩ := hp
  exact hm_vret X hr hlk hw ⟨_, _, rfl, h⟩ dX11_part_134

theorem wkM_part_b86 {I : HI} {J : HJ} {x1 : Int32} {Q : HI → HJ → Prop} (X : hX p m c s args RX11 cX11_part 3) (hr : meth.sig.returnType = none) (hlk : meth.locks = false) (hR : 3 ≤ R.frames ∧ 68 ≤ R.locals)   : ∀ {ls : Array Slot} {H : Heap} {locs : List Loc}, M_part_b86 I J x1 Q → hW D cA z Ev0 (I, J, T, FM, LM) A s H locs → lv_has ls 3 [(0, .ref (z + 0)), (1, .int x1)] → W p l e R s m args below meth c H locs 0 0 (MQ below (va_Qv (pIJv T FM LM Q) (hB D cA z A) A) args s 0 0 A) (F0 m 86 ls []) := by
  have hx := X.1
  have hb := X.2.1
  intro ls H locs h hw hl
  unfold M_part_b86 at h
  refine lv_aload_n hx hb dX11_part_86 rfl (lv_at hl 0 rfl) ?_
  refine hm_calli hw (hm_runV (rest := []) hCl_true X hw (cM_isGood  h) ykM_isGood kw1636 rfl LM_0 rfl hl.1 rfl rfl rfl (Nat.le_of_ble_eq_true rfl) ⟨Nat.le_trans (Nat.le_of_ble_eq_true rfl) hR.1, Nat.le_trans (Nat.le_of_ble_eq_true rfl) hR.2⟩ ⟨Nat.zero_le _, Nat.zero_le _⟩ dX11_part_87) (fun r5 u6 H locs hp hw => ?_)
  obtain ⟨rfl, h⟩ := hp
  refine lv_if_ne (tgt := 94) hx hb dX11_part_90 (by decide) (fun hc => ?_) (fun hc => ?_)
  · have h := Eq.mp (if_neg hc) h
    refine lv_aload_n hx hb dX11_part_94 rfl (lv_at hl 0 rfl) ?_
    refine hm_callv hw (hm_runV (rest := []) hCl_true X hw (cM_goes  h) ykM_goes kw1622 rfl LM_0 rfl hl.1 rfl rfl rfl (Nat.le_of_ble_eq_true rfl) ⟨Nat.le_trans (Nat.le_of_ble_eq_true rfl) hR.1, Nat.le_trans (Nat.le_of_ble_eq_true rfl) hR.2⟩ ⟨Nat.zero_le _, Nat.zero_le _⟩ dX11_part_95) (fun u9 H locs hp hw => ?_)
    obtain ⟨I7, J8, rfl, h⟩ := hp
    refine lv_iload_n hx hb dX11_part_98 rfl (lv_at hl 1 rfl) ?_
    refine lv_bipush (v := 9) hx hb dX11_part_99 (by decide) ?_
    refine lv_icmp_eq (tgt := 110) hx hb dX11_part_101 (by decide) (fun hc => ?_) (fun hc => ?_)
    · have h := Eq.mp (if_pos hc) h
      refine lv_aload_n hx hb dX11_part_110 rfl (lv_at hl 0 rfl) ?_
      refine hm_calli hw (hm_runV (rest := []) hCl_true X hw (cM_wearer  h) ykM_wearer kw1658 rfl LM_0 rfl hl.1 rfl rfl rfl (Nat.le_of_ble_eq_true rfl) ⟨Nat.le_trans (Nat.le_of_ble_eq_true rfl) hR.1, Nat.le_trans (Nat.le_of_ble_eq_true rfl) hR.2⟩ ⟨Nat.zero_le _, Nat.zero_le _⟩ dX11_part_111) (fun r10 u13 H locs hp hw => ?_)
      obtain ⟨I11, J12, rfl, h⟩ := hp
      refine lv_goto (tgt := 118) hx hb dX11_part_114 (by decide) ?_
      exact wkM_part_b118 X hr hlk hR   h hw (lv_sub hl [0, 1] rfl)
    · have h := Eq.mp (if_neg hc) h
      refine lv_iload_n hx hb dX11_part_104 rfl (lv_at hl 1 rfl) ?_
      refine lv_bipush (v := 10) hx hb dX11_part_105 (by decide) ?_
      refine lv_icmp_ne (tgt := 117) hx hb dX11_part_107 (by decide) (fun hc => ?_) (fun hc => ?_)
      · have h := Eq.mp (if_neg hc) h
        refine lv_iconst (v := 0) hx hb dX11_part_117 (by decide) ?_
        exact wkM_part_b118 X hr hlk hR   h hw (lv_sub hl [0, 1] rfl)
      · have h := Eq.mp (if_pos hc) h
        refine lv_aload_n hx hb dX11_part_110 rfl (lv_at hl 0 rfl) ?_
        refine hm_calli hw (hm_runV (rest := []) hCl_true X hw (cM_wearer  h) ykM_wearer kw1658 rfl LM_0 rfl hl.1 rfl rfl rfl (Nat.le_of_ble_eq_true rfl) ⟨Nat.le_trans (Nat.le_of_ble_eq_true rfl) hR.1, Nat.le_trans (Nat.le_of_ble_eq_true rfl) hR.2⟩ ⟨Nat.zero_le _, Nat.zero_le _⟩ dX11_part_111) (fun r18 u21 H locs hp hw => ?_)
        obtain ⟨I19, J20, rfl, h⟩ := hp
        refine lv_goto (tgt := 118) hx hb dX11_part_114 (by decide) ?_
        exact wkM_part_b118 X hr hlk hR   h hw (lv_sub hl [0, 1] rfl)
  · have h := Eq.mp (if_pos hc) h
    exact hm_vret X hr hlk hw ⟨_, _, rfl, h⟩ dX11_part_93

theorem wkM_part_b29 {I : HI} {J : HJ} {Q : HI → HJ → Prop} (X : hX p m c s args RX11 cX11_part 3) (hr : meth.sig.returnType = none) (hlk : meth.locks = false) (hR : 3 ≤ R.frames ∧ 68 ≤ R.locals)   : ∀ {ls : Array Slot} {H : Heap} {locs : List Loc}, M_part_b29 I J Q → hW D cA z Ev0 (I, J, T, FM, LM) A s H locs → lv_has ls 3 [(0, .ref (z + 0))] → W p l e R s m args below meth c H locs 0 0 (MQ below (va_Qv (pIJv T FM LM Q) (hB D cA z A) A) args s 0 0 A) (F0 m 29 ls []) := by
  have hx := X.1
  have hb := X.2.1
  intro ls H locs h hw hl
  unfold M_part_b29 at h
  refine lv_aload_n hx hb dX11_part_29 rfl (lv_at hl 0 rfl) ?_
  refine lv_iconst (v := 1) hx hb dX11_part_30 (by decide) ?_
  refine hm_callv hw (hm_runV (rest := []) hCl_true X hw (cM_puts  h) ykM_puts kw1686 rfl LM_0 rfl hl.1 rfl rfl rfl (Nat.le_of_ble_eq_true rfl) ⟨Nat.le_trans (Nat.le_of_ble_eq_true rfl) hR.1, Nat.le_trans (Nat.le_of_ble_eq_true rfl) hR.2⟩ ⟨Nat.zero_le _, Nat.zero_le _⟩ dX11_part_31) (fun u27 H locs hp hw => ?_)
  obtain ⟨I26, rfl, h⟩ := hp
  refine lv_aload_n hx hb dX11_part_34 rfl (lv_at hl 0 rfl) ?_
  refine lv_aload_n hx hb dX11_part_35 rfl (lv_at hl 0 rfl) ?_
  refine hm_geti X hw lkM_236 LM_0 dX11_part_36 ?_
  refine hm_callv hw (hm_runV (rest := []) hCl_true X hw (cM_puts  h) ykM_puts kw1686 rfl LM_0 rfl hl.1 rfl rfl rfl (Nat.le_of_ble_eq_true rfl) ⟨Nat.le_trans (Nat.le_of_ble_eq_true rfl) hR.1, Nat.le_trans (Nat.le_of_ble_eq_true rfl) hR.2⟩ ⟨Nat.zero_le _, Nat.zero_le _⟩ dX11_part_39) (fun u29 H locs hp hw => ?_)
  obtain ⟨I28, rfl, h⟩ := hp
  refine lv_aload_n hx hb dX11_part_42 rfl (lv_at hl 0 rfl) ?_
  refine hm_calli hw (hm_runV (rest := []) hCl_true X hw (cM_isGood  h) ykM_isGood kw1636 rfl LM_0 rfl hl.1 rfl rfl rfl (Nat.le_of_ble_eq_true rfl) ⟨Nat.le_trans (Nat.le_of_ble_eq_true rfl) hR.1, Nat.le_trans (Nat.le_of_ble_eq_true rfl) hR.2⟩ ⟨Nat.zero_le _, Nat.zero_le _⟩ dX11_part_43) (fun r30 u31 H locs hp hw => ?_)
  obtain ⟨rfl, h⟩ := hp
  refine lv_if_eq (tgt := 53) hx hb dX11_part_46 (by decide) (fun hc => ?_) (fun hc => ?_)
  · have h := Eq.mp (if_pos hc) h
    exact hm_vret X hr hlk hw ⟨_, _, rfl, h⟩ dX11_part_53
  · have h := Eq.mp (if_neg hc) h
    refine lv_aload_n hx hb dX11_part_49 rfl (lv_at hl 0 rfl) ?_
    refine hm_callv hw (hm_runV (rest := []) hCl_true X hw (cM_goes  h) ykM_goes kw1622 rfl LM_0 rfl hl.1 rfl rfl rfl (Nat.le_of_ble_eq_true rfl) ⟨Nat.le_trans (Nat.le_of_ble_eq_true rfl) hR.1, Nat.le_trans (Nat.le_of_ble_eq_true rfl) hR.2⟩ ⟨Nat.zero_le _, Nat.zero_le _⟩ dX11_part_50) (fun u34 H locs hp hw => ?_)
    obtain ⟨I32, J33, rfl, h⟩ := hp
    exact hm_vret X hr hlk hw ⟨_, _, rfl, h⟩ dX11_part_53

theorem cM_part {l : Launch} {D : va_G} {cA : Nat → ClassId} {z sz : Nat} {I : HI} {J : HJ}  {Q : HI → HJ → Prop}  (h : M_part I J  Q) : Met l yX11_part (hws0 yX11_part cX11_part 3 none) { frames := 3, cells := 0, slots := 0, locals := 68 } (hPc D cA z Ev0 (I, J, T, FM, LM) sz [.ref (z + 0)]) (va_Qv (pIJv T FM LM Q) (hB D cA z (hA z LM sz)) (hA z LM sz)) 0 0 (hA z LM sz) := by
  refine hm_met (I, J, T, FM, LM) [.ref (z + 0)] rfl (by decide) (Nat.le_of_ble_eq_true rfl) ?_
  intro p e s m below meth c ls X hr hlk hnm hxt hsz hw hl
  have hl : lv_has ls 3 [(0, .ref (z + 0))] := hl
  have hR : 3 ≤ ({ frames := 3, cells := 0, slots := 0, locals := 68 } : Room).frames ∧ 68 ≤ ({ frames := 3, cells := 0, slots := 0, locals := 68 } : Room).locals := ⟨Nat.le_refl _, Nat.le_refl _⟩
  generalize ({ frames := 3, cells := 0, slots := 0, locals := 68 } : Room) = R at hR ⊢
  clear hsz
  generalize (hA z LM sz) = A at hw ⊢
  have hx := X.1
  have hb := X.2.1
  unfold M_part at h
  refine lv_aload_n hx hb dX11_part_0 rfl (lv_at hl 0 rfl) ?_
  refine hm_calli hw (hm_runV (rest := []) hCl_true X hw (cM_isGood  h) ykM_isGood kw1636 rfl LM_0 rfl hl.1 rfl rfl rfl (Nat.le_of_ble_eq_true rfl) ⟨Nat.le_trans (Nat.le_of_ble_eq_true rfl) hR.1, Nat.le_trans (Nat.le_of_ble_eq_true rfl) hR.2⟩ ⟨Nat.zero_le _, Nat.zero_le _⟩ dX11_part_1) (fun r1 u2 H locs hp hw => ?_)
  obtain ⟨rfl, h⟩ := hp
  refine lv_if_ne (tgt := 8) hx hb dX11_part_4 (by decide) (fun hc => ?_) (fun hc => ?_)
  · have h := Eq.mp (if_neg hc) h
    refine lv_aload_n hx hb dX11_part_8 rfl (lv_at hl 0 rfl) ?_
    refine hm_geti X hw lkM_242 LM_0 dX11_part_9 ?_
    refine lv_iconst (v := 2) hx hb dX11_part_12 (by decide) ?_
    refine lv_icmp_ne (tgt := 54) hx hb dX11_part_13 (by decide) (fun hc => ?_) (fun hc => ?_)
    · have h := Eq.mp (if_neg hc) h
      refine lv_aload_n hx hb dX11_part_54 rfl (lv_at hl 0 rfl) ?_
      refine hm_calli hw (hm_runV (rest := []) hCl_true X hw (cM_knownWord  h) ykM_knownWord kw1644 rfl LM_0 rfl hl.1 rfl rfl rfl (Nat.le_of_ble_eq_true rfl) ⟨Nat.le_trans (Nat.le_of_ble_eq_true rfl) hR.1, Nat.le_trans (Nat.le_of_ble_eq_true rfl) hR.2⟩ ⟨Nat.zero_le _, Nat.zero_le _⟩ dX11_part_55) (fun r3 u4 H locs hp hw => ?_)
      obtain ⟨rfl, h⟩ := hp
      refine lv_istore_n (lv' := [(1, _), (0, _)]) hx hb dX11_part_58 rfl hl (by decide) rfl (fun ls hl => ?_)
      refine lv_aload_n hx hb dX11_part_59 rfl (lv_at hl 1 rfl) ?_
      refine hm_geti X hw lkM_242 LM_0 dX11_part_60 ?_
      refine lv_iconst (v := 1) hx hb dX11_part_63 (by decide) ?_
      refine lv_icmp_eq (tgt := 75) hx hb dX11_part_64 (by decide) (fun hc => ?_) (fun hc => ?_)
      · have h := Eq.mp (if_pos hc) h
        refine lv_iload_n hx hb dX11_part_75 rfl (lv_at hl 0 rfl) ?_
        refine lv_bipush (v := 6) hx hb dX11_part_76 (by decide) ?_
        refine lv_icmp_ge (tgt := 86) hx hb dX11_part_78 (by decide) (fun hc => ?_) (fun hc => ?_)
        · have h := Eq.mp (if_pos hc) h
          exact wkM_part_b86 X hr hlk hR   h hw (lv_sub hl [1, 0] rfl)
        · have h := Eq.mp (if_neg hc) h
          refine lv_aload_n hx hb dX11_part_81 rfl (lv_at hl 1 rfl) ?_
          refine lv_iconst (v := 3) hx hb dX11_part_82 (by decide) ?_
          refine hm_callv hw (hm_runV (rest := []) hCl_true X hw (cM_wrong  h) ykM_wrong kw1654 rfl LM_0 rfl hl.1 rfl rfl rfl (Nat.le_of_ble_eq_true rfl) ⟨Nat.le_trans (Nat.le_of_ble_eq_true rfl) hR.1, Nat.le_trans (Nat.le_of_ble_eq_true rfl) hR.2⟩ ⟨Nat.zero_le _, Nat.zero_le _⟩ dX11_part_83) (fun u23 H locs hp hw => ?_)
          obtain ⟨I22, rfl, h⟩ := hp
          exact wkM_part_b86 X hr hlk hR   h hw (lv_sub hl [1, 0] rfl)
      · have h := Eq.mp (if_neg hc) h
        refine lv_aload_n hx hb dX11_part_67 rfl (lv_at hl 1 rfl) ?_
        refine lv_iconst (v := 1) hx hb dX11_part_68 (by decide) ?_
        refine hm_callv hw (hm_runV (rest := []) hCl_true X hw (cM_wrong  h) ykM_wrong kw1654 rfl LM_0 rfl hl.1 rfl rfl rfl (Nat.le_of_ble_eq_true rfl) ⟨Nat.le_trans (Nat.le_of_ble_eq_true rfl) hR.1, Nat.le_trans (Nat.le_of_ble_eq_true rfl) hR.2⟩ ⟨Nat.zero_le _, Nat.zero_le _⟩ dX11_part_69) (fun u25 H locs hp hw => ?_)
        obtain ⟨I24, rfl, h⟩ := hp
        refine lv_goto (tgt := 86) hx hb dX11_part_72 (by decide) ?_
        exact wkM_part_b86 X hr hlk hR   h hw (lv_sub hl [1, 0] rfl)
    · have h := Eq.mp (if_pos hc) h
      refine lv_aload_n hx hb dX11_part_16 rfl (lv_at hl 0 rfl) ?_
      refine hm_geti X hw lkM_251 LM_0 dX11_part_17 ?_
      refine lv_iconst (v := 3) hx hb dX11_part_20 (by decide) ?_
      refine lv_icmp_le (tgt := 29) hx hb dX11_part_21 (by decide) (fun hc => ?_) (fun hc => ?_)
      · have h := Eq.mp (if_pos hc) h
        exact wkM_part_b29 X hr hlk hR   h hw (lv_sub hl [0] rfl)
      · have h := Eq.mp (if_neg hc) h
        refine lv_aload_n hx hb dX11_part_24 rfl (lv_at hl 0 rfl) ?_
        refine lv_iconst (v := 2) hx hb dX11_part_25 (by decide) ?_
        refine hm_callv hw (hm_runV (rest := []) hCl_true X hw (cM_wrong  h) ykM_wrong kw1654 rfl LM_0 rfl hl.1 rfl rfl rfl (Nat.le_of_ble_eq_true rfl) ⟨Nat.le_trans (Nat.le_of_ble_eq_true rfl) hR.1, Nat.le_trans (Nat.le_of_ble_eq_true rfl) hR.2⟩ ⟨Nat.zero_le _, Nat.zero_le _⟩ dX11_part_26) (fun u36 H locs hp hw => ?_)
        obtain ⟨I35, rfl, h⟩ := hp
        exact wkM_part_b29 X hr hlk hR   h hw (lv_sub hl [0] rfl)
  · have h := Eq.mp (if_pos hc) h
    exact hm_vret X hr hlk hw ⟨_, _, rfl, h⟩ dX11_part_7

theorem cM_begins {l : Launch} {D : va_G} {cA : Nat → ClassId} {z sz : Nat} {I : HI} {J : HJ}  {Q : HI → Prop}  (h : M_begins I  Q) : Met l yX11_begins (hws0 yX11_begins cX11_begins 1 none) { frames := 1, cells := 0, slots := 0, locals := 21 } (hPc D cA z Ev0 (I, J, T, FM, LM) sz [.ref (z + 0)]) (va_Qv (pIv J T FM LM Q) (hB D cA z (hA z LM sz)) (hA z LM sz)) 0 0 (hA z LM sz) := by
  refine hm_met (I, J, T, FM, LM) [.ref (z + 0)] rfl (by decide) (Nat.le_of_ble_eq_true rfl) ?_
  intro p e s m below meth c ls X hr hlk hnm hxt hsz hw hl
  have hl : lv_has ls 1 [(0, .ref (z + 0))] := hl
  have hR : 1 ≤ ({ frames := 1, cells := 0, slots := 0, locals := 21 } : Room).frames ∧ 21 ≤ ({ frames := 1, cells := 0, slots := 0, locals := 21 } : Room).locals := ⟨Nat.le_refl _, Nat.le_refl _⟩
  generalize ({ frames := 1, cells := 0, slots := 0, locals := 21 } : Room) = R at hR ⊢
  clear hsz
  generalize (hA z LM sz) = A at hw ⊢
  have hx := X.1
  have hb := X.2.1
  unfold M_begins at h
  refine lv_aload_n hx hb dX11_begins_0 rfl (lv_at hl 0 rfl) ?_
  refine hm_geti X hw lkM_293 LM_0 dX11_begins_1 ?_
  refine lv_bipush (v := 6) hx hb dX11_begins_4 (by decide) ?_
  refine lv_icmp_ge (tgt := 30) hx hb dX11_begins_6 (by decide) (fun hc => ?_) (fun hc => ?_)
  · have h := Eq.mp (if_pos hc) h
    refine lv_aload_n hx hb dX11_begins_30 rfl (lv_at hl 0 rfl) ?_
    refine lv_aload_n hx hb dX11_begins_31 rfl (lv_at hl 0 rfl) ?_
    refine hm_geti X hw lkM_242 LM_0 dX11_begins_32 ?_
    refine lv_iconst (v := 2) hx hb dX11_begins_35 (by decide) ?_
    refine lv_icmp_eq (tgt := 56) hx hb dX11_begins_36 (by decide) (fun hc => ?_) (fun hc => ?_)
    · have h := Eq.mp (if_pos hc) h
      refine lv_iconst (v := 2) hx hb dX11_begins_56 (by decide) ?_
      refine lv_goto (tgt := 61) hx hb dX11_begins_57 (by decide) ?_
      refine hm_callv hw (hm_runV (rest := []) hCl_true X hw (cM_wrong  h) ykM_wrong kw1654 rfl LM_0 rfl hl.1 rfl rfl rfl (Nat.le_of_ble_eq_true rfl) ⟨Nat.le_trans (Nat.le_of_ble_eq_true rfl) hR.1, Nat.le_trans (Nat.le_of_ble_eq_true rfl) hR.2⟩ ⟨Nat.zero_le _, Nat.zero_le _⟩ dX11_begins_61) (fun u2 H locs hp hw => ?_)
      obtain ⟨I1, rfl, h⟩ := hp
      exact hm_vret X hr hlk hw ⟨_, rfl, h⟩ dX11_begins_64
    · have h := Eq.mp (if_neg hc) h
      refine lv_aload_n hx hb dX11_begins_39 rfl (lv_at hl 0 rfl) ?_
      refine hm_geti X hw lkM_242 LM_0 dX11_begins_40 ?_
      refine lv_iconst (v := 1) hx hb dX11_begins_43 (by decide) ?_
      refine lv_icmp_eq (tgt := 56) hx hb dX11_begins_44 (by decide) (fun hc => ?_) (fun hc => ?_)
      · have h := Eq.mp (if_pos hc) h
        refine lv_iconst (v := 2) hx hb dX11_begins_56 (by decide) ?_
        refine lv_goto (tgt := 61) hx hb dX11_begins_57 (by decide) ?_
        refine hm_callv hw (hm_runV (rest := []) hCl_true X hw (cM_wrong  h) ykM_wrong kw1654 rfl LM_0 rfl hl.1 rfl rfl rfl (Nat.le_of_ble_eq_true rfl) ⟨Nat.le_trans (Nat.le_of_ble_eq_true rfl) hR.1, Nat.le_trans (Nat.le_of_ble_eq_true rfl) hR.2⟩ ⟨Nat.zero_le _, Nat.zero_le _⟩ dX11_begins_61) (fun u4 H locs hp hw => ?_)
        obtain ⟨I3, rfl, h⟩ := hp
        exact hm_vret X hr hlk hw ⟨_, rfl, h⟩ dX11_begins_64
      · have h := Eq.mp (if_neg hc) h
        refine lv_aload_n hx hb dX11_begins_47 rfl (lv_at hl 0 rfl) ?_
        refine lv_bipush (v := 40) hx hb dX11_begins_48 (by decide) ?_
        refine hm_calli hw (hm_runV (rest := [_]) hCl_true X hw (cM_isSign  h) ykM_isSign kw1670 rfl LM_0 rfl hl.1 rfl rfl rfl (Nat.le_of_ble_eq_true rfl) ⟨Nat.le_trans (Nat.le_of_ble_eq_true rfl) hR.1, Nat.le_trans (Nat.le_of_ble_eq_true rfl) hR.2⟩ ⟨Nat.zero_le _, Nat.zero_le _⟩ dX11_begins_50) (fun r5 u6 H locs hp hw => ?_)
        obtain ⟨rfl, h⟩ := hp
        refine lv_if_eq (tgt := 60) hx hb dX11_begins_53 (by decide) (fun hc => ?_) (fun hc => ?_)
        · have h := Eq.mp (if_pos hc) h
          refine lv_iconst (v := 1) hx hb dX11_begins_60 (by decide) ?_
          refine hm_callv hw (hm_runV (rest := []) hCl_true X hw (cM_wrong  h) ykM_wrong kw1654 rfl LM_0 rfl hl.1 rfl rfl rfl (Nat.le_of_ble_eq_true rfl) ⟨Nat.le_trans (Nat.le_of_ble_eq_true rfl) hR.1, Nat.le_trans (Nat.le_of_ble_eq_true rfl) hR.2⟩ ⟨Nat.zero_le _, Nat.zero_le _⟩ dX11_begins_61) (fun u8 H locs hp hw => ?_)
          obtain ⟨I7, rfl, h⟩ := hp
          exact hm_vret X hr hlk hw ⟨_, rfl, h⟩ dX11_begins_64
        · have h := Eq.mp (if_neg hc) h
          refine lv_iconst (v := 2) hx hb dX11_begins_56 (by decide) ?_
          refine lv_goto (tgt := 61) hx hb dX11_begins_57 (by decide) ?_
          refine hm_callv hw (hm_runV (rest := []) hCl_true X hw (cM_wrong  h) ykM_wrong kw1654 rfl LM_0 rfl hl.1 rfl rfl rfl (Nat.le_of_ble_eq_true rfl) ⟨Nat.le_trans (Nat.le_of_ble_eq_true rfl) hR.1, Nat.le_trans (Nat.le_of_ble_eq_true rfl) hR.2⟩ ⟨Nat.zero_le _, Nat.zero_le _⟩ dX11_begins_61) (fun u10 H locs hp hw => ?_)
          obtain ⟨I9, rfl, h⟩ := hp
          exact hm_vret X hr hlk hw ⟨_, rfl, h⟩ dX11_begins_64
  · have h := Eq.mp (if_neg hc) h
    refine lv_aload_n hx hb dX11_begins_9 rfl (lv_at hl 0 rfl) ?_
    refine lv_dup hx hb dX11_begins_10 rfl ?_
    refine hm_geti X hw lkM_293 LM_0 dX11_begins_11 ?_
    refine lv_iconst (v := 1) hx hb dX11_begins_14 (by decide) ?_
    refine lv_iadd hx hb dX11_begins_15 ?_
    refine hm_puti X hw lkM_293 LM_0 rfl rfl dX11_begins_16 (fun H locs hw => ?_)
    refine lv_aload_n hx hb dX11_begins_19 rfl (lv_at hl 0 rfl) ?_
    refine hm_getr X hw lkM_71 LM_0 (b := 16) rfl dX11_begins_20 ?_
    refine lv_aload_n hx hb dX11_begins_23 rfl (lv_at hl 0 rfl) ?_
    refine hm_geti X hw lkM_293 LM_0 dX11_begins_24 ?_
    refine lv_iconst (v := 0) hx hb dX11_begins_27 (by decide) ?_
    obtain ⟨hi, h⟩ := h
    refine hm_zast X hw LM_16 hi dX11_begins_28 (fun H locs hw => ?_)
    exact hm_vret X hr hlk hw ⟨_, rfl, h⟩ dX11_begins_29

theorem wkM_operand_b95 {I : HI} {J : HJ} {x2 : Int32} {t0 : Int32} {K4 : HI → HJ → Int32 → Int32 → Prop} {Q : HI → HJ → Prop} (X : hX p m c s args RX11 cX11_operand 5) (hr : meth.sig.returnType = none) (hlk : meth.locks = false) (hR : 4 ≤ R.frames ∧ 90 ≤ R.locals)  (hK4 : ∀ (I : HI) (J : HJ) (x2 : Int32) (x3 : Int32) {ls : Array Slot} {H : Heap} {locs : List Loc}, K4 I J x2 x3 → hW D cA z Ev0 (I, J, T, FM, LM) A s H locs → lv_has ls 5 [(0, .ref (z + 0)), (2, .int x2), (3, .int x3)] → W p l e R s m args below meth c H locs 0 0 (MQ below (va_Qv (pIJv T FM LM Q) (hB D cA z A) A) args s 0 0 A) (F0 m 4 ls [])) : ∀ {ls : Array Slot} {H : Heap} {locs : List Loc}, M_operand_b95 I J x2 t0 K4 Q → hW D cA z Ev0 (I, J, T, FM, LM) A s H locs → lv_has ls 5 [(0, .ref (z + 0)), (2, .int x2)] → W p l e R s m args below meth c H locs 0 0 (MQ below (va_Qv (pIJv T FM LM Q) (hB D cA z A) A) args s 0 0 A) (F0 m 95 ls [.int t0]) := by
  have hx := X.1
  have hb := X.2.1
  intro ls H locs h hw hl
  unfold M_operand_b95 at h
  refine lv_istore_n (lv' := [(3, _), (0, _), (2, _)]) hx hb dX11_operand_95 rfl hl (by decide) rfl (fun ls hl => ?_)
  refine lv_iload_n hx hb dX11_operand_96 rfl (lv_at hl 0 rfl) ?_
  refine lv_if_eq (tgt := 116) hx hb dX11_operand_97 (by decide) (fun hc => ?_) (fun hc => ?_)
  · have h := Eq.mp (if_pos hc) h
    refine lv_goto (tgt := 4) hx hb dX11_operand_116 (by decide) ?_
    exact hK4 _ _ _ _ h hw (lv_sub hl [1, 2, 0] rfl)
  · have h := Eq.mp (if_neg hc) h
    refine lv_aload_n hx hb dX11_operand_100 rfl (lv_at hl 1 rfl) ?_
    refine lv_bipush (v := 12) hx hb dX11_operand_101 (by decide) ?_
    refine hm_callv hw (hm_runV (rest := []) hCl_true X hw (cM_waitsFor  h) ykM_waitsFor kw1678 rfl LM_0 rfl hl.1 rfl rfl rfl (Nat.le_of_ble_eq_true rfl) ⟨Nat.le_trans (Nat.le_of_ble_eq_true rfl) hR.1, Nat.le_trans (Nat.le_of_ble_eq_true rfl) hR.2⟩ ⟨Nat.zero_le _, Nat.zero_le _⟩ dX11_operand_103) (fun u14 H locs hp hw => ?_)
    obtain ⟨I13, rfl, h⟩ := hp
    refine lv_aload_n hx hb dX11_operand_106 rfl (lv_at hl 1 rfl) ?_
    refine hm_callv hw (hm_runV (rest := []) hCl_true X hw (cM_goes  h) ykM_goes kw1622 rfl LM_0 rfl hl.1 rfl rfl rfl (Nat.le_of_ble_eq_true rfl) ⟨Nat.le_trans (Nat.le_of_ble_eq_true rfl) hR.1, Nat.le_trans (Nat.le_of_ble_eq_true rfl) hR.2⟩ ⟨Nat.zero_le _, Nat.zero_le _⟩ dX11_operand_107) (fun u17 H locs hp hw => ?_)
    obtain ⟨I15, J16, rfl, h⟩ := hp
    refine lv_aload_n hx hb dX11_operand_110 rfl (lv_at hl 1 rfl) ?_
    refine hm_callv hw (hm_runV (rest := []) hCl_true X hw (cM_begins  h) ykM_begins kw1666 rfl LM_0 rfl hl.1 rfl rfl rfl (Nat.le_of_ble_eq_true rfl) ⟨Nat.le_trans (Nat.le_of_ble_eq_true rfl) hR.1, Nat.le_trans (Nat.le_of_ble_eq_true rfl) hR.2⟩ ⟨Nat.zero_le _, Nat.zero_le _⟩ dX11_operand_111) (fun u19 H locs hp hw => ?_)
    obtain ⟨I18, rfl, h⟩ := hp
    refine lv_iconst (v := 1) hx hb dX11_operand_114 (by decide) ?_
    refine lv_istore_n (lv' := [(2, _), (3, _), (0, _)]) hx hb dX11_operand_115 rfl hl (by decide) rfl (fun ls hl => ?_)
    refine lv_goto (tgt := 4) hx hb dX11_operand_116 (by decide) ?_
    exact hK4 _ _ _ _ h hw (lv_sub hl [2, 0, 1] rfl)

theorem wkM_operand_b94 {I : HI} {J : HJ} {x2 : Int32} {K4 : HI → HJ → Int32 → Int32 → Prop} {Q : HI → HJ → Prop} (X : hX p m c s args RX11 cX11_operand 5) (hr : meth.sig.returnType = none) (hlk : meth.locks = false) (hR : 4 ≤ R.frames ∧ 90 ≤ R.locals)  (hK4 : ∀ (I : HI) (J : HJ) (x2 : Int32) (x3 : Int32) {ls : Array Slot} {H : Heap} {locs : List Loc}, K4 I J x2 x3 → hW D cA z Ev0 (I, J, T, FM, LM) A s H locs → lv_has ls 5 [(0, .ref (z + 0)), (2, .int x2), (3, .int x3)] → W p l e R s m args below meth c H locs 0 0 (MQ below (va_Qv (pIJv T FM LM Q) (hB D cA z A) A) args s 0 0 A) (F0 m 4 ls [])) : ∀ {ls : Array Slot} {H : Heap} {locs : List Loc}, M_operand_b94 I J x2 K4 Q → hW D cA z Ev0 (I, J, T, FM, LM) A s H locs → lv_has ls 5 [(0, .ref (z + 0)), (2, .int x2)] → W p l e R s m args below meth c H locs 0 0 (MQ below (va_Qv (pIJv T FM LM Q) (hB D cA z A) A) args s 0 0 A) (F0 m 94 ls []) := by
  have hx := X.1
  have hb := X.2.1
  intro ls H locs h hw hl
  unfold M_operand_b94 at h
  refine lv_iconst (v := 0) hx hb dX11_operand_94 (by decide) ?_
  exact wkM_operand_b95 X hr hlk hR  hK4 h hw (lv_sub hl [0, 1] rfl)

theorem wkM_operand_b74 {I : HI} {J : HJ} {x2 : Int32} {K4 : HI → HJ → Int32 → Int32 → Prop} {Q : HI → HJ → Prop} (X : hX p m c s args RX11 cX11_operand 5) (hr : meth.sig.returnType = none) (hlk : meth.locks = false) (hR : 4 ≤ R.frames ∧ 90 ≤ R.locals)  (hK4 : ∀ (I : HI) (J : HJ) (x2 : Int32) (x3 : Int32) {ls : Array Slot} {H : Heap} {locs : List Loc}, K4 I J x2 x3 → hW D cA z Ev0 (I, J, T, FM, LM) A s H locs → lv_has ls 5 [(0, .ref (z + 0)), (2, .int x2), (3, .int x3)] → W p l e R s m args below meth c H locs 0 0 (MQ below (va_Qv (pIJv T FM LM Q) (hB D cA z A) A) args s 0 0 A) (F0 m 4 ls [])) : ∀ {ls : Array Slot} {H : Heap} {locs : List Loc}, M_operand_b74 I J x2 K4 Q → hW D cA z Ev0 (I, J, T, FM, LM) A s H locs → lv_has ls 5 [(0, .ref (z + 0)), (2, .int x2)] → W p l e R s m args below meth c H locs 0 0 (MQ below (va_Qv (pIJv T FM LM Q) (hB D cA z A) A) args s 0 0 A) (F0 m 74 ls []) := by
  have hx := X.1
  have hb := X.2.1
  intro ls H locs h hw hl
  unfold M_operand_b74 at h
  refine lv_aload_n hx hb dX11_operand_74 rfl (lv_at hl 0 rfl) ?_
  refine hm_calli hw (hm_runV (rest := []) hCl_true X hw (cM_isGood  h) ykM_isGood kw1636 rfl LM_0 rfl hl.1 rfl rfl rfl (Nat.le_of_ble_eq_true rfl) ⟨Nat.le_trans (Nat.le_of_ble_eq_true rfl) hR.1, Nat.le_trans (Nat.le_of_ble_eq_true rfl) hR.2⟩ ⟨Nat.zero_le _, Nat.zero_le _⟩ dX11_operand_75) (fun r11 u12 H locs hp hw => ?_)
  obtain ⟨rfl, h⟩ := hp
  refine lv_if_eq (tgt := 94) hx hb dX11_operand_78 (by decide) (fun hc => ?_) (fun hc => ?_)
  · have h := Eq.mp (if_pos hc) h
    exact wkM_operand_b94 X hr hlk hR  hK4 h hw (lv_sub hl [0, 1] rfl)
  · have h := Eq.mp (if_neg hc) h
    refine lv_aload_n hx hb dX11_operand_81 rfl (lv_at hl 0 rfl) ?_
    refine lv_bipush (v := 40) hx hb dX11_operand_82 (by decide) ?_
    refine hm_calli hw (hm_runV (rest := []) hCl_true X hw (cM_isSign  h) ykM_isSign kw1670 rfl LM_0 rfl hl.1 rfl rfl rfl (Nat.le_of_ble_eq_true rfl) ⟨Nat.le_trans (Nat.le_of_ble_eq_true rfl) hR.1, Nat.le_trans (Nat.le_of_ble_eq_true rfl) hR.2⟩ ⟨Nat.zero_le _, Nat.zero_le _⟩ dX11_operand_84) (fun r20 u21 H locs hp hw => ?_)
    obtain ⟨rfl, h⟩ := hp
    refine lv_if_eq (tgt := 94) hx hb dX11_operand_87 (by decide) (fun hc => ?_) (fun hc => ?_)
    · have h := Eq.mp (if_pos hc) h
      exact wkM_operand_b94 X hr hlk hR  hK4 h hw (lv_sub hl [0, 1] rfl)
    · have h := Eq.mp (if_neg hc) h
      refine lv_iconst (v := 1) hx hb dX11_operand_90 (by decide) ?_
      refine lv_goto (tgt := 95) hx hb dX11_operand_91 (by decide) ?_
      exact wkM_operand_b95 X hr hlk hR  hK4 h hw (lv_sub hl [0, 1] rfl)

theorem wkM_operand_b49 {I : HI} {J : HJ} {x2 : Int32} {x4 : Int32} {K4 : HI → HJ → Int32 → Int32 → Prop} {K18 : HI → HJ → Int32 → Prop} {Q : HI → HJ → Prop} (X : hX p m c s args RX11 cX11_operand 5) (hr : meth.sig.returnType = none) (hlk : meth.locks = false) (hR : 4 ≤ R.frames ∧ 90 ≤ R.locals)  (hK4 : ∀ (I : HI) (J : HJ) (x2 : Int32) (x3 : Int32) {ls : Array Slot} {H : Heap} {locs : List Loc}, K4 I J x2 x3 → hW D cA z Ev0 (I, J, T, FM, LM) A s H locs → lv_has ls 5 [(0, .ref (z + 0)), (2, .int x2), (3, .int x3)] → W p l e R s m args below meth c H locs 0 0 (MQ below (va_Qv (pIJv T FM LM Q) (hB D cA z A) A) args s 0 0 A) (F0 m 4 ls [])) (hK18 : ∀ (I : HI) (J : HJ) (x4 : Int32) {ls : Array Slot} {H : Heap} {locs : List Loc}, K18 I J x4 → hW D cA z Ev0 (I, J, T, FM, LM) A s H locs → lv_has ls 5 [(0, .ref (z + 0)), (2, .int x2), (4, .int x4)] → W p l e R s m args below meth c H locs 0 0 (MQ below (va_Qv (pIJv T FM LM Q) (hB D cA z A) A) args s 0 0 A) (F0 m 18 ls [])) : ∀ {ls : Array Slot} {H : Heap} {locs : List Loc}, M_operand_b49 I J x2 x4 K4 K18 Q → hW D cA z Ev0 (I, J, T, FM, LM) A s H locs → lv_has ls 5 [(0, .ref (z + 0)), (2, .int x2), (4, .int x4)] → W p l e R s m args below meth c H locs 0 0 (MQ below (va_Qv (pIJv T FM LM Q) (hB D cA z A) A) args s 0 0 A) (F0 m 49 ls []) := by
  have hx := X.1
  have hb := X.2.1
  intro ls H locs h hw hl
  unfold M_operand_b49 at h
  refine lv_iinc (v := x4 + 1) (lv' := [(4, _), (0, _), (2, _)]) hx hb dX11_operand_49 hl (k := 2) rfl rfl (by decide) rfl (fun ls hl => ?_)
  refine lv_aload_n hx hb dX11_operand_52 rfl (lv_at hl 1 rfl) ?_
  refine hm_calli hw (hm_runV (rest := []) hCl_true X hw (cM_isGood  h) ykM_isGood kw1636 rfl LM_0 rfl hl.1 rfl rfl rfl (Nat.le_of_ble_eq_true rfl) ⟨Nat.le_trans (Nat.le_of_ble_eq_true rfl) hR.1, Nat.le_trans (Nat.le_of_ble_eq_true rfl) hR.2⟩ ⟨Nat.zero_le _, Nat.zero_le _⟩ dX11_operand_53) (fun r24 u25 H locs hp hw => ?_)
  obtain ⟨rfl, h⟩ := hp
  refine lv_if_ne (tgt := 62) hx hb dX11_operand_56 (by decide) (fun hc => ?_) (fun hc => ?_)
  · have h := Eq.mp (if_neg hc) h
    refine lv_aload_n hx hb dX11_operand_62 rfl (lv_at hl 1 rfl) ?_
    refine lv_iconst (v := 3) hx hb dX11_operand_63 (by decide) ?_
    refine hm_callv hw (hm_runV (rest := []) hCl_true X hw (cM_waitsFor  h) ykM_waitsFor kw1678 rfl LM_0 rfl hl.1 rfl rfl rfl (Nat.le_of_ble_eq_true rfl) ⟨Nat.le_trans (Nat.le_of_ble_eq_true rfl) hR.1, Nat.le_trans (Nat.le_of_ble_eq_true rfl) hR.2⟩ ⟨Nat.zero_le _, Nat.zero_le _⟩ dX11_operand_64) (fun u27 H locs hp hw => ?_)
    obtain ⟨I26, rfl, h⟩ := hp
    refine lv_aload_n hx hb dX11_operand_67 rfl (lv_at hl 1 rfl) ?_
    refine hm_callv hw (hm_runV (rest := []) hCl_true X hw (cM_goes  h) ykM_goes kw1622 rfl LM_0 rfl hl.1 rfl rfl rfl (Nat.le_of_ble_eq_true rfl) ⟨Nat.le_trans (Nat.le_of_ble_eq_true rfl) hR.1, Nat.le_trans (Nat.le_of_ble_eq_true rfl) hR.2⟩ ⟨Nat.zero_le _, Nat.zero_le _⟩ dX11_operand_68) (fun u30 H locs hp hw => ?_)
    obtain ⟨I28, J29, rfl, h⟩ := hp
    refine lv_goto (tgt := 18) hx hb dX11_operand_71 (by decide) ?_
    exact hK18 _ _ _ h hw (lv_sub hl [1, 2, 0] rfl)
  · have h := Eq.mp (if_pos hc) h
    refine lv_goto (tgt := 18) hx hb dX11_operand_59 (by decide) ?_
    exact hK18 _ _ _ h hw (lv_sub hl [1, 2, 0] rfl)

theorem wkM_operand_l18 {x2 : Int32} {K4 : HI → HJ → Int32 → Int32 → Prop} {Q : HI → HJ → Prop} (X : hX p m c s args RX11 cX11_operand 5) (hr : meth.sig.returnType = none) (hlk : meth.locks = false) (hR : 4 ≤ R.frames ∧ 90 ≤ R.locals)  (hK4 : ∀ (I : HI) (J : HJ) (x2 : Int32) (x3 : Int32) {ls : Array Slot} {H : Heap} {locs : List Loc}, K4 I J x2 x3 → hW D cA z Ev0 (I, J, T, FM, LM) A s H locs → lv_has ls 5 [(0, .ref (z + 0)), (2, .int x2), (3, .int x3)] → W p l e R s m args below meth c H locs 0 0 (MQ below (va_Qv (pIJv T FM LM Q) (hB D cA z A) A) args s 0 0 A) (F0 m 4 ls [])) : ∀ (n : Nat) (I : HI) (J : HJ) (x4 : Int32) {ls : Array Slot} {H : Heap} {locs : List Loc}, M_operand_l18 x2 K4 Q n I J x4 → hW D cA z Ev0 (I, J, T, FM, LM) A s H locs → lv_has ls 5 [(0, .ref (z + 0)), (2, .int x2), (4, .int x4)] → W p l e R s m args below meth c H locs 0 0 (MQ below (va_Qv (pIJv T FM LM Q) (hB D cA z A) A) args s 0 0 A) (F0 m 18 ls []) := by
  have hx := X.1
  have hb := X.2.1
  intro n
  induction n with
  | zero => intro I J x4 ls H locs h; exact False.elim h
  | succ n ih =>
    intro I J x4 ls H locs h hw hl
    rw [M_operand_l18] at h
    refine lv_aload_n hx hb dX11_operand_18 rfl (lv_at hl 0 rfl) ?_
    refine hm_calli hw (hm_runV (rest := []) hCl_true X hw (cM_isGood  h) ykM_isGood kw1636 rfl LM_0 rfl hl.1 rfl rfl rfl (Nat.le_of_ble_eq_true rfl) ⟨Nat.le_trans (Nat.le_of_ble_eq_true rfl) hR.1, Nat.le_trans (Nat.le_of_ble_eq_true rfl) hR.2⟩ ⟨Nat.zero_le _, Nat.zero_le _⟩ dX11_operand_19) (fun r9 u10 H locs hp hw => ?_)
    obtain ⟨rfl, h⟩ := hp
    refine lv_if_eq (tgt := 74) hx hb dX11_operand_22 (by decide) (fun hc => ?_) (fun hc => ?_)
    · have h := Eq.mp (if_pos hc) h
      exact wkM_operand_b74 X hr hlk hR  hK4 h hw (lv_sub hl [0, 1] rfl)
    · have h := Eq.mp (if_neg hc) h
      refine lv_iload_n hx hb dX11_operand_25 rfl (lv_at hl 1 rfl) ?_
      refine lv_if_eq (tgt := 74) hx hb dX11_operand_26 (by decide) (fun hc => ?_) (fun hc => ?_)
      · have h := Eq.mp (if_pos hc) h
        exact wkM_operand_b74 X hr hlk hR  hK4 h hw (lv_sub hl [0, 1] rfl)
      · have h := Eq.mp (if_neg hc) h
        refine lv_aload_n hx hb dX11_operand_29 rfl (lv_at hl 0 rfl) ?_
        refine hm_calli hw (hm_runV (rest := []) hCl_true X hw (cM_knownWord  h) ykM_knownWord kw1644 rfl LM_0 rfl hl.1 rfl rfl rfl (Nat.le_of_ble_eq_true rfl) ⟨Nat.le_trans (Nat.le_of_ble_eq_true rfl) hR.1, Nat.le_trans (Nat.le_of_ble_eq_true rfl) hR.2⟩ ⟨Nat.zero_le _, Nat.zero_le _⟩ dX11_operand_30) (fun r22 u23 H locs hp hw => ?_)
        obtain ⟨rfl, h⟩ := hp
        refine lv_iconst (v := 5) hx hb dX11_operand_33 (by decide) ?_
        refine lv_icmp_ne (tgt := 74) hx hb dX11_operand_34 (by decide) (fun hc => ?_) (fun hc => ?_)
        · have h := Eq.mp (if_neg hc) h
          exact wkM_operand_b74 X hr hlk hR  hK4 h hw (lv_sub hl [0, 1] rfl)
        · have h := Eq.mp (if_pos hc) h
          refine lv_iload hx hb dX11_operand_37 (lv_at hl 2 rfl) ?_
          refine lv_bipush (v := 6) hx hb dX11_operand_39 (by decide) ?_
          refine lv_icmp_ne (tgt := 49) hx hb dX11_operand_41 (by decide) (fun hc => ?_) (fun hc => ?_)
          · have h := Eq.mp (if_neg hc) h
            exact wkM_operand_b49 X hr hlk hR  hK4 ih h hw (lv_sub hl [0, 1, 2] rfl)
          · have h := Eq.mp (if_pos hc) h
            refine lv_aload_n hx hb dX11_operand_44 rfl (lv_at hl 0 rfl) ?_
            refine lv_iconst (v := 2) hx hb dX11_operand_45 (by decide) ?_
            refine hm_callv hw (hm_runV (rest := []) hCl_true X hw (cM_wrong  h) ykM_wrong kw1654 rfl LM_0 rfl hl.1 rfl rfl rfl (Nat.le_of_ble_eq_true rfl) ⟨Nat.le_trans (Nat.le_of_ble_eq_true rfl) hR.1, Nat.le_trans (Nat.le_of_ble_eq_true rfl) hR.2⟩ ⟨Nat.zero_le _, Nat.zero_le _⟩ dX11_operand_46) (fun u32 H locs hp hw => ?_)
            obtain ⟨I31, rfl, h⟩ := hp
            exact wkM_operand_b49 X hr hlk hR  hK4 ih h hw (lv_sub hl [0, 1, 2] rfl)

theorem wkM_operand_l4  {Q : HI → HJ → Prop} (X : hX p m c s args RX11 cX11_operand 5) (hr : meth.sig.returnType = none) (hlk : meth.locks = false) (hR : 4 ≤ R.frames ∧ 90 ≤ R.locals)   : ∀ (n : Nat) (I : HI) (J : HJ) (x2 : Int32) (x3 : Int32) {ls : Array Slot} {H : Heap} {locs : List Loc}, M_operand_l4 Q n I J x2 x3 → hW D cA z Ev0 (I, J, T, FM, LM) A s H locs → lv_has ls 5 [(0, .ref (z + 0)), (2, .int x2), (3, .int x3)] → W p l e R s m args below meth c H locs 0 0 (MQ below (va_Qv (pIJv T FM LM Q) (hB D cA z A) A) args s 0 0 A) (F0 m 4 ls []) := by
  have hx := X.1
  have hb := X.2.1
  intro n
  induction n with
  | zero => intro I J x2 x3 ls H locs h; exact False.elim h
  | succ n ih =>
    intro I J x2 x3 ls H locs h hw hl
    rw [M_operand_l4] at h
    refine lv_iload_n hx hb dX11_operand_4 rfl (lv_at hl 2 rfl) ?_
    refine lv_if_eq (tgt := 119) hx hb dX11_operand_5 (by decide) (fun hc => ?_) (fun hc => ?_)
    · have h := Eq.mp (if_pos hc) h
      refine lv_aload_n hx hb dX11_operand_119 rfl (lv_at hl 0 rfl) ?_
      refine hm_callv hw (hm_runV (rest := []) hCl_true X hw (cM_part  h) ykM_part kw1682 rfl LM_0 rfl hl.1 rfl rfl rfl (Nat.le_of_ble_eq_true rfl) ⟨Nat.le_trans (Nat.le_of_ble_eq_true rfl) hR.1, Nat.le_trans (Nat.le_of_ble_eq_true rfl) hR.2⟩ ⟨Nat.zero_le _, Nat.zero_le _⟩ dX11_operand_120) (fun u3 H locs hp hw => ?_)
      obtain ⟨I1, J2, rfl, h⟩ := hp
      exact hm_vret X hr hlk hw ⟨_, _, rfl, h⟩ dX11_operand_123
    · have h := Eq.mp (if_neg hc) h
      refine lv_aload_n hx hb dX11_operand_8 rfl (lv_at hl 0 rfl) ?_
      refine hm_calli hw (hm_runV (rest := []) hCl_true X hw (cM_isGood  h) ykM_isGood kw1636 rfl LM_0 rfl hl.1 rfl rfl rfl (Nat.le_of_ble_eq_true rfl) ⟨Nat.le_trans (Nat.le_of_ble_eq_true rfl) hR.1, Nat.le_trans (Nat.le_of_ble_eq_true rfl) hR.2⟩ ⟨Nat.zero_le _, Nat.zero_le _⟩ dX11_operand_9) (fun r4 u5 H locs hp hw => ?_)
      obtain ⟨rfl, h⟩ := hp
      refine lv_if_eq (tgt := 119) hx hb dX11_operand_12 (by decide) (fun hc => ?_) (fun hc => ?_)
      · have h := Eq.mp (if_pos hc) h
        refine lv_aload_n hx hb dX11_operand_119 rfl (lv_at hl 0 rfl) ?_
        refine hm_callv hw (hm_runV (rest := []) hCl_true X hw (cM_part  h) ykM_part kw1682 rfl LM_0 rfl hl.1 rfl rfl rfl (Nat.le_of_ble_eq_true rfl) ⟨Nat.le_trans (Nat.le_of_ble_eq_true rfl) hR.1, Nat.le_trans (Nat.le_of_ble_eq_true rfl) hR.2⟩ ⟨Nat.zero_le _, Nat.zero_le _⟩ dX11_operand_120) (fun u8 H locs hp hw => ?_)
        obtain ⟨I6, J7, rfl, h⟩ := hp
        exact hm_vret X hr hlk hw ⟨_, _, rfl, h⟩ dX11_operand_123
      · have h := Eq.mp (if_neg hc) h
        refine lv_iconst (v := 0) hx hb dX11_operand_15 (by decide) ?_
        refine lv_istore (lv' := [(4, _), (0, _), (2, _), (3, _)]) hx hb dX11_operand_16 hl (by decide) rfl (fun ls hl => ?_)
        obtain ⟨n2, h⟩ := h
        exact wkM_operand_l18 X hr hlk hR  ih n2 _ _ _ h hw (lv_sub hl [1, 2, 0] rfl)

theorem cM_operand {l : Launch} {D : va_G} {cA : Nat → ClassId} {z sz : Nat} {I : HI} {J : HJ} {x1 : Int32} {Q : HI → HJ → Prop}  (h : M_operand I J x1 Q) : Met l yX11_operand (hws0 yX11_operand cX11_operand 5 none) { frames := 4, cells := 0, slots := 0, locals := 90 } (hPc D cA z Ev0 (I, J, T, FM, LM) sz [.ref (z + 0), .int x1]) (va_Qv (pIJv T FM LM Q) (hB D cA z (hA z LM sz)) (hA z LM sz)) 0 0 (hA z LM sz) := by
  refine hm_met (I, J, T, FM, LM) [.ref (z + 0), .int x1] rfl (by decide) (Nat.le_of_ble_eq_true rfl) ?_
  intro p e s m below meth c ls X hr hlk hnm hxt hsz hw hl
  have hl : lv_has ls 5 [(0, .ref (z + 0)), (1, .int x1)] := hl
  have hR : 4 ≤ ({ frames := 4, cells := 0, slots := 0, locals := 90 } : Room).frames ∧ 90 ≤ ({ frames := 4, cells := 0, slots := 0, locals := 90 } : Room).locals := ⟨Nat.le_refl _, Nat.le_refl _⟩
  generalize ({ frames := 4, cells := 0, slots := 0, locals := 90 } : Room) = R at hR ⊢
  clear hsz
  generalize (hA z LM sz) = A at hw ⊢
  have hx := X.1
  have hb := X.2.1
  unfold M_operand at h
  refine lv_iload_n hx hb dX11_operand_0 rfl (lv_at hl 1 rfl) ?_
  refine lv_istore_n (lv' := [(2, _), (0, _), (1, _)]) hx hb dX11_operand_1 rfl hl (by decide) rfl (fun ls hl => ?_)
  refine lv_iconst (v := 1) hx hb dX11_operand_2 (by decide) ?_
  refine lv_istore_n (lv' := [(3, _), (2, _), (0, _), (1, _)]) hx hb dX11_operand_3 rfl hl (by decide) rfl (fun ls hl => ?_)
  obtain ⟨n2, h⟩ := h
  exact wkM_operand_l4 X hr hlk hR   n2 _ _ _ _ h hw (lv_sub hl [2, 1, 0] rfl)

theorem wkM_expression_b373 {I : HI} {J : HJ} {x1 : Int32} {Q : Int32 → HI → HJ → Prop} (X : hX p m c s args RX11 cX11_expression 4) (hr : meth.sig.returnType = (some .int)) (hlk : meth.locks = false) (hR : 5 ≤ R.frames ∧ 114 ≤ R.locals)   : ∀ {ls : Array Slot} {H : Heap} {locs : List Loc}, M_expression_b373 I J x1 Q → hW D cA z Ev0 (I, J, T, FM, LM) A s H locs → lv_has ls 4 [(0, .ref (z + 0)), (1, .int x1)] → W p l e R s m args below meth c H locs 0 0 (MQ below (va_Qi (pIJ T FM LM Q) (hB D cA z A) A) args s 0 0 A) (F0 m 373 ls []) := by
  have hx := X.1
  have hb := X.2.1
  intro ls H locs h hw hl
  unfold M_expression_b373 at h
  refine lv_aload_n hx hb dX11_expression_373 rfl (lv_at hl 0 rfl) ?_
  refine lv_iconst (v := 0) hx hb dX11_expression_374 (by decide) ?_
  refine hm_callv hw (hm_runV (rest := []) hCl_true X hw (cM_drops  h) ykM_drops kw1690 rfl LM_0 rfl hl.1 rfl rfl rfl (Nat.le_of_ble_eq_true rfl) ⟨Nat.le_trans (Nat.le_of_ble_eq_true rfl) hR.1, Nat.le_trans (Nat.le_of_ble_eq_true rfl) hR.2⟩ ⟨Nat.zero_le _, Nat.zero_le _⟩ dX11_expression_375) (fun u11 H locs hp hw => ?_)
  obtain ⟨I10, rfl, h⟩ := hp
  refine lv_aload_n hx hb dX11_expression_378 rfl (lv_at hl 0 rfl) ?_
  refine lv_iconst (v := 0) hx hb dX11_expression_379 (by decide) ?_
  refine hm_callv hw (hm_runV (rest := []) hCl_true X hw (cM_puts  h) ykM_puts kw1686 rfl LM_0 rfl hl.1 rfl rfl rfl (Nat.le_of_ble_eq_true rfl) ⟨Nat.le_trans (Nat.le_of_ble_eq_true rfl) hR.1, Nat.le_trans (Nat.le_of_ble_eq_true rfl) hR.2⟩ ⟨Nat.zero_le _, Nat.zero_le _⟩ dX11_expression_380) (fun u13 H locs hp hw => ?_)
  obtain ⟨I12, rfl, h⟩ := hp
  refine lv_iload_n hx hb dX11_expression_383 rfl (lv_at hl 1 rfl) ?_
  exact hm_iret X hr hlk hw ⟨_, _, rfl, h⟩ dX11_expression_384

theorem wkM_expression_b353 {I : HI} {J : HJ} {x1 : Int32} {Q : Int32 → HI → HJ → Prop} (X : hX p m c s args RX11 cX11_expression 4) (hr : meth.sig.returnType = (some .int)) (hlk : meth.locks = false) (hR : 5 ≤ R.frames ∧ 114 ≤ R.locals)   : ∀ {ls : Array Slot} {H : Heap} {locs : List Loc}, M_expression_b353 I J x1 Q → hW D cA z Ev0 (I, J, T, FM, LM) A s H locs → lv_has ls 4 [(0, .ref (z + 0)), (1, .int x1)] → W p l e R s m args below meth c H locs 0 0 (MQ below (va_Qi (pIJ T FM LM Q) (hB D cA z A) A) args s 0 0 A) (F0 m 353 ls []) := by
  have hx := X.1
  have hb := X.2.1
  intro ls H locs h hw hl
  unfold M_expression_b353 at h
  refine lv_aload_n hx hb dX11_expression_353 rfl (lv_at hl 0 rfl) ?_
  refine hm_calli hw (hm_runV (rest := []) hCl_true X hw (cM_isGood  h) ykM_isGood kw1636 rfl LM_0 rfl hl.1 rfl rfl rfl (Nat.le_of_ble_eq_true rfl) ⟨Nat.le_trans (Nat.le_of_ble_eq_true rfl) hR.1, Nat.le_trans (Nat.le_of_ble_eq_true rfl) hR.2⟩ ⟨Nat.zero_le _, Nat.zero_le _⟩ dX11_expression_354) (fun r8 u9 H locs hp hw => ?_)
  obtain ⟨rfl, h⟩ := hp
  refine lv_if_eq (tgt := 373) hx hb dX11_expression_357 (by decide) (fun hc => ?_) (fun hc => ?_)
  · have h := Eq.mp (if_pos hc) h
    exact wkM_expression_b373 X hr hlk hR   h hw (lv_sub hl [0, 1] rfl)
  · have h := Eq.mp (if_neg hc) h
    refine lv_aload_n hx hb dX11_expression_360 rfl (lv_at hl 0 rfl) ?_
    refine hm_geti X hw lkM_293 LM_0 dX11_expression_361 ?_
    refine lv_iconst (v := 1) hx hb dX11_expression_364 (by decide) ?_
    refine lv_icmp_le (tgt := 373) hx hb dX11_expression_365 (by decide) (fun hc => ?_) (fun hc => ?_)
    · have h := Eq.mp (if_pos hc) h
      exact wkM_expression_b373 X hr hlk hR   h hw (lv_sub hl [0, 1] rfl)
    · have h := Eq.mp (if_neg hc) h
      refine lv_aload_n hx hb dX11_expression_368 rfl (lv_at hl 0 rfl) ?_
      refine lv_iconst (v := 1) hx hb dX11_expression_369 (by decide) ?_
      refine hm_callv hw (hm_runV (rest := []) hCl_true X hw (cM_wrong  h) ykM_wrong kw1654 rfl LM_0 rfl hl.1 rfl rfl rfl (Nat.le_of_ble_eq_true rfl) ⟨Nat.le_trans (Nat.le_of_ble_eq_true rfl) hR.1, Nat.le_trans (Nat.le_of_ble_eq_true rfl) hR.2⟩ ⟨Nat.zero_le _, Nat.zero_le _⟩ dX11_expression_370) (fun u15 H locs hp hw => ?_)
      obtain ⟨I14, rfl, h⟩ := hp
      exact wkM_expression_b373 X hr hlk hR   h hw (lv_sub hl [0, 1] rfl)

theorem wkM_expression_b86 {I : HI} {J : HJ} {x1 : Int32} {x2 : Int32} {t0 : Int32} {K35 : HI → HJ → Int32 → Prop} {Q : Int32 → HI → HJ → Prop} (X : hX p m c s args RX11 cX11_expression 4) (hr : meth.sig.returnType = (some .int)) (hlk : meth.locks = false) (hR : 5 ≤ R.frames ∧ 114 ≤ R.locals)  (hK35 : ∀ (I : HI) (J : HJ) (x2 : Int32) {ls : Array Slot} {H : Heap} {locs : List Loc}, K35 I J x2 → hW D cA z Ev0 (I, J, T, FM, LM) A s H locs → lv_has ls 4 [(0, .ref (z + 0)), (1, .int x1), (2, .int x2)] → W p l e R s m args below meth c H locs 0 0 (MQ below (va_Qi (pIJ T FM LM Q) (hB D cA z A) A) args s 0 0 A) (F0 m 35 ls [])) : ∀ {ls : Array Slot} {H : Heap} {locs : List Loc}, M_expression_b86 I J x1 x2 t0 K35 Q → hW D cA z Ev0 (I, J, T, FM, LM) A s H locs → lv_has ls 4 [(0, .ref (z + 0)), (1, .int x1), (2, .int x2)] → W p l e R s m args below meth c H locs 0 0 (MQ below (va_Qi (pIJ T FM LM Q) (hB D cA z A) A) args s 0 0 A) (F0 m 86 ls [.int t0, .ref (z + 0)]) := by
  have hx := X.1
  have hb := X.2.1
  intro ls H locs h hw hl
  unfold M_expression_b86 at h
  refine hm_callv hw (hm_runV (rest := []) hCl_true X hw (cM_waitsFor  h) ykM_waitsFor kw1678 rfl LM_0 rfl hl.1 rfl rfl rfl (Nat.le_of_ble_eq_true rfl) ⟨Nat.le_trans (Nat.le_of_ble_eq_true rfl) hR.1, Nat.le_trans (Nat.le_of_ble_eq_true rfl) hR.2⟩ ⟨Nat.zero_le _, Nat.zero_le _⟩ dX11_expression_86) (fun u23 H locs hp hw => ?_)
  obtain ⟨I22, rfl, h⟩ := hp
  refine lv_aload_n hx hb dX11_expression_89 rfl (lv_at hl 0 rfl) ?_
  refine hm_getr X hw lkM_71 LM_0 (b := 16) rfl dX11_expression_90 ?_
  refine lv_aload_n hx hb dX11_expression_93 rfl (lv_at hl 0 rfl) ?_
  refine hm_geti X hw lkM_293 LM_0 dX11_expression_94 ?_
  refine lv_iconst (v := 0) hx hb dX11_expression_97 (by decide) ?_
  obtain ⟨hi, h⟩ := h
  refine hm_zast X hw LM_16 hi dX11_expression_98 (fun H locs hw => ?_)
  refine lv_aload_n hx hb dX11_expression_99 rfl (lv_at hl 0 rfl) ?_
  refine hm_callv hw (hm_runV (rest := []) hCl_true X hw (cM_goes  h) ykM_goes kw1622 rfl LM_0 rfl hl.1 rfl rfl rfl (Nat.le_of_ble_eq_true rfl) ⟨Nat.le_trans (Nat.le_of_ble_eq_true rfl) hR.1, Nat.le_trans (Nat.le_of_ble_eq_true rfl) hR.2⟩ ⟨Nat.zero_le _, Nat.zero_le _⟩ dX11_expression_100) (fun u26 H locs hp hw => ?_)
  obtain ⟨I24, J25, rfl, h⟩ := hp
  refine lv_aload_n hx hb dX11_expression_103 rfl (lv_at hl 0 rfl) ?_
  refine lv_iconst (v := 1) hx hb dX11_expression_104 (by decide) ?_
  refine hm_callv hw (hm_runV (rest := []) hCl_true X hw (cM_operand  h) ykM_operand kw1674 rfl LM_0 rfl hl.1 rfl rfl rfl (Nat.le_of_ble_eq_true rfl) ⟨Nat.le_trans (Nat.le_of_ble_eq_true rfl) hR.1, Nat.le_trans (Nat.le_of_ble_eq_true rfl) hR.2⟩ ⟨Nat.zero_le _, Nat.zero_le _⟩ dX11_expression_105) (fun u29 H locs hp hw => ?_)
  obtain ⟨I27, J28, rfl, h⟩ := hp
  refine lv_goto (tgt := 350) hx hb dX11_expression_108 (by decide) ?_
  refine lv_goto (tgt := 35) hx hb dX11_expression_350 (by decide) ?_
  exact hK35 _ _ _ h hw (lv_sub hl [0, 1, 2] rfl)

theorem wkM_expression_b72 {I : HI} {J : HJ} {x1 : Int32} {x2 : Int32} {x3 : Int32} {t0 : Int32} {K35 : HI → HJ → Int32 → Prop} {Q : Int32 → HI → HJ → Prop} (X : hX p m c s args RX11 cX11_expression 4) (hr : meth.sig.returnType = (some .int)) (hlk : meth.locks = false) (hR : 5 ≤ R.frames ∧ 114 ≤ R.locals)  (hK35 : ∀ (I : HI) (J : HJ) (x2 : Int32) {ls : Array Slot} {H : Heap} {locs : List Loc}, K35 I J x2 → hW D cA z Ev0 (I, J, T, FM, LM) A s H locs → lv_has ls 4 [(0, .ref (z + 0)), (1, .int x1), (2, .int x2)] → W p l e R s m args below meth c H locs 0 0 (MQ below (va_Qi (pIJ T FM LM Q) (hB D cA z A) A) args s 0 0 A) (F0 m 35 ls [])) : ∀ {ls : Array Slot} {H : Heap} {locs : List Loc}, M_expression_b72 I J x1 x2 x3 t0 K35 Q → hW D cA z Ev0 (I, J, T, FM, LM) A s H locs → lv_has ls 4 [(0, .ref (z + 0)), (1, .int x1), (2, .int x2), (3, .int x3)] → W p l e R s m args below meth c H locs 0 0 (MQ below (va_Qi (pIJ T FM LM Q) (hB D cA z A) A) args s 0 0 A) (F0 m 72 ls [.int t0, .ref (z + 0)]) := by
  have hx := X.1
  have hb := X.2.1
  intro ls H locs h hw hl
  unfold M_expression_b72 at h
  refine hm_callv hw (hm_runV (rest := []) hCl_true X hw (cM_drops  h) ykM_drops kw1690 rfl LM_0 rfl hl.1 rfl rfl rfl (Nat.le_of_ble_eq_true rfl) ⟨Nat.le_trans (Nat.le_of_ble_eq_true rfl) hR.1, Nat.le_trans (Nat.le_of_ble_eq_true rfl) hR.2⟩ ⟨Nat.zero_le _, Nat.zero_le _⟩ dX11_expression_72) (fun u21 H locs hp hw => ?_)
  obtain ⟨I20, rfl, h⟩ := hp
  refine lv_aload_n hx hb dX11_expression_75 rfl (lv_at hl 0 rfl) ?_
  refine lv_iload_n hx hb dX11_expression_76 rfl (lv_at hl 3 rfl) ?_
  refine lv_iconst (v := 3) hx hb dX11_expression_77 (by decide) ?_
  refine lv_icmp_ne (tgt := 85) hx hb dX11_expression_78 (by decide) (fun hc => ?_) (fun hc => ?_)
  · have h := Eq.mp (if_neg hc) h
    refine lv_iconst (v := 5) hx hb dX11_expression_85 (by decide) ?_
    exact wkM_expression_b86 X hr hlk hR  hK35 h hw (lv_sub hl [0, 1, 2] rfl)
  · have h := Eq.mp (if_pos hc) h
    refine lv_iconst (v := 4) hx hb dX11_expression_81 (by decide) ?_
    refine lv_goto (tgt := 86) hx hb dX11_expression_82 (by decide) ?_
    exact wkM_expression_b86 X hr hlk hR  hK35 h hw (lv_sub hl [0, 1, 2] rfl)

theorem wkM_expression_b61 {I : HI} {J : HJ} {x1 : Int32} {x2 : Int32} {x3 : Int32} {K35 : HI → HJ → Int32 → Prop} {Q : Int32 → HI → HJ → Prop} (X : hX p m c s args RX11 cX11_expression 4) (hr : meth.sig.returnType = (some .int)) (hlk : meth.locks = false) (hR : 5 ≤ R.frames ∧ 114 ≤ R.locals)  (hK35 : ∀ (I : HI) (J : HJ) (x2 : Int32) {ls : Array Slot} {H : Heap} {locs : List Loc}, K35 I J x2 → hW D cA z Ev0 (I, J, T, FM, LM) A s H locs → lv_has ls 4 [(0, .ref (z + 0)), (1, .int x1), (2, .int x2)] → W p l e R s m args below meth c H locs 0 0 (MQ below (va_Qi (pIJ T FM LM Q) (hB D cA z A) A) args s 0 0 A) (F0 m 35 ls [])) : ∀ {ls : Array Slot} {H : Heap} {locs : List Loc}, M_expression_b61 I J x1 x2 x3 K35 Q → hW D cA z Ev0 (I, J, T, FM, LM) A s H locs → lv_has ls 4 [(0, .ref (z + 0)), (1, .int x1), (2, .int x2), (3, .int x3)] → W p l e R s m args below meth c H locs 0 0 (MQ below (va_Qi (pIJ T FM LM Q) (hB D cA z A) A) args s 0 0 A) (F0 m 61 ls []) := by
  have hx := X.1
  have hb := X.2.1
  intro ls H locs h hw hl
  unfold M_expression_b61 at h
  refine lv_aload_n hx hb dX11_expression_61 rfl (lv_at hl 0 rfl) ?_
  refine lv_iload_n hx hb dX11_expression_62 rfl (lv_at hl 3 rfl) ?_
  refine lv_iconst (v := 3) hx hb dX11_expression_63 (by decide) ?_
  refine lv_icmp_ne (tgt := 71) hx hb dX11_expression_64 (by decide) (fun hc => ?_) (fun hc => ?_)
  · have h := Eq.mp (if_neg hc) h
    refine lv_iconst (v := 1) hx hb dX11_expression_71 (by decide) ?_
    exact wkM_expression_b72 X hr hlk hR  hK35 h hw (lv_sub hl [0, 1, 2, 3] rfl)
  · have h := Eq.mp (if_pos hc) h
    refine lv_iconst (v := 2) hx hb dX11_expression_67 (by decide) ?_
    refine lv_goto (tgt := 72) hx hb dX11_expression_68 (by decide) ?_
    exact wkM_expression_b72 X hr hlk hR  hK35 h hw (lv_sub hl [0, 1, 2, 3] rfl)

theorem wkM_expression_b228 {I : HI} {J : HJ} {x1 : Int32} {x2 : Int32} {t0 : Int32} {K35 : HI → HJ → Int32 → Prop} {Q : Int32 → HI → HJ → Prop} (X : hX p m c s args RX11 cX11_expression 4) (hr : meth.sig.returnType = (some .int)) (hlk : meth.locks = false) (hR : 5 ≤ R.frames ∧ 114 ≤ R.locals)  (hK35 : ∀ (I : HI) (J : HJ) (x2 : Int32) {ls : Array Slot} {H : Heap} {locs : List Loc}, K35 I J x2 → hW D cA z Ev0 (I, J, T, FM, LM) A s H locs → lv_has ls 4 [(0, .ref (z + 0)), (1, .int x1), (2, .int x2)] → W p l e R s m args below meth c H locs 0 0 (MQ below (va_Qi (pIJ T FM LM Q) (hB D cA z A) A) args s 0 0 A) (F0 m 35 ls [])) : ∀ {ls : Array Slot} {H : Heap} {locs : List Loc}, M_expression_b228 I J x1 x2 t0 K35 Q → hW D cA z Ev0 (I, J, T, FM, LM) A s H locs → lv_has ls 4 [(0, .ref (z + 0)), (1, .int x1), (2, .int x2)] → W p l e R s m args below meth c H locs 0 0 (MQ below (va_Qi (pIJ T FM LM Q) (hB D cA z A) A) args s 0 0 A) (F0 m 228 ls [.int t0, .ref (z + 0)]) := by
  have hx := X.1
  have hb := X.2.1
  intro ls H locs h hw hl
  unfold M_expression_b228 at h
  refine hm_callv hw (hm_runV (rest := []) hCl_true X hw (cM_waitsFor  h) ykM_waitsFor kw1678 rfl LM_0 rfl hl.1 rfl rfl rfl (Nat.le_of_ble_eq_true rfl) ⟨Nat.le_trans (Nat.le_of_ble_eq_true rfl) hR.1, Nat.le_trans (Nat.le_of_ble_eq_true rfl) hR.2⟩ ⟨Nat.zero_le _, Nat.zero_le _⟩ dX11_expression_228) (fun u39 H locs hp hw => ?_)
  obtain ⟨I38, rfl, h⟩ := hp
  refine lv_aload_n hx hb dX11_expression_231 rfl (lv_at hl 0 rfl) ?_
  refine hm_callv hw (hm_runV (rest := []) hCl_true X hw (cM_goes  h) ykM_goes kw1622 rfl LM_0 rfl hl.1 rfl rfl rfl (Nat.le_of_ble_eq_true rfl) ⟨Nat.le_trans (Nat.le_of_ble_eq_true rfl) hR.1, Nat.le_trans (Nat.le_of_ble_eq_true rfl) hR.2⟩ ⟨Nat.zero_le _, Nat.zero_le _⟩ dX11_expression_232) (fun u42 H locs hp hw => ?_)
  obtain ⟨I40, J41, rfl, h⟩ := hp
  refine lv_aload_n hx hb dX11_expression_235 rfl (lv_at hl 0 rfl) ?_
  refine lv_iconst (v := 0) hx hb dX11_expression_236 (by decide) ?_
  refine hm_callv hw (hm_runV (rest := []) hCl_true X hw (cM_operand  h) ykM_operand kw1674 rfl LM_0 rfl hl.1 rfl rfl rfl (Nat.le_of_ble_eq_true rfl) ⟨Nat.le_trans (Nat.le_of_ble_eq_true rfl) hR.1, Nat.le_trans (Nat.le_of_ble_eq_true rfl) hR.2⟩ ⟨Nat.zero_le _, Nat.zero_le _⟩ dX11_expression_237) (fun u45 H locs hp hw => ?_)
  obtain ⟨I43, J44, rfl, h⟩ := hp
  refine lv_goto (tgt := 350) hx hb dX11_expression_240 (by decide) ?_
  refine lv_goto (tgt := 35) hx hb dX11_expression_350 (by decide) ?_
  exact hK35 _ _ _ h hw (lv_sub hl [0, 1, 2] rfl)

theorem wkM_expression_b206 {I : HI} {J : HJ} {x1 : Int32} {x2 : Int32} {K35 : HI → HJ → Int32 → Prop} {Q : Int32 → HI → HJ → Prop} (X : hX p m c s args RX11 cX11_expression 4) (hr : meth.sig.returnType = (some .int)) (hlk : meth.locks = false) (hR : 5 ≤ R.frames ∧ 114 ≤ R.locals)  (hK35 : ∀ (I : HI) (J : HJ) (x2 : Int32) {ls : Array Slot} {H : Heap} {locs : List Loc}, K35 I J x2 → hW D cA z Ev0 (I, J, T, FM, LM) A s H locs → lv_has ls 4 [(0, .ref (z + 0)), (1, .int x1), (2, .int x2)] → W p l e R s m args below meth c H locs 0 0 (MQ below (va_Qi (pIJ T FM LM Q) (hB D cA z A) A) args s 0 0 A) (F0 m 35 ls [])) : ∀ {ls : Array Slot} {H : Heap} {locs : List Loc}, M_expression_b206 I J x1 x2 K35 Q → hW D cA z Ev0 (I, J, T, FM, LM) A s H locs → lv_has ls 4 [(0, .ref (z + 0)), (1, .int x1), (2, .int x2)] → W p l e R s m args below meth c H locs 0 0 (MQ below (va_Qi (pIJ T FM LM Q) (hB D cA z A) A) args s 0 0 A) (F0 m 206 ls []) := by
  have hx := X.1
  have hb := X.2.1
  intro ls H locs h hw hl
  unfold M_expression_b206 at h
  refine lv_aload_n hx hb dX11_expression_206 rfl (lv_at hl 0 rfl) ?_
  refine lv_iconst (v := 5) hx hb dX11_expression_207 (by decide) ?_
  refine hm_callv hw (hm_runV (rest := []) hCl_true X hw (cM_drops  h) ykM_drops kw1690 rfl LM_0 rfl hl.1 rfl rfl rfl (Nat.le_of_ble_eq_true rfl) ⟨Nat.le_trans (Nat.le_of_ble_eq_true rfl) hR.1, Nat.le_trans (Nat.le_of_ble_eq_true rfl) hR.2⟩ ⟨Nat.zero_le _, Nat.zero_le _⟩ dX11_expression_208) (fun u35 H locs hp hw => ?_)
  obtain ⟨I34, rfl, h⟩ := hp
  refine lv_aload_n hx hb dX11_expression_211 rfl (lv_at hl 0 rfl) ?_
  refine lv_aload_n hx hb dX11_expression_212 rfl (lv_at hl 0 rfl) ?_
  refine lv_bipush (v := 43) hx hb dX11_expression_213 (by decide) ?_
  refine hm_calli hw (hm_runV (rest := [_]) hCl_true X hw (cM_isSign  h) ykM_isSign kw1670 rfl LM_0 rfl hl.1 rfl rfl rfl (Nat.le_of_ble_eq_true rfl) ⟨Nat.le_trans (Nat.le_of_ble_eq_true rfl) hR.1, Nat.le_trans (Nat.le_of_ble_eq_true rfl) hR.2⟩ ⟨Nat.zero_le _, Nat.zero_le _⟩ dX11_expression_215) (fun r36 u37 H locs hp hw => ?_)
  obtain ⟨rfl, h⟩ := hp
  refine lv_if_eq (tgt := 226) hx hb dX11_expression_218 (by decide) (fun hc => ?_) (fun hc => ?_)
  · have h := Eq.mp (if_pos hc) h
    refine lv_bipush (v := 9) hx hb dX11_expression_226 (by decide) ?_
    exact wkM_expression_b228 X hr hlk hR  hK35 h hw (lv_sub hl [0, 1, 2] rfl)
  · have h := Eq.mp (if_neg hc) h
    refine lv_bipush (v := 8) hx hb dX11_expression_221 (by decide) ?_
    refine lv_goto (tgt := 228) hx hb dX11_expression_223 (by decide) ?_
    exact wkM_expression_b228 X hr hlk hR  hK35 h hw (lv_sub hl [0, 1, 2] rfl)

theorem wkM_expression_b284 {I : HI} {J : HJ} {x1 : Int32} {x2 : Int32} {t0 : Int32} {K35 : HI → HJ → Int32 → Prop} {Q : Int32 → HI → HJ → Prop} (X : hX p m c s args RX11 cX11_expression 4) (hr : meth.sig.returnType = (some .int)) (hlk : meth.locks = false) (hR : 5 ≤ R.frames ∧ 114 ≤ R.locals)  (hK35 : ∀ (I : HI) (J : HJ) (x2 : Int32) {ls : Array Slot} {H : Heap} {locs : List Loc}, K35 I J x2 → hW D cA z Ev0 (I, J, T, FM, LM) A s H locs → lv_has ls 4 [(0, .ref (z + 0)), (1, .int x1), (2, .int x2)] → W p l e R s m args below meth c H locs 0 0 (MQ below (va_Qi (pIJ T FM LM Q) (hB D cA z A) A) args s 0 0 A) (F0 m 35 ls [])) : ∀ {ls : Array Slot} {H : Heap} {locs : List Loc}, M_expression_b284 I J x1 x2 t0 K35 Q → hW D cA z Ev0 (I, J, T, FM, LM) A s H locs → lv_has ls 4 [(0, .ref (z + 0)), (1, .int x1), (2, .int x2)] → W p l e R s m args below meth c H locs 0 0 (MQ below (va_Qi (pIJ T FM LM Q) (hB D cA z A) A) args s 0 0 A) (F0 m 284 ls [.int t0, .ref (z + 0)]) := by
  have hx := X.1
  have hb := X.2.1
  intro ls H locs h hw hl
  unfold M_expression_b284 at h
  refine hm_callv hw (hm_runV (rest := []) hCl_true X hw (cM_waitsFor  h) ykM_waitsFor kw1678 rfl LM_0 rfl hl.1 rfl rfl rfl (Nat.le_of_ble_eq_true rfl) ⟨Nat.le_trans (Nat.le_of_ble_eq_true rfl) hR.1, Nat.le_trans (Nat.le_of_ble_eq_true rfl) hR.2⟩ ⟨Nat.zero_le _, Nat.zero_le _⟩ dX11_expression_284) (fun u55 H locs hp hw => ?_)
  obtain ⟨I54, rfl, h⟩ := hp
  refine lv_aload_n hx hb dX11_expression_287 rfl (lv_at hl 0 rfl) ?_
  refine hm_callv hw (hm_runV (rest := []) hCl_true X hw (cM_goes  h) ykM_goes kw1622 rfl LM_0 rfl hl.1 rfl rfl rfl (Nat.le_of_ble_eq_true rfl) ⟨Nat.le_trans (Nat.le_of_ble_eq_true rfl) hR.1, Nat.le_trans (Nat.le_of_ble_eq_true rfl) hR.2⟩ ⟨Nat.zero_le _, Nat.zero_le _⟩ dX11_expression_288) (fun u58 H locs hp hw => ?_)
  obtain ⟨I56, J57, rfl, h⟩ := hp
  refine lv_aload_n hx hb dX11_expression_291 rfl (lv_at hl 0 rfl) ?_
  refine lv_iconst (v := 0) hx hb dX11_expression_292 (by decide) ?_
  refine hm_callv hw (hm_runV (rest := []) hCl_true X hw (cM_operand  h) ykM_operand kw1674 rfl LM_0 rfl hl.1 rfl rfl rfl (Nat.le_of_ble_eq_true rfl) ⟨Nat.le_trans (Nat.le_of_ble_eq_true rfl) hR.1, Nat.le_trans (Nat.le_of_ble_eq_true rfl) hR.2⟩ ⟨Nat.zero_le _, Nat.zero_le _⟩ dX11_expression_293) (fun u61 H locs hp hw => ?_)
  obtain ⟨I59, J60, rfl, h⟩ := hp
  refine lv_goto (tgt := 350) hx hb dX11_expression_296 (by decide) ?_
  refine lv_goto (tgt := 35) hx hb dX11_expression_350 (by decide) ?_
  exact hK35 _ _ _ h hw (lv_sub hl [0, 1, 2] rfl)

theorem wkM_expression_b261 {I : HI} {J : HJ} {x1 : Int32} {x2 : Int32} {K35 : HI → HJ → Int32 → Prop} {Q : Int32 → HI → HJ → Prop} (X : hX p m c s args RX11 cX11_expression 4) (hr : meth.sig.returnType = (some .int)) (hlk : meth.locks = false) (hR : 5 ≤ R.frames ∧ 114 ≤ R.locals)  (hK35 : ∀ (I : HI) (J : HJ) (x2 : Int32) {ls : Array Slot} {H : Heap} {locs : List Loc}, K35 I J x2 → hW D cA z Ev0 (I, J, T, FM, LM) A s H locs → lv_has ls 4 [(0, .ref (z + 0)), (1, .int x1), (2, .int x2)] → W p l e R s m args below meth c H locs 0 0 (MQ below (va_Qi (pIJ T FM LM Q) (hB D cA z A) A) args s 0 0 A) (F0 m 35 ls [])) : ∀ {ls : Array Slot} {H : Heap} {locs : List Loc}, M_expression_b261 I J x1 x2 K35 Q → hW D cA z Ev0 (I, J, T, FM, LM) A s H locs → lv_has ls 4 [(0, .ref (z + 0)), (1, .int x1), (2, .int x2)] → W p l e R s m args below meth c H locs 0 0 (MQ below (va_Qi (pIJ T FM LM Q) (hB D cA z A) A) args s 0 0 A) (F0 m 261 ls []) := by
  have hx := X.1
  have hb := X.2.1
  intro ls H locs h hw hl
  unfold M_expression_b261 at h
  refine lv_aload_n hx hb dX11_expression_261 rfl (lv_at hl 0 rfl) ?_
  refine lv_bipush (v := 6) hx hb dX11_expression_262 (by decide) ?_
  refine hm_callv hw (hm_runV (rest := []) hCl_true X hw (cM_drops  h) ykM_drops kw1690 rfl LM_0 rfl hl.1 rfl rfl rfl (Nat.le_of_ble_eq_true rfl) ⟨Nat.le_trans (Nat.le_of_ble_eq_true rfl) hR.1, Nat.le_trans (Nat.le_of_ble_eq_true rfl) hR.2⟩ ⟨Nat.zero_le _, Nat.zero_le _⟩ dX11_expression_264) (fun u51 H locs hp hw => ?_)
  obtain ⟨I50, rfl, h⟩ := hp
  refine lv_aload_n hx hb dX11_expression_267 rfl (lv_at hl 0 rfl) ?_
  refine lv_aload_n hx hb dX11_expression_268 rfl (lv_at hl 0 rfl) ?_
  refine lv_bipush (v := 42) hx hb dX11_expression_269 (by decide) ?_
  refine hm_calli hw (hm_runV (rest := [_]) hCl_true X hw (cM_isSign  h) ykM_isSign kw1670 rfl LM_0 rfl hl.1 rfl rfl rfl (Nat.le_of_ble_eq_true rfl) ⟨Nat.le_trans (Nat.le_of_ble_eq_true rfl) hR.1, Nat.le_trans (Nat.le_of_ble_eq_true rfl) hR.2⟩ ⟨Nat.zero_le _, Nat.zero_le _⟩ dX11_expression_271) (fun r52 u53 H locs hp hw => ?_)
  obtain ⟨rfl, h⟩ := hp
  refine lv_if_eq (tgt := 282) hx hb dX11_expression_274 (by decide) (fun hc => ?_) (fun hc => ?_)
  · have h := Eq.mp (if_pos hc) h
    refine lv_bipush (v := 11) hx hb dX11_expression_282 (by decide) ?_
    exact wkM_expression_b284 X hr hlk hR  hK35 h hw (lv_sub hl [0, 1, 2] rfl)
  · have h := Eq.mp (if_neg hc) h
    refine lv_bipush (v := 10) hx hb dX11_expression_277 (by decide) ?_
    refine lv_goto (tgt := 284) hx hb dX11_expression_279 (by decide) ?_
    exact wkM_expression_b284 X hr hlk hR  hK35 h hw (lv_sub hl [0, 1, 2] rfl)

theorem wkM_expression_b188 {I : HI} {J : HJ} {x1 : Int32} {x2 : Int32} {K35 : HI → HJ → Int32 → Prop} {Q : Int32 → HI → HJ → Prop} (X : hX p m c s args RX11 cX11_expression 4) (hr : meth.sig.returnType = (some .int)) (hlk : meth.locks = false) (hR : 5 ≤ R.frames ∧ 114 ≤ R.locals)  (hK35 : ∀ (I : HI) (J : HJ) (x2 : Int32) {ls : Array Slot} {H : Heap} {locs : List Loc}, K35 I J x2 → hW D cA z Ev0 (I, J, T, FM, LM) A s H locs → lv_has ls 4 [(0, .ref (z + 0)), (1, .int x1), (2, .int x2)] → W p l e R s m args below meth c H locs 0 0 (MQ below (va_Qi (pIJ T FM LM Q) (hB D cA z A) A) args s 0 0 A) (F0 m 35 ls [])) : ∀ {ls : Array Slot} {H : Heap} {locs : List Loc}, M_expression_b188 I J x1 x2 K35 Q → hW D cA z Ev0 (I, J, T, FM, LM) A s H locs → lv_has ls 4 [(0, .ref (z + 0)), (1, .int x1), (2, .int x2)] → W p l e R s m args below meth c H locs 0 0 (MQ below (va_Qi (pIJ T FM LM Q) (hB D cA z A) A) args s 0 0 A) (F0 m 188 ls []) := by
  have hx := X.1
  have hb := X.2.1
  intro ls H locs h hw hl
  unfold M_expression_b188 at h
  refine lv_aload_n hx hb dX11_expression_188 rfl (lv_at hl 0 rfl) ?_
  refine lv_bipush (v := 43) hx hb dX11_expression_189 (by decide) ?_
  refine hm_calli hw (hm_runV (rest := []) hCl_true X hw (cM_isSign  h) ykM_isSign kw1670 rfl LM_0 rfl hl.1 rfl rfl rfl (Nat.le_of_ble_eq_true rfl) ⟨Nat.le_trans (Nat.le_of_ble_eq_true rfl) hR.1, Nat.le_trans (Nat.le_of_ble_eq_true rfl) hR.2⟩ ⟨Nat.zero_le _, Nat.zero_le _⟩ dX11_expression_191) (fun r32 u33 H locs hp hw => ?_)
  obtain ⟨rfl, h⟩ := hp
  refine lv_if_ne (tgt := 206) hx hb dX11_expression_194 (by decide) (fun hc => ?_) (fun hc => ?_)
  · have h := Eq.mp (if_neg hc) h
    exact wkM_expression_b206 X hr hlk hR  hK35 h hw (lv_sub hl [0, 1, 2] rfl)
  · have h := Eq.mp (if_pos hc) h
    refine lv_aload_n hx hb dX11_expression_197 rfl (lv_at hl 0 rfl) ?_
    refine lv_bipush (v := 45) hx hb dX11_expression_198 (by decide) ?_
    refine hm_calli hw (hm_runV (rest := []) hCl_true X hw (cM_isSign  h) ykM_isSign kw1670 rfl LM_0 rfl hl.1 rfl rfl rfl (Nat.le_of_ble_eq_true rfl) ⟨Nat.le_trans (Nat.le_of_ble_eq_true rfl) hR.1, Nat.le_trans (Nat.le_of_ble_eq_true rfl) hR.2⟩ ⟨Nat.zero_le _, Nat.zero_le _⟩ dX11_expression_200) (fun r46 u47 H locs hp hw => ?_)
    obtain ⟨rfl, h⟩ := hp
    refine lv_if_eq (tgt := 243) hx hb dX11_expression_203 (by decide) (fun hc => ?_) (fun hc => ?_)
    · have h := Eq.mp (if_pos hc) h
      refine lv_aload_n hx hb dX11_expression_243 rfl (lv_at hl 0 rfl) ?_
      refine lv_bipush (v := 42) hx hb dX11_expression_244 (by decide) ?_
      refine hm_calli hw (hm_runV (rest := []) hCl_true X hw (cM_isSign  h) ykM_isSign kw1670 rfl LM_0 rfl hl.1 rfl rfl rfl (Nat.le_of_ble_eq_true rfl) ⟨Nat.le_trans (Nat.le_of_ble_eq_true rfl) hR.1, Nat.le_trans (Nat.le_of_ble_eq_true rfl) hR.2⟩ ⟨Nat.zero_le _, Nat.zero_le _⟩ dX11_expression_246) (fun r48 u49 H locs hp hw => ?_)
      obtain ⟨rfl, h⟩ := hp
      refine lv_if_ne (tgt := 261) hx hb dX11_expression_249 (by decide) (fun hc => ?_) (fun hc => ?_)
      · have h := Eq.mp (if_neg hc) h
        exact wkM_expression_b261 X hr hlk hR  hK35 h hw (lv_sub hl [0, 1, 2] rfl)
      · have h := Eq.mp (if_pos hc) h
        refine lv_aload_n hx hb dX11_expression_252 rfl (lv_at hl 0 rfl) ?_
        refine lv_bipush (v := 47) hx hb dX11_expression_253 (by decide) ?_
        refine hm_calli hw (hm_runV (rest := []) hCl_true X hw (cM_isSign  h) ykM_isSign kw1670 rfl LM_0 rfl hl.1 rfl rfl rfl (Nat.le_of_ble_eq_true rfl) ⟨Nat.le_trans (Nat.le_of_ble_eq_true rfl) hR.1, Nat.le_trans (Nat.le_of_ble_eq_true rfl) hR.2⟩ ⟨Nat.zero_le _, Nat.zero_le _⟩ dX11_expression_255) (fun r62 u63 H locs hp hw => ?_)
        obtain ⟨rfl, h⟩ := hp
        refine lv_if_eq (tgt := 299) hx hb dX11_expression_258 (by decide) (fun hc => ?_) (fun hc => ?_)
        · have h := Eq.mp (if_pos hc) h
          refine lv_aload_n hx hb dX11_expression_299 rfl (lv_at hl 0 rfl) ?_
          refine lv_bipush (v := 41) hx hb dX11_expression_300 (by decide) ?_
          refine hm_calli hw (hm_runV (rest := []) hCl_true X hw (cM_isSign  h) ykM_isSign kw1670 rfl LM_0 rfl hl.1 rfl rfl rfl (Nat.le_of_ble_eq_true rfl) ⟨Nat.le_trans (Nat.le_of_ble_eq_true rfl) hR.1, Nat.le_trans (Nat.le_of_ble_eq_true rfl) hR.2⟩ ⟨Nat.zero_le _, Nat.zero_le _⟩ dX11_expression_302) (fun r64 u65 H locs hp hw => ?_)
          obtain ⟨rfl, h⟩ := hp
          refine lv_if_eq (tgt := 348) hx hb dX11_expression_305 (by decide) (fun hc => ?_) (fun hc => ?_)
          · have h := Eq.mp (if_pos hc) h
            refine lv_iconst (v := 0) hx hb dX11_expression_348 (by decide) ?_
            refine lv_istore_n (lv' := [(2, _), (0, _), (1, _)]) hx hb dX11_expression_349 rfl hl (by decide) rfl (fun ls hl => ?_)
            refine lv_goto (tgt := 35) hx hb dX11_expression_350 (by decide) ?_
            exact hK35 _ _ _ h hw (lv_sub hl [1, 2, 0] rfl)
          · have h := Eq.mp (if_neg hc) h
            refine lv_aload_n hx hb dX11_expression_308 rfl (lv_at hl 0 rfl) ?_
            refine hm_geti X hw lkM_293 LM_0 dX11_expression_309 ?_
            refine lv_iconst (v := 1) hx hb dX11_expression_312 (by decide) ?_
            refine lv_icmp_le (tgt := 348) hx hb dX11_expression_313 (by decide) (fun hc => ?_) (fun hc => ?_)
            · have h := Eq.mp (if_pos hc) h
              refine lv_iconst (v := 0) hx hb dX11_expression_348 (by decide) ?_
              refine lv_istore_n (lv' := [(2, _), (0, _), (1, _)]) hx hb dX11_expression_349 rfl hl (by decide) rfl (fun ls hl => ?_)
              refine lv_goto (tgt := 35) hx hb dX11_expression_350 (by decide) ?_
              exact hK35 _ _ _ h hw (lv_sub hl [1, 2, 0] rfl)
            · have h := Eq.mp (if_neg hc) h
              refine lv_aload_n hx hb dX11_expression_316 rfl (lv_at hl 0 rfl) ?_
              refine lv_iconst (v := 0) hx hb dX11_expression_317 (by decide) ?_
              refine hm_callv hw (hm_runV (rest := []) hCl_true X hw (cM_drops  h) ykM_drops kw1690 rfl LM_0 rfl hl.1 rfl rfl rfl (Nat.le_of_ble_eq_true rfl) ⟨Nat.le_trans (Nat.le_of_ble_eq_true rfl) hR.1, Nat.le_trans (Nat.le_of_ble_eq_true rfl) hR.2⟩ ⟨Nat.zero_le _, Nat.zero_le _⟩ dX11_expression_318) (fun u67 H locs hp hw => ?_)
              obtain ⟨I66, rfl, h⟩ := hp
              refine lv_aload_n hx hb dX11_expression_321 rfl (lv_at hl 0 rfl) ?_
              refine lv_dup hx hb dX11_expression_322 rfl ?_
              refine hm_geti X hw lkM_268 LM_0 dX11_expression_323 ?_
              refine lv_iconst (v := 1) hx hb dX11_expression_326 (by decide) ?_
              refine lv_isub hx hb dX11_expression_327 ?_
              refine hm_puti X hw lkM_268 LM_0 rfl rfl dX11_expression_328 (fun H locs hw => ?_)
              refine lv_aload_n hx hb dX11_expression_331 rfl (lv_at hl 0 rfl) ?_
              refine lv_dup hx hb dX11_expression_332 rfl ?_
              refine hm_geti X hw lkM_293 LM_0 dX11_expression_333 ?_
              refine lv_iconst (v := 1) hx hb dX11_expression_336 (by decide) ?_
              refine lv_isub hx hb dX11_expression_337 ?_
              refine hm_puti X hw lkM_293 LM_0 rfl rfl dX11_expression_338 (fun H locs hw => ?_)
              refine lv_aload_n hx hb dX11_expression_341 rfl (lv_at hl 0 rfl) ?_
              refine hm_callv hw (hm_runV (rest := []) hCl_true X hw (cM_goes  h) ykM_goes kw1622 rfl LM_0 rfl hl.1 rfl rfl rfl (Nat.le_of_ble_eq_true rfl) ⟨Nat.le_trans (Nat.le_of_ble_eq_true rfl) hR.1, Nat.le_trans (Nat.le_of_ble_eq_true rfl) hR.2⟩ ⟨Nat.zero_le _, Nat.zero_le _⟩ dX11_expression_342) (fun u70 H locs hp hw => ?_)
              obtain ⟨I68, J69, rfl, h⟩ := hp
              refine lv_goto (tgt := 350) hx hb dX11_expression_345 (by decide) ?_
              refine lv_goto (tgt := 35) hx hb dX11_expression_350 (by decide) ?_
              exact hK35 _ _ _ h hw (lv_sub hl [0, 1, 2] rfl)
        · have h := Eq.mp (if_neg hc) h
          exact wkM_expression_b261 X hr hlk hR  hK35 h hw (lv_sub hl [0, 1, 2] rfl)
    · have h := Eq.mp (if_neg hc) h
      exact wkM_expression_b206 X hr hlk hR  hK35 h hw (lv_sub hl [0, 1, 2] rfl)

theorem wkM_expression_b163 {I : HI} {J : HJ} {x1 : Int32} {x2 : Int32} {t0 : Int32} {K35 : HI → HJ → Int32 → Prop} {Q : Int32 → HI → HJ → Prop} (X : hX p m c s args RX11 cX11_expression 4) (hr : meth.sig.returnType = (some .int)) (hlk : meth.locks = false) (hR : 5 ≤ R.frames ∧ 114 ≤ R.locals)  (hK35 : ∀ (I : HI) (J : HJ) (x2 : Int32) {ls : Array Slot} {H : Heap} {locs : List Loc}, K35 I J x2 → hW D cA z Ev0 (I, J, T, FM, LM) A s H locs → lv_has ls 4 [(0, .ref (z + 0)), (1, .int x1), (2, .int x2)] → W p l e R s m args below meth c H locs 0 0 (MQ below (va_Qi (pIJ T FM LM Q) (hB D cA z A) A) args s 0 0 A) (F0 m 35 ls [])) : ∀ {ls : Array Slot} {H : Heap} {locs : List Loc}, M_expression_b163 I J x1 x2 t0 K35 Q → hW D cA z Ev0 (I, J, T, FM, LM) A s H locs → lv_has ls 4 [(0, .ref (z + 0)), (1, .int x1), (2, .int x2)] → W p l e R s m args below meth c H locs 0 0 (MQ below (va_Qi (pIJ T FM LM Q) (hB D cA z A) A) args s 0 0 A) (F0 m 163 ls [.int t0, .ref (z + 0)]) := by
  have hx := X.1
  have hb := X.2.1
  intro ls H locs h hw hl
  unfold M_expression_b163 at h
  refine hm_callv hw (hm_runV (rest := []) hCl_true X hw (cM_waitsFor  h) ykM_waitsFor kw1678 rfl LM_0 rfl hl.1 rfl rfl rfl (Nat.le_of_ble_eq_true rfl) ⟨Nat.le_trans (Nat.le_of_ble_eq_true rfl) hR.1, Nat.le_trans (Nat.le_of_ble_eq_true rfl) hR.2⟩ ⟨Nat.zero_le _, Nat.zero_le _⟩ dX11_expression_163) (fun u76 H locs hp hw => ?_)
  obtain ⟨I75, rfl, h⟩ := hp
  refine lv_aload_n hx hb dX11_expression_166 rfl (lv_at hl 0 rfl) ?_
  refine hm_getr X hw lkM_71 LM_0 (b := 16) rfl dX11_expression_167 ?_
  refine lv_aload_n hx hb dX11_expression_170 rfl (lv_at hl 0 rfl) ?_
  refine hm_geti X hw lkM_293 LM_0 dX11_expression_171 ?_
  refine lv_iconst (v := 1) hx hb dX11_expression_174 (by decide) ?_
  obtain ⟨hi, h⟩ := h
  refine hm_zast X hw LM_16 hi dX11_expression_175 (fun H locs hw => ?_)
  refine lv_aload_n hx hb dX11_expression_176 rfl (lv_at hl 0 rfl) ?_
  refine hm_callv hw (hm_runV (rest := []) hCl_true X hw (cM_goes  h) ykM_goes kw1622 rfl LM_0 rfl hl.1 rfl rfl rfl (Nat.le_of_ble_eq_true rfl) ⟨Nat.le_trans (Nat.le_of_ble_eq_true rfl) hR.1, Nat.le_trans (Nat.le_of_ble_eq_true rfl) hR.2⟩ ⟨Nat.zero_le _, Nat.zero_le _⟩ dX11_expression_177) (fun u79 H locs hp hw => ?_)
  obtain ⟨I77, J78, rfl, h⟩ := hp
  refine lv_aload_n hx hb dX11_expression_180 rfl (lv_at hl 0 rfl) ?_
  refine lv_iconst (v := 0) hx hb dX11_expression_181 (by decide) ?_
  refine hm_callv hw (hm_runV (rest := []) hCl_true X hw (cM_operand  h) ykM_operand kw1674 rfl LM_0 rfl hl.1 rfl rfl rfl (Nat.le_of_ble_eq_true rfl) ⟨Nat.le_trans (Nat.le_of_ble_eq_true rfl) hR.1, Nat.le_trans (Nat.le_of_ble_eq_true rfl) hR.2⟩ ⟨Nat.zero_le _, Nat.zero_le _⟩ dX11_expression_182) (fun u82 H locs hp hw => ?_)
  obtain ⟨I80, J81, rfl, h⟩ := hp
  refine lv_goto (tgt := 350) hx hb dX11_expression_185 (by decide) ?_
  refine lv_goto (tgt := 35) hx hb dX11_expression_350 (by decide) ?_
  exact hK35 _ _ _ h hw (lv_sub hl [0, 1, 2] rfl)

theorem wkM_expression_b129 {I : HI} {J : HJ} {x1 : Int32} {x2 : Int32} {K35 : HI → HJ → Int32 → Prop} {Q : Int32 → HI → HJ → Prop} (X : hX p m c s args RX11 cX11_expression 4) (hr : meth.sig.returnType = (some .int)) (hlk : meth.locks = false) (hR : 5 ≤ R.frames ∧ 114 ≤ R.locals)  (hK35 : ∀ (I : HI) (J : HJ) (x2 : Int32) {ls : Array Slot} {H : Heap} {locs : List Loc}, K35 I J x2 → hW D cA z Ev0 (I, J, T, FM, LM) A s H locs → lv_has ls 4 [(0, .ref (z + 0)), (1, .int x1), (2, .int x2)] → W p l e R s m args below meth c H locs 0 0 (MQ below (va_Qi (pIJ T FM LM Q) (hB D cA z A) A) args s 0 0 A) (F0 m 35 ls [])) : ∀ {ls : Array Slot} {H : Heap} {locs : List Loc}, M_expression_b129 I J x1 x2 K35 Q → hW D cA z Ev0 (I, J, T, FM, LM) A s H locs → lv_has ls 4 [(0, .ref (z + 0)), (1, .int x1), (2, .int x2)] → W p l e R s m args below meth c H locs 0 0 (MQ below (va_Qi (pIJ T FM LM Q) (hB D cA z A) A) args s 0 0 A) (F0 m 129 ls []) := by
  have hx := X.1
  have hb := X.2.1
  intro ls H locs h hw hl
  unfold M_expression_b129 at h
  refine lv_aload_n hx hb dX11_expression_129 rfl (lv_at hl 0 rfl) ?_
  refine hm_getr X hw lkM_71 LM_0 (b := 16) rfl dX11_expression_130 ?_
  refine lv_aload_n hx hb dX11_expression_133 rfl (lv_at hl 0 rfl) ?_
  refine hm_geti X hw lkM_293 LM_0 dX11_expression_134 ?_
  obtain ⟨hi, h⟩ := h
  refine hm_zald X hw LM_16 hi dX11_expression_137 ?_
  refine lv_if_ne (tgt := 188) hx hb dX11_expression_138 (by decide) (fun hc => ?_) (fun hc => ?_)
  · have h := Eq.mp (if_neg hc) h
    exact wkM_expression_b188 X hr hlk hR  hK35 h hw (lv_sub hl [0, 1, 2] rfl)
  · have h := Eq.mp (if_pos hc) h
    refine lv_aload_n hx hb dX11_expression_141 rfl (lv_at hl 0 rfl) ?_
    refine lv_iconst (v := 4) hx hb dX11_expression_142 (by decide) ?_
    refine hm_callv hw (hm_runV (rest := []) hCl_true X hw (cM_drops  h) ykM_drops kw1690 rfl LM_0 rfl hl.1 rfl rfl rfl (Nat.le_of_ble_eq_true rfl) ⟨Nat.le_trans (Nat.le_of_ble_eq_true rfl) hR.1, Nat.le_trans (Nat.le_of_ble_eq_true rfl) hR.2⟩ ⟨Nat.zero_le _, Nat.zero_le _⟩ dX11_expression_143) (fun u72 H locs hp hw => ?_)
    obtain ⟨I71, rfl, h⟩ := hp
    refine lv_aload_n hx hb dX11_expression_146 rfl (lv_at hl 0 rfl) ?_
    refine lv_aload_n hx hb dX11_expression_147 rfl (lv_at hl 0 rfl) ?_
    refine lv_bipush (v := 60) hx hb dX11_expression_148 (by decide) ?_
    refine hm_calli hw (hm_runV (rest := [_]) hCl_true X hw (cM_isSign  h) ykM_isSign kw1670 rfl LM_0 rfl hl.1 rfl rfl rfl (Nat.le_of_ble_eq_true rfl) ⟨Nat.le_trans (Nat.le_of_ble_eq_true rfl) hR.1, Nat.le_trans (Nat.le_of_ble_eq_true rfl) hR.2⟩ ⟨Nat.zero_le _, Nat.zero_le _⟩ dX11_expression_150) (fun r73 u74 H locs hp hw => ?_)
    obtain ⟨rfl, h⟩ := hp
    refine lv_if_eq (tgt := 161) hx hb dX11_expression_153 (by decide) (fun hc => ?_) (fun hc => ?_)
    · have h := Eq.mp (if_pos hc) h
      refine lv_bipush (v := 7) hx hb dX11_expression_161 (by decide) ?_
      exact wkM_expression_b163 X hr hlk hR  hK35 h hw (lv_sub hl [0, 1, 2] rfl)
    · have h := Eq.mp (if_neg hc) h
      refine lv_bipush (v := 6) hx hb dX11_expression_156 (by decide) ?_
      refine lv_goto (tgt := 163) hx hb dX11_expression_158 (by decide) ?_
      exact wkM_expression_b163 X hr hlk hR  hK35 h hw (lv_sub hl [0, 1, 2] rfl)

theorem wkM_expression_l35 {x1 : Int32} {Q : Int32 → HI → HJ → Prop} (X : hX p m c s args RX11 cX11_expression 4) (hr : meth.sig.returnType = (some .int)) (hlk : meth.locks = false) (hR : 5 ≤ R.frames ∧ 114 ≤ R.locals)   : ∀ (n : Nat) (I : HI) (J : HJ) (x2 : Int32) {ls : Array Slot} {H : Heap} {locs : List Loc}, M_expression_l35 x1 Q n I J x2 → hW D cA z Ev0 (I, J, T, FM, LM) A s H locs → lv_has ls 4 [(0, .ref (z + 0)), (1, .int x1), (2, .int x2)] → W p l e R s m args below meth c H locs 0 0 (MQ below (va_Qi (pIJ T FM LM Q) (hB D cA z A) A) args s 0 0 A) (F0 m 35 ls []) := by
  have hx := X.1
  have hb := X.2.1
  intro n
  induction n with
  | zero => intro I J x2 ls H locs h; exact False.elim h
  | succ n ih =>
    intro I J x2 ls H locs h hw hl
    rw [M_expression_l35] at h
    refine lv_iload_n hx hb dX11_expression_35 rfl (lv_at hl 2 rfl) ?_
    refine lv_if_eq (tgt := 353) hx hb dX11_expression_36 (by decide) (fun hc => ?_) (fun hc => ?_)
    · have h := Eq.mp (if_pos hc) h
      exact wkM_expression_b353 X hr hlk hR   h hw (lv_sub hl [0, 1] rfl)
    · have h := Eq.mp (if_neg hc) h
      refine lv_aload_n hx hb dX11_expression_39 rfl (lv_at hl 0 rfl) ?_
      refine hm_calli hw (hm_runV (rest := []) hCl_true X hw (cM_isGood  h) ykM_isGood kw1636 rfl LM_0 rfl hl.1 rfl rfl rfl (Nat.le_of_ble_eq_true rfl) ⟨Nat.le_trans (Nat.le_of_ble_eq_true rfl) hR.1, Nat.le_trans (Nat.le_of_ble_eq_true rfl) hR.2⟩ ⟨Nat.zero_le _, Nat.zero_le _⟩ dX11_expression_40) (fun r16 u17 H locs hp hw => ?_)
      obtain ⟨rfl, h⟩ := hp
      refine lv_if_eq (tgt := 353) hx hb dX11_expression_43 (by decide) (fun hc => ?_) (fun hc => ?_)
      · have h := Eq.mp (if_pos hc) h
        exact wkM_expression_b353 X hr hlk hR   h hw (lv_sub hl [0, 1] rfl)
      · have h := Eq.mp (if_neg hc) h
        refine lv_aload_n hx hb dX11_expression_46 rfl (lv_at hl 0 rfl) ?_
        refine hm_calli hw (hm_runV (rest := []) hCl_true X hw (cM_knownWord  h) ykM_knownWord kw1644 rfl LM_0 rfl hl.1 rfl rfl rfl (Nat.le_of_ble_eq_true rfl) ⟨Nat.le_trans (Nat.le_of_ble_eq_true rfl) hR.1, Nat.le_trans (Nat.le_of_ble_eq_true rfl) hR.2⟩ ⟨Nat.zero_le _, Nat.zero_le _⟩ dX11_expression_47) (fun r18 u19 H locs hp hw => ?_)
        obtain ⟨rfl, h⟩ := hp
        refine lv_istore_n (lv' := [(3, _), (0, _), (1, _), (2, _)]) hx hb dX11_expression_50 rfl hl (by decide) rfl (fun ls hl => ?_)
        refine lv_iload_n hx hb dX11_expression_51 rfl (lv_at hl 0 rfl) ?_
        refine lv_iconst (v := 3) hx hb dX11_expression_52 (by decide) ?_
        refine lv_icmp_eq (tgt := 61) hx hb dX11_expression_53 (by decide) (fun hc => ?_) (fun hc => ?_)
        · have h := Eq.mp (if_pos hc) h
          exact wkM_expression_b61 X hr hlk hR  ih h hw (lv_sub hl [1, 2, 3, 0] rfl)
        · have h := Eq.mp (if_neg hc) h
          refine lv_iload_n hx hb dX11_expression_56 rfl (lv_at hl 0 rfl) ?_
          refine lv_iconst (v := 4) hx hb dX11_expression_57 (by decide) ?_
          refine lv_icmp_ne (tgt := 111) hx hb dX11_expression_58 (by decide) (fun hc => ?_) (fun hc => ?_)
          · have h := Eq.mp (if_neg hc) h
            refine lv_aload_n hx hb dX11_expression_111 rfl (lv_at hl 1 rfl) ?_
            refine lv_bipush (v := 60) hx hb dX11_expression_112 (by decide) ?_
            refine hm_calli hw (hm_runV (rest := []) hCl_true X hw (cM_isSign  h) ykM_isSign kw1670 rfl LM_0 rfl hl.1 rfl rfl rfl (Nat.le_of_ble_eq_true rfl) ⟨Nat.le_trans (Nat.le_of_ble_eq_true rfl) hR.1, Nat.le_trans (Nat.le_of_ble_eq_true rfl) hR.2⟩ ⟨Nat.zero_le _, Nat.zero_le _⟩ dX11_expression_114) (fun r30 u31 H locs hp hw => ?_)
            obtain ⟨rfl, h⟩ := hp
            refine lv_if_ne (tgt := 129) hx hb dX11_expression_117 (by decide) (fun hc => ?_) (fun hc => ?_)
            · have h := Eq.mp (if_neg hc) h
              exact wkM_expression_b129 X hr hlk hR  ih h hw (lv_sub hl [1, 2, 3] rfl)
            · have h := Eq.mp (if_pos hc) h
              refine lv_aload_n hx hb dX11_expression_120 rfl (lv_at hl 1 rfl) ?_
              refine lv_bipush (v := 61) hx hb dX11_expression_121 (by decide) ?_
              refine hm_calli hw (hm_runV (rest := []) hCl_true X hw (cM_isSign  h) ykM_isSign kw1670 rfl LM_0 rfl hl.1 rfl rfl rfl (Nat.le_of_ble_eq_true rfl) ⟨Nat.le_trans (Nat.le_of_ble_eq_true rfl) hR.1, Nat.le_trans (Nat.le_of_ble_eq_true rfl) hR.2⟩ ⟨Nat.zero_le _, Nat.zero_le _⟩ dX11_expression_123) (fun r83 u84 H locs hp hw => ?_)
              obtain ⟨rfl, h⟩ := hp
              refine lv_if_eq (tgt := 188) hx hb dX11_expression_126 (by decide) (fun hc => ?_) (fun hc => ?_)
              · have h := Eq.mp (if_pos hc) h
                exact wkM_expression_b188 X hr hlk hR  ih h hw (lv_sub hl [1, 2, 3] rfl)
              · have h := Eq.mp (if_neg hc) h
                exact wkM_expression_b129 X hr hlk hR  ih h hw (lv_sub hl [1, 2, 3] rfl)
          · have h := Eq.mp (if_pos hc) h
            exact wkM_expression_b61 X hr hlk hR  ih h hw (lv_sub hl [1, 2, 3, 0] rfl)

theorem cM_expression {l : Launch} {D : va_G} {cA : Nat → ClassId} {z sz : Nat} {I : HI} {J : HJ}  {Q : Int32 → HI → HJ → Prop}  (h : M_expression I J  Q) : Met l yX11_expression (hws0 yX11_expression cX11_expression 4 (some .int)) { frames := 5, cells := 0, slots := 0, locals := 114 } (hPc D cA z Ev0 (I, J, T, FM, LM) sz [.ref (z + 0)]) (va_Qi (pIJ T FM LM Q) (hB D cA z (hA z LM sz)) (hA z LM sz)) 0 0 (hA z LM sz) := by
  refine hm_met (I, J, T, FM, LM) [.ref (z + 0)] rfl (by decide) (Nat.le_of_ble_eq_true rfl) ?_
  intro p e s m below meth c ls X hr hlk hnm hxt hsz hw hl
  have hl : lv_has ls 4 [(0, .ref (z + 0))] := hl
  have hR : 5 ≤ ({ frames := 5, cells := 0, slots := 0, locals := 114 } : Room).frames ∧ 114 ≤ ({ frames := 5, cells := 0, slots := 0, locals := 114 } : Room).locals := ⟨Nat.le_refl _, Nat.le_refl _⟩
  generalize ({ frames := 5, cells := 0, slots := 0, locals := 114 } : Room) = R at hR ⊢
  clear hsz
  generalize (hA z LM sz) = A at hw ⊢
  have hx := X.1
  have hb := X.2.1
  unfold M_expression at h
  refine lv_aload_n hx hb dX11_expression_0 rfl (lv_at hl 0 rfl) ?_
  refine hm_geti X hw lkM_265 LM_0 dX11_expression_1 ?_
  refine lv_istore_n (lv' := [(1, _), (0, _)]) hx hb dX11_expression_4 rfl hl (by decide) rfl (fun ls hl => ?_)
  refine lv_aload_n hx hb dX11_expression_5 rfl (lv_at hl 1 rfl) ?_
  refine hm_calli hw (hm_runV (rest := []) hCl_true X hw (cM_isGood  h) ykM_isGood kw1636 rfl LM_0 rfl hl.1 rfl rfl rfl (Nat.le_of_ble_eq_true rfl) ⟨Nat.le_trans (Nat.le_of_ble_eq_true rfl) hR.1, Nat.le_trans (Nat.le_of_ble_eq_true rfl) hR.2⟩ ⟨Nat.zero_le _, Nat.zero_le _⟩ dX11_expression_6) (fun r1 u2 H locs hp hw => ?_)
  obtain ⟨rfl, h⟩ := hp
  refine lv_if_ne (tgt := 14) hx hb dX11_expression_9 (by decide) (fun hc => ?_) (fun hc => ?_)
  · have h := Eq.mp (if_neg hc) h
    refine lv_aload_n hx hb dX11_expression_14 rfl (lv_at hl 1 rfl) ?_
    refine lv_iconst (v := 0) hx hb dX11_expression_15 (by decide) ?_
    refine hm_puti X hw lkM_268 LM_0 rfl rfl dX11_expression_16 (fun H locs hw => ?_)
    refine lv_aload_n hx hb dX11_expression_19 rfl (lv_at hl 1 rfl) ?_
    refine lv_iconst (v := 0) hx hb dX11_expression_20 (by decide) ?_
    refine hm_puti X hw lkM_293 LM_0 rfl rfl dX11_expression_21 (fun H locs hw => ?_)
    refine lv_aload_n hx hb dX11_expression_24 rfl (lv_at hl 1 rfl) ?_
    refine hm_callv hw (hm_runV (rest := []) hCl_true X hw (cM_begins  h) ykM_begins kw1666 rfl LM_0 rfl hl.1 rfl rfl rfl (Nat.le_of_ble_eq_true rfl) ⟨Nat.le_trans (Nat.le_of_ble_eq_true rfl) hR.1, Nat.le_trans (Nat.le_of_ble_eq_true rfl) hR.2⟩ ⟨Nat.zero_le _, Nat.zero_le _⟩ dX11_expression_25) (fun u4 H locs hp hw => ?_)
    obtain ⟨I3, rfl, h⟩ := hp
    refine lv_aload_n hx hb dX11_expression_28 rfl (lv_at hl 1 rfl) ?_
    refine lv_iconst (v := 1) hx hb dX11_expression_29 (by decide) ?_
    refine hm_callv hw (hm_runV (rest := []) hCl_true X hw (cM_operand  h) ykM_operand kw1674 rfl LM_0 rfl hl.1 rfl rfl rfl (Nat.le_of_ble_eq_true rfl) ⟨Nat.le_trans (Nat.le_of_ble_eq_true rfl) hR.1, Nat.le_trans (Nat.le_of_ble_eq_true rfl) hR.2⟩ ⟨Nat.zero_le _, Nat.zero_le _⟩ dX11_expression_30) (fun u7 H locs hp hw => ?_)
    obtain ⟨I5, J6, rfl, h⟩ := hp
    refine lv_iconst (v := 1) hx hb dX11_expression_33 (by decide) ?_
    refine lv_istore_n (lv' := [(2, _), (1, _), (0, _)]) hx hb dX11_expression_34 rfl hl (by decide) rfl (fun ls hl => ?_)
    obtain ⟨n2, h⟩ := h
    exact wkM_expression_l35 X hr hlk hR   n2 _ _ _ h hw (lv_sub hl [2, 1, 0] rfl)
  · have h := Eq.mp (if_pos hc) h
    refine lv_iload_n hx hb dX11_expression_12 rfl (lv_at hl 0 rfl) ?_
    exact hm_iret X hr hlk hw ⟨_, _, rfl, h⟩ dX11_expression_13

end
