theorem dX11_steps_0 : decode cX11_steps 0 = .ok (.aload_n 0, 1) := by decide +kernel
theorem dX11_steps_1 : decode cX11_steps 1 = .ok (.iconst 0, 1) := by decide +kernel
theorem dX11_steps_2 : decode cX11_steps 2 = .ok (.putfield 174, 3) := by decide +kernel
theorem dX11_steps_5 : decode cX11_steps 5 = .ok (.aload_n 0, 1) := by decide +kernel
theorem dX11_steps_6 : decode cX11_steps 6 = .ok (.getfield 109, 3) := by decide +kernel
theorem dX11_steps_9 : decode cX11_steps 9 = .ok (.ireturn, 1) := by decide +kernel
theorem dX11_isWonBy_0 : decode cX11_isWonBy 0 = .ok (.iconst 0, 1) := by decide +kernel
theorem dX11_isWonBy_1 : decode cX11_isWonBy 1 = .ok (.istore_n 2, 1) := by decide +kernel
theorem dX11_isWonBy_2 : decode cX11_isWonBy 2 = .ok (.iconst 0, 1) := by decide +kernel
theorem dX11_isWonBy_3 : decode cX11_isWonBy 3 = .ok (.istore_n 3, 1) := by decide +kernel
theorem dX11_isWonBy_4 : decode cX11_isWonBy 4 = .ok (.iload_n 3, 1) := by decide +kernel
theorem dX11_isWonBy_5 : decode cX11_isWonBy 5 = .ok (.aload_n 0, 1) := by decide +kernel
theorem dX11_isWonBy_6 : decode cX11_isWonBy 6 = .ok (.getfield 7, 3) := by decide +kernel
theorem dX11_isWonBy_9 : decode cX11_isWonBy 9 = .ok (.if_icmp .ge 40, 3) := by decide +kernel
theorem dX11_isWonBy_12 : decode cX11_isWonBy 12 = .ok (.aload_n 0, 1) := by decide +kernel
theorem dX11_isWonBy_13 : decode cX11_isWonBy 13 = .ok (.getfield 118, 3) := by decide +kernel
theorem dX11_isWonBy_16 : decode cX11_isWonBy 16 = .ok (.bipush 8, 2) := by decide +kernel
theorem dX11_isWonBy_18 : decode cX11_isWonBy 18 = .ok (.iload_n 1, 1) := by decide +kernel
theorem dX11_isWonBy_19 : decode cX11_isWonBy 19 = .ok (.imul, 1) := by decide +kernel
theorem dX11_isWonBy_20 : decode cX11_isWonBy 20 = .ok (.iload_n 3, 1) := by decide +kernel
theorem dX11_isWonBy_21 : decode cX11_isWonBy 21 = .ok (.iadd, 1) := by decide +kernel
theorem dX11_isWonBy_22 : decode cX11_isWonBy 22 = .ok (.iaload, 1) := by decide +kernel
theorem dX11_isWonBy_23 : decode cX11_isWonBy 23 = .ok (.aload_n 0, 1) := by decide +kernel
theorem dX11_isWonBy_24 : decode cX11_isWonBy 24 = .ok (.getfield 13, 3) := by decide +kernel
theorem dX11_isWonBy_27 : decode cX11_isWonBy 27 = .ok (.irem, 1) := by decide +kernel
theorem dX11_isWonBy_28 : decode cX11_isWonBy 28 = .ok (.aload_n 0, 1) := by decide +kernel
theorem dX11_isWonBy_29 : decode cX11_isWonBy 29 = .ok (.getfield 115, 3) := by decide +kernel
theorem dX11_isWonBy_32 : decode cX11_isWonBy 32 = .ok (.iload_n 3, 1) := by decide +kernel
theorem dX11_isWonBy_33 : decode cX11_isWonBy 33 = .ok (.iaload, 1) := by decide +kernel
theorem dX11_isWonBy_34 : decode cX11_isWonBy 34 = .ok (.if_icmp .ne 9, 3) := by decide +kernel
theorem dX11_isWonBy_37 : decode cX11_isWonBy 37 = .ok (.iload_n 2, 1) := by decide +kernel
theorem dX11_isWonBy_38 : decode cX11_isWonBy 38 = .ok (.iconst 1, 1) := by decide +kernel
theorem dX11_isWonBy_39 : decode cX11_isWonBy 39 = .ok (.iload_n 3, 1) := by decide +kernel
theorem dX11_isWonBy_40 : decode cX11_isWonBy 40 = .ok (.ishl, 1) := by decide +kernel
theorem dX11_isWonBy_41 : decode cX11_isWonBy 41 = .ok (.ior, 1) := by decide +kernel
theorem dX11_isWonBy_42 : decode cX11_isWonBy 42 = .ok (.istore_n 2, 1) := by decide +kernel
theorem dX11_isWonBy_43 : decode cX11_isWonBy 43 = .ok (.iinc 3 1, 3) := by decide +kernel
theorem dX11_isWonBy_46 : decode cX11_isWonBy 46 = .ok (.goto (-42), 3) := by decide +kernel
theorem dX11_isWonBy_49 : decode cX11_isWonBy 49 = .ok (.aload_n 0, 1) := by decide +kernel
theorem dX11_isWonBy_50 : decode cX11_isWonBy 50 = .ok (.iload_n 2, 1) := by decide +kernel
theorem dX11_isWonBy_51 : decode cX11_isWonBy 51 = .ok (.aload_n 0, 1) := by decide +kernel
theorem dX11_isWonBy_52 : decode cX11_isWonBy 52 = .ok (.invokevirtual 187, 3) := by decide +kernel
theorem dX11_isWonBy_55 : decode cX11_isWonBy 55 = .ok (.iload_n 2, 1) := by decide +kernel
theorem dX11_isWonBy_56 : decode cX11_isWonBy 56 = .ok (.iconst (-1), 1) := by decide +kernel
theorem dX11_isWonBy_57 : decode cX11_isWonBy 57 = .ok (.ixor, 1) := by decide +kernel
theorem dX11_isWonBy_58 : decode cX11_isWonBy 58 = .ok (.iand, 1) := by decide +kernel
theorem dX11_isWonBy_59 : decode cX11_isWonBy 59 = .ok (.invokevirtual 366, 3) := by decide +kernel
theorem dX11_isWonBy_62 : decode cX11_isWonBy 62 = .ok (.ireturn, 1) := by decide +kernel
theorem dX11_sums_0 : decode cX11_sums 0 = .ok (.aload_n 0, 1) := by decide +kernel
theorem dX11_sums_1 : decode cX11_sums 1 = .ok (.iconst 0, 1) := by decide +kernel
theorem dX11_sums_2 : decode cX11_sums 2 = .ok (.putfield 174, 3) := by decide +kernel
theorem dX11_sums_5 : decode cX11_sums 5 = .ok (.aload_n 0, 1) := by decide +kernel
theorem dX11_sums_6 : decode cX11_sums 6 = .ok (.aload_n 0, 1) := by decide +kernel
theorem dX11_sums_7 : decode cX11_sums 7 = .ok (.invokevirtual 388, 3) := by decide +kernel
theorem dX11_sums_10 : decode cX11_sums 10 = .ok (.ifCond .eq 17, 3) := by decide +kernel
theorem dX11_sums_13 : decode cX11_sums 13 = .ok (.aload_n 0, 1) := by decide +kernel
theorem dX11_sums_14 : decode cX11_sums 14 = .ok (.getfield 16, 3) := by decide +kernel
theorem dX11_sums_17 : decode cX11_sums 17 = .ok (.sipush 256, 3) := by decide +kernel
theorem dX11_sums_20 : decode cX11_sums 20 = .ok (.if_icmp .gt 7, 3) := by decide +kernel
theorem dX11_sums_23 : decode cX11_sums 23 = .ok (.iconst 1, 1) := by decide +kernel
theorem dX11_sums_24 : decode cX11_sums 24 = .ok (.goto 4, 3) := by decide +kernel
theorem dX11_sums_27 : decode cX11_sums 27 = .ok (.iconst 0, 1) := by decide +kernel
theorem dX11_sums_28 : decode cX11_sums 28 = .ok (.iconst 1, 1) := by decide +kernel
theorem dX11_sums_29 : decode cX11_sums 29 = .ok (.invokevirtual 203, 3) := by decide +kernel
theorem dX11_sums_32 : decode cX11_sums 32 = .ok (.ifCond .ne 5, 3) := by decide +kernel
theorem dX11_sums_35 : decode cX11_sums 35 = .ok (.iconst 0, 1) := by decide +kernel
theorem dX11_sums_36 : decode cX11_sums 36 = .ok (.ireturn, 1) := by decide +kernel
theorem dX11_sums_37 : decode cX11_sums 37 = .ok (.iconst 0, 1) := by decide +kernel
theorem dX11_sums_38 : decode cX11_sums 38 = .ok (.istore_n 1, 1) := by decide +kernel
theorem dX11_sums_39 : decode cX11_sums 39 = .ok (.iload_n 1, 1) := by decide +kernel
theorem dX11_sums_40 : decode cX11_sums 40 = .ok (.aload_n 0, 1) := by decide +kernel
theorem dX11_sums_41 : decode cX11_sums 41 = .ok (.getfield 16, 3) := by decide +kernel
theorem dX11_sums_44 : decode cX11_sums 44 = .ok (.if_icmp .ge 62, 3) := by decide +kernel
theorem dX11_sums_47 : decode cX11_sums 47 = .ok (.aload_n 0, 1) := by decide +kernel
theorem dX11_sums_48 : decode cX11_sums 48 = .ok (.iload_n 1, 1) := by decide +kernel
theorem dX11_sums_49 : decode cX11_sums 49 = .ok (.invokevirtual 345, 3) := by decide +kernel
theorem dX11_sums_52 : decode cX11_sums 52 = .ok (.iconst 0, 1) := by decide +kernel
theorem dX11_sums_53 : decode cX11_sums 53 = .ok (.istore_n 2, 1) := by decide +kernel
theorem dX11_sums_54 : decode cX11_sums 54 = .ok (.iload_n 2, 1) := by decide +kernel
theorem dX11_sums_55 : decode cX11_sums 55 = .ok (.aload_n 0, 1) := by decide +kernel
theorem dX11_sums_56 : decode cX11_sums 56 = .ok (.getfield 7, 3) := by decide +kernel
theorem dX11_sums_59 : decode cX11_sums 59 = .ok (.if_icmp .ge 41, 3) := by decide +kernel
theorem dX11_sums_62 : decode cX11_sums 62 = .ok (.aload_n 0, 1) := by decide +kernel
theorem dX11_sums_63 : decode cX11_sums 63 = .ok (.getfield 118, 3) := by decide +kernel
theorem dX11_sums_66 : decode cX11_sums 66 = .ok (.bipush 8, 2) := by decide +kernel
theorem dX11_sums_68 : decode cX11_sums 68 = .ok (.iload_n 1, 1) := by decide +kernel
theorem dX11_sums_69 : decode cX11_sums 69 = .ok (.imul, 1) := by decide +kernel
theorem dX11_sums_70 : decode cX11_sums 70 = .ok (.iload_n 2, 1) := by decide +kernel
theorem dX11_sums_71 : decode cX11_sums 71 = .ok (.iadd, 1) := by decide +kernel
theorem dX11_sums_72 : decode cX11_sums 72 = .ok (.aload_n 0, 1) := by decide +kernel
theorem dX11_sums_73 : decode cX11_sums 73 = .ok (.aload_n 0, 1) := by decide +kernel
theorem dX11_sums_74 : decode cX11_sums 74 = .ok (.getfield 75, 3) := by decide +kernel
theorem dX11_sums_77 : decode cX11_sums 77 = .ok (.aload_n 0, 1) := by decide +kernel
theorem dX11_sums_78 : decode cX11_sums 78 = .ok (.getfield 26, 3) := by decide +kernel
theorem dX11_sums_81 : decode cX11_sums 81 = .ok (.iload_n 2, 1) := by decide +kernel
theorem dX11_sums_82 : decode cX11_sums 82 = .ok (.iaload, 1) := by decide +kernel
theorem dX11_sums_83 : decode cX11_sums 83 = .ok (.invokevirtual 328, 3) := by decide +kernel
theorem dX11_sums_86 : decode cX11_sums 86 = .ok (.aload_n 0, 1) := by decide +kernel
theorem dX11_sums_87 : decode cX11_sums 87 = .ok (.getfield 75, 3) := by decide +kernel
theorem dX11_sums_90 : decode cX11_sums 90 = .ok (.iload_n 2, 1) := by decide +kernel
theorem dX11_sums_91 : decode cX11_sums 91 = .ok (.iaload, 1) := by decide +kernel
theorem dX11_sums_92 : decode cX11_sums 92 = .ok (.iadd, 1) := by decide +kernel
theorem dX11_sums_93 : decode cX11_sums 93 = .ok (.iastore, 1) := by decide +kernel
theorem dX11_sums_94 : decode cX11_sums 94 = .ok (.iinc 2 1, 3) := by decide +kernel
theorem dX11_sums_97 : decode cX11_sums 97 = .ok (.goto (-43), 3) := by decide +kernel
theorem dX11_sums_100 : decode cX11_sums 100 = .ok (.iinc 1 1, 3) := by decide +kernel
theorem dX11_sums_103 : decode cX11_sums 103 = .ok (.goto (-64), 3) := by decide +kernel
theorem dX11_sums_106 : decode cX11_sums 106 = .ok (.iconst (-1), 1) := by decide +kernel
theorem dX11_sums_107 : decode cX11_sums 107 = .ok (.istore_n 1, 1) := by decide +kernel
theorem dX11_sums_108 : decode cX11_sums 108 = .ok (.iconst 0, 1) := by decide +kernel
theorem dX11_sums_109 : decode cX11_sums 109 = .ok (.istore_n 2, 1) := by decide +kernel
theorem dX11_sums_110 : decode cX11_sums 110 = .ok (.iload_n 2, 1) := by decide +kernel
theorem dX11_sums_111 : decode cX11_sums 111 = .ok (.aload_n 0, 1) := by decide +kernel
theorem dX11_sums_112 : decode cX11_sums 112 = .ok (.getfield 16, 3) := by decide +kernel
theorem dX11_sums_115 : decode cX11_sums 115 = .ok (.if_icmp .ge 136, 3) := by decide +kernel
theorem dX11_sums_118 : decode cX11_sums 118 = .ok (.iload_n 2, 1) := by decide +kernel
theorem dX11_sums_119 : decode cX11_sums 119 = .ok (.istore_n 3, 1) := by decide +kernel
theorem dX11_sums_120 : decode cX11_sums 120 = .ok (.aload_n 0, 1) := by decide +kernel
theorem dX11_sums_121 : decode cX11_sums 121 = .ok (.getfield 7, 3) := by decide +kernel
theorem dX11_sums_124 : decode cX11_sums 124 = .ok (.iconst 1, 1) := by decide +kernel
theorem dX11_sums_125 : decode cX11_sums 125 = .ok (.isub, 1) := by decide +kernel
theorem dX11_sums_126 : decode cX11_sums 126 = .ok (.istore 4, 2) := by decide +kernel
theorem dX11_sums_128 : decode cX11_sums 128 = .ok (.iload 4, 2) := by decide +kernel
theorem dX11_sums_130 : decode cX11_sums 130 = .ok (.ifCond .lt 29, 3) := by decide +kernel
theorem dX11_sums_133 : decode cX11_sums 133 = .ok (.aload_n 0, 1) := by decide +kernel
theorem dX11_sums_134 : decode cX11_sums 134 = .ok (.getfield 115, 3) := by decide +kernel
theorem dX11_sums_137 : decode cX11_sums 137 = .ok (.iload 4, 2) := by decide +kernel
theorem dX11_sums_139 : decode cX11_sums 139 = .ok (.iload_n 3, 1) := by decide +kernel
theorem dX11_sums_140 : decode cX11_sums 140 = .ok (.aload_n 0, 1) := by decide +kernel
theorem dX11_sums_141 : decode cX11_sums 141 = .ok (.getfield 13, 3) := by decide +kernel
theorem dX11_sums_144 : decode cX11_sums 144 = .ok (.irem, 1) := by decide +kernel
theorem dX11_sums_145 : decode cX11_sums 145 = .ok (.iastore, 1) := by decide +kernel
theorem dX11_sums_146 : decode cX11_sums 146 = .ok (.iload_n 3, 1) := by decide +kernel
theorem dX11_sums_147 : decode cX11_sums 147 = .ok (.aload_n 0, 1) := by decide +kernel
theorem dX11_sums_148 : decode cX11_sums 148 = .ok (.getfield 13, 3) := by decide +kernel
theorem dX11_sums_151 : decode cX11_sums 151 = .ok (.idiv, 1) := by decide +kernel
theorem dX11_sums_152 : decode cX11_sums 152 = .ok (.istore_n 3, 1) := by decide +kernel
theorem dX11_sums_153 : decode cX11_sums 153 = .ok (.iinc 4 (-1), 3) := by decide +kernel
theorem dX11_sums_156 : decode cX11_sums 156 = .ok (.goto (-28), 3) := by decide +kernel
theorem dX11_sums_159 : decode cX11_sums 159 = .ok (.iconst 0, 1) := by decide +kernel
theorem dX11_sums_160 : decode cX11_sums 160 = .ok (.istore 4, 2) := by decide +kernel
theorem dX11_sums_162 : decode cX11_sums 162 = .ok (.iconst 0, 1) := by decide +kernel
theorem dX11_sums_163 : decode cX11_sums 163 = .ok (.istore 5, 2) := by decide +kernel
theorem dX11_sums_165 : decode cX11_sums 165 = .ok (.iload 5, 2) := by decide +kernel
theorem dX11_sums_167 : decode cX11_sums 167 = .ok (.aload_n 0, 1) := by decide +kernel
theorem dX11_sums_168 : decode cX11_sums 168 = .ok (.getfield 16, 3) := by decide +kernel
theorem dX11_sums_171 : decode cX11_sums 171 = .ok (.if_icmp .ge 30, 3) := by decide +kernel
theorem dX11_sums_174 : decode cX11_sums 174 = .ok (.aload_n 0, 1) := by decide +kernel
theorem dX11_sums_175 : decode cX11_sums 175 = .ok (.iload 5, 2) := by decide +kernel
theorem dX11_sums_177 : decode cX11_sums 177 = .ok (.invokevirtual 363, 3) := by decide +kernel
theorem dX11_sums_180 : decode cX11_sums 180 = .ok (.ifCond .eq 15, 3) := by decide +kernel
theorem dX11_sums_183 : decode cX11_sums 183 = .ok (.aload_n 0, 1) := by decide +kernel
theorem dX11_sums_184 : decode cX11_sums 184 = .ok (.iload 5, 2) := by decide +kernel
theorem dX11_sums_186 : decode cX11_sums 186 = .ok (.invokevirtual 400, 3) := by decide +kernel
theorem dX11_sums_189 : decode cX11_sums 189 = .ok (.ifCond .eq 6, 3) := by decide +kernel
theorem dX11_sums_192 : decode cX11_sums 192 = .ok (.iinc 4 1, 3) := by decide +kernel
theorem dX11_sums_195 : decode cX11_sums 195 = .ok (.iinc 5 1, 3) := by decide +kernel
theorem dX11_sums_198 : decode cX11_sums 198 = .ok (.goto (-33), 3) := by decide +kernel
theorem dX11_sums_201 : decode cX11_sums 201 = .ok (.iload 4, 2) := by decide +kernel
theorem dX11_sums_203 : decode cX11_sums 203 = .ok (.iload_n 1, 1) := by decide +kernel
theorem dX11_sums_204 : decode cX11_sums 204 = .ok (.if_icmp .gt 6, 3) := by decide +kernel
theorem dX11_sums_207 : decode cX11_sums 207 = .ok (.goto 38, 3) := by decide +kernel
theorem dX11_sums_210 : decode cX11_sums 210 = .ok (.iload 4, 2) := by decide +kernel
theorem dX11_sums_212 : decode cX11_sums 212 = .ok (.istore_n 1, 1) := by decide +kernel
theorem dX11_sums_213 : decode cX11_sums 213 = .ok (.iconst 0, 1) := by decide +kernel
theorem dX11_sums_214 : decode cX11_sums 214 = .ok (.istore 5, 2) := by decide +kernel
theorem dX11_sums_216 : decode cX11_sums 216 = .ok (.iload 5, 2) := by decide +kernel
theorem dX11_sums_218 : decode cX11_sums 218 = .ok (.aload_n 0, 1) := by decide +kernel
theorem dX11_sums_219 : decode cX11_sums 219 = .ok (.getfield 7, 3) := by decide +kernel
theorem dX11_sums_222 : decode cX11_sums 222 = .ok (.if_icmp .ge 23, 3) := by decide +kernel
theorem dX11_sums_225 : decode cX11_sums 225 = .ok (.aload_n 0, 1) := by decide +kernel
theorem dX11_sums_226 : decode cX11_sums 226 = .ok (.getfield 112, 3) := by decide +kernel
theorem dX11_sums_229 : decode cX11_sums 229 = .ok (.iload 5, 2) := by decide +kernel
theorem dX11_sums_231 : decode cX11_sums 231 = .ok (.aload_n 0, 1) := by decide +kernel
theorem dX11_sums_232 : decode cX11_sums 232 = .ok (.getfield 115, 3) := by decide +kernel
theorem dX11_sums_235 : decode cX11_sums 235 = .ok (.iload 5, 2) := by decide +kernel
theorem dX11_sums_237 : decode cX11_sums 237 = .ok (.iaload, 1) := by decide +kernel
theorem dX11_sums_238 : decode cX11_sums 238 = .ok (.iastore, 1) := by decide +kernel
theorem dX11_sums_239 : decode cX11_sums 239 = .ok (.iinc 5 1, 3) := by decide +kernel
theorem dX11_sums_242 : decode cX11_sums 242 = .ok (.goto (-26), 3) := by decide +kernel
theorem dX11_sums_245 : decode cX11_sums 245 = .ok (.iinc 2 1, 3) := by decide +kernel
theorem dX11_sums_248 : decode cX11_sums 248 = .ok (.goto (-138), 3) := by decide +kernel
theorem dX11_sums_251 : decode cX11_sums 251 = .ok (.aload_n 0, 1) := by decide +kernel
theorem dX11_sums_252 : decode cX11_sums 252 = .ok (.aload_n 0, 1) := by decide +kernel
theorem dX11_sums_253 : decode cX11_sums 253 = .ok (.getfield 7, 3) := by decide +kernel
theorem dX11_sums_256 : decode cX11_sums 256 = .ok (.putfield 403, 3) := by decide +kernel
theorem dX11_sums_259 : decode cX11_sums 259 = .ok (.iconst 0, 1) := by decide +kernel
theorem dX11_sums_260 : decode cX11_sums 260 = .ok (.istore_n 2, 1) := by decide +kernel
theorem dX11_sums_261 : decode cX11_sums 261 = .ok (.iload_n 2, 1) := by decide +kernel
theorem dX11_sums_262 : decode cX11_sums 262 = .ok (.aload_n 0, 1) := by decide +kernel
theorem dX11_sums_263 : decode cX11_sums 263 = .ok (.getfield 7, 3) := by decide +kernel
theorem dX11_sums_266 : decode cX11_sums 266 = .ok (.if_icmp .ge 100, 3) := by decide +kernel
theorem dX11_sums_269 : decode cX11_sums 269 = .ok (.aload_n 0, 1) := by decide +kernel
theorem dX11_sums_270 : decode cX11_sums 270 = .ok (.iload_n 2, 1) := by decide +kernel
theorem dX11_sums_271 : decode cX11_sums 271 = .ok (.invokevirtual 191, 3) := by decide +kernel
theorem dX11_sums_274 : decode cX11_sums 274 = .ok (.iconst 0, 1) := by decide +kernel
theorem dX11_sums_275 : decode cX11_sums 275 = .ok (.istore_n 3, 1) := by decide +kernel
theorem dX11_sums_276 : decode cX11_sums 276 = .ok (.iload_n 3, 1) := by decide +kernel
theorem dX11_sums_277 : decode cX11_sums 277 = .ok (.aload_n 0, 1) := by decide +kernel
theorem dX11_sums_278 : decode cX11_sums 278 = .ok (.iload_n 2, 1) := by decide +kernel
theorem dX11_sums_279 : decode cX11_sums 279 = .ok (.invokevirtual 184, 3) := by decide +kernel
theorem dX11_sums_282 : decode cX11_sums 282 = .ok (.if_icmp .ge 78, 3) := by decide +kernel
theorem dX11_sums_285 : decode cX11_sums 285 = .ok (.aload_n 0, 1) := by decide +kernel
theorem dX11_sums_286 : decode cX11_sums 286 = .ok (.getfield 112, 3) := by decide +kernel
theorem dX11_sums_289 : decode cX11_sums 289 = .ok (.iload_n 2, 1) := by decide +kernel
theorem dX11_sums_290 : decode cX11_sums 290 = .ok (.iaload, 1) := by decide +kernel
theorem dX11_sums_291 : decode cX11_sums 291 = .ok (.istore 4, 2) := by decide +kernel
theorem dX11_sums_293 : decode cX11_sums 293 = .ok (.iload_n 3, 1) := by decide +kernel
theorem dX11_sums_294 : decode cX11_sums 294 = .ok (.istore 5, 2) := by decide +kernel
theorem dX11_sums_296 : decode cX11_sums 296 = .ok (.iload 5, 2) := by decide +kernel
theorem dX11_sums_298 : decode cX11_sums 298 = .ok (.ifCond .le 27, 3) := by decide +kernel
theorem dX11_sums_301 : decode cX11_sums 301 = .ok (.iload 4, 2) := by decide +kernel
theorem dX11_sums_303 : decode cX11_sums 303 = .ok (.iload 5, 2) := by decide +kernel
theorem dX11_sums_305 : decode cX11_sums 305 = .ok (.aload_n 0, 1) := by decide +kernel
theorem dX11_sums_306 : decode cX11_sums 306 = .ok (.getfield 13, 3) := by decide +kernel
theorem dX11_sums_309 : decode cX11_sums 309 = .ok (.irem, 1) := by decide +kernel
theorem dX11_sums_310 : decode cX11_sums 310 = .ok (.isub, 1) := by decide +kernel
theorem dX11_sums_311 : decode cX11_sums 311 = .ok (.istore 4, 2) := by decide +kernel
theorem dX11_sums_313 : decode cX11_sums 313 = .ok (.iload 5, 2) := by decide +kernel
theorem dX11_sums_315 : decode cX11_sums 315 = .ok (.aload_n 0, 1) := by decide +kernel
theorem dX11_sums_316 : decode cX11_sums 316 = .ok (.getfield 13, 3) := by decide +kernel
theorem dX11_sums_319 : decode cX11_sums 319 = .ok (.idiv, 1) := by decide +kernel
theorem dX11_sums_320 : decode cX11_sums 320 = .ok (.istore 5, 2) := by decide +kernel
theorem dX11_sums_322 : decode cX11_sums 322 = .ok (.goto (-26), 3) := by decide +kernel
theorem dX11_sums_325 : decode cX11_sums 325 = .ok (.aload_n 0, 1) := by decide +kernel
theorem dX11_sums_326 : decode cX11_sums 326 = .ok (.getfield 35, 3) := by decide +kernel
theorem dX11_sums_329 : decode cX11_sums 329 = .ok (.sipush 1024, 3) := by decide +kernel
theorem dX11_sums_332 : decode cX11_sums 332 = .ok (.iload_n 2, 1) := by decide +kernel
theorem dX11_sums_333 : decode cX11_sums 333 = .ok (.imul, 1) := by decide +kernel
theorem dX11_sums_334 : decode cX11_sums 334 = .ok (.iload_n 3, 1) := by decide +kernel
theorem dX11_sums_335 : decode cX11_sums 335 = .ok (.iadd, 1) := by decide +kernel
theorem dX11_sums_336 : decode cX11_sums 336 = .ok (.iload 4, 2) := by decide +kernel
theorem dX11_sums_338 : decode cX11_sums 338 = .ok (.aload_n 0, 1) := by decide +kernel
theorem dX11_sums_339 : decode cX11_sums 339 = .ok (.getfield 13, 3) := by decide +kernel
theorem dX11_sums_342 : decode cX11_sums 342 = .ok (.irem, 1) := by decide +kernel
theorem dX11_sums_343 : decode cX11_sums 343 = .ok (.aload_n 0, 1) := by decide +kernel
theorem dX11_sums_344 : decode cX11_sums 344 = .ok (.getfield 13, 3) := by decide +kernel
theorem dX11_sums_347 : decode cX11_sums 347 = .ok (.iadd, 1) := by decide +kernel
theorem dX11_sums_348 : decode cX11_sums 348 = .ok (.aload_n 0, 1) := by decide +kernel
theorem dX11_sums_349 : decode cX11_sums 349 = .ok (.getfield 13, 3) := by decide +kernel
theorem dX11_sums_352 : decode cX11_sums 352 = .ok (.irem, 1) := by decide +kernel
theorem dX11_sums_353 : decode cX11_sums 353 = .ok (.iastore, 1) := by decide +kernel
theorem dX11_sums_354 : decode cX11_sums 354 = .ok (.iinc 3 1, 3) := by decide +kernel
theorem dX11_sums_357 : decode cX11_sums 357 = .ok (.goto (-81), 3) := by decide +kernel
theorem dX11_sums_360 : decode cX11_sums 360 = .ok (.iinc 2 1, 3) := by decide +kernel
theorem dX11_sums_363 : decode cX11_sums 363 = .ok (.goto (-102), 3) := by decide +kernel
theorem dX11_sums_366 : decode cX11_sums 366 = .ok (.aload_n 0, 1) := by decide +kernel
theorem dX11_sums_367 : decode cX11_sums 367 = .ok (.iconst 0, 1) := by decide +kernel
theorem dX11_sums_368 : decode cX11_sums 368 = .ok (.putfield 195, 3) := by decide +kernel
theorem dX11_sums_371 : decode cX11_sums 371 = .ok (.iload_n 1, 1) := by decide +kernel
theorem dX11_sums_372 : decode cX11_sums 372 = .ok (.ireturn, 1) := by decide +kernel
theorem dX11_constant_0 : decode cX11_constant 0 = .ok (.aload_n 0, 1) := by decide +kernel
theorem dX11_constant_1 : decode cX11_constant 1 = .ok (.iload_n 1, 1) := by decide +kernel
theorem dX11_constant_2 : decode cX11_constant 2 = .ok (.invokevirtual 207, 3) := by decide +kernel
theorem dX11_constant_5 : decode cX11_constant 5 = .ok (.ifCond .eq 24, 3) := by decide +kernel
theorem dX11_constant_8 : decode cX11_constant 8 = .ok (.aload_n 0, 1) := by decide +kernel
theorem dX11_constant_9 : decode cX11_constant 9 = .ok (.iload_n 1, 1) := by decide +kernel
theorem dX11_constant_10 : decode cX11_constant 10 = .ok (.aload_n 0, 1) := by decide +kernel
theorem dX11_constant_11 : decode cX11_constant 11 = .ok (.getfield 403, 3) := by decide +kernel
theorem dX11_constant_14 : decode cX11_constant 14 = .ok (.if_icmp .ge 7, 3) := by decide +kernel
theorem dX11_constant_17 : decode cX11_constant 17 = .ok (.iconst 1, 1) := by decide +kernel
theorem dX11_constant_18 : decode cX11_constant 18 = .ok (.goto 4, 3) := by decide +kernel
theorem dX11_constant_21 : decode cX11_constant 21 = .ok (.iconst 0, 1) := by decide +kernel
theorem dX11_constant_22 : decode cX11_constant 22 = .ok (.iconst 1, 1) := by decide +kernel
theorem dX11_constant_23 : decode cX11_constant 23 = .ok (.invokevirtual 203, 3) := by decide +kernel
theorem dX11_constant_26 : decode cX11_constant 26 = .ok (.ifCond .ne 5, 3) := by decide +kernel
theorem dX11_constant_29 : decode cX11_constant 29 = .ok (.iconst 0, 1) := by decide +kernel
theorem dX11_constant_30 : decode cX11_constant 30 = .ok (.ireturn, 1) := by decide +kernel
theorem dX11_constant_31 : decode cX11_constant 31 = .ok (.aload_n 0, 1) := by decide +kernel
theorem dX11_constant_32 : decode cX11_constant 32 = .ok (.getfield 112, 3) := by decide +kernel
theorem dX11_constant_35 : decode cX11_constant 35 = .ok (.iload_n 1, 1) := by decide +kernel
theorem dX11_constant_36 : decode cX11_constant 36 = .ok (.iaload, 1) := by decide +kernel
theorem dX11_constant_37 : decode cX11_constant 37 = .ok (.ireturn, 1) := by decide +kernel
theorem dX11_last_0 : decode cX11_last 0 = .ok (.bipush 31, 2) := by decide +kernel
theorem dX11_last_2 : decode cX11_last 2 = .ok (.istore_n 1, 1) := by decide +kernel
theorem dX11_last_3 : decode cX11_last 3 = .ok (.iload_n 0, 1) := by decide +kernel
theorem dX11_last_4 : decode cX11_last 4 = .ok (.iload_n 1, 1) := by decide +kernel
theorem dX11_last_5 : decode cX11_last 5 = .ok (.ishr, 1) := by decide +kernel
theorem dX11_last_6 : decode cX11_last 6 = .ok (.iconst 1, 1) := by decide +kernel
theorem dX11_last_7 : decode cX11_last 7 = .ok (.iand, 1) := by decide +kernel
theorem dX11_last_8 : decode cX11_last 8 = .ok (.ifCond .ne 9, 3) := by decide +kernel
theorem dX11_last_11 : decode cX11_last 11 = .ok (.iinc 1 (-1), 3) := by decide +kernel
theorem dX11_last_14 : decode cX11_last 14 = .ok (.goto (-11), 3) := by decide +kernel
theorem dX11_last_17 : decode cX11_last 17 = .ok (.iload_n 1, 1) := by decide +kernel
theorem dX11_last_18 : decode cX11_last 18 = .ok (.ireturn, 1) := by decide +kernel
theorem dX11_balls_0 : decode cX11_balls 0 = .ok (.iconst 0, 1) := by decide +kernel
theorem dX11_balls_1 : decode cX11_balls 1 = .ok (.istore_n 1, 1) := by decide +kernel
theorem dX11_balls_2 : decode cX11_balls 2 = .ok (.iload_n 1, 1) := by decide +kernel
theorem dX11_balls_3 : decode cX11_balls 3 = .ok (.aload_n 0, 1) := by decide +kernel
theorem dX11_balls_4 : decode cX11_balls 4 = .ok (.getfield 16, 3) := by decide +kernel
theorem dX11_balls_7 : decode cX11_balls 7 = .ok (.if_icmp .ge 65, 3) := by decide +kernel
theorem dX11_balls_10 : decode cX11_balls 10 = .ok (.aload_n 0, 1) := by decide +kernel
theorem dX11_balls_11 : decode cX11_balls 11 = .ok (.getfield 124, 3) := by decide +kernel
theorem dX11_balls_14 : decode cX11_balls 14 = .ok (.iload_n 1, 1) := by decide +kernel
theorem dX11_balls_15 : decode cX11_balls 15 = .ok (.iconst 1, 1) := by decide +kernel
theorem dX11_balls_16 : decode cX11_balls 16 = .ok (.iload_n 1, 1) := by decide +kernel
theorem dX11_balls_17 : decode cX11_balls 17 = .ok (.ishl, 1) := by decide +kernel
theorem dX11_balls_18 : decode cX11_balls 18 = .ok (.iastore, 1) := by decide +kernel
theorem dX11_balls_19 : decode cX11_balls 19 = .ok (.iconst 0, 1) := by decide +kernel
theorem dX11_balls_20 : decode cX11_balls 20 = .ok (.istore_n 2, 1) := by decide +kernel
theorem dX11_balls_21 : decode cX11_balls 21 = .ok (.iload_n 2, 1) := by decide +kernel
theorem dX11_balls_22 : decode cX11_balls 22 = .ok (.aload_n 0, 1) := by decide +kernel
theorem dX11_balls_23 : decode cX11_balls 23 = .ok (.getfield 7, 3) := by decide +kernel
theorem dX11_balls_26 : decode cX11_balls 26 = .ok (.if_icmp .ge 25, 3) := by decide +kernel
theorem dX11_balls_29 : decode cX11_balls 29 = .ok (.aload_n 0, 1) := by decide +kernel
theorem dX11_balls_30 : decode cX11_balls 30 = .ok (.getfield 124, 3) := by decide +kernel
theorem dX11_balls_33 : decode cX11_balls 33 = .ok (.iload_n 1, 1) := by decide +kernel
theorem dX11_balls_34 : decode cX11_balls 34 = .ok (.dup2, 1) := by decide +kernel
theorem dX11_balls_35 : decode cX11_balls 35 = .ok (.iaload, 1) := by decide +kernel
theorem dX11_balls_36 : decode cX11_balls 36 = .ok (.iconst 1, 1) := by decide +kernel
theorem dX11_balls_37 : decode cX11_balls 37 = .ok (.iload_n 1, 1) := by decide +kernel
theorem dX11_balls_38 : decode cX11_balls 38 = .ok (.iconst 1, 1) := by decide +kernel
theorem dX11_balls_39 : decode cX11_balls 39 = .ok (.iload_n 2, 1) := by decide +kernel
theorem dX11_balls_40 : decode cX11_balls 40 = .ok (.ishl, 1) := by decide +kernel
theorem dX11_balls_41 : decode cX11_balls 41 = .ok (.ixor, 1) := by decide +kernel
theorem dX11_balls_42 : decode cX11_balls 42 = .ok (.ishl, 1) := by decide +kernel
theorem dX11_balls_43 : decode cX11_balls 43 = .ok (.ior, 1) := by decide +kernel
theorem dX11_balls_44 : decode cX11_balls 44 = .ok (.iastore, 1) := by decide +kernel
theorem dX11_balls_45 : decode cX11_balls 45 = .ok (.iinc 2 1, 3) := by decide +kernel
theorem dX11_balls_48 : decode cX11_balls 48 = .ok (.goto (-27), 3) := by decide +kernel
theorem dX11_balls_51 : decode cX11_balls 51 = .ok (.aload_n 0, 1) := by decide +kernel
theorem dX11_balls_52 : decode cX11_balls 52 = .ok (.getfield 127, 3) := by decide +kernel
theorem dX11_balls_55 : decode cX11_balls 55 = .ok (.iload_n 1, 1) := by decide +kernel
theorem dX11_balls_56 : decode cX11_balls 56 = .ok (.aload_n 0, 1) := by decide +kernel
theorem dX11_balls_57 : decode cX11_balls 57 = .ok (.getfield 124, 3) := by decide +kernel
theorem dX11_balls_60 : decode cX11_balls 60 = .ok (.iload_n 1, 1) := by decide +kernel
theorem dX11_balls_61 : decode cX11_balls 61 = .ok (.iaload, 1) := by decide +kernel
theorem dX11_balls_62 : decode cX11_balls 62 = .ok (.invokestatic 406, 3) := by decide +kernel
theorem dX11_balls_65 : decode cX11_balls 65 = .ok (.iastore, 1) := by decide +kernel
theorem dX11_balls_66 : decode cX11_balls 66 = .ok (.iinc 1 1, 3) := by decide +kernel
theorem dX11_balls_69 : decode cX11_balls 69 = .ok (.goto (-67), 3) := by decide +kernel
theorem dX11_balls_72 : decode cX11_balls 72 = .ok (.return_, 1) := by decide +kernel
theorem dX11_latest_0 : decode cX11_latest 0 = .ok (.bipush 31, 2) := by decide +kernel
theorem dX11_latest_2 : decode cX11_latest 2 = .ok (.istore_n 2, 1) := by decide +kernel
theorem dX11_latest_3 : decode cX11_latest 3 = .ok (.iconst 0, 1) := by decide +kernel
theorem dX11_latest_4 : decode cX11_latest 4 = .ok (.istore_n 3, 1) := by decide +kernel
theorem dX11_latest_5 : decode cX11_latest 5 = .ok (.iload_n 3, 1) := by decide +kernel
theorem dX11_latest_6 : decode cX11_latest 6 = .ok (.aload_n 0, 1) := by decide +kernel
theorem dX11_latest_7 : decode cX11_latest 7 = .ok (.getfield 16, 3) := by decide +kernel
theorem dX11_latest_10 : decode cX11_latest 10 = .ok (.if_icmp .ge 35, 3) := by decide +kernel
theorem dX11_latest_13 : decode cX11_latest 13 = .ok (.iload_n 1, 1) := by decide +kernel
theorem dX11_latest_14 : decode cX11_latest 14 = .ok (.iload_n 3, 1) := by decide +kernel
theorem dX11_latest_15 : decode cX11_latest 15 = .ok (.ishr, 1) := by decide +kernel
theorem dX11_latest_16 : decode cX11_latest 16 = .ok (.iconst 1, 1) := by decide +kernel
theorem dX11_latest_17 : decode cX11_latest 17 = .ok (.iand, 1) := by decide +kernel
theorem dX11_latest_18 : decode cX11_latest 18 = .ok (.iconst 1, 1) := by decide +kernel
theorem dX11_latest_19 : decode cX11_latest 19 = .ok (.if_icmp .ne 20, 3) := by decide +kernel
theorem dX11_latest_22 : decode cX11_latest 22 = .ok (.aload_n 0, 1) := by decide +kernel
theorem dX11_latest_23 : decode cX11_latest 23 = .ok (.getfield 127, 3) := by decide +kernel
theorem dX11_latest_26 : decode cX11_latest 26 = .ok (.iload_n 3, 1) := by decide +kernel
theorem dX11_latest_27 : decode cX11_latest 27 = .ok (.iaload, 1) := by decide +kernel
theorem dX11_latest_28 : decode cX11_latest 28 = .ok (.iload_n 2, 1) := by decide +kernel
theorem dX11_latest_29 : decode cX11_latest 29 = .ok (.if_icmp .ge 10, 3) := by decide +kernel
theorem dX11_latest_32 : decode cX11_latest 32 = .ok (.aload_n 0, 1) := by decide +kernel
theorem dX11_latest_33 : decode cX11_latest 33 = .ok (.getfield 127, 3) := by decide +kernel
theorem dX11_latest_36 : decode cX11_latest 36 = .ok (.iload_n 3, 1) := by decide +kernel
theorem dX11_latest_37 : decode cX11_latest 37 = .ok (.iaload, 1) := by decide +kernel
theorem dX11_latest_38 : decode cX11_latest 38 = .ok (.istore_n 2, 1) := by decide +kernel
theorem dX11_latest_39 : decode cX11_latest 39 = .ok (.iinc 3 1, 3) := by decide +kernel
theorem dX11_latest_42 : decode cX11_latest 42 = .ok (.goto (-37), 3) := by decide +kernel
theorem dX11_latest_45 : decode cX11_latest 45 = .ok (.iload_n 2, 1) := by decide +kernel
theorem dX11_latest_46 : decode cX11_latest 46 = .ok (.ireturn, 1) := by decide +kernel
theorem dX11_covers_0 : decode cX11_covers 0 = .ok (.aload_n 0, 1) := by decide +kernel
theorem dX11_covers_1 : decode cX11_covers 1 = .ok (.getfield 16, 3) := by decide +kernel
theorem dX11_covers_4 : decode cX11_covers 4 = .ok (.bipush 32, 2) := by decide +kernel
theorem dX11_covers_6 : decode cX11_covers 6 = .ok (.if_icmp .ne 7, 3) := by decide +kernel
theorem dX11_covers_9 : decode cX11_covers 9 = .ok (.iconst (-1), 1) := by decide +kernel
theorem dX11_covers_10 : decode cX11_covers 10 = .ok (.goto 11, 3) := by decide +kernel
theorem dX11_covers_13 : decode cX11_covers 13 = .ok (.iconst 1, 1) := by decide +kernel
theorem dX11_covers_14 : decode cX11_covers 14 = .ok (.aload_n 0, 1) := by decide +kernel
theorem dX11_covers_15 : decode cX11_covers 15 = .ok (.getfield 16, 3) := by decide +kernel
theorem dX11_covers_18 : decode cX11_covers 18 = .ok (.ishl, 1) := by decide +kernel
theorem dX11_covers_19 : decode cX11_covers 19 = .ok (.iconst 1, 1) := by decide +kernel
theorem dX11_covers_20 : decode cX11_covers 20 = .ok (.isub, 1) := by decide +kernel
theorem dX11_covers_21 : decode cX11_covers 21 = .ok (.istore_n 2, 1) := by decide +kernel
theorem dX11_covers_22 : decode cX11_covers 22 = .ok (.iconst 0, 1) := by decide +kernel
theorem dX11_covers_23 : decode cX11_covers 23 = .ok (.istore_n 3, 1) := by decide +kernel
theorem dX11_covers_24 : decode cX11_covers 24 = .ok (.aload_n 0, 1) := by decide +kernel
theorem dX11_covers_25 : decode cX11_covers 25 = .ok (.getfield 121, 3) := by decide +kernel
theorem dX11_covers_28 : decode cX11_covers 28 = .ok (.iconst 0, 1) := by decide +kernel
theorem dX11_covers_29 : decode cX11_covers 29 = .ok (.iconst (-1), 1) := by decide +kernel
theorem dX11_covers_30 : decode cX11_covers 30 = .ok (.iastore, 1) := by decide +kernel
theorem dX11_covers_31 : decode cX11_covers 31 = .ok (.aload_n 0, 1) := by decide +kernel
theorem dX11_covers_32 : decode cX11_covers 32 = .ok (.getfield 130, 3) := by decide +kernel
theorem dX11_covers_35 : decode cX11_covers 35 = .ok (.iconst 0, 1) := by decide +kernel
theorem dX11_covers_36 : decode cX11_covers 36 = .ok (.iconst 0, 1) := by decide +kernel
theorem dX11_covers_37 : decode cX11_covers 37 = .ok (.iastore, 1) := by decide +kernel
theorem dX11_covers_38 : decode cX11_covers 38 = .ok (.iload_n 3, 1) := by decide +kernel
theorem dX11_covers_39 : decode cX11_covers 39 = .ok (.ifCond .lt 139, 3) := by decide +kernel
theorem dX11_covers_42 : decode cX11_covers 42 = .ok (.iload_n 2, 1) := by decide +kernel
theorem dX11_covers_43 : decode cX11_covers 43 = .ok (.aload_n 0, 1) := by decide +kernel
theorem dX11_covers_44 : decode cX11_covers 44 = .ok (.getfield 130, 3) := by decide +kernel
theorem dX11_covers_47 : decode cX11_covers 47 = .ok (.iload_n 3, 1) := by decide +kernel
theorem dX11_covers_48 : decode cX11_covers 48 = .ok (.iaload, 1) := by decide +kernel
theorem dX11_covers_49 : decode cX11_covers 49 = .ok (.iconst (-1), 1) := by decide +kernel
theorem dX11_covers_50 : decode cX11_covers 50 = .ok (.ixor, 1) := by decide +kernel
theorem dX11_covers_51 : decode cX11_covers 51 = .ok (.iand, 1) := by decide +kernel
theorem dX11_covers_52 : decode cX11_covers 52 = .ok (.istore 4, 2) := by decide +kernel
theorem dX11_covers_54 : decode cX11_covers 54 = .ok (.iload 4, 2) := by decide +kernel
theorem dX11_covers_56 : decode cX11_covers 56 = .ok (.ifCond .ne 10, 3) := by decide +kernel
theorem dX11_covers_59 : decode cX11_covers 59 = .ok (.aload_n 0, 1) := by decide +kernel
theorem dX11_covers_60 : decode cX11_covers 60 = .ok (.iload_n 3, 1) := by decide +kernel
theorem dX11_covers_61 : decode cX11_covers 61 = .ok (.putfield 409, 3) := by decide +kernel
theorem dX11_covers_64 : decode cX11_covers 64 = .ok (.iconst 1, 1) := by decide +kernel
theorem dX11_covers_65 : decode cX11_covers 65 = .ok (.ireturn, 1) := by decide +kernel
theorem dX11_covers_66 : decode cX11_covers 66 = .ok (.aload_n 0, 1) := by decide +kernel
theorem dX11_covers_67 : decode cX11_covers 67 = .ok (.getfield 121, 3) := by decide +kernel
theorem dX11_covers_70 : decode cX11_covers 70 = .ok (.iload_n 3, 1) := by decide +kernel
theorem dX11_covers_71 : decode cX11_covers 71 = .ok (.dup2, 1) := by decide +kernel
theorem dX11_covers_72 : decode cX11_covers 72 = .ok (.iaload, 1) := by decide +kernel
theorem dX11_covers_73 : decode cX11_covers 73 = .ok (.iconst 1, 1) := by decide +kernel
theorem dX11_covers_74 : decode cX11_covers 74 = .ok (.iadd, 1) := by decide +kernel
theorem dX11_covers_75 : decode cX11_covers 75 = .ok (.iastore, 1) := by decide +kernel
theorem dX11_covers_76 : decode cX11_covers 76 = .ok (.iload_n 3, 1) := by decide +kernel
theorem dX11_covers_77 : decode cX11_covers 77 = .ok (.iload_n 1, 1) := by decide +kernel
theorem dX11_covers_78 : decode cX11_covers 78 = .ok (.if_icmp .ge 40, 3) := by decide +kernel
theorem dX11_covers_81 : decode cX11_covers 81 = .ok (.aload_n 0, 1) := by decide +kernel
theorem dX11_covers_82 : decode cX11_covers 82 = .ok (.getfield 121, 3) := by decide +kernel
theorem dX11_covers_85 : decode cX11_covers 85 = .ok (.iload_n 3, 1) := by decide +kernel
theorem dX11_covers_86 : decode cX11_covers 86 = .ok (.iaload, 1) := by decide +kernel
theorem dX11_covers_87 : decode cX11_covers 87 = .ok (.aload_n 0, 1) := by decide +kernel
theorem dX11_covers_88 : decode cX11_covers 88 = .ok (.iload 4, 2) := by decide +kernel
theorem dX11_covers_90 : decode cX11_covers 90 = .ok (.invokevirtual 412, 3) := by decide +kernel
theorem dX11_covers_93 : decode cX11_covers 93 = .ok (.if_icmp .gt 25, 3) := by decide +kernel
theorem dX11_covers_96 : decode cX11_covers 96 = .ok (.iload 4, 2) := by decide +kernel
theorem dX11_covers_98 : decode cX11_covers 98 = .ok (.invokestatic 177, 3) := by decide +kernel
theorem dX11_covers_101 : decode cX11_covers 101 = .ok (.iload_n 1, 1) := by decide +kernel
theorem dX11_covers_102 : decode cX11_covers 102 = .ok (.iload_n 3, 1) := by decide +kernel
theorem dX11_covers_103 : decode cX11_covers 103 = .ok (.isub, 1) := by decide +kernel
theorem dX11_covers_104 : decode cX11_covers 104 = .ok (.aload_n 0, 1) := by decide +kernel
theorem dX11_covers_105 : decode cX11_covers 105 = .ok (.getfield 7, 3) := by decide +kernel
theorem dX11_covers_108 : decode cX11_covers 108 = .ok (.iconst 1, 1) := by decide +kernel
theorem dX11_covers_109 : decode cX11_covers 109 = .ok (.iadd, 1) := by decide +kernel
theorem dX11_covers_110 : decode cX11_covers 110 = .ok (.imul, 1) := by decide +kernel
theorem dX11_covers_111 : decode cX11_covers 111 = .ok (.if_icmp .gt 7, 3) := by decide +kernel
theorem dX11_covers_114 : decode cX11_covers 114 = .ok (.iconst 1, 1) := by decide +kernel
theorem dX11_covers_115 : decode cX11_covers 115 = .ok (.goto 4, 3) := by decide +kernel
theorem dX11_covers_118 : decode cX11_covers 118 = .ok (.iconst 0, 1) := by decide +kernel
theorem dX11_covers_119 : decode cX11_covers 119 = .ok (.istore 5, 2) := by decide +kernel
theorem dX11_covers_121 : decode cX11_covers 121 = .ok (.iload 5, 2) := by decide +kernel
theorem dX11_covers_123 : decode cX11_covers 123 = .ok (.ifCond .ne 9, 3) := by decide +kernel
theorem dX11_covers_126 : decode cX11_covers 126 = .ok (.iinc 3 (-1), 3) := by decide +kernel
theorem dX11_covers_129 : decode cX11_covers 129 = .ok (.goto (-91), 3) := by decide +kernel
theorem dX11_covers_132 : decode cX11_covers 132 = .ok (.aload_n 0, 1) := by decide +kernel
theorem dX11_covers_133 : decode cX11_covers 133 = .ok (.getfield 130, 3) := by decide +kernel
theorem dX11_covers_136 : decode cX11_covers 136 = .ok (.iload_n 3, 1) := by decide +kernel
theorem dX11_covers_137 : decode cX11_covers 137 = .ok (.iconst 1, 1) := by decide +kernel
theorem dX11_covers_138 : decode cX11_covers 138 = .ok (.iadd, 1) := by decide +kernel
theorem dX11_covers_139 : decode cX11_covers 139 = .ok (.aload_n 0, 1) := by decide +kernel
theorem dX11_covers_140 : decode cX11_covers 140 = .ok (.getfield 130, 3) := by decide +kernel
theorem dX11_covers_143 : decode cX11_covers 143 = .ok (.iload_n 3, 1) := by decide +kernel
theorem dX11_covers_144 : decode cX11_covers 144 = .ok (.iaload, 1) := by decide +kernel
theorem dX11_covers_145 : decode cX11_covers 145 = .ok (.aload_n 0, 1) := by decide +kernel
theorem dX11_covers_146 : decode cX11_covers 146 = .ok (.getfield 124, 3) := by decide +kernel
theorem dX11_covers_149 : decode cX11_covers 149 = .ok (.aload_n 0, 1) := by decide +kernel
theorem dX11_covers_150 : decode cX11_covers 150 = .ok (.getfield 121, 3) := by decide +kernel
theorem dX11_covers_153 : decode cX11_covers 153 = .ok (.iload_n 3, 1) := by decide +kernel
theorem dX11_covers_154 : decode cX11_covers 154 = .ok (.iaload, 1) := by decide +kernel
theorem dX11_covers_155 : decode cX11_covers 155 = .ok (.iaload, 1) := by decide +kernel
theorem dX11_covers_156 : decode cX11_covers 156 = .ok (.ior, 1) := by decide +kernel
theorem dX11_covers_157 : decode cX11_covers 157 = .ok (.iastore, 1) := by decide +kernel
theorem dX11_covers_158 : decode cX11_covers 158 = .ok (.aload_n 0, 1) := by decide +kernel
theorem dX11_covers_159 : decode cX11_covers 159 = .ok (.getfield 121, 3) := by decide +kernel
theorem dX11_covers_162 : decode cX11_covers 162 = .ok (.iload_n 3, 1) := by decide +kernel
theorem dX11_covers_163 : decode cX11_covers 163 = .ok (.iconst 1, 1) := by decide +kernel
theorem dX11_covers_164 : decode cX11_covers 164 = .ok (.iadd, 1) := by decide +kernel
theorem dX11_covers_165 : decode cX11_covers 165 = .ok (.aload_n 0, 1) := by decide +kernel
theorem dX11_covers_166 : decode cX11_covers 166 = .ok (.getfield 121, 3) := by decide +kernel
theorem dX11_covers_169 : decode cX11_covers 169 = .ok (.iload_n 3, 1) := by decide +kernel
theorem dX11_covers_170 : decode cX11_covers 170 = .ok (.iaload, 1) := by decide +kernel
theorem dX11_covers_171 : decode cX11_covers 171 = .ok (.iastore, 1) := by decide +kernel
theorem dX11_covers_172 : decode cX11_covers 172 = .ok (.iinc 3 1, 3) := by decide +kernel
theorem dX11_covers_175 : decode cX11_covers 175 = .ok (.goto (-137), 3) := by decide +kernel
theorem dX11_covers_178 : decode cX11_covers 178 = .ok (.iconst 0, 1) := by decide +kernel
theorem dX11_covers_179 : decode cX11_covers 179 = .ok (.ireturn, 1) := by decide +kernel
theorem dX11_isGiven_0 : decode cX11_isGiven 0 = .ok (.iconst 0, 1) := by decide +kernel
theorem dX11_isGiven_1 : decode cX11_isGiven 1 = .ok (.istore_n 2, 1) := by decide +kernel
theorem dX11_isGiven_2 : decode cX11_isGiven 2 = .ok (.iconst 0, 1) := by decide +kernel
theorem dX11_isGiven_3 : decode cX11_isGiven 3 = .ok (.istore_n 3, 1) := by decide +kernel
theorem dX11_isGiven_4 : decode cX11_isGiven 4 = .ok (.iload_n 3, 1) := by decide +kernel
theorem dX11_isGiven_5 : decode cX11_isGiven 5 = .ok (.aload_n 0, 1) := by decide +kernel
theorem dX11_isGiven_6 : decode cX11_isGiven 6 = .ok (.getfield 409, 3) := by decide +kernel
theorem dX11_isGiven_9 : decode cX11_isGiven 9 = .ok (.if_icmp .ge 29, 3) := by decide +kernel
theorem dX11_isGiven_12 : decode cX11_isGiven 12 = .ok (.iload_n 2, 1) := by decide +kernel
theorem dX11_isGiven_13 : decode cX11_isGiven 13 = .ok (.ifCond .ne 13, 3) := by decide +kernel
theorem dX11_isGiven_16 : decode cX11_isGiven 16 = .ok (.aload_n 0, 1) := by decide +kernel
theorem dX11_isGiven_17 : decode cX11_isGiven 17 = .ok (.getfield 121, 3) := by decide +kernel
theorem dX11_isGiven_20 : decode cX11_isGiven 20 = .ok (.iload_n 3, 1) := by decide +kernel
theorem dX11_isGiven_21 : decode cX11_isGiven 21 = .ok (.iaload, 1) := by decide +kernel
theorem dX11_isGiven_22 : decode cX11_isGiven 22 = .ok (.iload_n 1, 1) := by decide +kernel
theorem dX11_isGiven_23 : decode cX11_isGiven 23 = .ok (.if_icmp .ne 7, 3) := by decide +kernel
theorem dX11_isGiven_26 : decode cX11_isGiven 26 = .ok (.iconst 1, 1) := by decide +kernel
theorem dX11_isGiven_27 : decode cX11_isGiven 27 = .ok (.goto 4, 3) := by decide +kernel
theorem dX11_isGiven_30 : decode cX11_isGiven 30 = .ok (.iconst 0, 1) := by decide +kernel
theorem dX11_isGiven_31 : decode cX11_isGiven 31 = .ok (.istore_n 2, 1) := by decide +kernel
theorem dX11_isGiven_32 : decode cX11_isGiven 32 = .ok (.iinc 3 1, 3) := by decide +kernel
theorem dX11_isGiven_35 : decode cX11_isGiven 35 = .ok (.goto (-31), 3) := by decide +kernel
theorem dX11_isGiven_38 : decode cX11_isGiven 38 = .ok (.iload_n 2, 1) := by decide +kernel
theorem dX11_isGiven_39 : decode cX11_isGiven 39 = .ok (.ireturn, 1) := by decide +kernel
theorem dX11_cover_0 : decode cX11_cover 0 = .ok (.aload_n 0, 1) := by decide +kernel
theorem dX11_cover_1 : decode cX11_cover 1 = .ok (.iconst 0, 1) := by decide +kernel
theorem dX11_cover_2 : decode cX11_cover 2 = .ok (.putfield 174, 3) := by decide +kernel
theorem dX11_cover_5 : decode cX11_cover 5 = .ok (.aload_n 0, 1) := by decide +kernel
theorem dX11_cover_6 : decode cX11_cover 6 = .ok (.getfield 13, 3) := by decide +kernel
theorem dX11_cover_9 : decode cX11_cover 9 = .ok (.iconst 2, 1) := by decide +kernel
theorem dX11_cover_10 : decode cX11_cover 10 = .ok (.if_icmp .ne 11, 3) := by decide +kernel
theorem dX11_cover_13 : decode cX11_cover 13 = .ok (.aload_n 0, 1) := by decide +kernel
theorem dX11_cover_14 : decode cX11_cover 14 = .ok (.getfield 7, 3) := by decide +kernel
theorem dX11_cover_17 : decode cX11_cover 17 = .ok (.iconst 5, 1) := by decide +kernel
theorem dX11_cover_18 : decode cX11_cover 18 = .ok (.if_icmp .le 5, 3) := by decide +kernel
theorem dX11_cover_21 : decode cX11_cover 21 = .ok (.iconst (-1), 1) := by decide +kernel
theorem dX11_cover_22 : decode cX11_cover 22 = .ok (.ireturn, 1) := by decide +kernel
theorem dX11_cover_23 : decode cX11_cover 23 = .ok (.aload_n 0, 1) := by decide +kernel
theorem dX11_cover_24 : decode cX11_cover 24 = .ok (.getfield 133, 3) := by decide +kernel
theorem dX11_cover_27 : decode cX11_cover 27 = .ok (.aload_n 0, 1) := by decide +kernel
theorem dX11_cover_28 : decode cX11_cover 28 = .ok (.getfield 7, 3) := by decide +kernel
theorem dX11_cover_31 : decode cX11_cover 31 = .ok (.iaload, 1) := by decide +kernel
theorem dX11_cover_32 : decode cX11_cover 32 = .ok (.ifCond .ne 72, 3) := by decide +kernel
theorem dX11_cover_35 : decode cX11_cover 35 = .ok (.aload_n 0, 1) := by decide +kernel
theorem dX11_cover_36 : decode cX11_cover 36 = .ok (.invokevirtual 415, 3) := by decide +kernel
theorem dX11_cover_39 : decode cX11_cover 39 = .ok (.iconst 1, 1) := by decide +kernel
theorem dX11_cover_40 : decode cX11_cover 40 = .ok (.istore_n 1, 1) := by decide +kernel
theorem dX11_cover_41 : decode cX11_cover 41 = .ok (.aload_n 0, 1) := by decide +kernel
theorem dX11_cover_42 : decode cX11_cover 42 = .ok (.iload_n 1, 1) := by decide +kernel
theorem dX11_cover_43 : decode cX11_cover 43 = .ok (.invokevirtual 418, 3) := by decide +kernel
theorem dX11_cover_46 : decode cX11_cover 46 = .ok (.ifCond .ne 9, 3) := by decide +kernel
theorem dX11_cover_49 : decode cX11_cover 49 = .ok (.iinc 1 1, 3) := by decide +kernel
theorem dX11_cover_52 : decode cX11_cover 52 = .ok (.goto (-11), 3) := by decide +kernel
theorem dX11_cover_55 : decode cX11_cover 55 = .ok (.aload_n 0, 1) := by decide +kernel
theorem dX11_cover_56 : decode cX11_cover 56 = .ok (.getfield 133, 3) := by decide +kernel
theorem dX11_cover_59 : decode cX11_cover 59 = .ok (.aload_n 0, 1) := by decide +kernel
theorem dX11_cover_60 : decode cX11_cover 60 = .ok (.getfield 7, 3) := by decide +kernel
theorem dX11_cover_63 : decode cX11_cover 63 = .ok (.aload_n 0, 1) := by decide +kernel
theorem dX11_cover_64 : decode cX11_cover 64 = .ok (.getfield 409, 3) := by decide +kernel
theorem dX11_cover_67 : decode cX11_cover 67 = .ok (.iastore, 1) := by decide +kernel
theorem dX11_cover_68 : decode cX11_cover 68 = .ok (.iconst 0, 1) := by decide +kernel
theorem dX11_cover_69 : decode cX11_cover 69 = .ok (.istore_n 2, 1) := by decide +kernel
theorem dX11_cover_70 : decode cX11_cover 70 = .ok (.iload_n 2, 1) := by decide +kernel
theorem dX11_cover_71 : decode cX11_cover 71 = .ok (.aload_n 0, 1) := by decide +kernel
theorem dX11_cover_72 : decode cX11_cover 72 = .ok (.getfield 409, 3) := by decide +kernel
theorem dX11_cover_75 : decode cX11_cover 75 = .ok (.if_icmp .ge 29, 3) := by decide +kernel
theorem dX11_cover_78 : decode cX11_cover 78 = .ok (.aload_n 0, 1) := by decide +kernel
theorem dX11_cover_79 : decode cX11_cover 79 = .ok (.getfield 136, 3) := by decide +kernel
theorem dX11_cover_82 : decode cX11_cover 82 = .ok (.bipush 32, 2) := by decide +kernel
theorem dX11_cover_84 : decode cX11_cover 84 = .ok (.aload_n 0, 1) := by decide +kernel
theorem dX11_cover_85 : decode cX11_cover 85 = .ok (.getfield 7, 3) := by decide +kernel
theorem dX11_cover_88 : decode cX11_cover 88 = .ok (.imul, 1) := by decide +kernel
theorem dX11_cover_89 : decode cX11_cover 89 = .ok (.iload_n 2, 1) := by decide +kernel
theorem dX11_cover_90 : decode cX11_cover 90 = .ok (.iadd, 1) := by decide +kernel
theorem dX11_cover_91 : decode cX11_cover 91 = .ok (.aload_n 0, 1) := by decide +kernel
theorem dX11_cover_92 : decode cX11_cover 92 = .ok (.getfield 121, 3) := by decide +kernel
theorem dX11_cover_95 : decode cX11_cover 95 = .ok (.iload_n 2, 1) := by decide +kernel
theorem dX11_cover_96 : decode cX11_cover 96 = .ok (.iaload, 1) := by decide +kernel
theorem dX11_cover_97 : decode cX11_cover 97 = .ok (.iastore, 1) := by decide +kernel
theorem dX11_cover_98 : decode cX11_cover 98 = .ok (.iinc 2 1, 3) := by decide +kernel
theorem dX11_cover_101 : decode cX11_cover 101 = .ok (.goto (-31), 3) := by decide +kernel
theorem dX11_cover_104 : decode cX11_cover 104 = .ok (.aload_n 0, 1) := by decide +kernel
theorem dX11_cover_105 : decode cX11_cover 105 = .ok (.aload_n 0, 1) := by decide +kernel
theorem dX11_cover_106 : decode cX11_cover 106 = .ok (.getfield 133, 3) := by decide +kernel
theorem dX11_cover_109 : decode cX11_cover 109 = .ok (.aload_n 0, 1) := by decide +kernel
theorem dX11_cover_110 : decode cX11_cover 110 = .ok (.getfield 7, 3) := by decide +kernel
theorem dX11_cover_113 : decode cX11_cover 113 = .ok (.iaload, 1) := by decide +kernel
theorem dX11_cover_114 : decode cX11_cover 114 = .ok (.putfield 409, 3) := by decide +kernel
theorem dX11_cover_117 : decode cX11_cover 117 = .ok (.iconst 0, 1) := by decide +kernel
theorem dX11_cover_118 : decode cX11_cover 118 = .ok (.istore_n 1, 1) := by decide +kernel
theorem dX11_cover_119 : decode cX11_cover 119 = .ok (.iload_n 1, 1) := by decide +kernel
theorem dX11_cover_120 : decode cX11_cover 120 = .ok (.aload_n 0, 1) := by decide +kernel
theorem dX11_cover_121 : decode cX11_cover 121 = .ok (.getfield 409, 3) := by decide +kernel
theorem dX11_cover_124 : decode cX11_cover 124 = .ok (.if_icmp .ge 29, 3) := by decide +kernel
theorem dX11_cover_127 : decode cX11_cover 127 = .ok (.aload_n 0, 1) := by decide +kernel
theorem dX11_cover_128 : decode cX11_cover 128 = .ok (.getfield 121, 3) := by decide +kernel
theorem dX11_cover_131 : decode cX11_cover 131 = .ok (.iload_n 1, 1) := by decide +kernel
theorem dX11_cover_132 : decode cX11_cover 132 = .ok (.aload_n 0, 1) := by decide +kernel
theorem dX11_cover_133 : decode cX11_cover 133 = .ok (.getfield 136, 3) := by decide +kernel
theorem dX11_cover_136 : decode cX11_cover 136 = .ok (.bipush 32, 2) := by decide +kernel
theorem dX11_cover_138 : decode cX11_cover 138 = .ok (.aload_n 0, 1) := by decide +kernel
theorem dX11_cover_139 : decode cX11_cover 139 = .ok (.getfield 7, 3) := by decide +kernel
theorem dX11_cover_142 : decode cX11_cover 142 = .ok (.imul, 1) := by decide +kernel
theorem dX11_cover_143 : decode cX11_cover 143 = .ok (.iload_n 1, 1) := by decide +kernel
theorem dX11_cover_144 : decode cX11_cover 144 = .ok (.iadd, 1) := by decide +kernel
theorem dX11_cover_145 : decode cX11_cover 145 = .ok (.iaload, 1) := by decide +kernel
theorem dX11_cover_146 : decode cX11_cover 146 = .ok (.iastore, 1) := by decide +kernel
theorem dX11_cover_147 : decode cX11_cover 147 = .ok (.iinc 1 1, 3) := by decide +kernel
theorem dX11_cover_150 : decode cX11_cover 150 = .ok (.goto (-31), 3) := by decide +kernel
theorem dX11_cover_153 : decode cX11_cover 153 = .ok (.iconst 0, 1) := by decide +kernel
theorem dX11_cover_154 : decode cX11_cover 154 = .ok (.istore_n 1, 1) := by decide +kernel
theorem dX11_cover_155 : decode cX11_cover 155 = .ok (.iload_n 1, 1) := by decide +kernel
theorem dX11_cover_156 : decode cX11_cover 156 = .ok (.aload_n 0, 1) := by decide +kernel
theorem dX11_cover_157 : decode cX11_cover 157 = .ok (.getfield 7, 3) := by decide +kernel
theorem dX11_cover_160 : decode cX11_cover 160 = .ok (.if_icmp .ge 32, 3) := by decide +kernel
theorem dX11_cover_163 : decode cX11_cover 163 = .ok (.aload_n 0, 1) := by decide +kernel
theorem dX11_cover_164 : decode cX11_cover 164 = .ok (.getfield 26, 3) := by decide +kernel
theorem dX11_cover_167 : decode cX11_cover 167 = .ok (.iload_n 1, 1) := by decide +kernel
theorem dX11_cover_168 : decode cX11_cover 168 = .ok (.aload_n 0, 1) := by decide +kernel
theorem dX11_cover_169 : decode cX11_cover 169 = .ok (.invokevirtual 187, 3) := by decide +kernel
theorem dX11_cover_172 : decode cX11_cover 172 = .ok (.iconst 1, 1) := by decide +kernel
theorem dX11_cover_173 : decode cX11_cover 173 = .ok (.iload_n 1, 1) := by decide +kernel
theorem dX11_cover_174 : decode cX11_cover 174 = .ok (.ishl, 1) := by decide +kernel
theorem dX11_cover_175 : decode cX11_cover 175 = .ok (.iconst (-1), 1) := by decide +kernel
theorem dX11_cover_176 : decode cX11_cover 176 = .ok (.ixor, 1) := by decide +kernel
theorem dX11_cover_177 : decode cX11_cover 177 = .ok (.iand, 1) := by decide +kernel
theorem dX11_cover_178 : decode cX11_cover 178 = .ok (.iastore, 1) := by decide +kernel
theorem dX11_cover_179 : decode cX11_cover 179 = .ok (.aload_n 0, 1) := by decide +kernel
theorem dX11_cover_180 : decode cX11_cover 180 = .ok (.getfield 29, 3) := by decide +kernel
theorem dX11_cover_183 : decode cX11_cover 183 = .ok (.iload_n 1, 1) := by decide +kernel
theorem dX11_cover_184 : decode cX11_cover 184 = .ok (.iconst 0, 1) := by decide +kernel
theorem dX11_cover_185 : decode cX11_cover 185 = .ok (.iastore, 1) := by decide +kernel
theorem dX11_cover_186 : decode cX11_cover 186 = .ok (.iinc 1 1, 3) := by decide +kernel
theorem dX11_cover_189 : decode cX11_cover 189 = .ok (.goto (-34), 3) := by decide +kernel
theorem dX11_cover_192 : decode cX11_cover 192 = .ok (.iconst 0, 1) := by decide +kernel
theorem dX11_cover_193 : decode cX11_cover 193 = .ok (.istore_n 1, 1) := by decide +kernel
theorem dX11_cover_194 : decode cX11_cover 194 = .ok (.iload_n 1, 1) := by decide +kernel
theorem dX11_cover_195 : decode cX11_cover 195 = .ok (.aload_n 0, 1) := by decide +kernel
theorem dX11_cover_196 : decode cX11_cover 196 = .ok (.getfield 7, 3) := by decide +kernel
theorem dX11_cover_199 : decode cX11_cover 199 = .ok (.if_icmp .ge 107, 3) := by decide +kernel
theorem dX11_cover_202 : decode cX11_cover 202 = .ok (.aload_n 0, 1) := by decide +kernel
theorem dX11_cover_203 : decode cX11_cover 203 = .ok (.iload_n 1, 1) := by decide +kernel
theorem dX11_cover_204 : decode cX11_cover 204 = .ok (.invokevirtual 191, 3) := by decide +kernel
theorem dX11_cover_207 : decode cX11_cover 207 = .ok (.iconst 0, 1) := by decide +kernel
theorem dX11_cover_208 : decode cX11_cover 208 = .ok (.istore_n 2, 1) := by decide +kernel
theorem dX11_cover_209 : decode cX11_cover 209 = .ok (.iload_n 2, 1) := by decide +kernel
theorem dX11_cover_210 : decode cX11_cover 210 = .ok (.aload_n 0, 1) := by decide +kernel
theorem dX11_cover_211 : decode cX11_cover 211 = .ok (.getfield 16, 3) := by decide +kernel
theorem dX11_cover_214 : decode cX11_cover 214 = .ok (.if_icmp .ge 86, 3) := by decide +kernel
theorem dX11_cover_217 : decode cX11_cover 217 = .ok (.iload_n 2, 1) := by decide +kernel
theorem dX11_cover_218 : decode cX11_cover 218 = .ok (.iload_n 1, 1) := by decide +kernel
theorem dX11_cover_219 : decode cX11_cover 219 = .ok (.ishr, 1) := by decide +kernel
theorem dX11_cover_220 : decode cX11_cover 220 = .ok (.iconst 1, 1) := by decide +kernel
theorem dX11_cover_221 : decode cX11_cover 221 = .ok (.iand, 1) := by decide +kernel
theorem dX11_cover_222 : decode cX11_cover 222 = .ok (.iconst 1, 1) := by decide +kernel
theorem dX11_cover_223 : decode cX11_cover 223 = .ok (.if_icmp .ne 6, 3) := by decide +kernel
theorem dX11_cover_226 : decode cX11_cover 226 = .ok (.goto 68, 3) := by decide +kernel
theorem dX11_cover_229 : decode cX11_cover 229 = .ok (.aload_n 0, 1) := by decide +kernel
theorem dX11_cover_230 : decode cX11_cover 230 = .ok (.iload_n 2, 1) := by decide +kernel
theorem dX11_cover_231 : decode cX11_cover 231 = .ok (.invokevirtual 345, 3) := by decide +kernel
theorem dX11_cover_234 : decode cX11_cover 234 = .ok (.aload_n 0, 1) := by decide +kernel
theorem dX11_cover_235 : decode cX11_cover 235 = .ok (.iload_n 2, 1) := by decide +kernel
theorem dX11_cover_236 : decode cX11_cover 236 = .ok (.invokevirtual 421, 3) := by decide +kernel
theorem dX11_cover_239 : decode cX11_cover 239 = .ok (.istore_n 3, 1) := by decide +kernel
theorem dX11_cover_240 : decode cX11_cover 240 = .ok (.aload_n 0, 1) := by decide +kernel
theorem dX11_cover_241 : decode cX11_cover 241 = .ok (.iload_n 2, 1) := by decide +kernel
theorem dX11_cover_242 : decode cX11_cover 242 = .ok (.iconst 1, 1) := by decide +kernel
theorem dX11_cover_243 : decode cX11_cover 243 = .ok (.iload_n 1, 1) := by decide +kernel
theorem dX11_cover_244 : decode cX11_cover 244 = .ok (.ishl, 1) := by decide +kernel
theorem dX11_cover_245 : decode cX11_cover 245 = .ok (.ior, 1) := by decide +kernel
theorem dX11_cover_246 : decode cX11_cover 246 = .ok (.invokevirtual 421, 3) := by decide +kernel
theorem dX11_cover_249 : decode cX11_cover 249 = .ok (.istore 4, 2) := by decide +kernel
theorem dX11_cover_251 : decode cX11_cover 251 = .ok (.aload_n 0, 1) := by decide +kernel
theorem dX11_cover_252 : decode cX11_cover 252 = .ok (.getfield 35, 3) := by decide +kernel
theorem dX11_cover_255 : decode cX11_cover 255 = .ok (.sipush 1024, 3) := by decide +kernel
theorem dX11_cover_258 : decode cX11_cover 258 = .ok (.iload_n 1, 1) := by decide +kernel
theorem dX11_cover_259 : decode cX11_cover 259 = .ok (.imul, 1) := by decide +kernel
theorem dX11_cover_260 : decode cX11_cover 260 = .ok (.aload_n 0, 1) := by decide +kernel
theorem dX11_cover_261 : decode cX11_cover 261 = .ok (.iload_n 1, 1) := by decide +kernel
theorem dX11_cover_262 : decode cX11_cover 262 = .ok (.invokevirtual 339, 3) := by decide +kernel
theorem dX11_cover_265 : decode cX11_cover 265 = .ok (.iadd, 1) := by decide +kernel
theorem dX11_cover_266 : decode cX11_cover 266 = .ok (.iload_n 3, 1) := by decide +kernel
theorem dX11_cover_267 : decode cX11_cover 267 = .ok (.iload 4, 2) := by decide +kernel
theorem dX11_cover_269 : decode cX11_cover 269 = .ok (.if_icmp .ne 15, 3) := by decide +kernel
theorem dX11_cover_272 : decode cX11_cover 272 = .ok (.iload_n 3, 1) := by decide +kernel
theorem dX11_cover_273 : decode cX11_cover 273 = .ok (.ifCond .eq 7, 3) := by decide +kernel
theorem dX11_cover_276 : decode cX11_cover 276 = .ok (.iconst 0, 1) := by decide +kernel
theorem dX11_cover_277 : decode cX11_cover 277 = .ok (.goto 16, 3) := by decide +kernel
theorem dX11_cover_280 : decode cX11_cover 280 = .ok (.iconst 2, 1) := by decide +kernel
theorem dX11_cover_281 : decode cX11_cover 281 = .ok (.goto 12, 3) := by decide +kernel
theorem dX11_cover_284 : decode cX11_cover 284 = .ok (.iload_n 3, 1) := by decide +kernel
theorem dX11_cover_285 : decode cX11_cover 285 = .ok (.ifCond .eq 7, 3) := by decide +kernel
theorem dX11_cover_288 : decode cX11_cover 288 = .ok (.iconst 1, 1) := by decide +kernel
theorem dX11_cover_289 : decode cX11_cover 289 = .ok (.goto 4, 3) := by decide +kernel
theorem dX11_cover_292 : decode cX11_cover 292 = .ok (.iconst 0, 1) := by decide +kernel
theorem dX11_cover_293 : decode cX11_cover 293 = .ok (.iastore, 1) := by decide +kernel
theorem dX11_cover_294 : decode cX11_cover 294 = .ok (.iinc 2 1, 3) := by decide +kernel
theorem dX11_cover_297 : decode cX11_cover 297 = .ok (.goto (-88), 3) := by decide +kernel
theorem dX11_cover_300 : decode cX11_cover 300 = .ok (.iinc 1 1, 3) := by decide +kernel
theorem dX11_cover_303 : decode cX11_cover 303 = .ok (.goto (-109), 3) := by decide +kernel
theorem dX11_cover_306 : decode cX11_cover 306 = .ok (.aload_n 0, 1) := by decide +kernel
theorem dX11_cover_307 : decode cX11_cover 307 = .ok (.iconst 0, 1) := by decide +kernel
theorem dX11_cover_308 : decode cX11_cover 308 = .ok (.putfield 195, 3) := by decide +kernel
theorem dX11_cover_311 : decode cX11_cover 311 = .ok (.aload_n 0, 1) := by decide +kernel
theorem dX11_cover_312 : decode cX11_cover 312 = .ok (.getfield 409, 3) := by decide +kernel
theorem dX11_cover_315 : decode cX11_cover 315 = .ok (.ireturn, 1) := by decide +kernel
theorem dX11_given_0 : decode cX11_given 0 = .ok (.aload_n 0, 1) := by decide +kernel
theorem dX11_given_1 : decode cX11_given 1 = .ok (.iconst 0, 1) := by decide +kernel
theorem dX11_given_2 : decode cX11_given 2 = .ok (.putfield 174, 3) := by decide +kernel
theorem dX11_given_5 : decode cX11_given 5 = .ok (.aload_n 0, 1) := by decide +kernel
theorem dX11_given_6 : decode cX11_given 6 = .ok (.iload_n 1, 1) := by decide +kernel
theorem dX11_given_7 : decode cX11_given 7 = .ok (.ifCond .lt 15, 3) := by decide +kernel
theorem dX11_given_10 : decode cX11_given 10 = .ok (.iload_n 1, 1) := by decide +kernel
theorem dX11_given_11 : decode cX11_given 11 = .ok (.aload_n 0, 1) := by decide +kernel
theorem dX11_given_12 : decode cX11_given 12 = .ok (.getfield 409, 3) := by decide +kernel
theorem dX11_given_15 : decode cX11_given 15 = .ok (.if_icmp .ge 7, 3) := by decide +kernel
theorem dX11_given_18 : decode cX11_given 18 = .ok (.iconst 1, 1) := by decide +kernel
theorem dX11_given_19 : decode cX11_given 19 = .ok (.goto 4, 3) := by decide +kernel
theorem dX11_given_22 : decode cX11_given 22 = .ok (.iconst 0, 1) := by decide +kernel
theorem dX11_given_23 : decode cX11_given 23 = .ok (.iconst 1, 1) := by decide +kernel
theorem dX11_given_24 : decode cX11_given 24 = .ok (.invokevirtual 203, 3) := by decide +kernel
theorem dX11_given_27 : decode cX11_given 27 = .ok (.ifCond .eq 12, 3) := by decide +kernel
theorem dX11_given_30 : decode cX11_given 30 = .ok (.aload_n 0, 1) := by decide +kernel
theorem dX11_given_31 : decode cX11_given 31 = .ok (.getfield 121, 3) := by decide +kernel
theorem dX11_given_34 : decode cX11_given 34 = .ok (.iload_n 1, 1) := by decide +kernel
theorem dX11_given_35 : decode cX11_given 35 = .ok (.iaload, 1) := by decide +kernel
theorem dX11_given_36 : decode cX11_given 36 = .ok (.goto 4, 3) := by decide +kernel
theorem dX11_given_39 : decode cX11_given 39 = .ok (.iconst 0, 1) := by decide +kernel
theorem dX11_given_40 : decode cX11_given 40 = .ok (.ireturn, 1) := by decide +kernel
section
variable {p : Program} {l : Launch} {e : Env} {R : Room} {s : State} {m : MethodId} {args : Array Value} {below : List Frame} {meth : Method} {c : Code} {D : va_G} {cA : Nat → ClassId} {z : Nat} {A : Nat → Prop} {T : HR}
theorem cM_steps {l : Launch} {D : va_G} {cA : Nat → ClassId} {z sz : Nat} {I : HI} {J : HJ}  {Q : Int32 → HI → Prop}  (h : M_steps I  Q) : Met l yX11_steps (hws0 yX11_steps cX11_steps 1 (some .int)) { frames := 0, cells := 0, slots := 0, locals := 0 } (hPc D cA z Ev0 (I, J, T, FM, LM) sz [.ref (z + 0)]) (va_Qi (pI J T FM LM Q) (hB D cA z (hA z LM sz)) (hA z LM sz)) 0 0 (hA z LM sz) := by
  refine hm_met (I, J, T, FM, LM) [.ref (z + 0)] rfl (by decide) (Nat.le_of_ble_eq_true rfl) ?_
  intro p e s m below meth c ls X hr hlk hnm hxt hsz hw hl
  have hl : lv_has ls 1 [(0, .ref (z + 0))] := hl
  have hR : 0 ≤ ({ frames := 0, cells := 0, slots := 0, locals := 0 } : Room).frames ∧ 0 ≤ ({ frames := 0, cells := 0, slots := 0, locals := 0 } : Room).locals := ⟨Nat.le_refl _, Nat.le_refl _⟩
  generalize ({ frames := 0, cells := 0, slots := 0, locals := 0 } : Room) = R at hR ⊢
  clear hsz
  generalize (hA z LM sz) = A at hw ⊢
  have hx := X.1
  have hb := X.2.1
  unfold M_steps at h
  refine lv_aload_n hx hb dX11_steps_0 rfl (lv_at hl 0 rfl) ?_
  refine lv_iconst (v := 0) hx hb dX11_steps_1 (by decide) ?_
  refine hm_puti X hw lkM_174 LM_0 rfl rfl dX11_steps_2 (fun H locs hw => ?_)
  refine lv_aload_n hx hb dX11_steps_5 rfl (lv_at hl 0 rfl) ?_
  refine hm_geti X hw lkM_109 LM_0 dX11_steps_6 ?_
  exact hm_iret X hr hlk hw ⟨_, rfl, h⟩ dX11_steps_9

theorem wkM_isWonBy_l4 {I : HI} {J : HJ} {x1 : Int32} {Q : Int32 → Prop} (X : hX p m c s args RX11 cX11_isWonBy 4) (hr : meth.sig.returnType = (some .boolean)) (hlk : meth.locks = false) (hR : 2 ≤ R.frames ∧ 45 ≤ R.locals)   : ∀ (n : Nat) (x2 : Int32) (x3 : Int32) {ls : Array Slot} {H : Heap} {locs : List Loc}, M_isWonBy_l4 I x1 Q n x2 x3 → hW D cA z Ev0 (I, J, T, FM, LM) A s H locs → lv_has ls 4 [(0, .ref (z + 0)), (1, .int x1), (2, .int x2), (3, .int x3)] → W p l e R s m args below meth c H locs 0 0 (MQ below (va_Qi (p0 (I, J, T, FM, LM) Q) (hB D cA z A) A) args s 0 0 A) (F0 m 4 ls []) := by
  have hx := X.1
  have hb := X.2.1
  intro n
  induction n with
  | zero => intro x2 x3 ls H locs h; exact False.elim h
  | succ n ih =>
    intro x2 x3 ls H locs h hw hl
    rw [M_isWonBy_l4] at h
    refine lv_iload_n hx hb dX11_isWonBy_4 rfl (lv_at hl 3 rfl) ?_
    refine lv_aload_n hx hb dX11_isWonBy_5 rfl (lv_at hl 0 rfl) ?_
    refine hm_geti X hw lkM_7 LM_0 dX11_isWonBy_6 ?_
    refine lv_icmp_ge (tgt := 49) hx hb dX11_isWonBy_9 (by decide) (fun hc => ?_) (fun hc => ?_)
    · have h := Eq.mp (if_pos hc) h
      refine lv_aload_n hx hb dX11_isWonBy_49 rfl (lv_at hl 0 rfl) ?_
      refine lv_iload_n hx hb dX11_isWonBy_50 rfl (lv_at hl 2 rfl) ?_
      refine lv_aload_n hx hb dX11_isWonBy_51 rfl (lv_at hl 0 rfl) ?_
      refine hm_calli hw (hm_runV (rest := [_, _]) hCl_true X hw (cM_all  h) ykM_all kw1330 rfl LM_0 rfl hl.1 rfl rfl rfl (Nat.le_of_ble_eq_true rfl) ⟨Nat.le_trans (Nat.le_of_ble_eq_true rfl) hR.1, Nat.le_trans (Nat.le_of_ble_eq_true rfl) hR.2⟩ ⟨Nat.zero_le _, Nat.zero_le _⟩ dX11_isWonBy_52) (fun r1 u2 H locs hp hw => ?_)
      obtain ⟨rfl, h⟩ := hp
      refine lv_iload_n hx hb dX11_isWonBy_55 rfl (lv_at hl 2 rfl) ?_
      refine lv_iconst (v := (-1)) hx hb dX11_isWonBy_56 (by decide) ?_
      refine lv_ixor hx hb dX11_isWonBy_57 ?_
      refine lv_iand hx hb dX11_isWonBy_58 ?_
      refine hm_calli hw (hm_runV (rest := []) hCl_true X hw (cM_isWon  h) ykM_isWon kw1772 rfl LM_0 rfl hl.1 rfl rfl rfl (Nat.le_of_ble_eq_true rfl) ⟨Nat.le_trans (Nat.le_of_ble_eq_true rfl) hR.1, Nat.le_trans (Nat.le_of_ble_eq_true rfl) hR.2⟩ ⟨Nat.zero_le _, Nat.zero_le _⟩ dX11_isWonBy_59) (fun r3 u4 H locs hp hw => ?_)
      obtain ⟨rfl, h⟩ := hp
      obtain ⟨hz, h⟩ := h
      exact hm_zret X hr hlk hw hz ⟨rfl, h⟩ dX11_isWonBy_62
    · have h := Eq.mp (if_neg hc) h
      refine lv_aload_n hx hb dX11_isWonBy_12 rfl (lv_at hl 0 rfl) ?_
      refine hm_getr X hw lkM_118 LM_0 (b := 30) rfl dX11_isWonBy_13 ?_
      refine lv_bipush (v := 8) hx hb dX11_isWonBy_16 (by decide) ?_
      refine lv_iload_n hx hb dX11_isWonBy_18 rfl (lv_at hl 1 rfl) ?_
      refine lv_imul hx hb dX11_isWonBy_19 ?_
      refine lv_iload_n hx hb dX11_isWonBy_20 rfl (lv_at hl 3 rfl) ?_
      refine lv_iadd hx hb dX11_isWonBy_21 ?_
      obtain ⟨hi, h⟩ := h
      refine hm_iald X hw LM_30 hi dX11_isWonBy_22 ?_
      refine lv_aload_n hx hb dX11_isWonBy_23 rfl (lv_at hl 0 rfl) ?_
      refine hm_geti X hw lkM_13 LM_0 dX11_isWonBy_24 ?_
      obtain ⟨hi, h⟩ := h
      refine hm_irem hx hb dX11_isWonBy_27 hi ?_
      refine lv_aload_n hx hb dX11_isWonBy_28 rfl (lv_at hl 0 rfl) ?_
      refine hm_getr X hw lkM_115 LM_0 (b := 29) rfl dX11_isWonBy_29 ?_
      refine lv_iload_n hx hb dX11_isWonBy_32 rfl (lv_at hl 3 rfl) ?_
      obtain ⟨hi, h⟩ := h
      refine hm_iald X hw LM_29 hi dX11_isWonBy_33 ?_
      refine lv_icmp_ne (tgt := 43) hx hb dX11_isWonBy_34 (by decide) (fun hc => ?_) (fun hc => ?_)
      · have h := Eq.mp (if_neg hc) h
        refine lv_iinc (v := x3 + 1) (lv' := [(3, _), (0, _), (1, _), (2, _)]) hx hb dX11_isWonBy_43 hl (k := 3) rfl rfl (by decide) rfl (fun ls hl => ?_)
        refine lv_goto (tgt := 4) hx hb dX11_isWonBy_46 (by decide) ?_
        exact ih _ _ h hw (lv_sub hl [1, 2, 3, 0] rfl)
      · have h := Eq.mp (if_pos hc) h
        refine lv_iload_n hx hb dX11_isWonBy_37 rfl (lv_at hl 2 rfl) ?_
        refine lv_iconst (v := 1) hx hb dX11_isWonBy_38 (by decide) ?_
        refine lv_iload_n hx hb dX11_isWonBy_39 rfl (lv_at hl 3 rfl) ?_
        refine lv_ishl hx hb dX11_isWonBy_40 ?_
        refine lv_ior hx hb dX11_isWonBy_41 ?_
        refine lv_istore_n (lv' := [(2, _), (0, _), (1, _), (3, _)]) hx hb dX11_isWonBy_42 rfl hl (by decide) rfl (fun ls hl => ?_)
        refine lv_iinc (v := x3 + 1) (lv' := [(3, _), (2, _), (0, _), (1, _)]) hx hb dX11_isWonBy_43 hl (k := 3) rfl rfl (by decide) rfl (fun ls hl => ?_)
        refine lv_goto (tgt := 4) hx hb dX11_isWonBy_46 (by decide) ?_
        exact ih _ _ h hw (lv_sub hl [2, 3, 1, 0] rfl)

theorem cM_isWonBy {l : Launch} {D : va_G} {cA : Nat → ClassId} {z sz : Nat} {I : HI} {J : HJ} {x1 : Int32} {Q : Int32 → Prop}  (h : M_isWonBy I x1 Q) : Met l yX11_isWonBy (hws0 yX11_isWonBy cX11_isWonBy 4 (some .boolean)) { frames := 2, cells := 0, slots := 0, locals := 45 } (hPc D cA z Ev0 (I, J, T, FM, LM) sz [.ref (z + 0), .int x1]) (va_Qi (p0 (I, J, T, FM, LM) Q) (hB D cA z (hA z LM sz)) (hA z LM sz)) 0 0 (hA z LM sz) := by
  refine hm_met (I, J, T, FM, LM) [.ref (z + 0), .int x1] rfl (by decide) (Nat.le_of_ble_eq_true rfl) ?_
  intro p e s m below meth c ls X hr hlk hnm hxt hsz hw hl
  have hl : lv_has ls 4 [(0, .ref (z + 0)), (1, .int x1)] := hl
  have hR : 2 ≤ ({ frames := 2, cells := 0, slots := 0, locals := 45 } : Room).frames ∧ 45 ≤ ({ frames := 2, cells := 0, slots := 0, locals := 45 } : Room).locals := ⟨Nat.le_refl _, Nat.le_refl _⟩
  generalize ({ frames := 2, cells := 0, slots := 0, locals := 45 } : Room) = R at hR ⊢
  clear hsz
  generalize (hA z LM sz) = A at hw ⊢
  have hx := X.1
  have hb := X.2.1
  unfold M_isWonBy at h
  refine lv_iconst (v := 0) hx hb dX11_isWonBy_0 (by decide) ?_
  refine lv_istore_n (lv' := [(2, _), (0, _), (1, _)]) hx hb dX11_isWonBy_1 rfl hl (by decide) rfl (fun ls hl => ?_)
  refine lv_iconst (v := 0) hx hb dX11_isWonBy_2 (by decide) ?_
  refine lv_istore_n (lv' := [(3, _), (2, _), (0, _), (1, _)]) hx hb dX11_isWonBy_3 rfl hl (by decide) rfl (fun ls hl => ?_)
  obtain ⟨n2, h⟩ := h
  exact wkM_isWonBy_l4 X hr hlk hR   n2 _ _ h hw (lv_sub hl [2, 3, 1, 0] rfl)

theorem wkM_sums_l296 {I : HI} {J : HJ} {x1 : Int32} {x2 : Int32} {x3 : Int32} {K261 : HI → Int32 → Prop} {K276 : HI → Int32 → Prop} {Q : Int32 → HI → Prop} (X : hX p m c s args RX11 cX11_sums 6) (hr : meth.sig.returnType = (some .int)) (hlk : meth.locks = false) (hR : 3 ≤ R.frames ∧ 68 ≤ R.locals)  (hK261 : ∀ (I : HI) (x2 : Int32) {ls : Array Slot} {H : Heap} {locs : List Loc}, K261 I x2 → hW D cA z Ev0 (I, J, T, FM, LM) A s H locs → lv_has ls 6 [(0, .ref (z + 0)), (1, .int x1), (2, .int x2)] → W p l e R s m args below meth c H locs 0 0 (MQ below (va_Qi (pI J T FM LM Q) (hB D cA z A) A) args s 0 0 A) (F0 m 261 ls [])) (hK276 : ∀ (I : HI) (x3 : Int32) {ls : Array Slot} {H : Heap} {locs : List Loc}, K276 I x3 → hW D cA z Ev0 (I, J, T, FM, LM) A s H locs → lv_has ls 6 [(0, .ref (z + 0)), (1, .int x1), (2, .int x2), (3, .int x3)] → W p l e R s m args below meth c H locs 0 0 (MQ below (va_Qi (pI J T FM LM Q) (hB D cA z A) A) args s 0 0 A) (F0 m 276 ls [])) : ∀ (n : Nat) (x4 : Int32) (x5 : Int32) {ls : Array Slot} {H : Heap} {locs : List Loc}, M_sums_l296 I x1 x2 x3 K261 K276 Q n x4 x5 → hW D cA z Ev0 (I, J, T, FM, LM) A s H locs → lv_has ls 6 [(0, .ref (z + 0)), (1, .int x1), (2, .int x2), (3, .int x3), (4, .int x4), (5, .int x5)] → W p l e R s m args below meth c H locs 0 0 (MQ below (va_Qi (pI J T FM LM Q) (hB D cA z A) A) args s 0 0 A) (F0 m 296 ls []) := by
  have hx := X.1
  have hb := X.2.1
  intro n
  induction n with
  | zero => intro x4 x5 ls H locs h; exact False.elim h
  | succ n ih =>
    intro x4 x5 ls H locs h hw hl
    rw [M_sums_l296] at h
    refine lv_iload hx hb dX11_sums_296 (lv_at hl 5 rfl) ?_
    refine lv_if_le (tgt := 325) hx hb dX11_sums_298 (by decide) (fun hc => ?_) (fun hc => ?_)
    · have h := Eq.mp (if_pos hc) h
      refine lv_aload_n hx hb dX11_sums_325 rfl (lv_at hl 0 rfl) ?_
      refine hm_getr X hw lkM_35 LM_0 (b := 5) rfl dX11_sums_326 ?_
      refine lv_sipush (v := 1024) hx hb dX11_sums_329 (by decide) ?_
      refine lv_iload_n hx hb dX11_sums_332 rfl (lv_at hl 2 rfl) ?_
      refine lv_imul hx hb dX11_sums_333 ?_
      refine lv_iload_n hx hb dX11_sums_334 rfl (lv_at hl 3 rfl) ?_
      refine lv_iadd hx hb dX11_sums_335 ?_
      refine lv_iload hx hb dX11_sums_336 (lv_at hl 4 rfl) ?_
      refine lv_aload_n hx hb dX11_sums_338 rfl (lv_at hl 0 rfl) ?_
      refine hm_geti X hw lkM_13 LM_0 dX11_sums_339 ?_
      obtain ⟨hi, h⟩ := h
      refine hm_irem hx hb dX11_sums_342 hi ?_
      refine lv_aload_n hx hb dX11_sums_343 rfl (lv_at hl 0 rfl) ?_
      refine hm_geti X hw lkM_13 LM_0 dX11_sums_344 ?_
      refine lv_iadd hx hb dX11_sums_347 ?_
      refine lv_aload_n hx hb dX11_sums_348 rfl (lv_at hl 0 rfl) ?_
      refine hm_geti X hw lkM_13 LM_0 dX11_sums_349 ?_
      obtain ⟨hi, h⟩ := h
      refine hm_irem hx hb dX11_sums_352 hi ?_
      obtain ⟨hi, h⟩ := h
      refine hm_iast X hw LM_5 hi dX11_sums_353 (fun H locs hw => ?_)
      refine lv_iinc (v := x3 + 1) (lv' := [(3, _), (0, _), (1, _), (2, _), (4, _), (5, _)]) hx hb dX11_sums_354 hl (k := 3) rfl rfl (by decide) rfl (fun ls hl => ?_)
      refine lv_goto (tgt := 276) hx hb dX11_sums_357 (by decide) ?_
      exact hK276 _ _ h hw (lv_sub hl [1, 2, 3, 0] rfl)
    · have h := Eq.mp (if_neg hc) h
      refine lv_iload hx hb dX11_sums_301 (lv_at hl 4 rfl) ?_
      refine lv_iload hx hb dX11_sums_303 (lv_at hl 5 rfl) ?_
      refine lv_aload_n hx hb dX11_sums_305 rfl (lv_at hl 0 rfl) ?_
      refine hm_geti X hw lkM_13 LM_0 dX11_sums_306 ?_
      obtain ⟨hi, h⟩ := h
      refine hm_irem hx hb dX11_sums_309 hi ?_
      refine lv_isub hx hb dX11_sums_310 ?_
      refine lv_istore (lv' := [(4, _), (0, _), (1, _), (2, _), (3, _), (5, _)]) hx hb dX11_sums_311 hl (by decide) rfl (fun ls hl => ?_)
      refine lv_iload hx hb dX11_sums_313 (lv_at hl 5 rfl) ?_
      refine lv_aload_n hx hb dX11_sums_315 rfl (lv_at hl 1 rfl) ?_
      refine hm_geti X hw lkM_13 LM_0 dX11_sums_316 ?_
      obtain ⟨hi, h⟩ := h
      refine hm_idiv hx hb dX11_sums_319 hi ?_
      refine lv_istore (lv' := [(5, _), (4, _), (0, _), (1, _), (2, _), (3, _)]) hx hb dX11_sums_320 hl (by decide) rfl (fun ls hl => ?_)
      refine lv_goto (tgt := 296) hx hb dX11_sums_322 (by decide) ?_
      exact ih _ _ h hw (lv_sub hl [2, 3, 4, 5, 1, 0] rfl)

theorem wkM_sums_l276 {J : HJ} {x1 : Int32} {x2 : Int32} {K261 : HI → Int32 → Prop} {Q : Int32 → HI → Prop} (X : hX p m c s args RX11 cX11_sums 6) (hr : meth.sig.returnType = (some .int)) (hlk : meth.locks = false) (hR : 3 ≤ R.frames ∧ 68 ≤ R.locals)  (hK261 : ∀ (I : HI) (x2 : Int32) {ls : Array Slot} {H : Heap} {locs : List Loc}, K261 I x2 → hW D cA z Ev0 (I, J, T, FM, LM) A s H locs → lv_has ls 6 [(0, .ref (z + 0)), (1, .int x1), (2, .int x2)] → W p l e R s m args below meth c H locs 0 0 (MQ below (va_Qi (pI J T FM LM Q) (hB D cA z A) A) args s 0 0 A) (F0 m 261 ls [])) : ∀ (n : Nat) (I : HI) (x3 : Int32) {ls : Array Slot} {H : Heap} {locs : List Loc}, M_sums_l276 x1 x2 K261 Q n I x3 → hW D cA z Ev0 (I, J, T, FM, LM) A s H locs → lv_has ls 6 [(0, .ref (z + 0)), (1, .int x1), (2, .int x2), (3, .int x3)] → W p l e R s m args below meth c H locs 0 0 (MQ below (va_Qi (pI J T FM LM Q) (hB D cA z A) A) args s 0 0 A) (F0 m 276 ls []) := by
  have hx := X.1
  have hb := X.2.1
  intro n
  induction n with
  | zero => intro I x3 ls H locs h; exact False.elim h
  | succ n ih =>
    intro I x3 ls H locs h hw hl
    rw [M_sums_l276] at h
    refine lv_iload_n hx hb dX11_sums_276 rfl (lv_at hl 3 rfl) ?_
    refine lv_aload_n hx hb dX11_sums_277 rfl (lv_at hl 0 rfl) ?_
    refine lv_iload_n hx hb dX11_sums_278 rfl (lv_at hl 2 rfl) ?_
    refine hm_calli hw (hm_runV (rest := [_]) hCl_true X hw (cM_viewsOf  h) ykM_viewsOf kw1338 rfl LM_0 rfl hl.1 rfl rfl rfl (Nat.le_of_ble_eq_true rfl) ⟨Nat.le_trans (Nat.le_of_ble_eq_true rfl) hR.1, Nat.le_trans (Nat.le_of_ble_eq_true rfl) hR.2⟩ ⟨Nat.zero_le _, Nat.zero_le _⟩ dX11_sums_279) (fun r8 u9 H locs hp hw => ?_)
    obtain ⟨rfl, h⟩ := hp
    refine lv_icmp_ge (tgt := 360) hx hb dX11_sums_282 (by decide) (fun hc => ?_) (fun hc => ?_)
    · have h := Eq.mp (if_pos hc) h
      refine lv_iinc (v := x2 + 1) (lv' := [(2, _), (0, _), (1, _), (3, _)]) hx hb dX11_sums_360 hl (k := 2) rfl rfl (by decide) rfl (fun ls hl => ?_)
      refine lv_goto (tgt := 261) hx hb dX11_sums_363 (by decide) ?_
      exact hK261 _ _ h hw (lv_sub hl [1, 2, 0] rfl)
    · have h := Eq.mp (if_neg hc) h
      refine lv_aload_n hx hb dX11_sums_285 rfl (lv_at hl 0 rfl) ?_
      refine hm_getr X hw lkM_112 LM_0 (b := 28) rfl dX11_sums_286 ?_
      refine lv_iload_n hx hb dX11_sums_289 rfl (lv_at hl 2 rfl) ?_
      obtain ⟨hi, h⟩ := h
      refine hm_iald X hw LM_28 hi dX11_sums_290 ?_
      refine lv_istore (lv' := [(4, _), (0, _), (1, _), (2, _), (3, _)]) hx hb dX11_sums_291 hl (by decide) rfl (fun ls hl => ?_)
      refine lv_iload_n hx hb dX11_sums_293 rfl (lv_at hl 4 rfl) ?_
      refine lv_istore (lv' := [(5, _), (4, _), (0, _), (1, _), (2, _), (3, _)]) hx hb dX11_sums_294 hl (by decide) rfl (fun ls hl => ?_)
      obtain ⟨n2, h⟩ := h
      exact wkM_sums_l296 X hr hlk hR  hK261 ih n2 _ _ h hw (lv_sub hl [2, 3, 4, 5, 1, 0] rfl)

theorem wkM_sums_l261 {J : HJ} {x1 : Int32} {Q : Int32 → HI → Prop} (X : hX p m c s args RX11 cX11_sums 6) (hr : meth.sig.returnType = (some .int)) (hlk : meth.locks = false) (hR : 3 ≤ R.frames ∧ 68 ≤ R.locals)   : ∀ (n : Nat) (I : HI) (x2 : Int32) {ls : Array Slot} {H : Heap} {locs : List Loc}, M_sums_l261 x1 Q n I x2 → hW D cA z Ev0 (I, J, T, FM, LM) A s H locs → lv_has ls 6 [(0, .ref (z + 0)), (1, .int x1), (2, .int x2)] → W p l e R s m args below meth c H locs 0 0 (MQ below (va_Qi (pI J T FM LM Q) (hB D cA z A) A) args s 0 0 A) (F0 m 261 ls []) := by
  have hx := X.1
  have hb := X.2.1
  intro n
  induction n with
  | zero => intro I x2 ls H locs h; exact False.elim h
  | succ n ih =>
    intro I x2 ls H locs h hw hl
    rw [M_sums_l261] at h
    refine lv_iload_n hx hb dX11_sums_261 rfl (lv_at hl 2 rfl) ?_
    refine lv_aload_n hx hb dX11_sums_262 rfl (lv_at hl 0 rfl) ?_
    refine hm_geti X hw lkM_7 LM_0 dX11_sums_263 ?_
    refine lv_icmp_ge (tgt := 366) hx hb dX11_sums_266 (by decide) (fun hc => ?_) (fun hc => ?_)
    · have h := Eq.mp (if_pos hc) h
      refine lv_aload_n hx hb dX11_sums_366 rfl (lv_at hl 0 rfl) ?_
      refine lv_iconst (v := 0) hx hb dX11_sums_367 (by decide) ?_
      refine hm_puti X hw lkM_195 LM_0 rfl rfl dX11_sums_368 (fun H locs hw => ?_)
      refine lv_iload_n hx hb dX11_sums_371 rfl (lv_at hl 1 rfl) ?_
      exact hm_iret X hr hlk hw ⟨_, rfl, h⟩ dX11_sums_372
    · have h := Eq.mp (if_neg hc) h
      refine lv_aload_n hx hb dX11_sums_269 rfl (lv_at hl 0 rfl) ?_
      refine lv_iload_n hx hb dX11_sums_270 rfl (lv_at hl 2 rfl) ?_
      refine hm_callv hw (hm_runV (rest := []) hCl_true X hw (cM_blank  h) ykM_blank kw1334 rfl LM_0 rfl hl.1 rfl rfl rfl (Nat.le_of_ble_eq_true rfl) ⟨Nat.le_trans (Nat.le_of_ble_eq_true rfl) hR.1, Nat.le_trans (Nat.le_of_ble_eq_true rfl) hR.2⟩ ⟨Nat.zero_le _, Nat.zero_le _⟩ dX11_sums_271) (fun u7 H locs hp hw => ?_)
      obtain ⟨I6, rfl, h⟩ := hp
      refine lv_iconst (v := 0) hx hb dX11_sums_274 (by decide) ?_
      refine lv_istore_n (lv' := [(3, _), (0, _), (1, _), (2, _)]) hx hb dX11_sums_275 rfl hl (by decide) rfl (fun ls hl => ?_)
      obtain ⟨n2, h⟩ := h
      exact wkM_sums_l276 X hr hlk hR  ih n2 _ _ h hw (lv_sub hl [1, 2, 3, 0] rfl)

theorem wkM_sums_l216 {J : HJ} {x1 : Int32} {x2 : Int32} {K110 : HI → Int32 → Int32 → Prop} {Q : Int32 → HI → Prop} (X : hX p m c s args RX11 cX11_sums 6) (hr : meth.sig.returnType = (some .int)) (hlk : meth.locks = false) (hR : 3 ≤ R.frames ∧ 68 ≤ R.locals)  (hK110 : ∀ (I : HI) (x1 : Int32) (x2 : Int32) {ls : Array Slot} {H : Heap} {locs : List Loc}, K110 I x1 x2 → hW D cA z Ev0 (I, J, T, FM, LM) A s H locs → lv_has ls 6 [(0, .ref (z + 0)), (1, .int x1), (2, .int x2)] → W p l e R s m args below meth c H locs 0 0 (MQ below (va_Qi (pI J T FM LM Q) (hB D cA z A) A) args s 0 0 A) (F0 m 110 ls [])) : ∀ (n : Nat) (I : HI) (x5 : Int32) {ls : Array Slot} {H : Heap} {locs : List Loc}, M_sums_l216 x1 x2 K110 Q n I x5 → hW D cA z Ev0 (I, J, T, FM, LM) A s H locs → lv_has ls 6 [(0, .ref (z + 0)), (1, .int x1), (2, .int x2), (5, .int x5)] → W p l e R s m args below meth c H locs 0 0 (MQ below (va_Qi (pI J T FM LM Q) (hB D cA z A) A) args s 0 0 A) (F0 m 216 ls []) := by
  have hx := X.1
  have hb := X.2.1
  intro n
  induction n with
  | zero => intro I x5 ls H locs h; exact False.elim h
  | succ n ih =>
    intro I x5 ls H locs h hw hl
    rw [M_sums_l216] at h
    refine lv_iload hx hb dX11_sums_216 (lv_at hl 3 rfl) ?_
    refine lv_aload_n hx hb dX11_sums_218 rfl (lv_at hl 0 rfl) ?_
    refine hm_geti X hw lkM_7 LM_0 dX11_sums_219 ?_
    refine lv_icmp_ge (tgt := 245) hx hb dX11_sums_222 (by decide) (fun hc => ?_) (fun hc => ?_)
    · have h := Eq.mp (if_pos hc) h
      refine lv_iinc (v := x2 + 1) (lv' := [(2, _), (0, _), (1, _), (5, _)]) hx hb dX11_sums_245 hl (k := 2) rfl rfl (by decide) rfl (fun ls hl => ?_)
      refine lv_goto (tgt := 110) hx hb dX11_sums_248 (by decide) ?_
      exact hK110 _ _ _ h hw (lv_sub hl [1, 2, 0] rfl)
    · have h := Eq.mp (if_neg hc) h
      refine lv_aload_n hx hb dX11_sums_225 rfl (lv_at hl 0 rfl) ?_
      refine hm_getr X hw lkM_112 LM_0 (b := 28) rfl dX11_sums_226 ?_
      refine lv_iload hx hb dX11_sums_229 (lv_at hl 3 rfl) ?_
      refine lv_aload_n hx hb dX11_sums_231 rfl (lv_at hl 0 rfl) ?_
      refine hm_getr X hw lkM_115 LM_0 (b := 29) rfl dX11_sums_232 ?_
      refine lv_iload hx hb dX11_sums_235 (lv_at hl 3 rfl) ?_
      obtain ⟨hi, h⟩ := h
      refine hm_iald X hw LM_29 hi dX11_sums_237 ?_
      obtain ⟨hi, h⟩ := h
      refine hm_iast X hw LM_28 hi dX11_sums_238 (fun H locs hw => ?_)
      refine lv_iinc (v := x5 + 1) (lv' := [(5, _), (0, _), (1, _), (2, _)]) hx hb dX11_sums_239 hl (k := 3) rfl rfl (by decide) rfl (fun ls hl => ?_)
      refine lv_goto (tgt := 216) hx hb dX11_sums_242 (by decide) ?_
      exact ih _ _ h hw (lv_sub hl [1, 2, 3, 0] rfl)

theorem wkM_sums_l165 {I : HI} {J : HJ} {x1 : Int32} {x2 : Int32} {K110 : HI → Int32 → Int32 → Prop} {Q : Int32 → HI → Prop} (X : hX p m c s args RX11 cX11_sums 6) (hr : meth.sig.returnType = (some .int)) (hlk : meth.locks = false) (hR : 3 ≤ R.frames ∧ 68 ≤ R.locals)  (hK110 : ∀ (I : HI) (x1 : Int32) (x2 : Int32) {ls : Array Slot} {H : Heap} {locs : List Loc}, K110 I x1 x2 → hW D cA z Ev0 (I, J, T, FM, LM) A s H locs → lv_has ls 6 [(0, .ref (z + 0)), (1, .int x1), (2, .int x2)] → W p l e R s m args below meth c H locs 0 0 (MQ below (va_Qi (pI J T FM LM Q) (hB D cA z A) A) args s 0 0 A) (F0 m 110 ls [])) : ∀ (n : Nat) (x4 : Int32) (x5 : Int32) {ls : Array Slot} {H : Heap} {locs : List Loc}, M_sums_l165 I x1 x2 K110 Q n x4 x5 → hW D cA z Ev0 (I, J, T, FM, LM) A s H locs → lv_has ls 6 [(0, .ref (z + 0)), (1, .int x1), (2, .int x2), (4, .int x4), (5, .int x5)] → W p l e R s m args below meth c H locs 0 0 (MQ below (va_Qi (pI J T FM LM Q) (hB D cA z A) A) args s 0 0 A) (F0 m 165 ls []) := by
  have hx := X.1
  have hb := X.2.1
  intro n
  induction n with
  | zero => intro x4 x5 ls H locs h; exact False.elim h
  | succ n ih =>
    intro x4 x5 ls H locs h hw hl
    rw [M_sums_l165] at h
    refine lv_iload hx hb dX11_sums_165 (lv_at hl 4 rfl) ?_
    refine lv_aload_n hx hb dX11_sums_167 rfl (lv_at hl 0 rfl) ?_
    refine hm_geti X hw lkM_16 LM_0 dX11_sums_168 ?_
    refine lv_icmp_ge (tgt := 201) hx hb dX11_sums_171 (by decide) (fun hc => ?_) (fun hc => ?_)
    · have h := Eq.mp (if_pos hc) h
      refine lv_iload hx hb dX11_sums_201 (lv_at hl 3 rfl) ?_
      refine lv_iload_n hx hb dX11_sums_203 rfl (lv_at hl 1 rfl) ?_
      refine lv_icmp_gt (tgt := 210) hx hb dX11_sums_204 (by decide) (fun hc => ?_) (fun hc => ?_)
      · have h := Eq.mp (if_pos hc) h
        refine lv_iload hx hb dX11_sums_210 (lv_at hl 3 rfl) ?_
        refine lv_istore_n (lv' := [(1, _), (0, _), (2, _), (4, _), (5, _)]) hx hb dX11_sums_212 rfl hl (by decide) rfl (fun ls hl => ?_)
        refine lv_iconst (v := 0) hx hb dX11_sums_213 (by decide) ?_
        refine lv_istore (lv' := [(5, _), (1, _), (0, _), (2, _), (4, _)]) hx hb dX11_sums_214 hl (by decide) rfl (fun ls hl => ?_)
        obtain ⟨n2, h⟩ := h
        exact wkM_sums_l216 X hr hlk hR  hK110 n2 _ _ h hw (lv_sub hl [2, 1, 3, 0] rfl)
      · have h := Eq.mp (if_neg hc) h
        refine lv_goto (tgt := 245) hx hb dX11_sums_207 (by decide) ?_
        refine lv_iinc (v := x2 + 1) (lv' := [(2, _), (0, _), (1, _), (4, _), (5, _)]) hx hb dX11_sums_245 hl (k := 2) rfl rfl (by decide) rfl (fun ls hl => ?_)
        refine lv_goto (tgt := 110) hx hb dX11_sums_248 (by decide) ?_
        exact hK110 _ _ _ h hw (lv_sub hl [1, 2, 0] rfl)
    · have h := Eq.mp (if_neg hc) h
      refine lv_aload_n hx hb dX11_sums_174 rfl (lv_at hl 0 rfl) ?_
      refine lv_iload hx hb dX11_sums_175 (lv_at hl 4 rfl) ?_
      refine hm_calli hw (hm_runV (rest := []) hCl_true X hw (cM_counts  h) ykM_counts kw1764 rfl LM_0 rfl hl.1 rfl rfl rfl (Nat.le_of_ble_eq_true rfl) ⟨Nat.le_trans (Nat.le_of_ble_eq_true rfl) hR.1, Nat.le_trans (Nat.le_of_ble_eq_true rfl) hR.2⟩ ⟨Nat.zero_le _, Nat.zero_le _⟩ dX11_sums_177) (fun r10 u11 H locs hp hw => ?_)
      obtain ⟨rfl, h⟩ := hp
      refine lv_if_eq (tgt := 195) hx hb dX11_sums_180 (by decide) (fun hc => ?_) (fun hc => ?_)
      · have h := Eq.mp (if_pos hc) h
        refine lv_iinc (v := x5 + 1) (lv' := [(5, _), (0, _), (1, _), (2, _), (4, _)]) hx hb dX11_sums_195 hl (k := 4) rfl rfl (by decide) rfl (fun ls hl => ?_)
        refine lv_goto (tgt := 165) hx hb dX11_sums_198 (by decide) ?_
        exact ih _ _ h hw (lv_sub hl [1, 2, 3, 4, 0] rfl)
      · have h := Eq.mp (if_neg hc) h
        refine lv_aload_n hx hb dX11_sums_183 rfl (lv_at hl 0 rfl) ?_
        refine lv_iload hx hb dX11_sums_184 (lv_at hl 4 rfl) ?_
        refine hm_calli hw (hm_runV (rest := []) hCl_true X hw (cM_isWonBy  h) ykM_isWonBy kw1863 rfl LM_0 rfl hl.1 rfl rfl rfl (Nat.le_of_ble_eq_true rfl) ⟨Nat.le_trans (Nat.le_of_ble_eq_true rfl) hR.1, Nat.le_trans (Nat.le_of_ble_eq_true rfl) hR.2⟩ ⟨Nat.zero_le _, Nat.zero_le _⟩ dX11_sums_186) (fun r12 u13 H locs hp hw => ?_)
        obtain ⟨rfl, h⟩ := hp
        refine lv_if_eq (tgt := 195) hx hb dX11_sums_189 (by decide) (fun hc => ?_) (fun hc => ?_)
        · have h := Eq.mp (if_pos hc) h
          refine lv_iinc (v := x5 + 1) (lv' := [(5, _), (0, _), (1, _), (2, _), (4, _)]) hx hb dX11_sums_195 hl (k := 4) rfl rfl (by decide) rfl (fun ls hl => ?_)
          refine lv_goto (tgt := 165) hx hb dX11_sums_198 (by decide) ?_
          exact ih _ _ h hw (lv_sub hl [1, 2, 3, 4, 0] rfl)
        · have h := Eq.mp (if_neg hc) h
          refine lv_iinc (v := x4 + 1) (lv' := [(4, _), (0, _), (1, _), (2, _), (5, _)]) hx hb dX11_sums_192 hl (k := 3) rfl rfl (by decide) rfl (fun ls hl => ?_)
          refine lv_iinc (v := x5 + 1) (lv' := [(5, _), (4, _), (0, _), (1, _), (2, _)]) hx hb dX11_sums_195 hl (k := 4) rfl rfl (by decide) rfl (fun ls hl => ?_)
          refine lv_goto (tgt := 165) hx hb dX11_sums_198 (by decide) ?_
          exact ih _ _ h hw (lv_sub hl [2, 3, 4, 1, 0] rfl)

theorem wkM_sums_l128 {J : HJ} {x1 : Int32} {x2 : Int32} {K110 : HI → Int32 → Int32 → Prop} {Q : Int32 → HI → Prop} (X : hX p m c s args RX11 cX11_sums 6) (hr : meth.sig.returnType = (some .int)) (hlk : meth.locks = false) (hR : 3 ≤ R.frames ∧ 68 ≤ R.locals)  (hK110 : ∀ (I : HI) (x1 : Int32) (x2 : Int32) {ls : Array Slot} {H : Heap} {locs : List Loc}, K110 I x1 x2 → hW D cA z Ev0 (I, J, T, FM, LM) A s H locs → lv_has ls 6 [(0, .ref (z + 0)), (1, .int x1), (2, .int x2)] → W p l e R s m args below meth c H locs 0 0 (MQ below (va_Qi (pI J T FM LM Q) (hB D cA z A) A) args s 0 0 A) (F0 m 110 ls [])) : ∀ (n : Nat) (I : HI) (x3 : Int32) (x4 : Int32) {ls : Array Slot} {H : Heap} {locs : List Loc}, M_sums_l128 x1 x2 K110 Q n I x3 x4 → hW D cA z Ev0 (I, J, T, FM, LM) A s H locs → lv_has ls 6 [(0, .ref (z + 0)), (1, .int x1), (2, .int x2), (3, .int x3), (4, .int x4)] → W p l e R s m args below meth c H locs 0 0 (MQ below (va_Qi (pI J T FM LM Q) (hB D cA z A) A) args s 0 0 A) (F0 m 128 ls []) := by
  have hx := X.1
  have hb := X.2.1
  intro n
  induction n with
  | zero => intro I x3 x4 ls H locs h; exact False.elim h
  | succ n ih =>
    intro I x3 x4 ls H locs h hw hl
    rw [M_sums_l128] at h
    refine lv_iload hx hb dX11_sums_128 (lv_at hl 4 rfl) ?_
    refine lv_if_lt (tgt := 159) hx hb dX11_sums_130 (by decide) (fun hc => ?_) (fun hc => ?_)
    · have h := Eq.mp (if_pos hc) h
      refine lv_iconst (v := 0) hx hb dX11_sums_159 (by decide) ?_
      refine lv_istore (lv' := [(4, _), (0, _), (1, _), (2, _), (3, _)]) hx hb dX11_sums_160 hl (by decide) rfl (fun ls hl => ?_)
      refine lv_iconst (v := 0) hx hb dX11_sums_162 (by decide) ?_
      refine lv_istore (lv' := [(5, _), (4, _), (0, _), (1, _), (2, _), (3, _)]) hx hb dX11_sums_163 hl (by decide) rfl (fun ls hl => ?_)
      obtain ⟨n2, h⟩ := h
      exact wkM_sums_l165 X hr hlk hR  hK110 n2 _ _ h hw (lv_sub hl [2, 3, 4, 1, 0] rfl)
    · have h := Eq.mp (if_neg hc) h
      refine lv_aload_n hx hb dX11_sums_133 rfl (lv_at hl 0 rfl) ?_
      refine hm_getr X hw lkM_115 LM_0 (b := 29) rfl dX11_sums_134 ?_
      refine lv_iload hx hb dX11_sums_137 (lv_at hl 4 rfl) ?_
      refine lv_iload_n hx hb dX11_sums_139 rfl (lv_at hl 3 rfl) ?_
      refine lv_aload_n hx hb dX11_sums_140 rfl (lv_at hl 0 rfl) ?_
      refine hm_geti X hw lkM_13 LM_0 dX11_sums_141 ?_
      obtain ⟨hi, h⟩ := h
      refine hm_irem hx hb dX11_sums_144 hi ?_
      obtain ⟨hi, h⟩ := h
      refine hm_iast X hw LM_29 hi dX11_sums_145 (fun H locs hw => ?_)
      refine lv_iload_n hx hb dX11_sums_146 rfl (lv_at hl 3 rfl) ?_
      refine lv_aload_n hx hb dX11_sums_147 rfl (lv_at hl 0 rfl) ?_
      refine hm_geti X hw lkM_13 LM_0 dX11_sums_148 ?_
      obtain ⟨hi, h⟩ := h
      refine hm_idiv hx hb dX11_sums_151 hi ?_
      refine lv_istore_n (lv' := [(3, _), (0, _), (1, _), (2, _), (4, _)]) hx hb dX11_sums_152 rfl hl (by decide) rfl (fun ls hl => ?_)
      refine lv_iinc (v := x4 + (-1)) (lv' := [(4, _), (3, _), (0, _), (1, _), (2, _)]) hx hb dX11_sums_153 hl (k := 4) rfl rfl (by decide) rfl (fun ls hl => ?_)
      refine lv_goto (tgt := 128) hx hb dX11_sums_156 (by decide) ?_
      exact ih _ _ _ h hw (lv_sub hl [2, 3, 4, 1, 0] rfl)

theorem wkM_sums_l110 {J : HJ} {Q : Int32 → HI → Prop} (X : hX p m c s args RX11 cX11_sums 6) (hr : meth.sig.returnType = (some .int)) (hlk : meth.locks = false) (hR : 3 ≤ R.frames ∧ 68 ≤ R.locals)   : ∀ (n : Nat) (I : HI) (x1 : Int32) (x2 : Int32) {ls : Array Slot} {H : Heap} {locs : List Loc}, M_sums_l110 Q n I x1 x2 → hW D cA z Ev0 (I, J, T, FM, LM) A s H locs → lv_has ls 6 [(0, .ref (z + 0)), (1, .int x1), (2, .int x2)] → W p l e R s m args below meth c H locs 0 0 (MQ below (va_Qi (pI J T FM LM Q) (hB D cA z A) A) args s 0 0 A) (F0 m 110 ls []) := by
  have hx := X.1
  have hb := X.2.1
  intro n
  induction n with
  | zero => intro I x1 x2 ls H locs h; exact False.elim h
  | succ n ih =>
    intro I x1 x2 ls H locs h hw hl
    rw [M_sums_l110] at h
    refine lv_iload_n hx hb dX11_sums_110 rfl (lv_at hl 2 rfl) ?_
    refine lv_aload_n hx hb dX11_sums_111 rfl (lv_at hl 0 rfl) ?_
    refine hm_geti X hw lkM_16 LM_0 dX11_sums_112 ?_
    refine lv_icmp_ge (tgt := 251) hx hb dX11_sums_115 (by decide) (fun hc => ?_) (fun hc => ?_)
    · have h := Eq.mp (if_pos hc) h
      refine lv_aload_n hx hb dX11_sums_251 rfl (lv_at hl 0 rfl) ?_
      refine lv_aload_n hx hb dX11_sums_252 rfl (lv_at hl 0 rfl) ?_
      refine hm_geti X hw lkM_7 LM_0 dX11_sums_253 ?_
      refine hm_puti X hw lkM_403 LM_0 rfl rfl dX11_sums_256 (fun H locs hw => ?_)
      refine lv_iconst (v := 0) hx hb dX11_sums_259 (by decide) ?_
      refine lv_istore_n (lv' := [(2, _), (0, _), (1, _)]) hx hb dX11_sums_260 rfl hl (by decide) rfl (fun ls hl => ?_)
      obtain ⟨n2, h⟩ := h
      exact wkM_sums_l261 X hr hlk hR   n2 _ _ h hw (lv_sub hl [1, 2, 0] rfl)
    · have h := Eq.mp (if_neg hc) h
      refine lv_iload_n hx hb dX11_sums_118 rfl (lv_at hl 2 rfl) ?_
      refine lv_istore_n (lv' := [(3, _), (0, _), (1, _), (2, _)]) hx hb dX11_sums_119 rfl hl (by decide) rfl (fun ls hl => ?_)
      refine lv_aload_n hx hb dX11_sums_120 rfl (lv_at hl 1 rfl) ?_
      refine hm_geti X hw lkM_7 LM_0 dX11_sums_121 ?_
      refine lv_iconst (v := 1) hx hb dX11_sums_124 (by decide) ?_
      refine lv_isub hx hb dX11_sums_125 ?_
      refine lv_istore (lv' := [(4, _), (3, _), (0, _), (1, _), (2, _)]) hx hb dX11_sums_126 hl (by decide) rfl (fun ls hl => ?_)
      obtain ⟨n2, h⟩ := h
      exact wkM_sums_l128 X hr hlk hR  ih n2 _ _ _ h hw (lv_sub hl [2, 3, 4, 1, 0] rfl)

theorem wkM_sums_l54 {J : HJ} {x1 : Int32} {K39 : HI → Int32 → Prop} {Q : Int32 → HI → Prop} (X : hX p m c s args RX11 cX11_sums 6) (hr : meth.sig.returnType = (some .int)) (hlk : meth.locks = false) (hR : 3 ≤ R.frames ∧ 68 ≤ R.locals)  (hK39 : ∀ (I : HI) (x1 : Int32) {ls : Array Slot} {H : Heap} {locs : List Loc}, K39 I x1 → hW D cA z Ev0 (I, J, T, FM, LM) A s H locs → lv_has ls 6 [(0, .ref (z + 0)), (1, .int x1)] → W p l e R s m args below meth c H locs 0 0 (MQ below (va_Qi (pI J T FM LM Q) (hB D cA z A) A) args s 0 0 A) (F0 m 39 ls [])) : ∀ (n : Nat) (I : HI) (x2 : Int32) {ls : Array Slot} {H : Heap} {locs : List Loc}, M_sums_l54 x1 K39 Q n I x2 → hW D cA z Ev0 (I, J, T, FM, LM) A s H locs → lv_has ls 6 [(0, .ref (z + 0)), (1, .int x1), (2, .int x2)] → W p l e R s m args below meth c H locs 0 0 (MQ below (va_Qi (pI J T FM LM Q) (hB D cA z A) A) args s 0 0 A) (F0 m 54 ls []) := by
  have hx := X.1
  have hb := X.2.1
  intro n
  induction n with
  | zero => intro I x2 ls H locs h; exact False.elim h
  | succ n ih =>
    intro I x2 ls H locs h hw hl
    rw [M_sums_l54] at h
    refine lv_iload_n hx hb dX11_sums_54 rfl (lv_at hl 2 rfl) ?_
    refine lv_aload_n hx hb dX11_sums_55 rfl (lv_at hl 0 rfl) ?_
    refine hm_geti X hw lkM_7 LM_0 dX11_sums_56 ?_
    refine lv_icmp_ge (tgt := 100) hx hb dX11_sums_59 (by decide) (fun hc => ?_) (fun hc => ?_)
    · have h := Eq.mp (if_pos hc) h
      refine lv_iinc (v := x1 + 1) (lv' := [(1, _), (0, _), (2, _)]) hx hb dX11_sums_100 hl (k := 1) rfl rfl (by decide) rfl (fun ls hl => ?_)
      refine lv_goto (tgt := 39) hx hb dX11_sums_103 (by decide) ?_
      exact hK39 _ _ h hw (lv_sub hl [1, 0] rfl)
    · have h := Eq.mp (if_neg hc) h
      refine lv_aload_n hx hb dX11_sums_62 rfl (lv_at hl 0 rfl) ?_
      refine hm_getr X hw lkM_118 LM_0 (b := 30) rfl dX11_sums_63 ?_
      refine lv_bipush (v := 8) hx hb dX11_sums_66 (by decide) ?_
      refine lv_iload_n hx hb dX11_sums_68 rfl (lv_at hl 1 rfl) ?_
      refine lv_imul hx hb dX11_sums_69 ?_
      refine lv_iload_n hx hb dX11_sums_70 rfl (lv_at hl 2 rfl) ?_
      refine lv_iadd hx hb dX11_sums_71 ?_
      refine lv_aload_n hx hb dX11_sums_72 rfl (lv_at hl 0 rfl) ?_
      refine lv_aload_n hx hb dX11_sums_73 rfl (lv_at hl 0 rfl) ?_
      refine hm_getr X hw lkM_75 LM_0 (b := 17) rfl dX11_sums_74 ?_
      refine lv_aload_n hx hb dX11_sums_77 rfl (lv_at hl 0 rfl) ?_
      refine hm_getr X hw lkM_26 LM_0 (b := 2) rfl dX11_sums_78 ?_
      refine lv_iload_n hx hb dX11_sums_81 rfl (lv_at hl 2 rfl) ?_
      obtain ⟨hi, h⟩ := h
      refine hm_iald X hw LM_2 hi dX11_sums_82 ?_
      refine hm_calli hw (hm_runV (rest := [_, _]) hCl_true X hw (cM_sum LM_17 h) ykM_sum kw1753 rfl LM_0 rfl hl.1 rfl rfl rfl (Nat.le_of_ble_eq_true rfl) ⟨Nat.le_trans (Nat.le_of_ble_eq_true rfl) hR.1, Nat.le_trans (Nat.le_of_ble_eq_true rfl) hR.2⟩ ⟨Nat.zero_le _, Nat.zero_le _⟩ dX11_sums_83) (fun r16 u17 H locs hp hw => ?_)
      obtain ⟨rfl, h⟩ := hp
      refine lv_aload_n hx hb dX11_sums_86 rfl (lv_at hl 0 rfl) ?_
      refine hm_getr X hw lkM_75 LM_0 (b := 17) rfl dX11_sums_87 ?_
      refine lv_iload_n hx hb dX11_sums_90 rfl (lv_at hl 2 rfl) ?_
      obtain ⟨hi, h⟩ := h
      refine hm_iald X hw LM_17 hi dX11_sums_91 ?_
      refine lv_iadd hx hb dX11_sums_92 ?_
      obtain ⟨hi, h⟩ := h
      refine hm_iast X hw LM_30 hi dX11_sums_93 (fun H locs hw => ?_)
      refine lv_iinc (v := x2 + 1) (lv' := [(2, _), (0, _), (1, _)]) hx hb dX11_sums_94 hl (k := 2) rfl rfl (by decide) rfl (fun ls hl => ?_)
      refine lv_goto (tgt := 54) hx hb dX11_sums_97 (by decide) ?_
      exact ih _ _ h hw (lv_sub hl [1, 2, 0] rfl)

theorem wkM_sums_l39 {J : HJ} {Q : Int32 → HI → Prop} (X : hX p m c s args RX11 cX11_sums 6) (hr : meth.sig.returnType = (some .int)) (hlk : meth.locks = false) (hR : 3 ≤ R.frames ∧ 68 ≤ R.locals)   : ∀ (n : Nat) (I : HI) (x1 : Int32) {ls : Array Slot} {H : Heap} {locs : List Loc}, M_sums_l39 Q n I x1 → hW D cA z Ev0 (I, J, T, FM, LM) A s H locs → lv_has ls 6 [(0, .ref (z + 0)), (1, .int x1)] → W p l e R s m args below meth c H locs 0 0 (MQ below (va_Qi (pI J T FM LM Q) (hB D cA z A) A) args s 0 0 A) (F0 m 39 ls []) := by
  have hx := X.1
  have hb := X.2.1
  intro n
  induction n with
  | zero => intro I x1 ls H locs h; exact False.elim h
  | succ n ih =>
    intro I x1 ls H locs h hw hl
    rw [M_sums_l39] at h
    refine lv_iload_n hx hb dX11_sums_39 rfl (lv_at hl 1 rfl) ?_
    refine lv_aload_n hx hb dX11_sums_40 rfl (lv_at hl 0 rfl) ?_
    refine hm_geti X hw lkM_16 LM_0 dX11_sums_41 ?_
    refine lv_icmp_ge (tgt := 106) hx hb dX11_sums_44 (by decide) (fun hc => ?_) (fun hc => ?_)
    · have h := Eq.mp (if_pos hc) h
      refine lv_iconst (v := (-1)) hx hb dX11_sums_106 (by decide) ?_
      refine lv_istore_n (lv' := [(1, _), (0, _)]) hx hb dX11_sums_107 rfl hl (by decide) rfl (fun ls hl => ?_)
      refine lv_iconst (v := 0) hx hb dX11_sums_108 (by decide) ?_
      refine lv_istore_n (lv' := [(2, _), (1, _), (0, _)]) hx hb dX11_sums_109 rfl hl (by decide) rfl (fun ls hl => ?_)
      obtain ⟨n2, h⟩ := h
      exact wkM_sums_l110 X hr hlk hR   n2 _ _ _ h hw (lv_sub hl [2, 1, 0] rfl)
    · have h := Eq.mp (if_neg hc) h
      refine lv_aload_n hx hb dX11_sums_47 rfl (lv_at hl 0 rfl) ?_
      refine lv_iload_n hx hb dX11_sums_48 rfl (lv_at hl 1 rfl) ?_
      refine hm_callv hw (hm_runV (rest := []) hCl_true X hw (cM_wears  h) ykM_wears kw1733 rfl LM_0 rfl hl.1 rfl rfl rfl (Nat.le_of_ble_eq_true rfl) ⟨Nat.le_trans (Nat.le_of_ble_eq_true rfl) hR.1, Nat.le_trans (Nat.le_of_ble_eq_true rfl) hR.2⟩ ⟨Nat.zero_le _, Nat.zero_le _⟩ dX11_sums_49) (fun u15 H locs hp hw => ?_)
      obtain ⟨I14, rfl, h⟩ := hp
      refine lv_iconst (v := 0) hx hb dX11_sums_52 (by decide) ?_
      refine lv_istore_n (lv' := [(2, _), (0, _), (1, _)]) hx hb dX11_sums_53 rfl hl (by decide) rfl (fun ls hl => ?_)
      obtain ⟨n2, h⟩ := h
      exact wkM_sums_l54 X hr hlk hR  ih n2 _ _ h hw (lv_sub hl [1, 2, 0] rfl)

theorem wkM_sums_b28 {I : HI} {J : HJ} {t0 : Int32} {Q : Int32 → HI → Prop} (X : hX p m c s args RX11 cX11_sums 6) (hr : meth.sig.returnType = (some .int)) (hlk : meth.locks = false) (hR : 3 ≤ R.frames ∧ 68 ≤ R.locals)   : ∀ {ls : Array Slot} {H : Heap} {locs : List Loc}, M_sums_b28 I t0 Q → hW D cA z Ev0 (I, J, T, FM, LM) A s H locs → lv_has ls 6 [(0, .ref (z + 0))] → W p l e R s m args below meth c H locs 0 0 (MQ below (va_Qi (pI J T FM LM Q) (hB D cA z A) A) args s 0 0 A) (F0 m 28 ls [.int t0, .ref (z + 0)]) := by
  have hx := X.1
  have hb := X.2.1
  intro ls H locs h hw hl
  unfold M_sums_b28 at h
  refine lv_iconst (v := 1) hx hb dX11_sums_28 (by decide) ?_
  refine hm_calli hw (hm_runV (rest := []) hCl_true X hw (cM_right  h) ykM_right kw1594 rfl LM_0 rfl hl.1 rfl rfl rfl (Nat.le_of_ble_eq_true rfl) ⟨Nat.le_trans (Nat.le_of_ble_eq_true rfl) hR.1, Nat.le_trans (Nat.le_of_ble_eq_true rfl) hR.2⟩ ⟨Nat.zero_le _, Nat.zero_le _⟩ dX11_sums_29) (fun r3 u5 H locs hp hw => ?_)
  obtain ⟨I4, rfl, h⟩ := hp
  refine lv_if_ne (tgt := 37) hx hb dX11_sums_32 (by decide) (fun hc => ?_) (fun hc => ?_)
  · have h := Eq.mp (if_neg hc) h
    refine lv_iconst (v := 0) hx hb dX11_sums_37 (by decide) ?_
    refine lv_istore_n (lv' := [(1, _), (0, _)]) hx hb dX11_sums_38 rfl hl (by decide) rfl (fun ls hl => ?_)
    obtain ⟨n2, h⟩ := h
    exact wkM_sums_l39 X hr hlk hR   n2 _ _ h hw (lv_sub hl [1, 0] rfl)
  · have h := Eq.mp (if_pos hc) h
    refine lv_iconst (v := 0) hx hb dX11_sums_35 (by decide) ?_
    exact hm_iret X hr hlk hw ⟨_, rfl, h⟩ dX11_sums_36

theorem wkM_sums_b27 {I : HI} {J : HJ} {Q : Int32 → HI → Prop} (X : hX p m c s args RX11 cX11_sums 6) (hr : meth.sig.returnType = (some .int)) (hlk : meth.locks = false) (hR : 3 ≤ R.frames ∧ 68 ≤ R.locals)   : ∀ {ls : Array Slot} {H : Heap} {locs : List Loc}, M_sums_b27 I Q → hW D cA z Ev0 (I, J, T, FM, LM) A s H locs → lv_has ls 6 [(0, .ref (z + 0))] → W p l e R s m args below meth c H locs 0 0 (MQ below (va_Qi (pI J T FM LM Q) (hB D cA z A) A) args s 0 0 A) (F0 m 27 ls [.ref (z + 0)]) := by
  have hx := X.1
  have hb := X.2.1
  intro ls H locs h hw hl
  unfold M_sums_b27 at h
  refine lv_iconst (v := 0) hx hb dX11_sums_27 (by decide) ?_
  exact wkM_sums_b28 X hr hlk hR   h hw (lv_sub hl [0] rfl)

theorem cM_sums {l : Launch} {D : va_G} {cA : Nat → ClassId} {z sz : Nat} {I : HI} {J : HJ}  {Q : Int32 → HI → Prop}  (h : M_sums I  Q) : Met l yX11_sums (hws0 yX11_sums cX11_sums 6 (some .int)) { frames := 3, cells := 0, slots := 0, locals := 68 } (hPc D cA z Ev0 (I, J, T, FM, LM) sz [.ref (z + 0)]) (va_Qi (pI J T FM LM Q) (hB D cA z (hA z LM sz)) (hA z LM sz)) 0 0 (hA z LM sz) := by
  refine hm_met (I, J, T, FM, LM) [.ref (z + 0)] rfl (by decide) (Nat.le_of_ble_eq_true rfl) ?_
  intro p e s m below meth c ls X hr hlk hnm hxt hsz hw hl
  have hl : lv_has ls 6 [(0, .ref (z + 0))] := hl
  have hR : 3 ≤ ({ frames := 3, cells := 0, slots := 0, locals := 68 } : Room).frames ∧ 68 ≤ ({ frames := 3, cells := 0, slots := 0, locals := 68 } : Room).locals := ⟨Nat.le_refl _, Nat.le_refl _⟩
  generalize ({ frames := 3, cells := 0, slots := 0, locals := 68 } : Room) = R at hR ⊢
  clear hsz
  generalize (hA z LM sz) = A at hw ⊢
  have hx := X.1
  have hb := X.2.1
  unfold M_sums at h
  refine lv_aload_n hx hb dX11_sums_0 rfl (lv_at hl 0 rfl) ?_
  refine lv_iconst (v := 0) hx hb dX11_sums_1 (by decide) ?_
  refine hm_puti X hw lkM_174 LM_0 rfl rfl dX11_sums_2 (fun H locs hw => ?_)
  refine lv_aload_n hx hb dX11_sums_5 rfl (lv_at hl 0 rfl) ?_
  refine lv_aload_n hx hb dX11_sums_6 rfl (lv_at hl 0 rfl) ?_
  refine hm_calli hw (hm_runV (rest := [_]) hCl_true X hw (cM_areAtOnce  h) ykM_areAtOnce kw1840 rfl LM_0 rfl hl.1 rfl rfl rfl (Nat.le_of_ble_eq_true rfl) ⟨Nat.le_trans (Nat.le_of_ble_eq_true rfl) hR.1, Nat.le_trans (Nat.le_of_ble_eq_true rfl) hR.2⟩ ⟨Nat.zero_le _, Nat.zero_le _⟩ dX11_sums_7) (fun r1 u2 H locs hp hw => ?_)
  obtain ⟨rfl, h⟩ := hp
  refine lv_if_eq (tgt := 27) hx hb dX11_sums_10 (by decide) (fun hc => ?_) (fun hc => ?_)
  · have h := Eq.mp (if_pos hc) h
    exact wkM_sums_b27 X hr hlk hR   h hw (lv_sub hl [0] rfl)
  · have h := Eq.mp (if_neg hc) h
    refine lv_aload_n hx hb dX11_sums_13 rfl (lv_at hl 0 rfl) ?_
    refine hm_geti X hw lkM_16 LM_0 dX11_sums_14 ?_
    refine lv_sipush (v := 256) hx hb dX11_sums_17 (by decide) ?_
    refine lv_icmp_gt (tgt := 27) hx hb dX11_sums_20 (by decide) (fun hc => ?_) (fun hc => ?_)
    · have h := Eq.mp (if_pos hc) h
      exact wkM_sums_b27 X hr hlk hR   h hw (lv_sub hl [0] rfl)
    · have h := Eq.mp (if_neg hc) h
      refine lv_iconst (v := 1) hx hb dX11_sums_23 (by decide) ?_
      refine lv_goto (tgt := 28) hx hb dX11_sums_24 (by decide) ?_
      exact wkM_sums_b28 X hr hlk hR   h hw (lv_sub hl [0] rfl)

theorem wkM_constant_b22 {I : HI} {J : HJ} {x1 : Int32} {t0 : Int32} {Q : Int32 → HI → Prop} (X : hX p m c s args RX11 cX11_constant 2) (hr : meth.sig.returnType = (some .int)) (hlk : meth.locks = false) (hR : 2 ≤ R.frames ∧ 43 ≤ R.locals)   : ∀ {ls : Array Slot} {H : Heap} {locs : List Loc}, M_constant_b22 I x1 t0 Q → hW D cA z Ev0 (I, J, T, FM, LM) A s H locs → lv_has ls 2 [(0, .ref (z + 0)), (1, .int x1)] → W p l e R s m args below meth c H locs 0 0 (MQ below (va_Qi (pI J T FM LM Q) (hB D cA z A) A) args s 0 0 A) (F0 m 22 ls [.int t0, .ref (z + 0)]) := by
  have hx := X.1
  have hb := X.2.1
  intro ls H locs h hw hl
  unfold M_constant_b22 at h
  refine lv_iconst (v := 1) hx hb dX11_constant_22 (by decide) ?_
  refine hm_calli hw (hm_runV (rest := []) hCl_true X hw (cM_right  h) ykM_right kw1594 rfl LM_0 rfl hl.1 rfl rfl rfl (Nat.le_of_ble_eq_true rfl) ⟨Nat.le_trans (Nat.le_of_ble_eq_true rfl) hR.1, Nat.le_trans (Nat.le_of_ble_eq_true rfl) hR.2⟩ ⟨Nat.zero_le _, Nat.zero_le _⟩ dX11_constant_23) (fun r4 u6 H locs hp hw => ?_)
  obtain ⟨I5, rfl, h⟩ := hp
  refine lv_if_ne (tgt := 31) hx hb dX11_constant_26 (by decide) (fun hc => ?_) (fun hc => ?_)
  · have h := Eq.mp (if_neg hc) h
    refine lv_aload_n hx hb dX11_constant_31 rfl (lv_at hl 0 rfl) ?_
    refine hm_getr X hw lkM_112 LM_0 (b := 28) rfl dX11_constant_32 ?_
    refine lv_iload_n hx hb dX11_constant_35 rfl (lv_at hl 1 rfl) ?_
    obtain ⟨hi, h⟩ := h
    refine hm_iald X hw LM_28 hi dX11_constant_36 ?_
    exact hm_iret X hr hlk hw ⟨_, rfl, h⟩ dX11_constant_37
  · have h := Eq.mp (if_pos hc) h
    refine lv_iconst (v := 0) hx hb dX11_constant_29 (by decide) ?_
    exact hm_iret X hr hlk hw ⟨_, rfl, h⟩ dX11_constant_30

theorem cM_constant {l : Launch} {D : va_G} {cA : Nat → ClassId} {z sz : Nat} {I : HI} {J : HJ} {x1 : Int32} {Q : Int32 → HI → Prop}  (h : M_constant I x1 Q) : Met l yX11_constant (hws0 yX11_constant cX11_constant 2 (some .int)) { frames := 2, cells := 0, slots := 0, locals := 43 } (hPc D cA z Ev0 (I, J, T, FM, LM) sz [.ref (z + 0), .int x1]) (va_Qi (pI J T FM LM Q) (hB D cA z (hA z LM sz)) (hA z LM sz)) 0 0 (hA z LM sz) := by
  refine hm_met (I, J, T, FM, LM) [.ref (z + 0), .int x1] rfl (by decide) (Nat.le_of_ble_eq_true rfl) ?_
  intro p e s m below meth c ls X hr hlk hnm hxt hsz hw hl
  have hl : lv_has ls 2 [(0, .ref (z + 0)), (1, .int x1)] := hl
  have hR : 2 ≤ ({ frames := 2, cells := 0, slots := 0, locals := 43 } : Room).frames ∧ 43 ≤ ({ frames := 2, cells := 0, slots := 0, locals := 43 } : Room).locals := ⟨Nat.le_refl _, Nat.le_refl _⟩
  generalize ({ frames := 2, cells := 0, slots := 0, locals := 43 } : Room) = R at hR ⊢
  clear hsz
  generalize (hA z LM sz) = A at hw ⊢
  have hx := X.1
  have hb := X.2.1
  unfold M_constant at h
  refine lv_aload_n hx hb dX11_constant_0 rfl (lv_at hl 0 rfl) ?_
  refine lv_iload_n hx hb dX11_constant_1 rfl (lv_at hl 1 rfl) ?_
  refine hm_calli hw (hm_runV (rest := []) hCl_true X hw (cM_isWearer  h) ykM_isWearer kw1590 rfl LM_0 rfl hl.1 rfl rfl rfl (Nat.le_of_ble_eq_true rfl) ⟨Nat.le_trans (Nat.le_of_ble_eq_true rfl) hR.1, Nat.le_trans (Nat.le_of_ble_eq_true rfl) hR.2⟩ ⟨Nat.zero_le _, Nat.zero_le _⟩ dX11_constant_2) (fun r1 u3 H locs hp hw => ?_)
  obtain ⟨I2, rfl, h⟩ := hp
  refine lv_if_eq (tgt := 29) hx hb dX11_constant_5 (by decide) (fun hc => ?_) (fun hc => ?_)
  · have h := Eq.mp (if_pos hc) h
    refine lv_iconst (v := 0) hx hb dX11_constant_29 (by decide) ?_
    exact hm_iret X hr hlk hw ⟨_, rfl, h⟩ dX11_constant_30
  · have h := Eq.mp (if_neg hc) h
    refine lv_aload_n hx hb dX11_constant_8 rfl (lv_at hl 0 rfl) ?_
    refine lv_iload_n hx hb dX11_constant_9 rfl (lv_at hl 1 rfl) ?_
    refine lv_aload_n hx hb dX11_constant_10 rfl (lv_at hl 0 rfl) ?_
    refine hm_geti X hw lkM_403 LM_0 dX11_constant_11 ?_
    refine lv_icmp_ge (tgt := 21) hx hb dX11_constant_14 (by decide) (fun hc => ?_) (fun hc => ?_)
    · have h := Eq.mp (if_pos hc) h
      refine lv_iconst (v := 0) hx hb dX11_constant_21 (by decide) ?_
      exact wkM_constant_b22 X hr hlk hR   h hw (lv_sub hl [0, 1] rfl)
    · have h := Eq.mp (if_neg hc) h
      refine lv_iconst (v := 1) hx hb dX11_constant_17 (by decide) ?_
      refine lv_goto (tgt := 22) hx hb dX11_constant_18 (by decide) ?_
      exact wkM_constant_b22 X hr hlk hR   h hw (lv_sub hl [0, 1] rfl)

theorem wkM_last_l3 {I : HI} {J : HJ} {x0 : Int32} {Q : Int32 → Prop} (X : hX p m c s args RX11 cX11_last 2) (hr : meth.sig.returnType = (some .int)) (hlk : meth.locks = false) (hR : 0 ≤ R.frames ∧ 0 ≤ R.locals)   : ∀ (n : Nat) (x1 : Int32) {ls : Array Slot} {H : Heap} {locs : List Loc}, M_last_l3 x0 Q n x1 → hW D cA z Ev0 (I, J, T, FM, LM) A s H locs → lv_has ls 2 [(0, .int x0), (1, .int x1)] → W p l e R s m args below meth c H locs 0 0 (MQ below (va_Qi (p0 (I, J, T, FM, LM) Q) (hB D cA z A) A) args s 0 0 A) (F0 m 3 ls []) := by
  have hx := X.1
  have hb := X.2.1
  intro n
  induction n with
  | zero => intro x1 ls H locs h; exact False.elim h
  | succ n ih =>
    intro x1 ls H locs h hw hl
    rw [M_last_l3] at h
    refine lv_iload_n hx hb dX11_last_3 rfl (lv_at hl 0 rfl) ?_
    refine lv_iload_n hx hb dX11_last_4 rfl (lv_at hl 1 rfl) ?_
    refine lv_ishr hx hb dX11_last_5 ?_
    refine lv_iconst (v := 1) hx hb dX11_last_6 (by decide) ?_
    refine lv_iand hx hb dX11_last_7 ?_
    refine lv_if_ne (tgt := 17) hx hb dX11_last_8 (by decide) (fun hc => ?_) (fun hc => ?_)
    · have h := Eq.mp (if_neg hc) h
      refine lv_iload_n hx hb dX11_last_17 rfl (lv_at hl 1 rfl) ?_
      exact hm_iret X hr hlk hw ⟨rfl, h⟩ dX11_last_18
    · have h := Eq.mp (if_pos hc) h
      refine lv_iinc (v := x1 + (-1)) (lv' := [(1, _), (0, _)]) hx hb dX11_last_11 hl (k := 1) rfl rfl (by decide) rfl (fun ls hl => ?_)
      refine lv_goto (tgt := 3) hx hb dX11_last_14 (by decide) ?_
      exact ih _ h hw (lv_sub hl [1, 0] rfl)

theorem cM_last {l : Launch} {D : va_G} {cA : Nat → ClassId} {z sz : Nat} {I : HI} {J : HJ} {x0 : Int32} {Q : Int32 → Prop}  (h : M_last  x0 Q) : Met l yX11_last (hws0 yX11_last cX11_last 2 (some .int)) { frames := 0, cells := 0, slots := 0, locals := 0 } (hPc D cA z Ev0 (I, J, T, FM, LM) sz [.int x0]) (va_Qi (p0 (I, J, T, FM, LM) Q) (hB D cA z (hA z LM sz)) (hA z LM sz)) 0 0 (hA z LM sz) := by
  refine hm_met (I, J, T, FM, LM) [.int x0] rfl (by decide) (Nat.le_of_ble_eq_true rfl) ?_
  intro p e s m below meth c ls X hr hlk hnm hxt hsz hw hl
  have hl : lv_has ls 2 [(0, .int x0)] := hl
  have hR : 0 ≤ ({ frames := 0, cells := 0, slots := 0, locals := 0 } : Room).frames ∧ 0 ≤ ({ frames := 0, cells := 0, slots := 0, locals := 0 } : Room).locals := ⟨Nat.le_refl _, Nat.le_refl _⟩
  generalize ({ frames := 0, cells := 0, slots := 0, locals := 0 } : Room) = R at hR ⊢
  clear hsz
  generalize (hA z LM sz) = A at hw ⊢
  have hx := X.1
  have hb := X.2.1
  unfold M_last at h
  refine lv_bipush (v := 31) hx hb dX11_last_0 (by decide) ?_
  refine lv_istore_n (lv' := [(1, _), (0, _)]) hx hb dX11_last_2 rfl hl (by decide) rfl (fun ls hl => ?_)
  obtain ⟨n2, h⟩ := h
  exact wkM_last_l3 X hr hlk hR   n2 _ h hw (lv_sub hl [1, 0] rfl)

theorem wkM_balls_l21 {J : HJ} {x1 : Int32} {K2 : HI → Int32 → Prop} {Q : HI → Prop} (X : hX p m c s args RX11 cX11_balls 3) (hr : meth.sig.returnType = none) (hlk : meth.locks = false) (hR : 1 ≤ R.frames ∧ 21 ≤ R.locals)  (hK2 : ∀ (I : HI) (x1 : Int32) {ls : Array Slot} {H : Heap} {locs : List Loc}, K2 I x1 → hW D cA z Ev0 (I, J, T, FM, LM) A s H locs → lv_has ls 3 [(0, .ref (z + 0)), (1, .int x1)] → W p l e R s m args below meth c H locs 0 0 (MQ below (va_Qv (pIv J T FM LM Q) (hB D cA z A) A) args s 0 0 A) (F0 m 2 ls [])) : ∀ (n : Nat) (I : HI) (x2 : Int32) {ls : Array Slot} {H : Heap} {locs : List Loc}, M_balls_l21 x1 K2 Q n I x2 → hW D cA z Ev0 (I, J, T, FM, LM) A s H locs → lv_has ls 3 [(0, .ref (z + 0)), (1, .int x1), (2, .int x2)] → W p l e R s m args below meth c H locs 0 0 (MQ below (va_Qv (pIv J T FM LM Q) (hB D cA z A) A) args s 0 0 A) (F0 m 21 ls []) := by
  have hx := X.1
  have hb := X.2.1
  intro n
  induction n with
  | zero => intro I x2 ls H locs h; exact False.elim h
  | succ n ih =>
    intro I x2 ls H locs h hw hl
    rw [M_balls_l21] at h
    refine lv_iload_n hx hb dX11_balls_21 rfl (lv_at hl 2 rfl) ?_
    refine lv_aload_n hx hb dX11_balls_22 rfl (lv_at hl 0 rfl) ?_
    refine hm_geti X hw lkM_7 LM_0 dX11_balls_23 ?_
    refine lv_icmp_ge (tgt := 51) hx hb dX11_balls_26 (by decide) (fun hc => ?_) (fun hc => ?_)
    · have h := Eq.mp (if_pos hc) h
      refine lv_aload_n hx hb dX11_balls_51 rfl (lv_at hl 0 rfl) ?_
      refine hm_getr X hw lkM_127 LM_0 (b := 33) rfl dX11_balls_52 ?_
      refine lv_iload_n hx hb dX11_balls_55 rfl (lv_at hl 1 rfl) ?_
      refine lv_aload_n hx hb dX11_balls_56 rfl (lv_at hl 0 rfl) ?_
      refine hm_getr X hw lkM_124 LM_0 (b := 32) rfl dX11_balls_57 ?_
      refine lv_iload_n hx hb dX11_balls_60 rfl (lv_at hl 1 rfl) ?_
      obtain ⟨hi, h⟩ := h
      refine hm_iald X hw LM_32 hi dX11_balls_61 ?_
      refine hm_calli hw (hm_runS (rest := [_, _]) hCl_true X hw (cM_last  h) ykM_last kw1879 rfl hl.1 rfl rfl rfl (Nat.le_of_ble_eq_true rfl) ⟨Nat.le_trans (Nat.le_of_ble_eq_true rfl) hR.1, Nat.le_trans (Nat.le_of_ble_eq_true rfl) hR.2⟩ ⟨Nat.zero_le _, Nat.zero_le _⟩ dX11_balls_62) (fun r1 u2 H locs hp hw => ?_)
      obtain ⟨rfl, h⟩ := hp
      obtain ⟨hi, h⟩ := h
      refine hm_iast X hw LM_33 hi dX11_balls_65 (fun H locs hw => ?_)
      refine lv_iinc (v := x1 + 1) (lv' := [(1, _), (0, _), (2, _)]) hx hb dX11_balls_66 hl (k := 1) rfl rfl (by decide) rfl (fun ls hl => ?_)
      refine lv_goto (tgt := 2) hx hb dX11_balls_69 (by decide) ?_
      exact hK2 _ _ h hw (lv_sub hl [1, 0] rfl)
    · have h := Eq.mp (if_neg hc) h
      refine lv_aload_n hx hb dX11_balls_29 rfl (lv_at hl 0 rfl) ?_
      refine hm_getr X hw lkM_124 LM_0 (b := 32) rfl dX11_balls_30 ?_
      refine lv_iload_n hx hb dX11_balls_33 rfl (lv_at hl 1 rfl) ?_
      refine lv_dup2_11 hx hb dX11_balls_34 rfl rfl ?_
      obtain ⟨hi, h⟩ := h
      refine hm_iald X hw LM_32 hi dX11_balls_35 ?_
      refine lv_iconst (v := 1) hx hb dX11_balls_36 (by decide) ?_
      refine lv_iload_n hx hb dX11_balls_37 rfl (lv_at hl 1 rfl) ?_
      refine lv_iconst (v := 1) hx hb dX11_balls_38 (by decide) ?_
      refine lv_iload_n hx hb dX11_balls_39 rfl (lv_at hl 2 rfl) ?_
      refine lv_ishl hx hb dX11_balls_40 ?_
      refine lv_ixor hx hb dX11_balls_41 ?_
      refine lv_ishl hx hb dX11_balls_42 ?_
      refine lv_ior hx hb dX11_balls_43 ?_
      obtain ⟨hi, h⟩ := h
      refine hm_iast X hw LM_32 hi dX11_balls_44 (fun H locs hw => ?_)
      refine lv_iinc (v := x2 + 1) (lv' := [(2, _), (0, _), (1, _)]) hx hb dX11_balls_45 hl (k := 2) rfl rfl (by decide) rfl (fun ls hl => ?_)
      refine lv_goto (tgt := 21) hx hb dX11_balls_48 (by decide) ?_
      exact ih _ _ h hw (lv_sub hl [1, 2, 0] rfl)

theorem wkM_balls_l2 {J : HJ} {Q : HI → Prop} (X : hX p m c s args RX11 cX11_balls 3) (hr : meth.sig.returnType = none) (hlk : meth.locks = false) (hR : 1 ≤ R.frames ∧ 21 ≤ R.locals)   : ∀ (n : Nat) (I : HI) (x1 : Int32) {ls : Array Slot} {H : Heap} {locs : List Loc}, M_balls_l2 Q n I x1 → hW D cA z Ev0 (I, J, T, FM, LM) A s H locs → lv_has ls 3 [(0, .ref (z + 0)), (1, .int x1)] → W p l e R s m args below meth c H locs 0 0 (MQ below (va_Qv (pIv J T FM LM Q) (hB D cA z A) A) args s 0 0 A) (F0 m 2 ls []) := by
  have hx := X.1
  have hb := X.2.1
  intro n
  induction n with
  | zero => intro I x1 ls H locs h; exact False.elim h
  | succ n ih =>
    intro I x1 ls H locs h hw hl
    rw [M_balls_l2] at h
    refine lv_iload_n hx hb dX11_balls_2 rfl (lv_at hl 1 rfl) ?_
    refine lv_aload_n hx hb dX11_balls_3 rfl (lv_at hl 0 rfl) ?_
    refine hm_geti X hw lkM_16 LM_0 dX11_balls_4 ?_
    refine lv_icmp_ge (tgt := 72) hx hb dX11_balls_7 (by decide) (fun hc => ?_) (fun hc => ?_)
    · have h := Eq.mp (if_pos hc) h
      exact hm_vret X hr hlk hw ⟨_, rfl, h⟩ dX11_balls_72
    · have h := Eq.mp (if_neg hc) h
      refine lv_aload_n hx hb dX11_balls_10 rfl (lv_at hl 0 rfl) ?_
      refine hm_getr X hw lkM_124 LM_0 (b := 32) rfl dX11_balls_11 ?_
      refine lv_iload_n hx hb dX11_balls_14 rfl (lv_at hl 1 rfl) ?_
      refine lv_iconst (v := 1) hx hb dX11_balls_15 (by decide) ?_
      refine lv_iload_n hx hb dX11_balls_16 rfl (lv_at hl 1 rfl) ?_
      refine lv_ishl hx hb dX11_balls_17 ?_
      obtain ⟨hi, h⟩ := h
      refine hm_iast X hw LM_32 hi dX11_balls_18 (fun H locs hw => ?_)
      refine lv_iconst (v := 0) hx hb dX11_balls_19 (by decide) ?_
      refine lv_istore_n (lv' := [(2, _), (0, _), (1, _)]) hx hb dX11_balls_20 rfl hl (by decide) rfl (fun ls hl => ?_)
      obtain ⟨n2, h⟩ := h
      exact wkM_balls_l21 X hr hlk hR  ih n2 _ _ h hw (lv_sub hl [1, 2, 0] rfl)

theorem cM_balls {l : Launch} {D : va_G} {cA : Nat → ClassId} {z sz : Nat} {I : HI} {J : HJ}  {Q : HI → Prop}  (h : M_balls I  Q) : Met l yX11_balls (hws0 yX11_balls cX11_balls 3 none) { frames := 1, cells := 0, slots := 0, locals := 21 } (hPc D cA z Ev0 (I, J, T, FM, LM) sz [.ref (z + 0)]) (va_Qv (pIv J T FM LM Q) (hB D cA z (hA z LM sz)) (hA z LM sz)) 0 0 (hA z LM sz) := by
  refine hm_met (I, J, T, FM, LM) [.ref (z + 0)] rfl (by decide) (Nat.le_of_ble_eq_true rfl) ?_
  intro p e s m below meth c ls X hr hlk hnm hxt hsz hw hl
  have hl : lv_has ls 3 [(0, .ref (z + 0))] := hl
  have hR : 1 ≤ ({ frames := 1, cells := 0, slots := 0, locals := 21 } : Room).frames ∧ 21 ≤ ({ frames := 1, cells := 0, slots := 0, locals := 21 } : Room).locals := ⟨Nat.le_refl _, Nat.le_refl _⟩
  generalize ({ frames := 1, cells := 0, slots := 0, locals := 21 } : Room) = R at hR ⊢
  clear hsz
  generalize (hA z LM sz) = A at hw ⊢
  have hx := X.1
  have hb := X.2.1
  unfold M_balls at h
  refine lv_iconst (v := 0) hx hb dX11_balls_0 (by decide) ?_
  refine lv_istore_n (lv' := [(1, _), (0, _)]) hx hb dX11_balls_1 rfl hl (by decide) rfl (fun ls hl => ?_)
  obtain ⟨n2, h⟩ := h
  exact wkM_balls_l2 X hr hlk hR   n2 _ _ h hw (lv_sub hl [1, 0] rfl)

theorem wkM_latest_l5 {I : HI} {J : HJ} {x1 : Int32} {Q : Int32 → Prop} (X : hX p m c s args RX11 cX11_latest 4) (hr : meth.sig.returnType = (some .int)) (hlk : meth.locks = false) (hR : 0 ≤ R.frames ∧ 0 ≤ R.locals)   : ∀ (n : Nat) (x2 : Int32) (x3 : Int32) {ls : Array Slot} {H : Heap} {locs : List Loc}, M_latest_l5 I x1 Q n x2 x3 → hW D cA z Ev0 (I, J, T, FM, LM) A s H locs → lv_has ls 4 [(0, .ref (z + 0)), (1, .int x1), (2, .int x2), (3, .int x3)] → W p l e R s m args below meth c H locs 0 0 (MQ below (va_Qi (p0 (I, J, T, FM, LM) Q) (hB D cA z A) A) args s 0 0 A) (F0 m 5 ls []) := by
  have hx := X.1
  have hb := X.2.1
  intro n
  induction n with
  | zero => intro x2 x3 ls H locs h; exact False.elim h
  | succ n ih =>
    intro x2 x3 ls H locs h hw hl
    rw [M_latest_l5] at h
    refine lv_iload_n hx hb dX11_latest_5 rfl (lv_at hl 3 rfl) ?_
    refine lv_aload_n hx hb dX11_latest_6 rfl (lv_at hl 0 rfl) ?_
    refine hm_geti X hw lkM_16 LM_0 dX11_latest_7 ?_
    refine lv_icmp_ge (tgt := 45) hx hb dX11_latest_10 (by decide) (fun hc => ?_) (fun hc => ?_)
    · have h := Eq.mp (if_pos hc) h
      refine lv_iload_n hx hb dX11_latest_45 rfl (lv_at hl 2 rfl) ?_
      exact hm_iret X hr hlk hw ⟨rfl, h⟩ dX11_latest_46
    · have h := Eq.mp (if_neg hc) h
      refine lv_iload_n hx hb dX11_latest_13 rfl (lv_at hl 1 rfl) ?_
      refine lv_iload_n hx hb dX11_latest_14 rfl (lv_at hl 3 rfl) ?_
      refine lv_ishr hx hb dX11_latest_15 ?_
      refine lv_iconst (v := 1) hx hb dX11_latest_16 (by decide) ?_
      refine lv_iand hx hb dX11_latest_17 ?_
      refine lv_iconst (v := 1) hx hb dX11_latest_18 (by decide) ?_
      refine lv_icmp_ne (tgt := 39) hx hb dX11_latest_19 (by decide) (fun hc => ?_) (fun hc => ?_)
      · have h := Eq.mp (if_neg hc) h
        refine lv_iinc (v := x3 + 1) (lv' := [(3, _), (0, _), (1, _), (2, _)]) hx hb dX11_latest_39 hl (k := 3) rfl rfl (by decide) rfl (fun ls hl => ?_)
        refine lv_goto (tgt := 5) hx hb dX11_latest_42 (by decide) ?_
        exact ih _ _ h hw (lv_sub hl [1, 2, 3, 0] rfl)
      · have h := Eq.mp (if_pos hc) h
        refine lv_aload_n hx hb dX11_latest_22 rfl (lv_at hl 0 rfl) ?_
        refine hm_getr X hw lkM_127 LM_0 (b := 33) rfl dX11_latest_23 ?_
        refine lv_iload_n hx hb dX11_latest_26 rfl (lv_at hl 3 rfl) ?_
        obtain ⟨hi, h⟩ := h
        refine hm_iald X hw LM_33 hi dX11_latest_27 ?_
        refine lv_iload_n hx hb dX11_latest_28 rfl (lv_at hl 2 rfl) ?_
        refine lv_icmp_ge (tgt := 39) hx hb dX11_latest_29 (by decide) (fun hc => ?_) (fun hc => ?_)
        · have h := Eq.mp (if_pos hc) h
          refine lv_iinc (v := x3 + 1) (lv' := [(3, _), (0, _), (1, _), (2, _)]) hx hb dX11_latest_39 hl (k := 3) rfl rfl (by decide) rfl (fun ls hl => ?_)
          refine lv_goto (tgt := 5) hx hb dX11_latest_42 (by decide) ?_
          exact ih _ _ h hw (lv_sub hl [1, 2, 3, 0] rfl)
        · have h := Eq.mp (if_neg hc) h
          refine lv_aload_n hx hb dX11_latest_32 rfl (lv_at hl 0 rfl) ?_
          refine hm_getr X hw lkM_127 LM_0 (b := 33) rfl dX11_latest_33 ?_
          refine lv_iload_n hx hb dX11_latest_36 rfl (lv_at hl 3 rfl) ?_
          obtain ⟨hi, h⟩ := h
          refine hm_iald X hw LM_33 hi dX11_latest_37 ?_
          refine lv_istore_n (lv' := [(2, _), (0, _), (1, _), (3, _)]) hx hb dX11_latest_38 rfl hl (by decide) rfl (fun ls hl => ?_)
          refine lv_iinc (v := x3 + 1) (lv' := [(3, _), (2, _), (0, _), (1, _)]) hx hb dX11_latest_39 hl (k := 3) rfl rfl (by decide) rfl (fun ls hl => ?_)
          refine lv_goto (tgt := 5) hx hb dX11_latest_42 (by decide) ?_
          exact ih _ _ h hw (lv_sub hl [2, 3, 1, 0] rfl)

theorem cM_latest {l : Launch} {D : va_G} {cA : Nat → ClassId} {z sz : Nat} {I : HI} {J : HJ} {x1 : Int32} {Q : Int32 → Prop}  (h : M_latest I x1 Q) : Met l yX11_latest (hws0 yX11_latest cX11_latest 4 (some .int)) { frames := 0, cells := 0, slots := 0, locals := 0 } (hPc D cA z Ev0 (I, J, T, FM, LM) sz [.ref (z + 0), .int x1]) (va_Qi (p0 (I, J, T, FM, LM) Q) (hB D cA z (hA z LM sz)) (hA z LM sz)) 0 0 (hA z LM sz) := by
  refine hm_met (I, J, T, FM, LM) [.ref (z + 0), .int x1] rfl (by decide) (Nat.le_of_ble_eq_true rfl) ?_
  intro p e s m below meth c ls X hr hlk hnm hxt hsz hw hl
  have hl : lv_has ls 4 [(0, .ref (z + 0)), (1, .int x1)] := hl
  have hR : 0 ≤ ({ frames := 0, cells := 0, slots := 0, locals := 0 } : Room).frames ∧ 0 ≤ ({ frames := 0, cells := 0, slots := 0, locals := 0 } : Room).locals := ⟨Nat.le_refl _, Nat.le_refl _⟩
  generalize ({ frames := 0, cells := 0, slots := 0, locals := 0 } : Room) = R at hR ⊢
  clear hsz
  generalize (hA z LM sz) = A at hw ⊢
  have hx := X.1
  have hb := X.2.1
  unfold M_latest at h
  refine lv_bipush (v := 31) hx hb dX11_latest_0 (by decide) ?_
  refine lv_istore_n (lv' := [(2, _), (0, _), (1, _)]) hx hb dX11_latest_2 rfl hl (by decide) rfl (fun ls hl => ?_)
  refine lv_iconst (v := 0) hx hb dX11_latest_3 (by decide) ?_
  refine lv_istore_n (lv' := [(3, _), (2, _), (0, _), (1, _)]) hx hb dX11_latest_4 rfl hl (by decide) rfl (fun ls hl => ?_)
  obtain ⟨n2, h⟩ := h
  exact wkM_latest_l5 X hr hlk hR   n2 _ _ h hw (lv_sub hl [2, 3, 1, 0] rfl)

theorem wkM_covers_b119 {I : HI} {J : HJ} {x1 : Int32} {x2 : Int32} {x3 : Int32} {t0 : Int32} {K38 : HI → Int32 → Prop} {Q : Int32 → HI → Prop} (X : hX p m c s args RX11 cX11_covers 6) (hr : meth.sig.returnType = (some .boolean)) (hlk : meth.locks = false) (hR : 1 ≤ R.frames ∧ 23 ≤ R.locals)  (hK38 : ∀ (I : HI) (x3 : Int32) {ls : Array Slot} {H : Heap} {locs : List Loc}, K38 I x3 → hW D cA z Ev0 (I, J, T, FM, LM) A s H locs → lv_has ls 6 [(0, .ref (z + 0)), (1, .int x1), (2, .int x2), (3, .int x3)] → W p l e R s m args below meth c H locs 0 0 (MQ below (va_Qi (pI J T FM LM Q) (hB D cA z A) A) args s 0 0 A) (F0 m 38 ls [])) : ∀ {ls : Array Slot} {H : Heap} {locs : List Loc}, M_covers_b119 I x1 x2 x3 t0 K38 Q → hW D cA z Ev0 (I, J, T, FM, LM) A s H locs → lv_has ls 6 [(0, .ref (z + 0)), (1, .int x1), (2, .int x2), (3, .int x3)] → W p l e R s m args below meth c H locs 0 0 (MQ below (va_Qi (pI J T FM LM Q) (hB D cA z A) A) args s 0 0 A) (F0 m 119 ls [.int t0]) := by
  have hx := X.1
  have hb := X.2.1
  intro ls H locs h hw hl
  unfold M_covers_b119 at h
  refine lv_istore (lv' := [(5, _), (0, _), (1, _), (2, _), (3, _)]) hx hb dX11_covers_119 hl (by decide) rfl (fun ls hl => ?_)
  refine lv_iload hx hb dX11_covers_121 (lv_at hl 0 rfl) ?_
  refine lv_if_ne (tgt := 132) hx hb dX11_covers_123 (by decide) (fun hc => ?_) (fun hc => ?_)
  · have h := Eq.mp (if_neg hc) h
    refine lv_aload_n hx hb dX11_covers_132 rfl (lv_at hl 1 rfl) ?_
    refine hm_getr X hw lkM_130 LM_0 (b := 34) rfl dX11_covers_133 ?_
    refine lv_iload_n hx hb dX11_covers_136 rfl (lv_at hl 4 rfl) ?_
    refine lv_iconst (v := 1) hx hb dX11_covers_137 (by decide) ?_
    refine lv_iadd hx hb dX11_covers_138 ?_
    refine lv_aload_n hx hb dX11_covers_139 rfl (lv_at hl 1 rfl) ?_
    refine hm_getr X hw lkM_130 LM_0 (b := 34) rfl dX11_covers_140 ?_
    refine lv_iload_n hx hb dX11_covers_143 rfl (lv_at hl 4 rfl) ?_
    obtain ⟨hi, h⟩ := h
    refine hm_iald X hw LM_34 hi dX11_covers_144 ?_
    refine lv_aload_n hx hb dX11_covers_145 rfl (lv_at hl 1 rfl) ?_
    refine hm_getr X hw lkM_124 LM_0 (b := 32) rfl dX11_covers_146 ?_
    refine lv_aload_n hx hb dX11_covers_149 rfl (lv_at hl 1 rfl) ?_
    refine hm_getr X hw lkM_121 LM_0 (b := 31) rfl dX11_covers_150 ?_
    refine lv_iload_n hx hb dX11_covers_153 rfl (lv_at hl 4 rfl) ?_
    obtain ⟨hi, h⟩ := h
    refine hm_iald X hw LM_31 hi dX11_covers_154 ?_
    obtain ⟨hi, h⟩ := h
    refine hm_iald X hw LM_32 hi dX11_covers_155 ?_
    refine lv_ior hx hb dX11_covers_156 ?_
    obtain ⟨hi, h⟩ := h
    refine hm_iast X hw LM_34 hi dX11_covers_157 (fun H locs hw => ?_)
    refine lv_aload_n hx hb dX11_covers_158 rfl (lv_at hl 1 rfl) ?_
    refine hm_getr X hw lkM_121 LM_0 (b := 31) rfl dX11_covers_159 ?_
    refine lv_iload_n hx hb dX11_covers_162 rfl (lv_at hl 4 rfl) ?_
    refine lv_iconst (v := 1) hx hb dX11_covers_163 (by decide) ?_
    refine lv_iadd hx hb dX11_covers_164 ?_
    refine lv_aload_n hx hb dX11_covers_165 rfl (lv_at hl 1 rfl) ?_
    refine hm_getr X hw lkM_121 LM_0 (b := 31) rfl dX11_covers_166 ?_
    refine lv_iload_n hx hb dX11_covers_169 rfl (lv_at hl 4 rfl) ?_
    obtain ⟨hi, h⟩ := h
    refine hm_iald X hw LM_31 hi dX11_covers_170 ?_
    obtain ⟨hi, h⟩ := h
    refine hm_iast X hw LM_31 hi dX11_covers_171 (fun H locs hw => ?_)
    refine lv_iinc (v := x3 + 1) (lv' := [(3, _), (5, _), (0, _), (1, _), (2, _)]) hx hb dX11_covers_172 hl (k := 4) rfl rfl (by decide) rfl (fun ls hl => ?_)
    refine lv_goto (tgt := 38) hx hb dX11_covers_175 (by decide) ?_
    exact hK38 _ _ h hw (lv_sub hl [2, 3, 4, 0] rfl)
  · have h := Eq.mp (if_pos hc) h
    refine lv_iinc (v := x3 + (-1)) (lv' := [(3, _), (5, _), (0, _), (1, _), (2, _)]) hx hb dX11_covers_126 hl (k := 4) rfl rfl (by decide) rfl (fun ls hl => ?_)
    refine lv_goto (tgt := 38) hx hb dX11_covers_129 (by decide) ?_
    exact hK38 _ _ h hw (lv_sub hl [2, 3, 4, 0] rfl)

theorem wkM_covers_b118 {I : HI} {J : HJ} {x1 : Int32} {x2 : Int32} {x3 : Int32} {K38 : HI → Int32 → Prop} {Q : Int32 → HI → Prop} (X : hX p m c s args RX11 cX11_covers 6) (hr : meth.sig.returnType = (some .boolean)) (hlk : meth.locks = false) (hR : 1 ≤ R.frames ∧ 23 ≤ R.locals)  (hK38 : ∀ (I : HI) (x3 : Int32) {ls : Array Slot} {H : Heap} {locs : List Loc}, K38 I x3 → hW D cA z Ev0 (I, J, T, FM, LM) A s H locs → lv_has ls 6 [(0, .ref (z + 0)), (1, .int x1), (2, .int x2), (3, .int x3)] → W p l e R s m args below meth c H locs 0 0 (MQ below (va_Qi (pI J T FM LM Q) (hB D cA z A) A) args s 0 0 A) (F0 m 38 ls [])) : ∀ {ls : Array Slot} {H : Heap} {locs : List Loc}, M_covers_b118 I x1 x2 x3 K38 Q → hW D cA z Ev0 (I, J, T, FM, LM) A s H locs → lv_has ls 6 [(0, .ref (z + 0)), (1, .int x1), (2, .int x2), (3, .int x3)] → W p l e R s m args below meth c H locs 0 0 (MQ below (va_Qi (pI J T FM LM Q) (hB D cA z A) A) args s 0 0 A) (F0 m 118 ls []) := by
  have hx := X.1
  have hb := X.2.1
  intro ls H locs h hw hl
  unfold M_covers_b118 at h
  refine lv_iconst (v := 0) hx hb dX11_covers_118 (by decide) ?_
  exact wkM_covers_b119 X hr hlk hR  hK38 h hw (lv_sub hl [0, 1, 2, 3] rfl)

theorem wkM_covers_l38 {J : HJ} {x1 : Int32} {x2 : Int32} {Q : Int32 → HI → Prop} (X : hX p m c s args RX11 cX11_covers 6) (hr : meth.sig.returnType = (some .boolean)) (hlk : meth.locks = false) (hR : 1 ≤ R.frames ∧ 23 ≤ R.locals)   : ∀ (n : Nat) (I : HI) (x3 : Int32) {ls : Array Slot} {H : Heap} {locs : List Loc}, M_covers_l38 x1 x2 Q n I x3 → hW D cA z Ev0 (I, J, T, FM, LM) A s H locs → lv_has ls 6 [(0, .ref (z + 0)), (1, .int x1), (2, .int x2), (3, .int x3)] → W p l e R s m args below meth c H locs 0 0 (MQ below (va_Qi (pI J T FM LM Q) (hB D cA z A) A) args s 0 0 A) (F0 m 38 ls []) := by
  have hx := X.1
  have hb := X.2.1
  intro n
  induction n with
  | zero => intro I x3 ls H locs h; exact False.elim h
  | succ n ih =>
    intro I x3 ls H locs h hw hl
    rw [M_covers_l38] at h
    refine lv_iload_n hx hb dX11_covers_38 rfl (lv_at hl 3 rfl) ?_
    refine lv_if_lt (tgt := 178) hx hb dX11_covers_39 (by decide) (fun hc => ?_) (fun hc => ?_)
    · have h := Eq.mp (if_pos hc) h
      refine lv_iconst (v := 0) hx hb dX11_covers_178 (by decide) ?_
      exact hm_zret X hr hlk hw zb_0 ⟨_, rfl, h⟩ dX11_covers_179
    · have h := Eq.mp (if_neg hc) h
      refine lv_iload_n hx hb dX11_covers_42 rfl (lv_at hl 2 rfl) ?_
      refine lv_aload_n hx hb dX11_covers_43 rfl (lv_at hl 0 rfl) ?_
      refine hm_getr X hw lkM_130 LM_0 (b := 34) rfl dX11_covers_44 ?_
      refine lv_iload_n hx hb dX11_covers_47 rfl (lv_at hl 3 rfl) ?_
      obtain ⟨hi, h⟩ := h
      refine hm_iald X hw LM_34 hi dX11_covers_48 ?_
      refine lv_iconst (v := (-1)) hx hb dX11_covers_49 (by decide) ?_
      refine lv_ixor hx hb dX11_covers_50 ?_
      refine lv_iand hx hb dX11_covers_51 ?_
      refine lv_istore (lv' := [(4, _), (0, _), (1, _), (2, _), (3, _)]) hx hb dX11_covers_52 hl (by decide) rfl (fun ls hl => ?_)
      refine lv_iload hx hb dX11_covers_54 (lv_at hl 0 rfl) ?_
      refine lv_if_ne (tgt := 66) hx hb dX11_covers_56 (by decide) (fun hc => ?_) (fun hc => ?_)
      · have h := Eq.mp (if_neg hc) h
        refine lv_aload_n hx hb dX11_covers_66 rfl (lv_at hl 1 rfl) ?_
        refine hm_getr X hw lkM_121 LM_0 (b := 31) rfl dX11_covers_67 ?_
        refine lv_iload_n hx hb dX11_covers_70 rfl (lv_at hl 4 rfl) ?_
        refine lv_dup2_11 hx hb dX11_covers_71 rfl rfl ?_
        obtain ⟨hi, h⟩ := h
        refine hm_iald X hw LM_31 hi dX11_covers_72 ?_
        refine lv_iconst (v := 1) hx hb dX11_covers_73 (by decide) ?_
        refine lv_iadd hx hb dX11_covers_74 ?_
        obtain ⟨hi, h⟩ := h
        refine hm_iast X hw LM_31 hi dX11_covers_75 (fun H locs hw => ?_)
        refine lv_iload_n hx hb dX11_covers_76 rfl (lv_at hl 4 rfl) ?_
        refine lv_iload_n hx hb dX11_covers_77 rfl (lv_at hl 2 rfl) ?_
        refine lv_icmp_ge (tgt := 118) hx hb dX11_covers_78 (by decide) (fun hc => ?_) (fun hc => ?_)
        · have h := Eq.mp (if_pos hc) h
          exact wkM_covers_b118 X hr hlk hR  ih h hw (lv_sub hl [1, 2, 3, 4] rfl)
        · have h := Eq.mp (if_neg hc) h
          refine lv_aload_n hx hb dX11_covers_81 rfl (lv_at hl 1 rfl) ?_
          refine hm_getr X hw lkM_121 LM_0 (b := 31) rfl dX11_covers_82 ?_
          refine lv_iload_n hx hb dX11_covers_85 rfl (lv_at hl 4 rfl) ?_
          obtain ⟨hi, h⟩ := h
          refine hm_iald X hw LM_31 hi dX11_covers_86 ?_
          refine lv_aload_n hx hb dX11_covers_87 rfl (lv_at hl 1 rfl) ?_
          refine lv_iload hx hb dX11_covers_88 (lv_at hl 0 rfl) ?_
          refine hm_calli hw (hm_runV (rest := [_]) hCl_true X hw (cM_latest  h) ykM_latest kw1886 rfl LM_0 rfl hl.1 rfl rfl rfl (Nat.le_of_ble_eq_true rfl) ⟨Nat.le_trans (Nat.le_of_ble_eq_true rfl) hR.1, Nat.le_trans (Nat.le_of_ble_eq_true rfl) hR.2⟩ ⟨Nat.zero_le _, Nat.zero_le _⟩ dX11_covers_90) (fun r1 u2 H locs hp hw => ?_)
          obtain ⟨rfl, h⟩ := hp
          refine lv_icmp_gt (tgt := 118) hx hb dX11_covers_93 (by decide) (fun hc => ?_) (fun hc => ?_)
          · have h := Eq.mp (if_pos hc) h
            exact wkM_covers_b118 X hr hlk hR  ih h hw (lv_sub hl [1, 2, 3, 4] rfl)
          · have h := Eq.mp (if_neg hc) h
            refine lv_iload hx hb dX11_covers_96 (lv_at hl 0 rfl) ?_
            refine hm_calli hw (hm_runS (rest := []) hCl_true X hw (cM_bits  h) ykM_bits kw1342 rfl hl.1 rfl rfl rfl (Nat.le_of_ble_eq_true rfl) ⟨Nat.le_trans (Nat.le_of_ble_eq_true rfl) hR.1, Nat.le_trans (Nat.le_of_ble_eq_true rfl) hR.2⟩ ⟨Nat.zero_le _, Nat.zero_le _⟩ dX11_covers_98) (fun r3 u4 H locs hp hw => ?_)
            obtain ⟨rfl, h⟩ := hp
            refine lv_iload_n hx hb dX11_covers_101 rfl (lv_at hl 2 rfl) ?_
            refine lv_iload_n hx hb dX11_covers_102 rfl (lv_at hl 4 rfl) ?_
            refine lv_isub hx hb dX11_covers_103 ?_
            refine lv_aload_n hx hb dX11_covers_104 rfl (lv_at hl 1 rfl) ?_
            refine hm_geti X hw lkM_7 LM_0 dX11_covers_105 ?_
            refine lv_iconst (v := 1) hx hb dX11_covers_108 (by decide) ?_
            refine lv_iadd hx hb dX11_covers_109 ?_
            refine lv_imul hx hb dX11_covers_110 ?_
            refine lv_icmp_gt (tgt := 118) hx hb dX11_covers_111 (by decide) (fun hc => ?_) (fun hc => ?_)
            · have h := Eq.mp (if_pos hc) h
              exact wkM_covers_b118 X hr hlk hR  ih h hw (lv_sub hl [1, 2, 3, 4] rfl)
            · have h := Eq.mp (if_neg hc) h
              refine lv_iconst (v := 1) hx hb dX11_covers_114 (by decide) ?_
              refine lv_goto (tgt := 119) hx hb dX11_covers_115 (by decide) ?_
              exact wkM_covers_b119 X hr hlk hR  ih h hw (lv_sub hl [1, 2, 3, 4] rfl)
      · have h := Eq.mp (if_pos hc) h
        refine lv_aload_n hx hb dX11_covers_59 rfl (lv_at hl 1 rfl) ?_
        refine lv_iload_n hx hb dX11_covers_60 rfl (lv_at hl 4 rfl) ?_
        refine hm_puti X hw lkM_409 LM_0 rfl rfl dX11_covers_61 (fun H locs hw => ?_)
        refine lv_iconst (v := 1) hx hb dX11_covers_64 (by decide) ?_
        exact hm_zret X hr hlk hw zb_1 ⟨_, rfl, h⟩ dX11_covers_65

theorem wkM_covers_b21 {I : HI} {J : HJ} {x1 : Int32} {t0 : Int32} {Q : Int32 → HI → Prop} (X : hX p m c s args RX11 cX11_covers 6) (hr : meth.sig.returnType = (some .boolean)) (hlk : meth.locks = false) (hR : 1 ≤ R.frames ∧ 23 ≤ R.locals)   : ∀ {ls : Array Slot} {H : Heap} {locs : List Loc}, M_covers_b21 I x1 t0 Q → hW D cA z Ev0 (I, J, T, FM, LM) A s H locs → lv_has ls 6 [(0, .ref (z + 0)), (1, .int x1)] → W p l e R s m args below meth c H locs 0 0 (MQ below (va_Qi (pI J T FM LM Q) (hB D cA z A) A) args s 0 0 A) (F0 m 21 ls [.int t0]) := by
  have hx := X.1
  have hb := X.2.1
  intro ls H locs h hw hl
  unfold M_covers_b21 at h
  refine lv_istore_n (lv' := [(2, _), (0, _), (1, _)]) hx hb dX11_covers_21 rfl hl (by decide) rfl (fun ls hl => ?_)
  refine lv_iconst (v := 0) hx hb dX11_covers_22 (by decide) ?_
  refine lv_istore_n (lv' := [(3, _), (2, _), (0, _), (1, _)]) hx hb dX11_covers_23 rfl hl (by decide) rfl (fun ls hl => ?_)
  refine lv_aload_n hx hb dX11_covers_24 rfl (lv_at hl 2 rfl) ?_
  refine hm_getr X hw lkM_121 LM_0 (b := 31) rfl dX11_covers_25 ?_
  refine lv_iconst (v := 0) hx hb dX11_covers_28 (by decide) ?_
  refine lv_iconst (v := (-1)) hx hb dX11_covers_29 (by decide) ?_
  refine hm_iast X hw LM_31 (by unfold vp_in; decide) dX11_covers_30 (fun H locs hw => ?_)
  refine lv_aload_n hx hb dX11_covers_31 rfl (lv_at hl 2 rfl) ?_
  refine hm_getr X hw lkM_130 LM_0 (b := 34) rfl dX11_covers_32 ?_
  refine lv_iconst (v := 0) hx hb dX11_covers_35 (by decide) ?_
  refine lv_iconst (v := 0) hx hb dX11_covers_36 (by decide) ?_
  refine hm_iast X hw LM_34 (by unfold vp_in; decide) dX11_covers_37 (fun H locs hw => ?_)
  obtain ⟨n2, h⟩ := h
  exact wkM_covers_l38 X hr hlk hR   n2 _ _ h hw (lv_sub hl [2, 3, 1, 0] rfl)

theorem cM_covers {l : Launch} {D : va_G} {cA : Nat → ClassId} {z sz : Nat} {I : HI} {J : HJ} {x1 : Int32} {Q : Int32 → HI → Prop}  (h : M_covers I x1 Q) : Met l yX11_covers (hws0 yX11_covers cX11_covers 6 (some .boolean)) { frames := 1, cells := 0, slots := 0, locals := 23 } (hPc D cA z Ev0 (I, J, T, FM, LM) sz [.ref (z + 0), .int x1]) (va_Qi (pI J T FM LM Q) (hB D cA z (hA z LM sz)) (hA z LM sz)) 0 0 (hA z LM sz) := by
  refine hm_met (I, J, T, FM, LM) [.ref (z + 0), .int x1] rfl (by decide) (Nat.le_of_ble_eq_true rfl) ?_
  intro p e s m below meth c ls X hr hlk hnm hxt hsz hw hl
  have hl : lv_has ls 6 [(0, .ref (z + 0)), (1, .int x1)] := hl
  have hR : 1 ≤ ({ frames := 1, cells := 0, slots := 0, locals := 23 } : Room).frames ∧ 23 ≤ ({ frames := 1, cells := 0, slots := 0, locals := 23 } : Room).locals := ⟨Nat.le_refl _, Nat.le_refl _⟩
  generalize ({ frames := 1, cells := 0, slots := 0, locals := 23 } : Room) = R at hR ⊢
  clear hsz
  generalize (hA z LM sz) = A at hw ⊢
  have hx := X.1
  have hb := X.2.1
  unfold M_covers at h
  refine lv_aload_n hx hb dX11_covers_0 rfl (lv_at hl 0 rfl) ?_
  refine hm_geti X hw lkM_16 LM_0 dX11_covers_1 ?_
  refine lv_bipush (v := 32) hx hb dX11_covers_4 (by decide) ?_
  refine lv_icmp_ne (tgt := 13) hx hb dX11_covers_6 (by decide) (fun hc => ?_) (fun hc => ?_)
  · have h := Eq.mp (if_neg hc) h
    refine lv_iconst (v := 1) hx hb dX11_covers_13 (by decide) ?_
    refine lv_aload_n hx hb dX11_covers_14 rfl (lv_at hl 0 rfl) ?_
    refine hm_geti X hw lkM_16 LM_0 dX11_covers_15 ?_
    refine lv_ishl hx hb dX11_covers_18 ?_
    refine lv_iconst (v := 1) hx hb dX11_covers_19 (by decide) ?_
    refine lv_isub hx hb dX11_covers_20 ?_
    exact wkM_covers_b21 X hr hlk hR   h hw (lv_sub hl [0, 1] rfl)
  · have h := Eq.mp (if_pos hc) h
    refine lv_iconst (v := (-1)) hx hb dX11_covers_9 (by decide) ?_
    refine lv_goto (tgt := 21) hx hb dX11_covers_10 (by decide) ?_
    exact wkM_covers_b21 X hr hlk hR   h hw (lv_sub hl [0, 1] rfl)

theorem wkM_isGiven_l4 {I : HI} {J : HJ} {x1 : Int32} {Q : Int32 → Prop} (X : hX p m c s args RX11 cX11_isGiven 4) (hr : meth.sig.returnType = (some .boolean)) (hlk : meth.locks = false) (hR : 0 ≤ R.frames ∧ 0 ≤ R.locals)   : ∀ (n : Nat) (x2 : Int32) (x3 : Int32) {ls : Array Slot} {H : Heap} {locs : List Loc}, M_isGiven_l4 I x1 Q n x2 x3 → hW D cA z Ev0 (I, J, T, FM, LM) A s H locs → lv_has ls 4 [(0, .ref (z + 0)), (1, .int x1), (2, .int x2), (3, .int x3)] → W p l e R s m args below meth c H locs 0 0 (MQ below (va_Qi (p0 (I, J, T, FM, LM) Q) (hB D cA z A) A) args s 0 0 A) (F0 m 4 ls []) := by
  have hx := X.1
  have hb := X.2.1
  intro n
  induction n with
  | zero => intro x2 x3 ls H locs h; exact False.elim h
  | succ n ih =>
    intro x2 x3 ls H locs h hw hl
    rw [M_isGiven_l4] at h
    refine lv_iload_n hx hb dX11_isGiven_4 rfl (lv_at hl 3 rfl) ?_
    refine lv_aload_n hx hb dX11_isGiven_5 rfl (lv_at hl 0 rfl) ?_
    refine hm_geti X hw lkM_409 LM_0 dX11_isGiven_6 ?_
    refine lv_icmp_ge (tgt := 38) hx hb dX11_isGiven_9 (by decide) (fun hc => ?_) (fun hc => ?_)
    · have h := Eq.mp (if_pos hc) h
      refine lv_iload_n hx hb dX11_isGiven_38 rfl (lv_at hl 2 rfl) ?_
      obtain ⟨hz, h⟩ := h
      exact hm_zret X hr hlk hw hz ⟨rfl, h⟩ dX11_isGiven_39
    · have h := Eq.mp (if_neg hc) h
      refine lv_iload_n hx hb dX11_isGiven_12 rfl (lv_at hl 2 rfl) ?_
      refine lv_if_ne (tgt := 26) hx hb dX11_isGiven_13 (by decide) (fun hc => ?_) (fun hc => ?_)
      · have h := Eq.mp (if_neg hc) h
        refine lv_iconst (v := 1) hx hb dX11_isGiven_26 (by decide) ?_
        refine lv_goto (tgt := 31) hx hb dX11_isGiven_27 (by decide) ?_
        refine lv_istore_n (lv' := [(2, _), (0, _), (1, _), (3, _)]) hx hb dX11_isGiven_31 rfl hl (by decide) rfl (fun ls hl => ?_)
        refine lv_iinc (v := x3 + 1) (lv' := [(3, _), (2, _), (0, _), (1, _)]) hx hb dX11_isGiven_32 hl (k := 3) rfl rfl (by decide) rfl (fun ls hl => ?_)
        refine lv_goto (tgt := 4) hx hb dX11_isGiven_35 (by decide) ?_
        exact ih _ _ h hw (lv_sub hl [2, 3, 1, 0] rfl)
      · have h := Eq.mp (if_pos hc) h
        refine lv_aload_n hx hb dX11_isGiven_16 rfl (lv_at hl 0 rfl) ?_
        refine hm_getr X hw lkM_121 LM_0 (b := 31) rfl dX11_isGiven_17 ?_
        refine lv_iload_n hx hb dX11_isGiven_20 rfl (lv_at hl 3 rfl) ?_
        obtain ⟨hi, h⟩ := h
        refine hm_iald X hw LM_31 hi dX11_isGiven_21 ?_
        refine lv_iload_n hx hb dX11_isGiven_22 rfl (lv_at hl 1 rfl) ?_
        refine lv_icmp_ne (tgt := 30) hx hb dX11_isGiven_23 (by decide) (fun hc => ?_) (fun hc => ?_)
        · have h := Eq.mp (if_neg hc) h
          refine lv_iconst (v := 0) hx hb dX11_isGiven_30 (by decide) ?_
          refine lv_istore_n (lv' := [(2, _), (0, _), (1, _), (3, _)]) hx hb dX11_isGiven_31 rfl hl (by decide) rfl (fun ls hl => ?_)
          refine lv_iinc (v := x3 + 1) (lv' := [(3, _), (2, _), (0, _), (1, _)]) hx hb dX11_isGiven_32 hl (k := 3) rfl rfl (by decide) rfl (fun ls hl => ?_)
          refine lv_goto (tgt := 4) hx hb dX11_isGiven_35 (by decide) ?_
          exact ih _ _ h hw (lv_sub hl [2, 3, 1, 0] rfl)
        · have h := Eq.mp (if_pos hc) h
          refine lv_iconst (v := 1) hx hb dX11_isGiven_26 (by decide) ?_
          refine lv_goto (tgt := 31) hx hb dX11_isGiven_27 (by decide) ?_
          refine lv_istore_n (lv' := [(2, _), (0, _), (1, _), (3, _)]) hx hb dX11_isGiven_31 rfl hl (by decide) rfl (fun ls hl => ?_)
          refine lv_iinc (v := x3 + 1) (lv' := [(3, _), (2, _), (0, _), (1, _)]) hx hb dX11_isGiven_32 hl (k := 3) rfl rfl (by decide) rfl (fun ls hl => ?_)
          refine lv_goto (tgt := 4) hx hb dX11_isGiven_35 (by decide) ?_
          exact ih _ _ h hw (lv_sub hl [2, 3, 1, 0] rfl)

theorem cM_isGiven {l : Launch} {D : va_G} {cA : Nat → ClassId} {z sz : Nat} {I : HI} {J : HJ} {x1 : Int32} {Q : Int32 → Prop}  (h : M_isGiven I x1 Q) : Met l yX11_isGiven (hws0 yX11_isGiven cX11_isGiven 4 (some .boolean)) { frames := 0, cells := 0, slots := 0, locals := 0 } (hPc D cA z Ev0 (I, J, T, FM, LM) sz [.ref (z + 0), .int x1]) (va_Qi (p0 (I, J, T, FM, LM) Q) (hB D cA z (hA z LM sz)) (hA z LM sz)) 0 0 (hA z LM sz) := by
  refine hm_met (I, J, T, FM, LM) [.ref (z + 0), .int x1] rfl (by decide) (Nat.le_of_ble_eq_true rfl) ?_
  intro p e s m below meth c ls X hr hlk hnm hxt hsz hw hl
  have hl : lv_has ls 4 [(0, .ref (z + 0)), (1, .int x1)] := hl
  have hR : 0 ≤ ({ frames := 0, cells := 0, slots := 0, locals := 0 } : Room).frames ∧ 0 ≤ ({ frames := 0, cells := 0, slots := 0, locals := 0 } : Room).locals := ⟨Nat.le_refl _, Nat.le_refl _⟩
  generalize ({ frames := 0, cells := 0, slots := 0, locals := 0 } : Room) = R at hR ⊢
  clear hsz
  generalize (hA z LM sz) = A at hw ⊢
  have hx := X.1
  have hb := X.2.1
  unfold M_isGiven at h
  refine lv_iconst (v := 0) hx hb dX11_isGiven_0 (by decide) ?_
  refine lv_istore_n (lv' := [(2, _), (0, _), (1, _)]) hx hb dX11_isGiven_1 rfl hl (by decide) rfl (fun ls hl => ?_)
  refine lv_iconst (v := 0) hx hb dX11_isGiven_2 (by decide) ?_
  refine lv_istore_n (lv' := [(3, _), (2, _), (0, _), (1, _)]) hx hb dX11_isGiven_3 rfl hl (by decide) rfl (fun ls hl => ?_)
  obtain ⟨n2, h⟩ := h
  exact wkM_isGiven_l4 X hr hlk hR   n2 _ _ h hw (lv_sub hl [2, 3, 1, 0] rfl)

theorem wkM_cover_l209 {J : HJ} {x1 : Int32} {K194 : HI → Int32 → Prop} {Q : Int32 → HI → Prop} (X : hX p m c s args RX11 cX11_cover 5) (hr : meth.sig.returnType = (some .int)) (hlk : meth.locks = false) (hR : 3 ≤ R.frames ∧ 68 ≤ R.locals)  (hK194 : ∀ (I : HI) (x1 : Int32) {ls : Array Slot} {H : Heap} {locs : List Loc}, K194 I x1 → hW D cA z Ev0 (I, J, T, FM, LM) A s H locs → lv_has ls 5 [(0, .ref (z + 0)), (1, .int x1)] → W p l e R s m args below meth c H locs 0 0 (MQ below (va_Qi (pI J T FM LM Q) (hB D cA z A) A) args s 0 0 A) (F0 m 194 ls [])) : ∀ (n : Nat) (I : HI) (x2 : Int32) {ls : Array Slot} {H : Heap} {locs : List Loc}, M_cover_l209 x1 K194 Q n I x2 → hW D cA z Ev0 (I, J, T, FM, LM) A s H locs → lv_has ls 5 [(0, .ref (z + 0)), (1, .int x1), (2, .int x2)] → W p l e R s m args below meth c H locs 0 0 (MQ below (va_Qi (pI J T FM LM Q) (hB D cA z A) A) args s 0 0 A) (F0 m 209 ls []) := by
  have hx := X.1
  have hb := X.2.1
  intro n
  induction n with
  | zero => intro I x2 ls H locs h; exact False.elim h
  | succ n ih =>
    intro I x2 ls H locs h hw hl
    rw [M_cover_l209] at h
    refine lv_iload_n hx hb dX11_cover_209 rfl (lv_at hl 2 rfl) ?_
    refine lv_aload_n hx hb dX11_cover_210 rfl (lv_at hl 0 rfl) ?_
    refine hm_geti X hw lkM_16 LM_0 dX11_cover_211 ?_
    refine lv_icmp_ge (tgt := 300) hx hb dX11_cover_214 (by decide) (fun hc => ?_) (fun hc => ?_)
    · have h := Eq.mp (if_pos hc) h
      refine lv_iinc (v := x1 + 1) (lv' := [(1, _), (0, _), (2, _)]) hx hb dX11_cover_300 hl (k := 1) rfl rfl (by decide) rfl (fun ls hl => ?_)
      refine lv_goto (tgt := 194) hx hb dX11_cover_303 (by decide) ?_
      exact hK194 _ _ h hw (lv_sub hl [1, 0] rfl)
    · have h := Eq.mp (if_neg hc) h
      refine lv_iload_n hx hb dX11_cover_217 rfl (lv_at hl 2 rfl) ?_
      refine lv_iload_n hx hb dX11_cover_218 rfl (lv_at hl 1 rfl) ?_
      refine lv_ishr hx hb dX11_cover_219 ?_
      refine lv_iconst (v := 1) hx hb dX11_cover_220 (by decide) ?_
      refine lv_iand hx hb dX11_cover_221 ?_
      refine lv_iconst (v := 1) hx hb dX11_cover_222 (by decide) ?_
      refine lv_icmp_ne (tgt := 229) hx hb dX11_cover_223 (by decide) (fun hc => ?_) (fun hc => ?_)
      · have h := Eq.mp (if_neg hc) h
        refine lv_aload_n hx hb dX11_cover_229 rfl (lv_at hl 0 rfl) ?_
        refine lv_iload_n hx hb dX11_cover_230 rfl (lv_at hl 2 rfl) ?_
        refine hm_callv hw (hm_runV (rest := []) hCl_true X hw (cM_wears  h) ykM_wears kw1733 rfl LM_0 rfl hl.1 rfl rfl rfl (Nat.le_of_ble_eq_true rfl) ⟨Nat.le_trans (Nat.le_of_ble_eq_true rfl) hR.1, Nat.le_trans (Nat.le_of_ble_eq_true rfl) hR.2⟩ ⟨Nat.zero_le _, Nat.zero_le _⟩ dX11_cover_231) (fun u4 H locs hp hw => ?_)
        obtain ⟨I3, rfl, h⟩ := hp
        refine lv_aload_n hx hb dX11_cover_234 rfl (lv_at hl 0 rfl) ?_
        refine lv_iload_n hx hb dX11_cover_235 rfl (lv_at hl 2 rfl) ?_
        refine hm_calli hw (hm_runV (rest := []) hCl_true X hw (cM_isGiven  h) ykM_isGiven kw1890 rfl LM_0 rfl hl.1 rfl rfl rfl (Nat.le_of_ble_eq_true rfl) ⟨Nat.le_trans (Nat.le_of_ble_eq_true rfl) hR.1, Nat.le_trans (Nat.le_of_ble_eq_true rfl) hR.2⟩ ⟨Nat.zero_le _, Nat.zero_le _⟩ dX11_cover_236) (fun r5 u6 H locs hp hw => ?_)
        obtain ⟨rfl, h⟩ := hp
        refine lv_istore_n (lv' := [(3, _), (0, _), (1, _), (2, _)]) hx hb dX11_cover_239 rfl hl (by decide) rfl (fun ls hl => ?_)
        refine lv_aload_n hx hb dX11_cover_240 rfl (lv_at hl 1 rfl) ?_
        refine lv_iload_n hx hb dX11_cover_241 rfl (lv_at hl 3 rfl) ?_
        refine lv_iconst (v := 1) hx hb dX11_cover_242 (by decide) ?_
        refine lv_iload_n hx hb dX11_cover_243 rfl (lv_at hl 2 rfl) ?_
        refine lv_ishl hx hb dX11_cover_244 ?_
        refine lv_ior hx hb dX11_cover_245 ?_
        refine hm_calli hw (hm_runV (rest := []) hCl_true X hw (cM_isGiven  h) ykM_isGiven kw1890 rfl LM_0 rfl hl.1 rfl rfl rfl (Nat.le_of_ble_eq_true rfl) ⟨Nat.le_trans (Nat.le_of_ble_eq_true rfl) hR.1, Nat.le_trans (Nat.le_of_ble_eq_true rfl) hR.2⟩ ⟨Nat.zero_le _, Nat.zero_le _⟩ dX11_cover_246) (fun r7 u8 H locs hp hw => ?_)
        obtain ⟨rfl, h⟩ := hp
        refine lv_istore (lv' := [(4, _), (3, _), (0, _), (1, _), (2, _)]) hx hb dX11_cover_249 hl (by decide) rfl (fun ls hl => ?_)
        refine lv_aload_n hx hb dX11_cover_251 rfl (lv_at hl 2 rfl) ?_
        refine hm_getr X hw lkM_35 LM_0 (b := 5) rfl dX11_cover_252 ?_
        refine lv_sipush (v := 1024) hx hb dX11_cover_255 (by decide) ?_
        refine lv_iload_n hx hb dX11_cover_258 rfl (lv_at hl 3 rfl) ?_
        refine lv_imul hx hb dX11_cover_259 ?_
        refine lv_aload_n hx hb dX11_cover_260 rfl (lv_at hl 2 rfl) ?_
        refine lv_iload_n hx hb dX11_cover_261 rfl (lv_at hl 3 rfl) ?_
        refine hm_calli hw (hm_runV (rest := [_, _]) hCl_true X hw (cM_viewOf  h) ykM_viewOf kw1741 rfl LM_0 rfl hl.1 rfl rfl rfl (Nat.le_of_ble_eq_true rfl) ⟨Nat.le_trans (Nat.le_of_ble_eq_true rfl) hR.1, Nat.le_trans (Nat.le_of_ble_eq_true rfl) hR.2⟩ ⟨Nat.zero_le _, Nat.zero_le _⟩ dX11_cover_262) (fun r9 u10 H locs hp hw => ?_)
        obtain ⟨rfl, h⟩ := hp
        refine lv_iadd hx hb dX11_cover_265 ?_
        refine lv_iload_n hx hb dX11_cover_266 rfl (lv_at hl 1 rfl) ?_
        refine lv_iload hx hb dX11_cover_267 (lv_at hl 0 rfl) ?_
        refine lv_icmp_ne (tgt := 284) hx hb dX11_cover_269 (by decide) (fun hc => ?_) (fun hc => ?_)
        · have h := Eq.mp (if_neg hc) h
          refine lv_iload_n hx hb dX11_cover_284 rfl (lv_at hl 1 rfl) ?_
          refine lv_if_eq (tgt := 292) hx hb dX11_cover_285 (by decide) (fun hc => ?_) (fun hc => ?_)
          · have h := Eq.mp (if_pos hc) h
            refine lv_iconst (v := 0) hx hb dX11_cover_292 (by decide) ?_
            obtain ⟨hi, h⟩ := h
            refine hm_iast X hw LM_5 hi dX11_cover_293 (fun H locs hw => ?_)
            refine lv_iinc (v := x2 + 1) (lv' := [(2, _), (4, _), (3, _), (0, _), (1, _)]) hx hb dX11_cover_294 hl (k := 4) rfl rfl (by decide) rfl (fun ls hl => ?_)
            refine lv_goto (tgt := 209) hx hb dX11_cover_297 (by decide) ?_
            exact ih _ _ h hw (lv_sub hl [3, 4, 0] rfl)
          · have h := Eq.mp (if_neg hc) h
            refine lv_iconst (v := 1) hx hb dX11_cover_288 (by decide) ?_
            refine lv_goto (tgt := 293) hx hb dX11_cover_289 (by decide) ?_
            obtain ⟨hi, h⟩ := h
            refine hm_iast X hw LM_5 hi dX11_cover_293 (fun H locs hw => ?_)
            refine lv_iinc (v := x2 + 1) (lv' := [(2, _), (4, _), (3, _), (0, _), (1, _)]) hx hb dX11_cover_294 hl (k := 4) rfl rfl (by decide) rfl (fun ls hl => ?_)
            refine lv_goto (tgt := 209) hx hb dX11_cover_297 (by decide) ?_
            exact ih _ _ h hw (lv_sub hl [3, 4, 0] rfl)
        · have h := Eq.mp (if_pos hc) h
          refine lv_iload_n hx hb dX11_cover_272 rfl (lv_at hl 1 rfl) ?_
          refine lv_if_eq (tgt := 280) hx hb dX11_cover_273 (by decide) (fun hc => ?_) (fun hc => ?_)
          · have h := Eq.mp (if_pos hc) h
            refine lv_iconst (v := 2) hx hb dX11_cover_280 (by decide) ?_
            refine lv_goto (tgt := 293) hx hb dX11_cover_281 (by decide) ?_
            obtain ⟨hi, h⟩ := h
            refine hm_iast X hw LM_5 hi dX11_cover_293 (fun H locs hw => ?_)
            refine lv_iinc (v := x2 + 1) (lv' := [(2, _), (4, _), (3, _), (0, _), (1, _)]) hx hb dX11_cover_294 hl (k := 4) rfl rfl (by decide) rfl (fun ls hl => ?_)
            refine lv_goto (tgt := 209) hx hb dX11_cover_297 (by decide) ?_
            exact ih _ _ h hw (lv_sub hl [3, 4, 0] rfl)
          · have h := Eq.mp (if_neg hc) h
            refine lv_iconst (v := 0) hx hb dX11_cover_276 (by decide) ?_
            refine lv_goto (tgt := 293) hx hb dX11_cover_277 (by decide) ?_
            obtain ⟨hi, h⟩ := h
            refine hm_iast X hw LM_5 hi dX11_cover_293 (fun H locs hw => ?_)
            refine lv_iinc (v := x2 + 1) (lv' := [(2, _), (4, _), (3, _), (0, _), (1, _)]) hx hb dX11_cover_294 hl (k := 4) rfl rfl (by decide) rfl (fun ls hl => ?_)
            refine lv_goto (tgt := 209) hx hb dX11_cover_297 (by decide) ?_
            exact ih _ _ h hw (lv_sub hl [3, 4, 0] rfl)
      · have h := Eq.mp (if_pos hc) h
        refine lv_goto (tgt := 294) hx hb dX11_cover_226 (by decide) ?_
        refine lv_iinc (v := x2 + 1) (lv' := [(2, _), (0, _), (1, _)]) hx hb dX11_cover_294 hl (k := 2) rfl rfl (by decide) rfl (fun ls hl => ?_)
        refine lv_goto (tgt := 209) hx hb dX11_cover_297 (by decide) ?_
        exact ih _ _ h hw (lv_sub hl [1, 2, 0] rfl)

theorem wkM_cover_l194 {J : HJ} {Q : Int32 → HI → Prop} (X : hX p m c s args RX11 cX11_cover 5) (hr : meth.sig.returnType = (some .int)) (hlk : meth.locks = false) (hR : 3 ≤ R.frames ∧ 68 ≤ R.locals)   : ∀ (n : Nat) (I : HI) (x1 : Int32) {ls : Array Slot} {H : Heap} {locs : List Loc}, M_cover_l194 Q n I x1 → hW D cA z Ev0 (I, J, T, FM, LM) A s H locs → lv_has ls 5 [(0, .ref (z + 0)), (1, .int x1)] → W p l e R s m args below meth c H locs 0 0 (MQ below (va_Qi (pI J T FM LM Q) (hB D cA z A) A) args s 0 0 A) (F0 m 194 ls []) := by
  have hx := X.1
  have hb := X.2.1
  intro n
  induction n with
  | zero => intro I x1 ls H locs h; exact False.elim h
  | succ n ih =>
    intro I x1 ls H locs h hw hl
    rw [M_cover_l194] at h
    refine lv_iload_n hx hb dX11_cover_194 rfl (lv_at hl 1 rfl) ?_
    refine lv_aload_n hx hb dX11_cover_195 rfl (lv_at hl 0 rfl) ?_
    refine hm_geti X hw lkM_7 LM_0 dX11_cover_196 ?_
    refine lv_icmp_ge (tgt := 306) hx hb dX11_cover_199 (by decide) (fun hc => ?_) (fun hc => ?_)
    · have h := Eq.mp (if_pos hc) h
      refine lv_aload_n hx hb dX11_cover_306 rfl (lv_at hl 0 rfl) ?_
      refine lv_iconst (v := 0) hx hb dX11_cover_307 (by decide) ?_
      refine hm_puti X hw lkM_195 LM_0 rfl rfl dX11_cover_308 (fun H locs hw => ?_)
      refine lv_aload_n hx hb dX11_cover_311 rfl (lv_at hl 0 rfl) ?_
      refine hm_geti X hw lkM_409 LM_0 dX11_cover_312 ?_
      exact hm_iret X hr hlk hw ⟨_, rfl, h⟩ dX11_cover_315
    · have h := Eq.mp (if_neg hc) h
      refine lv_aload_n hx hb dX11_cover_202 rfl (lv_at hl 0 rfl) ?_
      refine lv_iload_n hx hb dX11_cover_203 rfl (lv_at hl 1 rfl) ?_
      refine hm_callv hw (hm_runV (rest := []) hCl_true X hw (cM_blank  h) ykM_blank kw1334 rfl LM_0 rfl hl.1 rfl rfl rfl (Nat.le_of_ble_eq_true rfl) ⟨Nat.le_trans (Nat.le_of_ble_eq_true rfl) hR.1, Nat.le_trans (Nat.le_of_ble_eq_true rfl) hR.2⟩ ⟨Nat.zero_le _, Nat.zero_le _⟩ dX11_cover_204) (fun u2 H locs hp hw => ?_)
      obtain ⟨I1, rfl, h⟩ := hp
      refine lv_iconst (v := 0) hx hb dX11_cover_207 (by decide) ?_
      refine lv_istore_n (lv' := [(2, _), (0, _), (1, _)]) hx hb dX11_cover_208 rfl hl (by decide) rfl (fun ls hl => ?_)
      obtain ⟨n2, h⟩ := h
      exact wkM_cover_l209 X hr hlk hR  ih n2 _ _ h hw (lv_sub hl [1, 2, 0] rfl)

theorem wkM_cover_l155 {J : HJ} {Q : Int32 → HI → Prop} (X : hX p m c s args RX11 cX11_cover 5) (hr : meth.sig.returnType = (some .int)) (hlk : meth.locks = false) (hR : 3 ≤ R.frames ∧ 68 ≤ R.locals)   : ∀ (n : Nat) (I : HI) (x1 : Int32) {ls : Array Slot} {H : Heap} {locs : List Loc}, M_cover_l155 Q n I x1 → hW D cA z Ev0 (I, J, T, FM, LM) A s H locs → lv_has ls 5 [(0, .ref (z + 0)), (1, .int x1)] → W p l e R s m args below meth c H locs 0 0 (MQ below (va_Qi (pI J T FM LM Q) (hB D cA z A) A) args s 0 0 A) (F0 m 155 ls []) := by
  have hx := X.1
  have hb := X.2.1
  intro n
  induction n with
  | zero => intro I x1 ls H locs h; exact False.elim h
  | succ n ih =>
    intro I x1 ls H locs h hw hl
    rw [M_cover_l155] at h
    refine lv_iload_n hx hb dX11_cover_155 rfl (lv_at hl 1 rfl) ?_
    refine lv_aload_n hx hb dX11_cover_156 rfl (lv_at hl 0 rfl) ?_
    refine hm_geti X hw lkM_7 LM_0 dX11_cover_157 ?_
    refine lv_icmp_ge (tgt := 192) hx hb dX11_cover_160 (by decide) (fun hc => ?_) (fun hc => ?_)
    · have h := Eq.mp (if_pos hc) h
      refine lv_iconst (v := 0) hx hb dX11_cover_192 (by decide) ?_
      refine lv_istore_n (lv' := [(1, _), (0, _)]) hx hb dX11_cover_193 rfl hl (by decide) rfl (fun ls hl => ?_)
      obtain ⟨n2, h⟩ := h
      exact wkM_cover_l194 X hr hlk hR   n2 _ _ h hw (lv_sub hl [1, 0] rfl)
    · have h := Eq.mp (if_neg hc) h
      refine lv_aload_n hx hb dX11_cover_163 rfl (lv_at hl 0 rfl) ?_
      refine hm_getr X hw lkM_26 LM_0 (b := 2) rfl dX11_cover_164 ?_
      refine lv_iload_n hx hb dX11_cover_167 rfl (lv_at hl 1 rfl) ?_
      refine lv_aload_n hx hb dX11_cover_168 rfl (lv_at hl 0 rfl) ?_
      refine hm_calli hw (hm_runV (rest := [_, _]) hCl_true X hw (cM_all  h) ykM_all kw1330 rfl LM_0 rfl hl.1 rfl rfl rfl (Nat.le_of_ble_eq_true rfl) ⟨Nat.le_trans (Nat.le_of_ble_eq_true rfl) hR.1, Nat.le_trans (Nat.le_of_ble_eq_true rfl) hR.2⟩ ⟨Nat.zero_le _, Nat.zero_le _⟩ dX11_cover_169) (fun r11 u12 H locs hp hw => ?_)
      obtain ⟨rfl, h⟩ := hp
      refine lv_iconst (v := 1) hx hb dX11_cover_172 (by decide) ?_
      refine lv_iload_n hx hb dX11_cover_173 rfl (lv_at hl 1 rfl) ?_
      refine lv_ishl hx hb dX11_cover_174 ?_
      refine lv_iconst (v := (-1)) hx hb dX11_cover_175 (by decide) ?_
      refine lv_ixor hx hb dX11_cover_176 ?_
      refine lv_iand hx hb dX11_cover_177 ?_
      obtain ⟨hi, h⟩ := h
      refine hm_iast X hw LM_2 hi dX11_cover_178 (fun H locs hw => ?_)
      refine lv_aload_n hx hb dX11_cover_179 rfl (lv_at hl 0 rfl) ?_
      refine hm_getr X hw lkM_29 LM_0 (b := 3) rfl dX11_cover_180 ?_
      refine lv_iload_n hx hb dX11_cover_183 rfl (lv_at hl 1 rfl) ?_
      refine lv_iconst (v := 0) hx hb dX11_cover_184 (by decide) ?_
      obtain ⟨hi, h⟩ := h
      refine hm_iast X hw LM_3 hi dX11_cover_185 (fun H locs hw => ?_)
      refine lv_iinc (v := x1 + 1) (lv' := [(1, _), (0, _)]) hx hb dX11_cover_186 hl (k := 1) rfl rfl (by decide) rfl (fun ls hl => ?_)
      refine lv_goto (tgt := 155) hx hb dX11_cover_189 (by decide) ?_
      exact ih _ _ h hw (lv_sub hl [1, 0] rfl)

theorem wkM_cover_l119 {J : HJ} {Q : Int32 → HI → Prop} (X : hX p m c s args RX11 cX11_cover 5) (hr : meth.sig.returnType = (some .int)) (hlk : meth.locks = false) (hR : 3 ≤ R.frames ∧ 68 ≤ R.locals)   : ∀ (n : Nat) (I : HI) (x1 : Int32) {ls : Array Slot} {H : Heap} {locs : List Loc}, M_cover_l119 Q n I x1 → hW D cA z Ev0 (I, J, T, FM, LM) A s H locs → lv_has ls 5 [(0, .ref (z + 0)), (1, .int x1)] → W p l e R s m args below meth c H locs 0 0 (MQ below (va_Qi (pI J T FM LM Q) (hB D cA z A) A) args s 0 0 A) (F0 m 119 ls []) := by
  have hx := X.1
  have hb := X.2.1
  intro n
  induction n with
  | zero => intro I x1 ls H locs h; exact False.elim h
  | succ n ih =>
    intro I x1 ls H locs h hw hl
    rw [M_cover_l119] at h
    refine lv_iload_n hx hb dX11_cover_119 rfl (lv_at hl 1 rfl) ?_
    refine lv_aload_n hx hb dX11_cover_120 rfl (lv_at hl 0 rfl) ?_
    refine hm_geti X hw lkM_409 LM_0 dX11_cover_121 ?_
    refine lv_icmp_ge (tgt := 153) hx hb dX11_cover_124 (by decide) (fun hc => ?_) (fun hc => ?_)
    · have h := Eq.mp (if_pos hc) h
      refine lv_iconst (v := 0) hx hb dX11_cover_153 (by decide) ?_
      refine lv_istore_n (lv' := [(1, _), (0, _)]) hx hb dX11_cover_154 rfl hl (by decide) rfl (fun ls hl => ?_)
      obtain ⟨n2, h⟩ := h
      exact wkM_cover_l155 X hr hlk hR   n2 _ _ h hw (lv_sub hl [1, 0] rfl)
    · have h := Eq.mp (if_neg hc) h
      refine lv_aload_n hx hb dX11_cover_127 rfl (lv_at hl 0 rfl) ?_
      refine hm_getr X hw lkM_121 LM_0 (b := 31) rfl dX11_cover_128 ?_
      refine lv_iload_n hx hb dX11_cover_131 rfl (lv_at hl 1 rfl) ?_
      refine lv_aload_n hx hb dX11_cover_132 rfl (lv_at hl 0 rfl) ?_
      refine hm_getr X hw lkM_136 LM_0 (b := 36) rfl dX11_cover_133 ?_
      refine lv_bipush (v := 32) hx hb dX11_cover_136 (by decide) ?_
      refine lv_aload_n hx hb dX11_cover_138 rfl (lv_at hl 0 rfl) ?_
      refine hm_geti X hw lkM_7 LM_0 dX11_cover_139 ?_
      refine lv_imul hx hb dX11_cover_142 ?_
      refine lv_iload_n hx hb dX11_cover_143 rfl (lv_at hl 1 rfl) ?_
      refine lv_iadd hx hb dX11_cover_144 ?_
      obtain ⟨hi, h⟩ := h
      refine hm_iald X hw LM_36 hi dX11_cover_145 ?_
      obtain ⟨hi, h⟩ := h
      refine hm_iast X hw LM_31 hi dX11_cover_146 (fun H locs hw => ?_)
      refine lv_iinc (v := x1 + 1) (lv' := [(1, _), (0, _)]) hx hb dX11_cover_147 hl (k := 1) rfl rfl (by decide) rfl (fun ls hl => ?_)
      refine lv_goto (tgt := 119) hx hb dX11_cover_150 (by decide) ?_
      exact ih _ _ h hw (lv_sub hl [1, 0] rfl)

theorem wkM_cover_b104 {I : HI} {J : HJ} {Q : Int32 → HI → Prop} (X : hX p m c s args RX11 cX11_cover 5) (hr : meth.sig.returnType = (some .int)) (hlk : meth.locks = false) (hR : 3 ≤ R.frames ∧ 68 ≤ R.locals)   : ∀ {ls : Array Slot} {H : Heap} {locs : List Loc}, M_cover_b104 I Q → hW D cA z Ev0 (I, J, T, FM, LM) A s H locs → lv_has ls 5 [(0, .ref (z + 0))] → W p l e R s m args below meth c H locs 0 0 (MQ below (va_Qi (pI J T FM LM Q) (hB D cA z A) A) args s 0 0 A) (F0 m 104 ls []) := by
  have hx := X.1
  have hb := X.2.1
  intro ls H locs h hw hl
  unfold M_cover_b104 at h
  refine lv_aload_n hx hb dX11_cover_104 rfl (lv_at hl 0 rfl) ?_
  refine lv_aload_n hx hb dX11_cover_105 rfl (lv_at hl 0 rfl) ?_
  refine hm_getr X hw lkM_133 LM_0 (b := 35) rfl dX11_cover_106 ?_
  refine lv_aload_n hx hb dX11_cover_109 rfl (lv_at hl 0 rfl) ?_
  refine hm_geti X hw lkM_7 LM_0 dX11_cover_110 ?_
  obtain ⟨hi, h⟩ := h
  refine hm_iald X hw LM_35 hi dX11_cover_113 ?_
  refine hm_puti X hw lkM_409 LM_0 rfl rfl dX11_cover_114 (fun H locs hw => ?_)
  refine lv_iconst (v := 0) hx hb dX11_cover_117 (by decide) ?_
  refine lv_istore_n (lv' := [(1, _), (0, _)]) hx hb dX11_cover_118 rfl hl (by decide) rfl (fun ls hl => ?_)
  obtain ⟨n2, h⟩ := h
  exact wkM_cover_l119 X hr hlk hR   n2 _ _ h hw (lv_sub hl [1, 0] rfl)

theorem wkM_cover_l70 {J : HJ} {Q : Int32 → HI → Prop} (X : hX p m c s args RX11 cX11_cover 5) (hr : meth.sig.returnType = (some .int)) (hlk : meth.locks = false) (hR : 3 ≤ R.frames ∧ 68 ≤ R.locals)   : ∀ (n : Nat) (I : HI) (x2 : Int32) {ls : Array Slot} {H : Heap} {locs : List Loc}, M_cover_l70 Q n I x2 → hW D cA z Ev0 (I, J, T, FM, LM) A s H locs → lv_has ls 5 [(0, .ref (z + 0)), (2, .int x2)] → W p l e R s m args below meth c H locs 0 0 (MQ below (va_Qi (pI J T FM LM Q) (hB D cA z A) A) args s 0 0 A) (F0 m 70 ls []) := by
  have hx := X.1
  have hb := X.2.1
  intro n
  induction n with
  | zero => intro I x2 ls H locs h; exact False.elim h
  | succ n ih =>
    intro I x2 ls H locs h hw hl
    rw [M_cover_l70] at h
    refine lv_iload_n hx hb dX11_cover_70 rfl (lv_at hl 1 rfl) ?_
    refine lv_aload_n hx hb dX11_cover_71 rfl (lv_at hl 0 rfl) ?_
    refine hm_geti X hw lkM_409 LM_0 dX11_cover_72 ?_
    refine lv_icmp_ge (tgt := 104) hx hb dX11_cover_75 (by decide) (fun hc => ?_) (fun hc => ?_)
    · have h := Eq.mp (if_pos hc) h
      exact wkM_cover_b104 X hr hlk hR   h hw (lv_sub hl [0] rfl)
    · have h := Eq.mp (if_neg hc) h
      refine lv_aload_n hx hb dX11_cover_78 rfl (lv_at hl 0 rfl) ?_
      refine hm_getr X hw lkM_136 LM_0 (b := 36) rfl dX11_cover_79 ?_
      refine lv_bipush (v := 32) hx hb dX11_cover_82 (by decide) ?_
      refine lv_aload_n hx hb dX11_cover_84 rfl (lv_at hl 0 rfl) ?_
      refine hm_geti X hw lkM_7 LM_0 dX11_cover_85 ?_
      refine lv_imul hx hb dX11_cover_88 ?_
      refine lv_iload_n hx hb dX11_cover_89 rfl (lv_at hl 1 rfl) ?_
      refine lv_iadd hx hb dX11_cover_90 ?_
      refine lv_aload_n hx hb dX11_cover_91 rfl (lv_at hl 0 rfl) ?_
      refine hm_getr X hw lkM_121 LM_0 (b := 31) rfl dX11_cover_92 ?_
      refine lv_iload_n hx hb dX11_cover_95 rfl (lv_at hl 1 rfl) ?_
      obtain ⟨hi, h⟩ := h
      refine hm_iald X hw LM_31 hi dX11_cover_96 ?_
      obtain ⟨hi, h⟩ := h
      refine hm_iast X hw LM_36 hi dX11_cover_97 (fun H locs hw => ?_)
      refine lv_iinc (v := x2 + 1) (lv' := [(2, _), (0, _)]) hx hb dX11_cover_98 hl (k := 1) rfl rfl (by decide) rfl (fun ls hl => ?_)
      refine lv_goto (tgt := 70) hx hb dX11_cover_101 (by decide) ?_
      exact ih _ _ h hw (lv_sub hl [1, 0] rfl)

theorem wkM_cover_l41 {J : HJ} {Q : Int32 → HI → Prop} (X : hX p m c s args RX11 cX11_cover 5) (hr : meth.sig.returnType = (some .int)) (hlk : meth.locks = false) (hR : 3 ≤ R.frames ∧ 68 ≤ R.locals)   : ∀ (n : Nat) (I : HI) (x1 : Int32) {ls : Array Slot} {H : Heap} {locs : List Loc}, M_cover_l41 Q n I x1 → hW D cA z Ev0 (I, J, T, FM, LM) A s H locs → lv_has ls 5 [(0, .ref (z + 0)), (1, .int x1)] → W p l e R s m args below meth c H locs 0 0 (MQ below (va_Qi (pI J T FM LM Q) (hB D cA z A) A) args s 0 0 A) (F0 m 41 ls []) := by
  have hx := X.1
  have hb := X.2.1
  intro n
  induction n with
  | zero => intro I x1 ls H locs h; exact False.elim h
  | succ n ih =>
    intro I x1 ls H locs h hw hl
    rw [M_cover_l41] at h
    refine lv_aload_n hx hb dX11_cover_41 rfl (lv_at hl 0 rfl) ?_
    refine lv_iload_n hx hb dX11_cover_42 rfl (lv_at hl 1 rfl) ?_
    refine hm_calli hw (hm_runV (rest := []) hCl_true X hw (cM_covers  h) ykM_covers kw1882 rfl LM_0 rfl hl.1 rfl rfl rfl (Nat.le_of_ble_eq_true rfl) ⟨Nat.le_trans (Nat.le_of_ble_eq_true rfl) hR.1, Nat.le_trans (Nat.le_of_ble_eq_true rfl) hR.2⟩ ⟨Nat.zero_le _, Nat.zero_le _⟩ dX11_cover_43) (fun r15 u17 H locs hp hw => ?_)
    obtain ⟨I16, rfl, h⟩ := hp
    refine lv_if_ne (tgt := 55) hx hb dX11_cover_46 (by decide) (fun hc => ?_) (fun hc => ?_)
    · have h := Eq.mp (if_neg hc) h
      refine lv_aload_n hx hb dX11_cover_55 rfl (lv_at hl 0 rfl) ?_
      refine hm_getr X hw lkM_133 LM_0 (b := 35) rfl dX11_cover_56 ?_
      refine lv_aload_n hx hb dX11_cover_59 rfl (lv_at hl 0 rfl) ?_
      refine hm_geti X hw lkM_7 LM_0 dX11_cover_60 ?_
      refine lv_aload_n hx hb dX11_cover_63 rfl (lv_at hl 0 rfl) ?_
      refine hm_geti X hw lkM_409 LM_0 dX11_cover_64 ?_
      obtain ⟨hi, h⟩ := h
      refine hm_iast X hw LM_35 hi dX11_cover_67 (fun H locs hw => ?_)
      refine lv_iconst (v := 0) hx hb dX11_cover_68 (by decide) ?_
      refine lv_istore_n (lv' := [(2, _), (0, _), (1, _)]) hx hb dX11_cover_69 rfl hl (by decide) rfl (fun ls hl => ?_)
      obtain ⟨n2, h⟩ := h
      exact wkM_cover_l70 X hr hlk hR   n2 _ _ h hw (lv_sub hl [1, 0] rfl)
    · have h := Eq.mp (if_pos hc) h
      refine lv_iinc (v := x1 + 1) (lv' := [(1, _), (0, _)]) hx hb dX11_cover_49 hl (k := 1) rfl rfl (by decide) rfl (fun ls hl => ?_)
      refine lv_goto (tgt := 41) hx hb dX11_cover_52 (by decide) ?_
      exact ih _ _ h hw (lv_sub hl [1, 0] rfl)

theorem cM_cover {l : Launch} {D : va_G} {cA : Nat → ClassId} {z sz : Nat} {I : HI} {J : HJ}  {Q : Int32 → HI → Prop}  (h : M_cover I  Q) : Met l yX11_cover (hws0 yX11_cover cX11_cover 5 (some .int)) { frames := 3, cells := 0, slots := 0, locals := 68 } (hPc D cA z Ev0 (I, J, T, FM, LM) sz [.ref (z + 0)]) (va_Qi (pI J T FM LM Q) (hB D cA z (hA z LM sz)) (hA z LM sz)) 0 0 (hA z LM sz) := by
  refine hm_met (I, J, T, FM, LM) [.ref (z + 0)] rfl (by decide) (Nat.le_of_ble_eq_true rfl) ?_
  intro p e s m below meth c ls X hr hlk hnm hxt hsz hw hl
  have hl : lv_has ls 5 [(0, .ref (z + 0))] := hl
  have hR : 3 ≤ ({ frames := 3, cells := 0, slots := 0, locals := 68 } : Room).frames ∧ 68 ≤ ({ frames := 3, cells := 0, slots := 0, locals := 68 } : Room).locals := ⟨Nat.le_refl _, Nat.le_refl _⟩
  generalize ({ frames := 3, cells := 0, slots := 0, locals := 68 } : Room) = R at hR ⊢
  clear hsz
  generalize (hA z LM sz) = A at hw ⊢
  have hx := X.1
  have hb := X.2.1
  unfold M_cover at h
  refine lv_aload_n hx hb dX11_cover_0 rfl (lv_at hl 0 rfl) ?_
  refine lv_iconst (v := 0) hx hb dX11_cover_1 (by decide) ?_
  refine hm_puti X hw lkM_174 LM_0 rfl rfl dX11_cover_2 (fun H locs hw => ?_)
  refine lv_aload_n hx hb dX11_cover_5 rfl (lv_at hl 0 rfl) ?_
  refine hm_geti X hw lkM_13 LM_0 dX11_cover_6 ?_
  refine lv_iconst (v := 2) hx hb dX11_cover_9 (by decide) ?_
  refine lv_icmp_ne (tgt := 21) hx hb dX11_cover_10 (by decide) (fun hc => ?_) (fun hc => ?_)
  · have h := Eq.mp (if_neg hc) h
    refine lv_iconst (v := (-1)) hx hb dX11_cover_21 (by decide) ?_
    exact hm_iret X hr hlk hw ⟨_, rfl, h⟩ dX11_cover_22
  · have h := Eq.mp (if_pos hc) h
    refine lv_aload_n hx hb dX11_cover_13 rfl (lv_at hl 0 rfl) ?_
    refine hm_geti X hw lkM_7 LM_0 dX11_cover_14 ?_
    refine lv_iconst (v := 5) hx hb dX11_cover_17 (by decide) ?_
    refine lv_icmp_le (tgt := 23) hx hb dX11_cover_18 (by decide) (fun hc => ?_) (fun hc => ?_)
    · have h := Eq.mp (if_pos hc) h
      refine lv_aload_n hx hb dX11_cover_23 rfl (lv_at hl 0 rfl) ?_
      refine hm_getr X hw lkM_133 LM_0 (b := 35) rfl dX11_cover_24 ?_
      refine lv_aload_n hx hb dX11_cover_27 rfl (lv_at hl 0 rfl) ?_
      refine hm_geti X hw lkM_7 LM_0 dX11_cover_28 ?_
      obtain ⟨hi, h⟩ := h
      refine hm_iald X hw LM_35 hi dX11_cover_31 ?_
      refine lv_if_ne (tgt := 104) hx hb dX11_cover_32 (by decide) (fun hc => ?_) (fun hc => ?_)
      · have h := Eq.mp (if_neg hc) h
        exact wkM_cover_b104 X hr hlk hR   h hw (lv_sub hl [0] rfl)
      · have h := Eq.mp (if_pos hc) h
        refine lv_aload_n hx hb dX11_cover_35 rfl (lv_at hl 0 rfl) ?_
        refine hm_callv hw (hm_runV (rest := []) hCl_true X hw (cM_balls  h) ykM_balls kw1875 rfl LM_0 rfl hl.1 rfl rfl rfl (Nat.le_of_ble_eq_true rfl) ⟨Nat.le_trans (Nat.le_of_ble_eq_true rfl) hR.1, Nat.le_trans (Nat.le_of_ble_eq_true rfl) hR.2⟩ ⟨Nat.zero_le _, Nat.zero_le _⟩ dX11_cover_36) (fun u14 H locs hp hw => ?_)
        obtain ⟨I13, rfl, h⟩ := hp
        refine lv_iconst (v := 1) hx hb dX11_cover_39 (by decide) ?_
        refine lv_istore_n (lv' := [(1, _), (0, _)]) hx hb dX11_cover_40 rfl hl (by decide) rfl (fun ls hl => ?_)
        obtain ⟨n2, h⟩ := h
        exact wkM_cover_l41 X hr hlk hR   n2 _ _ h hw (lv_sub hl [1, 0] rfl)
    · have h := Eq.mp (if_neg hc) h
      refine lv_iconst (v := (-1)) hx hb dX11_cover_21 (by decide) ?_
      exact hm_iret X hr hlk hw ⟨_, rfl, h⟩ dX11_cover_22

theorem wkM_given_b23 {I : HI} {J : HJ} {x1 : Int32} {t0 : Int32} {Q : Int32 → HI → Prop} (X : hX p m c s args RX11 cX11_given 2) (hr : meth.sig.returnType = (some .int)) (hlk : meth.locks = false) (hR : 1 ≤ R.frames ∧ 22 ≤ R.locals)   : ∀ {ls : Array Slot} {H : Heap} {locs : List Loc}, M_given_b23 I x1 t0 Q → hW D cA z Ev0 (I, J, T, FM, LM) A s H locs → lv_has ls 2 [(0, .ref (z + 0)), (1, .int x1)] → W p l e R s m args below meth c H locs 0 0 (MQ below (va_Qi (pI J T FM LM Q) (hB D cA z A) A) args s 0 0 A) (F0 m 23 ls [.int t0, .ref (z + 0)]) := by
  have hx := X.1
  have hb := X.2.1
  intro ls H locs h hw hl
  unfold M_given_b23 at h
  refine lv_iconst (v := 1) hx hb dX11_given_23 (by decide) ?_
  refine hm_calli hw (hm_runV (rest := []) hCl_true X hw (cM_right  h) ykM_right kw1594 rfl LM_0 rfl hl.1 rfl rfl rfl (Nat.le_of_ble_eq_true rfl) ⟨Nat.le_trans (Nat.le_of_ble_eq_true rfl) hR.1, Nat.le_trans (Nat.le_of_ble_eq_true rfl) hR.2⟩ ⟨Nat.zero_le _, Nat.zero_le _⟩ dX11_given_24) (fun r1 u3 H locs hp hw => ?_)
  obtain ⟨I2, rfl, h⟩ := hp
  refine lv_if_eq (tgt := 39) hx hb dX11_given_27 (by decide) (fun hc => ?_) (fun hc => ?_)
  · have h := Eq.mp (if_pos hc) h
    refine lv_iconst (v := 0) hx hb dX11_given_39 (by decide) ?_
    exact hm_iret X hr hlk hw ⟨_, rfl, h⟩ dX11_given_40
  · have h := Eq.mp (if_neg hc) h
    refine lv_aload_n hx hb dX11_given_30 rfl (lv_at hl 0 rfl) ?_
    refine hm_getr X hw lkM_121 LM_0 (b := 31) rfl dX11_given_31 ?_
    refine lv_iload_n hx hb dX11_given_34 rfl (lv_at hl 1 rfl) ?_
    obtain ⟨hi, h⟩ := h
    refine hm_iald X hw LM_31 hi dX11_given_35 ?_
    refine lv_goto (tgt := 40) hx hb dX11_given_36 (by decide) ?_
    exact hm_iret X hr hlk hw ⟨_, rfl, h⟩ dX11_given_40

theorem wkM_given_b22 {I : HI} {J : HJ} {x1 : Int32} {Q : Int32 → HI → Prop} (X : hX p m c s args RX11 cX11_given 2) (hr : meth.sig.returnType = (some .int)) (hlk : meth.locks = false) (hR : 1 ≤ R.frames ∧ 22 ≤ R.locals)   : ∀ {ls : Array Slot} {H : Heap} {locs : List Loc}, M_given_b22 I x1 Q → hW D cA z Ev0 (I, J, T, FM, LM) A s H locs → lv_has ls 2 [(0, .ref (z + 0)), (1, .int x1)] → W p l e R s m args below meth c H locs 0 0 (MQ below (va_Qi (pI J T FM LM Q) (hB D cA z A) A) args s 0 0 A) (F0 m 22 ls [.ref (z + 0)]) := by
  have hx := X.1
  have hb := X.2.1
  intro ls H locs h hw hl
  unfold M_given_b22 at h
  refine lv_iconst (v := 0) hx hb dX11_given_22 (by decide) ?_
  exact wkM_given_b23 X hr hlk hR   h hw (lv_sub hl [0, 1] rfl)

theorem cM_given {l : Launch} {D : va_G} {cA : Nat → ClassId} {z sz : Nat} {I : HI} {J : HJ} {x1 : Int32} {Q : Int32 → HI → Prop}  (h : M_given I x1 Q) : Met l yX11_given (hws0 yX11_given cX11_given 2 (some .int)) { frames := 1, cells := 0, slots := 0, locals := 22 } (hPc D cA z Ev0 (I, J, T, FM, LM) sz [.ref (z + 0), .int x1]) (va_Qi (pI J T FM LM Q) (hB D cA z (hA z LM sz)) (hA z LM sz)) 0 0 (hA z LM sz) := by
  refine hm_met (I, J, T, FM, LM) [.ref (z + 0), .int x1] rfl (by decide) (Nat.le_of_ble_eq_true rfl) ?_
  intro p e s m below meth c ls X hr hlk hnm hxt hsz hw hl
  have hl : lv_has ls 2 [(0, .ref (z + 0)), (1, .int x1)] := hl
  have hR : 1 ≤ ({ frames := 1, cells := 0, slots := 0, locals := 22 } : Room).frames ∧ 22 ≤ ({ frames := 1, cells := 0, slots := 0, locals := 22 } : Room).locals := ⟨Nat.le_refl _, Nat.le_refl _⟩
  generalize ({ frames := 1, cells := 0, slots := 0, locals := 22 } : Room) = R at hR ⊢
  clear hsz
  generalize (hA z LM sz) = A at hw ⊢
  have hx := X.1
  have hb := X.2.1
  unfold M_given at h
  refine lv_aload_n hx hb dX11_given_0 rfl (lv_at hl 0 rfl) ?_
  refine lv_iconst (v := 0) hx hb dX11_given_1 (by decide) ?_
  refine hm_puti X hw lkM_174 LM_0 rfl rfl dX11_given_2 (fun H locs hw => ?_)
  refine lv_aload_n hx hb dX11_given_5 rfl (lv_at hl 0 rfl) ?_
  refine lv_iload_n hx hb dX11_given_6 rfl (lv_at hl 1 rfl) ?_
  refine lv_if_lt (tgt := 22) hx hb dX11_given_7 (by decide) (fun hc => ?_) (fun hc => ?_)
  · have h := Eq.mp (if_pos hc) h
    exact wkM_given_b22 X hr hlk hR   h hw (lv_sub hl [0, 1] rfl)
  · have h := Eq.mp (if_neg hc) h
    refine lv_iload_n hx hb dX11_given_10 rfl (lv_at hl 1 rfl) ?_
    refine lv_aload_n hx hb dX11_given_11 rfl (lv_at hl 0 rfl) ?_
    refine hm_geti X hw lkM_409 LM_0 dX11_given_12 ?_
    refine lv_icmp_ge (tgt := 22) hx hb dX11_given_15 (by decide) (fun hc => ?_) (fun hc => ?_)
    · have h := Eq.mp (if_pos hc) h
      exact wkM_given_b22 X hr hlk hR   h hw (lv_sub hl [0, 1] rfl)
    · have h := Eq.mp (if_neg hc) h
      refine lv_iconst (v := 1) hx hb dX11_given_18 (by decide) ?_
      refine lv_goto (tgt := 23) hx hb dX11_given_19 (by decide) ?_
      exact wkM_given_b23 X hr hlk hR   h hw (lv_sub hl [0, 1] rfl)

end
