theorem dX2_weigh_0 : decode cX2_weigh 0 = .ok (.aload_n 0, 1) := by decide +kernel
theorem dX2_weigh_1 : decode cX2_weigh 1 = .ok (.getfield 9, 3) := by decide +kernel
theorem dX2_weigh_4 : decode cX2_weigh 4 = .ok (.iconst 0, 1) := by decide +kernel
theorem dX2_weigh_5 : decode cX2_weigh 5 = .ok (.aload_n 0, 1) := by decide +kernel
theorem dX2_weigh_6 : decode cX2_weigh 6 = .ok (.getfield 22, 3) := by decide +kernel
theorem dX2_weigh_9 : decode cX2_weigh 9 = .ok (.iconst 0, 1) := by decide +kernel
theorem dX2_weigh_10 : decode cX2_weigh 10 = .ok (.iconst 4, 1) := by decide +kernel
theorem dX2_weigh_11 : decode cX2_weigh 11 = .ok (.invokestatic 25, 3) := by decide +kernel
theorem dX2_weigh_14 : decode cX2_weigh 14 = .ok (.lconst 1, 1) := by decide +kernel
theorem dX2_weigh_15 : decode cX2_weigh 15 = .ok (.lstore_n 3, 1) := by decide +kernel
theorem dX2_weigh_16 : decode cX2_weigh 16 = .ok (.iconst 0, 1) := by decide +kernel
theorem dX2_weigh_17 : decode cX2_weigh 17 = .ok (.istore 5, 2) := by decide +kernel
theorem dX2_weigh_19 : decode cX2_weigh 19 = .ok (.iload 5, 2) := by decide +kernel
theorem dX2_weigh_21 : decode cX2_weigh 21 = .ok (.iload_n 2, 1) := by decide +kernel
theorem dX2_weigh_22 : decode cX2_weigh 22 = .ok (.if_icmp .ge 40, 3) := by decide +kernel
theorem dX2_weigh_25 : decode cX2_weigh 25 = .ok (.aload_n 1, 1) := by decide +kernel
theorem dX2_weigh_26 : decode cX2_weigh 26 = .ok (.getfield 31, 3) := by decide +kernel
theorem dX2_weigh_29 : decode cX2_weigh 29 = .ok (.iload 5, 2) := by decide +kernel
theorem dX2_weigh_31 : decode cX2_weigh 31 = .ok (.iaload, 1) := by decide +kernel
theorem dX2_weigh_32 : decode cX2_weigh 32 = .ok (.istore 6, 2) := by decide +kernel
theorem dX2_weigh_34 : decode cX2_weigh 34 = .ok (.lload_n 3, 1) := by decide +kernel
theorem dX2_weigh_35 : decode cX2_weigh 35 = .ok (.aload_n 0, 1) := by decide +kernel
theorem dX2_weigh_36 : decode cX2_weigh 36 = .ok (.getfield 22, 3) := by decide +kernel
theorem dX2_weigh_39 : decode cX2_weigh 39 = .ok (.iload 6, 2) := by decide +kernel
theorem dX2_weigh_41 : decode cX2_weigh 41 = .ok (.iaload, 1) := by decide +kernel
theorem dX2_weigh_42 : decode cX2_weigh 42 = .ok (.i2l, 1) := by decide +kernel
theorem dX2_weigh_43 : decode cX2_weigh 43 = .ok (.lmul, 1) := by decide +kernel
theorem dX2_weigh_44 : decode cX2_weigh 44 = .ok (.lstore_n 3, 1) := by decide +kernel
theorem dX2_weigh_45 : decode cX2_weigh 45 = .ok (.aload_n 0, 1) := by decide +kernel
theorem dX2_weigh_46 : decode cX2_weigh 46 = .ok (.getfield 22, 3) := by decide +kernel
theorem dX2_weigh_49 : decode cX2_weigh 49 = .ok (.iload 6, 2) := by decide +kernel
theorem dX2_weigh_51 : decode cX2_weigh 51 = .ok (.dup2, 1) := by decide +kernel
theorem dX2_weigh_52 : decode cX2_weigh 52 = .ok (.iaload, 1) := by decide +kernel
theorem dX2_weigh_53 : decode cX2_weigh 53 = .ok (.iconst 1, 1) := by decide +kernel
theorem dX2_weigh_54 : decode cX2_weigh 54 = .ok (.isub, 1) := by decide +kernel
theorem dX2_weigh_55 : decode cX2_weigh 55 = .ok (.iastore, 1) := by decide +kernel
theorem dX2_weigh_56 : decode cX2_weigh 56 = .ok (.iinc 5 1, 3) := by decide +kernel
theorem dX2_weigh_59 : decode cX2_weigh 59 = .ok (.goto (-40), 3) := by decide +kernel
theorem dX2_weigh_62 : decode cX2_weigh 62 = .ok (.lload_n 3, 1) := by decide +kernel
theorem dX2_weigh_63 : decode cX2_weigh 63 = .ok (.lreturn, 1) := by decide +kernel
theorem dX2_isWon_0 : decode cX2_isWon 0 = .ok (.iload_n 1, 1) := by decide +kernel
theorem dX2_isWon_1 : decode cX2_isWon 1 = .ok (.invokestatic 36, 3) := by decide +kernel
theorem dX2_isWon_4 : decode cX2_isWon 4 = .ok (.istore 4, 2) := by decide +kernel
theorem dX2_isWon_6 : decode cX2_isWon 6 = .ok (.aload_n 0, 1) := by decide +kernel
theorem dX2_isWon_7 : decode cX2_isWon 7 = .ok (.getfield 15, 3) := by decide +kernel
theorem dX2_isWon_10 : decode cX2_isWon 10 = .ok (.tableswitch 75 0 2 #[26, 41, 56], 26) := by decide +kernel
theorem dX2_isWon_36 : decode cX2_isWon 36 = .ok (.iload 4, 2) := by decide +kernel
theorem dX2_isWon_38 : decode cX2_isWon 38 = .ok (.aload_n 0, 1) := by decide +kernel
theorem dX2_isWon_39 : decode cX2_isWon 39 = .ok (.getfield 19, 3) := by decide +kernel
theorem dX2_isWon_42 : decode cX2_isWon 42 = .ok (.if_icmp .lt 7, 3) := by decide +kernel
theorem dX2_isWon_45 : decode cX2_isWon 45 = .ok (.iconst 1, 1) := by decide +kernel
theorem dX2_isWon_46 : decode cX2_isWon 46 = .ok (.goto 4, 3) := by decide +kernel
theorem dX2_isWon_49 : decode cX2_isWon 49 = .ok (.iconst 0, 1) := by decide +kernel
theorem dX2_isWon_50 : decode cX2_isWon 50 = .ok (.ireturn, 1) := by decide +kernel
theorem dX2_isWon_51 : decode cX2_isWon 51 = .ok (.iload 4, 2) := by decide +kernel
theorem dX2_isWon_53 : decode cX2_isWon 53 = .ok (.aload_n 0, 1) := by decide +kernel
theorem dX2_isWon_54 : decode cX2_isWon 54 = .ok (.getfield 19, 3) := by decide +kernel
theorem dX2_isWon_57 : decode cX2_isWon 57 = .ok (.if_icmp .ne 7, 3) := by decide +kernel
theorem dX2_isWon_60 : decode cX2_isWon 60 = .ok (.iconst 1, 1) := by decide +kernel
theorem dX2_isWon_61 : decode cX2_isWon 61 = .ok (.goto 4, 3) := by decide +kernel
theorem dX2_isWon_64 : decode cX2_isWon 64 = .ok (.iconst 0, 1) := by decide +kernel
theorem dX2_isWon_65 : decode cX2_isWon 65 = .ok (.ireturn, 1) := by decide +kernel
theorem dX2_isWon_66 : decode cX2_isWon 66 = .ok (.iload_n 2, 1) := by decide +kernel
theorem dX2_isWon_67 : decode cX2_isWon 67 = .ok (.ifCond .ne 16, 3) := by decide +kernel
theorem dX2_isWon_70 : decode cX2_isWon 70 = .ok (.iload 4, 2) := by decide +kernel
theorem dX2_isWon_72 : decode cX2_isWon 72 = .ok (.aload_n 0, 1) := by decide +kernel
theorem dX2_isWon_73 : decode cX2_isWon 73 = .ok (.getfield 19, 3) := by decide +kernel
theorem dX2_isWon_76 : decode cX2_isWon 76 = .ok (.if_icmp .lt 7, 3) := by decide +kernel
theorem dX2_isWon_79 : decode cX2_isWon 79 = .ok (.iconst 1, 1) := by decide +kernel
theorem dX2_isWon_80 : decode cX2_isWon 80 = .ok (.goto 4, 3) := by decide +kernel
theorem dX2_isWon_83 : decode cX2_isWon 83 = .ok (.iconst 0, 1) := by decide +kernel
theorem dX2_isWon_84 : decode cX2_isWon 84 = .ok (.ireturn, 1) := by decide +kernel
theorem dX2_isWon_85 : decode cX2_isWon 85 = .ok (.iload_n 3, 1) := by decide +kernel
theorem dX2_isWon_86 : decode cX2_isWon 86 = .ok (.iload 4, 2) := by decide +kernel
theorem dX2_isWon_88 : decode cX2_isWon 88 = .ok (.isub, 1) := by decide +kernel
theorem dX2_isWon_89 : decode cX2_isWon 89 = .ok (.aload_n 0, 1) := by decide +kernel
theorem dX2_isWon_90 : decode cX2_isWon 90 = .ok (.getfield 19, 3) := by decide +kernel
theorem dX2_isWon_93 : decode cX2_isWon 93 = .ok (.if_icmp .gt 7, 3) := by decide +kernel
theorem dX2_isWon_96 : decode cX2_isWon 96 = .ok (.iconst 1, 1) := by decide +kernel
theorem dX2_isWon_97 : decode cX2_isWon 97 = .ok (.goto 4, 3) := by decide +kernel
theorem dX2_isWon_100 : decode cX2_isWon 100 = .ok (.iconst 0, 1) := by decide +kernel
theorem dX2_isWon_101 : decode cX2_isWon 101 = .ok (.ireturn, 1) := by decide +kernel
theorem dX3_spoil_0 : decode cX3_spoil 0 = .ok (.aload_n 0, 1) := by decide +kernel
theorem dX3_spoil_1 : decode cX3_spoil 1 = .ok (.iconst 0, 1) := by decide +kernel
theorem dX3_spoil_2 : decode cX3_spoil 2 = .ok (.putfield 15, 3) := by decide +kernel
theorem dX3_spoil_5 : decode cX3_spoil 5 = .ok (.return_, 1) := by decide +kernel
theorem dX7_dress_0 : decode cX7_dress 0 = .ok (.iload_n 2, 1) := by decide +kernel
theorem dX7_dress_1 : decode cX7_dress 1 = .ok (.istore_n 3, 1) := by decide +kernel
theorem dX7_dress_2 : decode cX7_dress 2 = .ok (.iconst 0, 1) := by decide +kernel
theorem dX7_dress_3 : decode cX7_dress 3 = .ok (.istore 4, 2) := by decide +kernel
theorem dX7_dress_5 : decode cX7_dress 5 = .ok (.iload 4, 2) := by decide +kernel
theorem dX7_dress_7 : decode cX7_dress 7 = .ok (.aload_n 1, 1) := by decide +kernel
theorem dX7_dress_8 : decode cX7_dress 8 = .ok (.getfield 24, 3) := by decide +kernel
theorem dX7_dress_11 : decode cX7_dress 11 = .ok (.if_icmp .ge 29, 3) := by decide +kernel
theorem dX7_dress_14 : decode cX7_dress 14 = .ok (.aload_n 0, 1) := by decide +kernel
theorem dX7_dress_15 : decode cX7_dress 15 = .ok (.getfield 9, 3) := by decide +kernel
theorem dX7_dress_18 : decode cX7_dress 18 = .ok (.iload 4, 2) := by decide +kernel
theorem dX7_dress_20 : decode cX7_dress 20 = .ok (.iload_n 3, 1) := by decide +kernel
theorem dX7_dress_21 : decode cX7_dress 21 = .ok (.aload_n 1, 1) := by decide +kernel
theorem dX7_dress_22 : decode cX7_dress 22 = .ok (.getfield 30, 3) := by decide +kernel
theorem dX7_dress_25 : decode cX7_dress 25 = .ok (.irem, 1) := by decide +kernel
theorem dX7_dress_26 : decode cX7_dress 26 = .ok (.iastore, 1) := by decide +kernel
theorem dX7_dress_27 : decode cX7_dress 27 = .ok (.iload_n 3, 1) := by decide +kernel
theorem dX7_dress_28 : decode cX7_dress 28 = .ok (.aload_n 1, 1) := by decide +kernel
theorem dX7_dress_29 : decode cX7_dress 29 = .ok (.getfield 30, 3) := by decide +kernel
theorem dX7_dress_32 : decode cX7_dress 32 = .ok (.idiv, 1) := by decide +kernel
theorem dX7_dress_33 : decode cX7_dress 33 = .ok (.istore_n 3, 1) := by decide +kernel
theorem dX7_dress_34 : decode cX7_dress 34 = .ok (.iinc 4 1, 3) := by decide +kernel
theorem dX7_dress_37 : decode cX7_dress 37 = .ok (.goto (-32), 3) := by decide +kernel
theorem dX7_dress_40 : decode cX7_dress 40 = .ok (.return_, 1) := by decide +kernel
theorem dX7_viewOf_0 : decode cX7_viewOf 0 = .ok (.iconst 0, 1) := by decide +kernel
theorem dX7_viewOf_1 : decode cX7_viewOf 1 = .ok (.istore_n 3, 1) := by decide +kernel
theorem dX7_viewOf_2 : decode cX7_viewOf 2 = .ok (.iconst 1, 1) := by decide +kernel
theorem dX7_viewOf_3 : decode cX7_viewOf 3 = .ok (.istore 4, 2) := by decide +kernel
theorem dX7_viewOf_5 : decode cX7_viewOf 5 = .ok (.aload_n 1, 1) := by decide +kernel
theorem dX7_viewOf_6 : decode cX7_viewOf 6 = .ok (.getfield 71, 3) := by decide +kernel
theorem dX7_viewOf_9 : decode cX7_viewOf 9 = .ok (.iload_n 2, 1) := by decide +kernel
theorem dX7_viewOf_10 : decode cX7_viewOf 10 = .ok (.iaload, 1) := by decide +kernel
theorem dX7_viewOf_11 : decode cX7_viewOf 11 = .ok (.istore 5, 2) := by decide +kernel
theorem dX7_viewOf_13 : decode cX7_viewOf 13 = .ok (.iconst 0, 1) := by decide +kernel
theorem dX7_viewOf_14 : decode cX7_viewOf 14 = .ok (.istore 6, 2) := by decide +kernel
theorem dX7_viewOf_16 : decode cX7_viewOf 16 = .ok (.iload 6, 2) := by decide +kernel
theorem dX7_viewOf_18 : decode cX7_viewOf 18 = .ok (.aload_n 1, 1) := by decide +kernel
theorem dX7_viewOf_19 : decode cX7_viewOf 19 = .ok (.getfield 24, 3) := by decide +kernel
theorem dX7_viewOf_22 : decode cX7_viewOf 22 = .ok (.if_icmp .ge 50, 3) := by decide +kernel
theorem dX7_viewOf_25 : decode cX7_viewOf 25 = .ok (.iload 5, 2) := by decide +kernel
theorem dX7_viewOf_27 : decode cX7_viewOf 27 = .ok (.ifCond .eq 45, 3) := by decide +kernel
theorem dX7_viewOf_30 : decode cX7_viewOf 30 = .ok (.iload 5, 2) := by decide +kernel
theorem dX7_viewOf_32 : decode cX7_viewOf 32 = .ok (.iconst 1, 1) := by decide +kernel
theorem dX7_viewOf_33 : decode cX7_viewOf 33 = .ok (.iand, 1) := by decide +kernel
theorem dX7_viewOf_34 : decode cX7_viewOf 34 = .ok (.iconst 1, 1) := by decide +kernel
theorem dX7_viewOf_35 : decode cX7_viewOf 35 = .ok (.if_icmp .ne 25, 3) := by decide +kernel
theorem dX7_viewOf_38 : decode cX7_viewOf 38 = .ok (.iload_n 3, 1) := by decide +kernel
theorem dX7_viewOf_39 : decode cX7_viewOf 39 = .ok (.aload_n 0, 1) := by decide +kernel
theorem dX7_viewOf_40 : decode cX7_viewOf 40 = .ok (.getfield 9, 3) := by decide +kernel
theorem dX7_viewOf_43 : decode cX7_viewOf 43 = .ok (.iload 6, 2) := by decide +kernel
theorem dX7_viewOf_45 : decode cX7_viewOf 45 = .ok (.iaload, 1) := by decide +kernel
theorem dX7_viewOf_46 : decode cX7_viewOf 46 = .ok (.iload 4, 2) := by decide +kernel
theorem dX7_viewOf_48 : decode cX7_viewOf 48 = .ok (.imul, 1) := by decide +kernel
theorem dX7_viewOf_49 : decode cX7_viewOf 49 = .ok (.iadd, 1) := by decide +kernel
theorem dX7_viewOf_50 : decode cX7_viewOf 50 = .ok (.istore_n 3, 1) := by decide +kernel
theorem dX7_viewOf_51 : decode cX7_viewOf 51 = .ok (.iload 4, 2) := by decide +kernel
theorem dX7_viewOf_53 : decode cX7_viewOf 53 = .ok (.aload_n 1, 1) := by decide +kernel
theorem dX7_viewOf_54 : decode cX7_viewOf 54 = .ok (.getfield 30, 3) := by decide +kernel
theorem dX7_viewOf_57 : decode cX7_viewOf 57 = .ok (.imul, 1) := by decide +kernel
theorem dX7_viewOf_58 : decode cX7_viewOf 58 = .ok (.istore 4, 2) := by decide +kernel
theorem dX7_viewOf_60 : decode cX7_viewOf 60 = .ok (.iinc 6 1, 3) := by decide +kernel
theorem dX7_viewOf_63 : decode cX7_viewOf 63 = .ok (.iload 5, 2) := by decide +kernel
theorem dX7_viewOf_65 : decode cX7_viewOf 65 = .ok (.iconst 1, 1) := by decide +kernel
theorem dX7_viewOf_66 : decode cX7_viewOf 66 = .ok (.ishr, 1) := by decide +kernel
theorem dX7_viewOf_67 : decode cX7_viewOf 67 = .ok (.istore 5, 2) := by decide +kernel
theorem dX7_viewOf_69 : decode cX7_viewOf 69 = .ok (.goto (-53), 3) := by decide +kernel
theorem dX7_viewOf_72 : decode cX7_viewOf 72 = .ok (.aload_n 1, 1) := by decide +kernel
theorem dX7_viewOf_73 : decode cX7_viewOf 73 = .ok (.getfield 74, 3) := by decide +kernel
theorem dX7_viewOf_76 : decode cX7_viewOf 76 = .ok (.iload_n 2, 1) := by decide +kernel
theorem dX7_viewOf_77 : decode cX7_viewOf 77 = .ok (.iaload, 1) := by decide +kernel
theorem dX7_viewOf_78 : decode cX7_viewOf 78 = .ok (.istore 5, 2) := by decide +kernel
theorem dX7_viewOf_80 : decode cX7_viewOf 80 = .ok (.iconst 0, 1) := by decide +kernel
theorem dX7_viewOf_81 : decode cX7_viewOf 81 = .ok (.istore 6, 2) := by decide +kernel
theorem dX7_viewOf_83 : decode cX7_viewOf 83 = .ok (.iload 6, 2) := by decide +kernel
theorem dX7_viewOf_85 : decode cX7_viewOf 85 = .ok (.aload_n 1, 1) := by decide +kernel
theorem dX7_viewOf_86 : decode cX7_viewOf 86 = .ok (.getfield 24, 3) := by decide +kernel
theorem dX7_viewOf_89 : decode cX7_viewOf 89 = .ok (.if_icmp .ge 52, 3) := by decide +kernel
theorem dX7_viewOf_92 : decode cX7_viewOf 92 = .ok (.iload 5, 2) := by decide +kernel
theorem dX7_viewOf_94 : decode cX7_viewOf 94 = .ok (.ifCond .eq 47, 3) := by decide +kernel
theorem dX7_viewOf_97 : decode cX7_viewOf 97 = .ok (.iload 5, 2) := by decide +kernel
theorem dX7_viewOf_99 : decode cX7_viewOf 99 = .ok (.iconst 1, 1) := by decide +kernel
theorem dX7_viewOf_100 : decode cX7_viewOf 100 = .ok (.iand, 1) := by decide +kernel
theorem dX7_viewOf_101 : decode cX7_viewOf 101 = .ok (.iconst 1, 1) := by decide +kernel
theorem dX7_viewOf_102 : decode cX7_viewOf 102 = .ok (.if_icmp .ne 27, 3) := by decide +kernel
theorem dX7_viewOf_105 : decode cX7_viewOf 105 = .ok (.iload_n 3, 1) := by decide +kernel
theorem dX7_viewOf_106 : decode cX7_viewOf 106 = .ok (.aload_n 0, 1) := by decide +kernel
theorem dX7_viewOf_107 : decode cX7_viewOf 107 = .ok (.getfield 15, 3) := by decide +kernel
theorem dX7_viewOf_110 : decode cX7_viewOf 110 = .ok (.iload 6, 2) := by decide +kernel
theorem dX7_viewOf_112 : decode cX7_viewOf 112 = .ok (.iaload, 1) := by decide +kernel
theorem dX7_viewOf_113 : decode cX7_viewOf 113 = .ok (.iload 4, 2) := by decide +kernel
theorem dX7_viewOf_115 : decode cX7_viewOf 115 = .ok (.imul, 1) := by decide +kernel
theorem dX7_viewOf_116 : decode cX7_viewOf 116 = .ok (.iadd, 1) := by decide +kernel
theorem dX7_viewOf_117 : decode cX7_viewOf 117 = .ok (.istore_n 3, 1) := by decide +kernel
theorem dX7_viewOf_118 : decode cX7_viewOf 118 = .ok (.iload 4, 2) := by decide +kernel
theorem dX7_viewOf_120 : decode cX7_viewOf 120 = .ok (.aload_n 1, 1) := by decide +kernel
theorem dX7_viewOf_121 : decode cX7_viewOf 121 = .ok (.getfield 30, 3) := by decide +kernel
theorem dX7_viewOf_124 : decode cX7_viewOf 124 = .ok (.iconst 1, 1) := by decide +kernel
theorem dX7_viewOf_125 : decode cX7_viewOf 125 = .ok (.iadd, 1) := by decide +kernel
theorem dX7_viewOf_126 : decode cX7_viewOf 126 = .ok (.imul, 1) := by decide +kernel
theorem dX7_viewOf_127 : decode cX7_viewOf 127 = .ok (.istore 4, 2) := by decide +kernel
theorem dX7_viewOf_129 : decode cX7_viewOf 129 = .ok (.iinc 6 1, 3) := by decide +kernel
theorem dX7_viewOf_132 : decode cX7_viewOf 132 = .ok (.iload 5, 2) := by decide +kernel
theorem dX7_viewOf_134 : decode cX7_viewOf 134 = .ok (.iconst 1, 1) := by decide +kernel
theorem dX7_viewOf_135 : decode cX7_viewOf 135 = .ok (.ishr, 1) := by decide +kernel
theorem dX7_viewOf_136 : decode cX7_viewOf 136 = .ok (.istore 5, 2) := by decide +kernel
theorem dX7_viewOf_138 : decode cX7_viewOf 138 = .ok (.goto (-55), 3) := by decide +kernel
theorem dX7_viewOf_141 : decode cX7_viewOf 141 = .ok (.iload_n 3, 1) := by decide +kernel
theorem dX7_viewOf_142 : decode cX7_viewOf 142 = .ok (.ireturn, 1) := by decide +kernel
theorem dX5_guessAt_0 : decode cX5_guessAt 0 = .ok (.aload_n 0, 1) := by decide +kernel
theorem dX5_guessAt_1 : decode cX5_guessAt 1 = .ok (.getfield 33, 3) := by decide +kernel
theorem dX5_guessAt_4 : decode cX5_guessAt 4 = .ok (.iload_n 1, 1) := by decide +kernel
theorem dX5_guessAt_5 : decode cX5_guessAt 5 = .ok (.sipush 1024, 3) := by decide +kernel
theorem dX5_guessAt_8 : decode cX5_guessAt 8 = .ok (.imul, 1) := by decide +kernel
theorem dX5_guessAt_9 : decode cX5_guessAt 9 = .ok (.iload_n 2, 1) := by decide +kernel
theorem dX5_guessAt_10 : decode cX5_guessAt 10 = .ok (.iadd, 1) := by decide +kernel
theorem dX5_guessAt_11 : decode cX5_guessAt 11 = .ok (.baload, 1) := by decide +kernel
theorem dX5_guessAt_12 : decode cX5_guessAt 12 = .ok (.ireturn, 1) := by decide +kernel
theorem dX7_guessOf_0 : decode cX7_guessOf 0 = .ok (.aload_n 1, 1) := by decide +kernel
theorem dX7_guessOf_1 : decode cX7_guessOf 1 = .ok (.getfield 51, 3) := by decide +kernel
theorem dX7_guessOf_4 : decode cX7_guessOf 4 = .ok (.iload_n 2, 1) := by decide +kernel
theorem dX7_guessOf_5 : decode cX7_guessOf 5 = .ok (.aaload, 1) := by decide +kernel
theorem dX7_guessOf_6 : decode cX7_guessOf 6 = .ok (.astore_n 3, 1) := by decide +kernel
theorem dX7_guessOf_7 : decode cX7_guessOf 7 = .ok (.aload_n 3, 1) := by decide +kernel
theorem dX7_guessOf_8 : decode cX7_guessOf 8 = .ok (.ifnull 11, 3) := by decide +kernel
theorem dX7_guessOf_11 : decode cX7_guessOf 11 = .ok (.aload_n 3, 1) := by decide +kernel
theorem dX7_guessOf_12 : decode cX7_guessOf 12 = .ok (.aload_n 1, 1) := by decide +kernel
theorem dX7_guessOf_13 : decode cX7_guessOf 13 = .ok (.iload_n 2, 1) := by decide +kernel
theorem dX7_guessOf_14 : decode cX7_guessOf 14 = .ok (.aload_n 0, 1) := by decide +kernel
theorem dX7_guessOf_15 : decode cX7_guessOf 15 = .ok (.invokevirtual 55, 3) := by decide +kernel
theorem dX7_guessOf_18 : decode cX7_guessOf 18 = .ok (.ireturn, 1) := by decide +kernel
theorem dX7_guessOf_19 : decode cX7_guessOf 19 = .ok (.aload_n 1, 1) := by decide +kernel
theorem dX7_guessOf_20 : decode cX7_guessOf 20 = .ok (.getfield 61, 3) := by decide +kernel
theorem dX7_guessOf_23 : decode cX7_guessOf 23 = .ok (.iload_n 2, 1) := by decide +kernel
theorem dX7_guessOf_24 : decode cX7_guessOf 24 = .ok (.iaload, 1) := by decide +kernel
theorem dX7_guessOf_25 : decode cX7_guessOf 25 = .ok (.iconst (-1), 1) := by decide +kernel
theorem dX7_guessOf_26 : decode cX7_guessOf 26 = .ok (.if_icmp .ne 7, 3) := by decide +kernel
theorem dX7_guessOf_29 : decode cX7_guessOf 29 = .ok (.iconst 0, 1) := by decide +kernel
theorem dX7_guessOf_30 : decode cX7_guessOf 30 = .ok (.goto 14, 3) := by decide +kernel
theorem dX7_guessOf_33 : decode cX7_guessOf 33 = .ok (.aload_n 1, 1) := by decide +kernel
theorem dX7_guessOf_34 : decode cX7_guessOf 34 = .ok (.iload_n 2, 1) := by decide +kernel
theorem dX7_guessOf_35 : decode cX7_guessOf 35 = .ok (.aload_n 0, 1) := by decide +kernel
theorem dX7_guessOf_36 : decode cX7_guessOf 36 = .ok (.aload_n 1, 1) := by decide +kernel
theorem dX7_guessOf_37 : decode cX7_guessOf 37 = .ok (.iload_n 2, 1) := by decide +kernel
theorem dX7_guessOf_38 : decode cX7_guessOf 38 = .ok (.invokevirtual 64, 3) := by decide +kernel
theorem dX7_guessOf_41 : decode cX7_guessOf 41 = .ok (.invokevirtual 67, 3) := by decide +kernel
theorem dX7_guessOf_44 : decode cX7_guessOf 44 = .ok (.ireturn, 1) := by decide +kernel
theorem dX7_guessAll_0 : decode cX7_guessAll 0 = .ok (.iconst 0, 1) := by decide +kernel
theorem dX7_guessAll_1 : decode cX7_guessAll 1 = .ok (.istore_n 2, 1) := by decide +kernel
theorem dX7_guessAll_2 : decode cX7_guessAll 2 = .ok (.iload_n 2, 1) := by decide +kernel
theorem dX7_guessAll_3 : decode cX7_guessAll 3 = .ok (.aload_n 1, 1) := by decide +kernel
theorem dX7_guessAll_4 : decode cX7_guessAll 4 = .ok (.getfield 24, 3) := by decide +kernel
theorem dX7_guessAll_7 : decode cX7_guessAll 7 = .ok (.if_icmp .ge 28, 3) := by decide +kernel
theorem dX7_guessAll_10 : decode cX7_guessAll 10 = .ok (.aload_n 1, 1) := by decide +kernel
theorem dX7_guessAll_11 : decode cX7_guessAll 11 = .ok (.getfield 33, 3) := by decide +kernel
theorem dX7_guessAll_14 : decode cX7_guessAll 14 = .ok (.iload_n 2, 1) := by decide +kernel
theorem dX7_guessAll_15 : decode cX7_guessAll 15 = .ok (.iaload, 1) := by decide +kernel
theorem dX7_guessAll_16 : decode cX7_guessAll 16 = .ok (.istore_n 3, 1) := by decide +kernel
theorem dX7_guessAll_17 : decode cX7_guessAll 17 = .ok (.aload_n 0, 1) := by decide +kernel
theorem dX7_guessAll_18 : decode cX7_guessAll 18 = .ok (.getfield 15, 3) := by decide +kernel
theorem dX7_guessAll_21 : decode cX7_guessAll 21 = .ok (.iload_n 3, 1) := by decide +kernel
theorem dX7_guessAll_22 : decode cX7_guessAll 22 = .ok (.aload_n 0, 1) := by decide +kernel
theorem dX7_guessAll_23 : decode cX7_guessAll 23 = .ok (.aload_n 1, 1) := by decide +kernel
theorem dX7_guessAll_24 : decode cX7_guessAll 24 = .ok (.iload_n 3, 1) := by decide +kernel
theorem dX7_guessAll_25 : decode cX7_guessAll 25 = .ok (.invokevirtual 36, 3) := by decide +kernel
theorem dX7_guessAll_28 : decode cX7_guessAll 28 = .ok (.iastore, 1) := by decide +kernel
theorem dX7_guessAll_29 : decode cX7_guessAll 29 = .ok (.iinc 2 1, 3) := by decide +kernel
theorem dX7_guessAll_32 : decode cX7_guessAll 32 = .ok (.goto (-30), 3) := by decide +kernel
theorem dX7_guessAll_35 : decode cX7_guessAll 35 = .ok (.return_, 1) := by decide +kernel
theorem dX7_rightOnes_0 : decode cX7_rightOnes 0 = .ok (.iconst 0, 1) := by decide +kernel
theorem dX7_rightOnes_1 : decode cX7_rightOnes 1 = .ok (.istore_n 2, 1) := by decide +kernel
theorem dX7_rightOnes_2 : decode cX7_rightOnes 2 = .ok (.iconst 0, 1) := by decide +kernel
theorem dX7_rightOnes_3 : decode cX7_rightOnes 3 = .ok (.istore_n 3, 1) := by decide +kernel
theorem dX7_rightOnes_4 : decode cX7_rightOnes 4 = .ok (.iload_n 3, 1) := by decide +kernel
theorem dX7_rightOnes_5 : decode cX7_rightOnes 5 = .ok (.aload_n 1, 1) := by decide +kernel
theorem dX7_rightOnes_6 : decode cX7_rightOnes 6 = .ok (.getfield 24, 3) := by decide +kernel
theorem dX7_rightOnes_9 : decode cX7_rightOnes 9 = .ok (.if_icmp .ge 30, 3) := by decide +kernel
theorem dX7_rightOnes_12 : decode cX7_rightOnes 12 = .ok (.aload_n 0, 1) := by decide +kernel
theorem dX7_rightOnes_13 : decode cX7_rightOnes 13 = .ok (.getfield 15, 3) := by decide +kernel
theorem dX7_rightOnes_16 : decode cX7_rightOnes 16 = .ok (.iload_n 3, 1) := by decide +kernel
theorem dX7_rightOnes_17 : decode cX7_rightOnes 17 = .ok (.iaload, 1) := by decide +kernel
theorem dX7_rightOnes_18 : decode cX7_rightOnes 18 = .ok (.aload_n 0, 1) := by decide +kernel
theorem dX7_rightOnes_19 : decode cX7_rightOnes 19 = .ok (.getfield 9, 3) := by decide +kernel
theorem dX7_rightOnes_22 : decode cX7_rightOnes 22 = .ok (.iload_n 3, 1) := by decide +kernel
theorem dX7_rightOnes_23 : decode cX7_rightOnes 23 = .ok (.iaload, 1) := by decide +kernel
theorem dX7_rightOnes_24 : decode cX7_rightOnes 24 = .ok (.if_icmp .ne 9, 3) := by decide +kernel
theorem dX7_rightOnes_27 : decode cX7_rightOnes 27 = .ok (.iload_n 2, 1) := by decide +kernel
theorem dX7_rightOnes_28 : decode cX7_rightOnes 28 = .ok (.iconst 1, 1) := by decide +kernel
theorem dX7_rightOnes_29 : decode cX7_rightOnes 29 = .ok (.iload_n 3, 1) := by decide +kernel
theorem dX7_rightOnes_30 : decode cX7_rightOnes 30 = .ok (.ishl, 1) := by decide +kernel
theorem dX7_rightOnes_31 : decode cX7_rightOnes 31 = .ok (.ior, 1) := by decide +kernel
theorem dX7_rightOnes_32 : decode cX7_rightOnes 32 = .ok (.istore_n 2, 1) := by decide +kernel
theorem dX7_rightOnes_33 : decode cX7_rightOnes 33 = .ok (.iinc 3 1, 3) := by decide +kernel
theorem dX7_rightOnes_36 : decode cX7_rightOnes 36 = .ok (.goto (-32), 3) := by decide +kernel
theorem dX7_rightOnes_39 : decode cX7_rightOnes 39 = .ok (.iload_n 2, 1) := by decide +kernel
theorem dX7_rightOnes_40 : decode cX7_rightOnes 40 = .ok (.ireturn, 1) := by decide +kernel
theorem dX7_wrongOnes_0 : decode cX7_wrongOnes 0 = .ok (.iconst 0, 1) := by decide +kernel
theorem dX7_wrongOnes_1 : decode cX7_wrongOnes 1 = .ok (.istore_n 2, 1) := by decide +kernel
theorem dX7_wrongOnes_2 : decode cX7_wrongOnes 2 = .ok (.iconst 0, 1) := by decide +kernel
theorem dX7_wrongOnes_3 : decode cX7_wrongOnes 3 = .ok (.istore_n 3, 1) := by decide +kernel
theorem dX7_wrongOnes_4 : decode cX7_wrongOnes 4 = .ok (.iload_n 3, 1) := by decide +kernel
theorem dX7_wrongOnes_5 : decode cX7_wrongOnes 5 = .ok (.aload_n 1, 1) := by decide +kernel
theorem dX7_wrongOnes_6 : decode cX7_wrongOnes 6 = .ok (.getfield 24, 3) := by decide +kernel
theorem dX7_wrongOnes_9 : decode cX7_wrongOnes 9 = .ok (.if_icmp .ge 43, 3) := by decide +kernel
theorem dX7_wrongOnes_12 : decode cX7_wrongOnes 12 = .ok (.aload_n 0, 1) := by decide +kernel
theorem dX7_wrongOnes_13 : decode cX7_wrongOnes 13 = .ok (.getfield 15, 3) := by decide +kernel
theorem dX7_wrongOnes_16 : decode cX7_wrongOnes 16 = .ok (.iload_n 3, 1) := by decide +kernel
theorem dX7_wrongOnes_17 : decode cX7_wrongOnes 17 = .ok (.iaload, 1) := by decide +kernel
theorem dX7_wrongOnes_18 : decode cX7_wrongOnes 18 = .ok (.aload_n 0, 1) := by decide +kernel
theorem dX7_wrongOnes_19 : decode cX7_wrongOnes 19 = .ok (.getfield 9, 3) := by decide +kernel
theorem dX7_wrongOnes_22 : decode cX7_wrongOnes 22 = .ok (.iload_n 3, 1) := by decide +kernel
theorem dX7_wrongOnes_23 : decode cX7_wrongOnes 23 = .ok (.iaload, 1) := by decide +kernel
theorem dX7_wrongOnes_24 : decode cX7_wrongOnes 24 = .ok (.if_icmp .eq 22, 3) := by decide +kernel
theorem dX7_wrongOnes_27 : decode cX7_wrongOnes 27 = .ok (.aload_n 0, 1) := by decide +kernel
theorem dX7_wrongOnes_28 : decode cX7_wrongOnes 28 = .ok (.getfield 15, 3) := by decide +kernel
theorem dX7_wrongOnes_31 : decode cX7_wrongOnes 31 = .ok (.iload_n 3, 1) := by decide +kernel
theorem dX7_wrongOnes_32 : decode cX7_wrongOnes 32 = .ok (.iaload, 1) := by decide +kernel
theorem dX7_wrongOnes_33 : decode cX7_wrongOnes 33 = .ok (.aload_n 1, 1) := by decide +kernel
theorem dX7_wrongOnes_34 : decode cX7_wrongOnes 34 = .ok (.getfield 30, 3) := by decide +kernel
theorem dX7_wrongOnes_37 : decode cX7_wrongOnes 37 = .ok (.if_icmp .eq 9, 3) := by decide +kernel
theorem dX7_wrongOnes_40 : decode cX7_wrongOnes 40 = .ok (.iload_n 2, 1) := by decide +kernel
theorem dX7_wrongOnes_41 : decode cX7_wrongOnes 41 = .ok (.iconst 1, 1) := by decide +kernel
theorem dX7_wrongOnes_42 : decode cX7_wrongOnes 42 = .ok (.iload_n 3, 1) := by decide +kernel
theorem dX7_wrongOnes_43 : decode cX7_wrongOnes 43 = .ok (.ishl, 1) := by decide +kernel
theorem dX7_wrongOnes_44 : decode cX7_wrongOnes 44 = .ok (.ior, 1) := by decide +kernel
theorem dX7_wrongOnes_45 : decode cX7_wrongOnes 45 = .ok (.istore_n 2, 1) := by decide +kernel
theorem dX7_wrongOnes_46 : decode cX7_wrongOnes 46 = .ok (.iinc 3 1, 3) := by decide +kernel
theorem dX7_wrongOnes_49 : decode cX7_wrongOnes 49 = .ok (.goto (-45), 3) := by decide +kernel
theorem dX7_wrongOnes_52 : decode cX7_wrongOnes 52 = .ok (.iload_n 2, 1) := by decide +kernel
theorem dX7_wrongOnes_53 : decode cX7_wrongOnes 53 = .ok (.ireturn, 1) := by decide +kernel
theorem dX3_fill_0 : decode cX3_fill 0 = .ok (.iconst 0, 1) := by decide +kernel
theorem dX3_fill_1 : decode cX3_fill 1 = .ok (.istore 4, 2) := by decide +kernel
theorem dX3_fill_3 : decode cX3_fill 3 = .ok (.iload 4, 2) := by decide +kernel
theorem dX3_fill_5 : decode cX3_fill 5 = .ok (.aload_n 1, 1) := by decide +kernel
theorem dX3_fill_6 : decode cX3_fill 6 = .ok (.getfield 19, 3) := by decide +kernel
theorem dX3_fill_9 : decode cX3_fill 9 = .ok (.if_icmp .ge 74, 3) := by decide +kernel
theorem dX3_fill_12 : decode cX3_fill 12 = .ok (.aload_n 0, 1) := by decide +kernel
theorem dX3_fill_13 : decode cX3_fill 13 = .ok (.getfield 15, 3) := by decide +kernel
theorem dX3_fill_16 : decode cX3_fill 16 = .ok (.ifCond .ne 67, 3) := by decide +kernel
theorem dX3_fill_19 : decode cX3_fill 19 = .ok (.aload_n 3, 1) := by decide +kernel
theorem dX3_fill_20 : decode cX3_fill 20 = .ok (.aload_n 1, 1) := by decide +kernel
theorem dX3_fill_21 : decode cX3_fill 21 = .ok (.iload 4, 2) := by decide +kernel
theorem dX3_fill_23 : decode cX3_fill 23 = .ok (.invokevirtual 25, 3) := by decide +kernel
theorem dX3_fill_26 : decode cX3_fill 26 = .ok (.aload_n 3, 1) := by decide +kernel
theorem dX3_fill_27 : decode cX3_fill 27 = .ok (.aload_n 1, 1) := by decide +kernel
theorem dX3_fill_28 : decode cX3_fill 28 = .ok (.invokevirtual 31, 3) := by decide +kernel
theorem dX3_fill_31 : decode cX3_fill 31 = .ok (.aload_n 2, 1) := by decide +kernel
theorem dX3_fill_32 : decode cX3_fill 32 = .ok (.aload_n 3, 1) := by decide +kernel
theorem dX3_fill_33 : decode cX3_fill 33 = .ok (.aload_n 1, 1) := by decide +kernel
theorem dX3_fill_34 : decode cX3_fill 34 = .ok (.getfield 35, 3) := by decide +kernel
theorem dX3_fill_37 : decode cX3_fill 37 = .ok (.invokevirtual 38, 3) := by decide +kernel
theorem dX3_fill_40 : decode cX3_fill 40 = .ok (.lconst 0, 1) := by decide +kernel
theorem dX3_fill_41 : decode cX3_fill 41 = .ok (.lcmp, 1) := by decide +kernel
theorem dX3_fill_42 : decode cX3_fill 42 = .ok (.ifCond .le 8, 3) := by decide +kernel
theorem dX3_fill_45 : decode cX3_fill 45 = .ok (.ldc 44, 2) := by decide +kernel
theorem dX3_fill_47 : decode cX3_fill 47 = .ok (.goto 4, 3) := by decide +kernel
theorem dX3_fill_50 : decode cX3_fill 50 = .ok (.iconst 0, 1) := by decide +kernel
theorem dX3_fill_51 : decode cX3_fill 51 = .ok (.istore 5, 2) := by decide +kernel
theorem dX3_fill_53 : decode cX3_fill 53 = .ok (.aload_n 0, 1) := by decide +kernel
theorem dX3_fill_54 : decode cX3_fill 54 = .ok (.getfield 9, 3) := by decide +kernel
theorem dX3_fill_57 : decode cX3_fill 57 = .ok (.iload 4, 2) := by decide +kernel
theorem dX3_fill_59 : decode cX3_fill 59 = .ok (.aload_n 3, 1) := by decide +kernel
theorem dX3_fill_60 : decode cX3_fill 60 = .ok (.aload_n 1, 1) := by decide +kernel
theorem dX3_fill_61 : decode cX3_fill 61 = .ok (.invokevirtual 45, 3) := by decide +kernel
theorem dX3_fill_64 : decode cX3_fill 64 = .ok (.aload_n 3, 1) := by decide +kernel
theorem dX3_fill_65 : decode cX3_fill 65 = .ok (.aload_n 1, 1) := by decide +kernel
theorem dX3_fill_66 : decode cX3_fill 66 = .ok (.invokevirtual 49, 3) := by decide +kernel
theorem dX3_fill_69 : decode cX3_fill 69 = .ok (.bipush 8, 2) := by decide +kernel
theorem dX3_fill_71 : decode cX3_fill 71 = .ok (.ishl, 1) := by decide +kernel
theorem dX3_fill_72 : decode cX3_fill 72 = .ok (.ior, 1) := by decide +kernel
theorem dX3_fill_73 : decode cX3_fill 73 = .ok (.iload 5, 2) := by decide +kernel
theorem dX3_fill_75 : decode cX3_fill 75 = .ok (.ior, 1) := by decide +kernel
theorem dX3_fill_76 : decode cX3_fill 76 = .ok (.iastore, 1) := by decide +kernel
theorem dX3_fill_77 : decode cX3_fill 77 = .ok (.iinc 4 1, 3) := by decide +kernel
theorem dX3_fill_80 : decode cX3_fill 80 = .ok (.goto (-77), 3) := by decide +kernel
theorem dX3_fill_83 : decode cX3_fill 83 = .ok (.aload_n 0, 1) := by decide +kernel
theorem dX3_fill_84 : decode cX3_fill 84 = .ok (.iconst 1, 1) := by decide +kernel
theorem dX3_fill_85 : decode cX3_fill 85 = .ok (.putfield 15, 3) := by decide +kernel
theorem dX3_fill_88 : decode cX3_fill 88 = .ok (.return_, 1) := by decide +kernel
theorem dX3_counts_0 : decode cX3_counts 0 = .ok (.aload_n 0, 1) := by decide +kernel
theorem dX3_counts_1 : decode cX3_counts 1 = .ok (.getfield 9, 3) := by decide +kernel
theorem dX3_counts_4 : decode cX3_counts 4 = .ok (.iload_n 1, 1) := by decide +kernel
theorem dX3_counts_5 : decode cX3_counts 5 = .ok (.iaload, 1) := by decide +kernel
theorem dX3_counts_6 : decode cX3_counts 6 = .ok (.ldc 44, 2) := by decide +kernel
theorem dX3_counts_8 : decode cX3_counts 8 = .ok (.iand, 1) := by decide +kernel
theorem dX3_counts_9 : decode cX3_counts 9 = .ok (.ifCond .eq 7, 3) := by decide +kernel
theorem dX3_counts_12 : decode cX3_counts 12 = .ok (.iconst 1, 1) := by decide +kernel
theorem dX3_counts_13 : decode cX3_counts 13 = .ok (.goto 4, 3) := by decide +kernel
theorem dX3_counts_16 : decode cX3_counts 16 = .ok (.iconst 0, 1) := by decide +kernel
theorem dX3_counts_17 : decode cX3_counts 17 = .ok (.ireturn, 1) := by decide +kernel
theorem dX3_isWon_0 : decode cX3_isWon 0 = .ok (.aload_n 2, 1) := by decide +kernel
theorem dX3_isWon_1 : decode cX3_isWon 1 = .ok (.aload_n 0, 1) := by decide +kernel
theorem dX3_isWon_2 : decode cX3_isWon 2 = .ok (.getfield 9, 3) := by decide +kernel
theorem dX3_isWon_5 : decode cX3_isWon 5 = .ok (.iload_n 1, 1) := by decide +kernel
theorem dX3_isWon_6 : decode cX3_isWon 6 = .ok (.iaload, 1) := by decide +kernel
theorem dX3_isWon_7 : decode cX3_isWon 7 = .ok (.sipush 255, 3) := by decide +kernel
theorem dX3_isWon_10 : decode cX3_isWon 10 = .ok (.iand, 1) := by decide +kernel
theorem dX3_isWon_11 : decode cX3_isWon 11 = .ok (.aload_n 0, 1) := by decide +kernel
theorem dX3_isWon_12 : decode cX3_isWon 12 = .ok (.getfield 9, 3) := by decide +kernel
theorem dX3_isWon_15 : decode cX3_isWon 15 = .ok (.iload_n 1, 1) := by decide +kernel
theorem dX3_isWon_16 : decode cX3_isWon 16 = .ok (.iaload, 1) := by decide +kernel
theorem dX3_isWon_17 : decode cX3_isWon 17 = .ok (.bipush 8, 2) := by decide +kernel
theorem dX3_isWon_19 : decode cX3_isWon 19 = .ok (.ishr, 1) := by decide +kernel
theorem dX3_isWon_20 : decode cX3_isWon 20 = .ok (.sipush 255, 3) := by decide +kernel
theorem dX3_isWon_23 : decode cX3_isWon 23 = .ok (.iand, 1) := by decide +kernel
theorem dX3_isWon_24 : decode cX3_isWon 24 = .ok (.iload_n 3, 1) := by decide +kernel
theorem dX3_isWon_25 : decode cX3_isWon 25 = .ok (.invokevirtual 52, 3) := by decide +kernel
theorem dX3_isWon_28 : decode cX3_isWon 28 = .ok (.ireturn, 1) := by decide +kernel
theorem dX3_wrongIn_0 : decode cX3_wrongIn 0 = .ok (.aload_n 0, 1) := by decide +kernel
theorem dX3_wrongIn_1 : decode cX3_wrongIn 1 = .ok (.getfield 9, 3) := by decide +kernel
theorem dX3_wrongIn_4 : decode cX3_wrongIn 4 = .ok (.iload_n 1, 1) := by decide +kernel
theorem dX3_wrongIn_5 : decode cX3_wrongIn 5 = .ok (.iaload, 1) := by decide +kernel
theorem dX3_wrongIn_6 : decode cX3_wrongIn 6 = .ok (.bipush 8, 2) := by decide +kernel
theorem dX3_wrongIn_8 : decode cX3_wrongIn 8 = .ok (.ishr, 1) := by decide +kernel
theorem dX3_wrongIn_9 : decode cX3_wrongIn 9 = .ok (.sipush 255, 3) := by decide +kernel
theorem dX3_wrongIn_12 : decode cX3_wrongIn 12 = .ok (.iand, 1) := by decide +kernel
theorem dX3_wrongIn_13 : decode cX3_wrongIn 13 = .ok (.invokestatic 56, 3) := by decide +kernel
theorem dX3_wrongIn_16 : decode cX3_wrongIn 16 = .ok (.ireturn, 1) := by decide +kernel
theorem dX3_countRows_0 : decode cX3_countRows 0 = .ok (.iconst 0, 1) := by decide +kernel
theorem dX3_countRows_1 : decode cX3_countRows 1 = .ok (.istore 4, 2) := by decide +kernel
theorem dX3_countRows_3 : decode cX3_countRows 3 = .ok (.iconst 0, 1) := by decide +kernel
theorem dX3_countRows_4 : decode cX3_countRows 4 = .ok (.istore 5, 2) := by decide +kernel
theorem dX3_countRows_6 : decode cX3_countRows 6 = .ok (.iload 5, 2) := by decide +kernel
theorem dX3_countRows_8 : decode cX3_countRows 8 = .ok (.aload_n 1, 1) := by decide +kernel
theorem dX3_countRows_9 : decode cX3_countRows 9 = .ok (.getfield 19, 3) := by decide +kernel
theorem dX3_countRows_12 : decode cX3_countRows 12 = .ok (.if_icmp .ge 39, 3) := by decide +kernel
theorem dX3_countRows_15 : decode cX3_countRows 15 = .ok (.aload_n 0, 1) := by decide +kernel
theorem dX3_countRows_16 : decode cX3_countRows 16 = .ok (.iload 5, 2) := by decide +kernel
theorem dX3_countRows_18 : decode cX3_countRows 18 = .ok (.invokevirtual 62, 3) := by decide +kernel
theorem dX3_countRows_21 : decode cX3_countRows 21 = .ok (.ifCond .eq 24, 3) := by decide +kernel
theorem dX3_countRows_24 : decode cX3_countRows 24 = .ok (.iload_n 3, 1) := by decide +kernel
theorem dX3_countRows_25 : decode cX3_countRows 25 = .ok (.ifCond .eq 17, 3) := by decide +kernel
theorem dX3_countRows_28 : decode cX3_countRows 28 = .ok (.aload_n 0, 1) := by decide +kernel
theorem dX3_countRows_29 : decode cX3_countRows 29 = .ok (.iload 5, 2) := by decide +kernel
theorem dX3_countRows_31 : decode cX3_countRows 31 = .ok (.aload_n 2, 1) := by decide +kernel
theorem dX3_countRows_32 : decode cX3_countRows 32 = .ok (.aload_n 1, 1) := by decide +kernel
theorem dX3_countRows_33 : decode cX3_countRows 33 = .ok (.getfield 35, 3) := by decide +kernel
theorem dX3_countRows_36 : decode cX3_countRows 36 = .ok (.invokevirtual 66, 3) := by decide +kernel
theorem dX3_countRows_39 : decode cX3_countRows 39 = .ok (.ifCond .eq 6, 3) := by decide +kernel
theorem dX3_countRows_42 : decode cX3_countRows 42 = .ok (.iinc 4 1, 3) := by decide +kernel
theorem dX3_countRows_45 : decode cX3_countRows 45 = .ok (.iinc 5 1, 3) := by decide +kernel
theorem dX3_countRows_48 : decode cX3_countRows 48 = .ok (.goto (-42), 3) := by decide +kernel
theorem dX3_countRows_51 : decode cX3_countRows 51 = .ok (.iload 4, 2) := by decide +kernel
theorem dX3_countRows_53 : decode cX3_countRows 53 = .ok (.ireturn, 1) := by decide +kernel
theorem dX3_sumWeights_0 : decode cX3_sumWeights 0 = .ok (.lconst 0, 1) := by decide +kernel
theorem dX3_sumWeights_1 : decode cX3_sumWeights 1 = .ok (.lstore 5, 2) := by decide +kernel
theorem dX3_sumWeights_3 : decode cX3_sumWeights 3 = .ok (.iconst 0, 1) := by decide +kernel
theorem dX3_sumWeights_4 : decode cX3_sumWeights 4 = .ok (.istore 7, 2) := by decide +kernel
theorem dX3_sumWeights_6 : decode cX3_sumWeights 6 = .ok (.iload 7, 2) := by decide +kernel
theorem dX3_sumWeights_8 : decode cX3_sumWeights 8 = .ok (.aload_n 1, 1) := by decide +kernel
theorem dX3_sumWeights_9 : decode cX3_sumWeights 9 = .ok (.getfield 19, 3) := by decide +kernel
theorem dX3_sumWeights_12 : decode cX3_sumWeights 12 = .ok (.if_icmp .ge 58, 3) := by decide +kernel
theorem dX3_sumWeights_15 : decode cX3_sumWeights 15 = .ok (.aload_n 0, 1) := by decide +kernel
theorem dX3_sumWeights_16 : decode cX3_sumWeights 16 = .ok (.iload 7, 2) := by decide +kernel
theorem dX3_sumWeights_18 : decode cX3_sumWeights 18 = .ok (.invokevirtual 62, 3) := by decide +kernel
theorem dX3_sumWeights_21 : decode cX3_sumWeights 21 = .ok (.ifCond .eq 43, 3) := by decide +kernel
theorem dX3_sumWeights_24 : decode cX3_sumWeights 24 = .ok (.iload 4, 2) := by decide +kernel
theorem dX3_sumWeights_26 : decode cX3_sumWeights 26 = .ok (.ifCond .eq 17, 3) := by decide +kernel
theorem dX3_sumWeights_29 : decode cX3_sumWeights 29 = .ok (.aload_n 0, 1) := by decide +kernel
theorem dX3_sumWeights_30 : decode cX3_sumWeights 30 = .ok (.iload 7, 2) := by decide +kernel
theorem dX3_sumWeights_32 : decode cX3_sumWeights 32 = .ok (.aload_n 2, 1) := by decide +kernel
theorem dX3_sumWeights_33 : decode cX3_sumWeights 33 = .ok (.aload_n 1, 1) := by decide +kernel
theorem dX3_sumWeights_34 : decode cX3_sumWeights 34 = .ok (.getfield 35, 3) := by decide +kernel
theorem dX3_sumWeights_37 : decode cX3_sumWeights 37 = .ok (.invokevirtual 66, 3) := by decide +kernel
theorem dX3_sumWeights_40 : decode cX3_sumWeights 40 = .ok (.ifCond .eq 24, 3) := by decide +kernel
theorem dX3_sumWeights_43 : decode cX3_sumWeights 43 = .ok (.aload_n 3, 1) := by decide +kernel
theorem dX3_sumWeights_44 : decode cX3_sumWeights 44 = .ok (.aload_n 1, 1) := by decide +kernel
theorem dX3_sumWeights_45 : decode cX3_sumWeights 45 = .ok (.iload 7, 2) := by decide +kernel
theorem dX3_sumWeights_47 : decode cX3_sumWeights 47 = .ok (.invokevirtual 25, 3) := by decide +kernel
theorem dX3_sumWeights_50 : decode cX3_sumWeights 50 = .ok (.lload 5, 2) := by decide +kernel
theorem dX3_sumWeights_52 : decode cX3_sumWeights 52 = .ok (.aload_n 2, 1) := by decide +kernel
theorem dX3_sumWeights_53 : decode cX3_sumWeights 53 = .ok (.aload_n 3, 1) := by decide +kernel
theorem dX3_sumWeights_54 : decode cX3_sumWeights 54 = .ok (.aload_n 1, 1) := by decide +kernel
theorem dX3_sumWeights_55 : decode cX3_sumWeights 55 = .ok (.getfield 35, 3) := by decide +kernel
theorem dX3_sumWeights_58 : decode cX3_sumWeights 58 = .ok (.invokevirtual 38, 3) := by decide +kernel
theorem dX3_sumWeights_61 : decode cX3_sumWeights 61 = .ok (.ladd, 1) := by decide +kernel
theorem dX3_sumWeights_62 : decode cX3_sumWeights 62 = .ok (.lstore 5, 2) := by decide +kernel
theorem dX3_sumWeights_64 : decode cX3_sumWeights 64 = .ok (.iinc 7 1, 3) := by decide +kernel
theorem dX3_sumWeights_67 : decode cX3_sumWeights 67 = .ok (.goto (-61), 3) := by decide +kernel
theorem dX3_sumWeights_70 : decode cX3_sumWeights 70 = .ok (.lload 5, 2) := by decide +kernel
theorem dX3_sumWeights_72 : decode cX3_sumWeights 72 = .ok (.lreturn, 1) := by decide +kernel
theorem dX3_rowBeaten_0 : decode cX3_rowBeaten 0 = .ok (.iconst 0, 1) := by decide +kernel
theorem dX3_rowBeaten_1 : decode cX3_rowBeaten 1 = .ok (.istore 4, 2) := by decide +kernel
theorem dX3_rowBeaten_3 : decode cX3_rowBeaten 3 = .ok (.iconst 0, 1) := by decide +kernel
theorem dX3_rowBeaten_4 : decode cX3_rowBeaten 4 = .ok (.istore 5, 2) := by decide +kernel
theorem dX3_rowBeaten_6 : decode cX3_rowBeaten 6 = .ok (.iload 5, 2) := by decide +kernel
theorem dX3_rowBeaten_8 : decode cX3_rowBeaten 8 = .ok (.aload_n 1, 1) := by decide +kernel
theorem dX3_rowBeaten_9 : decode cX3_rowBeaten 9 = .ok (.getfield 19, 3) := by decide +kernel
theorem dX3_rowBeaten_12 : decode cX3_rowBeaten 12 = .ok (.if_icmp .ge 44, 3) := by decide +kernel
theorem dX3_rowBeaten_15 : decode cX3_rowBeaten 15 = .ok (.aload_n 0, 1) := by decide +kernel
theorem dX3_rowBeaten_16 : decode cX3_rowBeaten 16 = .ok (.iload 5, 2) := by decide +kernel
theorem dX3_rowBeaten_18 : decode cX3_rowBeaten 18 = .ok (.invokevirtual 62, 3) := by decide +kernel
theorem dX3_rowBeaten_21 : decode cX3_rowBeaten 21 = .ok (.ifCond .eq 29, 3) := by decide +kernel
theorem dX3_rowBeaten_24 : decode cX3_rowBeaten 24 = .ok (.aload_n 0, 1) := by decide +kernel
theorem dX3_rowBeaten_25 : decode cX3_rowBeaten 25 = .ok (.iload 5, 2) := by decide +kernel
theorem dX3_rowBeaten_27 : decode cX3_rowBeaten 27 = .ok (.aload_n 2, 1) := by decide +kernel
theorem dX3_rowBeaten_28 : decode cX3_rowBeaten 28 = .ok (.aload_n 1, 1) := by decide +kernel
theorem dX3_rowBeaten_29 : decode cX3_rowBeaten 29 = .ok (.getfield 35, 3) := by decide +kernel
theorem dX3_rowBeaten_32 : decode cX3_rowBeaten 32 = .ok (.invokevirtual 66, 3) := by decide +kernel
theorem dX3_rowBeaten_35 : decode cX3_rowBeaten 35 = .ok (.ifCond .ne 15, 3) := by decide +kernel
theorem dX3_rowBeaten_38 : decode cX3_rowBeaten 38 = .ok (.iload 4, 2) := by decide +kernel
theorem dX3_rowBeaten_40 : decode cX3_rowBeaten 40 = .ok (.iload_n 3, 1) := by decide +kernel
theorem dX3_rowBeaten_41 : decode cX3_rowBeaten 41 = .ok (.if_icmp .ne 6, 3) := by decide +kernel
theorem dX3_rowBeaten_44 : decode cX3_rowBeaten 44 = .ok (.iload 5, 2) := by decide +kernel
theorem dX3_rowBeaten_46 : decode cX3_rowBeaten 46 = .ok (.ireturn, 1) := by decide +kernel
theorem dX3_rowBeaten_47 : decode cX3_rowBeaten 47 = .ok (.iinc 4 1, 3) := by decide +kernel
theorem dX3_rowBeaten_50 : decode cX3_rowBeaten 50 = .ok (.iinc 5 1, 3) := by decide +kernel
theorem dX3_rowBeaten_53 : decode cX3_rowBeaten 53 = .ok (.goto (-47), 3) := by decide +kernel
theorem dX3_rowBeaten_56 : decode cX3_rowBeaten 56 = .ok (.iconst (-1), 1) := by decide +kernel
theorem dX3_rowBeaten_57 : decode cX3_rowBeaten 57 = .ok (.ireturn, 1) := by decide +kernel
theorem dX3_rowsWithRight_0 : decode cX3_rowsWithRight 0 = .ok (.iconst 0, 1) := by decide +kernel
theorem dX3_rowsWithRight_1 : decode cX3_rowsWithRight 1 = .ok (.istore_n 3, 1) := by decide +kernel
theorem dX3_rowsWithRight_2 : decode cX3_rowsWithRight 2 = .ok (.iconst 0, 1) := by decide +kernel
theorem dX3_rowsWithRight_3 : decode cX3_rowsWithRight 3 = .ok (.istore 4, 2) := by decide +kernel
theorem dX3_rowsWithRight_5 : decode cX3_rowsWithRight 5 = .ok (.iload 4, 2) := by decide +kernel
theorem dX3_rowsWithRight_7 : decode cX3_rowsWithRight 7 = .ok (.aload_n 1, 1) := by decide +kernel
theorem dX3_rowsWithRight_8 : decode cX3_rowsWithRight 8 = .ok (.getfield 19, 3) := by decide +kernel
theorem dX3_rowsWithRight_11 : decode cX3_rowsWithRight 11 = .ok (.if_icmp .ge 39, 3) := by decide +kernel
theorem dX3_rowsWithRight_14 : decode cX3_rowsWithRight 14 = .ok (.aload_n 0, 1) := by decide +kernel
theorem dX3_rowsWithRight_15 : decode cX3_rowsWithRight 15 = .ok (.iload 4, 2) := by decide +kernel
theorem dX3_rowsWithRight_17 : decode cX3_rowsWithRight 17 = .ok (.invokevirtual 62, 3) := by decide +kernel
theorem dX3_rowsWithRight_20 : decode cX3_rowsWithRight 20 = .ok (.ifCond .eq 24, 3) := by decide +kernel
theorem dX3_rowsWithRight_23 : decode cX3_rowsWithRight 23 = .ok (.aload_n 0, 1) := by decide +kernel
theorem dX3_rowsWithRight_24 : decode cX3_rowsWithRight 24 = .ok (.getfield 9, 3) := by decide +kernel
theorem dX3_rowsWithRight_27 : decode cX3_rowsWithRight 27 = .ok (.iload 4, 2) := by decide +kernel
theorem dX3_rowsWithRight_29 : decode cX3_rowsWithRight 29 = .ok (.iaload, 1) := by decide +kernel
theorem dX3_rowsWithRight_30 : decode cX3_rowsWithRight 30 = .ok (.sipush 255, 3) := by decide +kernel
theorem dX3_rowsWithRight_33 : decode cX3_rowsWithRight 33 = .ok (.iand, 1) := by decide +kernel
theorem dX3_rowsWithRight_34 : decode cX3_rowsWithRight 34 = .ok (.invokestatic 56, 3) := by decide +kernel
theorem dX3_rowsWithRight_37 : decode cX3_rowsWithRight 37 = .ok (.iload_n 2, 1) := by decide +kernel
theorem dX3_rowsWithRight_38 : decode cX3_rowsWithRight 38 = .ok (.if_icmp .ne 6, 3) := by decide +kernel
theorem dX3_rowsWithRight_41 : decode cX3_rowsWithRight 41 = .ok (.iinc 3 1, 3) := by decide +kernel
theorem dX3_rowsWithRight_44 : decode cX3_rowsWithRight 44 = .ok (.iinc 4 1, 3) := by decide +kernel
theorem dX3_rowsWithRight_47 : decode cX3_rowsWithRight 47 = .ok (.goto (-42), 3) := by decide +kernel
theorem dX3_rowsWithRight_50 : decode cX3_rowsWithRight 50 = .ok (.iload_n 3, 1) := by decide +kernel
theorem dX3_rowsWithRight_51 : decode cX3_rowsWithRight 51 = .ok (.ireturn, 1) := by decide +kernel
theorem dX3_rowsRightFor_0 : decode cX3_rowsRightFor 0 = .ok (.iconst 0, 1) := by decide +kernel
theorem dX3_rowsRightFor_1 : decode cX3_rowsRightFor 1 = .ok (.istore_n 3, 1) := by decide +kernel
theorem dX3_rowsRightFor_2 : decode cX3_rowsRightFor 2 = .ok (.iconst 0, 1) := by decide +kernel
theorem dX3_rowsRightFor_3 : decode cX3_rowsRightFor 3 = .ok (.istore 4, 2) := by decide +kernel
theorem dX3_rowsRightFor_5 : decode cX3_rowsRightFor 5 = .ok (.iload 4, 2) := by decide +kernel
theorem dX3_rowsRightFor_7 : decode cX3_rowsRightFor 7 = .ok (.aload_n 1, 1) := by decide +kernel
theorem dX3_rowsRightFor_8 : decode cX3_rowsRightFor 8 = .ok (.getfield 19, 3) := by decide +kernel
theorem dX3_rowsRightFor_11 : decode cX3_rowsRightFor 11 = .ok (.if_icmp .ge 36, 3) := by decide +kernel
theorem dX3_rowsRightFor_14 : decode cX3_rowsRightFor 14 = .ok (.aload_n 0, 1) := by decide +kernel
theorem dX3_rowsRightFor_15 : decode cX3_rowsRightFor 15 = .ok (.iload 4, 2) := by decide +kernel
theorem dX3_rowsRightFor_17 : decode cX3_rowsRightFor 17 = .ok (.invokevirtual 62, 3) := by decide +kernel
theorem dX3_rowsRightFor_20 : decode cX3_rowsRightFor 20 = .ok (.ifCond .eq 21, 3) := by decide +kernel
theorem dX3_rowsRightFor_23 : decode cX3_rowsRightFor 23 = .ok (.aload_n 0, 1) := by decide +kernel
theorem dX3_rowsRightFor_24 : decode cX3_rowsRightFor 24 = .ok (.getfield 9, 3) := by decide +kernel
theorem dX3_rowsRightFor_27 : decode cX3_rowsRightFor 27 = .ok (.iload 4, 2) := by decide +kernel
theorem dX3_rowsRightFor_29 : decode cX3_rowsRightFor 29 = .ok (.iaload, 1) := by decide +kernel
theorem dX3_rowsRightFor_30 : decode cX3_rowsRightFor 30 = .ok (.iload_n 2, 1) := by decide +kernel
theorem dX3_rowsRightFor_31 : decode cX3_rowsRightFor 31 = .ok (.ishr, 1) := by decide +kernel
theorem dX3_rowsRightFor_32 : decode cX3_rowsRightFor 32 = .ok (.iconst 1, 1) := by decide +kernel
theorem dX3_rowsRightFor_33 : decode cX3_rowsRightFor 33 = .ok (.iand, 1) := by decide +kernel
theorem dX3_rowsRightFor_34 : decode cX3_rowsRightFor 34 = .ok (.iconst 1, 1) := by decide +kernel
theorem dX3_rowsRightFor_35 : decode cX3_rowsRightFor 35 = .ok (.if_icmp .ne 6, 3) := by decide +kernel
theorem dX3_rowsRightFor_38 : decode cX3_rowsRightFor 38 = .ok (.iinc 3 1, 3) := by decide +kernel
theorem dX3_rowsRightFor_41 : decode cX3_rowsRightFor 41 = .ok (.iinc 4 1, 3) := by decide +kernel
theorem dX3_rowsRightFor_44 : decode cX3_rowsRightFor 44 = .ok (.goto (-39), 3) := by decide +kernel
theorem dX3_rowsRightFor_47 : decode cX3_rowsRightFor 47 = .ok (.iload_n 3, 1) := by decide +kernel
theorem dX3_rowsRightFor_48 : decode cX3_rowsRightFor 48 = .ok (.ireturn, 1) := by decide +kernel
theorem dX3_worstRow_0 : decode cX3_worstRow 0 = .ok (.iconst (-1), 1) := by decide +kernel
theorem dX3_worstRow_1 : decode cX3_worstRow 1 = .ok (.istore_n 2, 1) := by decide +kernel
theorem dX3_worstRow_2 : decode cX3_worstRow 2 = .ok (.iconst 0, 1) := by decide +kernel
theorem dX3_worstRow_3 : decode cX3_worstRow 3 = .ok (.istore_n 3, 1) := by decide +kernel
theorem dX3_worstRow_4 : decode cX3_worstRow 4 = .ok (.iload_n 3, 1) := by decide +kernel
theorem dX3_worstRow_5 : decode cX3_worstRow 5 = .ok (.aload_n 1, 1) := by decide +kernel
theorem dX3_worstRow_6 : decode cX3_worstRow 6 = .ok (.getfield 19, 3) := by decide +kernel
theorem dX3_worstRow_9 : decode cX3_worstRow 9 = .ok (.if_icmp .ge 37, 3) := by decide +kernel
theorem dX3_worstRow_12 : decode cX3_worstRow 12 = .ok (.aload_n 0, 1) := by decide +kernel
theorem dX3_worstRow_13 : decode cX3_worstRow 13 = .ok (.iload_n 3, 1) := by decide +kernel
theorem dX3_worstRow_14 : decode cX3_worstRow 14 = .ok (.invokevirtual 62, 3) := by decide +kernel
theorem dX3_worstRow_17 : decode cX3_worstRow 17 = .ok (.ifCond .eq 23, 3) := by decide +kernel
theorem dX3_worstRow_20 : decode cX3_worstRow 20 = .ok (.iload_n 2, 1) := by decide +kernel
theorem dX3_worstRow_21 : decode cX3_worstRow 21 = .ok (.iconst (-1), 1) := by decide +kernel
theorem dX3_worstRow_22 : decode cX3_worstRow 22 = .ok (.if_icmp .eq 16, 3) := by decide +kernel
theorem dX3_worstRow_25 : decode cX3_worstRow 25 = .ok (.aload_n 0, 1) := by decide +kernel
theorem dX3_worstRow_26 : decode cX3_worstRow 26 = .ok (.iload_n 3, 1) := by decide +kernel
theorem dX3_worstRow_27 : decode cX3_worstRow 27 = .ok (.invokevirtual 69, 3) := by decide +kernel
theorem dX3_worstRow_30 : decode cX3_worstRow 30 = .ok (.aload_n 0, 1) := by decide +kernel
theorem dX3_worstRow_31 : decode cX3_worstRow 31 = .ok (.iload_n 2, 1) := by decide +kernel
theorem dX3_worstRow_32 : decode cX3_worstRow 32 = .ok (.invokevirtual 69, 3) := by decide +kernel
theorem dX3_worstRow_35 : decode cX3_worstRow 35 = .ok (.if_icmp .le 5, 3) := by decide +kernel
theorem dX3_worstRow_38 : decode cX3_worstRow 38 = .ok (.iload_n 3, 1) := by decide +kernel
theorem dX3_worstRow_39 : decode cX3_worstRow 39 = .ok (.istore_n 2, 1) := by decide +kernel
theorem dX3_worstRow_40 : decode cX3_worstRow 40 = .ok (.iinc 3 1, 3) := by decide +kernel
theorem dX3_worstRow_43 : decode cX3_worstRow 43 = .ok (.goto (-39), 3) := by decide +kernel
theorem dX3_worstRow_46 : decode cX3_worstRow 46 = .ok (.iload_n 2, 1) := by decide +kernel
theorem dX3_worstRow_47 : decode cX3_worstRow 47 = .ok (.ireturn, 1) := by decide +kernel
theorem dJ7_fill_53178_0 : decode cJ7_fill_53178 0 = .ok (.iconst 0, 1) := by decide +kernel
theorem dJ7_fill_53178_1 : decode cJ7_fill_53178 1 = .ok (.istore_n 2, 1) := by decide +kernel
theorem dJ7_fill_53178_2 : decode cJ7_fill_53178 2 = .ok (.aload_n 0, 1) := by decide +kernel
theorem dJ7_fill_53178_3 : decode cJ7_fill_53178 3 = .ok (.arraylength, 1) := by decide +kernel
theorem dJ7_fill_53178_4 : decode cJ7_fill_53178 4 = .ok (.istore_n 3, 1) := by decide +kernel
theorem dJ7_fill_53178_5 : decode cJ7_fill_53178 5 = .ok (.iload_n 2, 1) := by decide +kernel
theorem dJ7_fill_53178_6 : decode cJ7_fill_53178 6 = .ok (.iload_n 3, 1) := by decide +kernel
theorem dJ7_fill_53178_7 : decode cJ7_fill_53178 7 = .ok (.if_icmp .ge 13, 3) := by decide +kernel
theorem dJ7_fill_53178_10 : decode cJ7_fill_53178 10 = .ok (.aload_n 0, 1) := by decide +kernel
theorem dJ7_fill_53178_11 : decode cJ7_fill_53178 11 = .ok (.iload_n 2, 1) := by decide +kernel
theorem dJ7_fill_53178_12 : decode cJ7_fill_53178 12 = .ok (.iload_n 1, 1) := by decide +kernel
theorem dJ7_fill_53178_13 : decode cJ7_fill_53178 13 = .ok (.iastore, 1) := by decide +kernel
theorem dJ7_fill_53178_14 : decode cJ7_fill_53178 14 = .ok (.iinc 2 1, 3) := by decide +kernel
theorem dJ7_fill_53178_17 : decode cJ7_fill_53178 17 = .ok (.goto (-12), 3) := by decide +kernel
theorem dJ7_fill_53178_20 : decode cJ7_fill_53178 20 = .ok (.return_, 1) := by decide +kernel
theorem dX7_play_0 : decode cX7_play 0 = .ok (.aload_n 0, 1) := by decide +kernel
theorem dX7_play_1 : decode cX7_play 1 = .ok (.aload_n 1, 1) := by decide +kernel
theorem dX7_play_2 : decode cX7_play 2 = .ok (.iload_n 2, 1) := by decide +kernel
theorem dX7_play_3 : decode cX7_play 3 = .ok (.invokevirtual 40, 3) := by decide +kernel
theorem dX7_play_6 : decode cX7_play 6 = .ok (.aload_n 0, 1) := by decide +kernel
theorem dX7_play_7 : decode cX7_play 7 = .ok (.aload_n 1, 1) := by decide +kernel
theorem dX7_play_8 : decode cX7_play 8 = .ok (.invokevirtual 44, 3) := by decide +kernel
theorem dX7_play_11 : decode cX7_play 11 = .ok (.return_, 1) := by decide +kernel
theorem dX4_isWon_0 : decode cX4_isWon 0 = .ok (.aload_n 2, 1) := by decide +kernel
theorem dX4_isWon_1 : decode cX4_isWon 1 = .ok (.aload_n 0, 1) := by decide +kernel
theorem dX4_isWon_2 : decode cX4_isWon 2 = .ok (.aload_n 1, 1) := by decide +kernel
theorem dX4_isWon_3 : decode cX4_isWon 3 = .ok (.invokevirtual 84, 3) := by decide +kernel
theorem dX4_isWon_6 : decode cX4_isWon 6 = .ok (.aload_n 0, 1) := by decide +kernel
theorem dX4_isWon_7 : decode cX4_isWon 7 = .ok (.aload_n 1, 1) := by decide +kernel
theorem dX4_isWon_8 : decode cX4_isWon 8 = .ok (.invokevirtual 88, 3) := by decide +kernel
theorem dX4_isWon_11 : decode cX4_isWon 11 = .ok (.aload_n 1, 1) := by decide +kernel
theorem dX4_isWon_12 : decode cX4_isWon 12 = .ok (.getfield 41, 3) := by decide +kernel
theorem dX4_isWon_15 : decode cX4_isWon 15 = .ok (.invokevirtual 91, 3) := by decide +kernel
theorem dX4_isWon_18 : decode cX4_isWon 18 = .ok (.ireturn, 1) := by decide +kernel
theorem dX5_hasTable_0 : decode cX5_hasTable 0 = .ok (.aload_n 0, 1) := by decide +kernel
theorem dX5_hasTable_1 : decode cX5_hasTable 1 = .ok (.getfield 29, 3) := by decide +kernel
theorem dX5_hasTable_4 : decode cX5_hasTable 4 = .ok (.iload_n 1, 1) := by decide +kernel
theorem dX5_hasTable_5 : decode cX5_hasTable 5 = .ok (.aaload, 1) := by decide +kernel
theorem dX5_hasTable_6 : decode cX5_hasTable 6 = .ok (.ifnonnull 17, 3) := by decide +kernel
theorem dX5_hasTable_9 : decode cX5_hasTable 9 = .ok (.aload_n 0, 1) := by decide +kernel
theorem dX5_hasTable_10 : decode cX5_hasTable 10 = .ok (.getfield 21, 3) := by decide +kernel
theorem dX5_hasTable_13 : decode cX5_hasTable 13 = .ok (.iload_n 1, 1) := by decide +kernel
theorem dX5_hasTable_14 : decode cX5_hasTable 14 = .ok (.iaload, 1) := by decide +kernel
theorem dX5_hasTable_15 : decode cX5_hasTable 15 = .ok (.iconst (-1), 1) := by decide +kernel
theorem dX5_hasTable_16 : decode cX5_hasTable 16 = .ok (.if_icmp .eq 7, 3) := by decide +kernel
theorem dX5_hasTable_19 : decode cX5_hasTable 19 = .ok (.iconst 1, 1) := by decide +kernel
theorem dX5_hasTable_20 : decode cX5_hasTable 20 = .ok (.goto 4, 3) := by decide +kernel
theorem dX5_hasTable_23 : decode cX5_hasTable 23 = .ok (.iconst 0, 1) := by decide +kernel
theorem dX5_hasTable_24 : decode cX5_hasTable 24 = .ok (.ireturn, 1) := by decide +kernel
theorem dX7_copy_0 : decode cX7_copy 0 = .ok (.aload_n 1, 1) := by decide +kernel
theorem dX7_copy_1 : decode cX7_copy 1 = .ok (.getfield 9, 3) := by decide +kernel
theorem dX7_copy_4 : decode cX7_copy 4 = .ok (.iconst 0, 1) := by decide +kernel
theorem dX7_copy_5 : decode cX7_copy 5 = .ok (.aload_n 0, 1) := by decide +kernel
theorem dX7_copy_6 : decode cX7_copy 6 = .ok (.getfield 9, 3) := by decide +kernel
theorem dX7_copy_9 : decode cX7_copy 9 = .ok (.iconst 0, 1) := by decide +kernel
theorem dX7_copy_10 : decode cX7_copy 10 = .ok (.bipush 8, 2) := by decide +kernel
theorem dX7_copy_12 : decode cX7_copy 12 = .ok (.invokestatic 18, 3) := by decide +kernel
theorem dX7_copy_15 : decode cX7_copy 15 = .ok (.aload_n 1, 1) := by decide +kernel
theorem dX7_copy_16 : decode cX7_copy 16 = .ok (.getfield 15, 3) := by decide +kernel
theorem dX7_copy_19 : decode cX7_copy 19 = .ok (.iconst 0, 1) := by decide +kernel
theorem dX7_copy_20 : decode cX7_copy 20 = .ok (.aload_n 0, 1) := by decide +kernel
theorem dX7_copy_21 : decode cX7_copy 21 = .ok (.getfield 15, 3) := by decide +kernel
theorem dX7_copy_24 : decode cX7_copy 24 = .ok (.iconst 0, 1) := by decide +kernel
theorem dX7_copy_25 : decode cX7_copy 25 = .ok (.bipush 8, 2) := by decide +kernel
theorem dX7_copy_27 : decode cX7_copy 27 = .ok (.invokestatic 18, 3) := by decide +kernel
theorem dX7_copy_30 : decode cX7_copy 30 = .ok (.return_, 1) := by decide +kernel
theorem dX7_guessAnew_0 : decode cX7_guessAnew 0 = .ok (.aload_n 0, 1) := by decide +kernel
theorem dX7_guessAnew_1 : decode cX7_guessAnew 1 = .ok (.getfield 15, 3) := by decide +kernel
theorem dX7_guessAnew_4 : decode cX7_guessAnew 4 = .ok (.iload_n 2, 1) := by decide +kernel
theorem dX7_guessAnew_5 : decode cX7_guessAnew 5 = .ok (.iload_n 3, 1) := by decide +kernel
theorem dX7_guessAnew_6 : decode cX7_guessAnew 6 = .ok (.iastore, 1) := by decide +kernel
theorem dX7_guessAnew_7 : decode cX7_guessAnew 7 = .ok (.iconst 0, 1) := by decide +kernel
theorem dX7_guessAnew_8 : decode cX7_guessAnew 8 = .ok (.istore 4, 2) := by decide +kernel
theorem dX7_guessAnew_10 : decode cX7_guessAnew 10 = .ok (.iload 4, 2) := by decide +kernel
theorem dX7_guessAnew_12 : decode cX7_guessAnew 12 = .ok (.aload_n 1, 1) := by decide +kernel
theorem dX7_guessAnew_13 : decode cX7_guessAnew 13 = .ok (.getfield 24, 3) := by decide +kernel
theorem dX7_guessAnew_16 : decode cX7_guessAnew 16 = .ok (.if_icmp .ge 48, 3) := by decide +kernel
theorem dX7_guessAnew_19 : decode cX7_guessAnew 19 = .ok (.aload_n 1, 1) := by decide +kernel
theorem dX7_guessAnew_20 : decode cX7_guessAnew 20 = .ok (.getfield 33, 3) := by decide +kernel
theorem dX7_guessAnew_23 : decode cX7_guessAnew 23 = .ok (.iload 4, 2) := by decide +kernel
theorem dX7_guessAnew_25 : decode cX7_guessAnew 25 = .ok (.iaload, 1) := by decide +kernel
theorem dX7_guessAnew_26 : decode cX7_guessAnew 26 = .ok (.istore 5, 2) := by decide +kernel
theorem dX7_guessAnew_28 : decode cX7_guessAnew 28 = .ok (.aload_n 1, 1) := by decide +kernel
theorem dX7_guessAnew_29 : decode cX7_guessAnew 29 = .ok (.getfield 48, 3) := by decide +kernel
theorem dX7_guessAnew_32 : decode cX7_guessAnew 32 = .ok (.iload 5, 2) := by decide +kernel
theorem dX7_guessAnew_34 : decode cX7_guessAnew 34 = .ok (.iaload, 1) := by decide +kernel
theorem dX7_guessAnew_35 : decode cX7_guessAnew 35 = .ok (.aload_n 1, 1) := by decide +kernel
theorem dX7_guessAnew_36 : decode cX7_guessAnew 36 = .ok (.getfield 48, 3) := by decide +kernel
theorem dX7_guessAnew_39 : decode cX7_guessAnew 39 = .ok (.iload_n 2, 1) := by decide +kernel
theorem dX7_guessAnew_40 : decode cX7_guessAnew 40 = .ok (.iaload, 1) := by decide +kernel
theorem dX7_guessAnew_41 : decode cX7_guessAnew 41 = .ok (.if_icmp .le 17, 3) := by decide +kernel
theorem dX7_guessAnew_44 : decode cX7_guessAnew 44 = .ok (.aload_n 0, 1) := by decide +kernel
theorem dX7_guessAnew_45 : decode cX7_guessAnew 45 = .ok (.getfield 15, 3) := by decide +kernel
theorem dX7_guessAnew_48 : decode cX7_guessAnew 48 = .ok (.iload 5, 2) := by decide +kernel
theorem dX7_guessAnew_50 : decode cX7_guessAnew 50 = .ok (.aload_n 0, 1) := by decide +kernel
theorem dX7_guessAnew_51 : decode cX7_guessAnew 51 = .ok (.aload_n 1, 1) := by decide +kernel
theorem dX7_guessAnew_52 : decode cX7_guessAnew 52 = .ok (.iload 5, 2) := by decide +kernel
theorem dX7_guessAnew_54 : decode cX7_guessAnew 54 = .ok (.invokevirtual 36, 3) := by decide +kernel
theorem dX7_guessAnew_57 : decode cX7_guessAnew 57 = .ok (.iastore, 1) := by decide +kernel
theorem dX7_guessAnew_58 : decode cX7_guessAnew 58 = .ok (.iinc 4 1, 3) := by decide +kernel
theorem dX7_guessAnew_61 : decode cX7_guessAnew 61 = .ok (.goto (-51), 3) := by decide +kernel
theorem dX7_guessAnew_64 : decode cX7_guessAnew 64 = .ok (.return_, 1) := by decide +kernel
theorem dX4_noteGains_0 : decode cX4_noteGains 0 = .ok (.aload_n 0, 1) := by decide +kernel
theorem dX4_noteGains_1 : decode cX4_noteGains 1 = .ok (.getfield 18, 3) := by decide +kernel
theorem dX4_noteGains_4 : decode cX4_noteGains 4 = .ok (.aload_n 1, 1) := by decide +kernel
theorem dX4_noteGains_5 : decode cX4_noteGains 5 = .ok (.aload_n 2, 1) := by decide +kernel
theorem dX4_noteGains_6 : decode cX4_noteGains 6 = .ok (.invokestatic 58, 3) := by decide +kernel
theorem dX4_noteGains_9 : decode cX4_noteGains 9 = .ok (.ifCond .eq 7, 3) := by decide +kernel
theorem dX4_noteGains_12 : decode cX4_noteGains 12 = .ok (.iconst 1, 1) := by decide +kernel
theorem dX4_noteGains_13 : decode cX4_noteGains 13 = .ok (.goto 4, 3) := by decide +kernel
theorem dX4_noteGains_16 : decode cX4_noteGains 16 = .ok (.iconst 0, 1) := by decide +kernel
theorem dX4_noteGains_17 : decode cX4_noteGains 17 = .ok (.istore_n 3, 1) := by decide +kernel
theorem dX4_noteGains_18 : decode cX4_noteGains 18 = .ok (.iconst 0, 1) := by decide +kernel
theorem dX4_noteGains_19 : decode cX4_noteGains 19 = .ok (.istore 4, 2) := by decide +kernel
theorem dX4_noteGains_21 : decode cX4_noteGains 21 = .ok (.iconst 0, 1) := by decide +kernel
theorem dX4_noteGains_22 : decode cX4_noteGains 22 = .ok (.istore 5, 2) := by decide +kernel
theorem dX4_noteGains_24 : decode cX4_noteGains 24 = .ok (.iload 5, 2) := by decide +kernel
theorem dX4_noteGains_26 : decode cX4_noteGains 26 = .ok (.aload_n 1, 1) := by decide +kernel
theorem dX4_noteGains_27 : decode cX4_noteGains 27 = .ok (.getfield 41, 3) := by decide +kernel
theorem dX4_noteGains_30 : decode cX4_noteGains 30 = .ok (.if_icmp .ge 123, 3) := by decide +kernel
theorem dX4_noteGains_33 : decode cX4_noteGains 33 = .ok (.aload_n 1, 1) := by decide +kernel
theorem dX4_noteGains_34 : decode cX4_noteGains 34 = .ok (.iload 5, 2) := by decide +kernel
theorem dX4_noteGains_36 : decode cX4_noteGains 36 = .ok (.invokevirtual 62, 3) := by decide +kernel
theorem dX4_noteGains_39 : decode cX4_noteGains 39 = .ok (.ifCond .ne 6, 3) := by decide +kernel
theorem dX4_noteGains_42 : decode cX4_noteGains 42 = .ok (.goto 105, 3) := by decide +kernel
theorem dX4_noteGains_45 : decode cX4_noteGains 45 = .ok (.iload 4, 2) := by decide +kernel
theorem dX4_noteGains_47 : decode cX4_noteGains 47 = .ok (.aload_n 0, 1) := by decide +kernel
theorem dX4_noteGains_48 : decode cX4_noteGains 48 = .ok (.getfield 18, 3) := by decide +kernel
theorem dX4_noteGains_51 : decode cX4_noteGains 51 = .ok (.aload_n 1, 1) := by decide +kernel
theorem dX4_noteGains_52 : decode cX4_noteGains 52 = .ok (.iload 5, 2) := by decide +kernel
theorem dX4_noteGains_54 : decode cX4_noteGains 54 = .ok (.invokevirtual 66, 3) := by decide +kernel
theorem dX4_noteGains_57 : decode cX4_noteGains 57 = .ok (.iadd, 1) := by decide +kernel
theorem dX4_noteGains_58 : decode cX4_noteGains 58 = .ok (.iconst 5, 1) := by decide +kernel
theorem dX4_noteGains_59 : decode cX4_noteGains 59 = .ok (.imul, 1) := by decide +kernel
theorem dX4_noteGains_60 : decode cX4_noteGains 60 = .ok (.istore 6, 2) := by decide +kernel
theorem dX4_noteGains_62 : decode cX4_noteGains 62 = .ok (.iconst 0, 1) := by decide +kernel
theorem dX4_noteGains_63 : decode cX4_noteGains 63 = .ok (.istore 7, 2) := by decide +kernel
theorem dX4_noteGains_65 : decode cX4_noteGains 65 = .ok (.iload 7, 2) := by decide +kernel
theorem dX4_noteGains_67 : decode cX4_noteGains 67 = .ok (.aload_n 1, 1) := by decide +kernel
theorem dX4_noteGains_68 : decode cX4_noteGains 68 = .ok (.getfield 70, 3) := by decide +kernel
theorem dX4_noteGains_71 : decode cX4_noteGains 71 = .ok (.if_icmp .gt 64, 3) := by decide +kernel
theorem dX4_noteGains_74 : decode cX4_noteGains 74 = .ok (.aload_n 0, 1) := by decide +kernel
theorem dX4_noteGains_75 : decode cX4_noteGains 75 = .ok (.getfield 22, 3) := by decide +kernel
theorem dX4_noteGains_78 : decode cX4_noteGains 78 = .ok (.aload_n 0, 1) := by decide +kernel
theorem dX4_noteGains_79 : decode cX4_noteGains 79 = .ok (.getfield 18, 3) := by decide +kernel
theorem dX4_noteGains_82 : decode cX4_noteGains 82 = .ok (.invokevirtual 73, 3) := by decide +kernel
theorem dX4_noteGains_85 : decode cX4_noteGains 85 = .ok (.aload_n 0, 1) := by decide +kernel
theorem dX4_noteGains_86 : decode cX4_noteGains 86 = .ok (.getfield 22, 3) := by decide +kernel
theorem dX4_noteGains_89 : decode cX4_noteGains 89 = .ok (.aload_n 1, 1) := by decide +kernel
theorem dX4_noteGains_90 : decode cX4_noteGains 90 = .ok (.iload 5, 2) := by decide +kernel
theorem dX4_noteGains_92 : decode cX4_noteGains 92 = .ok (.iload 7, 2) := by decide +kernel
theorem dX4_noteGains_94 : decode cX4_noteGains 94 = .ok (.invokevirtual 77, 3) := by decide +kernel
theorem dX4_noteGains_97 : decode cX4_noteGains 97 = .ok (.aload_n 0, 1) := by decide +kernel
theorem dX4_noteGains_98 : decode cX4_noteGains 98 = .ok (.getfield 11, 3) := by decide +kernel
theorem dX4_noteGains_101 : decode cX4_noteGains 101 = .ok (.iload 6, 2) := by decide +kernel
theorem dX4_noteGains_103 : decode cX4_noteGains 103 = .ok (.iload 7, 2) := by decide +kernel
theorem dX4_noteGains_105 : decode cX4_noteGains 105 = .ok (.iadd, 1) := by decide +kernel
theorem dX4_noteGains_106 : decode cX4_noteGains 106 = .ok (.dup2, 1) := by decide +kernel
theorem dX4_noteGains_107 : decode cX4_noteGains 107 = .ok (.iaload, 1) := by decide +kernel
theorem dX4_noteGains_108 : decode cX4_noteGains 108 = .ok (.aload_n 0, 1) := by decide +kernel
theorem dX4_noteGains_109 : decode cX4_noteGains 109 = .ok (.getfield 22, 3) := by decide +kernel
theorem dX4_noteGains_112 : decode cX4_noteGains 112 = .ok (.aload_n 1, 1) := by decide +kernel
theorem dX4_noteGains_113 : decode cX4_noteGains 113 = .ok (.aload_n 2, 1) := by decide +kernel
theorem dX4_noteGains_114 : decode cX4_noteGains 114 = .ok (.invokestatic 58, 3) := by decide +kernel
theorem dX4_noteGains_117 : decode cX4_noteGains 117 = .ok (.ifCond .eq 7, 3) := by decide +kernel
theorem dX4_noteGains_120 : decode cX4_noteGains 120 = .ok (.iconst 1, 1) := by decide +kernel
theorem dX4_noteGains_121 : decode cX4_noteGains 121 = .ok (.goto 4, 3) := by decide +kernel
theorem dX4_noteGains_124 : decode cX4_noteGains 124 = .ok (.iconst 0, 1) := by decide +kernel
theorem dX4_noteGains_125 : decode cX4_noteGains 125 = .ok (.iload_n 3, 1) := by decide +kernel
theorem dX4_noteGains_126 : decode cX4_noteGains 126 = .ok (.isub, 1) := by decide +kernel
theorem dX4_noteGains_127 : decode cX4_noteGains 127 = .ok (.iadd, 1) := by decide +kernel
theorem dX4_noteGains_128 : decode cX4_noteGains 128 = .ok (.iastore, 1) := by decide +kernel
theorem dX4_noteGains_129 : decode cX4_noteGains 129 = .ok (.iinc 7 1, 3) := by decide +kernel
theorem dX4_noteGains_132 : decode cX4_noteGains 132 = .ok (.goto (-67), 3) := by decide +kernel
theorem dX4_noteGains_135 : decode cX4_noteGains 135 = .ok (.iload 4, 2) := by decide +kernel
theorem dX4_noteGains_137 : decode cX4_noteGains 137 = .ok (.aload_n 1, 1) := by decide +kernel
theorem dX4_noteGains_138 : decode cX4_noteGains 138 = .ok (.getfield 81, 3) := by decide +kernel
theorem dX4_noteGains_141 : decode cX4_noteGains 141 = .ok (.iload 5, 2) := by decide +kernel
theorem dX4_noteGains_143 : decode cX4_noteGains 143 = .ok (.iaload, 1) := by decide +kernel
theorem dX4_noteGains_144 : decode cX4_noteGains 144 = .ok (.iadd, 1) := by decide +kernel
theorem dX4_noteGains_145 : decode cX4_noteGains 145 = .ok (.istore 4, 2) := by decide +kernel
theorem dX4_noteGains_147 : decode cX4_noteGains 147 = .ok (.iinc 5 1, 3) := by decide +kernel
theorem dX4_noteGains_150 : decode cX4_noteGains 150 = .ok (.goto (-126), 3) := by decide +kernel
theorem dX4_noteGains_153 : decode cX4_noteGains 153 = .ok (.return_, 1) := by decide +kernel
section
variable {p : Program} {l : Launch} {e : Env} {R : Room} {s : State} {m : MethodId} {args : Array Value} {below : List Frame} {meth : Method} {c : Code} {D : va_G} {cA : Nat → ClassId} {z : Nat} {A : Nat → Prop} {J : HJ} {Ev : HE}
theorem wkJud_weigh_l19 {T : HR} {F : HR} {L : HL} {r1 : Nat} {x2 : Int32} {Q : Int64 → HI → Prop} (X : hX p m c s args RX2 cX2_weigh 7) (hr : meth.sig.returnType = (some .long)) (hlk : meth.locks = false) (hR : 1 ≤ R.frames ∧ 100 ≤ R.locals) (hcl : hCl Ev) (hG : Geo F L) (hc1 : SceSh F L r1)  : ∀ (n : Nat) (I : HI) (x3 : Int64) (x5 : Int32) {ls : Array Slot} {H : Heap} {locs : List Loc}, Jud_weigh_l19 r1 x2 Q n I x3 x5 → hW D cA z Ev (I, J, T, F, L) A s H locs → lv_has ls 7 [(0, .ref (z + 23)), (1, .ref (z + r1)), (2, .int x2), (3, .long x3), (5, .int x5)] → W p l e R s m args below meth c H locs 0 0 (MQ below (va_Ql (pI J T F L Q) (hB D cA z A) A) args s 0 0 A) (F0 m 19 ls []) := by
  have hx := X.1
  have hb := X.2.1
  intro n
  induction n with
  | zero => intro I x3 x5 ls H locs h; exact False.elim h
  | succ n ih =>
    intro I x3 x5 ls H locs h hw hl
    rw [Jud_weigh_l19] at h
    refine lv_iload hx hb dX2_weigh_19 (lv_at hl 4 rfl) ?_
    refine lv_iload_n hx hb dX2_weigh_21 rfl (lv_at hl 2 rfl) ?_
    refine lv_icmp_ge (tgt := 62) hx hb dX2_weigh_22 (by decide) (fun hc => ?_) (fun hc => ?_)
    · have h := Eq.mp (if_pos hc) h
      refine lv_lload_n hx hb dX2_weigh_62 rfl (lv_at hl 3 rfl) ?_
      exact hm_lret X hr hlk hw ⟨_, rfl, h⟩ dX2_weigh_63
    · have h := Eq.mp (if_neg hc) h
      refine lv_aload_n hx hb dX2_weigh_25 rfl (lv_at hl 1 rfl) ?_
      refine hm_getr X hw lk_2_31 hc1.1 (ssf_0 hc1) dX2_weigh_26 ?_
      refine lv_iload hx hb dX2_weigh_29 (lv_at hl 4 rfl) ?_
      obtain ⟨hi, h⟩ := h
      refine hm_iald X hw (ssm_0 hc1) hi dX2_weigh_31 ?_
      refine lv_istore (lv' := [(6, _), (0, _), (1, _), (2, _), (3, _), (5, _)]) hx hb dX2_weigh_32 hl (by decide) rfl (fun ls hl => ?_)
      refine lv_lload_n hx hb dX2_weigh_34 rfl (lv_at hl 4 rfl) ?_
      refine lv_aload_n hx hb dX2_weigh_35 rfl (lv_at hl 1 rfl) ?_
      refine hm_getr X hw lk_2_22 (gl_23 hG) (gf_23_3 hG) dX2_weigh_36 ?_
      refine lv_iload hx hb dX2_weigh_39 (lv_at hl 0 rfl) ?_
      obtain ⟨hi, h⟩ := h
      refine hm_iald X hw (gl_25 hG) hi dX2_weigh_41 ?_
      refine lv_i2l (v := Int32.toInt64 (I 25 (nx (I (r1 + 1) (nx x5))))) hx hb dX2_weigh_42 rfl ?_
      refine lv_lmul hx hb dX2_weigh_43 ?_
      refine lv_lstore_n (lv' := [(3, _), (6, _), (0, _), (1, _), (2, _), (5, _)]) hx hb dX2_weigh_44 rfl hl (by decide) rfl (fun ls hl => ?_)
      refine lv_aload_n hx hb dX2_weigh_45 rfl (lv_at hl 2 rfl) ?_
      refine hm_getr X hw lk_2_22 (gl_23 hG) (gf_23_3 hG) dX2_weigh_46 ?_
      refine lv_iload hx hb dX2_weigh_49 (lv_at hl 1 rfl) ?_
      refine lv_dup2_11 hx hb dX2_weigh_51 rfl rfl ?_
      obtain ⟨hi, h⟩ := h
      refine hm_iald X hw (gl_25 hG) hi dX2_weigh_52 ?_
      refine lv_iconst (v := 1) hx hb dX2_weigh_53 (by decide) ?_
      refine lv_isub hx hb dX2_weigh_54 ?_
      obtain ⟨hi, h⟩ := h
      refine hm_iast X hw (gl_25 hG) hi dX2_weigh_55 (fun H locs hw => ?_)
      refine lv_iinc (v := x5 + 1) (lv' := [(5, _), (3, _), (6, _), (0, _), (1, _), (2, _)]) hx hb dX2_weigh_56 hl (k := 5) rfl rfl (by decide) rfl (fun ls hl => ?_)
      refine lv_goto (tgt := 19) hx hb dX2_weigh_59 (by decide) ?_
      exact ih _ _ _ h hw (lv_sub hl [3, 4, 5, 1, 0] rfl)

theorem cJud_weigh {l : Launch} {D : va_G} {cA : Nat → ClassId} {z sz : Nat} {I : HI} {T : HR} {F : HR} {L : HL} {r1 : Nat} {x2 : Int32} {Q : Int64 → HI → Prop} (hcl : hCl Ev) (hG : Geo F L) (hc1 : SceSh F L r1) (h : Jud_weigh I r1 x2 Q) : Met l yX2_weigh (hws0 yX2_weigh cX2_weigh 7 (some .long)) { frames := 1, cells := 0, slots := 0, locals := 100 } (hPc D cA z Ev (I, J, T, F, L) sz [.ref (z + 23), .ref (z + r1), .int x2]) (va_Ql (pI J T F L Q) (hB D cA z (hA z L sz)) (hA z L sz)) 0 0 (hA z L sz) := by
  refine hm_met (I, J, T, F, L) [.ref (z + 23), .ref (z + r1), .int x2] rfl (by decide) (Nat.le_of_ble_eq_true rfl) ?_
  intro p e s m below meth c ls X hr hlk hnm hxt hsz hw hl
  have hl : lv_has ls 7 [(0, .ref (z + 23)), (1, .ref (z + r1)), (2, .int x2)] := hl
  have hR : 1 ≤ ({ frames := 1, cells := 0, slots := 0, locals := 100 } : Room).frames ∧ 100 ≤ ({ frames := 1, cells := 0, slots := 0, locals := 100 } : Room).locals := ⟨Nat.le_refl _, Nat.le_refl _⟩
  generalize ({ frames := 1, cells := 0, slots := 0, locals := 100 } : Room) = R at hR ⊢
  clear hsz
  generalize (hA z L sz) = A at hw ⊢
  have hx := X.1
  have hb := X.2.1
  unfold Jud_weigh at h
  refine lv_aload_n hx hb dX2_weigh_0 rfl (lv_at hl 0 rfl) ?_
  refine hm_getr X hw lk_2_9 (gl_23 hG) (gf_23_0 hG) dX2_weigh_1 ?_
  refine lv_iconst (v := 0) hx hb dX2_weigh_4 (by decide) ?_
  refine lv_aload_n hx hb dX2_weigh_5 rfl (lv_at hl 0 rfl) ?_
  refine hm_getr X hw lk_2_22 (gl_23 hG) (gf_23_3 hG) dX2_weigh_6 ?_
  refine lv_iconst (v := 0) hx hb dX2_weigh_9 (by decide) ?_
  refine lv_iconst (v := 4) hx hb dX2_weigh_10 (by decide) ?_
  refine hm_cpy X hw 0 (Or.inl rfl) ⟨hl.2.1, hl.1⟩ kw589 (gl_24 hG) (gl_25 hG) (by decide) (by decide) (by decide) (by decide) (by decide) (Or.inl rfl) ⟨Nat.le_trans (Nat.le_of_ble_eq_true rfl) hR.1, Nat.le_trans (by decide) hR.2⟩ dX2_weigh_11 (fun H locs hw => ?_)
  refine lv_lconst (v := 1) hx hb dX2_weigh_14 (by decide) ?_
  refine lv_lstore_n (lv' := [(3, _), (0, _), (1, _), (2, _)]) hx hb dX2_weigh_15 rfl hl (by decide) rfl (fun ls hl => ?_)
  refine lv_iconst (v := 0) hx hb dX2_weigh_16 (by decide) ?_
  refine lv_istore (lv' := [(5, _), (3, _), (0, _), (1, _), (2, _)]) hx hb dX2_weigh_17 hl (by decide) rfl (fun ls hl => ?_)
  obtain ⟨n2, h⟩ := h
  exact wkJud_weigh_l19 X hr hlk hR hcl hG hc1  n2 _ _ _ h hw (lv_sub hl [2, 3, 4, 1, 0] rfl)

theorem cJud_isWon {l : Launch} {D : va_G} {cA : Nat → ClassId} {z sz : Nat} {I : HI} {T : HR} {F : HR} {L : HL} {x1 : Int32} {x2 : Int32} {x3 : Int32} {Q : Int32 → Prop} (hcl : hCl Ev) (hG : Geo F L) (h : Jud_isWon I x1 x2 x3 Q) : Met l yX2_isWon (hws0 yX2_isWon cX2_isWon 5 (some .boolean)) { frames := 1, cells := 0, slots := 0, locals := 20 } (hPc D cA z Ev (I, J, T, F, L) sz [.ref (z + 23), .int x1, .int x2, .int x3]) (va_Qi (p0 (I, J, T, F, L) Q) (hB D cA z (hA z L sz)) (hA z L sz)) 0 0 (hA z L sz) := by
  refine hm_met (I, J, T, F, L) [.ref (z + 23), .int x1, .int x2, .int x3] rfl (by decide) (Nat.le_of_ble_eq_true rfl) ?_
  intro p e s m below meth c ls X hr hlk hnm hxt hsz hw hl
  have hl : lv_has ls 5 [(0, .ref (z + 23)), (1, .int x1), (2, .int x2), (3, .int x3)] := hl
  have hR : 1 ≤ ({ frames := 1, cells := 0, slots := 0, locals := 20 } : Room).frames ∧ 20 ≤ ({ frames := 1, cells := 0, slots := 0, locals := 20 } : Room).locals := ⟨Nat.le_refl _, Nat.le_refl _⟩
  generalize ({ frames := 1, cells := 0, slots := 0, locals := 20 } : Room) = R at hR ⊢
  clear hsz
  generalize (hA z L sz) = A at hw ⊢
  have hx := X.1
  have hb := X.2.1
  unfold Jud_isWon at h
  refine lv_iload_n hx hb dX2_isWon_0 rfl (lv_at hl 1 rfl) ?_
  refine hm_calli hw (hm_runS (rest := []) hcl X hw (cJd_bitCount hcl h) yk_J6_bitCount_0f7a4 kw617 rfl hl.1 rfl rfl rfl (Nat.le_of_ble_eq_true rfl) ⟨Nat.le_trans (Nat.le_of_ble_eq_true rfl) hR.1, Nat.le_trans (Nat.le_of_ble_eq_true rfl) hR.2⟩ ⟨Nat.zero_le _, Nat.zero_le _⟩ dX2_isWon_1) (fun a1 u2 H locs hp hw => ?_)
  obtain ⟨rfl, h⟩ := hp
  refine lv_istore (lv' := [(4, _), (0, _), (1, _), (2, _), (3, _)]) hx hb dX2_isWon_4 hl (by decide) rfl (fun ls hl => ?_)
  refine lv_aload_n hx hb dX2_isWon_6 rfl (lv_at hl 1 rfl) ?_
  refine hm_geti X hw lk_2_15 (gl_23 hG) dX2_isWon_7 ?_
  by_cases hc0 : (I 23 1) = 0
  · have h := Eq.mp (if_pos hc0) h
    refine lv_tableIn (tgt := 36) (off := 26) hx hb dX2_isWon_10 (by rw [hc0]; decide) (by rw [hc0]; decide) (by rw [hc0]; decide) (by decide) ?_
    refine lv_iload hx hb dX2_isWon_36 (lv_at hl 0 rfl) ?_
    refine lv_aload_n hx hb dX2_isWon_38 rfl (lv_at hl 1 rfl) ?_
    refine hm_geti X hw lk_2_19 (gl_23 hG) dX2_isWon_39 ?_
    refine lv_icmp_lt (tgt := 49) hx hb dX2_isWon_42 (by decide) (fun hc => ?_) (fun hc => ?_)
    · have h := Eq.mp (if_pos hc) h
      refine lv_iconst (v := 0) hx hb dX2_isWon_49 (by decide) ?_
      exact hm_zret X hr hlk hw zb_0 ⟨rfl, h⟩ dX2_isWon_50
    · have h := Eq.mp (if_neg hc) h
      refine lv_iconst (v := 1) hx hb dX2_isWon_45 (by decide) ?_
      refine lv_goto (tgt := 50) hx hb dX2_isWon_46 (by decide) ?_
      exact hm_zret X hr hlk hw zb_1 ⟨rfl, h⟩ dX2_isWon_50
  have h := Eq.mp (if_neg hc0) h
  by_cases hc1 : (I 23 1) = 1
  · have h := Eq.mp (if_pos hc1) h
    refine lv_tableIn (tgt := 51) (off := 41) hx hb dX2_isWon_10 (by rw [hc1]; decide) (by rw [hc1]; decide) (by rw [hc1]; decide) (by decide) ?_
    refine lv_iload hx hb dX2_isWon_51 (lv_at hl 0 rfl) ?_
    refine lv_aload_n hx hb dX2_isWon_53 rfl (lv_at hl 1 rfl) ?_
    refine hm_geti X hw lk_2_19 (gl_23 hG) dX2_isWon_54 ?_
    refine lv_icmp_ne (tgt := 64) hx hb dX2_isWon_57 (by decide) (fun hc => ?_) (fun hc => ?_)
    · have h := Eq.mp (if_neg hc) h
      refine lv_iconst (v := 0) hx hb dX2_isWon_64 (by decide) ?_
      exact hm_zret X hr hlk hw zb_0 ⟨rfl, h⟩ dX2_isWon_65
    · have h := Eq.mp (if_pos hc) h
      refine lv_iconst (v := 1) hx hb dX2_isWon_60 (by decide) ?_
      refine lv_goto (tgt := 65) hx hb dX2_isWon_61 (by decide) ?_
      exact hm_zret X hr hlk hw zb_1 ⟨rfl, h⟩ dX2_isWon_65
  have h := Eq.mp (if_neg hc1) h
  by_cases hc2 : (I 23 1) = 2
  · have h := Eq.mp (if_pos hc2) h
    refine lv_tableIn (tgt := 66) (off := 56) hx hb dX2_isWon_10 (by rw [hc2]; decide) (by rw [hc2]; decide) (by rw [hc2]; decide) (by decide) ?_
    refine lv_iload_n hx hb dX2_isWon_66 rfl (lv_at hl 3 rfl) ?_
    refine lv_if_ne (tgt := 83) hx hb dX2_isWon_67 (by decide) (fun hc => ?_) (fun hc => ?_)
    · have h := Eq.mp (if_neg hc) h
      refine lv_iconst (v := 0) hx hb dX2_isWon_83 (by decide) ?_
      exact hm_zret X hr hlk hw zb_0 ⟨rfl, h⟩ dX2_isWon_84
    · have h := Eq.mp (if_pos hc) h
      refine lv_iload hx hb dX2_isWon_70 (lv_at hl 0 rfl) ?_
      refine lv_aload_n hx hb dX2_isWon_72 rfl (lv_at hl 1 rfl) ?_
      refine hm_geti X hw lk_2_19 (gl_23 hG) dX2_isWon_73 ?_
      refine lv_icmp_lt (tgt := 83) hx hb dX2_isWon_76 (by decide) (fun hc => ?_) (fun hc => ?_)
      · have h := Eq.mp (if_pos hc) h
        refine lv_iconst (v := 0) hx hb dX2_isWon_83 (by decide) ?_
        exact hm_zret X hr hlk hw zb_0 ⟨rfl, h⟩ dX2_isWon_84
      · have h := Eq.mp (if_neg hc) h
        refine lv_iconst (v := 1) hx hb dX2_isWon_79 (by decide) ?_
        refine lv_goto (tgt := 84) hx hb dX2_isWon_80 (by decide) ?_
        exact hm_zret X hr hlk hw zb_1 ⟨rfl, h⟩ dX2_isWon_84
  have h := Eq.mp (if_neg hc2) h
  refine hm_tabD (tgt := 85) [0, 1, 2] hx hb dX2_isWon_10 (by decide) (by simp only [List.forall_mem_cons]; exact ⟨hc0, hc1, hc2, fun _ h => (by cases h)⟩) (by decide) ?_
  refine lv_iload_n hx hb dX2_isWon_85 rfl (lv_at hl 4 rfl) ?_
  refine lv_iload hx hb dX2_isWon_86 (lv_at hl 0 rfl) ?_
  refine lv_isub hx hb dX2_isWon_88 ?_
  refine lv_aload_n hx hb dX2_isWon_89 rfl (lv_at hl 1 rfl) ?_
  refine hm_geti X hw lk_2_19 (gl_23 hG) dX2_isWon_90 ?_
  refine lv_icmp_gt (tgt := 100) hx hb dX2_isWon_93 (by decide) (fun hc => ?_) (fun hc => ?_)
  · have h := Eq.mp (if_pos hc) h
    refine lv_iconst (v := 0) hx hb dX2_isWon_100 (by decide) ?_
    exact hm_zret X hr hlk hw zb_0 ⟨rfl, h⟩ dX2_isWon_101
  · have h := Eq.mp (if_neg hc) h
    refine lv_iconst (v := 1) hx hb dX2_isWon_96 (by decide) ?_
    refine lv_goto (tgt := 101) hx hb dX2_isWon_97 (by decide) ?_
    exact hm_zret X hr hlk hw zb_1 ⟨rfl, h⟩ dX2_isWon_101

theorem cLed_spoil {l : Launch} {D : va_G} {cA : Nat → ClassId} {z sz : Nat} {I : HI} {T : HR} {F : HR} {L : HL}  {Q : HI → Prop} (hcl : hCl Ev) (hG : Geo F L) (h : Led_spoil I  Q) : Met l yX3_spoil (hws0 yX3_spoil cX3_spoil 1 none) { frames := 0, cells := 0, slots := 0, locals := 0 } (hPc D cA z Ev (I, J, T, F, L) sz [.ref (z + 26)]) (va_Qv (pIv J T F L Q) (hB D cA z (hA z L sz)) (hA z L sz)) 0 0 (hA z L sz) := by
  refine hm_met (I, J, T, F, L) [.ref (z + 26)] rfl (by decide) (Nat.le_of_ble_eq_true rfl) ?_
  intro p e s m below meth c ls X hr hlk hnm hxt hsz hw hl
  have hl : lv_has ls 1 [(0, .ref (z + 26))] := hl
  have hR : 0 ≤ ({ frames := 0, cells := 0, slots := 0, locals := 0 } : Room).frames ∧ 0 ≤ ({ frames := 0, cells := 0, slots := 0, locals := 0 } : Room).locals := ⟨Nat.le_refl _, Nat.le_refl _⟩
  generalize ({ frames := 0, cells := 0, slots := 0, locals := 0 } : Room) = R at hR ⊢
  clear hsz
  generalize (hA z L sz) = A at hw ⊢
  have hx := X.1
  have hb := X.2.1
  unfold Led_spoil at h
  refine lv_aload_n hx hb dX3_spoil_0 rfl (lv_at hl 0 rfl) ?_
  refine lv_iconst (v := 0) hx hb dX3_spoil_1 (by decide) ?_
  refine hm_puti X hw lk_3_15 (gl_26 hG) rfl rfl dX3_spoil_2 (fun H locs hw => ?_)
  exact hm_vret X hr hlk hw ⟨_, rfl, h⟩ dX3_spoil_5

theorem wkSc_dress_l5 {T : HR} {F : HR} {L : HL} {r0 : Nat} {r1 : Nat} {Q : HI → Prop} (X : hX p m c s args RX7 cX7_dress 5) (hr : meth.sig.returnType = none) (hlk : meth.locks = false) (hR : 0 ≤ R.frames ∧ 0 ≤ R.locals) (hcl : hCl Ev) (hc0 : SceSh F L r0) (hn1 : NetSh F L r1)  : ∀ (n : Nat) (I : HI) (x3 : Int32) (x4 : Int32) {ls : Array Slot} {H : Heap} {locs : List Loc}, Sc_dress_l5 r0 r1 Q n I x3 x4 → hW D cA z Ev (I, J, T, F, L) A s H locs → lv_has ls 5 [(0, .ref (z + r0)), (1, .ref (z + r1)), (3, .int x3), (4, .int x4)] → W p l e R s m args below meth c H locs 0 0 (MQ below (va_Qv (pIv J T F L Q) (hB D cA z A) A) args s 0 0 A) (F0 m 5 ls []) := by
  have hx := X.1
  have hb := X.2.1
  intro n
  induction n with
  | zero => intro I x3 x4 ls H locs h; exact False.elim h
  | succ n ih =>
    intro I x3 x4 ls H locs h hw hl
    rw [Sc_dress_l5] at h
    refine lv_iload hx hb dX7_dress_5 (lv_at hl 3 rfl) ?_
    refine lv_aload_n hx hb dX7_dress_7 rfl (lv_at hl 1 rfl) ?_
    refine hm_geti X hw lk_7_24 hn1.1 dX7_dress_8 ?_
    refine lv_icmp_ge (tgt := 40) hx hb dX7_dress_11 (by decide) (fun hc => ?_) (fun hc => ?_)
    · have h := Eq.mp (if_pos hc) h
      exact hm_vret X hr hlk hw ⟨_, rfl, h⟩ dX7_dress_40
    · have h := Eq.mp (if_neg hc) h
      refine lv_aload_n hx hb dX7_dress_14 rfl (lv_at hl 0 rfl) ?_
      refine hm_getr X hw lk_7_9 hc0.1 (ssf_0 hc0) dX7_dress_15 ?_
      refine lv_iload hx hb dX7_dress_18 (lv_at hl 3 rfl) ?_
      refine lv_iload_n hx hb dX7_dress_20 rfl (lv_at hl 2 rfl) ?_
      refine lv_aload_n hx hb dX7_dress_21 rfl (lv_at hl 1 rfl) ?_
      refine hm_geti X hw lk_7_30 hn1.1 dX7_dress_22 ?_
      obtain ⟨hi, h⟩ := h
      refine hm_irem hx hb dX7_dress_25 hi ?_
      obtain ⟨hi, h⟩ := h
      refine hm_iast X hw (ssm_0 hc0) hi dX7_dress_26 (fun H locs hw => ?_)
      refine lv_iload_n hx hb dX7_dress_27 rfl (lv_at hl 2 rfl) ?_
      refine lv_aload_n hx hb dX7_dress_28 rfl (lv_at hl 1 rfl) ?_
      refine hm_geti X hw lk_7_30 hn1.1 dX7_dress_29 ?_
      obtain ⟨hi, h⟩ := h
      refine hm_idiv hx hb dX7_dress_32 hi ?_
      refine lv_istore_n (lv' := [(3, _), (0, _), (1, _), (4, _)]) hx hb dX7_dress_33 rfl hl (by decide) rfl (fun ls hl => ?_)
      refine lv_iinc (v := x4 + 1) (lv' := [(4, _), (3, _), (0, _), (1, _)]) hx hb dX7_dress_34 hl (k := 3) rfl rfl (by decide) rfl (fun ls hl => ?_)
      refine lv_goto (tgt := 5) hx hb dX7_dress_37 (by decide) ?_
      exact ih _ _ _ h hw (lv_sub hl [2, 3, 1, 0] rfl)

theorem cSc_dress {l : Launch} {D : va_G} {cA : Nat → ClassId} {z sz : Nat} {I : HI} {T : HR} {F : HR} {L : HL} {r0 : Nat} {r1 : Nat} {x2 : Int32} {Q : HI → Prop} (hcl : hCl Ev) (hc0 : SceSh F L r0) (hn1 : NetSh F L r1) (h : Sc_dress I r0 r1 x2 Q) : Met l yX7_dress (hws0 yX7_dress cX7_dress 5 none) { frames := 0, cells := 0, slots := 0, locals := 0 } (hPc D cA z Ev (I, J, T, F, L) sz [.ref (z + r0), .ref (z + r1), .int x2]) (va_Qv (pIv J T F L Q) (hB D cA z (hA z L sz)) (hA z L sz)) 0 0 (hA z L sz) := by
  refine hm_met (I, J, T, F, L) [.ref (z + r0), .ref (z + r1), .int x2] rfl (by decide) (Nat.le_of_ble_eq_true rfl) ?_
  intro p e s m below meth c ls X hr hlk hnm hxt hsz hw hl
  have hl : lv_has ls 5 [(0, .ref (z + r0)), (1, .ref (z + r1)), (2, .int x2)] := hl
  have hR : 0 ≤ ({ frames := 0, cells := 0, slots := 0, locals := 0 } : Room).frames ∧ 0 ≤ ({ frames := 0, cells := 0, slots := 0, locals := 0 } : Room).locals := ⟨Nat.le_refl _, Nat.le_refl _⟩
  generalize ({ frames := 0, cells := 0, slots := 0, locals := 0 } : Room) = R at hR ⊢
  clear hsz
  generalize (hA z L sz) = A at hw ⊢
  have hx := X.1
  have hb := X.2.1
  unfold Sc_dress at h
  refine lv_iload_n hx hb dX7_dress_0 rfl (lv_at hl 2 rfl) ?_
  refine lv_istore_n (lv' := [(3, _), (0, _), (1, _), (2, _)]) hx hb dX7_dress_1 rfl hl (by decide) rfl (fun ls hl => ?_)
  refine lv_iconst (v := 0) hx hb dX7_dress_2 (by decide) ?_
  refine lv_istore (lv' := [(4, _), (3, _), (0, _), (1, _), (2, _)]) hx hb dX7_dress_3 hl (by decide) rfl (fun ls hl => ?_)
  obtain ⟨n2, h⟩ := h
  exact wkSc_dress_l5 X hr hlk hR hcl hc0 hn1  n2 _ _ _ h hw (lv_sub hl [2, 3, 1, 0] rfl)

theorem wkSc_viewOf_b129 {I : HI} {T : HR} {F : HR} {L : HL} {r0 : Nat} {r1 : Nat} {x3 : Int32} {x4 : Int32} {x5 : Int32} {x6 : Int32} {K83 : Int32 → Int32 → Int32 → Int32 → Prop} {Q : Int32 → Prop} (X : hX p m c s args RX7 cX7_viewOf 7) (hr : meth.sig.returnType = (some .int)) (hlk : meth.locks = false) (hR : 0 ≤ R.frames ∧ 0 ≤ R.locals) (hcl : hCl Ev) (hc0 : SceSh F L r0) (hn1 : NetSh F L r1) (hK83 : ∀ (x3 : Int32) (x4 : Int32) (x5 : Int32) (x6 : Int32) {ls : Array Slot} {H : Heap} {locs : List Loc}, K83 x3 x4 x5 x6 → hW D cA z Ev (I, J, T, F, L) A s H locs → lv_has ls 7 [(0, .ref (z + r0)), (1, .ref (z + r1)), (3, .int x3), (4, .int x4), (5, .int x5), (6, .int x6)] → W p l e R s m args below meth c H locs 0 0 (MQ below (va_Qi (p0 (I, J, T, F, L) Q) (hB D cA z A) A) args s 0 0 A) (F0 m 83 ls [])) : ∀ {ls : Array Slot} {H : Heap} {locs : List Loc}, Sc_viewOf_b129 I r0 r1 x3 x4 x5 x6 K83 Q → hW D cA z Ev (I, J, T, F, L) A s H locs → lv_has ls 7 [(0, .ref (z + r0)), (1, .ref (z + r1)), (3, .int x3), (4, .int x4), (5, .int x5), (6, .int x6)] → W p l e R s m args below meth c H locs 0 0 (MQ below (va_Qi (p0 (I, J, T, F, L) Q) (hB D cA z A) A) args s 0 0 A) (F0 m 129 ls []) := by
  have hx := X.1
  have hb := X.2.1
  intro ls H locs h hw hl
  unfold Sc_viewOf_b129 at h
  refine lv_iinc (v := x6 + 1) (lv' := [(6, _), (0, _), (1, _), (3, _), (4, _), (5, _)]) hx hb dX7_viewOf_129 hl (k := 5) rfl rfl (by decide) rfl (fun ls hl => ?_)
  refine lv_iload hx hb dX7_viewOf_132 (lv_at hl 5 rfl) ?_
  refine lv_iconst (v := 1) hx hb dX7_viewOf_134 (by decide) ?_
  refine lv_ishr hx hb dX7_viewOf_135 ?_
  refine lv_istore (lv' := [(5, _), (6, _), (0, _), (1, _), (3, _), (4, _)]) hx hb dX7_viewOf_136 hl (by decide) rfl (fun ls hl => ?_)
  refine lv_goto (tgt := 83) hx hb dX7_viewOf_138 (by decide) ?_
  exact hK83 _ _ _ _ h hw (lv_sub hl [2, 3, 4, 5, 0, 1] rfl)

theorem wkSc_viewOf_l83 {I : HI} {T : HR} {F : HR} {L : HL} {r0 : Nat} {r1 : Nat} {Q : Int32 → Prop} (X : hX p m c s args RX7 cX7_viewOf 7) (hr : meth.sig.returnType = (some .int)) (hlk : meth.locks = false) (hR : 0 ≤ R.frames ∧ 0 ≤ R.locals) (hcl : hCl Ev) (hc0 : SceSh F L r0) (hn1 : NetSh F L r1)  : ∀ (n : Nat) (x3 : Int32) (x4 : Int32) (x5 : Int32) (x6 : Int32) {ls : Array Slot} {H : Heap} {locs : List Loc}, Sc_viewOf_l83 I r0 r1 Q n x3 x4 x5 x6 → hW D cA z Ev (I, J, T, F, L) A s H locs → lv_has ls 7 [(0, .ref (z + r0)), (1, .ref (z + r1)), (3, .int x3), (4, .int x4), (5, .int x5), (6, .int x6)] → W p l e R s m args below meth c H locs 0 0 (MQ below (va_Qi (p0 (I, J, T, F, L) Q) (hB D cA z A) A) args s 0 0 A) (F0 m 83 ls []) := by
  have hx := X.1
  have hb := X.2.1
  intro n
  induction n with
  | zero => intro x3 x4 x5 x6 ls H locs h; exact False.elim h
  | succ n ih =>
    intro x3 x4 x5 x6 ls H locs h hw hl
    rw [Sc_viewOf_l83] at h
    refine lv_iload hx hb dX7_viewOf_83 (lv_at hl 5 rfl) ?_
    refine lv_aload_n hx hb dX7_viewOf_85 rfl (lv_at hl 1 rfl) ?_
    refine hm_geti X hw lk_7_24 hn1.1 dX7_viewOf_86 ?_
    refine lv_icmp_ge (tgt := 141) hx hb dX7_viewOf_89 (by decide) (fun hc => ?_) (fun hc => ?_)
    · have h := Eq.mp (if_pos hc) h
      refine lv_iload_n hx hb dX7_viewOf_141 rfl (lv_at hl 2 rfl) ?_
      exact hm_iret X hr hlk hw ⟨rfl, h⟩ dX7_viewOf_142
    · have h := Eq.mp (if_neg hc) h
      refine lv_iload hx hb dX7_viewOf_92 (lv_at hl 4 rfl) ?_
      refine lv_if_eq (tgt := 141) hx hb dX7_viewOf_94 (by decide) (fun hc => ?_) (fun hc => ?_)
      · have h := Eq.mp (if_pos hc) h
        refine lv_iload_n hx hb dX7_viewOf_141 rfl (lv_at hl 2 rfl) ?_
        exact hm_iret X hr hlk hw ⟨rfl, h⟩ dX7_viewOf_142
      · have h := Eq.mp (if_neg hc) h
        refine lv_iload hx hb dX7_viewOf_97 (lv_at hl 4 rfl) ?_
        refine lv_iconst (v := 1) hx hb dX7_viewOf_99 (by decide) ?_
        refine lv_iand hx hb dX7_viewOf_100 ?_
        refine lv_iconst (v := 1) hx hb dX7_viewOf_101 (by decide) ?_
        refine lv_icmp_ne (tgt := 129) hx hb dX7_viewOf_102 (by decide) (fun hc => ?_) (fun hc => ?_)
        · have h := Eq.mp (if_neg hc) h
          exact wkSc_viewOf_b129 X hr hlk hR hcl hc0 hn1 ih h hw (lv_sub hl [0, 1, 2, 3, 4, 5] rfl)
        · have h := Eq.mp (if_pos hc) h
          refine lv_iload_n hx hb dX7_viewOf_105 rfl (lv_at hl 2 rfl) ?_
          refine lv_aload_n hx hb dX7_viewOf_106 rfl (lv_at hl 0 rfl) ?_
          refine hm_getr X hw lk_7_15 hc0.1 (ssf_1 hc0) dX7_viewOf_107 ?_
          refine lv_iload hx hb dX7_viewOf_110 (lv_at hl 5 rfl) ?_
          obtain ⟨hi, h⟩ := h
          refine hm_iald X hw (ssm_1 hc0) hi dX7_viewOf_112 ?_
          refine lv_iload hx hb dX7_viewOf_113 (lv_at hl 3 rfl) ?_
          refine lv_imul hx hb dX7_viewOf_115 ?_
          refine lv_iadd hx hb dX7_viewOf_116 ?_
          refine lv_istore_n (lv' := [(3, _), (0, _), (1, _), (4, _), (5, _), (6, _)]) hx hb dX7_viewOf_117 rfl hl (by decide) rfl (fun ls hl => ?_)
          refine lv_iload hx hb dX7_viewOf_118 (lv_at hl 3 rfl) ?_
          refine lv_aload_n hx hb dX7_viewOf_120 rfl (lv_at hl 2 rfl) ?_
          refine hm_geti X hw lk_7_30 hn1.1 dX7_viewOf_121 ?_
          refine lv_iconst (v := 1) hx hb dX7_viewOf_124 (by decide) ?_
          refine lv_iadd hx hb dX7_viewOf_125 ?_
          refine lv_imul hx hb dX7_viewOf_126 ?_
          refine lv_istore (lv' := [(4, _), (3, _), (0, _), (1, _), (5, _), (6, _)]) hx hb dX7_viewOf_127 hl (by decide) rfl (fun ls hl => ?_)
          exact wkSc_viewOf_b129 X hr hlk hR hcl hc0 hn1 ih h hw (lv_sub hl [2, 3, 1, 0, 4, 5] rfl)

theorem wkSc_viewOf_b72 {I : HI} {T : HR} {F : HR} {L : HL} {r0 : Nat} {r1 : Nat} {x2 : Int32} {x3 : Int32} {x4 : Int32} {Q : Int32 → Prop} (X : hX p m c s args RX7 cX7_viewOf 7) (hr : meth.sig.returnType = (some .int)) (hlk : meth.locks = false) (hR : 0 ≤ R.frames ∧ 0 ≤ R.locals) (hcl : hCl Ev) (hc0 : SceSh F L r0) (hn1 : NetSh F L r1)  : ∀ {ls : Array Slot} {H : Heap} {locs : List Loc}, Sc_viewOf_b72 I r0 r1 x2 x3 x4 Q → hW D cA z Ev (I, J, T, F, L) A s H locs → lv_has ls 7 [(0, .ref (z + r0)), (1, .ref (z + r1)), (2, .int x2), (3, .int x3), (4, .int x4)] → W p l e R s m args below meth c H locs 0 0 (MQ below (va_Qi (p0 (I, J, T, F, L) Q) (hB D cA z A) A) args s 0 0 A) (F0 m 72 ls []) := by
  have hx := X.1
  have hb := X.2.1
  intro ls H locs h hw hl
  unfold Sc_viewOf_b72 at h
  refine lv_aload_n hx hb dX7_viewOf_72 rfl (lv_at hl 1 rfl) ?_
  refine hm_getr X hw lk_7_74 hn1.1 (nsf_5 hn1) dX7_viewOf_73 ?_
  refine lv_iload_n hx hb dX7_viewOf_76 rfl (lv_at hl 2 rfl) ?_
  obtain ⟨hi, h⟩ := h
  refine hm_iald X hw (nsm_5 hn1) hi dX7_viewOf_77 ?_
  refine lv_istore (lv' := [(5, _), (0, _), (1, _), (2, _), (3, _), (4, _)]) hx hb dX7_viewOf_78 hl (by decide) rfl (fun ls hl => ?_)
  refine lv_iconst (v := 0) hx hb dX7_viewOf_80 (by decide) ?_
  refine lv_istore (lv' := [(6, _), (5, _), (0, _), (1, _), (2, _), (3, _), (4, _)]) hx hb dX7_viewOf_81 hl (by decide) rfl (fun ls hl => ?_)
  obtain ⟨n2, h⟩ := h
  exact wkSc_viewOf_l83 X hr hlk hR hcl hc0 hn1  n2 _ _ _ _ h hw (lv_sub hl [2, 3, 5, 6, 1, 0] rfl)

theorem wkSc_viewOf_b60 {I : HI} {T : HR} {F : HR} {L : HL} {r0 : Nat} {r1 : Nat} {x2 : Int32} {x3 : Int32} {x4 : Int32} {x5 : Int32} {x6 : Int32} {K16 : Int32 → Int32 → Int32 → Int32 → Prop} {Q : Int32 → Prop} (X : hX p m c s args RX7 cX7_viewOf 7) (hr : meth.sig.returnType = (some .int)) (hlk : meth.locks = false) (hR : 0 ≤ R.frames ∧ 0 ≤ R.locals) (hcl : hCl Ev) (hc0 : SceSh F L r0) (hn1 : NetSh F L r1) (hK16 : ∀ (x3 : Int32) (x4 : Int32) (x5 : Int32) (x6 : Int32) {ls : Array Slot} {H : Heap} {locs : List Loc}, K16 x3 x4 x5 x6 → hW D cA z Ev (I, J, T, F, L) A s H locs → lv_has ls 7 [(0, .ref (z + r0)), (1, .ref (z + r1)), (2, .int x2), (3, .int x3), (4, .int x4), (5, .int x5), (6, .int x6)] → W p l e R s m args below meth c H locs 0 0 (MQ below (va_Qi (p0 (I, J, T, F, L) Q) (hB D cA z A) A) args s 0 0 A) (F0 m 16 ls [])) : ∀ {ls : Array Slot} {H : Heap} {locs : List Loc}, Sc_viewOf_b60 I r0 r1 x2 x3 x4 x5 x6 K16 Q → hW D cA z Ev (I, J, T, F, L) A s H locs → lv_has ls 7 [(0, .ref (z + r0)), (1, .ref (z + r1)), (2, .int x2), (3, .int x3), (4, .int x4), (5, .int x5), (6, .int x6)] → W p l e R s m args below meth c H locs 0 0 (MQ below (va_Qi (p0 (I, J, T, F, L) Q) (hB D cA z A) A) args s 0 0 A) (F0 m 60 ls []) := by
  have hx := X.1
  have hb := X.2.1
  intro ls H locs h hw hl
  unfold Sc_viewOf_b60 at h
  refine lv_iinc (v := x6 + 1) (lv' := [(6, _), (0, _), (1, _), (2, _), (3, _), (4, _), (5, _)]) hx hb dX7_viewOf_60 hl (k := 6) rfl rfl (by decide) rfl (fun ls hl => ?_)
  refine lv_iload hx hb dX7_viewOf_63 (lv_at hl 6 rfl) ?_
  refine lv_iconst (v := 1) hx hb dX7_viewOf_65 (by decide) ?_
  refine lv_ishr hx hb dX7_viewOf_66 ?_
  refine lv_istore (lv' := [(5, _), (6, _), (0, _), (1, _), (2, _), (3, _), (4, _)]) hx hb dX7_viewOf_67 hl (by decide) rfl (fun ls hl => ?_)
  refine lv_goto (tgt := 16) hx hb dX7_viewOf_69 (by decide) ?_
  exact hK16 _ _ _ _ h hw (lv_sub hl [2, 3, 4, 5, 6, 0, 1] rfl)

theorem wkSc_viewOf_l16 {I : HI} {T : HR} {F : HR} {L : HL} {r0 : Nat} {r1 : Nat} {x2 : Int32} {Q : Int32 → Prop} (X : hX p m c s args RX7 cX7_viewOf 7) (hr : meth.sig.returnType = (some .int)) (hlk : meth.locks = false) (hR : 0 ≤ R.frames ∧ 0 ≤ R.locals) (hcl : hCl Ev) (hc0 : SceSh F L r0) (hn1 : NetSh F L r1)  : ∀ (n : Nat) (x3 : Int32) (x4 : Int32) (x5 : Int32) (x6 : Int32) {ls : Array Slot} {H : Heap} {locs : List Loc}, Sc_viewOf_l16 I r0 r1 x2 Q n x3 x4 x5 x6 → hW D cA z Ev (I, J, T, F, L) A s H locs → lv_has ls 7 [(0, .ref (z + r0)), (1, .ref (z + r1)), (2, .int x2), (3, .int x3), (4, .int x4), (5, .int x5), (6, .int x6)] → W p l e R s m args below meth c H locs 0 0 (MQ below (va_Qi (p0 (I, J, T, F, L) Q) (hB D cA z A) A) args s 0 0 A) (F0 m 16 ls []) := by
  have hx := X.1
  have hb := X.2.1
  intro n
  induction n with
  | zero => intro x3 x4 x5 x6 ls H locs h; exact False.elim h
  | succ n ih =>
    intro x3 x4 x5 x6 ls H locs h hw hl
    rw [Sc_viewOf_l16] at h
    refine lv_iload hx hb dX7_viewOf_16 (lv_at hl 6 rfl) ?_
    refine lv_aload_n hx hb dX7_viewOf_18 rfl (lv_at hl 1 rfl) ?_
    refine hm_geti X hw lk_7_24 hn1.1 dX7_viewOf_19 ?_
    refine lv_icmp_ge (tgt := 72) hx hb dX7_viewOf_22 (by decide) (fun hc => ?_) (fun hc => ?_)
    · have h := Eq.mp (if_pos hc) h
      exact wkSc_viewOf_b72 X hr hlk hR hcl hc0 hn1  h hw (lv_sub hl [0, 1, 2, 3, 4] rfl)
    · have h := Eq.mp (if_neg hc) h
      refine lv_iload hx hb dX7_viewOf_25 (lv_at hl 5 rfl) ?_
      refine lv_if_eq (tgt := 72) hx hb dX7_viewOf_27 (by decide) (fun hc => ?_) (fun hc => ?_)
      · have h := Eq.mp (if_pos hc) h
        exact wkSc_viewOf_b72 X hr hlk hR hcl hc0 hn1  h hw (lv_sub hl [0, 1, 2, 3, 4] rfl)
      · have h := Eq.mp (if_neg hc) h
        refine lv_iload hx hb dX7_viewOf_30 (lv_at hl 5 rfl) ?_
        refine lv_iconst (v := 1) hx hb dX7_viewOf_32 (by decide) ?_
        refine lv_iand hx hb dX7_viewOf_33 ?_
        refine lv_iconst (v := 1) hx hb dX7_viewOf_34 (by decide) ?_
        refine lv_icmp_ne (tgt := 60) hx hb dX7_viewOf_35 (by decide) (fun hc => ?_) (fun hc => ?_)
        · have h := Eq.mp (if_neg hc) h
          exact wkSc_viewOf_b60 X hr hlk hR hcl hc0 hn1 ih h hw (lv_sub hl [0, 1, 2, 3, 4, 5, 6] rfl)
        · have h := Eq.mp (if_pos hc) h
          refine lv_iload_n hx hb dX7_viewOf_38 rfl (lv_at hl 3 rfl) ?_
          refine lv_aload_n hx hb dX7_viewOf_39 rfl (lv_at hl 0 rfl) ?_
          refine hm_getr X hw lk_7_9 hc0.1 (ssf_0 hc0) dX7_viewOf_40 ?_
          refine lv_iload hx hb dX7_viewOf_43 (lv_at hl 6 rfl) ?_
          obtain ⟨hi, h⟩ := h
          refine hm_iald X hw (ssm_0 hc0) hi dX7_viewOf_45 ?_
          refine lv_iload hx hb dX7_viewOf_46 (lv_at hl 4 rfl) ?_
          refine lv_imul hx hb dX7_viewOf_48 ?_
          refine lv_iadd hx hb dX7_viewOf_49 ?_
          refine lv_istore_n (lv' := [(3, _), (0, _), (1, _), (2, _), (4, _), (5, _), (6, _)]) hx hb dX7_viewOf_50 rfl hl (by decide) rfl (fun ls hl => ?_)
          refine lv_iload hx hb dX7_viewOf_51 (lv_at hl 4 rfl) ?_
          refine lv_aload_n hx hb dX7_viewOf_53 rfl (lv_at hl 2 rfl) ?_
          refine hm_geti X hw lk_7_30 hn1.1 dX7_viewOf_54 ?_
          refine lv_imul hx hb dX7_viewOf_57 ?_
          refine lv_istore (lv' := [(4, _), (3, _), (0, _), (1, _), (2, _), (5, _), (6, _)]) hx hb dX7_viewOf_58 hl (by decide) rfl (fun ls hl => ?_)
          exact wkSc_viewOf_b60 X hr hlk hR hcl hc0 hn1 ih h hw (lv_sub hl [2, 3, 4, 1, 0, 5, 6] rfl)

theorem cSc_viewOf {l : Launch} {D : va_G} {cA : Nat → ClassId} {z sz : Nat} {I : HI} {T : HR} {F : HR} {L : HL} {r0 : Nat} {r1 : Nat} {x2 : Int32} {Q : Int32 → Prop} (hcl : hCl Ev) (hc0 : SceSh F L r0) (hn1 : NetSh F L r1) (h : Sc_viewOf I r0 r1 x2 Q) : Met l yX7_viewOf (hws0 yX7_viewOf cX7_viewOf 7 (some .int)) { frames := 0, cells := 0, slots := 0, locals := 0 } (hPc D cA z Ev (I, J, T, F, L) sz [.ref (z + r0), .ref (z + r1), .int x2]) (va_Qi (p0 (I, J, T, F, L) Q) (hB D cA z (hA z L sz)) (hA z L sz)) 0 0 (hA z L sz) := by
  refine hm_met (I, J, T, F, L) [.ref (z + r0), .ref (z + r1), .int x2] rfl (by decide) (Nat.le_of_ble_eq_true rfl) ?_
  intro p e s m below meth c ls X hr hlk hnm hxt hsz hw hl
  have hl : lv_has ls 7 [(0, .ref (z + r0)), (1, .ref (z + r1)), (2, .int x2)] := hl
  have hR : 0 ≤ ({ frames := 0, cells := 0, slots := 0, locals := 0 } : Room).frames ∧ 0 ≤ ({ frames := 0, cells := 0, slots := 0, locals := 0 } : Room).locals := ⟨Nat.le_refl _, Nat.le_refl _⟩
  generalize ({ frames := 0, cells := 0, slots := 0, locals := 0 } : Room) = R at hR ⊢
  clear hsz
  generalize (hA z L sz) = A at hw ⊢
  have hx := X.1
  have hb := X.2.1
  unfold Sc_viewOf at h
  refine lv_iconst (v := 0) hx hb dX7_viewOf_0 (by decide) ?_
  refine lv_istore_n (lv' := [(3, _), (0, _), (1, _), (2, _)]) hx hb dX7_viewOf_1 rfl hl (by decide) rfl (fun ls hl => ?_)
  refine lv_iconst (v := 1) hx hb dX7_viewOf_2 (by decide) ?_
  refine lv_istore (lv' := [(4, _), (3, _), (0, _), (1, _), (2, _)]) hx hb dX7_viewOf_3 hl (by decide) rfl (fun ls hl => ?_)
  refine lv_aload_n hx hb dX7_viewOf_5 rfl (lv_at hl 3 rfl) ?_
  refine hm_getr X hw lk_7_71 hn1.1 (nsf_3 hn1) dX7_viewOf_6 ?_
  refine lv_iload_n hx hb dX7_viewOf_9 rfl (lv_at hl 4 rfl) ?_
  obtain ⟨hi, h⟩ := h
  refine hm_iald X hw (nsm_3 hn1) hi dX7_viewOf_10 ?_
  refine lv_istore (lv' := [(5, _), (4, _), (3, _), (0, _), (1, _), (2, _)]) hx hb dX7_viewOf_11 hl (by decide) rfl (fun ls hl => ?_)
  refine lv_iconst (v := 0) hx hb dX7_viewOf_13 (by decide) ?_
  refine lv_istore (lv' := [(6, _), (5, _), (4, _), (3, _), (0, _), (1, _), (2, _)]) hx hb dX7_viewOf_14 hl (by decide) rfl (fun ls hl => ?_)
  obtain ⟨n2, h⟩ := h
  exact wkSc_viewOf_l16 X hr hlk hR hcl hc0 hn1  n2 _ _ _ _ h hw (lv_sub hl [4, 5, 6, 3, 2, 1, 0] rfl)

theorem cNet_guessAt {l : Launch} {D : va_G} {cA : Nat → ClassId} {z sz : Nat} {I : HI} {T : HR} {F : HR} {L : HL} {r0 : Nat} {x1 : Int32} {x2 : Int32} {Q : Int32 → Prop} (hcl : hCl Ev) (hn0 : NetSh F L r0) (h : Net_guessAt I r0 x1 x2 Q) : Met l yX5_guessAt (hws0 yX5_guessAt cX5_guessAt 3 (some .int)) { frames := 0, cells := 0, slots := 0, locals := 0 } (hPc D cA z Ev (I, J, T, F, L) sz [.ref (z + r0), .int x1, .int x2]) (va_Qi (p0 (I, J, T, F, L) Q) (hB D cA z (hA z L sz)) (hA z L sz)) 0 0 (hA z L sz) := by
  refine hm_met (I, J, T, F, L) [.ref (z + r0), .int x1, .int x2] rfl (by decide) (Nat.le_of_ble_eq_true rfl) ?_
  intro p e s m below meth c ls X hr hlk hnm hxt hsz hw hl
  have hl : lv_has ls 3 [(0, .ref (z + r0)), (1, .int x1), (2, .int x2)] := hl
  have hR : 0 ≤ ({ frames := 0, cells := 0, slots := 0, locals := 0 } : Room).frames ∧ 0 ≤ ({ frames := 0, cells := 0, slots := 0, locals := 0 } : Room).locals := ⟨Nat.le_refl _, Nat.le_refl _⟩
  generalize ({ frames := 0, cells := 0, slots := 0, locals := 0 } : Room) = R at hR ⊢
  clear hsz
  generalize (hA z L sz) = A at hw ⊢
  have hx := X.1
  have hb := X.2.1
  unfold Net_guessAt at h
  refine lv_aload_n hx hb dX5_guessAt_0 rfl (lv_at hl 0 rfl) ?_
  refine hm_getr X hw lk_5_33 hn0.1 (nsf_9 hn0) dX5_guessAt_1 ?_
  refine lv_iload_n hx hb dX5_guessAt_4 rfl (lv_at hl 1 rfl) ?_
  refine lv_sipush (v := 1024) hx hb dX5_guessAt_5 (by decide) ?_
  refine lv_imul hx hb dX5_guessAt_8 ?_
  refine lv_iload_n hx hb dX5_guessAt_9 rfl (lv_at hl 2 rfl) ?_
  refine lv_iadd hx hb dX5_guessAt_10 ?_
  obtain ⟨hi, h⟩ := h
  refine hm_bald X hw (nsm_9 hn0) hi dX5_guessAt_11 ?_
  exact hm_iret X hr hlk hw ⟨rfl, h⟩ dX5_guessAt_12

theorem cSc_guessOf {l : Launch} {D : va_G} {cA : Nat → ClassId} {z sz : Nat} {I : HI} {T : HR} {F : HR} {L : HL} {r0 : Nat} {r1 : Nat} {x2 : Int32} {Q : Int32 → HI → Prop} (hcl : hCl Ev) (hc0 : SceSh F L r0) (hn1 : NetSh F L r1) (h : Sc_guessOf I T F L r0 r1 x2 Q) : Met l yX7_guessOf (hws0 yX7_guessOf cX7_guessOf 4 (some .int)) { frames := 3, cells := 0, slots := 0, locals := 74 } (hPc D cA z Ev (I, J, T, F, L) sz [.ref (z + r0), .ref (z + r1), .int x2]) (va_Qi (pI J T F L Q) (hB D cA z (hA z L sz)) (hA z L sz)) 0 0 (hA z L sz) := by
  refine hm_met (I, J, T, F, L) [.ref (z + r0), .ref (z + r1), .int x2] rfl (by decide) (Nat.le_of_ble_eq_true rfl) ?_
  intro p e s m below meth c ls X hr hlk hnm hxt hsz hw hl
  have hl : lv_has ls 4 [(0, .ref (z + r0)), (1, .ref (z + r1)), (2, .int x2)] := hl
  have hR : 3 ≤ ({ frames := 3, cells := 0, slots := 0, locals := 74 } : Room).frames ∧ 74 ≤ ({ frames := 3, cells := 0, slots := 0, locals := 74 } : Room).locals := ⟨Nat.le_refl _, Nat.le_refl _⟩
  generalize ({ frames := 3, cells := 0, slots := 0, locals := 74 } : Room) = R at hR ⊢
  clear hsz
  generalize (hA z L sz) = A at hw ⊢
  have hx := X.1
  have hb := X.2.1
  unfold Sc_guessOf at h
  refine lv_aload_n hx hb dX7_guessOf_0 rfl (lv_at hl 1 rfl) ?_
  refine hm_getr X hw lk_7_51 hn1.1 (nsf_8 hn1) dX7_guessOf_1 ?_
  refine lv_iload_n hx hb dX7_guessOf_4 rfl (lv_at hl 2 rfl) ?_
  obtain ⟨hi, h⟩ := h
  refine hm_aldq5 X hw (nsm_8 hn1) hi dX7_guessOf_5 ?_
  refine hm_astoreq_n (lv' := [(3, _), (0, _), (1, _), (2, _)]) hx hb dX7_guessOf_6 rfl hl (by decide) rfl (fun ls hl => ?_)
  refine hm_aloadq_n (z := z) (v := T (r1 + 6) (nx x2)) hx hb dX7_guessOf_7 rfl (lv_at hl 0 rfl) ?_
  refine hm_ifnull (tgt := 19) hx hb dX7_guessOf_8 (by decide) (fun he => ?_) (fun ef1 he => ?_)
  · have h := h.1 he
    rw [he] at hl
    refine lv_aload_n hx hb dX7_guessOf_19 rfl (lv_at hl 2 rfl) ?_
    refine hm_getr X hw lk_7_61 hn1.1 (nsf_6 hn1) dX7_guessOf_20 ?_
    refine lv_iload_n hx hb dX7_guessOf_23 rfl (lv_at hl 3 rfl) ?_
    obtain ⟨hi, h⟩ := h
    refine hm_iald X hw (nsm_6 hn1) hi dX7_guessOf_24 ?_
    refine lv_iconst (v := (-1)) hx hb dX7_guessOf_25 (by decide) ?_
    refine lv_icmp_ne (tgt := 33) hx hb dX7_guessOf_26 (by decide) (fun hc => ?_) (fun hc => ?_)
    · have h := Eq.mp (if_neg hc) h
      refine lv_aload_n hx hb dX7_guessOf_33 rfl (lv_at hl 2 rfl) ?_
      refine lv_iload_n hx hb dX7_guessOf_34 rfl (lv_at hl 3 rfl) ?_
      refine lv_aload_n hx hb dX7_guessOf_35 rfl (lv_at hl 1 rfl) ?_
      refine lv_aload_n hx hb dX7_guessOf_36 rfl (lv_at hl 2 rfl) ?_
      refine lv_iload_n hx hb dX7_guessOf_37 rfl (lv_at hl 3 rfl) ?_
      refine hm_calli hw (hm_runV (rest := [_, _]) hcl X hw (cSc_viewOf hcl hc0 hn1 h) yk_X7_viewOf kw577 rfl hc0.1 rfl hl.1 rfl rfl rfl (Nat.le_of_ble_eq_true rfl) ⟨Nat.le_trans (Nat.le_of_ble_eq_true rfl) hR.1, Nat.le_trans (Nat.le_of_ble_eq_true rfl) hR.2⟩ ⟨Nat.zero_le _, Nat.zero_le _⟩ dX7_guessOf_38) (fun a2 u3 H locs hp hw => ?_)
      obtain ⟨rfl, h⟩ := hp
      refine hm_calli hw (hm_runV (rest := []) hcl X hw (cNet_guessAt hcl hn1 h) yk_X5_guessAt kw581 rfl hn1.1 rfl hl.1 rfl rfl rfl (Nat.le_of_ble_eq_true rfl) ⟨Nat.le_trans (Nat.le_of_ble_eq_true rfl) hR.1, Nat.le_trans (Nat.le_of_ble_eq_true rfl) hR.2⟩ ⟨Nat.zero_le _, Nat.zero_le _⟩ dX7_guessOf_41) (fun a4 u5 H locs hp hw => ?_)
      obtain ⟨rfl, h⟩ := hp
      exact hm_iret X hr hlk hw ⟨_, rfl, h⟩ dX7_guessOf_44
    · have h := Eq.mp (if_pos hc) h
      refine lv_iconst (v := 0) hx hb dX7_guessOf_29 (by decide) ?_
      refine lv_goto (tgt := 44) hx hb dX7_guessOf_30 (by decide) ?_
      exact hm_iret X hr hlk hw ⟨_, rfl, h⟩ dX7_guessOf_44
  · have h := h.2 ef1 he
    rw [he] at hl
    refine lv_aload_n hx hb dX7_guessOf_11 rfl (lv_at hl 0 rfl) ?_
    refine lv_aload_n hx hb dX7_guessOf_12 rfl (lv_at hl 2 rfl) ?_
    refine lv_iload_n hx hb dX7_guessOf_13 rfl (lv_at hl 3 rfl) ?_
    refine lv_aload_n hx hb dX7_guessOf_14 rfl (lv_at hl 1 rfl) ?_
    obtain ⟨en6, ek7, el8, eq9, ev10, ehf11, h⟩ := h
    refine hm_calli hw (hm_runV (rest := []) hcl X hw (cFrm_guess hcl ehf11 hn1 hc0 h) yk_X1_guess kw559 rfl ehf11.1 rfl hl.1 rfl rfl rfl (Nat.le_of_ble_eq_true rfl) ⟨Nat.le_trans (Nat.le_of_ble_eq_true rfl) hR.1, Nat.le_trans (Nat.le_of_ble_eq_true rfl) hR.2⟩ ⟨Nat.zero_le _, Nat.zero_le _⟩ dX7_guessOf_15) (fun a12 u14 H locs hp hw => ?_)
    obtain ⟨I13, rfl, h⟩ := hp
    exact hm_iret X hr hlk hw ⟨_, rfl, h⟩ dX7_guessOf_18

theorem wkSc_guessAll_l2 {T : HR} {F : HR} {L : HL} {r0 : Nat} {r1 : Nat} {Q : HI → Prop} (X : hX p m c s args RX7 cX7_guessAll 4) (hr : meth.sig.returnType = none) (hlk : meth.locks = false) (hR : 4 ≤ R.frames ∧ 97 ≤ R.locals) (hcl : hCl Ev) (hc0 : SceSh F L r0) (hn1 : NetSh F L r1)  : ∀ (n : Nat) (I : HI) (x2 : Int32) {ls : Array Slot} {H : Heap} {locs : List Loc}, Sc_guessAll_l2 T F L r0 r1 Q n I x2 → hW D cA z Ev (I, J, T, F, L) A s H locs → lv_has ls 4 [(0, .ref (z + r0)), (1, .ref (z + r1)), (2, .int x2)] → W p l e R s m args below meth c H locs 0 0 (MQ below (va_Qv (pIv J T F L Q) (hB D cA z A) A) args s 0 0 A) (F0 m 2 ls []) := by
  have hx := X.1
  have hb := X.2.1
  intro n
  induction n with
  | zero => intro I x2 ls H locs h; exact False.elim h
  | succ n ih =>
    intro I x2 ls H locs h hw hl
    rw [Sc_guessAll_l2] at h
    refine lv_iload_n hx hb dX7_guessAll_2 rfl (lv_at hl 2 rfl) ?_
    refine lv_aload_n hx hb dX7_guessAll_3 rfl (lv_at hl 1 rfl) ?_
    refine hm_geti X hw lk_7_24 hn1.1 dX7_guessAll_4 ?_
    refine lv_icmp_ge (tgt := 35) hx hb dX7_guessAll_7 (by decide) (fun hc => ?_) (fun hc => ?_)
    · have h := Eq.mp (if_pos hc) h
      exact hm_vret X hr hlk hw ⟨_, rfl, h⟩ dX7_guessAll_35
    · have h := Eq.mp (if_neg hc) h
      refine lv_aload_n hx hb dX7_guessAll_10 rfl (lv_at hl 1 rfl) ?_
      refine hm_getr X hw lk_7_33 hn1.1 (nsf_7 hn1) dX7_guessAll_11 ?_
      refine lv_iload_n hx hb dX7_guessAll_14 rfl (lv_at hl 2 rfl) ?_
      obtain ⟨hi, h⟩ := h
      refine hm_iald X hw (nsm_7 hn1) hi dX7_guessAll_15 ?_
      refine lv_istore_n (lv' := [(3, _), (0, _), (1, _), (2, _)]) hx hb dX7_guessAll_16 rfl hl (by decide) rfl (fun ls hl => ?_)
      refine lv_aload_n hx hb dX7_guessAll_17 rfl (lv_at hl 1 rfl) ?_
      refine hm_getr X hw lk_7_15 hc0.1 (ssf_1 hc0) dX7_guessAll_18 ?_
      refine lv_iload_n hx hb dX7_guessAll_21 rfl (lv_at hl 0 rfl) ?_
      refine lv_aload_n hx hb dX7_guessAll_22 rfl (lv_at hl 1 rfl) ?_
      refine lv_aload_n hx hb dX7_guessAll_23 rfl (lv_at hl 2 rfl) ?_
      refine lv_iload_n hx hb dX7_guessAll_24 rfl (lv_at hl 0 rfl) ?_
      refine hm_calli hw (hm_runV (rest := [_, _]) hcl X hw (cSc_guessOf hcl hc0 hn1 h) yk_X7_guessOf kw555 rfl hc0.1 rfl hl.1 rfl rfl rfl (Nat.le_of_ble_eq_true rfl) ⟨Nat.le_trans (Nat.le_of_ble_eq_true rfl) hR.1, Nat.le_trans (Nat.le_of_ble_eq_true rfl) hR.2⟩ ⟨Nat.zero_le _, Nat.zero_le _⟩ dX7_guessAll_25) (fun a1 u3 H locs hp hw => ?_)
      obtain ⟨I2, rfl, h⟩ := hp
      obtain ⟨hi, h⟩ := h
      refine hm_iast X hw (ssm_1 hc0) hi dX7_guessAll_28 (fun H locs hw => ?_)
      refine lv_iinc (v := x2 + 1) (lv' := [(2, _), (3, _), (0, _), (1, _)]) hx hb dX7_guessAll_29 hl (k := 3) rfl rfl (by decide) rfl (fun ls hl => ?_)
      refine lv_goto (tgt := 2) hx hb dX7_guessAll_32 (by decide) ?_
      exact ih _ _ h hw (lv_sub hl [2, 3, 0] rfl)

theorem cSc_guessAll {l : Launch} {D : va_G} {cA : Nat → ClassId} {z sz : Nat} {I : HI} {T : HR} {F : HR} {L : HL} {r0 : Nat} {r1 : Nat} {Q : HI → Prop} (hcl : hCl Ev) (hc0 : SceSh F L r0) (hn1 : NetSh F L r1) (h : Sc_guessAll I T F L r0 r1 Q) : Met l yX7_guessAll (hws0 yX7_guessAll cX7_guessAll 4 none) { frames := 4, cells := 0, slots := 0, locals := 97 } (hPc D cA z Ev (I, J, T, F, L) sz [.ref (z + r0), .ref (z + r1)]) (va_Qv (pIv J T F L Q) (hB D cA z (hA z L sz)) (hA z L sz)) 0 0 (hA z L sz) := by
  refine hm_met (I, J, T, F, L) [.ref (z + r0), .ref (z + r1)] rfl (by decide) (Nat.le_of_ble_eq_true rfl) ?_
  intro p e s m below meth c ls X hr hlk hnm hxt hsz hw hl
  have hl : lv_has ls 4 [(0, .ref (z + r0)), (1, .ref (z + r1))] := hl
  have hR : 4 ≤ ({ frames := 4, cells := 0, slots := 0, locals := 97 } : Room).frames ∧ 97 ≤ ({ frames := 4, cells := 0, slots := 0, locals := 97 } : Room).locals := ⟨Nat.le_refl _, Nat.le_refl _⟩
  generalize ({ frames := 4, cells := 0, slots := 0, locals := 97 } : Room) = R at hR ⊢
  clear hsz
  generalize (hA z L sz) = A at hw ⊢
  have hx := X.1
  have hb := X.2.1
  unfold Sc_guessAll at h
  refine lv_iconst (v := 0) hx hb dX7_guessAll_0 (by decide) ?_
  refine lv_istore_n (lv' := [(2, _), (0, _), (1, _)]) hx hb dX7_guessAll_1 rfl hl (by decide) rfl (fun ls hl => ?_)
  obtain ⟨n2, h⟩ := h
  exact wkSc_guessAll_l2 X hr hlk hR hcl hc0 hn1  n2 _ _ h hw (lv_sub hl [1, 2, 0] rfl)

theorem wkSc_rightOnes_l4 {I : HI} {T : HR} {F : HR} {L : HL} {r0 : Nat} {r1 : Nat} {Q : Int32 → Prop} (X : hX p m c s args RX7 cX7_rightOnes 4) (hr : meth.sig.returnType = (some .int)) (hlk : meth.locks = false) (hR : 0 ≤ R.frames ∧ 0 ≤ R.locals) (hcl : hCl Ev) (hc0 : SceSh F L r0) (hn1 : NetSh F L r1)  : ∀ (n : Nat) (x2 : Int32) (x3 : Int32) {ls : Array Slot} {H : Heap} {locs : List Loc}, Sc_rightOnes_l4 I r0 r1 Q n x2 x3 → hW D cA z Ev (I, J, T, F, L) A s H locs → lv_has ls 4 [(0, .ref (z + r0)), (1, .ref (z + r1)), (2, .int x2), (3, .int x3)] → W p l e R s m args below meth c H locs 0 0 (MQ below (va_Qi (p0 (I, J, T, F, L) Q) (hB D cA z A) A) args s 0 0 A) (F0 m 4 ls []) := by
  have hx := X.1
  have hb := X.2.1
  intro n
  induction n with
  | zero => intro x2 x3 ls H locs h; exact False.elim h
  | succ n ih =>
    intro x2 x3 ls H locs h hw hl
    rw [Sc_rightOnes_l4] at h
    refine lv_iload_n hx hb dX7_rightOnes_4 rfl (lv_at hl 3 rfl) ?_
    refine lv_aload_n hx hb dX7_rightOnes_5 rfl (lv_at hl 1 rfl) ?_
    refine hm_geti X hw lk_7_24 hn1.1 dX7_rightOnes_6 ?_
    refine lv_icmp_ge (tgt := 39) hx hb dX7_rightOnes_9 (by decide) (fun hc => ?_) (fun hc => ?_)
    · have h := Eq.mp (if_pos hc) h
      refine lv_iload_n hx hb dX7_rightOnes_39 rfl (lv_at hl 2 rfl) ?_
      exact hm_iret X hr hlk hw ⟨rfl, h⟩ dX7_rightOnes_40
    · have h := Eq.mp (if_neg hc) h
      refine lv_aload_n hx hb dX7_rightOnes_12 rfl (lv_at hl 0 rfl) ?_
      refine hm_getr X hw lk_7_15 hc0.1 (ssf_1 hc0) dX7_rightOnes_13 ?_
      refine lv_iload_n hx hb dX7_rightOnes_16 rfl (lv_at hl 3 rfl) ?_
      obtain ⟨hi, h⟩ := h
      refine hm_iald X hw (ssm_1 hc0) hi dX7_rightOnes_17 ?_
      refine lv_aload_n hx hb dX7_rightOnes_18 rfl (lv_at hl 0 rfl) ?_
      refine hm_getr X hw lk_7_9 hc0.1 (ssf_0 hc0) dX7_rightOnes_19 ?_
      refine lv_iload_n hx hb dX7_rightOnes_22 rfl (lv_at hl 3 rfl) ?_
      obtain ⟨hi, h⟩ := h
      refine hm_iald X hw (ssm_0 hc0) hi dX7_rightOnes_23 ?_
      refine lv_icmp_ne (tgt := 33) hx hb dX7_rightOnes_24 (by decide) (fun hc => ?_) (fun hc => ?_)
      · have h := Eq.mp (if_neg hc) h
        refine lv_iinc (v := x3 + 1) (lv' := [(3, _), (0, _), (1, _), (2, _)]) hx hb dX7_rightOnes_33 hl (k := 3) rfl rfl (by decide) rfl (fun ls hl => ?_)
        refine lv_goto (tgt := 4) hx hb dX7_rightOnes_36 (by decide) ?_
        exact ih _ _ h hw (lv_sub hl [1, 2, 3, 0] rfl)
      · have h := Eq.mp (if_pos hc) h
        refine lv_iload_n hx hb dX7_rightOnes_27 rfl (lv_at hl 2 rfl) ?_
        refine lv_iconst (v := 1) hx hb dX7_rightOnes_28 (by decide) ?_
        refine lv_iload_n hx hb dX7_rightOnes_29 rfl (lv_at hl 3 rfl) ?_
        refine lv_ishl hx hb dX7_rightOnes_30 ?_
        refine lv_ior hx hb dX7_rightOnes_31 ?_
        refine lv_istore_n (lv' := [(2, _), (0, _), (1, _), (3, _)]) hx hb dX7_rightOnes_32 rfl hl (by decide) rfl (fun ls hl => ?_)
        refine lv_iinc (v := x3 + 1) (lv' := [(3, _), (2, _), (0, _), (1, _)]) hx hb dX7_rightOnes_33 hl (k := 3) rfl rfl (by decide) rfl (fun ls hl => ?_)
        refine lv_goto (tgt := 4) hx hb dX7_rightOnes_36 (by decide) ?_
        exact ih _ _ h hw (lv_sub hl [2, 3, 1, 0] rfl)

theorem cSc_rightOnes {l : Launch} {D : va_G} {cA : Nat → ClassId} {z sz : Nat} {I : HI} {T : HR} {F : HR} {L : HL} {r0 : Nat} {r1 : Nat} {Q : Int32 → Prop} (hcl : hCl Ev) (hc0 : SceSh F L r0) (hn1 : NetSh F L r1) (h : Sc_rightOnes I r0 r1 Q) : Met l yX7_rightOnes (hws0 yX7_rightOnes cX7_rightOnes 4 (some .int)) { frames := 0, cells := 0, slots := 0, locals := 0 } (hPc D cA z Ev (I, J, T, F, L) sz [.ref (z + r0), .ref (z + r1)]) (va_Qi (p0 (I, J, T, F, L) Q) (hB D cA z (hA z L sz)) (hA z L sz)) 0 0 (hA z L sz) := by
  refine hm_met (I, J, T, F, L) [.ref (z + r0), .ref (z + r1)] rfl (by decide) (Nat.le_of_ble_eq_true rfl) ?_
  intro p e s m below meth c ls X hr hlk hnm hxt hsz hw hl
  have hl : lv_has ls 4 [(0, .ref (z + r0)), (1, .ref (z + r1))] := hl
  have hR : 0 ≤ ({ frames := 0, cells := 0, slots := 0, locals := 0 } : Room).frames ∧ 0 ≤ ({ frames := 0, cells := 0, slots := 0, locals := 0 } : Room).locals := ⟨Nat.le_refl _, Nat.le_refl _⟩
  generalize ({ frames := 0, cells := 0, slots := 0, locals := 0 } : Room) = R at hR ⊢
  clear hsz
  generalize (hA z L sz) = A at hw ⊢
  have hx := X.1
  have hb := X.2.1
  unfold Sc_rightOnes at h
  refine lv_iconst (v := 0) hx hb dX7_rightOnes_0 (by decide) ?_
  refine lv_istore_n (lv' := [(2, _), (0, _), (1, _)]) hx hb dX7_rightOnes_1 rfl hl (by decide) rfl (fun ls hl => ?_)
  refine lv_iconst (v := 0) hx hb dX7_rightOnes_2 (by decide) ?_
  refine lv_istore_n (lv' := [(3, _), (2, _), (0, _), (1, _)]) hx hb dX7_rightOnes_3 rfl hl (by decide) rfl (fun ls hl => ?_)
  obtain ⟨n2, h⟩ := h
  exact wkSc_rightOnes_l4 X hr hlk hR hcl hc0 hn1  n2 _ _ h hw (lv_sub hl [2, 3, 1, 0] rfl)

theorem wkSc_wrongOnes_l4 {I : HI} {T : HR} {F : HR} {L : HL} {r0 : Nat} {r1 : Nat} {Q : Int32 → Prop} (X : hX p m c s args RX7 cX7_wrongOnes 4) (hr : meth.sig.returnType = (some .int)) (hlk : meth.locks = false) (hR : 0 ≤ R.frames ∧ 0 ≤ R.locals) (hcl : hCl Ev) (hc0 : SceSh F L r0) (hn1 : NetSh F L r1)  : ∀ (n : Nat) (x2 : Int32) (x3 : Int32) {ls : Array Slot} {H : Heap} {locs : List Loc}, Sc_wrongOnes_l4 I r0 r1 Q n x2 x3 → hW D cA z Ev (I, J, T, F, L) A s H locs → lv_has ls 4 [(0, .ref (z + r0)), (1, .ref (z + r1)), (2, .int x2), (3, .int x3)] → W p l e R s m args below meth c H locs 0 0 (MQ below (va_Qi (p0 (I, J, T, F, L) Q) (hB D cA z A) A) args s 0 0 A) (F0 m 4 ls []) := by
  have hx := X.1
  have hb := X.2.1
  intro n
  induction n with
  | zero => intro x2 x3 ls H locs h; exact False.elim h
  | succ n ih =>
    intro x2 x3 ls H locs h hw hl
    rw [Sc_wrongOnes_l4] at h
    refine lv_iload_n hx hb dX7_wrongOnes_4 rfl (lv_at hl 3 rfl) ?_
    refine lv_aload_n hx hb dX7_wrongOnes_5 rfl (lv_at hl 1 rfl) ?_
    refine hm_geti X hw lk_7_24 hn1.1 dX7_wrongOnes_6 ?_
    refine lv_icmp_ge (tgt := 52) hx hb dX7_wrongOnes_9 (by decide) (fun hc => ?_) (fun hc => ?_)
    · have h := Eq.mp (if_pos hc) h
      refine lv_iload_n hx hb dX7_wrongOnes_52 rfl (lv_at hl 2 rfl) ?_
      exact hm_iret X hr hlk hw ⟨rfl, h⟩ dX7_wrongOnes_53
    · have h := Eq.mp (if_neg hc) h
      refine lv_aload_n hx hb dX7_wrongOnes_12 rfl (lv_at hl 0 rfl) ?_
      refine hm_getr X hw lk_7_15 hc0.1 (ssf_1 hc0) dX7_wrongOnes_13 ?_
      refine lv_iload_n hx hb dX7_wrongOnes_16 rfl (lv_at hl 3 rfl) ?_
      obtain ⟨hi, h⟩ := h
      refine hm_iald X hw (ssm_1 hc0) hi dX7_wrongOnes_17 ?_
      refine lv_aload_n hx hb dX7_wrongOnes_18 rfl (lv_at hl 0 rfl) ?_
      refine hm_getr X hw lk_7_9 hc0.1 (ssf_0 hc0) dX7_wrongOnes_19 ?_
      refine lv_iload_n hx hb dX7_wrongOnes_22 rfl (lv_at hl 3 rfl) ?_
      obtain ⟨hi, h⟩ := h
      refine hm_iald X hw (ssm_0 hc0) hi dX7_wrongOnes_23 ?_
      refine lv_icmp_eq (tgt := 46) hx hb dX7_wrongOnes_24 (by decide) (fun hc => ?_) (fun hc => ?_)
      · have h := Eq.mp (if_pos hc) h
        refine lv_iinc (v := x3 + 1) (lv' := [(3, _), (0, _), (1, _), (2, _)]) hx hb dX7_wrongOnes_46 hl (k := 3) rfl rfl (by decide) rfl (fun ls hl => ?_)
        refine lv_goto (tgt := 4) hx hb dX7_wrongOnes_49 (by decide) ?_
        exact ih _ _ h hw (lv_sub hl [1, 2, 3, 0] rfl)
      · have h := Eq.mp (if_neg hc) h
        refine lv_aload_n hx hb dX7_wrongOnes_27 rfl (lv_at hl 0 rfl) ?_
        refine hm_getr X hw lk_7_15 hc0.1 (ssf_1 hc0) dX7_wrongOnes_28 ?_
        refine lv_iload_n hx hb dX7_wrongOnes_31 rfl (lv_at hl 3 rfl) ?_
        obtain ⟨hi, h⟩ := h
        refine hm_iald X hw (ssm_1 hc0) hi dX7_wrongOnes_32 ?_
        refine lv_aload_n hx hb dX7_wrongOnes_33 rfl (lv_at hl 1 rfl) ?_
        refine hm_geti X hw lk_7_30 hn1.1 dX7_wrongOnes_34 ?_
        refine lv_icmp_eq (tgt := 46) hx hb dX7_wrongOnes_37 (by decide) (fun hc => ?_) (fun hc => ?_)
        · have h := Eq.mp (if_pos hc) h
          refine lv_iinc (v := x3 + 1) (lv' := [(3, _), (0, _), (1, _), (2, _)]) hx hb dX7_wrongOnes_46 hl (k := 3) rfl rfl (by decide) rfl (fun ls hl => ?_)
          refine lv_goto (tgt := 4) hx hb dX7_wrongOnes_49 (by decide) ?_
          exact ih _ _ h hw (lv_sub hl [1, 2, 3, 0] rfl)
        · have h := Eq.mp (if_neg hc) h
          refine lv_iload_n hx hb dX7_wrongOnes_40 rfl (lv_at hl 2 rfl) ?_
          refine lv_iconst (v := 1) hx hb dX7_wrongOnes_41 (by decide) ?_
          refine lv_iload_n hx hb dX7_wrongOnes_42 rfl (lv_at hl 3 rfl) ?_
          refine lv_ishl hx hb dX7_wrongOnes_43 ?_
          refine lv_ior hx hb dX7_wrongOnes_44 ?_
          refine lv_istore_n (lv' := [(2, _), (0, _), (1, _), (3, _)]) hx hb dX7_wrongOnes_45 rfl hl (by decide) rfl (fun ls hl => ?_)
          refine lv_iinc (v := x3 + 1) (lv' := [(3, _), (2, _), (0, _), (1, _)]) hx hb dX7_wrongOnes_46 hl (k := 3) rfl rfl (by decide) rfl (fun ls hl => ?_)
          refine lv_goto (tgt := 4) hx hb dX7_wrongOnes_49 (by decide) ?_
          exact ih _ _ h hw (lv_sub hl [2, 3, 1, 0] rfl)

theorem cSc_wrongOnes {l : Launch} {D : va_G} {cA : Nat → ClassId} {z sz : Nat} {I : HI} {T : HR} {F : HR} {L : HL} {r0 : Nat} {r1 : Nat} {Q : Int32 → Prop} (hcl : hCl Ev) (hc0 : SceSh F L r0) (hn1 : NetSh F L r1) (h : Sc_wrongOnes I r0 r1 Q) : Met l yX7_wrongOnes (hws0 yX7_wrongOnes cX7_wrongOnes 4 (some .int)) { frames := 0, cells := 0, slots := 0, locals := 0 } (hPc D cA z Ev (I, J, T, F, L) sz [.ref (z + r0), .ref (z + r1)]) (va_Qi (p0 (I, J, T, F, L) Q) (hB D cA z (hA z L sz)) (hA z L sz)) 0 0 (hA z L sz) := by
  refine hm_met (I, J, T, F, L) [.ref (z + r0), .ref (z + r1)] rfl (by decide) (Nat.le_of_ble_eq_true rfl) ?_
  intro p e s m below meth c ls X hr hlk hnm hxt hsz hw hl
  have hl : lv_has ls 4 [(0, .ref (z + r0)), (1, .ref (z + r1))] := hl
  have hR : 0 ≤ ({ frames := 0, cells := 0, slots := 0, locals := 0 } : Room).frames ∧ 0 ≤ ({ frames := 0, cells := 0, slots := 0, locals := 0 } : Room).locals := ⟨Nat.le_refl _, Nat.le_refl _⟩
  generalize ({ frames := 0, cells := 0, slots := 0, locals := 0 } : Room) = R at hR ⊢
  clear hsz
  generalize (hA z L sz) = A at hw ⊢
  have hx := X.1
  have hb := X.2.1
  unfold Sc_wrongOnes at h
  refine lv_iconst (v := 0) hx hb dX7_wrongOnes_0 (by decide) ?_
  refine lv_istore_n (lv' := [(2, _), (0, _), (1, _)]) hx hb dX7_wrongOnes_1 rfl hl (by decide) rfl (fun ls hl => ?_)
  refine lv_iconst (v := 0) hx hb dX7_wrongOnes_2 (by decide) ?_
  refine lv_istore_n (lv' := [(3, _), (2, _), (0, _), (1, _)]) hx hb dX7_wrongOnes_3 rfl hl (by decide) rfl (fun ls hl => ?_)
  obtain ⟨n2, h⟩ := h
  exact wkSc_wrongOnes_l4 X hr hlk hR hcl hc0 hn1  n2 _ _ h hw (lv_sub hl [2, 3, 1, 0] rfl)

theorem wkLed_fill_b51 {I : HI} {T : HR} {F : HR} {L : HL} {r1 : Nat} {r3 : Nat} {x4 : Int32} {t0 : Int32} {K3 : HI → Int32 → Prop} {Q : HI → Prop} (X : hX p m c s args RX3 cX3_fill 6) (hr : meth.sig.returnType = none) (hlk : meth.locks = false) (hR : 5 ≤ R.frames ∧ 126 ≤ R.locals) (hcl : hCl Ev) (hG : Geo F L) (hn1 : NetSh F L r1) (hc3 : SceSh F L r3) (hK3 : ∀ (I : HI) (x4 : Int32) {ls : Array Slot} {H : Heap} {locs : List Loc}, K3 I x4 → hW D cA z Ev (I, J, T, F, L) A s H locs → lv_has ls 6 [(0, .ref (z + 26)), (1, .ref (z + r1)), (2, .ref (z + 23)), (3, .ref (z + r3)), (4, .int x4)] → W p l e R s m args below meth c H locs 0 0 (MQ below (va_Qv (pIv J T F L Q) (hB D cA z A) A) args s 0 0 A) (F0 m 3 ls [])) : ∀ {ls : Array Slot} {H : Heap} {locs : List Loc}, Led_fill_b51 I T F L r1 r3 x4 t0 K3 Q → hW D cA z Ev (I, J, T, F, L) A s H locs → lv_has ls 6 [(0, .ref (z + 26)), (1, .ref (z + r1)), (2, .ref (z + 23)), (3, .ref (z + r3)), (4, .int x4)] → W p l e R s m args below meth c H locs 0 0 (MQ below (va_Qv (pIv J T F L Q) (hB D cA z A) A) args s 0 0 A) (F0 m 51 ls [.int t0]) := by
  have hx := X.1
  have hb := X.2.1
  intro ls H locs h hw hl
  unfold Led_fill_b51 at h
  refine lv_istore (lv' := [(5, _), (0, _), (1, _), (2, _), (3, _), (4, _)]) hx hb dX3_fill_51 hl (by decide) rfl (fun ls hl => ?_)
  refine lv_aload_n hx hb dX3_fill_53 rfl (lv_at hl 1 rfl) ?_
  refine hm_getr X hw lk_3_9 (gl_26 hG) (gf_26_0 hG) dX3_fill_54 ?_
  refine lv_iload hx hb dX3_fill_57 (lv_at hl 5 rfl) ?_
  refine lv_aload_n hx hb dX3_fill_59 rfl (lv_at hl 4 rfl) ?_
  refine lv_aload_n hx hb dX3_fill_60 rfl (lv_at hl 2 rfl) ?_
  refine hm_calli hw (hm_runV (rest := [_, _]) hcl X hw (cSc_rightOnes hcl hc3 hn1 h) yk_X7_rightOnes kw593 rfl hc3.1 rfl hl.1 rfl rfl rfl (Nat.le_of_ble_eq_true rfl) ⟨Nat.le_trans (Nat.le_of_ble_eq_true rfl) hR.1, Nat.le_trans (Nat.le_of_ble_eq_true rfl) hR.2⟩ ⟨Nat.zero_le _, Nat.zero_le _⟩ dX3_fill_61) (fun a8 u9 H locs hp hw => ?_)
  obtain ⟨rfl, h⟩ := hp
  refine lv_aload_n hx hb dX3_fill_64 rfl (lv_at hl 4 rfl) ?_
  refine lv_aload_n hx hb dX3_fill_65 rfl (lv_at hl 2 rfl) ?_
  refine hm_calli hw (hm_runV (rest := [_, _, _]) hcl X hw (cSc_wrongOnes hcl hc3 hn1 h) yk_X7_wrongOnes kw597 rfl hc3.1 rfl hl.1 rfl rfl rfl (Nat.le_of_ble_eq_true rfl) ⟨Nat.le_trans (Nat.le_of_ble_eq_true rfl) hR.1, Nat.le_trans (Nat.le_of_ble_eq_true rfl) hR.2⟩ ⟨Nat.zero_le _, Nat.zero_le _⟩ dX3_fill_66) (fun a10 u11 H locs hp hw => ?_)
  obtain ⟨rfl, h⟩ := hp
  refine lv_bipush (v := 8) hx hb dX3_fill_69 (by decide) ?_
  refine lv_ishl hx hb dX3_fill_71 ?_
  refine lv_ior hx hb dX3_fill_72 ?_
  refine lv_iload hx hb dX3_fill_73 (lv_at hl 0 rfl) ?_
  refine lv_ior hx hb dX3_fill_75 ?_
  obtain ⟨hi, h⟩ := h
  refine hm_iast X hw (gl_27 hG) hi dX3_fill_76 (fun H locs hw => ?_)
  refine lv_iinc (v := x4 + 1) (lv' := [(4, _), (5, _), (0, _), (1, _), (2, _), (3, _)]) hx hb dX3_fill_77 hl (k := 5) rfl rfl (by decide) rfl (fun ls hl => ?_)
  refine lv_goto (tgt := 3) hx hb dX3_fill_80 (by decide) ?_
  exact hK3 _ _ h hw (lv_sub hl [2, 3, 4, 5, 0] rfl)

theorem wkLed_fill_l3 {T : HR} {F : HR} {L : HL} {r1 : Nat} {r3 : Nat} {Q : HI → Prop} (X : hX p m c s args RX3 cX3_fill 6) (hr : meth.sig.returnType = none) (hlk : meth.locks = false) (hR : 5 ≤ R.frames ∧ 126 ≤ R.locals) (hcl : hCl Ev) (hG : Geo F L) (hn1 : NetSh F L r1) (hc3 : SceSh F L r3)  : ∀ (n : Nat) (I : HI) (x4 : Int32) {ls : Array Slot} {H : Heap} {locs : List Loc}, Led_fill_l3 T F L r1 r3 Q n I x4 → hW D cA z Ev (I, J, T, F, L) A s H locs → lv_has ls 6 [(0, .ref (z + 26)), (1, .ref (z + r1)), (2, .ref (z + 23)), (3, .ref (z + r3)), (4, .int x4)] → W p l e R s m args below meth c H locs 0 0 (MQ below (va_Qv (pIv J T F L Q) (hB D cA z A) A) args s 0 0 A) (F0 m 3 ls []) := by
  have hx := X.1
  have hb := X.2.1
  intro n
  induction n with
  | zero => intro I x4 ls H locs h; exact False.elim h
  | succ n ih =>
    intro I x4 ls H locs h hw hl
    rw [Led_fill_l3] at h
    refine lv_iload hx hb dX3_fill_3 (lv_at hl 4 rfl) ?_
    refine lv_aload_n hx hb dX3_fill_5 rfl (lv_at hl 1 rfl) ?_
    refine hm_geti X hw lk_3_19 hn1.1 dX3_fill_6 ?_
    refine lv_icmp_ge (tgt := 83) hx hb dX3_fill_9 (by decide) (fun hc => ?_) (fun hc => ?_)
    · have h := Eq.mp (if_pos hc) h
      refine lv_aload_n hx hb dX3_fill_83 rfl (lv_at hl 0 rfl) ?_
      refine lv_iconst (v := 1) hx hb dX3_fill_84 (by decide) ?_
      refine hm_puti X hw lk_3_15 (gl_26 hG) rfl rfl dX3_fill_85 (fun H locs hw => ?_)
      exact hm_vret X hr hlk hw ⟨_, rfl, h⟩ dX3_fill_88
    · have h := Eq.mp (if_neg hc) h
      refine lv_aload_n hx hb dX3_fill_12 rfl (lv_at hl 0 rfl) ?_
      refine hm_geti X hw lk_3_15 (gl_26 hG) dX3_fill_13 ?_
      refine lv_if_ne (tgt := 83) hx hb dX3_fill_16 (by decide) (fun hc => ?_) (fun hc => ?_)
      · have h := Eq.mp (if_neg hc) h
        refine lv_aload_n hx hb dX3_fill_83 rfl (lv_at hl 0 rfl) ?_
        refine lv_iconst (v := 1) hx hb dX3_fill_84 (by decide) ?_
        refine hm_puti X hw lk_3_15 (gl_26 hG) rfl rfl dX3_fill_85 (fun H locs hw => ?_)
        exact hm_vret X hr hlk hw ⟨_, rfl, h⟩ dX3_fill_88
      · have h := Eq.mp (if_pos hc) h
        refine lv_aload_n hx hb dX3_fill_19 rfl (lv_at hl 3 rfl) ?_
        refine lv_aload_n hx hb dX3_fill_20 rfl (lv_at hl 1 rfl) ?_
        refine lv_iload hx hb dX3_fill_21 (lv_at hl 4 rfl) ?_
        refine hm_callv hw (hm_runV (rest := []) hcl X hw (cSc_dress hcl hc3 hn1 h) yk_X7_dress kw547 rfl hc3.1 rfl hl.1 rfl rfl rfl (Nat.le_of_ble_eq_true rfl) ⟨Nat.le_trans (Nat.le_of_ble_eq_true rfl) hR.1, Nat.le_trans (Nat.le_of_ble_eq_true rfl) hR.2⟩ ⟨Nat.zero_le _, Nat.zero_le _⟩ dX3_fill_23) (fun u2 H locs hp hw => ?_)
        obtain ⟨I1, rfl, h⟩ := hp
        refine lv_aload_n hx hb dX3_fill_26 rfl (lv_at hl 3 rfl) ?_
        refine lv_aload_n hx hb dX3_fill_27 rfl (lv_at hl 1 rfl) ?_
        refine hm_callv hw (hm_runV (rest := []) hcl X hw (cSc_guessAll hcl hc3 hn1 h) yk_X7_guessAll kw551 rfl hc3.1 rfl hl.1 rfl rfl rfl (Nat.le_of_ble_eq_true rfl) ⟨Nat.le_trans (Nat.le_of_ble_eq_true rfl) hR.1, Nat.le_trans (Nat.le_of_ble_eq_true rfl) hR.2⟩ ⟨Nat.zero_le _, Nat.zero_le _⟩ dX3_fill_28) (fun u4 H locs hp hw => ?_)
        obtain ⟨I3, rfl, h⟩ := hp
        refine lv_aload_n hx hb dX3_fill_31 rfl (lv_at hl 2 rfl) ?_
        refine lv_aload_n hx hb dX3_fill_32 rfl (lv_at hl 3 rfl) ?_
        refine lv_aload_n hx hb dX3_fill_33 rfl (lv_at hl 1 rfl) ?_
        refine hm_geti X hw lk_3_35 hn1.1 dX3_fill_34 ?_
        refine hm_calll hw (hm_runV (rest := []) hcl X hw (cJud_weigh hcl hG hc3 h) yk_X2_weigh kw585 rfl (gl_23 hG) rfl hl.1 rfl rfl rfl (Nat.le_of_ble_eq_true rfl) ⟨Nat.le_trans (Nat.le_of_ble_eq_true rfl) hR.1, Nat.le_trans (Nat.le_of_ble_eq_true rfl) hR.2⟩ ⟨Nat.zero_le _, Nat.zero_le _⟩ dX3_fill_37) (fun a5 u7 H locs hp hw => ?_)
        obtain ⟨I6, rfl, h⟩ := hp
        refine lv_lconst (v := 0) hx hb dX3_fill_40 (by decide) ?_
        refine W.lcmp hx hb dX3_fill_41 ?_
        refine lv_if_le (tgt := 50) hx hb dX3_fill_42 (by decide) (fun hc => ?_) (fun hc => ?_)
        · have h := Eq.mp (if_pos hc) h
          refine lv_iconst (v := 0) hx hb dX3_fill_50 (by decide) ?_
          exact wkLed_fill_b51 X hr hlk hR hcl hG hn1 hc3 ih h hw (lv_sub hl [0, 1, 2, 3, 4] rfl)
        · have h := Eq.mp (if_neg hc) h
          refine lv_ldc (v := 65536) hx hb X.2.2.2.1 (X.2.2.2.2 _ kw592) dX3_fill_45 ?_
          refine lv_goto (tgt := 51) hx hb dX3_fill_47 (by decide) ?_
          exact wkLed_fill_b51 X hr hlk hR hcl hG hn1 hc3 ih h hw (lv_sub hl [0, 1, 2, 3, 4] rfl)

theorem cLed_fill {l : Launch} {D : va_G} {cA : Nat → ClassId} {z sz : Nat} {I : HI} {T : HR} {F : HR} {L : HL} {r1 : Nat} {r3 : Nat} {Q : HI → Prop} (hcl : hCl Ev) (hG : Geo F L) (hn1 : NetSh F L r1) (hc3 : SceSh F L r3) (h : Led_fill I T F L r1 r3 Q) : Met l yX3_fill (hws0 yX3_fill cX3_fill 6 none) { frames := 5, cells := 0, slots := 0, locals := 126 } (hPc D cA z Ev (I, J, T, F, L) sz [.ref (z + 26), .ref (z + r1), .ref (z + 23), .ref (z + r3)]) (va_Qv (pIv J T F L Q) (hB D cA z (hA z L sz)) (hA z L sz)) 0 0 (hA z L sz) := by
  refine hm_met (I, J, T, F, L) [.ref (z + 26), .ref (z + r1), .ref (z + 23), .ref (z + r3)] rfl (by decide) (Nat.le_of_ble_eq_true rfl) ?_
  intro p e s m below meth c ls X hr hlk hnm hxt hsz hw hl
  have hl : lv_has ls 6 [(0, .ref (z + 26)), (1, .ref (z + r1)), (2, .ref (z + 23)), (3, .ref (z + r3))] := hl
  have hR : 5 ≤ ({ frames := 5, cells := 0, slots := 0, locals := 126 } : Room).frames ∧ 126 ≤ ({ frames := 5, cells := 0, slots := 0, locals := 126 } : Room).locals := ⟨Nat.le_refl _, Nat.le_refl _⟩
  generalize ({ frames := 5, cells := 0, slots := 0, locals := 126 } : Room) = R at hR ⊢
  clear hsz
  generalize (hA z L sz) = A at hw ⊢
  have hx := X.1
  have hb := X.2.1
  unfold Led_fill at h
  refine lv_iconst (v := 0) hx hb dX3_fill_0 (by decide) ?_
  refine lv_istore (lv' := [(4, _), (0, _), (1, _), (2, _), (3, _)]) hx hb dX3_fill_1 hl (by decide) rfl (fun ls hl => ?_)
  obtain ⟨n2, h⟩ := h
  exact wkLed_fill_l3 X hr hlk hR hcl hG hn1 hc3  n2 _ _ h hw (lv_sub hl [1, 2, 3, 4, 0] rfl)

theorem cLed_counts {l : Launch} {D : va_G} {cA : Nat → ClassId} {z sz : Nat} {I : HI} {T : HR} {F : HR} {L : HL} {x1 : Int32} {Q : Int32 → Prop} (hcl : hCl Ev) (hG : Geo F L) (h : Led_counts I x1 Q) : Met l yX3_counts (hws0 yX3_counts cX3_counts 2 (some .boolean)) { frames := 0, cells := 0, slots := 0, locals := 0 } (hPc D cA z Ev (I, J, T, F, L) sz [.ref (z + 26), .int x1]) (va_Qi (p0 (I, J, T, F, L) Q) (hB D cA z (hA z L sz)) (hA z L sz)) 0 0 (hA z L sz) := by
  refine hm_met (I, J, T, F, L) [.ref (z + 26), .int x1] rfl (by decide) (Nat.le_of_ble_eq_true rfl) ?_
  intro p e s m below meth c ls X hr hlk hnm hxt hsz hw hl
  have hl : lv_has ls 2 [(0, .ref (z + 26)), (1, .int x1)] := hl
  have hR : 0 ≤ ({ frames := 0, cells := 0, slots := 0, locals := 0 } : Room).frames ∧ 0 ≤ ({ frames := 0, cells := 0, slots := 0, locals := 0 } : Room).locals := ⟨Nat.le_refl _, Nat.le_refl _⟩
  generalize ({ frames := 0, cells := 0, slots := 0, locals := 0 } : Room) = R at hR ⊢
  clear hsz
  generalize (hA z L sz) = A at hw ⊢
  have hx := X.1
  have hb := X.2.1
  unfold Led_counts at h
  refine lv_aload_n hx hb dX3_counts_0 rfl (lv_at hl 0 rfl) ?_
  refine hm_getr X hw lk_3_9 (gl_26 hG) (gf_26_0 hG) dX3_counts_1 ?_
  refine lv_iload_n hx hb dX3_counts_4 rfl (lv_at hl 1 rfl) ?_
  obtain ⟨hi, h⟩ := h
  refine hm_iald X hw (gl_27 hG) hi dX3_counts_5 ?_
  refine lv_ldc (v := 65536) hx hb X.2.2.2.1 (X.2.2.2.2 _ kw592) dX3_counts_6 ?_
  refine lv_iand hx hb dX3_counts_8 ?_
  refine lv_if_eq (tgt := 16) hx hb dX3_counts_9 (by decide) (fun hc => ?_) (fun hc => ?_)
  · have h := Eq.mp (if_pos hc) h
    refine lv_iconst (v := 0) hx hb dX3_counts_16 (by decide) ?_
    exact hm_zret X hr hlk hw zb_0 ⟨rfl, h⟩ dX3_counts_17
  · have h := Eq.mp (if_neg hc) h
    refine lv_iconst (v := 1) hx hb dX3_counts_12 (by decide) ?_
    refine lv_goto (tgt := 17) hx hb dX3_counts_13 (by decide) ?_
    exact hm_zret X hr hlk hw zb_1 ⟨rfl, h⟩ dX3_counts_17

theorem cLed_isWon {l : Launch} {D : va_G} {cA : Nat → ClassId} {z sz : Nat} {I : HI} {T : HR} {F : HR} {L : HL} {x1 : Int32} {x3 : Int32} {Q : Int32 → Prop} (hcl : hCl Ev) (hG : Geo F L) (h : Led_isWon I x1 x3 Q) : Met l yX3_isWon (hws0 yX3_isWon cX3_isWon 4 (some .boolean)) { frames := 2, cells := 0, slots := 0, locals := 44 } (hPc D cA z Ev (I, J, T, F, L) sz [.ref (z + 26), .int x1, .ref (z + 23), .int x3]) (va_Qi (p0 (I, J, T, F, L) Q) (hB D cA z (hA z L sz)) (hA z L sz)) 0 0 (hA z L sz) := by
  refine hm_met (I, J, T, F, L) [.ref (z + 26), .int x1, .ref (z + 23), .int x3] rfl (by decide) (Nat.le_of_ble_eq_true rfl) ?_
  intro p e s m below meth c ls X hr hlk hnm hxt hsz hw hl
  have hl : lv_has ls 4 [(0, .ref (z + 26)), (1, .int x1), (2, .ref (z + 23)), (3, .int x3)] := hl
  have hR : 2 ≤ ({ frames := 2, cells := 0, slots := 0, locals := 44 } : Room).frames ∧ 44 ≤ ({ frames := 2, cells := 0, slots := 0, locals := 44 } : Room).locals := ⟨Nat.le_refl _, Nat.le_refl _⟩
  generalize ({ frames := 2, cells := 0, slots := 0, locals := 44 } : Room) = R at hR ⊢
  clear hsz
  generalize (hA z L sz) = A at hw ⊢
  have hx := X.1
  have hb := X.2.1
  unfold Led_isWon at h
  refine lv_aload_n hx hb dX3_isWon_0 rfl (lv_at hl 2 rfl) ?_
  refine lv_aload_n hx hb dX3_isWon_1 rfl (lv_at hl 0 rfl) ?_
  refine hm_getr X hw lk_3_9 (gl_26 hG) (gf_26_0 hG) dX3_isWon_2 ?_
  refine lv_iload_n hx hb dX3_isWon_5 rfl (lv_at hl 1 rfl) ?_
  obtain ⟨hi, h⟩ := h
  refine hm_iald X hw (gl_27 hG) hi dX3_isWon_6 ?_
  refine lv_sipush (v := 255) hx hb dX3_isWon_7 (by decide) ?_
  refine lv_iand hx hb dX3_isWon_10 ?_
  refine lv_aload_n hx hb dX3_isWon_11 rfl (lv_at hl 0 rfl) ?_
  refine hm_getr X hw lk_3_9 (gl_26 hG) (gf_26_0 hG) dX3_isWon_12 ?_
  refine lv_iload_n hx hb dX3_isWon_15 rfl (lv_at hl 1 rfl) ?_
  obtain ⟨hi, h⟩ := h
  refine hm_iald X hw (gl_27 hG) hi dX3_isWon_16 ?_
  refine lv_bipush (v := 8) hx hb dX3_isWon_17 (by decide) ?_
  refine lv_ishr hx hb dX3_isWon_19 ?_
  refine lv_sipush (v := 255) hx hb dX3_isWon_20 (by decide) ?_
  refine lv_iand hx hb dX3_isWon_23 ?_
  refine lv_iload_n hx hb dX3_isWon_24 rfl (lv_at hl 3 rfl) ?_
  refine hm_calli hw (hm_runV (rest := []) hcl X hw (cJud_isWon hcl hG h) yk_X2_isWon kw613 rfl (gl_23 hG) rfl hl.1 rfl rfl rfl (Nat.le_of_ble_eq_true rfl) ⟨Nat.le_trans (Nat.le_of_ble_eq_true rfl) hR.1, Nat.le_trans (Nat.le_of_ble_eq_true rfl) hR.2⟩ ⟨Nat.zero_le _, Nat.zero_le _⟩ dX3_isWon_25) (fun a1 u2 H locs hp hw => ?_)
  obtain ⟨rfl, h⟩ := hp
  obtain ⟨hz, h⟩ := h
  exact hm_zret X hr hlk hw hz ⟨rfl, h⟩ dX3_isWon_28

theorem cLed_wrongIn {l : Launch} {D : va_G} {cA : Nat → ClassId} {z sz : Nat} {I : HI} {T : HR} {F : HR} {L : HL} {x1 : Int32} {Q : Int32 → Prop} (hcl : hCl Ev) (hG : Geo F L) (h : Led_wrongIn I x1 Q) : Met l yX3_wrongIn (hws0 yX3_wrongIn cX3_wrongIn 2 (some .int)) { frames := 1, cells := 0, slots := 0, locals := 20 } (hPc D cA z Ev (I, J, T, F, L) sz [.ref (z + 26), .int x1]) (va_Qi (p0 (I, J, T, F, L) Q) (hB D cA z (hA z L sz)) (hA z L sz)) 0 0 (hA z L sz) := by
  refine hm_met (I, J, T, F, L) [.ref (z + 26), .int x1] rfl (by decide) (Nat.le_of_ble_eq_true rfl) ?_
  intro p e s m below meth c ls X hr hlk hnm hxt hsz hw hl
  have hl : lv_has ls 2 [(0, .ref (z + 26)), (1, .int x1)] := hl
  have hR : 1 ≤ ({ frames := 1, cells := 0, slots := 0, locals := 20 } : Room).frames ∧ 20 ≤ ({ frames := 1, cells := 0, slots := 0, locals := 20 } : Room).locals := ⟨Nat.le_refl _, Nat.le_refl _⟩
  generalize ({ frames := 1, cells := 0, slots := 0, locals := 20 } : Room) = R at hR ⊢
  clear hsz
  generalize (hA z L sz) = A at hw ⊢
  have hx := X.1
  have hb := X.2.1
  unfold Led_wrongIn at h
  refine lv_aload_n hx hb dX3_wrongIn_0 rfl (lv_at hl 0 rfl) ?_
  refine hm_getr X hw lk_3_9 (gl_26 hG) (gf_26_0 hG) dX3_wrongIn_1 ?_
  refine lv_iload_n hx hb dX3_wrongIn_4 rfl (lv_at hl 1 rfl) ?_
  obtain ⟨hi, h⟩ := h
  refine hm_iald X hw (gl_27 hG) hi dX3_wrongIn_5 ?_
  refine lv_bipush (v := 8) hx hb dX3_wrongIn_6 (by decide) ?_
  refine lv_ishr hx hb dX3_wrongIn_8 ?_
  refine lv_sipush (v := 255) hx hb dX3_wrongIn_9 (by decide) ?_
  refine lv_iand hx hb dX3_wrongIn_12 ?_
  refine hm_calli hw (hm_runS (rest := []) hcl X hw (cJd_bitCount hcl h) yk_J6_bitCount_0f7a4 kw631 rfl hl.1 rfl rfl rfl (Nat.le_of_ble_eq_true rfl) ⟨Nat.le_trans (Nat.le_of_ble_eq_true rfl) hR.1, Nat.le_trans (Nat.le_of_ble_eq_true rfl) hR.2⟩ ⟨Nat.zero_le _, Nat.zero_le _⟩ dX3_wrongIn_13) (fun a1 u2 H locs hp hw => ?_)
  obtain ⟨rfl, h⟩ := hp
  exact hm_iret X hr hlk hw ⟨rfl, h⟩ dX3_wrongIn_16

theorem wkLed_countRows_l6 {I : HI} {T : HR} {F : HR} {L : HL} {r1 : Nat} {x3 : Int32} {Q : Int32 → Prop} (X : hX p m c s args RX3 cX3_countRows 6) (hr : meth.sig.returnType = (some .int)) (hlk : meth.locks = false) (hR : 3 ≤ R.frames ∧ 67 ≤ R.locals) (hcl : hCl Ev) (hG : Geo F L) (hn1 : NetSh F L r1)  : ∀ (n : Nat) (x4 : Int32) (x5 : Int32) {ls : Array Slot} {H : Heap} {locs : List Loc}, Led_countRows_l6 I r1 x3 Q n x4 x5 → hW D cA z Ev (I, J, T, F, L) A s H locs → lv_has ls 6 [(0, .ref (z + 26)), (1, .ref (z + r1)), (2, .ref (z + 23)), (3, .int x3), (4, .int x4), (5, .int x5)] → W p l e R s m args below meth c H locs 0 0 (MQ below (va_Qi (p0 (I, J, T, F, L) Q) (hB D cA z A) A) args s 0 0 A) (F0 m 6 ls []) := by
  have hx := X.1
  have hb := X.2.1
  intro n
  induction n with
  | zero => intro x4 x5 ls H locs h; exact False.elim h
  | succ n ih =>
    intro x4 x5 ls H locs h hw hl
    rw [Led_countRows_l6] at h
    refine lv_iload hx hb dX3_countRows_6 (lv_at hl 5 rfl) ?_
    refine lv_aload_n hx hb dX3_countRows_8 rfl (lv_at hl 1 rfl) ?_
    refine hm_geti X hw lk_3_19 hn1.1 dX3_countRows_9 ?_
    refine lv_icmp_ge (tgt := 51) hx hb dX3_countRows_12 (by decide) (fun hc => ?_) (fun hc => ?_)
    · have h := Eq.mp (if_pos hc) h
      refine lv_iload hx hb dX3_countRows_51 (lv_at hl 4 rfl) ?_
      exact hm_iret X hr hlk hw ⟨rfl, h⟩ dX3_countRows_53
    · have h := Eq.mp (if_neg hc) h
      refine lv_aload_n hx hb dX3_countRows_15 rfl (lv_at hl 0 rfl) ?_
      refine lv_iload hx hb dX3_countRows_16 (lv_at hl 5 rfl) ?_
      refine hm_calli hw (hm_runV (rest := []) hcl X hw (cLed_counts hcl hG h) yk_X3_counts kw605 rfl (gl_26 hG) rfl hl.1 rfl rfl rfl (Nat.le_of_ble_eq_true rfl) ⟨Nat.le_trans (Nat.le_of_ble_eq_true rfl) hR.1, Nat.le_trans (Nat.le_of_ble_eq_true rfl) hR.2⟩ ⟨Nat.zero_le _, Nat.zero_le _⟩ dX3_countRows_18) (fun a1 u2 H locs hp hw => ?_)
      obtain ⟨rfl, h⟩ := hp
      refine lv_if_eq (tgt := 45) hx hb dX3_countRows_21 (by decide) (fun hc => ?_) (fun hc => ?_)
      · have h := Eq.mp (if_pos hc) h
        refine lv_iinc (v := x5 + 1) (lv' := [(5, _), (0, _), (1, _), (2, _), (3, _), (4, _)]) hx hb dX3_countRows_45 hl (k := 5) rfl rfl (by decide) rfl (fun ls hl => ?_)
        refine lv_goto (tgt := 6) hx hb dX3_countRows_48 (by decide) ?_
        exact ih _ _ h hw (lv_sub hl [1, 2, 3, 4, 5, 0] rfl)
      · have h := Eq.mp (if_neg hc) h
        refine lv_iload_n hx hb dX3_countRows_24 rfl (lv_at hl 3 rfl) ?_
        refine lv_if_eq (tgt := 42) hx hb dX3_countRows_25 (by decide) (fun hc => ?_) (fun hc => ?_)
        · have h := Eq.mp (if_pos hc) h
          refine lv_iinc (v := x4 + 1) (lv' := [(4, _), (0, _), (1, _), (2, _), (3, _), (5, _)]) hx hb dX3_countRows_42 hl (k := 4) rfl rfl (by decide) rfl (fun ls hl => ?_)
          refine lv_iinc (v := x5 + 1) (lv' := [(5, _), (4, _), (0, _), (1, _), (2, _), (3, _)]) hx hb dX3_countRows_45 hl (k := 5) rfl rfl (by decide) rfl (fun ls hl => ?_)
          refine lv_goto (tgt := 6) hx hb dX3_countRows_48 (by decide) ?_
          exact ih _ _ h hw (lv_sub hl [2, 3, 4, 5, 1, 0] rfl)
        · have h := Eq.mp (if_neg hc) h
          refine lv_aload_n hx hb dX3_countRows_28 rfl (lv_at hl 0 rfl) ?_
          refine lv_iload hx hb dX3_countRows_29 (lv_at hl 5 rfl) ?_
          refine lv_aload_n hx hb dX3_countRows_31 rfl (lv_at hl 2 rfl) ?_
          refine lv_aload_n hx hb dX3_countRows_32 rfl (lv_at hl 1 rfl) ?_
          refine hm_geti X hw lk_3_35 hn1.1 dX3_countRows_33 ?_
          refine hm_calli hw (hm_runV (rest := []) hcl X hw (cLed_isWon hcl hG h) yk_X3_isWon kw609 rfl (gl_26 hG) rfl hl.1 rfl rfl rfl (Nat.le_of_ble_eq_true rfl) ⟨Nat.le_trans (Nat.le_of_ble_eq_true rfl) hR.1, Nat.le_trans (Nat.le_of_ble_eq_true rfl) hR.2⟩ ⟨Nat.zero_le _, Nat.zero_le _⟩ dX3_countRows_36) (fun a3 u4 H locs hp hw => ?_)
          obtain ⟨rfl, h⟩ := hp
          refine lv_if_eq (tgt := 45) hx hb dX3_countRows_39 (by decide) (fun hc => ?_) (fun hc => ?_)
          · have h := Eq.mp (if_pos hc) h
            refine lv_iinc (v := x5 + 1) (lv' := [(5, _), (0, _), (1, _), (2, _), (3, _), (4, _)]) hx hb dX3_countRows_45 hl (k := 5) rfl rfl (by decide) rfl (fun ls hl => ?_)
            refine lv_goto (tgt := 6) hx hb dX3_countRows_48 (by decide) ?_
            exact ih _ _ h hw (lv_sub hl [1, 2, 3, 4, 5, 0] rfl)
          · have h := Eq.mp (if_neg hc) h
            refine lv_iinc (v := x4 + 1) (lv' := [(4, _), (0, _), (1, _), (2, _), (3, _), (5, _)]) hx hb dX3_countRows_42 hl (k := 4) rfl rfl (by decide) rfl (fun ls hl => ?_)
            refine lv_iinc (v := x5 + 1) (lv' := [(5, _), (4, _), (0, _), (1, _), (2, _), (3, _)]) hx hb dX3_countRows_45 hl (k := 5) rfl rfl (by decide) rfl (fun ls hl => ?_)
            refine lv_goto (tgt := 6) hx hb dX3_countRows_48 (by decide) ?_
            exact ih _ _ h hw (lv_sub hl [2, 3, 4, 5, 1, 0] rfl)

theorem cLed_countRows {l : Launch} {D : va_G} {cA : Nat → ClassId} {z sz : Nat} {I : HI} {T : HR} {F : HR} {L : HL} {r1 : Nat} {x3 : Int32} {Q : Int32 → Prop} (hcl : hCl Ev) (hG : Geo F L) (hn1 : NetSh F L r1) (h : Led_countRows I r1 x3 Q) : Met l yX3_countRows (hws0 yX3_countRows cX3_countRows 6 (some .int)) { frames := 3, cells := 0, slots := 0, locals := 67 } (hPc D cA z Ev (I, J, T, F, L) sz [.ref (z + 26), .ref (z + r1), .ref (z + 23), .int x3]) (va_Qi (p0 (I, J, T, F, L) Q) (hB D cA z (hA z L sz)) (hA z L sz)) 0 0 (hA z L sz) := by
  refine hm_met (I, J, T, F, L) [.ref (z + 26), .ref (z + r1), .ref (z + 23), .int x3] rfl (by decide) (Nat.le_of_ble_eq_true rfl) ?_
  intro p e s m below meth c ls X hr hlk hnm hxt hsz hw hl
  have hl : lv_has ls 6 [(0, .ref (z + 26)), (1, .ref (z + r1)), (2, .ref (z + 23)), (3, .int x3)] := hl
  have hR : 3 ≤ ({ frames := 3, cells := 0, slots := 0, locals := 67 } : Room).frames ∧ 67 ≤ ({ frames := 3, cells := 0, slots := 0, locals := 67 } : Room).locals := ⟨Nat.le_refl _, Nat.le_refl _⟩
  generalize ({ frames := 3, cells := 0, slots := 0, locals := 67 } : Room) = R at hR ⊢
  clear hsz
  generalize (hA z L sz) = A at hw ⊢
  have hx := X.1
  have hb := X.2.1
  unfold Led_countRows at h
  refine lv_iconst (v := 0) hx hb dX3_countRows_0 (by decide) ?_
  refine lv_istore (lv' := [(4, _), (0, _), (1, _), (2, _), (3, _)]) hx hb dX3_countRows_1 hl (by decide) rfl (fun ls hl => ?_)
  refine lv_iconst (v := 0) hx hb dX3_countRows_3 (by decide) ?_
  refine lv_istore (lv' := [(5, _), (4, _), (0, _), (1, _), (2, _), (3, _)]) hx hb dX3_countRows_4 hl (by decide) rfl (fun ls hl => ?_)
  obtain ⟨n2, h⟩ := h
  exact wkLed_countRows_l6 X hr hlk hR hcl hG hn1  n2 _ _ h hw (lv_sub hl [2, 3, 4, 5, 1, 0] rfl)

theorem wkLed_sumWeights_b43 {I : HI} {T : HR} {F : HR} {L : HL} {r1 : Nat} {r3 : Nat} {x4 : Int32} {x5 : Int64} {x7 : Int32} {K6 : HI → Int64 → Int32 → Prop} {Q : Int64 → HI → Prop} (X : hX p m c s args RX3 cX3_sumWeights 8) (hr : meth.sig.returnType = (some .long)) (hlk : meth.locks = false) (hR : 3 ≤ R.frames ∧ 126 ≤ R.locals) (hcl : hCl Ev) (hG : Geo F L) (hn1 : NetSh F L r1) (hc3 : SceSh F L r3) (hK6 : ∀ (I : HI) (x5 : Int64) (x7 : Int32) {ls : Array Slot} {H : Heap} {locs : List Loc}, K6 I x5 x7 → hW D cA z Ev (I, J, T, F, L) A s H locs → lv_has ls 8 [(0, .ref (z + 26)), (1, .ref (z + r1)), (2, .ref (z + 23)), (3, .ref (z + r3)), (4, .int x4), (5, .long x5), (7, .int x7)] → W p l e R s m args below meth c H locs 0 0 (MQ below (va_Ql (pI J T F L Q) (hB D cA z A) A) args s 0 0 A) (F0 m 6 ls [])) : ∀ {ls : Array Slot} {H : Heap} {locs : List Loc}, Led_sumWeights_b43 I r1 r3 x4 x5 x7 K6 Q → hW D cA z Ev (I, J, T, F, L) A s H locs → lv_has ls 8 [(0, .ref (z + 26)), (1, .ref (z + r1)), (2, .ref (z + 23)), (3, .ref (z + r3)), (4, .int x4), (5, .long x5), (7, .int x7)] → W p l e R s m args below meth c H locs 0 0 (MQ below (va_Ql (pI J T F L Q) (hB D cA z A) A) args s 0 0 A) (F0 m 43 ls []) := by
  have hx := X.1
  have hb := X.2.1
  intro ls H locs h hw hl
  unfold Led_sumWeights_b43 at h
  refine lv_aload_n hx hb dX3_sumWeights_43 rfl (lv_at hl 3 rfl) ?_
  refine lv_aload_n hx hb dX3_sumWeights_44 rfl (lv_at hl 1 rfl) ?_
  refine lv_iload hx hb dX3_sumWeights_45 (lv_at hl 6 rfl) ?_
  refine hm_callv hw (hm_runV (rest := []) hcl X hw (cSc_dress hcl hc3 hn1 h) yk_X7_dress kw547 rfl hc3.1 rfl hl.1 rfl rfl rfl (Nat.le_of_ble_eq_true rfl) ⟨Nat.le_trans (Nat.le_of_ble_eq_true rfl) hR.1, Nat.le_trans (Nat.le_of_ble_eq_true rfl) hR.2⟩ ⟨Nat.zero_le _, Nat.zero_le _⟩ dX3_sumWeights_47) (fun u4 H locs hp hw => ?_)
  obtain ⟨I3, rfl, h⟩ := hp
  refine lv_lload hx hb dX3_sumWeights_50 (lv_at hl 5 rfl) ?_
  refine lv_aload_n hx hb dX3_sumWeights_52 rfl (lv_at hl 2 rfl) ?_
  refine lv_aload_n hx hb dX3_sumWeights_53 rfl (lv_at hl 3 rfl) ?_
  refine lv_aload_n hx hb dX3_sumWeights_54 rfl (lv_at hl 1 rfl) ?_
  refine hm_geti X hw lk_3_35 hn1.1 dX3_sumWeights_55 ?_
  refine hm_calll hw (hm_runV (rest := [_]) hcl X hw (cJud_weigh hcl hG hc3 h) yk_X2_weigh kw585 rfl (gl_23 hG) rfl hl.1 rfl rfl rfl (Nat.le_of_ble_eq_true rfl) ⟨Nat.le_trans (Nat.le_of_ble_eq_true rfl) hR.1, Nat.le_trans (Nat.le_of_ble_eq_true rfl) hR.2⟩ ⟨Nat.zero_le _, Nat.zero_le _⟩ dX3_sumWeights_58) (fun a5 u7 H locs hp hw => ?_)
  obtain ⟨I6, rfl, h⟩ := hp
  refine lv_ladd hx hb dX3_sumWeights_61 ?_
  refine lv_lstore (lv' := [(5, _), (0, _), (1, _), (2, _), (3, _), (4, _), (7, _)]) hx hb dX3_sumWeights_62 hl (by decide) rfl (fun ls hl => ?_)
  refine lv_iinc (v := x7 + 1) (lv' := [(7, _), (5, _), (0, _), (1, _), (2, _), (3, _), (4, _)]) hx hb dX3_sumWeights_64 hl (k := 6) rfl rfl (by decide) rfl (fun ls hl => ?_)
  refine lv_goto (tgt := 6) hx hb dX3_sumWeights_67 (by decide) ?_
  exact hK6 _ _ _ h hw (lv_sub hl [2, 3, 4, 5, 6, 1, 0] rfl)

theorem wkLed_sumWeights_l6 {T : HR} {F : HR} {L : HL} {r1 : Nat} {r3 : Nat} {x4 : Int32} {Q : Int64 → HI → Prop} (X : hX p m c s args RX3 cX3_sumWeights 8) (hr : meth.sig.returnType = (some .long)) (hlk : meth.locks = false) (hR : 3 ≤ R.frames ∧ 126 ≤ R.locals) (hcl : hCl Ev) (hG : Geo F L) (hn1 : NetSh F L r1) (hc3 : SceSh F L r3)  : ∀ (n : Nat) (I : HI) (x5 : Int64) (x7 : Int32) {ls : Array Slot} {H : Heap} {locs : List Loc}, Led_sumWeights_l6 r1 r3 x4 Q n I x5 x7 → hW D cA z Ev (I, J, T, F, L) A s H locs → lv_has ls 8 [(0, .ref (z + 26)), (1, .ref (z + r1)), (2, .ref (z + 23)), (3, .ref (z + r3)), (4, .int x4), (5, .long x5), (7, .int x7)] → W p l e R s m args below meth c H locs 0 0 (MQ below (va_Ql (pI J T F L Q) (hB D cA z A) A) args s 0 0 A) (F0 m 6 ls []) := by
  have hx := X.1
  have hb := X.2.1
  intro n
  induction n with
  | zero => intro I x5 x7 ls H locs h; exact False.elim h
  | succ n ih =>
    intro I x5 x7 ls H locs h hw hl
    rw [Led_sumWeights_l6] at h
    refine lv_iload hx hb dX3_sumWeights_6 (lv_at hl 6 rfl) ?_
    refine lv_aload_n hx hb dX3_sumWeights_8 rfl (lv_at hl 1 rfl) ?_
    refine hm_geti X hw lk_3_19 hn1.1 dX3_sumWeights_9 ?_
    refine lv_icmp_ge (tgt := 70) hx hb dX3_sumWeights_12 (by decide) (fun hc => ?_) (fun hc => ?_)
    · have h := Eq.mp (if_pos hc) h
      refine lv_lload hx hb dX3_sumWeights_70 (lv_at hl 5 rfl) ?_
      exact hm_lret X hr hlk hw ⟨_, rfl, h⟩ dX3_sumWeights_72
    · have h := Eq.mp (if_neg hc) h
      refine lv_aload_n hx hb dX3_sumWeights_15 rfl (lv_at hl 0 rfl) ?_
      refine lv_iload hx hb dX3_sumWeights_16 (lv_at hl 6 rfl) ?_
      refine hm_calli hw (hm_runV (rest := []) hcl X hw (cLed_counts hcl hG h) yk_X3_counts kw605 rfl (gl_26 hG) rfl hl.1 rfl rfl rfl (Nat.le_of_ble_eq_true rfl) ⟨Nat.le_trans (Nat.le_of_ble_eq_true rfl) hR.1, Nat.le_trans (Nat.le_of_ble_eq_true rfl) hR.2⟩ ⟨Nat.zero_le _, Nat.zero_le _⟩ dX3_sumWeights_18) (fun a1 u2 H locs hp hw => ?_)
      obtain ⟨rfl, h⟩ := hp
      refine lv_if_eq (tgt := 64) hx hb dX3_sumWeights_21 (by decide) (fun hc => ?_) (fun hc => ?_)
      · have h := Eq.mp (if_pos hc) h
        refine lv_iinc (v := x7 + 1) (lv' := [(7, _), (0, _), (1, _), (2, _), (3, _), (4, _), (5, _)]) hx hb dX3_sumWeights_64 hl (k := 6) rfl rfl (by decide) rfl (fun ls hl => ?_)
        refine lv_goto (tgt := 6) hx hb dX3_sumWeights_67 (by decide) ?_
        exact ih _ _ _ h hw (lv_sub hl [1, 2, 3, 4, 5, 6, 0] rfl)
      · have h := Eq.mp (if_neg hc) h
        refine lv_iload hx hb dX3_sumWeights_24 (lv_at hl 4 rfl) ?_
        refine lv_if_eq (tgt := 43) hx hb dX3_sumWeights_26 (by decide) (fun hc => ?_) (fun hc => ?_)
        · have h := Eq.mp (if_pos hc) h
          exact wkLed_sumWeights_b43 X hr hlk hR hcl hG hn1 hc3 ih h hw (lv_sub hl [0, 1, 2, 3, 4, 5, 6] rfl)
        · have h := Eq.mp (if_neg hc) h
          refine lv_aload_n hx hb dX3_sumWeights_29 rfl (lv_at hl 0 rfl) ?_
          refine lv_iload hx hb dX3_sumWeights_30 (lv_at hl 6 rfl) ?_
          refine lv_aload_n hx hb dX3_sumWeights_32 rfl (lv_at hl 2 rfl) ?_
          refine lv_aload_n hx hb dX3_sumWeights_33 rfl (lv_at hl 1 rfl) ?_
          refine hm_geti X hw lk_3_35 hn1.1 dX3_sumWeights_34 ?_
          refine hm_calli hw (hm_runV (rest := []) hcl X hw (cLed_isWon hcl hG h) yk_X3_isWon kw609 rfl (gl_26 hG) rfl hl.1 rfl rfl rfl (Nat.le_of_ble_eq_true rfl) ⟨Nat.le_trans (Nat.le_of_ble_eq_true rfl) hR.1, Nat.le_trans (Nat.le_of_ble_eq_true rfl) hR.2⟩ ⟨Nat.zero_le _, Nat.zero_le _⟩ dX3_sumWeights_37) (fun a8 u9 H locs hp hw => ?_)
          obtain ⟨rfl, h⟩ := hp
          refine lv_if_eq (tgt := 64) hx hb dX3_sumWeights_40 (by decide) (fun hc => ?_) (fun hc => ?_)
          · have h := Eq.mp (if_pos hc) h
            refine lv_iinc (v := x7 + 1) (lv' := [(7, _), (0, _), (1, _), (2, _), (3, _), (4, _), (5, _)]) hx hb dX3_sumWeights_64 hl (k := 6) rfl rfl (by decide) rfl (fun ls hl => ?_)
            refine lv_goto (tgt := 6) hx hb dX3_sumWeights_67 (by decide) ?_
            exact ih _ _ _ h hw (lv_sub hl [1, 2, 3, 4, 5, 6, 0] rfl)
          · have h := Eq.mp (if_neg hc) h
            exact wkLed_sumWeights_b43 X hr hlk hR hcl hG hn1 hc3 ih h hw (lv_sub hl [0, 1, 2, 3, 4, 5, 6] rfl)

theorem cLed_sumWeights {l : Launch} {D : va_G} {cA : Nat → ClassId} {z sz : Nat} {I : HI} {T : HR} {F : HR} {L : HL} {r1 : Nat} {r3 : Nat} {x4 : Int32} {Q : Int64 → HI → Prop} (hcl : hCl Ev) (hG : Geo F L) (hn1 : NetSh F L r1) (hc3 : SceSh F L r3) (h : Led_sumWeights I r1 r3 x4 Q) : Met l yX3_sumWeights (hws0 yX3_sumWeights cX3_sumWeights 8 (some .long)) { frames := 3, cells := 0, slots := 0, locals := 126 } (hPc D cA z Ev (I, J, T, F, L) sz [.ref (z + 26), .ref (z + r1), .ref (z + 23), .ref (z + r3), .int x4]) (va_Ql (pI J T F L Q) (hB D cA z (hA z L sz)) (hA z L sz)) 0 0 (hA z L sz) := by
  refine hm_met (I, J, T, F, L) [.ref (z + 26), .ref (z + r1), .ref (z + 23), .ref (z + r3), .int x4] rfl (by decide) (Nat.le_of_ble_eq_true rfl) ?_
  intro p e s m below meth c ls X hr hlk hnm hxt hsz hw hl
  have hl : lv_has ls 8 [(0, .ref (z + 26)), (1, .ref (z + r1)), (2, .ref (z + 23)), (3, .ref (z + r3)), (4, .int x4)] := hl
  have hR : 3 ≤ ({ frames := 3, cells := 0, slots := 0, locals := 126 } : Room).frames ∧ 126 ≤ ({ frames := 3, cells := 0, slots := 0, locals := 126 } : Room).locals := ⟨Nat.le_refl _, Nat.le_refl _⟩
  generalize ({ frames := 3, cells := 0, slots := 0, locals := 126 } : Room) = R at hR ⊢
  clear hsz
  generalize (hA z L sz) = A at hw ⊢
  have hx := X.1
  have hb := X.2.1
  unfold Led_sumWeights at h
  refine lv_lconst (v := 0) hx hb dX3_sumWeights_0 (by decide) ?_
  refine lv_lstore (lv' := [(5, _), (0, _), (1, _), (2, _), (3, _), (4, _)]) hx hb dX3_sumWeights_1 hl (by decide) rfl (fun ls hl => ?_)
  refine lv_iconst (v := 0) hx hb dX3_sumWeights_3 (by decide) ?_
  refine lv_istore (lv' := [(7, _), (5, _), (0, _), (1, _), (2, _), (3, _), (4, _)]) hx hb dX3_sumWeights_4 hl (by decide) rfl (fun ls hl => ?_)
  obtain ⟨n2, h⟩ := h
  exact wkLed_sumWeights_l6 X hr hlk hR hcl hG hn1 hc3  n2 _ _ _ h hw (lv_sub hl [2, 3, 4, 5, 6, 1, 0] rfl)

theorem wkLed_rowBeaten_l6 {I : HI} {T : HR} {F : HR} {L : HL} {r1 : Nat} {x3 : Int32} {Q : Int32 → Prop} (X : hX p m c s args RX3 cX3_rowBeaten 6) (hr : meth.sig.returnType = (some .int)) (hlk : meth.locks = false) (hR : 3 ≤ R.frames ∧ 67 ≤ R.locals) (hcl : hCl Ev) (hG : Geo F L) (hn1 : NetSh F L r1)  : ∀ (n : Nat) (x4 : Int32) (x5 : Int32) {ls : Array Slot} {H : Heap} {locs : List Loc}, Led_rowBeaten_l6 I r1 x3 Q n x4 x5 → hW D cA z Ev (I, J, T, F, L) A s H locs → lv_has ls 6 [(0, .ref (z + 26)), (1, .ref (z + r1)), (2, .ref (z + 23)), (3, .int x3), (4, .int x4), (5, .int x5)] → W p l e R s m args below meth c H locs 0 0 (MQ below (va_Qi (p0 (I, J, T, F, L) Q) (hB D cA z A) A) args s 0 0 A) (F0 m 6 ls []) := by
  have hx := X.1
  have hb := X.2.1
  intro n
  induction n with
  | zero => intro x4 x5 ls H locs h; exact False.elim h
  | succ n ih =>
    intro x4 x5 ls H locs h hw hl
    rw [Led_rowBeaten_l6] at h
    refine lv_iload hx hb dX3_rowBeaten_6 (lv_at hl 5 rfl) ?_
    refine lv_aload_n hx hb dX3_rowBeaten_8 rfl (lv_at hl 1 rfl) ?_
    refine hm_geti X hw lk_3_19 hn1.1 dX3_rowBeaten_9 ?_
    refine lv_icmp_ge (tgt := 56) hx hb dX3_rowBeaten_12 (by decide) (fun hc => ?_) (fun hc => ?_)
    · have h := Eq.mp (if_pos hc) h
      refine lv_iconst (v := (-1)) hx hb dX3_rowBeaten_56 (by decide) ?_
      exact hm_iret X hr hlk hw ⟨rfl, h⟩ dX3_rowBeaten_57
    · have h := Eq.mp (if_neg hc) h
      refine lv_aload_n hx hb dX3_rowBeaten_15 rfl (lv_at hl 0 rfl) ?_
      refine lv_iload hx hb dX3_rowBeaten_16 (lv_at hl 5 rfl) ?_
      refine hm_calli hw (hm_runV (rest := []) hcl X hw (cLed_counts hcl hG h) yk_X3_counts kw605 rfl (gl_26 hG) rfl hl.1 rfl rfl rfl (Nat.le_of_ble_eq_true rfl) ⟨Nat.le_trans (Nat.le_of_ble_eq_true rfl) hR.1, Nat.le_trans (Nat.le_of_ble_eq_true rfl) hR.2⟩ ⟨Nat.zero_le _, Nat.zero_le _⟩ dX3_rowBeaten_18) (fun a1 u2 H locs hp hw => ?_)
      obtain ⟨rfl, h⟩ := hp
      refine lv_if_eq (tgt := 50) hx hb dX3_rowBeaten_21 (by decide) (fun hc => ?_) (fun hc => ?_)
      · have h := Eq.mp (if_pos hc) h
        refine lv_iinc (v := x5 + 1) (lv' := [(5, _), (0, _), (1, _), (2, _), (3, _), (4, _)]) hx hb dX3_rowBeaten_50 hl (k := 5) rfl rfl (by decide) rfl (fun ls hl => ?_)
        refine lv_goto (tgt := 6) hx hb dX3_rowBeaten_53 (by decide) ?_
        exact ih _ _ h hw (lv_sub hl [1, 2, 3, 4, 5, 0] rfl)
      · have h := Eq.mp (if_neg hc) h
        refine lv_aload_n hx hb dX3_rowBeaten_24 rfl (lv_at hl 0 rfl) ?_
        refine lv_iload hx hb dX3_rowBeaten_25 (lv_at hl 5 rfl) ?_
        refine lv_aload_n hx hb dX3_rowBeaten_27 rfl (lv_at hl 2 rfl) ?_
        refine lv_aload_n hx hb dX3_rowBeaten_28 rfl (lv_at hl 1 rfl) ?_
        refine hm_geti X hw lk_3_35 hn1.1 dX3_rowBeaten_29 ?_
        refine hm_calli hw (hm_runV (rest := []) hcl X hw (cLed_isWon hcl hG h) yk_X3_isWon kw609 rfl (gl_26 hG) rfl hl.1 rfl rfl rfl (Nat.le_of_ble_eq_true rfl) ⟨Nat.le_trans (Nat.le_of_ble_eq_true rfl) hR.1, Nat.le_trans (Nat.le_of_ble_eq_true rfl) hR.2⟩ ⟨Nat.zero_le _, Nat.zero_le _⟩ dX3_rowBeaten_32) (fun a3 u4 H locs hp hw => ?_)
        obtain ⟨rfl, h⟩ := hp
        refine lv_if_ne (tgt := 50) hx hb dX3_rowBeaten_35 (by decide) (fun hc => ?_) (fun hc => ?_)
        · have h := Eq.mp (if_neg hc) h
          refine lv_iinc (v := x5 + 1) (lv' := [(5, _), (0, _), (1, _), (2, _), (3, _), (4, _)]) hx hb dX3_rowBeaten_50 hl (k := 5) rfl rfl (by decide) rfl (fun ls hl => ?_)
          refine lv_goto (tgt := 6) hx hb dX3_rowBeaten_53 (by decide) ?_
          exact ih _ _ h hw (lv_sub hl [1, 2, 3, 4, 5, 0] rfl)
        · have h := Eq.mp (if_pos hc) h
          refine lv_iload hx hb dX3_rowBeaten_38 (lv_at hl 4 rfl) ?_
          refine lv_iload_n hx hb dX3_rowBeaten_40 rfl (lv_at hl 3 rfl) ?_
          refine lv_icmp_ne (tgt := 47) hx hb dX3_rowBeaten_41 (by decide) (fun hc => ?_) (fun hc => ?_)
          · have h := Eq.mp (if_neg hc) h
            refine lv_iinc (v := x4 + 1) (lv' := [(4, _), (0, _), (1, _), (2, _), (3, _), (5, _)]) hx hb dX3_rowBeaten_47 hl (k := 4) rfl rfl (by decide) rfl (fun ls hl => ?_)
            refine lv_iinc (v := x5 + 1) (lv' := [(5, _), (4, _), (0, _), (1, _), (2, _), (3, _)]) hx hb dX3_rowBeaten_50 hl (k := 5) rfl rfl (by decide) rfl (fun ls hl => ?_)
            refine lv_goto (tgt := 6) hx hb dX3_rowBeaten_53 (by decide) ?_
            exact ih _ _ h hw (lv_sub hl [2, 3, 4, 5, 1, 0] rfl)
          · have h := Eq.mp (if_pos hc) h
            refine lv_iload hx hb dX3_rowBeaten_44 (lv_at hl 5 rfl) ?_
            exact hm_iret X hr hlk hw ⟨rfl, h⟩ dX3_rowBeaten_46

theorem cLed_rowBeaten {l : Launch} {D : va_G} {cA : Nat → ClassId} {z sz : Nat} {I : HI} {T : HR} {F : HR} {L : HL} {r1 : Nat} {x3 : Int32} {Q : Int32 → Prop} (hcl : hCl Ev) (hG : Geo F L) (hn1 : NetSh F L r1) (h : Led_rowBeaten I r1 x3 Q) : Met l yX3_rowBeaten (hws0 yX3_rowBeaten cX3_rowBeaten 6 (some .int)) { frames := 3, cells := 0, slots := 0, locals := 67 } (hPc D cA z Ev (I, J, T, F, L) sz [.ref (z + 26), .ref (z + r1), .ref (z + 23), .int x3]) (va_Qi (p0 (I, J, T, F, L) Q) (hB D cA z (hA z L sz)) (hA z L sz)) 0 0 (hA z L sz) := by
  refine hm_met (I, J, T, F, L) [.ref (z + 26), .ref (z + r1), .ref (z + 23), .int x3] rfl (by decide) (Nat.le_of_ble_eq_true rfl) ?_
  intro p e s m below meth c ls X hr hlk hnm hxt hsz hw hl
  have hl : lv_has ls 6 [(0, .ref (z + 26)), (1, .ref (z + r1)), (2, .ref (z + 23)), (3, .int x3)] := hl
  have hR : 3 ≤ ({ frames := 3, cells := 0, slots := 0, locals := 67 } : Room).frames ∧ 67 ≤ ({ frames := 3, cells := 0, slots := 0, locals := 67 } : Room).locals := ⟨Nat.le_refl _, Nat.le_refl _⟩
  generalize ({ frames := 3, cells := 0, slots := 0, locals := 67 } : Room) = R at hR ⊢
  clear hsz
  generalize (hA z L sz) = A at hw ⊢
  have hx := X.1
  have hb := X.2.1
  unfold Led_rowBeaten at h
  refine lv_iconst (v := 0) hx hb dX3_rowBeaten_0 (by decide) ?_
  refine lv_istore (lv' := [(4, _), (0, _), (1, _), (2, _), (3, _)]) hx hb dX3_rowBeaten_1 hl (by decide) rfl (fun ls hl => ?_)
  refine lv_iconst (v := 0) hx hb dX3_rowBeaten_3 (by decide) ?_
  refine lv_istore (lv' := [(5, _), (4, _), (0, _), (1, _), (2, _), (3, _)]) hx hb dX3_rowBeaten_4 hl (by decide) rfl (fun ls hl => ?_)
  obtain ⟨n2, h⟩ := h
  exact wkLed_rowBeaten_l6 X hr hlk hR hcl hG hn1  n2 _ _ h hw (lv_sub hl [2, 3, 4, 5, 1, 0] rfl)

theorem wkLed_rowsWithRight_l5 {I : HI} {T : HR} {F : HR} {L : HL} {r1 : Nat} {x2 : Int32} {Q : Int32 → Prop} (X : hX p m c s args RX3 cX3_rowsWithRight 5) (hr : meth.sig.returnType = (some .int)) (hlk : meth.locks = false) (hR : 1 ≤ R.frames ∧ 21 ≤ R.locals) (hcl : hCl Ev) (hG : Geo F L) (hn1 : NetSh F L r1)  : ∀ (n : Nat) (x3 : Int32) (x4 : Int32) {ls : Array Slot} {H : Heap} {locs : List Loc}, Led_rowsWithRight_l5 I r1 x2 Q n x3 x4 → hW D cA z Ev (I, J, T, F, L) A s H locs → lv_has ls 5 [(0, .ref (z + 26)), (1, .ref (z + r1)), (2, .int x2), (3, .int x3), (4, .int x4)] → W p l e R s m args below meth c H locs 0 0 (MQ below (va_Qi (p0 (I, J, T, F, L) Q) (hB D cA z A) A) args s 0 0 A) (F0 m 5 ls []) := by
  have hx := X.1
  have hb := X.2.1
  intro n
  induction n with
  | zero => intro x3 x4 ls H locs h; exact False.elim h
  | succ n ih =>
    intro x3 x4 ls H locs h hw hl
    rw [Led_rowsWithRight_l5] at h
    refine lv_iload hx hb dX3_rowsWithRight_5 (lv_at hl 4 rfl) ?_
    refine lv_aload_n hx hb dX3_rowsWithRight_7 rfl (lv_at hl 1 rfl) ?_
    refine hm_geti X hw lk_3_19 hn1.1 dX3_rowsWithRight_8 ?_
    refine lv_icmp_ge (tgt := 50) hx hb dX3_rowsWithRight_11 (by decide) (fun hc => ?_) (fun hc => ?_)
    · have h := Eq.mp (if_pos hc) h
      refine lv_iload_n hx hb dX3_rowsWithRight_50 rfl (lv_at hl 3 rfl) ?_
      exact hm_iret X hr hlk hw ⟨rfl, h⟩ dX3_rowsWithRight_51
    · have h := Eq.mp (if_neg hc) h
      refine lv_aload_n hx hb dX3_rowsWithRight_14 rfl (lv_at hl 0 rfl) ?_
      refine lv_iload hx hb dX3_rowsWithRight_15 (lv_at hl 4 rfl) ?_
      refine hm_calli hw (hm_runV (rest := []) hcl X hw (cLed_counts hcl hG h) yk_X3_counts kw605 rfl (gl_26 hG) rfl hl.1 rfl rfl rfl (Nat.le_of_ble_eq_true rfl) ⟨Nat.le_trans (Nat.le_of_ble_eq_true rfl) hR.1, Nat.le_trans (Nat.le_of_ble_eq_true rfl) hR.2⟩ ⟨Nat.zero_le _, Nat.zero_le _⟩ dX3_rowsWithRight_17) (fun a1 u2 H locs hp hw => ?_)
      obtain ⟨rfl, h⟩ := hp
      refine lv_if_eq (tgt := 44) hx hb dX3_rowsWithRight_20 (by decide) (fun hc => ?_) (fun hc => ?_)
      · have h := Eq.mp (if_pos hc) h
        refine lv_iinc (v := x4 + 1) (lv' := [(4, _), (0, _), (1, _), (2, _), (3, _)]) hx hb dX3_rowsWithRight_44 hl (k := 4) rfl rfl (by decide) rfl (fun ls hl => ?_)
        refine lv_goto (tgt := 5) hx hb dX3_rowsWithRight_47 (by decide) ?_
        exact ih _ _ h hw (lv_sub hl [1, 2, 3, 4, 0] rfl)
      · have h := Eq.mp (if_neg hc) h
        refine lv_aload_n hx hb dX3_rowsWithRight_23 rfl (lv_at hl 0 rfl) ?_
        refine hm_getr X hw lk_3_9 (gl_26 hG) (gf_26_0 hG) dX3_rowsWithRight_24 ?_
        refine lv_iload hx hb dX3_rowsWithRight_27 (lv_at hl 4 rfl) ?_
        obtain ⟨hi, h⟩ := h
        refine hm_iald X hw (gl_27 hG) hi dX3_rowsWithRight_29 ?_
        refine lv_sipush (v := 255) hx hb dX3_rowsWithRight_30 (by decide) ?_
        refine lv_iand hx hb dX3_rowsWithRight_33 ?_
        refine hm_calli hw (hm_runS (rest := []) hcl X hw (cJd_bitCount hcl h) yk_J6_bitCount_0f7a4 kw631 rfl hl.1 rfl rfl rfl (Nat.le_of_ble_eq_true rfl) ⟨Nat.le_trans (Nat.le_of_ble_eq_true rfl) hR.1, Nat.le_trans (Nat.le_of_ble_eq_true rfl) hR.2⟩ ⟨Nat.zero_le _, Nat.zero_le _⟩ dX3_rowsWithRight_34) (fun a3 u4 H locs hp hw => ?_)
        obtain ⟨rfl, h⟩ := hp
        refine lv_iload_n hx hb dX3_rowsWithRight_37 rfl (lv_at hl 2 rfl) ?_
        refine lv_icmp_ne (tgt := 44) hx hb dX3_rowsWithRight_38 (by decide) (fun hc => ?_) (fun hc => ?_)
        · have h := Eq.mp (if_neg hc) h
          refine lv_iinc (v := x4 + 1) (lv' := [(4, _), (0, _), (1, _), (2, _), (3, _)]) hx hb dX3_rowsWithRight_44 hl (k := 4) rfl rfl (by decide) rfl (fun ls hl => ?_)
          refine lv_goto (tgt := 5) hx hb dX3_rowsWithRight_47 (by decide) ?_
          exact ih _ _ h hw (lv_sub hl [1, 2, 3, 4, 0] rfl)
        · have h := Eq.mp (if_pos hc) h
          refine lv_iinc (v := x3 + 1) (lv' := [(3, _), (0, _), (1, _), (2, _), (4, _)]) hx hb dX3_rowsWithRight_41 hl (k := 3) rfl rfl (by decide) rfl (fun ls hl => ?_)
          refine lv_iinc (v := x4 + 1) (lv' := [(4, _), (3, _), (0, _), (1, _), (2, _)]) hx hb dX3_rowsWithRight_44 hl (k := 4) rfl rfl (by decide) rfl (fun ls hl => ?_)
          refine lv_goto (tgt := 5) hx hb dX3_rowsWithRight_47 (by decide) ?_
          exact ih _ _ h hw (lv_sub hl [2, 3, 4, 1, 0] rfl)

theorem cLed_rowsWithRight {l : Launch} {D : va_G} {cA : Nat → ClassId} {z sz : Nat} {I : HI} {T : HR} {F : HR} {L : HL} {r1 : Nat} {x2 : Int32} {Q : Int32 → Prop} (hcl : hCl Ev) (hG : Geo F L) (hn1 : NetSh F L r1) (h : Led_rowsWithRight I r1 x2 Q) : Met l yX3_rowsWithRight (hws0 yX3_rowsWithRight cX3_rowsWithRight 5 (some .int)) { frames := 1, cells := 0, slots := 0, locals := 21 } (hPc D cA z Ev (I, J, T, F, L) sz [.ref (z + 26), .ref (z + r1), .int x2]) (va_Qi (p0 (I, J, T, F, L) Q) (hB D cA z (hA z L sz)) (hA z L sz)) 0 0 (hA z L sz) := by
  refine hm_met (I, J, T, F, L) [.ref (z + 26), .ref (z + r1), .int x2] rfl (by decide) (Nat.le_of_ble_eq_true rfl) ?_
  intro p e s m below meth c ls X hr hlk hnm hxt hsz hw hl
  have hl : lv_has ls 5 [(0, .ref (z + 26)), (1, .ref (z + r1)), (2, .int x2)] := hl
  have hR : 1 ≤ ({ frames := 1, cells := 0, slots := 0, locals := 21 } : Room).frames ∧ 21 ≤ ({ frames := 1, cells := 0, slots := 0, locals := 21 } : Room).locals := ⟨Nat.le_refl _, Nat.le_refl _⟩
  generalize ({ frames := 1, cells := 0, slots := 0, locals := 21 } : Room) = R at hR ⊢
  clear hsz
  generalize (hA z L sz) = A at hw ⊢
  have hx := X.1
  have hb := X.2.1
  unfold Led_rowsWithRight at h
  refine lv_iconst (v := 0) hx hb dX3_rowsWithRight_0 (by decide) ?_
  refine lv_istore_n (lv' := [(3, _), (0, _), (1, _), (2, _)]) hx hb dX3_rowsWithRight_1 rfl hl (by decide) rfl (fun ls hl => ?_)
  refine lv_iconst (v := 0) hx hb dX3_rowsWithRight_2 (by decide) ?_
  refine lv_istore (lv' := [(4, _), (3, _), (0, _), (1, _), (2, _)]) hx hb dX3_rowsWithRight_3 hl (by decide) rfl (fun ls hl => ?_)
  obtain ⟨n2, h⟩ := h
  exact wkLed_rowsWithRight_l5 X hr hlk hR hcl hG hn1  n2 _ _ h hw (lv_sub hl [2, 3, 4, 1, 0] rfl)

theorem wkLed_rowsRightFor_l5 {I : HI} {T : HR} {F : HR} {L : HL} {r1 : Nat} {x2 : Int32} {Q : Int32 → Prop} (X : hX p m c s args RX3 cX3_rowsRightFor 5) (hr : meth.sig.returnType = (some .int)) (hlk : meth.locks = false) (hR : 1 ≤ R.frames ∧ 21 ≤ R.locals) (hcl : hCl Ev) (hG : Geo F L) (hn1 : NetSh F L r1)  : ∀ (n : Nat) (x3 : Int32) (x4 : Int32) {ls : Array Slot} {H : Heap} {locs : List Loc}, Led_rowsRightFor_l5 I r1 x2 Q n x3 x4 → hW D cA z Ev (I, J, T, F, L) A s H locs → lv_has ls 5 [(0, .ref (z + 26)), (1, .ref (z + r1)), (2, .int x2), (3, .int x3), (4, .int x4)] → W p l e R s m args below meth c H locs 0 0 (MQ below (va_Qi (p0 (I, J, T, F, L) Q) (hB D cA z A) A) args s 0 0 A) (F0 m 5 ls []) := by
  have hx := X.1
  have hb := X.2.1
  intro n
  induction n with
  | zero => intro x3 x4 ls H locs h; exact False.elim h
  | succ n ih =>
    intro x3 x4 ls H locs h hw hl
    rw [Led_rowsRightFor_l5] at h
    refine lv_iload hx hb dX3_rowsRightFor_5 (lv_at hl 4 rfl) ?_
    refine lv_aload_n hx hb dX3_rowsRightFor_7 rfl (lv_at hl 1 rfl) ?_
    refine hm_geti X hw lk_3_19 hn1.1 dX3_rowsRightFor_8 ?_
    refine lv_icmp_ge (tgt := 47) hx hb dX3_rowsRightFor_11 (by decide) (fun hc => ?_) (fun hc => ?_)
    · have h := Eq.mp (if_pos hc) h
      refine lv_iload_n hx hb dX3_rowsRightFor_47 rfl (lv_at hl 3 rfl) ?_
      exact hm_iret X hr hlk hw ⟨rfl, h⟩ dX3_rowsRightFor_48
    · have h := Eq.mp (if_neg hc) h
      refine lv_aload_n hx hb dX3_rowsRightFor_14 rfl (lv_at hl 0 rfl) ?_
      refine lv_iload hx hb dX3_rowsRightFor_15 (lv_at hl 4 rfl) ?_
      refine hm_calli hw (hm_runV (rest := []) hcl X hw (cLed_counts hcl hG h) yk_X3_counts kw605 rfl (gl_26 hG) rfl hl.1 rfl rfl rfl (Nat.le_of_ble_eq_true rfl) ⟨Nat.le_trans (Nat.le_of_ble_eq_true rfl) hR.1, Nat.le_trans (Nat.le_of_ble_eq_true rfl) hR.2⟩ ⟨Nat.zero_le _, Nat.zero_le _⟩ dX3_rowsRightFor_17) (fun a1 u2 H locs hp hw => ?_)
      obtain ⟨rfl, h⟩ := hp
      refine lv_if_eq (tgt := 41) hx hb dX3_rowsRightFor_20 (by decide) (fun hc => ?_) (fun hc => ?_)
      · have h := Eq.mp (if_pos hc) h
        refine lv_iinc (v := x4 + 1) (lv' := [(4, _), (0, _), (1, _), (2, _), (3, _)]) hx hb dX3_rowsRightFor_41 hl (k := 4) rfl rfl (by decide) rfl (fun ls hl => ?_)
        refine lv_goto (tgt := 5) hx hb dX3_rowsRightFor_44 (by decide) ?_
        exact ih _ _ h hw (lv_sub hl [1, 2, 3, 4, 0] rfl)
      · have h := Eq.mp (if_neg hc) h
        refine lv_aload_n hx hb dX3_rowsRightFor_23 rfl (lv_at hl 0 rfl) ?_
        refine hm_getr X hw lk_3_9 (gl_26 hG) (gf_26_0 hG) dX3_rowsRightFor_24 ?_
        refine lv_iload hx hb dX3_rowsRightFor_27 (lv_at hl 4 rfl) ?_
        obtain ⟨hi, h⟩ := h
        refine hm_iald X hw (gl_27 hG) hi dX3_rowsRightFor_29 ?_
        refine lv_iload_n hx hb dX3_rowsRightFor_30 rfl (lv_at hl 2 rfl) ?_
        refine lv_ishr hx hb dX3_rowsRightFor_31 ?_
        refine lv_iconst (v := 1) hx hb dX3_rowsRightFor_32 (by decide) ?_
        refine lv_iand hx hb dX3_rowsRightFor_33 ?_
        refine lv_iconst (v := 1) hx hb dX3_rowsRightFor_34 (by decide) ?_
        refine lv_icmp_ne (tgt := 41) hx hb dX3_rowsRightFor_35 (by decide) (fun hc => ?_) (fun hc => ?_)
        · have h := Eq.mp (if_neg hc) h
          refine lv_iinc (v := x4 + 1) (lv' := [(4, _), (0, _), (1, _), (2, _), (3, _)]) hx hb dX3_rowsRightFor_41 hl (k := 4) rfl rfl (by decide) rfl (fun ls hl => ?_)
          refine lv_goto (tgt := 5) hx hb dX3_rowsRightFor_44 (by decide) ?_
          exact ih _ _ h hw (lv_sub hl [1, 2, 3, 4, 0] rfl)
        · have h := Eq.mp (if_pos hc) h
          refine lv_iinc (v := x3 + 1) (lv' := [(3, _), (0, _), (1, _), (2, _), (4, _)]) hx hb dX3_rowsRightFor_38 hl (k := 3) rfl rfl (by decide) rfl (fun ls hl => ?_)
          refine lv_iinc (v := x4 + 1) (lv' := [(4, _), (3, _), (0, _), (1, _), (2, _)]) hx hb dX3_rowsRightFor_41 hl (k := 4) rfl rfl (by decide) rfl (fun ls hl => ?_)
          refine lv_goto (tgt := 5) hx hb dX3_rowsRightFor_44 (by decide) ?_
          exact ih _ _ h hw (lv_sub hl [2, 3, 4, 1, 0] rfl)

theorem cLed_rowsRightFor {l : Launch} {D : va_G} {cA : Nat → ClassId} {z sz : Nat} {I : HI} {T : HR} {F : HR} {L : HL} {r1 : Nat} {x2 : Int32} {Q : Int32 → Prop} (hcl : hCl Ev) (hG : Geo F L) (hn1 : NetSh F L r1) (h : Led_rowsRightFor I r1 x2 Q) : Met l yX3_rowsRightFor (hws0 yX3_rowsRightFor cX3_rowsRightFor 5 (some .int)) { frames := 1, cells := 0, slots := 0, locals := 21 } (hPc D cA z Ev (I, J, T, F, L) sz [.ref (z + 26), .ref (z + r1), .int x2]) (va_Qi (p0 (I, J, T, F, L) Q) (hB D cA z (hA z L sz)) (hA z L sz)) 0 0 (hA z L sz) := by
  refine hm_met (I, J, T, F, L) [.ref (z + 26), .ref (z + r1), .int x2] rfl (by decide) (Nat.le_of_ble_eq_true rfl) ?_
  intro p e s m below meth c ls X hr hlk hnm hxt hsz hw hl
  have hl : lv_has ls 5 [(0, .ref (z + 26)), (1, .ref (z + r1)), (2, .int x2)] := hl
  have hR : 1 ≤ ({ frames := 1, cells := 0, slots := 0, locals := 21 } : Room).frames ∧ 21 ≤ ({ frames := 1, cells := 0, slots := 0, locals := 21 } : Room).locals := ⟨Nat.le_refl _, Nat.le_refl _⟩
  generalize ({ frames := 1, cells := 0, slots := 0, locals := 21 } : Room) = R at hR ⊢
  clear hsz
  generalize (hA z L sz) = A at hw ⊢
  have hx := X.1
  have hb := X.2.1
  unfold Led_rowsRightFor at h
  refine lv_iconst (v := 0) hx hb dX3_rowsRightFor_0 (by decide) ?_
  refine lv_istore_n (lv' := [(3, _), (0, _), (1, _), (2, _)]) hx hb dX3_rowsRightFor_1 rfl hl (by decide) rfl (fun ls hl => ?_)
  refine lv_iconst (v := 0) hx hb dX3_rowsRightFor_2 (by decide) ?_
  refine lv_istore (lv' := [(4, _), (3, _), (0, _), (1, _), (2, _)]) hx hb dX3_rowsRightFor_3 hl (by decide) rfl (fun ls hl => ?_)
  obtain ⟨n2, h⟩ := h
  exact wkLed_rowsRightFor_l5 X hr hlk hR hcl hG hn1  n2 _ _ h hw (lv_sub hl [2, 3, 4, 1, 0] rfl)

theorem wkLed_worstRow_l4 {I : HI} {T : HR} {F : HR} {L : HL} {r1 : Nat} {Q : Int32 → Prop} (X : hX p m c s args RX3 cX3_worstRow 4) (hr : meth.sig.returnType = (some .int)) (hlk : meth.locks = false) (hR : 2 ≤ R.frames ∧ 41 ≤ R.locals) (hcl : hCl Ev) (hG : Geo F L) (hn1 : NetSh F L r1)  : ∀ (n : Nat) (x2 : Int32) (x3 : Int32) {ls : Array Slot} {H : Heap} {locs : List Loc}, Led_worstRow_l4 I r1 Q n x2 x3 → hW D cA z Ev (I, J, T, F, L) A s H locs → lv_has ls 4 [(0, .ref (z + 26)), (1, .ref (z + r1)), (2, .int x2), (3, .int x3)] → W p l e R s m args below meth c H locs 0 0 (MQ below (va_Qi (p0 (I, J, T, F, L) Q) (hB D cA z A) A) args s 0 0 A) (F0 m 4 ls []) := by
  have hx := X.1
  have hb := X.2.1
  intro n
  induction n with
  | zero => intro x2 x3 ls H locs h; exact False.elim h
  | succ n ih =>
    intro x2 x3 ls H locs h hw hl
    rw [Led_worstRow_l4] at h
    refine lv_iload_n hx hb dX3_worstRow_4 rfl (lv_at hl 3 rfl) ?_
    refine lv_aload_n hx hb dX3_worstRow_5 rfl (lv_at hl 1 rfl) ?_
    refine hm_geti X hw lk_3_19 hn1.1 dX3_worstRow_6 ?_
    refine lv_icmp_ge (tgt := 46) hx hb dX3_worstRow_9 (by decide) (fun hc => ?_) (fun hc => ?_)
    · have h := Eq.mp (if_pos hc) h
      refine lv_iload_n hx hb dX3_worstRow_46 rfl (lv_at hl 2 rfl) ?_
      exact hm_iret X hr hlk hw ⟨rfl, h⟩ dX3_worstRow_47
    · have h := Eq.mp (if_neg hc) h
      refine lv_aload_n hx hb dX3_worstRow_12 rfl (lv_at hl 0 rfl) ?_
      refine lv_iload_n hx hb dX3_worstRow_13 rfl (lv_at hl 3 rfl) ?_
      refine hm_calli hw (hm_runV (rest := []) hcl X hw (cLed_counts hcl hG h) yk_X3_counts kw605 rfl (gl_26 hG) rfl hl.1 rfl rfl rfl (Nat.le_of_ble_eq_true rfl) ⟨Nat.le_trans (Nat.le_of_ble_eq_true rfl) hR.1, Nat.le_trans (Nat.le_of_ble_eq_true rfl) hR.2⟩ ⟨Nat.zero_le _, Nat.zero_le _⟩ dX3_worstRow_14) (fun a1 u2 H locs hp hw => ?_)
      obtain ⟨rfl, h⟩ := hp
      refine lv_if_eq (tgt := 40) hx hb dX3_worstRow_17 (by decide) (fun hc => ?_) (fun hc => ?_)
      · have h := Eq.mp (if_pos hc) h
        refine lv_iinc (v := x3 + 1) (lv' := [(3, _), (0, _), (1, _), (2, _)]) hx hb dX3_worstRow_40 hl (k := 3) rfl rfl (by decide) rfl (fun ls hl => ?_)
        refine lv_goto (tgt := 4) hx hb dX3_worstRow_43 (by decide) ?_
        exact ih _ _ h hw (lv_sub hl [1, 2, 3, 0] rfl)
      · have h := Eq.mp (if_neg hc) h
        refine lv_iload_n hx hb dX3_worstRow_20 rfl (lv_at hl 2 rfl) ?_
        refine lv_iconst (v := (-1)) hx hb dX3_worstRow_21 (by decide) ?_
        refine lv_icmp_eq (tgt := 38) hx hb dX3_worstRow_22 (by decide) (fun hc => ?_) (fun hc => ?_)
        · have h := Eq.mp (if_pos hc) h
          refine lv_iload_n hx hb dX3_worstRow_38 rfl (lv_at hl 3 rfl) ?_
          refine lv_istore_n (lv' := [(2, _), (0, _), (1, _), (3, _)]) hx hb dX3_worstRow_39 rfl hl (by decide) rfl (fun ls hl => ?_)
          refine lv_iinc (v := x3 + 1) (lv' := [(3, _), (2, _), (0, _), (1, _)]) hx hb dX3_worstRow_40 hl (k := 3) rfl rfl (by decide) rfl (fun ls hl => ?_)
          refine lv_goto (tgt := 4) hx hb dX3_worstRow_43 (by decide) ?_
          exact ih _ _ h hw (lv_sub hl [2, 3, 1, 0] rfl)
        · have h := Eq.mp (if_neg hc) h
          refine lv_aload_n hx hb dX3_worstRow_25 rfl (lv_at hl 0 rfl) ?_
          refine lv_iload_n hx hb dX3_worstRow_26 rfl (lv_at hl 3 rfl) ?_
          refine hm_calli hw (hm_runV (rest := []) hcl X hw (cLed_wrongIn hcl hG h) yk_X3_wrongIn kw803 rfl (gl_26 hG) rfl hl.1 rfl rfl rfl (Nat.le_of_ble_eq_true rfl) ⟨Nat.le_trans (Nat.le_of_ble_eq_true rfl) hR.1, Nat.le_trans (Nat.le_of_ble_eq_true rfl) hR.2⟩ ⟨Nat.zero_le _, Nat.zero_le _⟩ dX3_worstRow_27) (fun a3 u4 H locs hp hw => ?_)
          obtain ⟨rfl, h⟩ := hp
          refine lv_aload_n hx hb dX3_worstRow_30 rfl (lv_at hl 0 rfl) ?_
          refine lv_iload_n hx hb dX3_worstRow_31 rfl (lv_at hl 2 rfl) ?_
          refine hm_calli hw (hm_runV (rest := [_]) hcl X hw (cLed_wrongIn hcl hG h) yk_X3_wrongIn kw803 rfl (gl_26 hG) rfl hl.1 rfl rfl rfl (Nat.le_of_ble_eq_true rfl) ⟨Nat.le_trans (Nat.le_of_ble_eq_true rfl) hR.1, Nat.le_trans (Nat.le_of_ble_eq_true rfl) hR.2⟩ ⟨Nat.zero_le _, Nat.zero_le _⟩ dX3_worstRow_32) (fun a5 u6 H locs hp hw => ?_)
          obtain ⟨rfl, h⟩ := hp
          refine lv_icmp_le (tgt := 40) hx hb dX3_worstRow_35 (by decide) (fun hc => ?_) (fun hc => ?_)
          · have h := Eq.mp (if_pos hc) h
            refine lv_iinc (v := x3 + 1) (lv' := [(3, _), (0, _), (1, _), (2, _)]) hx hb dX3_worstRow_40 hl (k := 3) rfl rfl (by decide) rfl (fun ls hl => ?_)
            refine lv_goto (tgt := 4) hx hb dX3_worstRow_43 (by decide) ?_
            exact ih _ _ h hw (lv_sub hl [1, 2, 3, 0] rfl)
          · have h := Eq.mp (if_neg hc) h
            refine lv_iload_n hx hb dX3_worstRow_38 rfl (lv_at hl 3 rfl) ?_
            refine lv_istore_n (lv' := [(2, _), (0, _), (1, _), (3, _)]) hx hb dX3_worstRow_39 rfl hl (by decide) rfl (fun ls hl => ?_)
            refine lv_iinc (v := x3 + 1) (lv' := [(3, _), (2, _), (0, _), (1, _)]) hx hb dX3_worstRow_40 hl (k := 3) rfl rfl (by decide) rfl (fun ls hl => ?_)
            refine lv_goto (tgt := 4) hx hb dX3_worstRow_43 (by decide) ?_
            exact ih _ _ h hw (lv_sub hl [2, 3, 1, 0] rfl)

theorem cLed_worstRow {l : Launch} {D : va_G} {cA : Nat → ClassId} {z sz : Nat} {I : HI} {T : HR} {F : HR} {L : HL} {r1 : Nat} {Q : Int32 → Prop} (hcl : hCl Ev) (hG : Geo F L) (hn1 : NetSh F L r1) (h : Led_worstRow I r1 Q) : Met l yX3_worstRow (hws0 yX3_worstRow cX3_worstRow 4 (some .int)) { frames := 2, cells := 0, slots := 0, locals := 41 } (hPc D cA z Ev (I, J, T, F, L) sz [.ref (z + 26), .ref (z + r1)]) (va_Qi (p0 (I, J, T, F, L) Q) (hB D cA z (hA z L sz)) (hA z L sz)) 0 0 (hA z L sz) := by
  refine hm_met (I, J, T, F, L) [.ref (z + 26), .ref (z + r1)] rfl (by decide) (Nat.le_of_ble_eq_true rfl) ?_
  intro p e s m below meth c ls X hr hlk hnm hxt hsz hw hl
  have hl : lv_has ls 4 [(0, .ref (z + 26)), (1, .ref (z + r1))] := hl
  have hR : 2 ≤ ({ frames := 2, cells := 0, slots := 0, locals := 41 } : Room).frames ∧ 41 ≤ ({ frames := 2, cells := 0, slots := 0, locals := 41 } : Room).locals := ⟨Nat.le_refl _, Nat.le_refl _⟩
  generalize ({ frames := 2, cells := 0, slots := 0, locals := 41 } : Room) = R at hR ⊢
  clear hsz
  generalize (hA z L sz) = A at hw ⊢
  have hx := X.1
  have hb := X.2.1
  unfold Led_worstRow at h
  refine lv_iconst (v := (-1)) hx hb dX3_worstRow_0 (by decide) ?_
  refine lv_istore_n (lv' := [(2, _), (0, _), (1, _)]) hx hb dX3_worstRow_1 rfl hl (by decide) rfl (fun ls hl => ?_)
  refine lv_iconst (v := 0) hx hb dX3_worstRow_2 (by decide) ?_
  refine lv_istore_n (lv' := [(3, _), (2, _), (0, _), (1, _)]) hx hb dX3_worstRow_3 rfl hl (by decide) rfl (fun ls hl => ?_)
  obtain ⟨n2, h⟩ := h
  exact wkLed_worstRow_l4 X hr hlk hR hcl hG hn1  n2 _ _ h hw (lv_sub hl [2, 3, 1, 0] rfl)

theorem wkJd_fillI_l5 {T : HR} {F : HR} {L : HL} {r0 : Nat} {n0 : Nat} {x1 : Int32} {x3 : Int32} {Q : HI → Prop} (X : hX p m c s args RJ7 cJ7_fill_53178 4) (hr : meth.sig.returnType = none) (hlk : meth.locks = false) (hR : 0 ≤ R.frames ∧ 0 ≤ R.locals) (hcl : hCl Ev) (hs0 : (r0, 0, n0) ∈ L)  : ∀ (n : Nat) (I : HI) (x2 : Int32) {ls : Array Slot} {H : Heap} {locs : List Loc}, Jd_fillI_l5 r0 n0 x1 x3 Q n I x2 → hW D cA z Ev (I, J, T, F, L) A s H locs → lv_has ls 4 [(0, .ref (z + r0)), (1, .int x1), (2, .int x2), (3, .int x3)] → W p l e R s m args below meth c H locs 0 0 (MQ below (va_Qv (pIv J T F L Q) (hB D cA z A) A) args s 0 0 A) (F0 m 5 ls []) := by
  have hx := X.1
  have hb := X.2.1
  intro n
  induction n with
  | zero => intro I x2 ls H locs h; exact False.elim h
  | succ n ih =>
    intro I x2 ls H locs h hw hl
    rw [Jd_fillI_l5] at h
    refine lv_iload_n hx hb dJ7_fill_53178_5 rfl (lv_at hl 2 rfl) ?_
    refine lv_iload_n hx hb dJ7_fill_53178_6 rfl (lv_at hl 3 rfl) ?_
    refine lv_icmp_ge (tgt := 20) hx hb dJ7_fill_53178_7 (by decide) (fun hc => ?_) (fun hc => ?_)
    · have h := Eq.mp (if_pos hc) h
      exact hm_vret X hr hlk hw ⟨_, rfl, h⟩ dJ7_fill_53178_20
    · have h := Eq.mp (if_neg hc) h
      refine lv_aload_n hx hb dJ7_fill_53178_10 rfl (lv_at hl 0 rfl) ?_
      refine lv_iload_n hx hb dJ7_fill_53178_11 rfl (lv_at hl 2 rfl) ?_
      refine lv_iload_n hx hb dJ7_fill_53178_12 rfl (lv_at hl 1 rfl) ?_
      obtain ⟨hi, h⟩ := h
      refine hm_iast X hw hs0 hi dJ7_fill_53178_13 (fun H locs hw => ?_)
      refine lv_iinc (v := x2 + 1) (lv' := [(2, _), (0, _), (1, _), (3, _)]) hx hb dJ7_fill_53178_14 hl (k := 2) rfl rfl (by decide) rfl (fun ls hl => ?_)
      refine lv_goto (tgt := 5) hx hb dJ7_fill_53178_17 (by decide) ?_
      exact ih _ _ h hw (lv_sub hl [1, 2, 0, 3] rfl)

theorem cJd_fillI {l : Launch} {D : va_G} {cA : Nat → ClassId} {z sz : Nat} {I : HI} {T : HR} {F : HR} {L : HL} {r0 : Nat} {n0 : Nat} {x1 : Int32} {Q : HI → Prop} (hcl : hCl Ev) (hs0 : (r0, 0, n0) ∈ L) (h : Jd_fillI I r0 n0 x1 Q) : Met l yJ7_fill_53178 (hws0 yJ7_fill_53178 cJ7_fill_53178 4 none) { frames := 0, cells := 0, slots := 0, locals := 0 } (hPc D cA z Ev (I, J, T, F, L) sz [.ref (z + r0), .int x1]) (va_Qv (pIv J T F L Q) (hB D cA z (hA z L sz)) (hA z L sz)) 0 0 (hA z L sz) := by
  refine hm_metF (I, J, T, F, L) [.ref (z + r0), .int x1] rfl (by decide +kernel) (Nat.le_of_ble_eq_true rfl) ?_
  intro p e s m below meth c ls X hr hlk hnm hxt hsz hw hl
  have hl : lv_has ls 4 [(0, .ref (z + r0)), (1, .int x1)] := hl
  have hR : 0 ≤ ({ frames := 0, cells := 0, slots := 0, locals := 0 } : Room).frames ∧ 0 ≤ ({ frames := 0, cells := 0, slots := 0, locals := 0 } : Room).locals := ⟨Nat.le_refl _, Nat.le_refl _⟩
  generalize ({ frames := 0, cells := 0, slots := 0, locals := 0 } : Room) = R at hR ⊢
  clear hsz
  generalize (hA z L sz) = A at hw ⊢
  have hx := X.1
  have hb := X.2.1
  unfold Jd_fillI at h
  refine lv_iconst (v := 0) hx hb dJ7_fill_53178_0 (by decide) ?_
  refine lv_istore_n (lv' := [(2, _), (0, _), (1, _)]) hx hb dJ7_fill_53178_1 rfl hl (by decide) rfl (fun ls hl => ?_)
  refine lv_aload_n hx hb dJ7_fill_53178_2 rfl (lv_at hl 1 rfl) ?_
  refine hm_alen0 X hw hs0 dJ7_fill_53178_3 ?_
  refine lv_istore_n (lv' := [(3, _), (2, _), (0, _), (1, _)]) hx hb dJ7_fill_53178_4 rfl hl (by decide) rfl (fun ls hl => ?_)
  obtain ⟨n2, h⟩ := h
  exact wkJd_fillI_l5 X hr hlk hR hcl hs0  n2 _ _ h hw (lv_sub hl [2, 3, 1, 0] rfl)

theorem cSc_play {l : Launch} {D : va_G} {cA : Nat → ClassId} {z sz : Nat} {I : HI} {T : HR} {F : HR} {L : HL} {r0 : Nat} {r1 : Nat} {x2 : Int32} {Q : HI → Prop} (hcl : hCl Ev) (hc0 : SceSh F L r0) (hn1 : NetSh F L r1) (h : Sc_play I T F L r0 r1 x2 Q) : Met l yX7_play (hws0 yX7_play cX7_play 3 none) { frames := 5, cells := 0, slots := 0, locals := 120 } (hPc D cA z Ev (I, J, T, F, L) sz [.ref (z + r0), .ref (z + r1), .int x2]) (va_Qv (pIv J T F L Q) (hB D cA z (hA z L sz)) (hA z L sz)) 0 0 (hA z L sz) := by
  refine hm_met (I, J, T, F, L) [.ref (z + r0), .ref (z + r1), .int x2] rfl (by decide) (Nat.le_of_ble_eq_true rfl) ?_
  intro p e s m below meth c ls X hr hlk hnm hxt hsz hw hl
  have hl : lv_has ls 3 [(0, .ref (z + r0)), (1, .ref (z + r1)), (2, .int x2)] := hl
  have hR : 5 ≤ ({ frames := 5, cells := 0, slots := 0, locals := 120 } : Room).frames ∧ 120 ≤ ({ frames := 5, cells := 0, slots := 0, locals := 120 } : Room).locals := ⟨Nat.le_refl _, Nat.le_refl _⟩
  generalize ({ frames := 5, cells := 0, slots := 0, locals := 120 } : Room) = R at hR ⊢
  clear hsz
  generalize (hA z L sz) = A at hw ⊢
  have hx := X.1
  have hb := X.2.1
  unfold Sc_play at h
  refine lv_aload_n hx hb dX7_play_0 rfl (lv_at hl 0 rfl) ?_
  refine lv_aload_n hx hb dX7_play_1 rfl (lv_at hl 1 rfl) ?_
  refine lv_iload_n hx hb dX7_play_2 rfl (lv_at hl 2 rfl) ?_
  refine hm_callv hw (hm_runV (rest := []) hcl X hw (cSc_dress hcl hc0 hn1 h) yk_X7_dress kw1081 rfl hc0.1 rfl hl.1 rfl rfl rfl (Nat.le_of_ble_eq_true rfl) ⟨Nat.le_trans (Nat.le_of_ble_eq_true rfl) hR.1, Nat.le_trans (Nat.le_of_ble_eq_true rfl) hR.2⟩ ⟨Nat.zero_le _, Nat.zero_le _⟩ dX7_play_3) (fun u2 H locs hp hw => ?_)
  obtain ⟨I1, rfl, h⟩ := hp
  refine lv_aload_n hx hb dX7_play_6 rfl (lv_at hl 0 rfl) ?_
  refine lv_aload_n hx hb dX7_play_7 rfl (lv_at hl 1 rfl) ?_
  refine hm_callv hw (hm_runV (rest := []) hcl X hw (cSc_guessAll hcl hc0 hn1 h) yk_X7_guessAll kw1082 rfl hc0.1 rfl hl.1 rfl rfl rfl (Nat.le_of_ble_eq_true rfl) ⟨Nat.le_trans (Nat.le_of_ble_eq_true rfl) hR.1, Nat.le_trans (Nat.le_of_ble_eq_true rfl) hR.2⟩ ⟨Nat.zero_le _, Nat.zero_le _⟩ dX7_play_8) (fun u4 H locs hp hw => ?_)
  obtain ⟨I3, rfl, h⟩ := hp
  exact hm_vret X hr hlk hw ⟨_, rfl, h⟩ dX7_play_11

theorem cMen_isWon {l : Launch} {D : va_G} {cA : Nat → ClassId} {z sz : Nat} {I : HI} {T : HR} {F : HR} {L : HL} {r0 : Nat} {r1 : Nat} {Q : Int32 → Prop} (hcl : hCl Ev) (hG : Geo F L) (hc0 : SceSh F L r0) (hn1 : NetSh F L r1) (h : Men_isWon I r0 r1 Q) : Met l yX4_isWon (hws0 yX4_isWon cX4_isWon 3 (some .boolean)) { frames := 2, cells := 0, slots := 0, locals := 44 } (hPc D cA z Ev (I, J, T, F, L) sz [.ref (z + r0), .ref (z + r1), .ref (z + 23)]) (va_Qi (p0 (I, J, T, F, L) Q) (hB D cA z (hA z L sz)) (hA z L sz)) 0 0 (hA z L sz) := by
  refine hm_met (I, J, T, F, L) [.ref (z + r0), .ref (z + r1), .ref (z + 23)] rfl (by decide) (Nat.le_of_ble_eq_true rfl) ?_
  intro p e s m below meth c ls X hr hlk hnm hxt hsz hw hl
  have hl : lv_has ls 3 [(0, .ref (z + r0)), (1, .ref (z + r1)), (2, .ref (z + 23))] := hl
  have hR : 2 ≤ ({ frames := 2, cells := 0, slots := 0, locals := 44 } : Room).frames ∧ 44 ≤ ({ frames := 2, cells := 0, slots := 0, locals := 44 } : Room).locals := ⟨Nat.le_refl _, Nat.le_refl _⟩
  generalize ({ frames := 2, cells := 0, slots := 0, locals := 44 } : Room) = R at hR ⊢
  clear hsz
  generalize (hA z L sz) = A at hw ⊢
  have hx := X.1
  have hb := X.2.1
  unfold Men_isWon at h
  refine lv_aload_n hx hb dX4_isWon_0 rfl (lv_at hl 2 rfl) ?_
  refine lv_aload_n hx hb dX4_isWon_1 rfl (lv_at hl 0 rfl) ?_
  refine lv_aload_n hx hb dX4_isWon_2 rfl (lv_at hl 1 rfl) ?_
  refine hm_calli hw (hm_runV (rest := [_]) hcl X hw (cSc_rightOnes hcl hc0 hn1 h) yk_X7_rightOnes kw1287 rfl hc0.1 rfl hl.1 rfl rfl rfl (Nat.le_of_ble_eq_true rfl) ⟨Nat.le_trans (Nat.le_of_ble_eq_true rfl) hR.1, Nat.le_trans (Nat.le_of_ble_eq_true rfl) hR.2⟩ ⟨Nat.zero_le _, Nat.zero_le _⟩ dX4_isWon_3) (fun a1 u2 H locs hp hw => ?_)
  obtain ⟨rfl, h⟩ := hp
  refine lv_aload_n hx hb dX4_isWon_6 rfl (lv_at hl 0 rfl) ?_
  refine lv_aload_n hx hb dX4_isWon_7 rfl (lv_at hl 1 rfl) ?_
  refine hm_calli hw (hm_runV (rest := [_, _]) hcl X hw (cSc_wrongOnes hcl hc0 hn1 h) yk_X7_wrongOnes kw1288 rfl hc0.1 rfl hl.1 rfl rfl rfl (Nat.le_of_ble_eq_true rfl) ⟨Nat.le_trans (Nat.le_of_ble_eq_true rfl) hR.1, Nat.le_trans (Nat.le_of_ble_eq_true rfl) hR.2⟩ ⟨Nat.zero_le _, Nat.zero_le _⟩ dX4_isWon_8) (fun a3 u4 H locs hp hw => ?_)
  obtain ⟨rfl, h⟩ := hp
  refine lv_aload_n hx hb dX4_isWon_11 rfl (lv_at hl 1 rfl) ?_
  refine hm_geti X hw lk_4_41 hn1.1 dX4_isWon_12 ?_
  refine hm_calli hw (hm_runV (rest := []) hcl X hw (cJud_isWon hcl hG h) yk_X2_isWon kw1289 rfl (gl_23 hG) rfl hl.1 rfl rfl rfl (Nat.le_of_ble_eq_true rfl) ⟨Nat.le_trans (Nat.le_of_ble_eq_true rfl) hR.1, Nat.le_trans (Nat.le_of_ble_eq_true rfl) hR.2⟩ ⟨Nat.zero_le _, Nat.zero_le _⟩ dX4_isWon_15) (fun a5 u6 H locs hp hw => ?_)
  obtain ⟨rfl, h⟩ := hp
  obtain ⟨hz, h⟩ := h
  exact hm_zret X hr hlk hw hz ⟨rfl, h⟩ dX4_isWon_18

theorem cNet_hasTable {l : Launch} {D : va_G} {cA : Nat → ClassId} {z sz : Nat} {I : HI} {T : HR} {F : HR} {L : HL} {r0 : Nat} {x1 : Int32} {Q : Int32 → Prop} (hcl : hCl Ev) (hn0 : NetSh F L r0) (h : Net_hasTable I T r0 x1 Q) : Met l yX5_hasTable (hws0 yX5_hasTable cX5_hasTable 2 (some .boolean)) { frames := 0, cells := 0, slots := 0, locals := 0 } (hPc D cA z Ev (I, J, T, F, L) sz [.ref (z + r0), .int x1]) (va_Qi (p0 (I, J, T, F, L) Q) (hB D cA z (hA z L sz)) (hA z L sz)) 0 0 (hA z L sz) := by
  refine hm_met (I, J, T, F, L) [.ref (z + r0), .int x1] rfl (by decide) (Nat.le_of_ble_eq_true rfl) ?_
  intro p e s m below meth c ls X hr hlk hnm hxt hsz hw hl
  have hl : lv_has ls 2 [(0, .ref (z + r0)), (1, .int x1)] := hl
  have hR : 0 ≤ ({ frames := 0, cells := 0, slots := 0, locals := 0 } : Room).frames ∧ 0 ≤ ({ frames := 0, cells := 0, slots := 0, locals := 0 } : Room).locals := ⟨Nat.le_refl _, Nat.le_refl _⟩
  generalize ({ frames := 0, cells := 0, slots := 0, locals := 0 } : Room) = R at hR ⊢
  clear hsz
  generalize (hA z L sz) = A at hw ⊢
  have hx := X.1
  have hb := X.2.1
  unfold Net_hasTable at h
  refine lv_aload_n hx hb dX5_hasTable_0 rfl (lv_at hl 0 rfl) ?_
  refine hm_getr X hw lk_5_29 hn0.1 (nsf_8 hn0) dX5_hasTable_1 ?_
  refine lv_iload_n hx hb dX5_hasTable_4 rfl (lv_at hl 1 rfl) ?_
  obtain ⟨hi, h⟩ := h
  refine hm_aldq5 X hw (nsm_8 hn0) hi dX5_hasTable_5 ?_
  refine hm_ifnonnull (tgt := 23) hx hb dX5_hasTable_6 (by decide) (fun ef1 he => ?_) (fun he => ?_)
  · have h := h.2 ef1 he
    refine lv_iconst (v := 0) hx hb dX5_hasTable_23 (by decide) ?_
    exact hm_zret X hr hlk hw zb_0 ⟨rfl, h⟩ dX5_hasTable_24
  · have h := h.1 he
    refine lv_aload_n hx hb dX5_hasTable_9 rfl (lv_at hl 0 rfl) ?_
    refine hm_getr X hw lk_5_21 hn0.1 (nsf_6 hn0) dX5_hasTable_10 ?_
    refine lv_iload_n hx hb dX5_hasTable_13 rfl (lv_at hl 1 rfl) ?_
    obtain ⟨hi, h⟩ := h
    refine hm_iald X hw (nsm_6 hn0) hi dX5_hasTable_14 ?_
    refine lv_iconst (v := (-1)) hx hb dX5_hasTable_15 (by decide) ?_
    refine lv_icmp_eq (tgt := 23) hx hb dX5_hasTable_16 (by decide) (fun hc => ?_) (fun hc => ?_)
    · have h := Eq.mp (if_pos hc) h
      refine lv_iconst (v := 0) hx hb dX5_hasTable_23 (by decide) ?_
      exact hm_zret X hr hlk hw zb_0 ⟨rfl, h⟩ dX5_hasTable_24
    · have h := Eq.mp (if_neg hc) h
      refine lv_iconst (v := 1) hx hb dX5_hasTable_19 (by decide) ?_
      refine lv_goto (tgt := 24) hx hb dX5_hasTable_20 (by decide) ?_
      exact hm_zret X hr hlk hw zb_1 ⟨rfl, h⟩ dX5_hasTable_24

theorem cSc_copy {l : Launch} {D : va_G} {cA : Nat → ClassId} {z sz : Nat} {I : HI} {T : HR} {F : HR} {L : HL} {r0 : Nat} {r1 : Nat} {Q : HI → Prop} (hcl : hCl Ev) (hc0 : SceSh F L r0) (hc1 : SceSh F L r1) (h : Sc_copy I r0 r1 Q) : Met l yX7_copy (hws0 yX7_copy cX7_copy 2 none) { frames := 1, cells := 0, slots := 0, locals := 100 } (hPc D cA z Ev (I, J, T, F, L) sz [.ref (z + r0), .ref (z + r1)]) (va_Qv (pIv J T F L Q) (hB D cA z (hA z L sz)) (hA z L sz)) 0 0 (hA z L sz) := by
  refine hm_met (I, J, T, F, L) [.ref (z + r0), .ref (z + r1)] rfl (by decide) (Nat.le_of_ble_eq_true rfl) ?_
  intro p e s m below meth c ls X hr hlk hnm hxt hsz hw hl
  have hl : lv_has ls 2 [(0, .ref (z + r0)), (1, .ref (z + r1))] := hl
  have hR : 1 ≤ ({ frames := 1, cells := 0, slots := 0, locals := 100 } : Room).frames ∧ 100 ≤ ({ frames := 1, cells := 0, slots := 0, locals := 100 } : Room).locals := ⟨Nat.le_refl _, Nat.le_refl _⟩
  generalize ({ frames := 1, cells := 0, slots := 0, locals := 100 } : Room) = R at hR ⊢
  clear hsz
  generalize (hA z L sz) = A at hw ⊢
  have hx := X.1
  have hb := X.2.1
  unfold Sc_copy at h
  refine lv_aload_n hx hb dX7_copy_0 rfl (lv_at hl 1 rfl) ?_
  refine hm_getr X hw lk_7_9 hc1.1 (ssf_0 hc1) dX7_copy_1 ?_
  refine lv_iconst (v := 0) hx hb dX7_copy_4 (by decide) ?_
  refine lv_aload_n hx hb dX7_copy_5 rfl (lv_at hl 0 rfl) ?_
  refine hm_getr X hw lk_7_9 hc0.1 (ssf_0 hc0) dX7_copy_6 ?_
  refine lv_iconst (v := 0) hx hb dX7_copy_9 (by decide) ?_
  refine lv_bipush (v := 8) hx hb dX7_copy_10 (by decide) ?_
  refine hm_cpy X hw 0 (Or.inl rfl) ⟨hl.2.1, hl.1⟩ kw1296 (ssm_0 hc1) (ssm_0 hc0) (by decide) (by decide) (by decide) (by decide) (by decide) (Or.inl rfl) ⟨Nat.le_trans (Nat.le_of_ble_eq_true rfl) hR.1, Nat.le_trans (by decide) hR.2⟩ dX7_copy_12 (fun H locs hw => ?_)
  refine lv_aload_n hx hb dX7_copy_15 rfl (lv_at hl 1 rfl) ?_
  refine hm_getr X hw lk_7_15 hc1.1 (ssf_1 hc1) dX7_copy_16 ?_
  refine lv_iconst (v := 0) hx hb dX7_copy_19 (by decide) ?_
  refine lv_aload_n hx hb dX7_copy_20 rfl (lv_at hl 0 rfl) ?_
  refine hm_getr X hw lk_7_15 hc0.1 (ssf_1 hc0) dX7_copy_21 ?_
  refine lv_iconst (v := 0) hx hb dX7_copy_24 (by decide) ?_
  refine lv_bipush (v := 8) hx hb dX7_copy_25 (by decide) ?_
  refine hm_cpy X hw 0 (Or.inl rfl) ⟨hl.2.1, hl.1⟩ kw1296 (ssm_1 hc1) (ssm_1 hc0) (by decide) (by decide) (by decide) (by decide) (by decide) (Or.inl rfl) ⟨Nat.le_trans (Nat.le_of_ble_eq_true rfl) hR.1, Nat.le_trans (by decide) hR.2⟩ dX7_copy_27 (fun H locs hw => ?_)
  exact hm_vret X hr hlk hw ⟨_, rfl, h⟩ dX7_copy_30

theorem wkSc_guessAnew_l10 {T : HR} {F : HR} {L : HL} {r0 : Nat} {r1 : Nat} {x2 : Int32} {Q : HI → Prop} (X : hX p m c s args RX7 cX7_guessAnew 6) (hr : meth.sig.returnType = none) (hlk : meth.locks = false) (hR : 4 ≤ R.frames ∧ 97 ≤ R.locals) (hcl : hCl Ev) (hc0 : SceSh F L r0) (hn1 : NetSh F L r1)  : ∀ (n : Nat) (I : HI) (x4 : Int32) {ls : Array Slot} {H : Heap} {locs : List Loc}, Sc_guessAnew_l10 T F L r0 r1 x2 Q n I x4 → hW D cA z Ev (I, J, T, F, L) A s H locs → lv_has ls 6 [(0, .ref (z + r0)), (1, .ref (z + r1)), (2, .int x2), (4, .int x4)] → W p l e R s m args below meth c H locs 0 0 (MQ below (va_Qv (pIv J T F L Q) (hB D cA z A) A) args s 0 0 A) (F0 m 10 ls []) := by
  have hx := X.1
  have hb := X.2.1
  intro n
  induction n with
  | zero => intro I x4 ls H locs h; exact False.elim h
  | succ n ih =>
    intro I x4 ls H locs h hw hl
    rw [Sc_guessAnew_l10] at h
    refine lv_iload hx hb dX7_guessAnew_10 (lv_at hl 3 rfl) ?_
    refine lv_aload_n hx hb dX7_guessAnew_12 rfl (lv_at hl 1 rfl) ?_
    refine hm_geti X hw lk_7_24 hn1.1 dX7_guessAnew_13 ?_
    refine lv_icmp_ge (tgt := 64) hx hb dX7_guessAnew_16 (by decide) (fun hc => ?_) (fun hc => ?_)
    · have h := Eq.mp (if_pos hc) h
      exact hm_vret X hr hlk hw ⟨_, rfl, h⟩ dX7_guessAnew_64
    · have h := Eq.mp (if_neg hc) h
      refine lv_aload_n hx hb dX7_guessAnew_19 rfl (lv_at hl 1 rfl) ?_
      refine hm_getr X hw lk_7_33 hn1.1 (nsf_7 hn1) dX7_guessAnew_20 ?_
      refine lv_iload hx hb dX7_guessAnew_23 (lv_at hl 3 rfl) ?_
      obtain ⟨hi, h⟩ := h
      refine hm_iald X hw (nsm_7 hn1) hi dX7_guessAnew_25 ?_
      refine lv_istore (lv' := [(5, _), (0, _), (1, _), (2, _), (4, _)]) hx hb dX7_guessAnew_26 hl (by decide) rfl (fun ls hl => ?_)
      refine lv_aload_n hx hb dX7_guessAnew_28 rfl (lv_at hl 2 rfl) ?_
      refine hm_getr X hw lk_7_48 hn1.1 (nsf_4 hn1) dX7_guessAnew_29 ?_
      refine lv_iload hx hb dX7_guessAnew_32 (lv_at hl 0 rfl) ?_
      obtain ⟨hi, h⟩ := h
      refine hm_iald X hw (nsm_4 hn1) hi dX7_guessAnew_34 ?_
      refine lv_aload_n hx hb dX7_guessAnew_35 rfl (lv_at hl 2 rfl) ?_
      refine hm_getr X hw lk_7_48 hn1.1 (nsf_4 hn1) dX7_guessAnew_36 ?_
      refine lv_iload_n hx hb dX7_guessAnew_39 rfl (lv_at hl 3 rfl) ?_
      obtain ⟨hi, h⟩ := h
      refine hm_iald X hw (nsm_4 hn1) hi dX7_guessAnew_40 ?_
      refine lv_icmp_le (tgt := 58) hx hb dX7_guessAnew_41 (by decide) (fun hc => ?_) (fun hc => ?_)
      · have h := Eq.mp (if_pos hc) h
        refine lv_iinc (v := x4 + 1) (lv' := [(4, _), (5, _), (0, _), (1, _), (2, _)]) hx hb dX7_guessAnew_58 hl (k := 4) rfl rfl (by decide) rfl (fun ls hl => ?_)
        refine lv_goto (tgt := 10) hx hb dX7_guessAnew_61 (by decide) ?_
        exact ih _ _ h hw (lv_sub hl [2, 3, 4, 0] rfl)
      · have h := Eq.mp (if_neg hc) h
        refine lv_aload_n hx hb dX7_guessAnew_44 rfl (lv_at hl 1 rfl) ?_
        refine hm_getr X hw lk_7_15 hc0.1 (ssf_1 hc0) dX7_guessAnew_45 ?_
        refine lv_iload hx hb dX7_guessAnew_48 (lv_at hl 0 rfl) ?_
        refine lv_aload_n hx hb dX7_guessAnew_50 rfl (lv_at hl 1 rfl) ?_
        refine lv_aload_n hx hb dX7_guessAnew_51 rfl (lv_at hl 2 rfl) ?_
        refine lv_iload hx hb dX7_guessAnew_52 (lv_at hl 0 rfl) ?_
        refine hm_calli hw (hm_runV (rest := [_, _]) hcl X hw (cSc_guessOf hcl hc0 hn1 h) yk_X7_guessOf kw555 rfl hc0.1 rfl hl.1 rfl rfl rfl (Nat.le_of_ble_eq_true rfl) ⟨Nat.le_trans (Nat.le_of_ble_eq_true rfl) hR.1, Nat.le_trans (Nat.le_of_ble_eq_true rfl) hR.2⟩ ⟨Nat.zero_le _, Nat.zero_le _⟩ dX7_guessAnew_54) (fun a1 u3 H locs hp hw => ?_)
        obtain ⟨I2, rfl, h⟩ := hp
        obtain ⟨hi, h⟩ := h
        refine hm_iast X hw (ssm_1 hc0) hi dX7_guessAnew_57 (fun H locs hw => ?_)
        refine lv_iinc (v := x4 + 1) (lv' := [(4, _), (5, _), (0, _), (1, _), (2, _)]) hx hb dX7_guessAnew_58 hl (k := 4) rfl rfl (by decide) rfl (fun ls hl => ?_)
        refine lv_goto (tgt := 10) hx hb dX7_guessAnew_61 (by decide) ?_
        exact ih _ _ h hw (lv_sub hl [2, 3, 4, 0] rfl)

theorem cSc_guessAnew {l : Launch} {D : va_G} {cA : Nat → ClassId} {z sz : Nat} {I : HI} {T : HR} {F : HR} {L : HL} {r0 : Nat} {r1 : Nat} {x2 : Int32} {x3 : Int32} {Q : HI → Prop} (hcl : hCl Ev) (hc0 : SceSh F L r0) (hn1 : NetSh F L r1) (h : Sc_guessAnew I T F L r0 r1 x2 x3 Q) : Met l yX7_guessAnew (hws0 yX7_guessAnew cX7_guessAnew 6 none) { frames := 4, cells := 0, slots := 0, locals := 97 } (hPc D cA z Ev (I, J, T, F, L) sz [.ref (z + r0), .ref (z + r1), .int x2, .int x3]) (va_Qv (pIv J T F L Q) (hB D cA z (hA z L sz)) (hA z L sz)) 0 0 (hA z L sz) := by
  refine hm_met (I, J, T, F, L) [.ref (z + r0), .ref (z + r1), .int x2, .int x3] rfl (by decide) (Nat.le_of_ble_eq_true rfl) ?_
  intro p e s m below meth c ls X hr hlk hnm hxt hsz hw hl
  have hl : lv_has ls 6 [(0, .ref (z + r0)), (1, .ref (z + r1)), (2, .int x2), (3, .int x3)] := hl
  have hR : 4 ≤ ({ frames := 4, cells := 0, slots := 0, locals := 97 } : Room).frames ∧ 97 ≤ ({ frames := 4, cells := 0, slots := 0, locals := 97 } : Room).locals := ⟨Nat.le_refl _, Nat.le_refl _⟩
  generalize ({ frames := 4, cells := 0, slots := 0, locals := 97 } : Room) = R at hR ⊢
  clear hsz
  generalize (hA z L sz) = A at hw ⊢
  have hx := X.1
  have hb := X.2.1
  unfold Sc_guessAnew at h
  refine lv_aload_n hx hb dX7_guessAnew_0 rfl (lv_at hl 0 rfl) ?_
  refine hm_getr X hw lk_7_15 hc0.1 (ssf_1 hc0) dX7_guessAnew_1 ?_
  refine lv_iload_n hx hb dX7_guessAnew_4 rfl (lv_at hl 2 rfl) ?_
  refine lv_iload_n hx hb dX7_guessAnew_5 rfl (lv_at hl 3 rfl) ?_
  obtain ⟨hi, h⟩ := h
  refine hm_iast X hw (ssm_1 hc0) hi dX7_guessAnew_6 (fun H locs hw => ?_)
  refine lv_iconst (v := 0) hx hb dX7_guessAnew_7 (by decide) ?_
  refine lv_istore (lv' := [(4, _), (0, _), (1, _), (2, _), (3, _)]) hx hb dX7_guessAnew_8 hl (by decide) rfl (fun ls hl => ?_)
  obtain ⟨n2, h⟩ := h
  exact wkSc_guessAnew_l10 X hr hlk hR hcl hc0 hn1  n2 _ _ h hw (lv_sub hl [1, 2, 3, 0] rfl)

theorem wkMen_noteGains_b125 {I : HI} {T : HR} {F : HR} {L : HL} {r1 : Nat} {x3 : Int32} {x4 : Int32} {x5 : Int32} {x6 : Int32} {x7 : Int32} {t0 : Int32} {t1 : Int32} {t2 : Int32} {K24 : HI → Int32 → Int32 → Prop} {K65 : HI → Int32 → Prop} {Q : HI → Prop} (X : hX p m c s args RX4 cX4_noteGains 8) (hr : meth.sig.returnType = none) (hlk : meth.locks = false) (hR : 5 ≤ R.frames ∧ 122 ≤ R.locals) (hcl : hCl Ev) (hG : Geo F L) (hn1 : NetSh F L r1) (hK24 : ∀ (I : HI) (x4 : Int32) (x5 : Int32) {ls : Array Slot} {H : Heap} {locs : List Loc}, K24 I x4 x5 → hW D cA z Ev (I, J, T, F, L) A s H locs → lv_has ls 8 [(0, .ref (z + 48)), (1, .ref (z + r1)), (2, .ref (z + 23)), (3, .int x3), (4, .int x4), (5, .int x5)] → W p l e R s m args below meth c H locs 0 0 (MQ below (va_Qv (pIv J T F L Q) (hB D cA z A) A) args s 0 0 A) (F0 m 24 ls [])) (hK65 : ∀ (I : HI) (x7 : Int32) {ls : Array Slot} {H : Heap} {locs : List Loc}, K65 I x7 → hW D cA z Ev (I, J, T, F, L) A s H locs → lv_has ls 8 [(0, .ref (z + 48)), (1, .ref (z + r1)), (2, .ref (z + 23)), (3, .int x3), (4, .int x4), (5, .int x5), (6, .int x6), (7, .int x7)] → W p l e R s m args below meth c H locs 0 0 (MQ below (va_Qv (pIv J T F L Q) (hB D cA z A) A) args s 0 0 A) (F0 m 65 ls [])) : ∀ {ls : Array Slot} {H : Heap} {locs : List Loc}, Men_noteGains_b125 I T F L r1 x3 x4 x5 x6 x7 t0 t1 t2 K24 K65 Q → hW D cA z Ev (I, J, T, F, L) A s H locs → lv_has ls 8 [(0, .ref (z + 48)), (1, .ref (z + r1)), (2, .ref (z + 23)), (3, .int x3), (4, .int x4), (5, .int x5), (6, .int x6), (7, .int x7)] → W p l e R s m args below meth c H locs 0 0 (MQ below (va_Qv (pIv J T F L Q) (hB D cA z A) A) args s 0 0 A) (F0 m 125 ls [.int t0, .int t1, .int t2, .ref (z + 49)]) := by
  have hx := X.1
  have hb := X.2.1
  intro ls H locs h hw hl
  unfold Men_noteGains_b125 at h
  refine lv_iload_n hx hb dX4_noteGains_125 rfl (lv_at hl 3 rfl) ?_
  refine lv_isub hx hb dX4_noteGains_126 ?_
  refine lv_iadd hx hb dX4_noteGains_127 ?_
  obtain ⟨hi, h⟩ := h
  refine hm_iast X hw (gl_49 hG) hi dX4_noteGains_128 (fun H locs hw => ?_)
  refine lv_iinc (v := x7 + 1) (lv' := [(7, _), (0, _), (1, _), (2, _), (3, _), (4, _), (5, _), (6, _)]) hx hb dX4_noteGains_129 hl (k := 7) rfl rfl (by decide) rfl (fun ls hl => ?_)
  refine lv_goto (tgt := 65) hx hb dX4_noteGains_132 (by decide) ?_
  exact hK65 _ _ h hw (lv_sub hl [1, 2, 3, 4, 5, 6, 7, 0] rfl)

theorem wkMen_noteGains_l65 {T : HR} {F : HR} {L : HL} {r1 : Nat} {x3 : Int32} {x4 : Int32} {x5 : Int32} {x6 : Int32} {K24 : HI → Int32 → Int32 → Prop} {Q : HI → Prop} (X : hX p m c s args RX4 cX4_noteGains 8) (hr : meth.sig.returnType = none) (hlk : meth.locks = false) (hR : 5 ≤ R.frames ∧ 122 ≤ R.locals) (hcl : hCl Ev) (hG : Geo F L) (hn1 : NetSh F L r1) (hK24 : ∀ (I : HI) (x4 : Int32) (x5 : Int32) {ls : Array Slot} {H : Heap} {locs : List Loc}, K24 I x4 x5 → hW D cA z Ev (I, J, T, F, L) A s H locs → lv_has ls 8 [(0, .ref (z + 48)), (1, .ref (z + r1)), (2, .ref (z + 23)), (3, .int x3), (4, .int x4), (5, .int x5)] → W p l e R s m args below meth c H locs 0 0 (MQ below (va_Qv (pIv J T F L Q) (hB D cA z A) A) args s 0 0 A) (F0 m 24 ls [])) : ∀ (n : Nat) (I : HI) (x7 : Int32) {ls : Array Slot} {H : Heap} {locs : List Loc}, Men_noteGains_l65 T F L r1 x3 x4 x5 x6 K24 Q n I x7 → hW D cA z Ev (I, J, T, F, L) A s H locs → lv_has ls 8 [(0, .ref (z + 48)), (1, .ref (z + r1)), (2, .ref (z + 23)), (3, .int x3), (4, .int x4), (5, .int x5), (6, .int x6), (7, .int x7)] → W p l e R s m args below meth c H locs 0 0 (MQ below (va_Qv (pIv J T F L Q) (hB D cA z A) A) args s 0 0 A) (F0 m 65 ls []) := by
  have hx := X.1
  have hb := X.2.1
  intro n
  induction n with
  | zero => intro I x7 ls H locs h; exact False.elim h
  | succ n ih =>
    intro I x7 ls H locs h hw hl
    rw [Men_noteGains_l65] at h
    refine lv_iload hx hb dX4_noteGains_65 (lv_at hl 7 rfl) ?_
    refine lv_aload_n hx hb dX4_noteGains_67 rfl (lv_at hl 1 rfl) ?_
    refine hm_geti X hw lk_4_70 hn1.1 dX4_noteGains_68 ?_
    refine lv_icmp_gt (tgt := 135) hx hb dX4_noteGains_71 (by decide) (fun hc => ?_) (fun hc => ?_)
    · have h := Eq.mp (if_pos hc) h
      refine lv_iload hx hb dX4_noteGains_135 (lv_at hl 4 rfl) ?_
      refine lv_aload_n hx hb dX4_noteGains_137 rfl (lv_at hl 1 rfl) ?_
      refine hm_getr X hw lk_4_81 hn1.1 (nsf_6 hn1) dX4_noteGains_138 ?_
      refine lv_iload hx hb dX4_noteGains_141 (lv_at hl 5 rfl) ?_
      obtain ⟨hi, h⟩ := h
      refine hm_iald X hw (nsm_6 hn1) hi dX4_noteGains_143 ?_
      refine lv_iadd hx hb dX4_noteGains_144 ?_
      refine lv_istore (lv' := [(4, _), (0, _), (1, _), (2, _), (3, _), (5, _), (6, _), (7, _)]) hx hb dX4_noteGains_145 hl (by decide) rfl (fun ls hl => ?_)
      refine lv_iinc (v := x5 + 1) (lv' := [(5, _), (4, _), (0, _), (1, _), (2, _), (3, _), (6, _), (7, _)]) hx hb dX4_noteGains_147 hl (k := 5) rfl rfl (by decide) rfl (fun ls hl => ?_)
      refine lv_goto (tgt := 24) hx hb dX4_noteGains_150 (by decide) ?_
      exact hK24 _ _ _ h hw (lv_sub hl [2, 3, 4, 5, 1, 0] rfl)
    · have h := Eq.mp (if_neg hc) h
      refine lv_aload_n hx hb dX4_noteGains_74 rfl (lv_at hl 0 rfl) ?_
      refine hm_getr X hw lk_4_22 (gl_48 hG) (gf_48_2 hG) dX4_noteGains_75 ?_
      refine lv_aload_n hx hb dX4_noteGains_78 rfl (lv_at hl 0 rfl) ?_
      refine hm_getr X hw lk_4_18 (gl_48 hG) (gf_48_1 hG) dX4_noteGains_79 ?_
      refine hm_callv hw (hm_runV (rest := []) hcl X hw (cSc_copy hcl (geo_changed hG) (geo_played hG) h) yk_X7_copy kw1292 rfl (gl_53 hG) rfl hl.1 rfl rfl rfl (Nat.le_of_ble_eq_true rfl) ⟨Nat.le_trans (Nat.le_of_ble_eq_true rfl) hR.1, Nat.le_trans (Nat.le_of_ble_eq_true rfl) hR.2⟩ ⟨Nat.zero_le _, Nat.zero_le _⟩ dX4_noteGains_82) (fun u8 H locs hp hw => ?_)
      obtain ⟨I7, rfl, h⟩ := hp
      refine lv_aload_n hx hb dX4_noteGains_85 rfl (lv_at hl 0 rfl) ?_
      refine hm_getr X hw lk_4_22 (gl_48 hG) (gf_48_2 hG) dX4_noteGains_86 ?_
      refine lv_aload_n hx hb dX4_noteGains_89 rfl (lv_at hl 1 rfl) ?_
      refine lv_iload hx hb dX4_noteGains_90 (lv_at hl 5 rfl) ?_
      refine lv_iload hx hb dX4_noteGains_92 (lv_at hl 7 rfl) ?_
      refine hm_callv hw (hm_runV (rest := []) hcl X hw (cSc_guessAnew hcl (geo_changed hG) hn1 h) yk_X7_guessAnew kw1297 rfl (gl_53 hG) rfl hl.1 rfl rfl rfl (Nat.le_of_ble_eq_true rfl) ⟨Nat.le_trans (Nat.le_of_ble_eq_true rfl) hR.1, Nat.le_trans (Nat.le_of_ble_eq_true rfl) hR.2⟩ ⟨Nat.zero_le _, Nat.zero_le _⟩ dX4_noteGains_94) (fun u10 H locs hp hw => ?_)
      obtain ⟨I9, rfl, h⟩ := hp
      refine lv_aload_n hx hb dX4_noteGains_97 rfl (lv_at hl 0 rfl) ?_
      refine hm_getr X hw lk_4_11 (gl_48 hG) (gf_48_0 hG) dX4_noteGains_98 ?_
      refine lv_iload hx hb dX4_noteGains_101 (lv_at hl 6 rfl) ?_
      refine lv_iload hx hb dX4_noteGains_103 (lv_at hl 7 rfl) ?_
      refine lv_iadd hx hb dX4_noteGains_105 ?_
      refine lv_dup2_11 hx hb dX4_noteGains_106 rfl rfl ?_
      obtain ⟨hi, h⟩ := h
      refine hm_iald X hw (gl_49 hG) hi dX4_noteGains_107 ?_
      refine lv_aload_n hx hb dX4_noteGains_108 rfl (lv_at hl 0 rfl) ?_
      refine hm_getr X hw lk_4_22 (gl_48 hG) (gf_48_2 hG) dX4_noteGains_109 ?_
      refine lv_aload_n hx hb dX4_noteGains_112 rfl (lv_at hl 1 rfl) ?_
      refine lv_aload_n hx hb dX4_noteGains_113 rfl (lv_at hl 2 rfl) ?_
      refine hm_calli hw (hm_runS (rest := [_, _, _]) hcl X hw (cMen_isWon hcl hG (geo_changed hG) hn1 h) yk_X4_isWon kw1284 rfl hl.1 rfl rfl rfl (Nat.le_of_ble_eq_true rfl) ⟨Nat.le_trans (Nat.le_of_ble_eq_true rfl) hR.1, Nat.le_trans (Nat.le_of_ble_eq_true rfl) hR.2⟩ ⟨Nat.zero_le _, Nat.zero_le _⟩ dX4_noteGains_114) (fun a11 u12 H locs hp hw => ?_)
      obtain ⟨rfl, h⟩ := hp
      refine lv_if_eq (tgt := 124) hx hb dX4_noteGains_117 (by decide) (fun hc => ?_) (fun hc => ?_)
      · have h := Eq.mp (if_pos hc) h
        refine lv_iconst (v := 0) hx hb dX4_noteGains_124 (by decide) ?_
        exact wkMen_noteGains_b125 X hr hlk hR hcl hG hn1 hK24 ih h hw (lv_sub hl [0, 1, 2, 3, 4, 5, 6, 7] rfl)
      · have h := Eq.mp (if_neg hc) h
        refine lv_iconst (v := 1) hx hb dX4_noteGains_120 (by decide) ?_
        refine lv_goto (tgt := 125) hx hb dX4_noteGains_121 (by decide) ?_
        exact wkMen_noteGains_b125 X hr hlk hR hcl hG hn1 hK24 ih h hw (lv_sub hl [0, 1, 2, 3, 4, 5, 6, 7] rfl)

theorem wkMen_noteGains_l24 {T : HR} {F : HR} {L : HL} {r1 : Nat} {x3 : Int32} {Q : HI → Prop} (X : hX p m c s args RX4 cX4_noteGains 8) (hr : meth.sig.returnType = none) (hlk : meth.locks = false) (hR : 5 ≤ R.frames ∧ 122 ≤ R.locals) (hcl : hCl Ev) (hG : Geo F L) (hn1 : NetSh F L r1)  : ∀ (n : Nat) (I : HI) (x4 : Int32) (x5 : Int32) {ls : Array Slot} {H : Heap} {locs : List Loc}, Men_noteGains_l24 T F L r1 x3 Q n I x4 x5 → hW D cA z Ev (I, J, T, F, L) A s H locs → lv_has ls 8 [(0, .ref (z + 48)), (1, .ref (z + r1)), (2, .ref (z + 23)), (3, .int x3), (4, .int x4), (5, .int x5)] → W p l e R s m args below meth c H locs 0 0 (MQ below (va_Qv (pIv J T F L Q) (hB D cA z A) A) args s 0 0 A) (F0 m 24 ls []) := by
  have hx := X.1
  have hb := X.2.1
  intro n
  induction n with
  | zero => intro I x4 x5 ls H locs h; exact False.elim h
  | succ n ih =>
    intro I x4 x5 ls H locs h hw hl
    rw [Men_noteGains_l24] at h
    refine lv_iload hx hb dX4_noteGains_24 (lv_at hl 5 rfl) ?_
    refine lv_aload_n hx hb dX4_noteGains_26 rfl (lv_at hl 1 rfl) ?_
    refine hm_geti X hw lk_4_41 hn1.1 dX4_noteGains_27 ?_
    refine lv_icmp_ge (tgt := 153) hx hb dX4_noteGains_30 (by decide) (fun hc => ?_) (fun hc => ?_)
    · have h := Eq.mp (if_pos hc) h
      exact hm_vret X hr hlk hw ⟨_, rfl, h⟩ dX4_noteGains_153
    · have h := Eq.mp (if_neg hc) h
      refine lv_aload_n hx hb dX4_noteGains_33 rfl (lv_at hl 1 rfl) ?_
      refine lv_iload hx hb dX4_noteGains_34 (lv_at hl 5 rfl) ?_
      refine hm_calli hw (hm_runV (rest := []) hcl X hw (cNet_hasTable hcl hn1 h) yk_X5_hasTable kw1290 rfl hn1.1 rfl hl.1 rfl rfl rfl (Nat.le_of_ble_eq_true rfl) ⟨Nat.le_trans (Nat.le_of_ble_eq_true rfl) hR.1, Nat.le_trans (Nat.le_of_ble_eq_true rfl) hR.2⟩ ⟨Nat.zero_le _, Nat.zero_le _⟩ dX4_noteGains_36) (fun a3 u4 H locs hp hw => ?_)
      obtain ⟨rfl, h⟩ := hp
      refine lv_if_ne (tgt := 45) hx hb dX4_noteGains_39 (by decide) (fun hc => ?_) (fun hc => ?_)
      · have h := Eq.mp (if_neg hc) h
        refine lv_iload hx hb dX4_noteGains_45 (lv_at hl 4 rfl) ?_
        refine lv_aload_n hx hb dX4_noteGains_47 rfl (lv_at hl 0 rfl) ?_
        refine hm_getr X hw lk_4_18 (gl_48 hG) (gf_48_1 hG) dX4_noteGains_48 ?_
        refine lv_aload_n hx hb dX4_noteGains_51 rfl (lv_at hl 1 rfl) ?_
        refine lv_iload hx hb dX4_noteGains_52 (lv_at hl 5 rfl) ?_
        refine hm_calli hw (hm_runV (rest := [_]) hcl X hw (cSc_viewOf hcl (geo_played hG) hn1 h) yk_X7_viewOf kw1291 rfl (gl_50 hG) rfl hl.1 rfl rfl rfl (Nat.le_of_ble_eq_true rfl) ⟨Nat.le_trans (Nat.le_of_ble_eq_true rfl) hR.1, Nat.le_trans (Nat.le_of_ble_eq_true rfl) hR.2⟩ ⟨Nat.zero_le _, Nat.zero_le _⟩ dX4_noteGains_54) (fun a5 u6 H locs hp hw => ?_)
        obtain ⟨rfl, h⟩ := hp
        refine lv_iadd hx hb dX4_noteGains_57 ?_
        refine lv_iconst (v := 5) hx hb dX4_noteGains_58 (by decide) ?_
        refine lv_imul hx hb dX4_noteGains_59 ?_
        refine lv_istore (lv' := [(6, _), (0, _), (1, _), (2, _), (3, _), (4, _), (5, _)]) hx hb dX4_noteGains_60 hl (by decide) rfl (fun ls hl => ?_)
        refine lv_iconst (v := 0) hx hb dX4_noteGains_62 (by decide) ?_
        refine lv_istore (lv' := [(7, _), (6, _), (0, _), (1, _), (2, _), (3, _), (4, _), (5, _)]) hx hb dX4_noteGains_63 hl (by decide) rfl (fun ls hl => ?_)
        obtain ⟨n2, h⟩ := h
        exact wkMen_noteGains_l65 X hr hlk hR hcl hG hn1 ih n2 _ _ h hw (lv_sub hl [2, 3, 4, 5, 6, 7, 1, 0] rfl)
      · have h := Eq.mp (if_pos hc) h
        refine lv_goto (tgt := 147) hx hb dX4_noteGains_42 (by decide) ?_
        refine lv_iinc (v := x5 + 1) (lv' := [(5, _), (0, _), (1, _), (2, _), (3, _), (4, _)]) hx hb dX4_noteGains_147 hl (k := 5) rfl rfl (by decide) rfl (fun ls hl => ?_)
        refine lv_goto (tgt := 24) hx hb dX4_noteGains_150 (by decide) ?_
        exact ih _ _ _ h hw (lv_sub hl [1, 2, 3, 4, 5, 0] rfl)

theorem cMen_noteGains {l : Launch} {D : va_G} {cA : Nat → ClassId} {z sz : Nat} {I : HI} {T : HR} {F : HR} {L : HL} {r1 : Nat} {Q : HI → Prop} (hcl : hCl Ev) (hG : Geo F L) (hn1 : NetSh F L r1) (h : Men_noteGains I T F L r1 Q) : Met l yX4_noteGains (hws0 yX4_noteGains cX4_noteGains 8 none) { frames := 5, cells := 0, slots := 0, locals := 122 } (hPc D cA z Ev (I, J, T, F, L) sz [.ref (z + 48), .ref (z + r1), .ref (z + 23)]) (va_Qv (pIv J T F L Q) (hB D cA z (hA z L sz)) (hA z L sz)) 0 0 (hA z L sz) := by
  refine hm_met (I, J, T, F, L) [.ref (z + 48), .ref (z + r1), .ref (z + 23)] rfl (by decide) (Nat.le_of_ble_eq_true rfl) ?_
  intro p e s m below meth c ls X hr hlk hnm hxt hsz hw hl
  have hl : lv_has ls 8 [(0, .ref (z + 48)), (1, .ref (z + r1)), (2, .ref (z + 23))] := hl
  have hR : 5 ≤ ({ frames := 5, cells := 0, slots := 0, locals := 122 } : Room).frames ∧ 122 ≤ ({ frames := 5, cells := 0, slots := 0, locals := 122 } : Room).locals := ⟨Nat.le_refl _, Nat.le_refl _⟩
  generalize ({ frames := 5, cells := 0, slots := 0, locals := 122 } : Room) = R at hR ⊢
  clear hsz
  generalize (hA z L sz) = A at hw ⊢
  have hx := X.1
  have hb := X.2.1
  unfold Men_noteGains at h
  refine lv_aload_n hx hb dX4_noteGains_0 rfl (lv_at hl 0 rfl) ?_
  refine hm_getr X hw lk_4_18 (gl_48 hG) (gf_48_1 hG) dX4_noteGains_1 ?_
  refine lv_aload_n hx hb dX4_noteGains_4 rfl (lv_at hl 1 rfl) ?_
  refine lv_aload_n hx hb dX4_noteGains_5 rfl (lv_at hl 2 rfl) ?_
  refine hm_calli hw (hm_runS (rest := []) hcl X hw (cMen_isWon hcl hG (geo_played hG) hn1 h) yk_X4_isWon kw1284 rfl hl.1 rfl rfl rfl (Nat.le_of_ble_eq_true rfl) ⟨Nat.le_trans (Nat.le_of_ble_eq_true rfl) hR.1, Nat.le_trans (Nat.le_of_ble_eq_true rfl) hR.2⟩ ⟨Nat.zero_le _, Nat.zero_le _⟩ dX4_noteGains_6) (fun a1 u2 H locs hp hw => ?_)
  obtain ⟨rfl, h⟩ := hp
  refine lv_if_eq (tgt := 16) hx hb dX4_noteGains_9 (by decide) (fun hc => ?_) (fun hc => ?_)
  · have h := Eq.mp (if_pos hc) h
    refine lv_iconst (v := 0) hx hb dX4_noteGains_16 (by decide) ?_
    refine lv_istore_n (lv' := [(3, _), (0, _), (1, _), (2, _)]) hx hb dX4_noteGains_17 rfl hl (by decide) rfl (fun ls hl => ?_)
    refine lv_iconst (v := 0) hx hb dX4_noteGains_18 (by decide) ?_
    refine lv_istore (lv' := [(4, _), (3, _), (0, _), (1, _), (2, _)]) hx hb dX4_noteGains_19 hl (by decide) rfl (fun ls hl => ?_)
    refine lv_iconst (v := 0) hx hb dX4_noteGains_21 (by decide) ?_
    refine lv_istore (lv' := [(5, _), (4, _), (3, _), (0, _), (1, _), (2, _)]) hx hb dX4_noteGains_22 hl (by decide) rfl (fun ls hl => ?_)
    obtain ⟨n2, h⟩ := h
    exact wkMen_noteGains_l24 X hr hlk hR hcl hG hn1  n2 _ _ _ h hw (lv_sub hl [3, 4, 5, 2, 1, 0] rfl)
  · have h := Eq.mp (if_neg hc) h
    refine lv_iconst (v := 1) hx hb dX4_noteGains_12 (by decide) ?_
    refine lv_goto (tgt := 17) hx hb dX4_noteGains_13 (by decide) ?_
    refine lv_istore_n (lv' := [(3, _), (0, _), (1, _), (2, _)]) hx hb dX4_noteGains_17 rfl hl (by decide) rfl (fun ls hl => ?_)
    refine lv_iconst (v := 0) hx hb dX4_noteGains_18 (by decide) ?_
    refine lv_istore (lv' := [(4, _), (3, _), (0, _), (1, _), (2, _)]) hx hb dX4_noteGains_19 hl (by decide) rfl (fun ls hl => ?_)
    refine lv_iconst (v := 0) hx hb dX4_noteGains_21 (by decide) ?_
    refine lv_istore (lv' := [(5, _), (4, _), (3, _), (0, _), (1, _), (2, _)]) hx hb dX4_noteGains_22 hl (by decide) rfl (fun ls hl => ?_)
    obtain ⟨n2, h⟩ := h
    exact wkMen_noteGains_l24 X hr hlk hR hcl hG hn1  n2 _ _ _ h hw (lv_sub hl [3, 4, 5, 2, 1, 0] rfl)

end
