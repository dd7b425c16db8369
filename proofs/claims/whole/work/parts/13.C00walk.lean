theorem dJ9_max_7cf53_0 : decode cJ9_max_7cf53 0 = .ok (.iload_n 0, 1) := by decide +kernel
theorem dJ9_max_7cf53_1 : decode cJ9_max_7cf53 1 = .ok (.iload_n 1, 1) := by decide +kernel
theorem dJ9_max_7cf53_2 : decode cJ9_max_7cf53 2 = .ok (.if_icmp .lt 7, 3) := by decide +kernel
theorem dJ9_max_7cf53_5 : decode cJ9_max_7cf53 5 = .ok (.iload_n 0, 1) := by decide +kernel
theorem dJ9_max_7cf53_6 : decode cJ9_max_7cf53 6 = .ok (.goto 4, 3) := by decide +kernel
theorem dJ9_max_7cf53_9 : decode cJ9_max_7cf53 9 = .ok (.iload_n 1, 1) := by decide +kernel
theorem dJ9_max_7cf53_10 : decode cJ9_max_7cf53 10 = .ok (.ireturn, 1) := by decide +kernel
theorem dX0_noteNear_0 : decode cX0_noteNear 0 = .ok (.iconst 0, 1) := by decide +kernel
theorem dX0_noteNear_1 : decode cX0_noteNear 1 = .ok (.istore_n 1, 1) := by decide +kernel
theorem dX0_noteNear_2 : decode cX0_noteNear 2 = .ok (.iload_n 1, 1) := by decide +kernel
theorem dX0_noteNear_3 : decode cX0_noteNear 3 = .ok (.iconst 1, 1) := by decide +kernel
theorem dX0_noteNear_4 : decode cX0_noteNear 4 = .ok (.aload_n 0, 1) := by decide +kernel
theorem dX0_noteNear_5 : decode cX0_noteNear 5 = .ok (.getfield 19, 3) := by decide +kernel
theorem dX0_noteNear_8 : decode cX0_noteNear 8 = .ok (.ishl, 1) := by decide +kernel
theorem dX0_noteNear_9 : decode cX0_noteNear 9 = .ok (.if_icmp .ge 75, 3) := by decide +kernel
theorem dX0_noteNear_12 : decode cX0_noteNear 12 = .ok (.aload_n 0, 1) := by decide +kernel
theorem dX0_noteNear_13 : decode cX0_noteNear 13 = .ok (.getfield 22, 3) := by decide +kernel
theorem dX0_noteNear_16 : decode cX0_noteNear 16 = .ok (.iload_n 1, 1) := by decide +kernel
theorem dX0_noteNear_17 : decode cX0_noteNear 17 = .ok (.iconst 1, 1) := by decide +kernel
theorem dX0_noteNear_18 : decode cX0_noteNear 18 = .ok (.iload_n 1, 1) := by decide +kernel
theorem dX0_noteNear_19 : decode cX0_noteNear 19 = .ok (.ishl, 1) := by decide +kernel
theorem dX0_noteNear_20 : decode cX0_noteNear 20 = .ok (.iastore, 1) := by decide +kernel
theorem dX0_noteNear_21 : decode cX0_noteNear 21 = .ok (.aload_n 0, 1) := by decide +kernel
theorem dX0_noteNear_22 : decode cX0_noteNear 22 = .ok (.getfield 25, 3) := by decide +kernel
theorem dX0_noteNear_25 : decode cX0_noteNear 25 = .ok (.iload_n 1, 1) := by decide +kernel
theorem dX0_noteNear_26 : decode cX0_noteNear 26 = .ok (.iload_n 1, 1) := by decide +kernel
theorem dX0_noteNear_27 : decode cX0_noteNear 27 = .ok (.iastore, 1) := by decide +kernel
theorem dX0_noteNear_28 : decode cX0_noteNear 28 = .ok (.iconst 0, 1) := by decide +kernel
theorem dX0_noteNear_29 : decode cX0_noteNear 29 = .ok (.istore_n 2, 1) := by decide +kernel
theorem dX0_noteNear_30 : decode cX0_noteNear 30 = .ok (.iload_n 2, 1) := by decide +kernel
theorem dX0_noteNear_31 : decode cX0_noteNear 31 = .ok (.aload_n 0, 1) := by decide +kernel
theorem dX0_noteNear_32 : decode cX0_noteNear 32 = .ok (.getfield 19, 3) := by decide +kernel
theorem dX0_noteNear_35 : decode cX0_noteNear 35 = .ok (.if_icmp .ge 43, 3) := by decide +kernel
theorem dX0_noteNear_38 : decode cX0_noteNear 38 = .ok (.iload_n 1, 1) := by decide +kernel
theorem dX0_noteNear_39 : decode cX0_noteNear 39 = .ok (.iconst 1, 1) := by decide +kernel
theorem dX0_noteNear_40 : decode cX0_noteNear 40 = .ok (.iload_n 2, 1) := by decide +kernel
theorem dX0_noteNear_41 : decode cX0_noteNear 41 = .ok (.ishl, 1) := by decide +kernel
theorem dX0_noteNear_42 : decode cX0_noteNear 42 = .ok (.ixor, 1) := by decide +kernel
theorem dX0_noteNear_43 : decode cX0_noteNear 43 = .ok (.istore_n 3, 1) := by decide +kernel
theorem dX0_noteNear_44 : decode cX0_noteNear 44 = .ok (.aload_n 0, 1) := by decide +kernel
theorem dX0_noteNear_45 : decode cX0_noteNear 45 = .ok (.getfield 22, 3) := by decide +kernel
theorem dX0_noteNear_48 : decode cX0_noteNear 48 = .ok (.iload_n 1, 1) := by decide +kernel
theorem dX0_noteNear_49 : decode cX0_noteNear 49 = .ok (.dup2, 1) := by decide +kernel
theorem dX0_noteNear_50 : decode cX0_noteNear 50 = .ok (.iaload, 1) := by decide +kernel
theorem dX0_noteNear_51 : decode cX0_noteNear 51 = .ok (.iconst 1, 1) := by decide +kernel
theorem dX0_noteNear_52 : decode cX0_noteNear 52 = .ok (.iload_n 3, 1) := by decide +kernel
theorem dX0_noteNear_53 : decode cX0_noteNear 53 = .ok (.ishl, 1) := by decide +kernel
theorem dX0_noteNear_54 : decode cX0_noteNear 54 = .ok (.ior, 1) := by decide +kernel
theorem dX0_noteNear_55 : decode cX0_noteNear 55 = .ok (.iastore, 1) := by decide +kernel
theorem dX0_noteNear_56 : decode cX0_noteNear 56 = .ok (.aload_n 0, 1) := by decide +kernel
theorem dX0_noteNear_57 : decode cX0_noteNear 57 = .ok (.getfield 25, 3) := by decide +kernel
theorem dX0_noteNear_60 : decode cX0_noteNear 60 = .ok (.iload_n 1, 1) := by decide +kernel
theorem dX0_noteNear_61 : decode cX0_noteNear 61 = .ok (.aload_n 0, 1) := by decide +kernel
theorem dX0_noteNear_62 : decode cX0_noteNear 62 = .ok (.getfield 25, 3) := by decide +kernel
theorem dX0_noteNear_65 : decode cX0_noteNear 65 = .ok (.iload_n 1, 1) := by decide +kernel
theorem dX0_noteNear_66 : decode cX0_noteNear 66 = .ok (.iaload, 1) := by decide +kernel
theorem dX0_noteNear_67 : decode cX0_noteNear 67 = .ok (.iload_n 3, 1) := by decide +kernel
theorem dX0_noteNear_68 : decode cX0_noteNear 68 = .ok (.invokestatic 35, 3) := by decide +kernel
theorem dX0_noteNear_71 : decode cX0_noteNear 71 = .ok (.iastore, 1) := by decide +kernel
theorem dX0_noteNear_72 : decode cX0_noteNear 72 = .ok (.iinc 2 1, 3) := by decide +kernel
theorem dX0_noteNear_75 : decode cX0_noteNear 75 = .ok (.goto (-45), 3) := by decide +kernel
theorem dX0_noteNear_78 : decode cX0_noteNear 78 = .ok (.iinc 1 1, 3) := by decide +kernel
theorem dX0_noteNear_81 : decode cX0_noteNear 81 = .ok (.goto (-79), 3) := by decide +kernel
theorem dX0_noteNear_84 : decode cX0_noteNear 84 = .ok (.return_, 1) := by decide +kernel
theorem dJ6_bitCount_0f7a4_0 : decode cJ6_bitCount_0f7a4 0 = .ok (.iload_n 0, 1) := by decide +kernel
theorem dJ6_bitCount_0f7a4_1 : decode cJ6_bitCount_0f7a4 1 = .ok (.iload_n 0, 1) := by decide +kernel
theorem dJ6_bitCount_0f7a4_2 : decode cJ6_bitCount_0f7a4 2 = .ok (.iconst 1, 1) := by decide +kernel
theorem dJ6_bitCount_0f7a4_3 : decode cJ6_bitCount_0f7a4 3 = .ok (.iushr, 1) := by decide +kernel
theorem dJ6_bitCount_0f7a4_4 : decode cJ6_bitCount_0f7a4 4 = .ok (.ldc_w 265, 3) := by decide +kernel
theorem dJ6_bitCount_0f7a4_7 : decode cJ6_bitCount_0f7a4 7 = .ok (.iand, 1) := by decide +kernel
theorem dJ6_bitCount_0f7a4_8 : decode cJ6_bitCount_0f7a4 8 = .ok (.isub, 1) := by decide +kernel
theorem dJ6_bitCount_0f7a4_9 : decode cJ6_bitCount_0f7a4 9 = .ok (.istore_n 0, 1) := by decide +kernel
theorem dJ6_bitCount_0f7a4_10 : decode cJ6_bitCount_0f7a4 10 = .ok (.iload_n 0, 1) := by decide +kernel
theorem dJ6_bitCount_0f7a4_11 : decode cJ6_bitCount_0f7a4 11 = .ok (.ldc_w 266, 3) := by decide +kernel
theorem dJ6_bitCount_0f7a4_14 : decode cJ6_bitCount_0f7a4 14 = .ok (.iand, 1) := by decide +kernel
theorem dJ6_bitCount_0f7a4_15 : decode cJ6_bitCount_0f7a4 15 = .ok (.iload_n 0, 1) := by decide +kernel
theorem dJ6_bitCount_0f7a4_16 : decode cJ6_bitCount_0f7a4 16 = .ok (.iconst 2, 1) := by decide +kernel
theorem dJ6_bitCount_0f7a4_17 : decode cJ6_bitCount_0f7a4 17 = .ok (.iushr, 1) := by decide +kernel
theorem dJ6_bitCount_0f7a4_18 : decode cJ6_bitCount_0f7a4 18 = .ok (.ldc_w 266, 3) := by decide +kernel
theorem dJ6_bitCount_0f7a4_21 : decode cJ6_bitCount_0f7a4 21 = .ok (.iand, 1) := by decide +kernel
theorem dJ6_bitCount_0f7a4_22 : decode cJ6_bitCount_0f7a4 22 = .ok (.iadd, 1) := by decide +kernel
theorem dJ6_bitCount_0f7a4_23 : decode cJ6_bitCount_0f7a4 23 = .ok (.istore_n 0, 1) := by decide +kernel
theorem dJ6_bitCount_0f7a4_24 : decode cJ6_bitCount_0f7a4 24 = .ok (.iload_n 0, 1) := by decide +kernel
theorem dJ6_bitCount_0f7a4_25 : decode cJ6_bitCount_0f7a4 25 = .ok (.iload_n 0, 1) := by decide +kernel
theorem dJ6_bitCount_0f7a4_26 : decode cJ6_bitCount_0f7a4 26 = .ok (.iconst 4, 1) := by decide +kernel
theorem dJ6_bitCount_0f7a4_27 : decode cJ6_bitCount_0f7a4 27 = .ok (.iushr, 1) := by decide +kernel
theorem dJ6_bitCount_0f7a4_28 : decode cJ6_bitCount_0f7a4 28 = .ok (.iadd, 1) := by decide +kernel
theorem dJ6_bitCount_0f7a4_29 : decode cJ6_bitCount_0f7a4 29 = .ok (.ldc_w 267, 3) := by decide +kernel
theorem dJ6_bitCount_0f7a4_32 : decode cJ6_bitCount_0f7a4 32 = .ok (.iand, 1) := by decide +kernel
theorem dJ6_bitCount_0f7a4_33 : decode cJ6_bitCount_0f7a4 33 = .ok (.istore_n 0, 1) := by decide +kernel
theorem dJ6_bitCount_0f7a4_34 : decode cJ6_bitCount_0f7a4 34 = .ok (.iload_n 0, 1) := by decide +kernel
theorem dJ6_bitCount_0f7a4_35 : decode cJ6_bitCount_0f7a4 35 = .ok (.iload_n 0, 1) := by decide +kernel
theorem dJ6_bitCount_0f7a4_36 : decode cJ6_bitCount_0f7a4 36 = .ok (.bipush 8, 2) := by decide +kernel
theorem dJ6_bitCount_0f7a4_38 : decode cJ6_bitCount_0f7a4 38 = .ok (.iushr, 1) := by decide +kernel
theorem dJ6_bitCount_0f7a4_39 : decode cJ6_bitCount_0f7a4 39 = .ok (.iadd, 1) := by decide +kernel
theorem dJ6_bitCount_0f7a4_40 : decode cJ6_bitCount_0f7a4 40 = .ok (.istore_n 0, 1) := by decide +kernel
theorem dJ6_bitCount_0f7a4_41 : decode cJ6_bitCount_0f7a4 41 = .ok (.iload_n 0, 1) := by decide +kernel
theorem dJ6_bitCount_0f7a4_42 : decode cJ6_bitCount_0f7a4 42 = .ok (.iload_n 0, 1) := by decide +kernel
theorem dJ6_bitCount_0f7a4_43 : decode cJ6_bitCount_0f7a4 43 = .ok (.bipush 16, 2) := by decide +kernel
theorem dJ6_bitCount_0f7a4_45 : decode cJ6_bitCount_0f7a4 45 = .ok (.iushr, 1) := by decide +kernel
theorem dJ6_bitCount_0f7a4_46 : decode cJ6_bitCount_0f7a4 46 = .ok (.iadd, 1) := by decide +kernel
theorem dJ6_bitCount_0f7a4_47 : decode cJ6_bitCount_0f7a4 47 = .ok (.istore_n 0, 1) := by decide +kernel
theorem dJ6_bitCount_0f7a4_48 : decode cJ6_bitCount_0f7a4 48 = .ok (.iload_n 0, 1) := by decide +kernel
theorem dJ6_bitCount_0f7a4_49 : decode cJ6_bitCount_0f7a4 49 = .ok (.bipush 63, 2) := by decide +kernel
theorem dJ6_bitCount_0f7a4_51 : decode cJ6_bitCount_0f7a4 51 = .ok (.iand, 1) := by decide +kernel
theorem dJ6_bitCount_0f7a4_52 : decode cJ6_bitCount_0f7a4 52 = .ok (.ireturn, 1) := by decide +kernel
theorem dJ9_min_7cf53_0 : decode cJ9_min_7cf53 0 = .ok (.iload_n 0, 1) := by decide +kernel
theorem dJ9_min_7cf53_1 : decode cJ9_min_7cf53 1 = .ok (.iload_n 1, 1) := by decide +kernel
theorem dJ9_min_7cf53_2 : decode cJ9_min_7cf53 2 = .ok (.if_icmp .gt 7, 3) := by decide +kernel
theorem dJ9_min_7cf53_5 : decode cJ9_min_7cf53 5 = .ok (.iload_n 0, 1) := by decide +kernel
theorem dJ9_min_7cf53_6 : decode cJ9_min_7cf53 6 = .ok (.goto 4, 3) := by decide +kernel
theorem dJ9_min_7cf53_9 : decode cJ9_min_7cf53 9 = .ok (.iload_n 1, 1) := by decide +kernel
theorem dJ9_min_7cf53_10 : decode cJ9_min_7cf53 10 = .ok (.ireturn, 1) := by decide +kernel
theorem dX0_lastUseful_0 : decode cX0_lastUseful 0 = .ok (.iconst 1, 1) := by decide +kernel
theorem dX0_lastUseful_1 : decode cX0_lastUseful 1 = .ok (.aload_n 0, 1) := by decide +kernel
theorem dX0_lastUseful_2 : decode cX0_lastUseful 2 = .ok (.getfield 19, 3) := by decide +kernel
theorem dX0_lastUseful_5 : decode cX0_lastUseful 5 = .ok (.ishl, 1) := by decide +kernel
theorem dX0_lastUseful_6 : decode cX0_lastUseful 6 = .ok (.iconst 1, 1) := by decide +kernel
theorem dX0_lastUseful_7 : decode cX0_lastUseful 7 = .ok (.isub, 1) := by decide +kernel
theorem dX0_lastUseful_8 : decode cX0_lastUseful 8 = .ok (.istore_n 2, 1) := by decide +kernel
theorem dX0_lastUseful_9 : decode cX0_lastUseful 9 = .ok (.iconst 0, 1) := by decide +kernel
theorem dX0_lastUseful_10 : decode cX0_lastUseful 10 = .ok (.istore_n 3, 1) := by decide +kernel
theorem dX0_lastUseful_11 : decode cX0_lastUseful 11 = .ok (.iload_n 3, 1) := by decide +kernel
theorem dX0_lastUseful_12 : decode cX0_lastUseful 12 = .ok (.iconst 1, 1) := by decide +kernel
theorem dX0_lastUseful_13 : decode cX0_lastUseful 13 = .ok (.aload_n 0, 1) := by decide +kernel
theorem dX0_lastUseful_14 : decode cX0_lastUseful 14 = .ok (.getfield 19, 3) := by decide +kernel
theorem dX0_lastUseful_17 : decode cX0_lastUseful 17 = .ok (.ishl, 1) := by decide +kernel
theorem dX0_lastUseful_18 : decode cX0_lastUseful 18 = .ok (.if_icmp .ge 29, 3) := by decide +kernel
theorem dX0_lastUseful_21 : decode cX0_lastUseful 21 = .ok (.iload_n 1, 1) := by decide +kernel
theorem dX0_lastUseful_22 : decode cX0_lastUseful 22 = .ok (.iload_n 3, 1) := by decide +kernel
theorem dX0_lastUseful_23 : decode cX0_lastUseful 23 = .ok (.iushr, 1) := by decide +kernel
theorem dX0_lastUseful_24 : decode cX0_lastUseful 24 = .ok (.iconst 1, 1) := by decide +kernel
theorem dX0_lastUseful_25 : decode cX0_lastUseful 25 = .ok (.iand, 1) := by decide +kernel
theorem dX0_lastUseful_26 : decode cX0_lastUseful 26 = .ok (.iconst 1, 1) := by decide +kernel
theorem dX0_lastUseful_27 : decode cX0_lastUseful 27 = .ok (.if_icmp .ne 14, 3) := by decide +kernel
theorem dX0_lastUseful_30 : decode cX0_lastUseful 30 = .ok (.iload_n 2, 1) := by decide +kernel
theorem dX0_lastUseful_31 : decode cX0_lastUseful 31 = .ok (.aload_n 0, 1) := by decide +kernel
theorem dX0_lastUseful_32 : decode cX0_lastUseful 32 = .ok (.getfield 25, 3) := by decide +kernel
theorem dX0_lastUseful_35 : decode cX0_lastUseful 35 = .ok (.iload_n 3, 1) := by decide +kernel
theorem dX0_lastUseful_36 : decode cX0_lastUseful 36 = .ok (.iaload, 1) := by decide +kernel
theorem dX0_lastUseful_37 : decode cX0_lastUseful 37 = .ok (.invokestatic 50, 3) := by decide +kernel
theorem dX0_lastUseful_40 : decode cX0_lastUseful 40 = .ok (.istore_n 2, 1) := by decide +kernel
theorem dX0_lastUseful_41 : decode cX0_lastUseful 41 = .ok (.iinc 3 1, 3) := by decide +kernel
theorem dX0_lastUseful_44 : decode cX0_lastUseful 44 = .ok (.goto (-33), 3) := by decide +kernel
theorem dX0_lastUseful_47 : decode cX0_lastUseful 47 = .ok (.iload_n 2, 1) := by decide +kernel
theorem dX0_lastUseful_48 : decode cX0_lastUseful 48 = .ok (.ireturn, 1) := by decide +kernel
theorem dX0_choose_0 : decode cX0_choose 0 = .ok (.iload_n 2, 1) := by decide +kernel
theorem dX0_choose_1 : decode cX0_choose 1 = .ok (.ifCond .ne 5, 3) := by decide +kernel
theorem dX0_choose_4 : decode cX0_choose 4 = .ok (.iconst 1, 1) := by decide +kernel
theorem dX0_choose_5 : decode cX0_choose 5 = .ok (.ireturn, 1) := by decide +kernel
theorem dX0_choose_6 : decode cX0_choose 6 = .ok (.aload_n 0, 1) := by decide +kernel
theorem dX0_choose_7 : decode cX0_choose 7 = .ok (.getfield 9, 3) := by decide +kernel
theorem dX0_choose_10 : decode cX0_choose 10 = .ok (.iload_n 1, 1) := by decide +kernel
theorem dX0_choose_11 : decode cX0_choose 11 = .ok (.isub, 1) := by decide +kernel
theorem dX0_choose_12 : decode cX0_choose 12 = .ok (.istore_n 3, 1) := by decide +kernel
theorem dX0_choose_13 : decode cX0_choose 13 = .ok (.iload_n 3, 1) := by decide +kernel
theorem dX0_choose_14 : decode cX0_choose 14 = .ok (.ifCond .le 18, 3) := by decide +kernel
theorem dX0_choose_17 : decode cX0_choose 17 = .ok (.iload_n 2, 1) := by decide +kernel
theorem dX0_choose_18 : decode cX0_choose 18 = .ok (.invokestatic 41, 3) := by decide +kernel
theorem dX0_choose_21 : decode cX0_choose 21 = .ok (.iload_n 3, 1) := by decide +kernel
theorem dX0_choose_22 : decode cX0_choose 22 = .ok (.aload_n 0, 1) := by decide +kernel
theorem dX0_choose_23 : decode cX0_choose 23 = .ok (.getfield 19, 3) := by decide +kernel
theorem dX0_choose_26 : decode cX0_choose 26 = .ok (.iconst 1, 1) := by decide +kernel
theorem dX0_choose_27 : decode cX0_choose 27 = .ok (.iadd, 1) := by decide +kernel
theorem dX0_choose_28 : decode cX0_choose 28 = .ok (.imul, 1) := by decide +kernel
theorem dX0_choose_29 : decode cX0_choose 29 = .ok (.if_icmp .le 5, 3) := by decide +kernel
theorem dX0_choose_32 : decode cX0_choose 32 = .ok (.iconst 0, 1) := by decide +kernel
theorem dX0_choose_33 : decode cX0_choose 33 = .ok (.ireturn, 1) := by decide +kernel
theorem dX0_choose_34 : decode cX0_choose 34 = .ok (.aload_n 0, 1) := by decide +kernel
theorem dX0_choose_35 : decode cX0_choose 35 = .ok (.iload_n 2, 1) := by decide +kernel
theorem dX0_choose_36 : decode cX0_choose 36 = .ok (.invokevirtual 47, 3) := by decide +kernel
theorem dX0_choose_39 : decode cX0_choose 39 = .ok (.istore 4, 2) := by decide +kernel
theorem dX0_choose_41 : decode cX0_choose 41 = .ok (.aload_n 0, 1) := by decide +kernel
theorem dX0_choose_42 : decode cX0_choose 42 = .ok (.getfield 15, 3) := by decide +kernel
theorem dX0_choose_45 : decode cX0_choose 45 = .ok (.iload_n 1, 1) := by decide +kernel
theorem dX0_choose_46 : decode cX0_choose 46 = .ok (.iconst 1, 1) := by decide +kernel
theorem dX0_choose_47 : decode cX0_choose 47 = .ok (.isub, 1) := by decide +kernel
theorem dX0_choose_48 : decode cX0_choose 48 = .ok (.iaload, 1) := by decide +kernel
theorem dX0_choose_49 : decode cX0_choose 49 = .ok (.iconst 1, 1) := by decide +kernel
theorem dX0_choose_50 : decode cX0_choose 50 = .ok (.iadd, 1) := by decide +kernel
theorem dX0_choose_51 : decode cX0_choose 51 = .ok (.istore 5, 2) := by decide +kernel
theorem dX0_choose_53 : decode cX0_choose 53 = .ok (.iload 5, 2) := by decide +kernel
theorem dX0_choose_55 : decode cX0_choose 55 = .ok (.iload 4, 2) := by decide +kernel
theorem dX0_choose_57 : decode cX0_choose 57 = .ok (.if_icmp .gt 40, 3) := by decide +kernel
theorem dX0_choose_60 : decode cX0_choose 60 = .ok (.aload_n 0, 1) := by decide +kernel
theorem dX0_choose_61 : decode cX0_choose 61 = .ok (.getfield 15, 3) := by decide +kernel
theorem dX0_choose_64 : decode cX0_choose 64 = .ok (.iload_n 1, 1) := by decide +kernel
theorem dX0_choose_65 : decode cX0_choose 65 = .ok (.iload 5, 2) := by decide +kernel
theorem dX0_choose_67 : decode cX0_choose 67 = .ok (.iastore, 1) := by decide +kernel
theorem dX0_choose_68 : decode cX0_choose 68 = .ok (.aload_n 0, 1) := by decide +kernel
theorem dX0_choose_69 : decode cX0_choose 69 = .ok (.iload_n 1, 1) := by decide +kernel
theorem dX0_choose_70 : decode cX0_choose 70 = .ok (.iconst 1, 1) := by decide +kernel
theorem dX0_choose_71 : decode cX0_choose 71 = .ok (.iadd, 1) := by decide +kernel
theorem dX0_choose_72 : decode cX0_choose 72 = .ok (.iload_n 2, 1) := by decide +kernel
theorem dX0_choose_73 : decode cX0_choose 73 = .ok (.aload_n 0, 1) := by decide +kernel
theorem dX0_choose_74 : decode cX0_choose 74 = .ok (.getfield 22, 3) := by decide +kernel
theorem dX0_choose_77 : decode cX0_choose 77 = .ok (.iload 5, 2) := by decide +kernel
theorem dX0_choose_79 : decode cX0_choose 79 = .ok (.iaload, 1) := by decide +kernel
theorem dX0_choose_80 : decode cX0_choose 80 = .ok (.iconst (-1), 1) := by decide +kernel
theorem dX0_choose_81 : decode cX0_choose 81 = .ok (.ixor, 1) := by decide +kernel
theorem dX0_choose_82 : decode cX0_choose 82 = .ok (.iand, 1) := by decide +kernel
theorem dX0_choose_83 : decode cX0_choose 83 = .ok (.invokestatic 31, 3) := by decide +kernel
theorem dX0_choose_86 : decode cX0_choose 86 = .ok (.ifCond .eq 5, 3) := by decide +kernel
theorem dX0_choose_89 : decode cX0_choose 89 = .ok (.iconst 1, 1) := by decide +kernel
theorem dX0_choose_90 : decode cX0_choose 90 = .ok (.ireturn, 1) := by decide +kernel
theorem dX0_choose_91 : decode cX0_choose 91 = .ok (.iinc 5 1, 3) := by decide +kernel
theorem dX0_choose_94 : decode cX0_choose 94 = .ok (.goto (-41), 3) := by decide +kernel
theorem dX0_choose_97 : decode cX0_choose 97 = .ok (.iconst 0, 1) := by decide +kernel
theorem dX0_choose_98 : decode cX0_choose 98 = .ok (.ireturn, 1) := by decide +kernel
theorem dX0_seek_0 : decode cX0_seek 0 = .ok (.aload_n 0, 1) := by decide +kernel
theorem dX0_seek_1 : decode cX0_seek 1 = .ok (.getfield 19, 3) := by decide +kernel
theorem dX0_seek_4 : decode cX0_seek 4 = .ok (.iload_n 1, 1) := by decide +kernel
theorem dX0_seek_5 : decode cX0_seek 5 = .ok (.if_icmp .ne 4, 3) := by decide +kernel
theorem dX0_seek_8 : decode cX0_seek 8 = .ok (.return_, 1) := by decide +kernel
theorem dX0_seek_9 : decode cX0_seek 9 = .ok (.aload_n 0, 1) := by decide +kernel
theorem dX0_seek_10 : decode cX0_seek 10 = .ok (.iload_n 1, 1) := by decide +kernel
theorem dX0_seek_11 : decode cX0_seek 11 = .ok (.putfield 19, 3) := by decide +kernel
theorem dX0_seek_14 : decode cX0_seek 14 = .ok (.aload_n 0, 1) := by decide +kernel
theorem dX0_seek_15 : decode cX0_seek 15 = .ok (.invokevirtual 28, 3) := by decide +kernel
theorem dX0_seek_18 : decode cX0_seek 18 = .ok (.iconst 1, 1) := by decide +kernel
theorem dX0_seek_19 : decode cX0_seek 19 = .ok (.aload_n 0, 1) := by decide +kernel
theorem dX0_seek_20 : decode cX0_seek 20 = .ok (.getfield 19, 3) := by decide +kernel
theorem dX0_seek_23 : decode cX0_seek 23 = .ok (.ishl, 1) := by decide +kernel
theorem dX0_seek_24 : decode cX0_seek 24 = .ok (.istore_n 2, 1) := by decide +kernel
theorem dX0_seek_25 : decode cX0_seek 25 = .ok (.iload_n 2, 1) := by decide +kernel
theorem dX0_seek_26 : decode cX0_seek 26 = .ok (.bipush 32, 2) := by decide +kernel
theorem dX0_seek_28 : decode cX0_seek 28 = .ok (.if_icmp .ne 7, 3) := by decide +kernel
theorem dX0_seek_31 : decode cX0_seek 31 = .ok (.iconst (-1), 1) := by decide +kernel
theorem dX0_seek_32 : decode cX0_seek 32 = .ok (.goto 8, 3) := by decide +kernel
theorem dX0_seek_35 : decode cX0_seek 35 = .ok (.iconst 1, 1) := by decide +kernel
theorem dX0_seek_36 : decode cX0_seek 36 = .ok (.iload_n 2, 1) := by decide +kernel
theorem dX0_seek_37 : decode cX0_seek 37 = .ok (.ishl, 1) := by decide +kernel
theorem dX0_seek_38 : decode cX0_seek 38 = .ok (.iconst 1, 1) := by decide +kernel
theorem dX0_seek_39 : decode cX0_seek 39 = .ok (.isub, 1) := by decide +kernel
theorem dX0_seek_40 : decode cX0_seek 40 = .ok (.istore_n 3, 1) := by decide +kernel
theorem dX0_seek_41 : decode cX0_seek 41 = .ok (.aload_n 0, 1) := by decide +kernel
theorem dX0_seek_42 : decode cX0_seek 42 = .ok (.iconst 0, 1) := by decide +kernel
theorem dX0_seek_43 : decode cX0_seek 43 = .ok (.putfield 9, 3) := by decide +kernel
theorem dX0_seek_46 : decode cX0_seek 46 = .ok (.iconst 0, 1) := by decide +kernel
theorem dX0_seek_47 : decode cX0_seek 47 = .ok (.istore 4, 2) := by decide +kernel
theorem dX0_seek_49 : decode cX0_seek 49 = .ok (.iload 4, 2) := by decide +kernel
theorem dX0_seek_51 : decode cX0_seek 51 = .ok (.ifCond .ne 49, 3) := by decide +kernel
theorem dX0_seek_54 : decode cX0_seek 54 = .ok (.aload_n 0, 1) := by decide +kernel
theorem dX0_seek_55 : decode cX0_seek 55 = .ok (.getfield 9, 3) := by decide +kernel
theorem dX0_seek_58 : decode cX0_seek 58 = .ok (.bipush 7, 2) := by decide +kernel
theorem dX0_seek_60 : decode cX0_seek 60 = .ok (.if_icmp .ge 40, 3) := by decide +kernel
theorem dX0_seek_63 : decode cX0_seek 63 = .ok (.aload_n 0, 1) := by decide +kernel
theorem dX0_seek_64 : decode cX0_seek 64 = .ok (.dup, 1) := by decide +kernel
theorem dX0_seek_65 : decode cX0_seek 65 = .ok (.getfield 9, 3) := by decide +kernel
theorem dX0_seek_68 : decode cX0_seek 68 = .ok (.iconst 1, 1) := by decide +kernel
theorem dX0_seek_69 : decode cX0_seek 69 = .ok (.iadd, 1) := by decide +kernel
theorem dX0_seek_70 : decode cX0_seek 70 = .ok (.putfield 9, 3) := by decide +kernel
theorem dX0_seek_73 : decode cX0_seek 73 = .ok (.aload_n 0, 1) := by decide +kernel
theorem dX0_seek_74 : decode cX0_seek 74 = .ok (.getfield 15, 3) := by decide +kernel
theorem dX0_seek_77 : decode cX0_seek 77 = .ok (.iconst 0, 1) := by decide +kernel
theorem dX0_seek_78 : decode cX0_seek 78 = .ok (.iconst 0, 1) := by decide +kernel
theorem dX0_seek_79 : decode cX0_seek 79 = .ok (.iastore, 1) := by decide +kernel
theorem dX0_seek_80 : decode cX0_seek 80 = .ok (.aload_n 0, 1) := by decide +kernel
theorem dX0_seek_81 : decode cX0_seek 81 = .ok (.iconst 1, 1) := by decide +kernel
theorem dX0_seek_82 : decode cX0_seek 82 = .ok (.iload_n 3, 1) := by decide +kernel
theorem dX0_seek_83 : decode cX0_seek 83 = .ok (.aload_n 0, 1) := by decide +kernel
theorem dX0_seek_84 : decode cX0_seek 84 = .ok (.getfield 22, 3) := by decide +kernel
theorem dX0_seek_87 : decode cX0_seek 87 = .ok (.iconst 0, 1) := by decide +kernel
theorem dX0_seek_88 : decode cX0_seek 88 = .ok (.iaload, 1) := by decide +kernel
theorem dX0_seek_89 : decode cX0_seek 89 = .ok (.iconst (-1), 1) := by decide +kernel
theorem dX0_seek_90 : decode cX0_seek 90 = .ok (.ixor, 1) := by decide +kernel
theorem dX0_seek_91 : decode cX0_seek 91 = .ok (.iand, 1) := by decide +kernel
theorem dX0_seek_92 : decode cX0_seek 92 = .ok (.invokestatic 31, 3) := by decide +kernel
theorem dX0_seek_95 : decode cX0_seek 95 = .ok (.istore 4, 2) := by decide +kernel
theorem dX0_seek_97 : decode cX0_seek 97 = .ok (.goto (-48), 3) := by decide +kernel
theorem dX0_seek_100 : decode cX0_seek 100 = .ok (.return_, 1) := by decide +kernel
theorem dX5_othersOf_0 : decode cX5_othersOf 0 = .ok (.iconst 1, 1) := by decide +kernel
theorem dX5_othersOf_1 : decode cX5_othersOf 1 = .ok (.aload_n 0, 1) := by decide +kernel
theorem dX5_othersOf_2 : decode cX5_othersOf 2 = .ok (.getfield 44, 3) := by decide +kernel
theorem dX5_othersOf_5 : decode cX5_othersOf 5 = .ok (.ishl, 1) := by decide +kernel
theorem dX5_othersOf_6 : decode cX5_othersOf 6 = .ok (.iconst 1, 1) := by decide +kernel
theorem dX5_othersOf_7 : decode cX5_othersOf 7 = .ok (.isub, 1) := by decide +kernel
theorem dX5_othersOf_8 : decode cX5_othersOf 8 = .ok (.iconst 1, 1) := by decide +kernel
theorem dX5_othersOf_9 : decode cX5_othersOf 9 = .ok (.iload_n 1, 1) := by decide +kernel
theorem dX5_othersOf_10 : decode cX5_othersOf 10 = .ok (.ishl, 1) := by decide +kernel
theorem dX5_othersOf_11 : decode cX5_othersOf 11 = .ok (.iconst (-1), 1) := by decide +kernel
theorem dX5_othersOf_12 : decode cX5_othersOf 12 = .ok (.ixor, 1) := by decide +kernel
theorem dX5_othersOf_13 : decode cX5_othersOf 13 = .ok (.iand, 1) := by decide +kernel
theorem dX5_othersOf_14 : decode cX5_othersOf 14 = .ok (.ireturn, 1) := by decide +kernel
theorem dX5_countViews_0 : decode cX5_countViews 0 = .ok (.iconst 1, 1) := by decide +kernel
theorem dX5_countViews_1 : decode cX5_countViews 1 = .ok (.istore_n 2, 1) := by decide +kernel
theorem dX5_countViews_2 : decode cX5_countViews 2 = .ok (.iconst 0, 1) := by decide +kernel
theorem dX5_countViews_3 : decode cX5_countViews 3 = .ok (.istore_n 3, 1) := by decide +kernel
theorem dX5_countViews_4 : decode cX5_countViews 4 = .ok (.iload_n 3, 1) := by decide +kernel
theorem dX5_countViews_5 : decode cX5_countViews 5 = .ok (.aload_n 0, 1) := by decide +kernel
theorem dX5_countViews_6 : decode cX5_countViews 6 = .ok (.getfield 44, 3) := by decide +kernel
theorem dX5_countViews_9 : decode cX5_countViews 9 = .ok (.if_icmp .ge 62, 3) := by decide +kernel
theorem dX5_countViews_12 : decode cX5_countViews 12 = .ok (.aload_n 0, 1) := by decide +kernel
theorem dX5_countViews_13 : decode cX5_countViews 13 = .ok (.getfield 9, 3) := by decide +kernel
theorem dX5_countViews_16 : decode cX5_countViews 16 = .ok (.iload_n 1, 1) := by decide +kernel
theorem dX5_countViews_17 : decode cX5_countViews 17 = .ok (.iaload, 1) := by decide +kernel
theorem dX5_countViews_18 : decode cX5_countViews 18 = .ok (.iload_n 3, 1) := by decide +kernel
theorem dX5_countViews_19 : decode cX5_countViews 19 = .ok (.ishr, 1) := by decide +kernel
theorem dX5_countViews_20 : decode cX5_countViews 20 = .ok (.iconst 1, 1) := by decide +kernel
theorem dX5_countViews_21 : decode cX5_countViews 21 = .ok (.iand, 1) := by decide +kernel
theorem dX5_countViews_22 : decode cX5_countViews 22 = .ok (.iconst 1, 1) := by decide +kernel
theorem dX5_countViews_23 : decode cX5_countViews 23 = .ok (.if_icmp .ne 10, 3) := by decide +kernel
theorem dX5_countViews_26 : decode cX5_countViews 26 = .ok (.iload_n 2, 1) := by decide +kernel
theorem dX5_countViews_27 : decode cX5_countViews 27 = .ok (.aload_n 0, 1) := by decide +kernel
theorem dX5_countViews_28 : decode cX5_countViews 28 = .ok (.getfield 48, 3) := by decide +kernel
theorem dX5_countViews_31 : decode cX5_countViews 31 = .ok (.imul, 1) := by decide +kernel
theorem dX5_countViews_32 : decode cX5_countViews 32 = .ok (.istore_n 2, 1) := by decide +kernel
theorem dX5_countViews_33 : decode cX5_countViews 33 = .ok (.aload_n 0, 1) := by decide +kernel
theorem dX5_countViews_34 : decode cX5_countViews 34 = .ok (.getfield 18, 3) := by decide +kernel
theorem dX5_countViews_37 : decode cX5_countViews 37 = .ok (.iload_n 1, 1) := by decide +kernel
theorem dX5_countViews_38 : decode cX5_countViews 38 = .ok (.iaload, 1) := by decide +kernel
theorem dX5_countViews_39 : decode cX5_countViews 39 = .ok (.iload_n 3, 1) := by decide +kernel
theorem dX5_countViews_40 : decode cX5_countViews 40 = .ok (.ishr, 1) := by decide +kernel
theorem dX5_countViews_41 : decode cX5_countViews 41 = .ok (.iconst 1, 1) := by decide +kernel
theorem dX5_countViews_42 : decode cX5_countViews 42 = .ok (.iand, 1) := by decide +kernel
theorem dX5_countViews_43 : decode cX5_countViews 43 = .ok (.iconst 1, 1) := by decide +kernel
theorem dX5_countViews_44 : decode cX5_countViews 44 = .ok (.if_icmp .ne 12, 3) := by decide +kernel
theorem dX5_countViews_47 : decode cX5_countViews 47 = .ok (.iload_n 2, 1) := by decide +kernel
theorem dX5_countViews_48 : decode cX5_countViews 48 = .ok (.aload_n 0, 1) := by decide +kernel
theorem dX5_countViews_49 : decode cX5_countViews 49 = .ok (.getfield 48, 3) := by decide +kernel
theorem dX5_countViews_52 : decode cX5_countViews 52 = .ok (.iconst 1, 1) := by decide +kernel
theorem dX5_countViews_53 : decode cX5_countViews 53 = .ok (.iadd, 1) := by decide +kernel
theorem dX5_countViews_54 : decode cX5_countViews 54 = .ok (.imul, 1) := by decide +kernel
theorem dX5_countViews_55 : decode cX5_countViews 55 = .ok (.istore_n 2, 1) := by decide +kernel
theorem dX5_countViews_56 : decode cX5_countViews 56 = .ok (.iload_n 2, 1) := by decide +kernel
theorem dX5_countViews_57 : decode cX5_countViews 57 = .ok (.sipush 1024, 3) := by decide +kernel
theorem dX5_countViews_60 : decode cX5_countViews 60 = .ok (.if_icmp .le 5, 3) := by decide +kernel
theorem dX5_countViews_63 : decode cX5_countViews 63 = .ok (.iconst (-1), 1) := by decide +kernel
theorem dX5_countViews_64 : decode cX5_countViews 64 = .ok (.ireturn, 1) := by decide +kernel
theorem dX5_countViews_65 : decode cX5_countViews 65 = .ok (.iinc 3 1, 3) := by decide +kernel
theorem dX5_countViews_68 : decode cX5_countViews 68 = .ok (.goto (-64), 3) := by decide +kernel
theorem dX5_countViews_71 : decode cX5_countViews 71 = .ok (.iload_n 2, 1) := by decide +kernel
theorem dX5_countViews_72 : decode cX5_countViews 72 = .ok (.ireturn, 1) := by decide +kernel
theorem dX5_clearTable_0 : decode cX5_clearTable 0 = .ok (.aload_n 0, 1) := by decide +kernel
theorem dX5_clearTable_1 : decode cX5_clearTable 1 = .ok (.getfield 21, 3) := by decide +kernel
theorem dX5_clearTable_4 : decode cX5_clearTable 4 = .ok (.iload_n 1, 1) := by decide +kernel
theorem dX5_clearTable_5 : decode cX5_clearTable 5 = .ok (.aload_n 0, 1) := by decide +kernel
theorem dX5_clearTable_6 : decode cX5_clearTable 6 = .ok (.iload_n 1, 1) := by decide +kernel
theorem dX5_clearTable_7 : decode cX5_clearTable 7 = .ok (.invokevirtual 80, 3) := by decide +kernel
theorem dX5_clearTable_10 : decode cX5_clearTable 10 = .ok (.iastore, 1) := by decide +kernel
theorem dX5_clearTable_11 : decode cX5_clearTable 11 = .ok (.iconst 0, 1) := by decide +kernel
theorem dX5_clearTable_12 : decode cX5_clearTable 12 = .ok (.istore_n 2, 1) := by decide +kernel
theorem dX5_clearTable_13 : decode cX5_clearTable 13 = .ok (.iload_n 2, 1) := by decide +kernel
theorem dX5_clearTable_14 : decode cX5_clearTable 14 = .ok (.aload_n 0, 1) := by decide +kernel
theorem dX5_clearTable_15 : decode cX5_clearTable 15 = .ok (.getfield 21, 3) := by decide +kernel
theorem dX5_clearTable_18 : decode cX5_clearTable 18 = .ok (.iload_n 1, 1) := by decide +kernel
theorem dX5_clearTable_19 : decode cX5_clearTable 19 = .ok (.iaload, 1) := by decide +kernel
theorem dX5_clearTable_20 : decode cX5_clearTable 20 = .ok (.if_icmp .ge 22, 3) := by decide +kernel
theorem dX5_clearTable_23 : decode cX5_clearTable 23 = .ok (.aload_n 0, 1) := by decide +kernel
theorem dX5_clearTable_24 : decode cX5_clearTable 24 = .ok (.getfield 33, 3) := by decide +kernel
theorem dX5_clearTable_27 : decode cX5_clearTable 27 = .ok (.iload_n 1, 1) := by decide +kernel
theorem dX5_clearTable_28 : decode cX5_clearTable 28 = .ok (.sipush 1024, 3) := by decide +kernel
theorem dX5_clearTable_31 : decode cX5_clearTable 31 = .ok (.imul, 1) := by decide +kernel
theorem dX5_clearTable_32 : decode cX5_clearTable 32 = .ok (.iload_n 2, 1) := by decide +kernel
theorem dX5_clearTable_33 : decode cX5_clearTable 33 = .ok (.iadd, 1) := by decide +kernel
theorem dX5_clearTable_34 : decode cX5_clearTable 34 = .ok (.iconst 0, 1) := by decide +kernel
theorem dX5_clearTable_35 : decode cX5_clearTable 35 = .ok (.bastore, 1) := by decide +kernel
theorem dX5_clearTable_36 : decode cX5_clearTable 36 = .ok (.iinc 2 1, 3) := by decide +kernel
theorem dX5_clearTable_39 : decode cX5_clearTable 39 = .ok (.goto (-26), 3) := by decide +kernel
theorem dX5_clearTable_42 : decode cX5_clearTable 42 = .ok (.return_, 1) := by decide +kernel
theorem dX5_startTable_0 : decode cX5_startTable 0 = .ok (.aload_n 0, 1) := by decide +kernel
theorem dX5_startTable_1 : decode cX5_startTable 1 = .ok (.getfield 29, 3) := by decide +kernel
theorem dX5_startTable_4 : decode cX5_startTable 4 = .ok (.iload_n 1, 1) := by decide +kernel
theorem dX5_startTable_5 : decode cX5_startTable 5 = .ok (.aconst_null, 1) := by decide +kernel
theorem dX5_startTable_6 : decode cX5_startTable 6 = .ok (.aastore, 1) := by decide +kernel
theorem dX5_startTable_7 : decode cX5_startTable 7 = .ok (.aload_n 0, 1) := by decide +kernel
theorem dX5_startTable_8 : decode cX5_startTable 8 = .ok (.iload_n 1, 1) := by decide +kernel
theorem dX5_startTable_9 : decode cX5_startTable 9 = .ok (.invokevirtual 71, 3) := by decide +kernel
theorem dX5_startTable_12 : decode cX5_startTable 12 = .ok (.return_, 1) := by decide +kernel
theorem dX5_lookAtAllAtOnce_0 : decode cX5_lookAtAllAtOnce 0 = .ok (.iconst 0, 1) := by decide +kernel
theorem dX5_lookAtAllAtOnce_1 : decode cX5_lookAtAllAtOnce 1 = .ok (.istore_n 1, 1) := by decide +kernel
theorem dX5_lookAtAllAtOnce_2 : decode cX5_lookAtAllAtOnce 2 = .ok (.iload_n 1, 1) := by decide +kernel
theorem dX5_lookAtAllAtOnce_3 : decode cX5_lookAtAllAtOnce 3 = .ok (.aload_n 0, 1) := by decide +kernel
theorem dX5_lookAtAllAtOnce_4 : decode cX5_lookAtAllAtOnce 4 = .ok (.getfield 44, 3) := by decide +kernel
theorem dX5_lookAtAllAtOnce_7 : decode cX5_lookAtAllAtOnce 7 = .ok (.if_icmp .ge 46, 3) := by decide +kernel
theorem dX5_lookAtAllAtOnce_10 : decode cX5_lookAtAllAtOnce 10 = .ok (.aload_n 0, 1) := by decide +kernel
theorem dX5_lookAtAllAtOnce_11 : decode cX5_lookAtAllAtOnce 11 = .ok (.getfield 9, 3) := by decide +kernel
theorem dX5_lookAtAllAtOnce_14 : decode cX5_lookAtAllAtOnce 14 = .ok (.iload_n 1, 1) := by decide +kernel
theorem dX5_lookAtAllAtOnce_15 : decode cX5_lookAtAllAtOnce 15 = .ok (.aload_n 0, 1) := by decide +kernel
theorem dX5_lookAtAllAtOnce_16 : decode cX5_lookAtAllAtOnce 16 = .ok (.iload_n 1, 1) := by decide +kernel
theorem dX5_lookAtAllAtOnce_17 : decode cX5_lookAtAllAtOnce 17 = .ok (.invokevirtual 57, 3) := by decide +kernel
theorem dX5_lookAtAllAtOnce_20 : decode cX5_lookAtAllAtOnce 20 = .ok (.iastore, 1) := by decide +kernel
theorem dX5_lookAtAllAtOnce_21 : decode cX5_lookAtAllAtOnce 21 = .ok (.aload_n 0, 1) := by decide +kernel
theorem dX5_lookAtAllAtOnce_22 : decode cX5_lookAtAllAtOnce 22 = .ok (.getfield 15, 3) := by decide +kernel
theorem dX5_lookAtAllAtOnce_25 : decode cX5_lookAtAllAtOnce 25 = .ok (.iload_n 1, 1) := by decide +kernel
theorem dX5_lookAtAllAtOnce_26 : decode cX5_lookAtAllAtOnce 26 = .ok (.iconst 0, 1) := by decide +kernel
theorem dX5_lookAtAllAtOnce_27 : decode cX5_lookAtAllAtOnce 27 = .ok (.iastore, 1) := by decide +kernel
theorem dX5_lookAtAllAtOnce_28 : decode cX5_lookAtAllAtOnce 28 = .ok (.aload_n 0, 1) := by decide +kernel
theorem dX5_lookAtAllAtOnce_29 : decode cX5_lookAtAllAtOnce 29 = .ok (.getfield 18, 3) := by decide +kernel
theorem dX5_lookAtAllAtOnce_32 : decode cX5_lookAtAllAtOnce 32 = .ok (.iload_n 1, 1) := by decide +kernel
theorem dX5_lookAtAllAtOnce_33 : decode cX5_lookAtAllAtOnce 33 = .ok (.iconst 0, 1) := by decide +kernel
theorem dX5_lookAtAllAtOnce_34 : decode cX5_lookAtAllAtOnce 34 = .ok (.iastore, 1) := by decide +kernel
theorem dX5_lookAtAllAtOnce_35 : decode cX5_lookAtAllAtOnce 35 = .ok (.aload_n 0, 1) := by decide +kernel
theorem dX5_lookAtAllAtOnce_36 : decode cX5_lookAtAllAtOnce 36 = .ok (.getfield 24, 3) := by decide +kernel
theorem dX5_lookAtAllAtOnce_39 : decode cX5_lookAtAllAtOnce 39 = .ok (.iload_n 1, 1) := by decide +kernel
theorem dX5_lookAtAllAtOnce_40 : decode cX5_lookAtAllAtOnce 40 = .ok (.iload_n 1, 1) := by decide +kernel
theorem dX5_lookAtAllAtOnce_41 : decode cX5_lookAtAllAtOnce 41 = .ok (.iastore, 1) := by decide +kernel
theorem dX5_lookAtAllAtOnce_42 : decode cX5_lookAtAllAtOnce 42 = .ok (.aload_n 0, 1) := by decide +kernel
theorem dX5_lookAtAllAtOnce_43 : decode cX5_lookAtAllAtOnce 43 = .ok (.iload_n 1, 1) := by decide +kernel
theorem dX5_lookAtAllAtOnce_44 : decode cX5_lookAtAllAtOnce 44 = .ok (.invokevirtual 61, 3) := by decide +kernel
theorem dX5_lookAtAllAtOnce_47 : decode cX5_lookAtAllAtOnce 47 = .ok (.iinc 1 1, 3) := by decide +kernel
theorem dX5_lookAtAllAtOnce_50 : decode cX5_lookAtAllAtOnce 50 = .ok (.goto (-48), 3) := by decide +kernel
theorem dX5_lookAtAllAtOnce_53 : decode cX5_lookAtAllAtOnce 53 = .ok (.return_, 1) := by decide +kernel
theorem dX0_isChosen_0 : decode cX0_isChosen 0 = .ok (.iconst 0, 1) := by decide +kernel
theorem dX0_isChosen_1 : decode cX0_isChosen 1 = .ok (.istore_n 2, 1) := by decide +kernel
theorem dX0_isChosen_2 : decode cX0_isChosen 2 = .ok (.iload_n 2, 1) := by decide +kernel
theorem dX0_isChosen_3 : decode cX0_isChosen 3 = .ok (.aload_n 0, 1) := by decide +kernel
theorem dX0_isChosen_4 : decode cX0_isChosen 4 = .ok (.getfield 9, 3) := by decide +kernel
theorem dX0_isChosen_7 : decode cX0_isChosen 7 = .ok (.if_icmp .ge 21, 3) := by decide +kernel
theorem dX0_isChosen_10 : decode cX0_isChosen 10 = .ok (.aload_n 0, 1) := by decide +kernel
theorem dX0_isChosen_11 : decode cX0_isChosen 11 = .ok (.getfield 15, 3) := by decide +kernel
theorem dX0_isChosen_14 : decode cX0_isChosen 14 = .ok (.iload_n 2, 1) := by decide +kernel
theorem dX0_isChosen_15 : decode cX0_isChosen 15 = .ok (.iaload, 1) := by decide +kernel
theorem dX0_isChosen_16 : decode cX0_isChosen 16 = .ok (.iload_n 1, 1) := by decide +kernel
theorem dX0_isChosen_17 : decode cX0_isChosen 17 = .ok (.if_icmp .ne 5, 3) := by decide +kernel
theorem dX0_isChosen_20 : decode cX0_isChosen 20 = .ok (.iconst 1, 1) := by decide +kernel
theorem dX0_isChosen_21 : decode cX0_isChosen 21 = .ok (.ireturn, 1) := by decide +kernel
theorem dX0_isChosen_22 : decode cX0_isChosen 22 = .ok (.iinc 2 1, 3) := by decide +kernel
theorem dX0_isChosen_25 : decode cX0_isChosen 25 = .ok (.goto (-23), 3) := by decide +kernel
theorem dX0_isChosen_28 : decode cX0_isChosen 28 = .ok (.iconst 0, 1) := by decide +kernel
theorem dX0_isChosen_29 : decode cX0_isChosen 29 = .ok (.ireturn, 1) := by decide +kernel
theorem dX0_guessBetween_0 : decode cX0_guessBetween 0 = .ok (.iload_n 0, 1) := by decide +kernel
theorem dX0_guessBetween_1 : decode cX0_guessBetween 1 = .ok (.ifCond .eq 13, 3) := by decide +kernel
theorem dX0_guessBetween_4 : decode cX0_guessBetween 4 = .ok (.iload_n 1, 1) := by decide +kernel
theorem dX0_guessBetween_5 : decode cX0_guessBetween 5 = .ok (.ifCond .eq 7, 3) := by decide +kernel
theorem dX0_guessBetween_8 : decode cX0_guessBetween 8 = .ok (.iconst 0, 1) := by decide +kernel
theorem dX0_guessBetween_9 : decode cX0_guessBetween 9 = .ok (.goto 4, 3) := by decide +kernel
theorem dX0_guessBetween_12 : decode cX0_guessBetween 12 = .ok (.iconst 1, 1) := by decide +kernel
theorem dX0_guessBetween_13 : decode cX0_guessBetween 13 = .ok (.ireturn, 1) := by decide +kernel
theorem dX0_guessBetween_14 : decode cX0_guessBetween 14 = .ok (.iload_n 1, 1) := by decide +kernel
theorem dX0_guessBetween_15 : decode cX0_guessBetween 15 = .ok (.ifCond .eq 7, 3) := by decide +kernel
theorem dX0_guessBetween_18 : decode cX0_guessBetween 18 = .ok (.iconst 0, 1) := by decide +kernel
theorem dX0_guessBetween_19 : decode cX0_guessBetween 19 = .ok (.goto 4, 3) := by decide +kernel
theorem dX0_guessBetween_22 : decode cX0_guessBetween 22 = .ok (.iconst 2, 1) := by decide +kernel
theorem dX0_guessBetween_23 : decode cX0_guessBetween 23 = .ok (.ireturn, 1) := by decide +kernel
theorem dX5_setGuess_0 : decode cX5_setGuess 0 = .ok (.aload_n 0, 1) := by decide +kernel
theorem dX5_setGuess_1 : decode cX5_setGuess 1 = .ok (.getfield 33, 3) := by decide +kernel
theorem dX5_setGuess_4 : decode cX5_setGuess 4 = .ok (.iload_n 1, 1) := by decide +kernel
theorem dX5_setGuess_5 : decode cX5_setGuess 5 = .ok (.sipush 1024, 3) := by decide +kernel
theorem dX5_setGuess_8 : decode cX5_setGuess 8 = .ok (.imul, 1) := by decide +kernel
theorem dX5_setGuess_9 : decode cX5_setGuess 9 = .ok (.iload_n 2, 1) := by decide +kernel
theorem dX5_setGuess_10 : decode cX5_setGuess 10 = .ok (.iadd, 1) := by decide +kernel
theorem dX5_setGuess_11 : decode cX5_setGuess 11 = .ok (.iload_n 3, 1) := by decide +kernel
theorem dX5_setGuess_12 : decode cX5_setGuess 12 = .ok (.i2b, 1) := by decide +kernel
theorem dX5_setGuess_13 : decode cX5_setGuess 13 = .ok (.bastore, 1) := by decide +kernel
theorem dX5_setGuess_14 : decode cX5_setGuess 14 = .ok (.return_, 1) := by decide +kernel
theorem dX0_settle_0 : decode cX0_settle 0 = .ok (.aload_n 1, 1) := by decide +kernel
theorem dX0_settle_1 : decode cX0_settle 1 = .ok (.invokevirtual 53, 3) := by decide +kernel
theorem dX0_settle_4 : decode cX0_settle 4 = .ok (.iconst 0, 1) := by decide +kernel
theorem dX0_settle_5 : decode cX0_settle 5 = .ok (.istore_n 2, 1) := by decide +kernel
theorem dX0_settle_6 : decode cX0_settle 6 = .ok (.iload_n 2, 1) := by decide +kernel
theorem dX0_settle_7 : decode cX0_settle 7 = .ok (.aload_n 0, 1) := by decide +kernel
theorem dX0_settle_8 : decode cX0_settle 8 = .ok (.getfield 19, 3) := by decide +kernel
theorem dX0_settle_11 : decode cX0_settle 11 = .ok (.if_icmp .ge 73, 3) := by decide +kernel
theorem dX0_settle_14 : decode cX0_settle 14 = .ok (.iconst 0, 1) := by decide +kernel
theorem dX0_settle_15 : decode cX0_settle 15 = .ok (.istore_n 3, 1) := by decide +kernel
theorem dX0_settle_16 : decode cX0_settle 16 = .ok (.iload_n 3, 1) := by decide +kernel
theorem dX0_settle_17 : decode cX0_settle 17 = .ok (.aload_n 1, 1) := by decide +kernel
theorem dX0_settle_18 : decode cX0_settle 18 = .ok (.getfield 58, 3) := by decide +kernel
theorem dX0_settle_21 : decode cX0_settle 21 = .ok (.iload_n 2, 1) := by decide +kernel
theorem dX0_settle_22 : decode cX0_settle 22 = .ok (.iaload, 1) := by decide +kernel
theorem dX0_settle_23 : decode cX0_settle 23 = .ok (.if_icmp .ge 55, 3) := by decide +kernel
theorem dX0_settle_26 : decode cX0_settle 26 = .ok (.iload_n 3, 1) := by decide +kernel
theorem dX0_settle_27 : decode cX0_settle 27 = .ok (.iconst 1, 1) := by decide +kernel
theorem dX0_settle_28 : decode cX0_settle 28 = .ok (.iload_n 2, 1) := by decide +kernel
theorem dX0_settle_29 : decode cX0_settle 29 = .ok (.ishl, 1) := by decide +kernel
theorem dX0_settle_30 : decode cX0_settle 30 = .ok (.iconst 1, 1) := by decide +kernel
theorem dX0_settle_31 : decode cX0_settle 31 = .ok (.isub, 1) := by decide +kernel
theorem dX0_settle_32 : decode cX0_settle 32 = .ok (.iand, 1) := by decide +kernel
theorem dX0_settle_33 : decode cX0_settle 33 = .ok (.istore 4, 2) := by decide +kernel
theorem dX0_settle_35 : decode cX0_settle 35 = .ok (.iload_n 3, 1) := by decide +kernel
theorem dX0_settle_36 : decode cX0_settle 36 = .ok (.iload_n 2, 1) := by decide +kernel
theorem dX0_settle_37 : decode cX0_settle 37 = .ok (.ishr, 1) := by decide +kernel
theorem dX0_settle_38 : decode cX0_settle 38 = .ok (.iload_n 2, 1) := by decide +kernel
theorem dX0_settle_39 : decode cX0_settle 39 = .ok (.iconst 1, 1) := by decide +kernel
theorem dX0_settle_40 : decode cX0_settle 40 = .ok (.iadd, 1) := by decide +kernel
theorem dX0_settle_41 : decode cX0_settle 41 = .ok (.ishl, 1) := by decide +kernel
theorem dX0_settle_42 : decode cX0_settle 42 = .ok (.iload 4, 2) := by decide +kernel
theorem dX0_settle_44 : decode cX0_settle 44 = .ok (.ior, 1) := by decide +kernel
theorem dX0_settle_45 : decode cX0_settle 45 = .ok (.istore 5, 2) := by decide +kernel
theorem dX0_settle_47 : decode cX0_settle 47 = .ok (.aload_n 1, 1) := by decide +kernel
theorem dX0_settle_48 : decode cX0_settle 48 = .ok (.iload_n 2, 1) := by decide +kernel
theorem dX0_settle_49 : decode cX0_settle 49 = .ok (.iload_n 3, 1) := by decide +kernel
theorem dX0_settle_50 : decode cX0_settle 50 = .ok (.aload_n 0, 1) := by decide +kernel
theorem dX0_settle_51 : decode cX0_settle 51 = .ok (.iload 5, 2) := by decide +kernel
theorem dX0_settle_53 : decode cX0_settle 53 = .ok (.invokevirtual 61, 3) := by decide +kernel
theorem dX0_settle_56 : decode cX0_settle 56 = .ok (.aload_n 0, 1) := by decide +kernel
theorem dX0_settle_57 : decode cX0_settle 57 = .ok (.iload 5, 2) := by decide +kernel
theorem dX0_settle_59 : decode cX0_settle 59 = .ok (.iconst 1, 1) := by decide +kernel
theorem dX0_settle_60 : decode cX0_settle 60 = .ok (.iload_n 2, 1) := by decide +kernel
theorem dX0_settle_61 : decode cX0_settle 61 = .ok (.ishl, 1) := by decide +kernel
theorem dX0_settle_62 : decode cX0_settle 62 = .ok (.ior, 1) := by decide +kernel
theorem dX0_settle_63 : decode cX0_settle 63 = .ok (.invokevirtual 61, 3) := by decide +kernel
theorem dX0_settle_66 : decode cX0_settle 66 = .ok (.invokestatic 65, 3) := by decide +kernel
theorem dX0_settle_69 : decode cX0_settle 69 = .ok (.invokevirtual 69, 3) := by decide +kernel
theorem dX0_settle_72 : decode cX0_settle 72 = .ok (.iinc 3 1, 3) := by decide +kernel
theorem dX0_settle_75 : decode cX0_settle 75 = .ok (.goto (-59), 3) := by decide +kernel
theorem dX0_settle_78 : decode cX0_settle 78 = .ok (.iinc 2 1, 3) := by decide +kernel
theorem dX0_settle_81 : decode cX0_settle 81 = .ok (.goto (-75), 3) := by decide +kernel
theorem dX0_settle_84 : decode cX0_settle 84 = .ok (.return_, 1) := by decide +kernel
theorem dX1_join_0 : decode cX1_join 0 = .ok (.aload_n 0, 1) := by decide +kernel
theorem dX1_join_1 : decode cX1_join 1 = .ok (.getfield 25, 3) := by decide +kernel
theorem dX1_join_4 : decode cX1_join 4 = .ok (.aload_n 0, 1) := by decide +kernel
theorem dX1_join_5 : decode cX1_join 5 = .ok (.getfield 15, 3) := by decide +kernel
theorem dX1_join_8 : decode cX1_join 8 = .ok (.iload_n 1, 1) := by decide +kernel
theorem dX1_join_9 : decode cX1_join 9 = .ok (.iaload, 1) := by decide +kernel
theorem dX1_join_10 : decode cX1_join 10 = .ok (.iaload, 1) := by decide +kernel
theorem dX1_join_11 : decode cX1_join 11 = .ok (.istore_n 2, 1) := by decide +kernel
theorem dX1_join_12 : decode cX1_join 12 = .ok (.aload_n 0, 1) := by decide +kernel
theorem dX1_join_13 : decode cX1_join 13 = .ok (.getfield 25, 3) := by decide +kernel
theorem dX1_join_16 : decode cX1_join 16 = .ok (.aload_n 0, 1) := by decide +kernel
theorem dX1_join_17 : decode cX1_join 17 = .ok (.getfield 18, 3) := by decide +kernel
theorem dX1_join_20 : decode cX1_join 20 = .ok (.iload_n 1, 1) := by decide +kernel
theorem dX1_join_21 : decode cX1_join 21 = .ok (.iaload, 1) := by decide +kernel
theorem dX1_join_22 : decode cX1_join 22 = .ok (.iaload, 1) := by decide +kernel
theorem dX1_join_23 : decode cX1_join 23 = .ok (.istore_n 3, 1) := by decide +kernel
theorem dX1_join_24 : decode cX1_join 24 = .ok (.aload_n 0, 1) := by decide +kernel
theorem dX1_join_25 : decode cX1_join 25 = .ok (.getfield 9, 3) := by decide +kernel
theorem dX1_join_28 : decode cX1_join 28 = .ok (.iload_n 1, 1) := by decide +kernel
theorem dX1_join_29 : decode cX1_join 29 = .ok (.iaload, 1) := by decide +kernel
theorem dX1_join_30 : decode cX1_join 30 = .ok (.lookupswitch 144 #[(42, 82), (43, 74), (45, 78), (47, 86), (60, 98), (61, 109), (151, 120), (152, 130)], 74) := by decide +kernel
theorem dX1_join_104 : decode cX1_join 104 = .ok (.iload_n 2, 1) := by decide +kernel
theorem dX1_join_105 : decode cX1_join 105 = .ok (.iload_n 3, 1) := by decide +kernel
theorem dX1_join_106 : decode cX1_join 106 = .ok (.iadd, 1) := by decide +kernel
theorem dX1_join_107 : decode cX1_join 107 = .ok (.ireturn, 1) := by decide +kernel
theorem dX1_join_108 : decode cX1_join 108 = .ok (.iload_n 2, 1) := by decide +kernel
theorem dX1_join_109 : decode cX1_join 109 = .ok (.iload_n 3, 1) := by decide +kernel
theorem dX1_join_110 : decode cX1_join 110 = .ok (.isub, 1) := by decide +kernel
theorem dX1_join_111 : decode cX1_join 111 = .ok (.ireturn, 1) := by decide +kernel
theorem dX1_join_112 : decode cX1_join 112 = .ok (.iload_n 2, 1) := by decide +kernel
theorem dX1_join_113 : decode cX1_join 113 = .ok (.iload_n 3, 1) := by decide +kernel
theorem dX1_join_114 : decode cX1_join 114 = .ok (.imul, 1) := by decide +kernel
theorem dX1_join_115 : decode cX1_join 115 = .ok (.ireturn, 1) := by decide +kernel
theorem dX1_join_116 : decode cX1_join 116 = .ok (.iload_n 3, 1) := by decide +kernel
theorem dX1_join_117 : decode cX1_join 117 = .ok (.ifCond .ne 7, 3) := by decide +kernel
theorem dX1_join_120 : decode cX1_join 120 = .ok (.iconst 0, 1) := by decide +kernel
theorem dX1_join_121 : decode cX1_join 121 = .ok (.goto 6, 3) := by decide +kernel
theorem dX1_join_124 : decode cX1_join 124 = .ok (.iload_n 2, 1) := by decide +kernel
theorem dX1_join_125 : decode cX1_join 125 = .ok (.iload_n 3, 1) := by decide +kernel
theorem dX1_join_126 : decode cX1_join 126 = .ok (.idiv, 1) := by decide +kernel
theorem dX1_join_127 : decode cX1_join 127 = .ok (.ireturn, 1) := by decide +kernel
theorem dX1_join_128 : decode cX1_join 128 = .ok (.iload_n 2, 1) := by decide +kernel
theorem dX1_join_129 : decode cX1_join 129 = .ok (.iload_n 3, 1) := by decide +kernel
theorem dX1_join_130 : decode cX1_join 130 = .ok (.if_icmp .ge 7, 3) := by decide +kernel
theorem dX1_join_133 : decode cX1_join 133 = .ok (.iconst 1, 1) := by decide +kernel
theorem dX1_join_134 : decode cX1_join 134 = .ok (.goto 4, 3) := by decide +kernel
theorem dX1_join_137 : decode cX1_join 137 = .ok (.iconst 0, 1) := by decide +kernel
theorem dX1_join_138 : decode cX1_join 138 = .ok (.ireturn, 1) := by decide +kernel
theorem dX1_join_139 : decode cX1_join 139 = .ok (.iload_n 2, 1) := by decide +kernel
theorem dX1_join_140 : decode cX1_join 140 = .ok (.iload_n 3, 1) := by decide +kernel
theorem dX1_join_141 : decode cX1_join 141 = .ok (.if_icmp .ne 7, 3) := by decide +kernel
theorem dX1_join_144 : decode cX1_join 144 = .ok (.iconst 1, 1) := by decide +kernel
theorem dX1_join_145 : decode cX1_join 145 = .ok (.goto 4, 3) := by decide +kernel
theorem dX1_join_148 : decode cX1_join 148 = .ok (.iconst 0, 1) := by decide +kernel
theorem dX1_join_149 : decode cX1_join 149 = .ok (.ireturn, 1) := by decide +kernel
theorem dX1_join_150 : decode cX1_join 150 = .ok (.iload_n 2, 1) := by decide +kernel
theorem dX1_join_151 : decode cX1_join 151 = .ok (.ifCond .ne 7, 3) := by decide +kernel
theorem dX1_join_154 : decode cX1_join 154 = .ok (.iconst 1, 1) := by decide +kernel
theorem dX1_join_155 : decode cX1_join 155 = .ok (.goto 4, 3) := by decide +kernel
theorem dX1_join_158 : decode cX1_join 158 = .ok (.iconst 0, 1) := by decide +kernel
theorem dX1_join_159 : decode cX1_join 159 = .ok (.ireturn, 1) := by decide +kernel
theorem dX1_join_160 : decode cX1_join 160 = .ok (.iload_n 2, 1) := by decide +kernel
theorem dX1_join_161 : decode cX1_join 161 = .ok (.ifCond .eq 11, 3) := by decide +kernel
theorem dX1_join_164 : decode cX1_join 164 = .ok (.iload_n 3, 1) := by decide +kernel
theorem dX1_join_165 : decode cX1_join 165 = .ok (.ifCond .eq 7, 3) := by decide +kernel
theorem dX1_join_168 : decode cX1_join 168 = .ok (.iconst 1, 1) := by decide +kernel
theorem dX1_join_169 : decode cX1_join 169 = .ok (.goto 4, 3) := by decide +kernel
theorem dX1_join_172 : decode cX1_join 172 = .ok (.iconst 0, 1) := by decide +kernel
theorem dX1_join_173 : decode cX1_join 173 = .ok (.ireturn, 1) := by decide +kernel
theorem dX1_join_174 : decode cX1_join 174 = .ok (.iload_n 2, 1) := by decide +kernel
theorem dX1_join_175 : decode cX1_join 175 = .ok (.ifCond .ne 7, 3) := by decide +kernel
theorem dX1_join_178 : decode cX1_join 178 = .ok (.iload_n 3, 1) := by decide +kernel
theorem dX1_join_179 : decode cX1_join 179 = .ok (.ifCond .eq 7, 3) := by decide +kernel
theorem dX1_join_182 : decode cX1_join 182 = .ok (.iconst 1, 1) := by decide +kernel
theorem dX1_join_183 : decode cX1_join 183 = .ok (.goto 4, 3) := by decide +kernel
theorem dX1_join_186 : decode cX1_join 186 = .ok (.iconst 0, 1) := by decide +kernel
theorem dX1_join_187 : decode cX1_join 187 = .ok (.ireturn, 1) := by decide +kernel
theorem dX1_sumOf_0 : decode cX1_sumOf 0 = .ok (.iconst 0, 1) := by decide +kernel
theorem dX1_sumOf_1 : decode cX1_sumOf 1 = .ok (.istore_n 2, 1) := by decide +kernel
theorem dX1_sumOf_2 : decode cX1_sumOf 2 = .ok (.iconst 0, 1) := by decide +kernel
theorem dX1_sumOf_3 : decode cX1_sumOf 3 = .ok (.istore_n 3, 1) := by decide +kernel
theorem dX1_sumOf_4 : decode cX1_sumOf 4 = .ok (.iload_n 3, 1) := by decide +kernel
theorem dX1_sumOf_5 : decode cX1_sumOf 5 = .ok (.bipush 8, 2) := by decide +kernel
theorem dX1_sumOf_7 : decode cX1_sumOf 7 = .ok (.if_icmp .ge 24, 3) := by decide +kernel
theorem dX1_sumOf_10 : decode cX1_sumOf 10 = .ok (.iload_n 1, 1) := by decide +kernel
theorem dX1_sumOf_11 : decode cX1_sumOf 11 = .ok (.iload_n 3, 1) := by decide +kernel
theorem dX1_sumOf_12 : decode cX1_sumOf 12 = .ok (.ishr, 1) := by decide +kernel
theorem dX1_sumOf_13 : decode cX1_sumOf 13 = .ok (.iconst 1, 1) := by decide +kernel
theorem dX1_sumOf_14 : decode cX1_sumOf 14 = .ok (.iand, 1) := by decide +kernel
theorem dX1_sumOf_15 : decode cX1_sumOf 15 = .ok (.iconst 1, 1) := by decide +kernel
theorem dX1_sumOf_16 : decode cX1_sumOf 16 = .ok (.if_icmp .ne 9, 3) := by decide +kernel
theorem dX1_sumOf_19 : decode cX1_sumOf 19 = .ok (.iload_n 2, 1) := by decide +kernel
theorem dX1_sumOf_20 : decode cX1_sumOf 20 = .ok (.aload_n 0, 1) := by decide +kernel
theorem dX1_sumOf_21 : decode cX1_sumOf 21 = .ok (.iload_n 3, 1) := by decide +kernel
theorem dX1_sumOf_22 : decode cX1_sumOf 22 = .ok (.iaload, 1) := by decide +kernel
theorem dX1_sumOf_23 : decode cX1_sumOf 23 = .ok (.iadd, 1) := by decide +kernel
theorem dX1_sumOf_24 : decode cX1_sumOf 24 = .ok (.istore_n 2, 1) := by decide +kernel
theorem dX1_sumOf_25 : decode cX1_sumOf 25 = .ok (.iinc 3 1, 3) := by decide +kernel
theorem dX1_sumOf_28 : decode cX1_sumOf 28 = .ok (.goto (-24), 3) := by decide +kernel
theorem dX1_sumOf_31 : decode cX1_sumOf 31 = .ok (.iload_n 2, 1) := by decide +kernel
theorem dX1_sumOf_32 : decode cX1_sumOf 32 = .ok (.ireturn, 1) := by decide +kernel
theorem dX1_look_0 : decode cX1_look 0 = .ok (.aload_n 0, 1) := by decide +kernel
theorem dX1_look_1 : decode cX1_look 1 = .ok (.getfield 15, 3) := by decide +kernel
theorem dX1_look_4 : decode cX1_look 4 = .ok (.iload_n 1, 1) := by decide +kernel
theorem dX1_look_5 : decode cX1_look 5 = .ok (.iaload, 1) := by decide +kernel
theorem dX1_look_6 : decode cX1_look 6 = .ok (.istore 5, 2) := by decide +kernel
theorem dX1_look_8 : decode cX1_look 8 = .ok (.aload_n 0, 1) := by decide +kernel
theorem dX1_look_9 : decode cX1_look 9 = .ok (.getfield 9, 3) := by decide +kernel
theorem dX1_look_12 : decode cX1_look 12 = .ok (.iload_n 1, 1) := by decide +kernel
theorem dX1_look_13 : decode cX1_look 13 = .ok (.iaload, 1) := by decide +kernel
theorem dX1_look_14 : decode cX1_look 14 = .ok (.tableswitch 160 131 149 #[90, 160, 160, 160, 160, 160, 160, 160, 160, 160, 160, 160, 160, 93, 95, 100, 105, 125, 145], 90) := by decide +kernel
theorem dX1_look_104 : decode cX1_look 104 = .ok (.iload 5, 2) := by decide +kernel
theorem dX1_look_106 : decode cX1_look 106 = .ok (.ireturn, 1) := by decide +kernel
theorem dX1_look_107 : decode cX1_look 107 = .ok (.iload_n 3, 1) := by decide +kernel
theorem dX1_look_108 : decode cX1_look 108 = .ok (.ireturn, 1) := by decide +kernel
theorem dX1_look_109 : decode cX1_look 109 = .ok (.aload_n 2, 1) := by decide +kernel
theorem dX1_look_110 : decode cX1_look 110 = .ok (.getfield 52, 3) := by decide +kernel
theorem dX1_look_113 : decode cX1_look 113 = .ok (.ireturn, 1) := by decide +kernel
theorem dX1_look_114 : decode cX1_look 114 = .ok (.aload_n 2, 1) := by decide +kernel
theorem dX1_look_115 : decode cX1_look 115 = .ok (.getfield 41, 3) := by decide +kernel
theorem dX1_look_118 : decode cX1_look 118 = .ok (.ireturn, 1) := by decide +kernel
theorem dX1_look_119 : decode cX1_look 119 = .ok (.aload 4, 2) := by decide +kernel
theorem dX1_look_121 : decode cX1_look 121 = .ok (.getfield 55, 3) := by decide +kernel
theorem dX1_look_124 : decode cX1_look 124 = .ok (.aload_n 2, 1) := by decide +kernel
theorem dX1_look_125 : decode cX1_look 125 = .ok (.getfield 60, 3) := by decide +kernel
theorem dX1_look_128 : decode cX1_look 128 = .ok (.iload_n 3, 1) := by decide +kernel
theorem dX1_look_129 : decode cX1_look 129 = .ok (.iaload, 1) := by decide +kernel
theorem dX1_look_130 : decode cX1_look 130 = .ok (.iconst 1, 1) := by decide +kernel
theorem dX1_look_131 : decode cX1_look 131 = .ok (.iload 5, 2) := by decide +kernel
theorem dX1_look_133 : decode cX1_look 133 = .ok (.ishl, 1) := by decide +kernel
theorem dX1_look_134 : decode cX1_look 134 = .ok (.iand, 1) := by decide +kernel
theorem dX1_look_135 : decode cX1_look 135 = .ok (.invokestatic 63, 3) := by decide +kernel
theorem dX1_look_138 : decode cX1_look 138 = .ok (.ireturn, 1) := by decide +kernel
theorem dX1_look_139 : decode cX1_look 139 = .ok (.aload 4, 2) := by decide +kernel
theorem dX1_look_141 : decode cX1_look 141 = .ok (.getfield 67, 3) := by decide +kernel
theorem dX1_look_144 : decode cX1_look 144 = .ok (.aload_n 2, 1) := by decide +kernel
theorem dX1_look_145 : decode cX1_look 145 = .ok (.getfield 70, 3) := by decide +kernel
theorem dX1_look_148 : decode cX1_look 148 = .ok (.iload_n 3, 1) := by decide +kernel
theorem dX1_look_149 : decode cX1_look 149 = .ok (.iaload, 1) := by decide +kernel
theorem dX1_look_150 : decode cX1_look 150 = .ok (.iconst 1, 1) := by decide +kernel
theorem dX1_look_151 : decode cX1_look 151 = .ok (.iload 5, 2) := by decide +kernel
theorem dX1_look_153 : decode cX1_look 153 = .ok (.ishl, 1) := by decide +kernel
theorem dX1_look_154 : decode cX1_look 154 = .ok (.iand, 1) := by decide +kernel
theorem dX1_look_155 : decode cX1_look 155 = .ok (.invokestatic 63, 3) := by decide +kernel
theorem dX1_look_158 : decode cX1_look 158 = .ok (.ireturn, 1) := by decide +kernel
theorem dX1_look_159 : decode cX1_look 159 = .ok (.aload 4, 2) := by decide +kernel
theorem dX1_look_161 : decode cX1_look 161 = .ok (.getfield 55, 3) := by decide +kernel
theorem dX1_look_164 : decode cX1_look 164 = .ok (.aload_n 2, 1) := by decide +kernel
theorem dX1_look_165 : decode cX1_look 165 = .ok (.getfield 60, 3) := by decide +kernel
theorem dX1_look_168 : decode cX1_look 168 = .ok (.iload_n 3, 1) := by decide +kernel
theorem dX1_look_169 : decode cX1_look 169 = .ok (.iaload, 1) := by decide +kernel
theorem dX1_look_170 : decode cX1_look 170 = .ok (.invokestatic 63, 3) := by decide +kernel
theorem dX1_look_173 : decode cX1_look 173 = .ok (.ireturn, 1) := by decide +kernel
theorem dX1_look_174 : decode cX1_look 174 = .ok (.aload 4, 2) := by decide +kernel
theorem dX1_look_176 : decode cX1_look 176 = .ok (.getfield 67, 3) := by decide +kernel
theorem dX1_look_179 : decode cX1_look 179 = .ok (.aload_n 2, 1) := by decide +kernel
theorem dX1_look_180 : decode cX1_look 180 = .ok (.getfield 70, 3) := by decide +kernel
theorem dX1_look_183 : decode cX1_look 183 = .ok (.iload_n 3, 1) := by decide +kernel
theorem dX1_look_184 : decode cX1_look 184 = .ok (.iaload, 1) := by decide +kernel
theorem dX1_look_185 : decode cX1_look 185 = .ok (.invokestatic 63, 3) := by decide +kernel
theorem dX1_look_188 : decode cX1_look 188 = .ok (.ireturn, 1) := by decide +kernel
theorem dJ9_floorMod_7cf53_0 : decode cJ9_floorMod_7cf53 0 = .ok (.iload_n 0, 1) := by decide +kernel
theorem dJ9_floorMod_7cf53_1 : decode cJ9_floorMod_7cf53 1 = .ok (.iload_n 1, 1) := by decide +kernel
theorem dJ9_floorMod_7cf53_2 : decode cJ9_floorMod_7cf53 2 = .ok (.irem, 1) := by decide +kernel
theorem dJ9_floorMod_7cf53_3 : decode cJ9_floorMod_7cf53 3 = .ok (.istore_n 2, 1) := by decide +kernel
theorem dJ9_floorMod_7cf53_4 : decode cJ9_floorMod_7cf53 4 = .ok (.iload_n 0, 1) := by decide +kernel
theorem dJ9_floorMod_7cf53_5 : decode cJ9_floorMod_7cf53 5 = .ok (.iload_n 1, 1) := by decide +kernel
theorem dJ9_floorMod_7cf53_6 : decode cJ9_floorMod_7cf53 6 = .ok (.ixor, 1) := by decide +kernel
theorem dJ9_floorMod_7cf53_7 : decode cJ9_floorMod_7cf53 7 = .ok (.ifCond .ge 11, 3) := by decide +kernel
theorem dJ9_floorMod_7cf53_10 : decode cJ9_floorMod_7cf53 10 = .ok (.iload_n 2, 1) := by decide +kernel
theorem dJ9_floorMod_7cf53_11 : decode cJ9_floorMod_7cf53 11 = .ok (.ifCond .eq 7, 3) := by decide +kernel
theorem dJ9_floorMod_7cf53_14 : decode cJ9_floorMod_7cf53 14 = .ok (.iload_n 2, 1) := by decide +kernel
theorem dJ9_floorMod_7cf53_15 : decode cJ9_floorMod_7cf53 15 = .ok (.iload_n 1, 1) := by decide +kernel
theorem dJ9_floorMod_7cf53_16 : decode cJ9_floorMod_7cf53 16 = .ok (.iadd, 1) := by decide +kernel
theorem dJ9_floorMod_7cf53_17 : decode cJ9_floorMod_7cf53 17 = .ok (.ireturn, 1) := by decide +kernel
theorem dJ9_floorMod_7cf53_18 : decode cJ9_floorMod_7cf53 18 = .ok (.iload_n 2, 1) := by decide +kernel
theorem dJ9_floorMod_7cf53_19 : decode cJ9_floorMod_7cf53 19 = .ok (.ireturn, 1) := by decide +kernel
theorem dX1_guess_0 : decode cX1_guess 0 = .ok (.iconst 0, 1) := by decide +kernel
theorem dX1_guess_1 : decode cX1_guess 1 = .ok (.istore 4, 2) := by decide +kernel
theorem dX1_guess_3 : decode cX1_guess 3 = .ok (.iconst 0, 1) := by decide +kernel
theorem dX1_guess_4 : decode cX1_guess 4 = .ok (.istore 5, 2) := by decide +kernel
theorem dX1_guess_6 : decode cX1_guess 6 = .ok (.iload 5, 2) := by decide +kernel
theorem dX1_guess_8 : decode cX1_guess 8 = .ok (.aload_n 0, 1) := by decide +kernel
theorem dX1_guess_9 : decode cX1_guess 9 = .ok (.getfield 9, 3) := by decide +kernel
theorem dX1_guess_12 : decode cX1_guess 12 = .ok (.arraylength, 1) := by decide +kernel
theorem dX1_guess_13 : decode cX1_guess 13 = .ok (.if_icmp .ge 97, 3) := by decide +kernel
theorem dX1_guess_16 : decode cX1_guess 16 = .ok (.aload_n 0, 1) := by decide +kernel
theorem dX1_guess_17 : decode cX1_guess 17 = .ok (.getfield 9, 3) := by decide +kernel
theorem dX1_guess_20 : decode cX1_guess 20 = .ok (.iload 5, 2) := by decide +kernel
theorem dX1_guess_22 : decode cX1_guess 22 = .ok (.iaload, 1) := by decide +kernel
theorem dX1_guess_23 : decode cX1_guess 23 = .ok (.sipush 128, 3) := by decide +kernel
theorem dX1_guess_26 : decode cX1_guess 26 = .ok (.if_icmp .lt 16, 3) := by decide +kernel
theorem dX1_guess_29 : decode cX1_guess 29 = .ok (.aload_n 0, 1) := by decide +kernel
theorem dX1_guess_30 : decode cX1_guess 30 = .ok (.getfield 9, 3) := by decide +kernel
theorem dX1_guess_33 : decode cX1_guess 33 = .ok (.iload 5, 2) := by decide +kernel
theorem dX1_guess_35 : decode cX1_guess 35 = .ok (.iaload, 1) := by decide +kernel
theorem dX1_guess_36 : decode cX1_guess 36 = .ok (.sipush 151, 3) := by decide +kernel
theorem dX1_guess_39 : decode cX1_guess 39 = .ok (.if_icmp .lt 7, 3) := by decide +kernel
theorem dX1_guess_42 : decode cX1_guess 42 = .ok (.iconst 1, 1) := by decide +kernel
theorem dX1_guess_43 : decode cX1_guess 43 = .ok (.goto 4, 3) := by decide +kernel
theorem dX1_guess_46 : decode cX1_guess 46 = .ok (.iconst 0, 1) := by decide +kernel
theorem dX1_guess_47 : decode cX1_guess 47 = .ok (.istore 6, 2) := by decide +kernel
theorem dX1_guess_49 : decode cX1_guess 49 = .ok (.iload 6, 2) := by decide +kernel
theorem dX1_guess_51 : decode cX1_guess 51 = .ok (.ifCond .eq 12, 3) := by decide +kernel
theorem dX1_guess_54 : decode cX1_guess 54 = .ok (.aload_n 0, 1) := by decide +kernel
theorem dX1_guess_55 : decode cX1_guess 55 = .ok (.iload 5, 2) := by decide +kernel
theorem dX1_guess_57 : decode cX1_guess 57 = .ok (.invokevirtual 33, 3) := by decide +kernel
theorem dX1_guess_60 : decode cX1_guess 60 = .ok (.goto 12, 3) := by decide +kernel
theorem dX1_guess_63 : decode cX1_guess 63 = .ok (.aload_n 0, 1) := by decide +kernel
theorem dX1_guess_64 : decode cX1_guess 64 = .ok (.iload 5, 2) := by decide +kernel
theorem dX1_guess_66 : decode cX1_guess 66 = .ok (.aload_n 1, 1) := by decide +kernel
theorem dX1_guess_67 : decode cX1_guess 67 = .ok (.iload_n 2, 1) := by decide +kernel
theorem dX1_guess_68 : decode cX1_guess 68 = .ok (.aload_n 3, 1) := by decide +kernel
theorem dX1_guess_69 : decode cX1_guess 69 = .ok (.invokevirtual 37, 3) := by decide +kernel
theorem dX1_guess_72 : decode cX1_guess 72 = .ok (.istore 4, 2) := by decide +kernel
theorem dX1_guess_74 : decode cX1_guess 74 = .ok (.aload_n 0, 1) := by decide +kernel
theorem dX1_guess_75 : decode cX1_guess 75 = .ok (.getfield 25, 3) := by decide +kernel
theorem dX1_guess_78 : decode cX1_guess 78 = .ok (.iload 5, 2) := by decide +kernel
theorem dX1_guess_80 : decode cX1_guess 80 = .ok (.iload 4, 2) := by decide +kernel
theorem dX1_guess_82 : decode cX1_guess 82 = .ok (.iastore, 1) := by decide +kernel
theorem dX1_guess_83 : decode cX1_guess 83 = .ok (.iload 5, 2) := by decide +kernel
theorem dX1_guess_85 : decode cX1_guess 85 = .ok (.aload_n 0, 1) := by decide +kernel
theorem dX1_guess_86 : decode cX1_guess 86 = .ok (.getfield 21, 3) := by decide +kernel
theorem dX1_guess_89 : decode cX1_guess 89 = .ok (.iconst 1, 1) := by decide +kernel
theorem dX1_guess_90 : decode cX1_guess 90 = .ok (.isub, 1) := by decide +kernel
theorem dX1_guess_91 : decode cX1_guess 91 = .ok (.if_icmp .ne 13, 3) := by decide +kernel
theorem dX1_guess_94 : decode cX1_guess 94 = .ok (.iload 4, 2) := by decide +kernel
theorem dX1_guess_96 : decode cX1_guess 96 = .ok (.ifCond .eq 8, 3) := by decide +kernel
theorem dX1_guess_99 : decode cX1_guess 99 = .ok (.aload_n 1, 1) := by decide +kernel
theorem dX1_guess_100 : decode cX1_guess 100 = .ok (.getfield 41, 3) := by decide +kernel
theorem dX1_guess_103 : decode cX1_guess 103 = .ok (.ireturn, 1) := by decide +kernel
theorem dX1_guess_104 : decode cX1_guess 104 = .ok (.iinc 5 1, 3) := by decide +kernel
theorem dX1_guess_107 : decode cX1_guess 107 = .ok (.goto (-101), 3) := by decide +kernel
theorem dX1_guess_110 : decode cX1_guess 110 = .ok (.iload 4, 2) := by decide +kernel
theorem dX1_guess_112 : decode cX1_guess 112 = .ok (.aload_n 1, 1) := by decide +kernel
theorem dX1_guess_113 : decode cX1_guess 113 = .ok (.getfield 41, 3) := by decide +kernel
theorem dX1_guess_116 : decode cX1_guess 116 = .ok (.invokestatic 46, 3) := by decide +kernel
theorem dX1_guess_119 : decode cX1_guess 119 = .ok (.ireturn, 1) := by decide +kernel
section
variable {p : Program} {l : Launch} {e : Env} {R : Room} {s : State} {m : MethodId} {args : Array Value} {below : List Frame} {meth : Method} {c : Code} {D : va_G} {cA : Nat → ClassId} {z : Nat} {A : Nat → Prop} {J : HJ} {Ev : HE}
theorem cJd_max {l : Launch} {D : va_G} {cA : Nat → ClassId} {z sz : Nat} {I : HI} {T : HR} {F : HR} {L : HL} {x0 : Int32} {x1 : Int32} {Q : Int32 → Prop} (hcl : hCl Ev) (h : Jd_max  x0 x1 Q) : Met l yJ9_max_7cf53 (hws0 yJ9_max_7cf53 cJ9_max_7cf53 2 (some .int)) { frames := 0, cells := 0, slots := 0, locals := 0 } (hPc D cA z Ev (I, J, T, F, L) sz [.int x0, .int x1]) (va_Qi (p0 (I, J, T, F, L) Q) (hB D cA z (hA z L sz)) (hA z L sz)) 0 0 (hA z L sz) := by
  refine hm_metF (I, J, T, F, L) [.int x0, .int x1] rfl (by decide +kernel) (Nat.le_of_ble_eq_true rfl) ?_
  intro p e s m below meth c ls X hr hlk hnm hxt hsz hw hl
  have hl : lv_has ls 2 [(0, .int x0), (1, .int x1)] := hl
  have hR : 0 ≤ ({ frames := 0, cells := 0, slots := 0, locals := 0 } : Room).frames ∧ 0 ≤ ({ frames := 0, cells := 0, slots := 0, locals := 0 } : Room).locals := ⟨Nat.le_refl _, Nat.le_refl _⟩
  generalize ({ frames := 0, cells := 0, slots := 0, locals := 0 } : Room) = R at hR ⊢
  clear hsz
  generalize (hA z L sz) = A at hw ⊢
  have hx := X.1
  have hb := X.2.1
  unfold Jd_max at h
  refine lv_iload_n hx hb dJ9_max_7cf53_0 rfl (lv_at hl 0 rfl) ?_
  refine lv_iload_n hx hb dJ9_max_7cf53_1 rfl (lv_at hl 1 rfl) ?_
  refine lv_icmp_lt (tgt := 9) hx hb dJ9_max_7cf53_2 (by decide) (fun hc => ?_) (fun hc => ?_)
  · have h := Eq.mp (if_pos hc) h
    refine lv_iload_n hx hb dJ9_max_7cf53_9 rfl (lv_at hl 1 rfl) ?_
    exact hm_iret X hr hlk hw ⟨rfl, h⟩ dJ9_max_7cf53_10
  · have h := Eq.mp (if_neg hc) h
    refine lv_iload_n hx hb dJ9_max_7cf53_5 rfl (lv_at hl 0 rfl) ?_
    refine lv_goto (tgt := 10) hx hb dJ9_max_7cf53_6 (by decide) ?_
    exact hm_iret X hr hlk hw ⟨rfl, h⟩ dJ9_max_7cf53_10

theorem wkCov_noteNear_l30 {T : HR} {F : HR} {L : HL} {x1 : Int32} {K2 : HI → Int32 → Prop} {Q : HI → Prop} (X : hX p m c s args RX0 cX0_noteNear 4) (hr : meth.sig.returnType = none) (hlk : meth.locks = false) (hR : 1 ≤ R.frames ∧ 21 ≤ R.locals) (hcl : hCl Ev) (hG : Geo F L) (hK2 : ∀ (I : HI) (x1 : Int32) {ls : Array Slot} {H : Heap} {locs : List Loc}, K2 I x1 → hW D cA z Ev (I, J, T, F, L) A s H locs → lv_has ls 4 [(0, .ref (z + 44)), (1, .int x1)] → W p l e R s m args below meth c H locs 0 0 (MQ below (va_Qv (pIv J T F L Q) (hB D cA z A) A) args s 0 0 A) (F0 m 2 ls [])) : ∀ (n : Nat) (I : HI) (x2 : Int32) {ls : Array Slot} {H : Heap} {locs : List Loc}, Cov_noteNear_l30 x1 K2 Q n I x2 → hW D cA z Ev (I, J, T, F, L) A s H locs → lv_has ls 4 [(0, .ref (z + 44)), (1, .int x1), (2, .int x2)] → W p l e R s m args below meth c H locs 0 0 (MQ below (va_Qv (pIv J T F L Q) (hB D cA z A) A) args s 0 0 A) (F0 m 30 ls []) := by
  have hx := X.1
  have hb := X.2.1
  intro n
  induction n with
  | zero => intro I x2 ls H locs h; exact False.elim h
  | succ n ih =>
    intro I x2 ls H locs h hw hl
    rw [Cov_noteNear_l30] at h
    refine lv_iload_n hx hb dX0_noteNear_30 rfl (lv_at hl 2 rfl) ?_
    refine lv_aload_n hx hb dX0_noteNear_31 rfl (lv_at hl 0 rfl) ?_
    refine hm_geti X hw lk_0_19 (gl_44 hG) dX0_noteNear_32 ?_
    refine lv_icmp_ge (tgt := 78) hx hb dX0_noteNear_35 (by decide) (fun hc => ?_) (fun hc => ?_)
    · have h := Eq.mp (if_pos hc) h
      refine lv_iinc (v := x1 + 1) (lv' := [(1, _), (0, _), (2, _)]) hx hb dX0_noteNear_78 hl (k := 1) rfl rfl (by decide) rfl (fun ls hl => ?_)
      refine lv_goto (tgt := 2) hx hb dX0_noteNear_81 (by decide) ?_
      exact hK2 _ _ h hw (lv_sub hl [1, 0] rfl)
    · have h := Eq.mp (if_neg hc) h
      refine lv_iload_n hx hb dX0_noteNear_38 rfl (lv_at hl 1 rfl) ?_
      refine lv_iconst (v := 1) hx hb dX0_noteNear_39 (by decide) ?_
      refine lv_iload_n hx hb dX0_noteNear_40 rfl (lv_at hl 2 rfl) ?_
      refine lv_ishl hx hb dX0_noteNear_41 ?_
      refine lv_ixor hx hb dX0_noteNear_42 ?_
      refine lv_istore_n (lv' := [(3, _), (0, _), (1, _), (2, _)]) hx hb dX0_noteNear_43 rfl hl (by decide) rfl (fun ls hl => ?_)
      refine lv_aload_n hx hb dX0_noteNear_44 rfl (lv_at hl 1 rfl) ?_
      refine hm_getr X hw lk_0_22 (gl_44 hG) (gf_44_3 hG) dX0_noteNear_45 ?_
      refine lv_iload_n hx hb dX0_noteNear_48 rfl (lv_at hl 2 rfl) ?_
      refine lv_dup2_11 hx hb dX0_noteNear_49 rfl rfl ?_
      obtain ⟨hi, h⟩ := h
      refine hm_iald X hw (gl_46 hG) hi dX0_noteNear_50 ?_
      refine lv_iconst (v := 1) hx hb dX0_noteNear_51 (by decide) ?_
      refine lv_iload_n hx hb dX0_noteNear_52 rfl (lv_at hl 0 rfl) ?_
      refine lv_ishl hx hb dX0_noteNear_53 ?_
      refine lv_ior hx hb dX0_noteNear_54 ?_
      obtain ⟨hi, h⟩ := h
      refine hm_iast X hw (gl_46 hG) hi dX0_noteNear_55 (fun H locs hw => ?_)
      refine lv_aload_n hx hb dX0_noteNear_56 rfl (lv_at hl 1 rfl) ?_
      refine hm_getr X hw lk_0_25 (gl_44 hG) (gf_44_4 hG) dX0_noteNear_57 ?_
      refine lv_iload_n hx hb dX0_noteNear_60 rfl (lv_at hl 2 rfl) ?_
      refine lv_aload_n hx hb dX0_noteNear_61 rfl (lv_at hl 1 rfl) ?_
      refine hm_getr X hw lk_0_25 (gl_44 hG) (gf_44_4 hG) dX0_noteNear_62 ?_
      refine lv_iload_n hx hb dX0_noteNear_65 rfl (lv_at hl 2 rfl) ?_
      obtain ⟨hi, h⟩ := h
      refine hm_iald X hw (gl_47 hG) hi dX0_noteNear_66 ?_
      refine lv_iload_n hx hb dX0_noteNear_67 rfl (lv_at hl 0 rfl) ?_
      refine hm_calli hw (hm_runS (rest := [_, _]) hcl X hw (cJd_max hcl h) yk_J9_max_7cf53 kw675 rfl hl.1 rfl rfl rfl (Nat.le_of_ble_eq_true rfl) ⟨Nat.le_trans (Nat.le_of_ble_eq_true rfl) hR.1, Nat.le_trans (Nat.le_of_ble_eq_true rfl) hR.2⟩ ⟨Nat.zero_le _, Nat.zero_le _⟩ dX0_noteNear_68) (fun a1 u2 H locs hp hw => ?_)
      obtain ⟨rfl, h⟩ := hp
      obtain ⟨hi, h⟩ := h
      refine hm_iast X hw (gl_47 hG) hi dX0_noteNear_71 (fun H locs hw => ?_)
      refine lv_iinc (v := x2 + 1) (lv' := [(2, _), (3, _), (0, _), (1, _)]) hx hb dX0_noteNear_72 hl (k := 3) rfl rfl (by decide) rfl (fun ls hl => ?_)
      refine lv_goto (tgt := 30) hx hb dX0_noteNear_75 (by decide) ?_
      exact ih _ _ h hw (lv_sub hl [2, 3, 0] rfl)

theorem wkCov_noteNear_l2 {T : HR} {F : HR} {L : HL} {Q : HI → Prop} (X : hX p m c s args RX0 cX0_noteNear 4) (hr : meth.sig.returnType = none) (hlk : meth.locks = false) (hR : 1 ≤ R.frames ∧ 21 ≤ R.locals) (hcl : hCl Ev) (hG : Geo F L)  : ∀ (n : Nat) (I : HI) (x1 : Int32) {ls : Array Slot} {H : Heap} {locs : List Loc}, Cov_noteNear_l2 Q n I x1 → hW D cA z Ev (I, J, T, F, L) A s H locs → lv_has ls 4 [(0, .ref (z + 44)), (1, .int x1)] → W p l e R s m args below meth c H locs 0 0 (MQ below (va_Qv (pIv J T F L Q) (hB D cA z A) A) args s 0 0 A) (F0 m 2 ls []) := by
  have hx := X.1
  have hb := X.2.1
  intro n
  induction n with
  | zero => intro I x1 ls H locs h; exact False.elim h
  | succ n ih =>
    intro I x1 ls H locs h hw hl
    rw [Cov_noteNear_l2] at h
    refine lv_iload_n hx hb dX0_noteNear_2 rfl (lv_at hl 1 rfl) ?_
    refine lv_iconst (v := 1) hx hb dX0_noteNear_3 (by decide) ?_
    refine lv_aload_n hx hb dX0_noteNear_4 rfl (lv_at hl 0 rfl) ?_
    refine hm_geti X hw lk_0_19 (gl_44 hG) dX0_noteNear_5 ?_
    refine lv_ishl hx hb dX0_noteNear_8 ?_
    refine lv_icmp_ge (tgt := 84) hx hb dX0_noteNear_9 (by decide) (fun hc => ?_) (fun hc => ?_)
    · have h := Eq.mp (if_pos hc) h
      exact hm_vret X hr hlk hw ⟨_, rfl, h⟩ dX0_noteNear_84
    · have h := Eq.mp (if_neg hc) h
      refine lv_aload_n hx hb dX0_noteNear_12 rfl (lv_at hl 0 rfl) ?_
      refine hm_getr X hw lk_0_22 (gl_44 hG) (gf_44_3 hG) dX0_noteNear_13 ?_
      refine lv_iload_n hx hb dX0_noteNear_16 rfl (lv_at hl 1 rfl) ?_
      refine lv_iconst (v := 1) hx hb dX0_noteNear_17 (by decide) ?_
      refine lv_iload_n hx hb dX0_noteNear_18 rfl (lv_at hl 1 rfl) ?_
      refine lv_ishl hx hb dX0_noteNear_19 ?_
      obtain ⟨hi, h⟩ := h
      refine hm_iast X hw (gl_46 hG) hi dX0_noteNear_20 (fun H locs hw => ?_)
      refine lv_aload_n hx hb dX0_noteNear_21 rfl (lv_at hl 0 rfl) ?_
      refine hm_getr X hw lk_0_25 (gl_44 hG) (gf_44_4 hG) dX0_noteNear_22 ?_
      refine lv_iload_n hx hb dX0_noteNear_25 rfl (lv_at hl 1 rfl) ?_
      refine lv_iload_n hx hb dX0_noteNear_26 rfl (lv_at hl 1 rfl) ?_
      obtain ⟨hi, h⟩ := h
      refine hm_iast X hw (gl_47 hG) hi dX0_noteNear_27 (fun H locs hw => ?_)
      refine lv_iconst (v := 0) hx hb dX0_noteNear_28 (by decide) ?_
      refine lv_istore_n (lv' := [(2, _), (0, _), (1, _)]) hx hb dX0_noteNear_29 rfl hl (by decide) rfl (fun ls hl => ?_)
      obtain ⟨n2, h⟩ := h
      exact wkCov_noteNear_l30 X hr hlk hR hcl hG ih n2 _ _ h hw (lv_sub hl [1, 2, 0] rfl)

theorem cCov_noteNear {l : Launch} {D : va_G} {cA : Nat → ClassId} {z sz : Nat} {I : HI} {T : HR} {F : HR} {L : HL}  {Q : HI → Prop} (hcl : hCl Ev) (hG : Geo F L) (h : Cov_noteNear I  Q) : Met l yX0_noteNear (hws0 yX0_noteNear cX0_noteNear 4 none) { frames := 1, cells := 0, slots := 0, locals := 21 } (hPc D cA z Ev (I, J, T, F, L) sz [.ref (z + 44)]) (va_Qv (pIv J T F L Q) (hB D cA z (hA z L sz)) (hA z L sz)) 0 0 (hA z L sz) := by
  refine hm_met (I, J, T, F, L) [.ref (z + 44)] rfl (by decide) (Nat.le_of_ble_eq_true rfl) ?_
  intro p e s m below meth c ls X hr hlk hnm hxt hsz hw hl
  have hl : lv_has ls 4 [(0, .ref (z + 44))] := hl
  have hR : 1 ≤ ({ frames := 1, cells := 0, slots := 0, locals := 21 } : Room).frames ∧ 21 ≤ ({ frames := 1, cells := 0, slots := 0, locals := 21 } : Room).locals := ⟨Nat.le_refl _, Nat.le_refl _⟩
  generalize ({ frames := 1, cells := 0, slots := 0, locals := 21 } : Room) = R at hR ⊢
  clear hsz
  generalize (hA z L sz) = A at hw ⊢
  have hx := X.1
  have hb := X.2.1
  unfold Cov_noteNear at h
  refine lv_iconst (v := 0) hx hb dX0_noteNear_0 (by decide) ?_
  refine lv_istore_n (lv' := [(1, _), (0, _)]) hx hb dX0_noteNear_1 rfl hl (by decide) rfl (fun ls hl => ?_)
  obtain ⟨n2, h⟩ := h
  exact wkCov_noteNear_l2 X hr hlk hR hcl hG  n2 _ _ h hw (lv_sub hl [1, 0] rfl)

theorem cJd_bitCount {l : Launch} {D : va_G} {cA : Nat → ClassId} {z sz : Nat} {I : HI} {T : HR} {F : HR} {L : HL} {x0 : Int32} {Q : Int32 → Prop} (hcl : hCl Ev) (h : Jd_bitCount  x0 Q) : Met l yJ6_bitCount_0f7a4 (hws0 yJ6_bitCount_0f7a4 cJ6_bitCount_0f7a4 1 (some .int)) { frames := 0, cells := 0, slots := 0, locals := 0 } (hPc D cA z Ev (I, J, T, F, L) sz [.int x0]) (va_Qi (p0 (I, J, T, F, L) Q) (hB D cA z (hA z L sz)) (hA z L sz)) 0 0 (hA z L sz) := by
  refine hm_metF (I, J, T, F, L) [.int x0] rfl (by decide +kernel) (Nat.le_of_ble_eq_true rfl) ?_
  intro p e s m below meth c ls X hr hlk hnm hxt hsz hw hl
  have hl : lv_has ls 1 [(0, .int x0)] := hl
  have hR : 0 ≤ ({ frames := 0, cells := 0, slots := 0, locals := 0 } : Room).frames ∧ 0 ≤ ({ frames := 0, cells := 0, slots := 0, locals := 0 } : Room).locals := ⟨Nat.le_refl _, Nat.le_refl _⟩
  generalize ({ frames := 0, cells := 0, slots := 0, locals := 0 } : Room) = R at hR ⊢
  clear hsz
  generalize (hA z L sz) = A at hw ⊢
  have hx := X.1
  have hb := X.2.1
  unfold Jd_bitCount at h
  refine lv_iload_n hx hb dJ6_bitCount_0f7a4_0 rfl (lv_at hl 0 rfl) ?_
  refine lv_iload_n hx hb dJ6_bitCount_0f7a4_1 rfl (lv_at hl 0 rfl) ?_
  refine lv_iconst (v := 1) hx hb dJ6_bitCount_0f7a4_2 (by decide) ?_
  refine lv_iushr (v := iu x0 1) hx hb dJ6_bitCount_0f7a4_3 rfl ?_
  refine lv_ldcw (v := 1431655765) hx hb X.2.2.2.1 (X.2.2.2.2 _ kw620) dJ6_bitCount_0f7a4_4 ?_
  refine lv_iand hx hb dJ6_bitCount_0f7a4_7 ?_
  refine lv_isub hx hb dJ6_bitCount_0f7a4_8 ?_
  refine lv_istore_n (lv' := [(0, _)]) hx hb dJ6_bitCount_0f7a4_9 rfl hl (by decide) rfl (fun ls hl => ?_)
  refine lv_iload_n hx hb dJ6_bitCount_0f7a4_10 rfl (lv_at hl 0 rfl) ?_
  refine lv_ldcw (v := 858993459) hx hb X.2.2.2.1 (X.2.2.2.2 _ kw621) dJ6_bitCount_0f7a4_11 ?_
  refine lv_iand hx hb dJ6_bitCount_0f7a4_14 ?_
  refine lv_iload_n hx hb dJ6_bitCount_0f7a4_15 rfl (lv_at hl 0 rfl) ?_
  refine lv_iconst (v := 2) hx hb dJ6_bitCount_0f7a4_16 (by decide) ?_
  refine lv_iushr (v := iu (x0 - ((iu x0 1) &&& 1431655765)) 2) hx hb dJ6_bitCount_0f7a4_17 rfl ?_
  refine lv_ldcw (v := 858993459) hx hb X.2.2.2.1 (X.2.2.2.2 _ kw621) dJ6_bitCount_0f7a4_18 ?_
  refine lv_iand hx hb dJ6_bitCount_0f7a4_21 ?_
  refine lv_iadd hx hb dJ6_bitCount_0f7a4_22 ?_
  refine lv_istore_n (lv' := [(0, _)]) hx hb dJ6_bitCount_0f7a4_23 rfl hl (by decide) rfl (fun ls hl => ?_)
  refine lv_iload_n hx hb dJ6_bitCount_0f7a4_24 rfl (lv_at hl 0 rfl) ?_
  refine lv_iload_n hx hb dJ6_bitCount_0f7a4_25 rfl (lv_at hl 0 rfl) ?_
  refine lv_iconst (v := 4) hx hb dJ6_bitCount_0f7a4_26 (by decide) ?_
  refine lv_iushr (v := iu (((x0 - ((iu x0 1) &&& 1431655765)) &&& 858993459) + ((iu (x0 - ((iu x0 1) &&& 1431655765)) 2) &&& 858993459)) 4) hx hb dJ6_bitCount_0f7a4_27 rfl ?_
  refine lv_iadd hx hb dJ6_bitCount_0f7a4_28 ?_
  refine lv_ldcw (v := 252645135) hx hb X.2.2.2.1 (X.2.2.2.2 _ kw622) dJ6_bitCount_0f7a4_29 ?_
  refine lv_iand hx hb dJ6_bitCount_0f7a4_32 ?_
  refine lv_istore_n (lv' := [(0, _)]) hx hb dJ6_bitCount_0f7a4_33 rfl hl (by decide) rfl (fun ls hl => ?_)
  refine lv_iload_n hx hb dJ6_bitCount_0f7a4_34 rfl (lv_at hl 0 rfl) ?_
  refine lv_iload_n hx hb dJ6_bitCount_0f7a4_35 rfl (lv_at hl 0 rfl) ?_
  refine lv_bipush (v := 8) hx hb dJ6_bitCount_0f7a4_36 (by decide) ?_
  refine lv_iushr (v := iu (((((x0 - ((iu x0 1) &&& 1431655765)) &&& 858993459) + ((iu (x0 - ((iu x0 1) &&& 1431655765)) 2) &&& 858993459)) + (iu (((x0 - ((iu x0 1) &&& 1431655765)) &&& 858993459) + ((iu (x0 - ((iu x0 1) &&& 1431655765)) 2) &&& 858993459)) 4)) &&& 252645135) 8) hx hb dJ6_bitCount_0f7a4_38 rfl ?_
  refine lv_iadd hx hb dJ6_bitCount_0f7a4_39 ?_
  refine lv_istore_n (lv' := [(0, _)]) hx hb dJ6_bitCount_0f7a4_40 rfl hl (by decide) rfl (fun ls hl => ?_)
  refine lv_iload_n hx hb dJ6_bitCount_0f7a4_41 rfl (lv_at hl 0 rfl) ?_
  refine lv_iload_n hx hb dJ6_bitCount_0f7a4_42 rfl (lv_at hl 0 rfl) ?_
  refine lv_bipush (v := 16) hx hb dJ6_bitCount_0f7a4_43 (by decide) ?_
  refine lv_iushr (v := iu ((((((x0 - ((iu x0 1) &&& 1431655765)) &&& 858993459) + ((iu (x0 - ((iu x0 1) &&& 1431655765)) 2) &&& 858993459)) + (iu (((x0 - ((iu x0 1) &&& 1431655765)) &&& 858993459) + ((iu (x0 - ((iu x0 1) &&& 1431655765)) 2) &&& 858993459)) 4)) &&& 252645135) + (iu (((((x0 - ((iu x0 1) &&& 1431655765)) &&& 858993459) + ((iu (x0 - ((iu x0 1) &&& 1431655765)) 2) &&& 858993459)) + (iu (((x0 - ((iu x0 1) &&& 1431655765)) &&& 858993459) + ((iu (x0 - ((iu x0 1) &&& 1431655765)) 2) &&& 858993459)) 4)) &&& 252645135) 8)) 16) hx hb dJ6_bitCount_0f7a4_45 rfl ?_
  refine lv_iadd hx hb dJ6_bitCount_0f7a4_46 ?_
  refine lv_istore_n (lv' := [(0, _)]) hx hb dJ6_bitCount_0f7a4_47 rfl hl (by decide) rfl (fun ls hl => ?_)
  refine lv_iload_n hx hb dJ6_bitCount_0f7a4_48 rfl (lv_at hl 0 rfl) ?_
  refine lv_bipush (v := 63) hx hb dJ6_bitCount_0f7a4_49 (by decide) ?_
  refine lv_iand hx hb dJ6_bitCount_0f7a4_51 ?_
  exact hm_iret X hr hlk hw ⟨rfl, h⟩ dJ6_bitCount_0f7a4_52

theorem cJd_min {l : Launch} {D : va_G} {cA : Nat → ClassId} {z sz : Nat} {I : HI} {T : HR} {F : HR} {L : HL} {x0 : Int32} {x1 : Int32} {Q : Int32 → Prop} (hcl : hCl Ev) (h : Jd_min  x0 x1 Q) : Met l yJ9_min_7cf53 (hws0 yJ9_min_7cf53 cJ9_min_7cf53 2 (some .int)) { frames := 0, cells := 0, slots := 0, locals := 0 } (hPc D cA z Ev (I, J, T, F, L) sz [.int x0, .int x1]) (va_Qi (p0 (I, J, T, F, L) Q) (hB D cA z (hA z L sz)) (hA z L sz)) 0 0 (hA z L sz) := by
  refine hm_metF (I, J, T, F, L) [.int x0, .int x1] rfl (by decide +kernel) (Nat.le_of_ble_eq_true rfl) ?_
  intro p e s m below meth c ls X hr hlk hnm hxt hsz hw hl
  have hl : lv_has ls 2 [(0, .int x0), (1, .int x1)] := hl
  have hR : 0 ≤ ({ frames := 0, cells := 0, slots := 0, locals := 0 } : Room).frames ∧ 0 ≤ ({ frames := 0, cells := 0, slots := 0, locals := 0 } : Room).locals := ⟨Nat.le_refl _, Nat.le_refl _⟩
  generalize ({ frames := 0, cells := 0, slots := 0, locals := 0 } : Room) = R at hR ⊢
  clear hsz
  generalize (hA z L sz) = A at hw ⊢
  have hx := X.1
  have hb := X.2.1
  unfold Jd_min at h
  refine lv_iload_n hx hb dJ9_min_7cf53_0 rfl (lv_at hl 0 rfl) ?_
  refine lv_iload_n hx hb dJ9_min_7cf53_1 rfl (lv_at hl 1 rfl) ?_
  refine lv_icmp_gt (tgt := 9) hx hb dJ9_min_7cf53_2 (by decide) (fun hc => ?_) (fun hc => ?_)
  · have h := Eq.mp (if_pos hc) h
    refine lv_iload_n hx hb dJ9_min_7cf53_9 rfl (lv_at hl 1 rfl) ?_
    exact hm_iret X hr hlk hw ⟨rfl, h⟩ dJ9_min_7cf53_10
  · have h := Eq.mp (if_neg hc) h
    refine lv_iload_n hx hb dJ9_min_7cf53_5 rfl (lv_at hl 0 rfl) ?_
    refine lv_goto (tgt := 10) hx hb dJ9_min_7cf53_6 (by decide) ?_
    exact hm_iret X hr hlk hw ⟨rfl, h⟩ dJ9_min_7cf53_10

theorem wkCov_lastUseful_l11 {I : HI} {T : HR} {F : HR} {L : HL} {x1 : Int32} {Q : Int32 → Prop} (X : hX p m c s args RX0 cX0_lastUseful 4) (hr : meth.sig.returnType = (some .int)) (hlk : meth.locks = false) (hR : 1 ≤ R.frames ∧ 21 ≤ R.locals) (hcl : hCl Ev) (hG : Geo F L)  : ∀ (n : Nat) (x2 : Int32) (x3 : Int32) {ls : Array Slot} {H : Heap} {locs : List Loc}, Cov_lastUseful_l11 I x1 Q n x2 x3 → hW D cA z Ev (I, J, T, F, L) A s H locs → lv_has ls 4 [(0, .ref (z + 44)), (1, .int x1), (2, .int x2), (3, .int x3)] → W p l e R s m args below meth c H locs 0 0 (MQ below (va_Qi (p0 (I, J, T, F, L) Q) (hB D cA z A) A) args s 0 0 A) (F0 m 11 ls []) := by
  have hx := X.1
  have hb := X.2.1
  intro n
  induction n with
  | zero => intro x2 x3 ls H locs h; exact False.elim h
  | succ n ih =>
    intro x2 x3 ls H locs h hw hl
    rw [Cov_lastUseful_l11] at h
    refine lv_iload_n hx hb dX0_lastUseful_11 rfl (lv_at hl 3 rfl) ?_
    refine lv_iconst (v := 1) hx hb dX0_lastUseful_12 (by decide) ?_
    refine lv_aload_n hx hb dX0_lastUseful_13 rfl (lv_at hl 0 rfl) ?_
    refine hm_geti X hw lk_0_19 (gl_44 hG) dX0_lastUseful_14 ?_
    refine lv_ishl hx hb dX0_lastUseful_17 ?_
    refine lv_icmp_ge (tgt := 47) hx hb dX0_lastUseful_18 (by decide) (fun hc => ?_) (fun hc => ?_)
    · have h := Eq.mp (if_pos hc) h
      refine lv_iload_n hx hb dX0_lastUseful_47 rfl (lv_at hl 2 rfl) ?_
      exact hm_iret X hr hlk hw ⟨rfl, h⟩ dX0_lastUseful_48
    · have h := Eq.mp (if_neg hc) h
      refine lv_iload_n hx hb dX0_lastUseful_21 rfl (lv_at hl 1 rfl) ?_
      refine lv_iload_n hx hb dX0_lastUseful_22 rfl (lv_at hl 3 rfl) ?_
      refine lv_iushr (v := iu x1 x3) hx hb dX0_lastUseful_23 rfl ?_
      refine lv_iconst (v := 1) hx hb dX0_lastUseful_24 (by decide) ?_
      refine lv_iand hx hb dX0_lastUseful_25 ?_
      refine lv_iconst (v := 1) hx hb dX0_lastUseful_26 (by decide) ?_
      refine lv_icmp_ne (tgt := 41) hx hb dX0_lastUseful_27 (by decide) (fun hc => ?_) (fun hc => ?_)
      · have h := Eq.mp (if_neg hc) h
        refine lv_iinc (v := x3 + 1) (lv' := [(3, _), (0, _), (1, _), (2, _)]) hx hb dX0_lastUseful_41 hl (k := 3) rfl rfl (by decide) rfl (fun ls hl => ?_)
        refine lv_goto (tgt := 11) hx hb dX0_lastUseful_44 (by decide) ?_
        exact ih _ _ h hw (lv_sub hl [1, 2, 3, 0] rfl)
      · have h := Eq.mp (if_pos hc) h
        refine lv_iload_n hx hb dX0_lastUseful_30 rfl (lv_at hl 2 rfl) ?_
        refine lv_aload_n hx hb dX0_lastUseful_31 rfl (lv_at hl 0 rfl) ?_
        refine hm_getr X hw lk_0_25 (gl_44 hG) (gf_44_4 hG) dX0_lastUseful_32 ?_
        refine lv_iload_n hx hb dX0_lastUseful_35 rfl (lv_at hl 3 rfl) ?_
        obtain ⟨hi, h⟩ := h
        refine hm_iald X hw (gl_47 hG) hi dX0_lastUseful_36 ?_
        refine hm_calli hw (hm_runS (rest := []) hcl X hw (cJd_min hcl h) yk_J9_min_7cf53 kw686 rfl hl.1 rfl rfl rfl (Nat.le_of_ble_eq_true rfl) ⟨Nat.le_trans (Nat.le_of_ble_eq_true rfl) hR.1, Nat.le_trans (Nat.le_of_ble_eq_true rfl) hR.2⟩ ⟨Nat.zero_le _, Nat.zero_le _⟩ dX0_lastUseful_37) (fun a1 u2 H locs hp hw => ?_)
        obtain ⟨rfl, h⟩ := hp
        refine lv_istore_n (lv' := [(2, _), (0, _), (1, _), (3, _)]) hx hb dX0_lastUseful_40 rfl hl (by decide) rfl (fun ls hl => ?_)
        refine lv_iinc (v := x3 + 1) (lv' := [(3, _), (2, _), (0, _), (1, _)]) hx hb dX0_lastUseful_41 hl (k := 3) rfl rfl (by decide) rfl (fun ls hl => ?_)
        refine lv_goto (tgt := 11) hx hb dX0_lastUseful_44 (by decide) ?_
        exact ih _ _ h hw (lv_sub hl [2, 3, 1, 0] rfl)

theorem cCov_lastUseful {l : Launch} {D : va_G} {cA : Nat → ClassId} {z sz : Nat} {I : HI} {T : HR} {F : HR} {L : HL} {x1 : Int32} {Q : Int32 → Prop} (hcl : hCl Ev) (hG : Geo F L) (h : Cov_lastUseful I x1 Q) : Met l yX0_lastUseful (hws0 yX0_lastUseful cX0_lastUseful 4 (some .int)) { frames := 1, cells := 0, slots := 0, locals := 21 } (hPc D cA z Ev (I, J, T, F, L) sz [.ref (z + 44), .int x1]) (va_Qi (p0 (I, J, T, F, L) Q) (hB D cA z (hA z L sz)) (hA z L sz)) 0 0 (hA z L sz) := by
  refine hm_met (I, J, T, F, L) [.ref (z + 44), .int x1] rfl (by decide) (Nat.le_of_ble_eq_true rfl) ?_
  intro p e s m below meth c ls X hr hlk hnm hxt hsz hw hl
  have hl : lv_has ls 4 [(0, .ref (z + 44)), (1, .int x1)] := hl
  have hR : 1 ≤ ({ frames := 1, cells := 0, slots := 0, locals := 21 } : Room).frames ∧ 21 ≤ ({ frames := 1, cells := 0, slots := 0, locals := 21 } : Room).locals := ⟨Nat.le_refl _, Nat.le_refl _⟩
  generalize ({ frames := 1, cells := 0, slots := 0, locals := 21 } : Room) = R at hR ⊢
  clear hsz
  generalize (hA z L sz) = A at hw ⊢
  have hx := X.1
  have hb := X.2.1
  unfold Cov_lastUseful at h
  refine lv_iconst (v := 1) hx hb dX0_lastUseful_0 (by decide) ?_
  refine lv_aload_n hx hb dX0_lastUseful_1 rfl (lv_at hl 0 rfl) ?_
  refine hm_geti X hw lk_0_19 (gl_44 hG) dX0_lastUseful_2 ?_
  refine lv_ishl hx hb dX0_lastUseful_5 ?_
  refine lv_iconst (v := 1) hx hb dX0_lastUseful_6 (by decide) ?_
  refine lv_isub hx hb dX0_lastUseful_7 ?_
  refine lv_istore_n (lv' := [(2, _), (0, _), (1, _)]) hx hb dX0_lastUseful_8 rfl hl (by decide) rfl (fun ls hl => ?_)
  refine lv_iconst (v := 0) hx hb dX0_lastUseful_9 (by decide) ?_
  refine lv_istore_n (lv' := [(3, _), (2, _), (0, _), (1, _)]) hx hb dX0_lastUseful_10 rfl hl (by decide) rfl (fun ls hl => ?_)
  obtain ⟨n2, h⟩ := h
  exact wkCov_lastUseful_l11 X hr hlk hR hcl hG  n2 _ _ h hw (lv_sub hl [2, 3, 1, 0] rfl)

theorem wkCov_choose_l53 {T : HR} {F : HR} {L : HL} {x1 : Int32} {x2 : Int32} {x4 : Int32} {Q : Int32 → HI → Prop} {RO : HI → Int32 → Int32 → (Int32 → HI → Prop) → Prop} {rf rl : Nat} (hRO : ∀ {l : Launch} {D : va_G} {cA : Nat → ClassId} {z sz : Nat} {Ev : HE} {J : HJ} {I : HI} {T : HR} {F : HR} {L : HL} {y1 : Int32} {y2 : Int32} {Q : Int32 → HI → Prop}, (hCl Ev) → (Geo F L) → RO I y1 y2 Q → Met l yX0_choose (hws0 yX0_choose cX0_choose 6 (some .boolean)) { frames := rf, cells := 0, slots := 0, locals := rl } (hPc D cA z Ev (I, J, T, F, L) sz [.ref (z + 44), .int y1, .int y2]) (va_Qi (pI J T F L Q) (hB D cA z (hA z L sz)) (hA z L sz)) 0 0 (hA z L sz)) (X : hX p m c s args RX0 cX0_choose 6) (hr : meth.sig.returnType = (some .boolean)) (hlk : meth.locks = false) (hR : rf + 2 ≤ R.frames ∧ rl + 44 ≤ R.locals) (hcl : hCl Ev) (hG : Geo F L)  : ∀ (n : Nat) (I : HI) (x5 : Int32) {ls : Array Slot} {H : Heap} {locs : List Loc}, Cov_choose_l53 RO x1 x2 x4 Q n I x5 → hW D cA z Ev (I, J, T, F, L) A s H locs → lv_has ls 6 [(0, .ref (z + 44)), (1, .int x1), (2, .int x2), (4, .int x4), (5, .int x5)] → W p l e R s m args below meth c H locs 0 0 (MQ below (va_Qi (pI J T F L Q) (hB D cA z A) A) args s 0 0 A) (F0 m 53 ls []) := by
  have hx := X.1
  have hb := X.2.1
  intro n
  induction n with
  | zero => intro I x5 ls H locs h; exact False.elim h
  | succ n ih =>
    intro I x5 ls H locs h hw hl
    rw [Cov_choose_l53] at h
    refine lv_iload hx hb dX0_choose_53 (lv_at hl 4 rfl) ?_
    refine lv_iload hx hb dX0_choose_55 (lv_at hl 3 rfl) ?_
    refine lv_icmp_gt (tgt := 97) hx hb dX0_choose_57 (by decide) (fun hc => ?_) (fun hc => ?_)
    · have h := Eq.mp (if_pos hc) h
      refine lv_iconst (v := 0) hx hb dX0_choose_97 (by decide) ?_
      exact hm_zret X hr hlk hw zb_0 ⟨_, rfl, h⟩ dX0_choose_98
    · have h := Eq.mp (if_neg hc) h
      refine lv_aload_n hx hb dX0_choose_60 rfl (lv_at hl 0 rfl) ?_
      refine hm_getr X hw lk_0_15 (gl_44 hG) (gf_44_1 hG) dX0_choose_61 ?_
      refine lv_iload_n hx hb dX0_choose_64 rfl (lv_at hl 1 rfl) ?_
      refine lv_iload hx hb dX0_choose_65 (lv_at hl 4 rfl) ?_
      obtain ⟨hi, h⟩ := h
      refine hm_iast X hw (gl_45 hG) hi dX0_choose_67 (fun H locs hw => ?_)
      refine lv_aload_n hx hb dX0_choose_68 rfl (lv_at hl 0 rfl) ?_
      refine lv_iload_n hx hb dX0_choose_69 rfl (lv_at hl 1 rfl) ?_
      refine lv_iconst (v := 1) hx hb dX0_choose_70 (by decide) ?_
      refine lv_iadd hx hb dX0_choose_71 ?_
      refine lv_iload_n hx hb dX0_choose_72 rfl (lv_at hl 2 rfl) ?_
      refine lv_aload_n hx hb dX0_choose_73 rfl (lv_at hl 0 rfl) ?_
      refine hm_getr X hw lk_0_22 (gl_44 hG) (gf_44_3 hG) dX0_choose_74 ?_
      refine lv_iload hx hb dX0_choose_77 (lv_at hl 4 rfl) ?_
      obtain ⟨hi, h⟩ := h
      refine hm_iald X hw (gl_46 hG) hi dX0_choose_79 ?_
      refine lv_iconst (v := (-1)) hx hb dX0_choose_80 (by decide) ?_
      refine lv_ixor hx hb dX0_choose_81 ?_
      refine lv_iand hx hb dX0_choose_82 ?_
      refine hm_calli hw (hm_runS (rest := []) hcl X hw (hRO hcl hG h) yk_X0_choose kw678 rfl hl.1 rfl rfl rfl (Nat.le_of_ble_eq_true rfl) ⟨by have := hR.1; dsimp only; omega, by have := hR.2; dsimp only; omega⟩ ⟨Nat.zero_le _, Nat.zero_le _⟩ dX0_choose_83) (fun a5 u7 H locs hp hw => ?_)
      obtain ⟨I6, rfl, h⟩ := hp
      refine lv_if_eq (tgt := 91) hx hb dX0_choose_86 (by decide) (fun hc => ?_) (fun hc => ?_)
      · have h := Eq.mp (if_pos hc) h
        refine lv_iinc (v := x5 + 1) (lv' := [(5, _), (0, _), (1, _), (2, _), (4, _)]) hx hb dX0_choose_91 hl (k := 4) rfl rfl (by decide) rfl (fun ls hl => ?_)
        refine lv_goto (tgt := 53) hx hb dX0_choose_94 (by decide) ?_
        exact ih _ _ h hw (lv_sub hl [1, 2, 3, 4, 0] rfl)
      · have h := Eq.mp (if_neg hc) h
        refine lv_iconst (v := 1) hx hb dX0_choose_89 (by decide) ?_
        exact hm_zret X hr hlk hw zb_1 ⟨_, rfl, h⟩ dX0_choose_90

theorem cCov_choose_o {l : Launch} {D : va_G} {cA : Nat → ClassId} {z sz : Nat} {RO : HI → Int32 → Int32 → (Int32 → HI → Prop) → Prop} {rf rl : Nat} (hRO : ∀ {l : Launch} {D : va_G} {cA : Nat → ClassId} {z sz : Nat} {Ev : HE} {J : HJ} {I : HI} {T : HR} {F : HR} {L : HL} {y1 : Int32} {y2 : Int32} {Q : Int32 → HI → Prop}, (hCl Ev) → (Geo F L) → RO I y1 y2 Q → Met l yX0_choose (hws0 yX0_choose cX0_choose 6 (some .boolean)) { frames := rf, cells := 0, slots := 0, locals := rl } (hPc D cA z Ev (I, J, T, F, L) sz [.ref (z + 44), .int y1, .int y2]) (va_Qi (pI J T F L Q) (hB D cA z (hA z L sz)) (hA z L sz)) 0 0 (hA z L sz)) {I : HI} {T : HR} {F : HR} {L : HL} {x1 : Int32} {x2 : Int32} {Q : Int32 → HI → Prop} (hcl : hCl Ev) (hG : Geo F L) (h : Cov_choose_o RO I x1 x2 Q) : Met l yX0_choose (hws0 yX0_choose cX0_choose 6 (some .boolean)) { frames := rf + 2, cells := 0, slots := 0, locals := rl + 44 } (hPc D cA z Ev (I, J, T, F, L) sz [.ref (z + 44), .int x1, .int x2]) (va_Qi (pI J T F L Q) (hB D cA z (hA z L sz)) (hA z L sz)) 0 0 (hA z L sz) := by
  refine hm_met (I, J, T, F, L) [.ref (z + 44), .int x1, .int x2] rfl (by decide) (Nat.le_of_ble_eq_true rfl) ?_
  intro p e s m below meth c ls X hr hlk hnm hxt hsz hw hl
  have hl : lv_has ls 6 [(0, .ref (z + 44)), (1, .int x1), (2, .int x2)] := hl
  have hR : rf + 2 ≤ ({ frames := rf + 2, cells := 0, slots := 0, locals := rl + 44 } : Room).frames ∧ rl + 44 ≤ ({ frames := rf + 2, cells := 0, slots := 0, locals := rl + 44 } : Room).locals := ⟨Nat.le_refl _, Nat.le_refl _⟩
  generalize ({ frames := rf + 2, cells := 0, slots := 0, locals := rl + 44 } : Room) = R at hR ⊢
  clear hsz
  generalize (hA z L sz) = A at hw ⊢
  have hx := X.1
  have hb := X.2.1
  unfold Cov_choose_o at h
  refine lv_iload_n hx hb dX0_choose_0 rfl (lv_at hl 2 rfl) ?_
  refine lv_if_ne (tgt := 6) hx hb dX0_choose_1 (by decide) (fun hc => ?_) (fun hc => ?_)
  · have h := Eq.mp (if_neg hc) h
    refine lv_aload_n hx hb dX0_choose_6 rfl (lv_at hl 0 rfl) ?_
    refine hm_geti X hw lk_0_9 (gl_44 hG) dX0_choose_7 ?_
    refine lv_iload_n hx hb dX0_choose_10 rfl (lv_at hl 1 rfl) ?_
    refine lv_isub hx hb dX0_choose_11 ?_
    refine lv_istore_n (lv' := [(3, _), (0, _), (1, _), (2, _)]) hx hb dX0_choose_12 rfl hl (by decide) rfl (fun ls hl => ?_)
    refine lv_iload_n hx hb dX0_choose_13 rfl (lv_at hl 0 rfl) ?_
    refine lv_if_le (tgt := 32) hx hb dX0_choose_14 (by decide) (fun hc => ?_) (fun hc => ?_)
    · have h := Eq.mp (if_pos hc) h
      refine lv_iconst (v := 0) hx hb dX0_choose_32 (by decide) ?_
      exact hm_zret X hr hlk hw zb_0 ⟨_, rfl, h⟩ dX0_choose_33
    · have h := Eq.mp (if_neg hc) h
      refine lv_iload_n hx hb dX0_choose_17 rfl (lv_at hl 3 rfl) ?_
      refine hm_calli hw (hm_runS (rest := []) hcl X hw (cJd_bitCount hcl h) yk_J6_bitCount_0f7a4 kw681 rfl hl.1 rfl rfl rfl (Nat.le_of_ble_eq_true rfl) ⟨by have := hR.1; dsimp only; omega, by have := hR.2; dsimp only; omega⟩ ⟨Nat.zero_le _, Nat.zero_le _⟩ dX0_choose_18) (fun a1 u2 H locs hp hw => ?_)
      obtain ⟨rfl, h⟩ := hp
      refine lv_iload_n hx hb dX0_choose_21 rfl (lv_at hl 0 rfl) ?_
      refine lv_aload_n hx hb dX0_choose_22 rfl (lv_at hl 1 rfl) ?_
      refine hm_geti X hw lk_0_19 (gl_44 hG) dX0_choose_23 ?_
      refine lv_iconst (v := 1) hx hb dX0_choose_26 (by decide) ?_
      refine lv_iadd hx hb dX0_choose_27 ?_
      refine lv_imul hx hb dX0_choose_28 ?_
      refine lv_icmp_le (tgt := 34) hx hb dX0_choose_29 (by decide) (fun hc => ?_) (fun hc => ?_)
      · have h := Eq.mp (if_pos hc) h
        refine lv_aload_n hx hb dX0_choose_34 rfl (lv_at hl 1 rfl) ?_
        refine lv_iload_n hx hb dX0_choose_35 rfl (lv_at hl 3 rfl) ?_
        refine hm_calli hw (hm_runV (rest := []) hcl X hw (cCov_lastUseful hcl hG h) yk_X0_lastUseful kw682 rfl (gl_44 hG) rfl hl.1 rfl rfl rfl (Nat.le_of_ble_eq_true rfl) ⟨by have := hR.1; dsimp only; omega, by have := hR.2; dsimp only; omega⟩ ⟨Nat.zero_le _, Nat.zero_le _⟩ dX0_choose_36) (fun a3 u4 H locs hp hw => ?_)
        obtain ⟨rfl, h⟩ := hp
        refine lv_istore (lv' := [(4, _), (3, _), (0, _), (1, _), (2, _)]) hx hb dX0_choose_39 hl (by decide) rfl (fun ls hl => ?_)
        refine lv_aload_n hx hb dX0_choose_41 rfl (lv_at hl 2 rfl) ?_
        refine hm_getr X hw lk_0_15 (gl_44 hG) (gf_44_1 hG) dX0_choose_42 ?_
        refine lv_iload_n hx hb dX0_choose_45 rfl (lv_at hl 3 rfl) ?_
        refine lv_iconst (v := 1) hx hb dX0_choose_46 (by decide) ?_
        refine lv_isub hx hb dX0_choose_47 ?_
        obtain ⟨hi, h⟩ := h
        refine hm_iald X hw (gl_45 hG) hi dX0_choose_48 ?_
        refine lv_iconst (v := 1) hx hb dX0_choose_49 (by decide) ?_
        refine lv_iadd hx hb dX0_choose_50 ?_
        refine lv_istore (lv' := [(5, _), (4, _), (3, _), (0, _), (1, _), (2, _)]) hx hb dX0_choose_51 hl (by decide) rfl (fun ls hl => ?_)
        obtain ⟨n2, h⟩ := h
        exact wkCov_choose_l53 hRO X hr hlk hR hcl hG  n2 _ _ h hw (lv_sub hl [3, 4, 5, 1, 0] rfl)
      · have h := Eq.mp (if_neg hc) h
        refine lv_iconst (v := 0) hx hb dX0_choose_32 (by decide) ?_
        exact hm_zret X hr hlk hw zb_0 ⟨_, rfl, h⟩ dX0_choose_33
  · have h := Eq.mp (if_pos hc) h
    refine lv_iconst (v := 1) hx hb dX0_choose_4 (by decide) ?_
    exact hm_zret X hr hlk hw zb_1 ⟨_, rfl, h⟩ dX0_choose_5

theorem cCov_choose (d : Nat) : ∀ {l : Launch} {D : va_G} {cA : Nat → ClassId} {z sz : Nat} {Ev : HE} {J : HJ} {I : HI} {T : HR} {F : HR} {L : HL} {y1 : Int32} {y2 : Int32} {Q : Int32 → HI → Prop}, (hCl Ev) → (Geo F L) → Cov_choose d I y1 y2 Q → Met l yX0_choose (hws0 yX0_choose cX0_choose 6 (some .boolean)) { frames := 2 * d, cells := 0, slots := 0, locals := 44 * d } (hPc D cA z Ev (I, J, T, F, L) sz [.ref (z + 44), .int y1, .int y2]) (va_Qi (pI J T F L Q) (hB D cA z (hA z L sz)) (hA z L sz)) 0 0 (hA z L sz) := by
  induction d with
  | zero => intros; rename_i h; exact False.elim h
  | succ d ih => intros; rename_i h; exact cCov_choose_o (rf := 2 * d) (rl := 44 * d) ih (by assumption) (by assumption) h
theorem wkCov_seek_l49 {T : HR} {F : HR} {L : HL} {x3 : Int32} {Q : HI → Prop} (X : hX p m c s args RX0 cX0_seek 5) (hr : meth.sig.returnType = none) (hlk : meth.locks = false) (hR : 17 ≤ R.frames ∧ 377 ≤ R.locals) (hcl : hCl Ev) (hG : Geo F L)  : ∀ (n : Nat) (I : HI) (x4 : Int32) {ls : Array Slot} {H : Heap} {locs : List Loc}, Cov_seek_l49 x3 Q n I x4 → hW D cA z Ev (I, J, T, F, L) A s H locs → lv_has ls 5 [(0, .ref (z + 44)), (3, .int x3), (4, .int x4)] → W p l e R s m args below meth c H locs 0 0 (MQ below (va_Qv (pIv J T F L Q) (hB D cA z A) A) args s 0 0 A) (F0 m 49 ls []) := by
  have hx := X.1
  have hb := X.2.1
  intro n
  induction n with
  | zero => intro I x4 ls H locs h; exact False.elim h
  | succ n ih =>
    intro I x4 ls H locs h hw hl
    rw [Cov_seek_l49] at h
    refine lv_iload hx hb dX0_seek_49 (lv_at hl 2 rfl) ?_
    refine lv_if_ne (tgt := 100) hx hb dX0_seek_51 (by decide) (fun hc => ?_) (fun hc => ?_)
    · have h := Eq.mp (if_neg hc) h
      exact hm_vret X hr hlk hw ⟨_, rfl, h⟩ dX0_seek_100
    · have h := Eq.mp (if_pos hc) h
      refine lv_aload_n hx hb dX0_seek_54 rfl (lv_at hl 0 rfl) ?_
      refine hm_geti X hw lk_0_9 (gl_44 hG) dX0_seek_55 ?_
      refine lv_bipush (v := 7) hx hb dX0_seek_58 (by decide) ?_
      refine lv_icmp_ge (tgt := 100) hx hb dX0_seek_60 (by decide) (fun hc => ?_) (fun hc => ?_)
      · have h := Eq.mp (if_pos hc) h
        exact hm_vret X hr hlk hw ⟨_, rfl, h⟩ dX0_seek_100
      · have h := Eq.mp (if_neg hc) h
        refine lv_aload_n hx hb dX0_seek_63 rfl (lv_at hl 0 rfl) ?_
        refine lv_dup hx hb dX0_seek_64 rfl ?_
        refine hm_geti X hw lk_0_9 (gl_44 hG) dX0_seek_65 ?_
        refine lv_iconst (v := 1) hx hb dX0_seek_68 (by decide) ?_
        refine lv_iadd hx hb dX0_seek_69 ?_
        refine hm_puti X hw lk_0_9 (gl_44 hG) rfl rfl dX0_seek_70 (fun H locs hw => ?_)
        refine lv_aload_n hx hb dX0_seek_73 rfl (lv_at hl 0 rfl) ?_
        refine hm_getr X hw lk_0_15 (gl_44 hG) (gf_44_1 hG) dX0_seek_74 ?_
        refine lv_iconst (v := 0) hx hb dX0_seek_77 (by decide) ?_
        refine lv_iconst (v := 0) hx hb dX0_seek_78 (by decide) ?_
        refine hm_iast X hw (gl_45 hG) (by unfold vp_in; decide) dX0_seek_79 (fun H locs hw => ?_)
        refine lv_aload_n hx hb dX0_seek_80 rfl (lv_at hl 0 rfl) ?_
        refine lv_iconst (v := 1) hx hb dX0_seek_81 (by decide) ?_
        refine lv_iload_n hx hb dX0_seek_82 rfl (lv_at hl 1 rfl) ?_
        refine lv_aload_n hx hb dX0_seek_83 rfl (lv_at hl 0 rfl) ?_
        refine hm_getr X hw lk_0_22 (gl_44 hG) (gf_44_3 hG) dX0_seek_84 ?_
        refine lv_iconst (v := 0) hx hb dX0_seek_87 (by decide) ?_
        refine hm_iald X hw (gl_46 hG) (by unfold vp_in; decide) dX0_seek_88 ?_
        refine lv_iconst (v := (-1)) hx hb dX0_seek_89 (by decide) ?_
        refine lv_ixor hx hb dX0_seek_90 ?_
        refine lv_iand hx hb dX0_seek_91 ?_
        refine hm_calli hw (hm_runS (rest := []) hcl X hw (cCov_choose 8 hcl hG h) yk_X0_choose kw678 rfl hl.1 rfl rfl rfl (Nat.le_of_ble_eq_true rfl) ⟨Nat.le_trans (Nat.le_of_ble_eq_true rfl) hR.1, Nat.le_trans (Nat.le_of_ble_eq_true rfl) hR.2⟩ ⟨Nat.zero_le _, Nat.zero_le _⟩ dX0_seek_92) (fun a3 u5 H locs hp hw => ?_)
        obtain ⟨I4, rfl, h⟩ := hp
        refine lv_istore (lv' := [(4, _), (0, _), (3, _)]) hx hb dX0_seek_95 hl (by decide) rfl (fun ls hl => ?_)
        refine lv_goto (tgt := 49) hx hb dX0_seek_97 (by decide) ?_
        exact ih _ _ h hw (lv_sub hl [1, 2, 0] rfl)

theorem wkCov_seek_b40 {I : HI} {T : HR} {F : HR} {L : HL} {t0 : Int32} {Q : HI → Prop} (X : hX p m c s args RX0 cX0_seek 5) (hr : meth.sig.returnType = none) (hlk : meth.locks = false) (hR : 17 ≤ R.frames ∧ 377 ≤ R.locals) (hcl : hCl Ev) (hG : Geo F L)  : ∀ {ls : Array Slot} {H : Heap} {locs : List Loc}, Cov_seek_b40 I t0 Q → hW D cA z Ev (I, J, T, F, L) A s H locs → lv_has ls 5 [(0, .ref (z + 44))] → W p l e R s m args below meth c H locs 0 0 (MQ below (va_Qv (pIv J T F L Q) (hB D cA z A) A) args s 0 0 A) (F0 m 40 ls [.int t0]) := by
  have hx := X.1
  have hb := X.2.1
  intro ls H locs h hw hl
  unfold Cov_seek_b40 at h
  refine lv_istore_n (lv' := [(3, _), (0, _)]) hx hb dX0_seek_40 rfl hl (by decide) rfl (fun ls hl => ?_)
  refine lv_aload_n hx hb dX0_seek_41 rfl (lv_at hl 1 rfl) ?_
  refine lv_iconst (v := 0) hx hb dX0_seek_42 (by decide) ?_
  refine hm_puti X hw lk_0_9 (gl_44 hG) rfl rfl dX0_seek_43 (fun H locs hw => ?_)
  refine lv_iconst (v := 0) hx hb dX0_seek_46 (by decide) ?_
  refine lv_istore (lv' := [(4, _), (3, _), (0, _)]) hx hb dX0_seek_47 hl (by decide) rfl (fun ls hl => ?_)
  obtain ⟨n2, h⟩ := h
  exact wkCov_seek_l49 X hr hlk hR hcl hG  n2 _ _ h hw (lv_sub hl [2, 1, 0] rfl)

theorem cCov_seek {l : Launch} {D : va_G} {cA : Nat → ClassId} {z sz : Nat} {I : HI} {T : HR} {F : HR} {L : HL} {x1 : Int32} {Q : HI → Prop} (hcl : hCl Ev) (hG : Geo F L) (h : Cov_seek I x1 Q) : Met l yX0_seek (hws0 yX0_seek cX0_seek 5 none) { frames := 17, cells := 0, slots := 0, locals := 377 } (hPc D cA z Ev (I, J, T, F, L) sz [.ref (z + 44), .int x1]) (va_Qv (pIv J T F L Q) (hB D cA z (hA z L sz)) (hA z L sz)) 0 0 (hA z L sz) := by
  refine hm_met (I, J, T, F, L) [.ref (z + 44), .int x1] rfl (by decide) (Nat.le_of_ble_eq_true rfl) ?_
  intro p e s m below meth c ls X hr hlk hnm hxt hsz hw hl
  have hl : lv_has ls 5 [(0, .ref (z + 44)), (1, .int x1)] := hl
  have hR : 17 ≤ ({ frames := 17, cells := 0, slots := 0, locals := 377 } : Room).frames ∧ 377 ≤ ({ frames := 17, cells := 0, slots := 0, locals := 377 } : Room).locals := ⟨Nat.le_refl _, Nat.le_refl _⟩
  generalize ({ frames := 17, cells := 0, slots := 0, locals := 377 } : Room) = R at hR ⊢
  clear hsz
  generalize (hA z L sz) = A at hw ⊢
  have hx := X.1
  have hb := X.2.1
  unfold Cov_seek at h
  refine lv_aload_n hx hb dX0_seek_0 rfl (lv_at hl 0 rfl) ?_
  refine hm_geti X hw lk_0_19 (gl_44 hG) dX0_seek_1 ?_
  refine lv_iload_n hx hb dX0_seek_4 rfl (lv_at hl 1 rfl) ?_
  refine lv_icmp_ne (tgt := 9) hx hb dX0_seek_5 (by decide) (fun hc => ?_) (fun hc => ?_)
  · have h := Eq.mp (if_neg hc) h
    refine lv_aload_n hx hb dX0_seek_9 rfl (lv_at hl 0 rfl) ?_
    refine lv_iload_n hx hb dX0_seek_10 rfl (lv_at hl 1 rfl) ?_
    refine hm_puti X hw lk_0_19 (gl_44 hG) rfl rfl dX0_seek_11 (fun H locs hw => ?_)
    refine lv_aload_n hx hb dX0_seek_14 rfl (lv_at hl 0 rfl) ?_
    refine hm_callv hw (hm_runV (rest := []) hcl X hw (cCov_noteNear hcl hG h) yk_X0_noteNear kw671 rfl (gl_44 hG) rfl hl.1 rfl rfl rfl (Nat.le_of_ble_eq_true rfl) ⟨Nat.le_trans (Nat.le_of_ble_eq_true rfl) hR.1, Nat.le_trans (Nat.le_of_ble_eq_true rfl) hR.2⟩ ⟨Nat.zero_le _, Nat.zero_le _⟩ dX0_seek_15) (fun u2 H locs hp hw => ?_)
    obtain ⟨I1, rfl, h⟩ := hp
    refine lv_iconst (v := 1) hx hb dX0_seek_18 (by decide) ?_
    refine lv_aload_n hx hb dX0_seek_19 rfl (lv_at hl 0 rfl) ?_
    refine hm_geti X hw lk_0_19 (gl_44 hG) dX0_seek_20 ?_
    refine lv_ishl hx hb dX0_seek_23 ?_
    refine lv_istore_n (lv' := [(2, _), (0, _), (1, _)]) hx hb dX0_seek_24 rfl hl (by decide) rfl (fun ls hl => ?_)
    refine lv_iload_n hx hb dX0_seek_25 rfl (lv_at hl 0 rfl) ?_
    refine lv_bipush (v := 32) hx hb dX0_seek_26 (by decide) ?_
    refine lv_icmp_ne (tgt := 35) hx hb dX0_seek_28 (by decide) (fun hc => ?_) (fun hc => ?_)
    · have h := Eq.mp (if_neg hc) h
      refine lv_iconst (v := 1) hx hb dX0_seek_35 (by decide) ?_
      refine lv_iload_n hx hb dX0_seek_36 rfl (lv_at hl 0 rfl) ?_
      refine lv_ishl hx hb dX0_seek_37 ?_
      refine lv_iconst (v := 1) hx hb dX0_seek_38 (by decide) ?_
      refine lv_isub hx hb dX0_seek_39 ?_
      exact wkCov_seek_b40 X hr hlk hR hcl hG  h hw (lv_sub hl [1] rfl)
    · have h := Eq.mp (if_pos hc) h
      refine lv_iconst (v := (-1)) hx hb dX0_seek_31 (by decide) ?_
      refine lv_goto (tgt := 40) hx hb dX0_seek_32 (by decide) ?_
      exact wkCov_seek_b40 X hr hlk hR hcl hG  h hw (lv_sub hl [1] rfl)
  · have h := Eq.mp (if_pos hc) h
    exact hm_vret X hr hlk hw ⟨_, rfl, h⟩ dX0_seek_8

theorem cNet_othersOf {l : Launch} {D : va_G} {cA : Nat → ClassId} {z sz : Nat} {I : HI} {T : HR} {F : HR} {L : HL} {r0 : Nat} {x1 : Int32} {Q : Int32 → Prop} (hcl : hCl Ev) (hn0 : NetSh F L r0) (h : Net_othersOf I r0 x1 Q) : Met l yX5_othersOf (hws0 yX5_othersOf cX5_othersOf 2 (some .int)) { frames := 0, cells := 0, slots := 0, locals := 0 } (hPc D cA z Ev (I, J, T, F, L) sz [.ref (z + r0), .int x1]) (va_Qi (p0 (I, J, T, F, L) Q) (hB D cA z (hA z L sz)) (hA z L sz)) 0 0 (hA z L sz) := by
  refine hm_met (I, J, T, F, L) [.ref (z + r0), .int x1] rfl (by decide) (Nat.le_of_ble_eq_true rfl) ?_
  intro p e s m below meth c ls X hr hlk hnm hxt hsz hw hl
  have hl : lv_has ls 2 [(0, .ref (z + r0)), (1, .int x1)] := hl
  have hR : 0 ≤ ({ frames := 0, cells := 0, slots := 0, locals := 0 } : Room).frames ∧ 0 ≤ ({ frames := 0, cells := 0, slots := 0, locals := 0 } : Room).locals := ⟨Nat.le_refl _, Nat.le_refl _⟩
  generalize ({ frames := 0, cells := 0, slots := 0, locals := 0 } : Room) = R at hR ⊢
  clear hsz
  generalize (hA z L sz) = A at hw ⊢
  have hx := X.1
  have hb := X.2.1
  unfold Net_othersOf at h
  refine lv_iconst (v := 1) hx hb dX5_othersOf_0 (by decide) ?_
  refine lv_aload_n hx hb dX5_othersOf_1 rfl (lv_at hl 0 rfl) ?_
  refine hm_geti X hw lk_5_44 hn0.1 dX5_othersOf_2 ?_
  refine lv_ishl hx hb dX5_othersOf_5 ?_
  refine lv_iconst (v := 1) hx hb dX5_othersOf_6 (by decide) ?_
  refine lv_isub hx hb dX5_othersOf_7 ?_
  refine lv_iconst (v := 1) hx hb dX5_othersOf_8 (by decide) ?_
  refine lv_iload_n hx hb dX5_othersOf_9 rfl (lv_at hl 1 rfl) ?_
  refine lv_ishl hx hb dX5_othersOf_10 ?_
  refine lv_iconst (v := (-1)) hx hb dX5_othersOf_11 (by decide) ?_
  refine lv_ixor hx hb dX5_othersOf_12 ?_
  refine lv_iand hx hb dX5_othersOf_13 ?_
  exact hm_iret X hr hlk hw ⟨rfl, h⟩ dX5_othersOf_14

theorem wkNet_countViews_b56 {I : HI} {T : HR} {F : HR} {L : HL} {r0 : Nat} {x1 : Int32} {x2 : Int32} {x3 : Int32} {K4 : Int32 → Int32 → Prop} {Q : Int32 → Prop} (X : hX p m c s args RX5 cX5_countViews 4) (hr : meth.sig.returnType = (some .int)) (hlk : meth.locks = false) (hR : 0 ≤ R.frames ∧ 0 ≤ R.locals) (hcl : hCl Ev) (hn0 : NetSh F L r0) (hK4 : ∀ (x2 : Int32) (x3 : Int32) {ls : Array Slot} {H : Heap} {locs : List Loc}, K4 x2 x3 → hW D cA z Ev (I, J, T, F, L) A s H locs → lv_has ls 4 [(0, .ref (z + r0)), (1, .int x1), (2, .int x2), (3, .int x3)] → W p l e R s m args below meth c H locs 0 0 (MQ below (va_Qi (p0 (I, J, T, F, L) Q) (hB D cA z A) A) args s 0 0 A) (F0 m 4 ls [])) : ∀ {ls : Array Slot} {H : Heap} {locs : List Loc}, Net_countViews_b56 I r0 x1 x2 x3 K4 Q → hW D cA z Ev (I, J, T, F, L) A s H locs → lv_has ls 4 [(0, .ref (z + r0)), (1, .int x1), (2, .int x2), (3, .int x3)] → W p l e R s m args below meth c H locs 0 0 (MQ below (va_Qi (p0 (I, J, T, F, L) Q) (hB D cA z A) A) args s 0 0 A) (F0 m 56 ls []) := by
  have hx := X.1
  have hb := X.2.1
  intro ls H locs h hw hl
  unfold Net_countViews_b56 at h
  refine lv_iload_n hx hb dX5_countViews_56 rfl (lv_at hl 2 rfl) ?_
  refine lv_sipush (v := 1024) hx hb dX5_countViews_57 (by decide) ?_
  refine lv_icmp_le (tgt := 65) hx hb dX5_countViews_60 (by decide) (fun hc => ?_) (fun hc => ?_)
  · have h := Eq.mp (if_pos hc) h
    refine lv_iinc (v := x3 + 1) (lv' := [(3, _), (0, _), (1, _), (2, _)]) hx hb dX5_countViews_65 hl (k := 3) rfl rfl (by decide) rfl (fun ls hl => ?_)
    refine lv_goto (tgt := 4) hx hb dX5_countViews_68 (by decide) ?_
    exact hK4 _ _ h hw (lv_sub hl [1, 2, 3, 0] rfl)
  · have h := Eq.mp (if_neg hc) h
    refine lv_iconst (v := (-1)) hx hb dX5_countViews_63 (by decide) ?_
    exact hm_iret X hr hlk hw ⟨rfl, h⟩ dX5_countViews_64

theorem wkNet_countViews_b33 {I : HI} {T : HR} {F : HR} {L : HL} {r0 : Nat} {x1 : Int32} {x2 : Int32} {x3 : Int32} {K4 : Int32 → Int32 → Prop} {Q : Int32 → Prop} (X : hX p m c s args RX5 cX5_countViews 4) (hr : meth.sig.returnType = (some .int)) (hlk : meth.locks = false) (hR : 0 ≤ R.frames ∧ 0 ≤ R.locals) (hcl : hCl Ev) (hn0 : NetSh F L r0) (hK4 : ∀ (x2 : Int32) (x3 : Int32) {ls : Array Slot} {H : Heap} {locs : List Loc}, K4 x2 x3 → hW D cA z Ev (I, J, T, F, L) A s H locs → lv_has ls 4 [(0, .ref (z + r0)), (1, .int x1), (2, .int x2), (3, .int x3)] → W p l e R s m args below meth c H locs 0 0 (MQ below (va_Qi (p0 (I, J, T, F, L) Q) (hB D cA z A) A) args s 0 0 A) (F0 m 4 ls [])) : ∀ {ls : Array Slot} {H : Heap} {locs : List Loc}, Net_countViews_b33 I r0 x1 x2 x3 K4 Q → hW D cA z Ev (I, J, T, F, L) A s H locs → lv_has ls 4 [(0, .ref (z + r0)), (1, .int x1), (2, .int x2), (3, .int x3)] → W p l e R s m args below meth c H locs 0 0 (MQ below (va_Qi (p0 (I, J, T, F, L) Q) (hB D cA z A) A) args s 0 0 A) (F0 m 33 ls []) := by
  have hx := X.1
  have hb := X.2.1
  intro ls H locs h hw hl
  unfold Net_countViews_b33 at h
  refine lv_aload_n hx hb dX5_countViews_33 rfl (lv_at hl 0 rfl) ?_
  refine hm_getr X hw lk_5_18 hn0.1 (nsf_5 hn0) dX5_countViews_34 ?_
  refine lv_iload_n hx hb dX5_countViews_37 rfl (lv_at hl 1 rfl) ?_
  obtain ⟨hi, h⟩ := h
  refine hm_iald X hw (nsm_5 hn0) hi dX5_countViews_38 ?_
  refine lv_iload_n hx hb dX5_countViews_39 rfl (lv_at hl 3 rfl) ?_
  refine lv_ishr hx hb dX5_countViews_40 ?_
  refine lv_iconst (v := 1) hx hb dX5_countViews_41 (by decide) ?_
  refine lv_iand hx hb dX5_countViews_42 ?_
  refine lv_iconst (v := 1) hx hb dX5_countViews_43 (by decide) ?_
  refine lv_icmp_ne (tgt := 56) hx hb dX5_countViews_44 (by decide) (fun hc => ?_) (fun hc => ?_)
  · have h := Eq.mp (if_neg hc) h
    exact wkNet_countViews_b56 X hr hlk hR hcl hn0 hK4 h hw (lv_sub hl [0, 1, 2, 3] rfl)
  · have h := Eq.mp (if_pos hc) h
    refine lv_iload_n hx hb dX5_countViews_47 rfl (lv_at hl 2 rfl) ?_
    refine lv_aload_n hx hb dX5_countViews_48 rfl (lv_at hl 0 rfl) ?_
    refine hm_geti X hw lk_5_48 hn0.1 dX5_countViews_49 ?_
    refine lv_iconst (v := 1) hx hb dX5_countViews_52 (by decide) ?_
    refine lv_iadd hx hb dX5_countViews_53 ?_
    refine lv_imul hx hb dX5_countViews_54 ?_
    refine lv_istore_n (lv' := [(2, _), (0, _), (1, _), (3, _)]) hx hb dX5_countViews_55 rfl hl (by decide) rfl (fun ls hl => ?_)
    exact wkNet_countViews_b56 X hr hlk hR hcl hn0 hK4 h hw (lv_sub hl [1, 2, 0, 3] rfl)

theorem wkNet_countViews_l4 {I : HI} {T : HR} {F : HR} {L : HL} {r0 : Nat} {x1 : Int32} {Q : Int32 → Prop} (X : hX p m c s args RX5 cX5_countViews 4) (hr : meth.sig.returnType = (some .int)) (hlk : meth.locks = false) (hR : 0 ≤ R.frames ∧ 0 ≤ R.locals) (hcl : hCl Ev) (hn0 : NetSh F L r0)  : ∀ (n : Nat) (x2 : Int32) (x3 : Int32) {ls : Array Slot} {H : Heap} {locs : List Loc}, Net_countViews_l4 I r0 x1 Q n x2 x3 → hW D cA z Ev (I, J, T, F, L) A s H locs → lv_has ls 4 [(0, .ref (z + r0)), (1, .int x1), (2, .int x2), (3, .int x3)] → W p l e R s m args below meth c H locs 0 0 (MQ below (va_Qi (p0 (I, J, T, F, L) Q) (hB D cA z A) A) args s 0 0 A) (F0 m 4 ls []) := by
  have hx := X.1
  have hb := X.2.1
  intro n
  induction n with
  | zero => intro x2 x3 ls H locs h; exact False.elim h
  | succ n ih =>
    intro x2 x3 ls H locs h hw hl
    rw [Net_countViews_l4] at h
    refine lv_iload_n hx hb dX5_countViews_4 rfl (lv_at hl 3 rfl) ?_
    refine lv_aload_n hx hb dX5_countViews_5 rfl (lv_at hl 0 rfl) ?_
    refine hm_geti X hw lk_5_44 hn0.1 dX5_countViews_6 ?_
    refine lv_icmp_ge (tgt := 71) hx hb dX5_countViews_9 (by decide) (fun hc => ?_) (fun hc => ?_)
    · have h := Eq.mp (if_pos hc) h
      refine lv_iload_n hx hb dX5_countViews_71 rfl (lv_at hl 2 rfl) ?_
      exact hm_iret X hr hlk hw ⟨rfl, h⟩ dX5_countViews_72
    · have h := Eq.mp (if_neg hc) h
      refine lv_aload_n hx hb dX5_countViews_12 rfl (lv_at hl 0 rfl) ?_
      refine hm_getr X hw lk_5_9 hn0.1 (nsf_3 hn0) dX5_countViews_13 ?_
      refine lv_iload_n hx hb dX5_countViews_16 rfl (lv_at hl 1 rfl) ?_
      obtain ⟨hi, h⟩ := h
      refine hm_iald X hw (nsm_3 hn0) hi dX5_countViews_17 ?_
      refine lv_iload_n hx hb dX5_countViews_18 rfl (lv_at hl 3 rfl) ?_
      refine lv_ishr hx hb dX5_countViews_19 ?_
      refine lv_iconst (v := 1) hx hb dX5_countViews_20 (by decide) ?_
      refine lv_iand hx hb dX5_countViews_21 ?_
      refine lv_iconst (v := 1) hx hb dX5_countViews_22 (by decide) ?_
      refine lv_icmp_ne (tgt := 33) hx hb dX5_countViews_23 (by decide) (fun hc => ?_) (fun hc => ?_)
      · have h := Eq.mp (if_neg hc) h
        exact wkNet_countViews_b33 X hr hlk hR hcl hn0 ih h hw (lv_sub hl [0, 1, 2, 3] rfl)
      · have h := Eq.mp (if_pos hc) h
        refine lv_iload_n hx hb dX5_countViews_26 rfl (lv_at hl 2 rfl) ?_
        refine lv_aload_n hx hb dX5_countViews_27 rfl (lv_at hl 0 rfl) ?_
        refine hm_geti X hw lk_5_48 hn0.1 dX5_countViews_28 ?_
        refine lv_imul hx hb dX5_countViews_31 ?_
        refine lv_istore_n (lv' := [(2, _), (0, _), (1, _), (3, _)]) hx hb dX5_countViews_32 rfl hl (by decide) rfl (fun ls hl => ?_)
        exact wkNet_countViews_b33 X hr hlk hR hcl hn0 ih h hw (lv_sub hl [1, 2, 0, 3] rfl)

theorem cNet_countViews {l : Launch} {D : va_G} {cA : Nat → ClassId} {z sz : Nat} {I : HI} {T : HR} {F : HR} {L : HL} {r0 : Nat} {x1 : Int32} {Q : Int32 → Prop} (hcl : hCl Ev) (hn0 : NetSh F L r0) (h : Net_countViews I r0 x1 Q) : Met l yX5_countViews (hws0 yX5_countViews cX5_countViews 4 (some .int)) { frames := 0, cells := 0, slots := 0, locals := 0 } (hPc D cA z Ev (I, J, T, F, L) sz [.ref (z + r0), .int x1]) (va_Qi (p0 (I, J, T, F, L) Q) (hB D cA z (hA z L sz)) (hA z L sz)) 0 0 (hA z L sz) := by
  refine hm_met (I, J, T, F, L) [.ref (z + r0), .int x1] rfl (by decide) (Nat.le_of_ble_eq_true rfl) ?_
  intro p e s m below meth c ls X hr hlk hnm hxt hsz hw hl
  have hl : lv_has ls 4 [(0, .ref (z + r0)), (1, .int x1)] := hl
  have hR : 0 ≤ ({ frames := 0, cells := 0, slots := 0, locals := 0 } : Room).frames ∧ 0 ≤ ({ frames := 0, cells := 0, slots := 0, locals := 0 } : Room).locals := ⟨Nat.le_refl _, Nat.le_refl _⟩
  generalize ({ frames := 0, cells := 0, slots := 0, locals := 0 } : Room) = R at hR ⊢
  clear hsz
  generalize (hA z L sz) = A at hw ⊢
  have hx := X.1
  have hb := X.2.1
  unfold Net_countViews at h
  refine lv_iconst (v := 1) hx hb dX5_countViews_0 (by decide) ?_
  refine lv_istore_n (lv' := [(2, _), (0, _), (1, _)]) hx hb dX5_countViews_1 rfl hl (by decide) rfl (fun ls hl => ?_)
  refine lv_iconst (v := 0) hx hb dX5_countViews_2 (by decide) ?_
  refine lv_istore_n (lv' := [(3, _), (2, _), (0, _), (1, _)]) hx hb dX5_countViews_3 rfl hl (by decide) rfl (fun ls hl => ?_)
  obtain ⟨n2, h⟩ := h
  exact wkNet_countViews_l4 X hr hlk hR hcl hn0  n2 _ _ h hw (lv_sub hl [2, 3, 1, 0] rfl)

theorem wkNet_clearTable_l13 {T : HR} {F : HR} {L : HL} {r0 : Nat} {x1 : Int32} {Q : HI → Prop} (X : hX p m c s args RX5 cX5_clearTable 3) (hr : meth.sig.returnType = none) (hlk : meth.locks = false) (hR : 1 ≤ R.frames ∧ 23 ≤ R.locals) (hcl : hCl Ev) (hn0 : NetSh F L r0)  : ∀ (n : Nat) (I : HI) (x2 : Int32) {ls : Array Slot} {H : Heap} {locs : List Loc}, Net_clearTable_l13 r0 x1 Q n I x2 → hW D cA z Ev (I, J, T, F, L) A s H locs → lv_has ls 3 [(0, .ref (z + r0)), (1, .int x1), (2, .int x2)] → W p l e R s m args below meth c H locs 0 0 (MQ below (va_Qv (pIv J T F L Q) (hB D cA z A) A) args s 0 0 A) (F0 m 13 ls []) := by
  have hx := X.1
  have hb := X.2.1
  intro n
  induction n with
  | zero => intro I x2 ls H locs h; exact False.elim h
  | succ n ih =>
    intro I x2 ls H locs h hw hl
    rw [Net_clearTable_l13] at h
    refine lv_iload_n hx hb dX5_clearTable_13 rfl (lv_at hl 2 rfl) ?_
    refine lv_aload_n hx hb dX5_clearTable_14 rfl (lv_at hl 0 rfl) ?_
    refine hm_getr X hw lk_5_21 hn0.1 (nsf_6 hn0) dX5_clearTable_15 ?_
    refine lv_iload_n hx hb dX5_clearTable_18 rfl (lv_at hl 1 rfl) ?_
    obtain ⟨hi, h⟩ := h
    refine hm_iald X hw (nsm_6 hn0) hi dX5_clearTable_19 ?_
    refine lv_icmp_ge (tgt := 42) hx hb dX5_clearTable_20 (by decide) (fun hc => ?_) (fun hc => ?_)
    · have h := Eq.mp (if_pos hc) h
      exact hm_vret X hr hlk hw ⟨_, rfl, h⟩ dX5_clearTable_42
    · have h := Eq.mp (if_neg hc) h
      refine lv_aload_n hx hb dX5_clearTable_23 rfl (lv_at hl 0 rfl) ?_
      refine hm_getr X hw lk_5_33 hn0.1 (nsf_9 hn0) dX5_clearTable_24 ?_
      refine lv_iload_n hx hb dX5_clearTable_27 rfl (lv_at hl 1 rfl) ?_
      refine lv_sipush (v := 1024) hx hb dX5_clearTable_28 (by decide) ?_
      refine lv_imul hx hb dX5_clearTable_31 ?_
      refine lv_iload_n hx hb dX5_clearTable_32 rfl (lv_at hl 2 rfl) ?_
      refine lv_iadd hx hb dX5_clearTable_33 ?_
      refine lv_iconst (v := 0) hx hb dX5_clearTable_34 (by decide) ?_
      obtain ⟨hi, h⟩ := h
      refine hm_bast X hw (nsm_9 hn0) hi dX5_clearTable_35 (fun H locs hw => ?_)
      refine lv_iinc (v := x2 + 1) (lv' := [(2, _), (0, _), (1, _)]) hx hb dX5_clearTable_36 hl (k := 2) rfl rfl (by decide) rfl (fun ls hl => ?_)
      refine lv_goto (tgt := 13) hx hb dX5_clearTable_39 (by decide) ?_
      exact ih _ _ h hw (lv_sub hl [1, 2, 0] rfl)

theorem cNet_clearTable {l : Launch} {D : va_G} {cA : Nat → ClassId} {z sz : Nat} {I : HI} {T : HR} {F : HR} {L : HL} {r0 : Nat} {x1 : Int32} {Q : HI → Prop} (hcl : hCl Ev) (hn0 : NetSh F L r0) (h : Net_clearTable I r0 x1 Q) : Met l yX5_clearTable (hws0 yX5_clearTable cX5_clearTable 3 none) { frames := 1, cells := 0, slots := 0, locals := 23 } (hPc D cA z Ev (I, J, T, F, L) sz [.ref (z + r0), .int x1]) (va_Qv (pIv J T F L Q) (hB D cA z (hA z L sz)) (hA z L sz)) 0 0 (hA z L sz) := by
  refine hm_met (I, J, T, F, L) [.ref (z + r0), .int x1] rfl (by decide) (Nat.le_of_ble_eq_true rfl) ?_
  intro p e s m below meth c ls X hr hlk hnm hxt hsz hw hl
  have hl : lv_has ls 3 [(0, .ref (z + r0)), (1, .int x1)] := hl
  have hR : 1 ≤ ({ frames := 1, cells := 0, slots := 0, locals := 23 } : Room).frames ∧ 23 ≤ ({ frames := 1, cells := 0, slots := 0, locals := 23 } : Room).locals := ⟨Nat.le_refl _, Nat.le_refl _⟩
  generalize ({ frames := 1, cells := 0, slots := 0, locals := 23 } : Room) = R at hR ⊢
  clear hsz
  generalize (hA z L sz) = A at hw ⊢
  have hx := X.1
  have hb := X.2.1
  unfold Net_clearTable at h
  refine lv_aload_n hx hb dX5_clearTable_0 rfl (lv_at hl 0 rfl) ?_
  refine hm_getr X hw lk_5_21 hn0.1 (nsf_6 hn0) dX5_clearTable_1 ?_
  refine lv_iload_n hx hb dX5_clearTable_4 rfl (lv_at hl 1 rfl) ?_
  refine lv_aload_n hx hb dX5_clearTable_5 rfl (lv_at hl 0 rfl) ?_
  refine lv_iload_n hx hb dX5_clearTable_6 rfl (lv_at hl 1 rfl) ?_
  refine hm_calli hw (hm_runV (rest := [_, _]) hcl X hw (cNet_countViews hcl hn0 h) yk_X5_countViews kw162 rfl hn0.1 rfl hl.1 rfl rfl rfl (Nat.le_of_ble_eq_true rfl) ⟨Nat.le_trans (Nat.le_of_ble_eq_true rfl) hR.1, Nat.le_trans (Nat.le_of_ble_eq_true rfl) hR.2⟩ ⟨Nat.zero_le _, Nat.zero_le _⟩ dX5_clearTable_7) (fun a1 u2 H locs hp hw => ?_)
  obtain ⟨rfl, h⟩ := hp
  obtain ⟨hi, h⟩ := h
  refine hm_iast X hw (nsm_6 hn0) hi dX5_clearTable_10 (fun H locs hw => ?_)
  refine lv_iconst (v := 0) hx hb dX5_clearTable_11 (by decide) ?_
  refine lv_istore_n (lv' := [(2, _), (0, _), (1, _)]) hx hb dX5_clearTable_12 rfl hl (by decide) rfl (fun ls hl => ?_)
  obtain ⟨n2, h⟩ := h
  exact wkNet_clearTable_l13 X hr hlk hR hcl hn0  n2 _ _ h hw (lv_sub hl [1, 2, 0] rfl)

theorem cNet_startTable {l : Launch} {D : va_G} {cA : Nat → ClassId} {z sz : Nat} {I : HI} {T : HR} {F : HR} {L : HL} {r0 : Nat} {x1 : Int32} {Q : HI → HR → Prop} (hcl : hCl Ev) (hn0 : NetSh F L r0) (h : Net_startTable I T L r0 x1 Q) : Met l yX5_startTable (hws0 yX5_startTable cX5_startTable 2 none) { frames := 2, cells := 0, slots := 0, locals := 45 } (hPc D cA z Ev (I, J, T, F, L) sz [.ref (z + r0), .int x1]) (va_Qv (pITv J F L Q) (hB D cA z (hA z L sz)) (hA z L sz)) 0 0 (hA z L sz) := by
  refine hm_met (I, J, T, F, L) [.ref (z + r0), .int x1] rfl (by decide) (Nat.le_of_ble_eq_true rfl) ?_
  intro p e s m below meth c ls X hr hlk hnm hxt hsz hw hl
  have hl : lv_has ls 2 [(0, .ref (z + r0)), (1, .int x1)] := hl
  have hR : 2 ≤ ({ frames := 2, cells := 0, slots := 0, locals := 45 } : Room).frames ∧ 45 ≤ ({ frames := 2, cells := 0, slots := 0, locals := 45 } : Room).locals := ⟨Nat.le_refl _, Nat.le_refl _⟩
  generalize ({ frames := 2, cells := 0, slots := 0, locals := 45 } : Room) = R at hR ⊢
  clear hsz
  generalize (hA z L sz) = A at hw ⊢
  have hx := X.1
  have hb := X.2.1
  unfold Net_startTable at h
  refine lv_aload_n hx hb dX5_startTable_0 rfl (lv_at hl 0 rfl) ?_
  refine hm_getr X hw lk_5_29 hn0.1 (nsf_8 hn0) dX5_startTable_1 ?_
  refine lv_iload_n hx hb dX5_startTable_4 rfl (lv_at hl 1 rfl) ?_
  refine lv_null hx hb dX5_startTable_5 ?_
  obtain ⟨hi, h⟩ := h
  refine hm_astq5 (v := none) X hw (nsm_8 hn0) (fun _ h => by cases h) hi dX5_startTable_6 (fun H locs hw => ?_)
  refine lv_aload_n hx hb dX5_startTable_7 rfl (lv_at hl 0 rfl) ?_
  refine lv_iload_n hx hb dX5_startTable_8 rfl (lv_at hl 1 rfl) ?_
  refine hm_callv hw (hm_runV (rest := []) hcl X hw (cNet_clearTable hcl hn0 h) yk_X5_clearTable kw158 rfl hn0.1 rfl hl.1 rfl rfl rfl (Nat.le_of_ble_eq_true rfl) ⟨Nat.le_trans (Nat.le_of_ble_eq_true rfl) hR.1, Nat.le_trans (Nat.le_of_ble_eq_true rfl) hR.2⟩ ⟨Nat.zero_le _, Nat.zero_le _⟩ dX5_startTable_9) (fun u2 H locs hp hw => ?_)
  obtain ⟨I1, rfl, h⟩ := hp
  exact hm_vret X hr hlk hw ⟨_, _, rfl, h⟩ dX5_startTable_12

theorem wkNet_lookAtAllAtOnce_l2 {F : HR} {L : HL} {r0 : Nat} {Q : HI → HR → Prop} (X : hX p m c s args RX5 cX5_lookAtAllAtOnce 2) (hr : meth.sig.returnType = none) (hlk : meth.locks = false) (hR : 3 ≤ R.frames ∧ 66 ≤ R.locals) (hcl : hCl Ev) (hn0 : NetSh F L r0)  : ∀ (n : Nat) (I : HI) (T : HR) (x1 : Int32) {ls : Array Slot} {H : Heap} {locs : List Loc}, Net_lookAtAllAtOnce_l2 L r0 Q n I T x1 → hW D cA z Ev (I, J, T, F, L) A s H locs → lv_has ls 2 [(0, .ref (z + r0)), (1, .int x1)] → W p l e R s m args below meth c H locs 0 0 (MQ below (va_Qv (pITv J F L Q) (hB D cA z A) A) args s 0 0 A) (F0 m 2 ls []) := by
  have hx := X.1
  have hb := X.2.1
  intro n
  induction n with
  | zero => intro I T x1 ls H locs h; exact False.elim h
  | succ n ih =>
    intro I T x1 ls H locs h hw hl
    rw [Net_lookAtAllAtOnce_l2] at h
    refine lv_iload_n hx hb dX5_lookAtAllAtOnce_2 rfl (lv_at hl 1 rfl) ?_
    refine lv_aload_n hx hb dX5_lookAtAllAtOnce_3 rfl (lv_at hl 0 rfl) ?_
    refine hm_geti X hw lk_5_44 hn0.1 dX5_lookAtAllAtOnce_4 ?_
    refine lv_icmp_ge (tgt := 53) hx hb dX5_lookAtAllAtOnce_7 (by decide) (fun hc => ?_) (fun hc => ?_)
    · have h := Eq.mp (if_pos hc) h
      exact hm_vret X hr hlk hw ⟨_, _, rfl, h⟩ dX5_lookAtAllAtOnce_53
    · have h := Eq.mp (if_neg hc) h
      refine lv_aload_n hx hb dX5_lookAtAllAtOnce_10 rfl (lv_at hl 0 rfl) ?_
      refine hm_getr X hw lk_5_9 hn0.1 (nsf_3 hn0) dX5_lookAtAllAtOnce_11 ?_
      refine lv_iload_n hx hb dX5_lookAtAllAtOnce_14 rfl (lv_at hl 1 rfl) ?_
      refine lv_aload_n hx hb dX5_lookAtAllAtOnce_15 rfl (lv_at hl 0 rfl) ?_
      refine lv_iload_n hx hb dX5_lookAtAllAtOnce_16 rfl (lv_at hl 1 rfl) ?_
      refine hm_calli hw (hm_runV (rest := [_, _]) hcl X hw (cNet_othersOf hcl hn0 h) yk_X5_othersOf kw150 rfl hn0.1 rfl hl.1 rfl rfl rfl (Nat.le_of_ble_eq_true rfl) ⟨Nat.le_trans (Nat.le_of_ble_eq_true rfl) hR.1, Nat.le_trans (Nat.le_of_ble_eq_true rfl) hR.2⟩ ⟨Nat.zero_le _, Nat.zero_le _⟩ dX5_lookAtAllAtOnce_17) (fun a1 u2 H locs hp hw => ?_)
      obtain ⟨rfl, h⟩ := hp
      obtain ⟨hi, h⟩ := h
      refine hm_iast X hw (nsm_3 hn0) hi dX5_lookAtAllAtOnce_20 (fun H locs hw => ?_)
      refine lv_aload_n hx hb dX5_lookAtAllAtOnce_21 rfl (lv_at hl 0 rfl) ?_
      refine hm_getr X hw lk_5_15 hn0.1 (nsf_4 hn0) dX5_lookAtAllAtOnce_22 ?_
      refine lv_iload_n hx hb dX5_lookAtAllAtOnce_25 rfl (lv_at hl 1 rfl) ?_
      refine lv_iconst (v := 0) hx hb dX5_lookAtAllAtOnce_26 (by decide) ?_
      obtain ⟨hi, h⟩ := h
      refine hm_iast X hw (nsm_4 hn0) hi dX5_lookAtAllAtOnce_27 (fun H locs hw => ?_)
      refine lv_aload_n hx hb dX5_lookAtAllAtOnce_28 rfl (lv_at hl 0 rfl) ?_
      refine hm_getr X hw lk_5_18 hn0.1 (nsf_5 hn0) dX5_lookAtAllAtOnce_29 ?_
      refine lv_iload_n hx hb dX5_lookAtAllAtOnce_32 rfl (lv_at hl 1 rfl) ?_
      refine lv_iconst (v := 0) hx hb dX5_lookAtAllAtOnce_33 (by decide) ?_
      obtain ⟨hi, h⟩ := h
      refine hm_iast X hw (nsm_5 hn0) hi dX5_lookAtAllAtOnce_34 (fun H locs hw => ?_)
      refine lv_aload_n hx hb dX5_lookAtAllAtOnce_35 rfl (lv_at hl 0 rfl) ?_
      refine hm_getr X hw lk_5_24 hn0.1 (nsf_7 hn0) dX5_lookAtAllAtOnce_36 ?_
      refine lv_iload_n hx hb dX5_lookAtAllAtOnce_39 rfl (lv_at hl 1 rfl) ?_
      refine lv_iload_n hx hb dX5_lookAtAllAtOnce_40 rfl (lv_at hl 1 rfl) ?_
      obtain ⟨hi, h⟩ := h
      refine hm_iast X hw (nsm_7 hn0) hi dX5_lookAtAllAtOnce_41 (fun H locs hw => ?_)
      refine lv_aload_n hx hb dX5_lookAtAllAtOnce_42 rfl (lv_at hl 0 rfl) ?_
      refine lv_iload_n hx hb dX5_lookAtAllAtOnce_43 rfl (lv_at hl 1 rfl) ?_
      refine hm_callv hw (hm_runV (rest := []) hcl X hw (cNet_startTable hcl hn0 h) yk_X5_startTable kw154 rfl hn0.1 rfl hl.1 rfl rfl rfl (Nat.le_of_ble_eq_true rfl) ⟨Nat.le_trans (Nat.le_of_ble_eq_true rfl) hR.1, Nat.le_trans (Nat.le_of_ble_eq_true rfl) hR.2⟩ ⟨Nat.zero_le _, Nat.zero_le _⟩ dX5_lookAtAllAtOnce_44) (fun u5 H locs hp hw => ?_)
      obtain ⟨I3, T4, rfl, h⟩ := hp
      refine lv_iinc (v := x1 + 1) (lv' := [(1, _), (0, _)]) hx hb dX5_lookAtAllAtOnce_47 hl (k := 1) rfl rfl (by decide) rfl (fun ls hl => ?_)
      refine lv_goto (tgt := 2) hx hb dX5_lookAtAllAtOnce_50 (by decide) ?_
      exact ih _ _ _ h hw (lv_sub hl [1, 0] rfl)

theorem cNet_lookAtAllAtOnce {l : Launch} {D : va_G} {cA : Nat → ClassId} {z sz : Nat} {I : HI} {T : HR} {F : HR} {L : HL} {r0 : Nat} {Q : HI → HR → Prop} (hcl : hCl Ev) (hn0 : NetSh F L r0) (h : Net_lookAtAllAtOnce I T L r0 Q) : Met l yX5_lookAtAllAtOnce (hws0 yX5_lookAtAllAtOnce cX5_lookAtAllAtOnce 2 none) { frames := 3, cells := 0, slots := 0, locals := 66 } (hPc D cA z Ev (I, J, T, F, L) sz [.ref (z + r0)]) (va_Qv (pITv J F L Q) (hB D cA z (hA z L sz)) (hA z L sz)) 0 0 (hA z L sz) := by
  refine hm_met (I, J, T, F, L) [.ref (z + r0)] rfl (by decide) (Nat.le_of_ble_eq_true rfl) ?_
  intro p e s m below meth c ls X hr hlk hnm hxt hsz hw hl
  have hl : lv_has ls 2 [(0, .ref (z + r0))] := hl
  have hR : 3 ≤ ({ frames := 3, cells := 0, slots := 0, locals := 66 } : Room).frames ∧ 66 ≤ ({ frames := 3, cells := 0, slots := 0, locals := 66 } : Room).locals := ⟨Nat.le_refl _, Nat.le_refl _⟩
  generalize ({ frames := 3, cells := 0, slots := 0, locals := 66 } : Room) = R at hR ⊢
  clear hsz
  generalize (hA z L sz) = A at hw ⊢
  have hx := X.1
  have hb := X.2.1
  unfold Net_lookAtAllAtOnce at h
  refine lv_iconst (v := 0) hx hb dX5_lookAtAllAtOnce_0 (by decide) ?_
  refine lv_istore_n (lv' := [(1, _), (0, _)]) hx hb dX5_lookAtAllAtOnce_1 rfl hl (by decide) rfl (fun ls hl => ?_)
  obtain ⟨n2, h⟩ := h
  exact wkNet_lookAtAllAtOnce_l2 X hr hlk hR hcl hn0  n2 _ _ _ h hw (lv_sub hl [1, 0] rfl)

theorem wkCov_isChosen_l2 {I : HI} {T : HR} {F : HR} {L : HL} {x1 : Int32} {Q : Int32 → Prop} (X : hX p m c s args RX0 cX0_isChosen 3) (hr : meth.sig.returnType = (some .boolean)) (hlk : meth.locks = false) (hR : 0 ≤ R.frames ∧ 0 ≤ R.locals) (hcl : hCl Ev) (hG : Geo F L)  : ∀ (n : Nat) (x2 : Int32) {ls : Array Slot} {H : Heap} {locs : List Loc}, Cov_isChosen_l2 I x1 Q n x2 → hW D cA z Ev (I, J, T, F, L) A s H locs → lv_has ls 3 [(0, .ref (z + 44)), (1, .int x1), (2, .int x2)] → W p l e R s m args below meth c H locs 0 0 (MQ below (va_Qi (p0 (I, J, T, F, L) Q) (hB D cA z A) A) args s 0 0 A) (F0 m 2 ls []) := by
  have hx := X.1
  have hb := X.2.1
  intro n
  induction n with
  | zero => intro x2 ls H locs h; exact False.elim h
  | succ n ih =>
    intro x2 ls H locs h hw hl
    rw [Cov_isChosen_l2] at h
    refine lv_iload_n hx hb dX0_isChosen_2 rfl (lv_at hl 2 rfl) ?_
    refine lv_aload_n hx hb dX0_isChosen_3 rfl (lv_at hl 0 rfl) ?_
    refine hm_geti X hw lk_0_9 (gl_44 hG) dX0_isChosen_4 ?_
    refine lv_icmp_ge (tgt := 28) hx hb dX0_isChosen_7 (by decide) (fun hc => ?_) (fun hc => ?_)
    · have h := Eq.mp (if_pos hc) h
      refine lv_iconst (v := 0) hx hb dX0_isChosen_28 (by decide) ?_
      exact hm_zret X hr hlk hw zb_0 ⟨rfl, h⟩ dX0_isChosen_29
    · have h := Eq.mp (if_neg hc) h
      refine lv_aload_n hx hb dX0_isChosen_10 rfl (lv_at hl 0 rfl) ?_
      refine hm_getr X hw lk_0_15 (gl_44 hG) (gf_44_1 hG) dX0_isChosen_11 ?_
      refine lv_iload_n hx hb dX0_isChosen_14 rfl (lv_at hl 2 rfl) ?_
      obtain ⟨hi, h⟩ := h
      refine hm_iald X hw (gl_45 hG) hi dX0_isChosen_15 ?_
      refine lv_iload_n hx hb dX0_isChosen_16 rfl (lv_at hl 1 rfl) ?_
      refine lv_icmp_ne (tgt := 22) hx hb dX0_isChosen_17 (by decide) (fun hc => ?_) (fun hc => ?_)
      · have h := Eq.mp (if_neg hc) h
        refine lv_iinc (v := x2 + 1) (lv' := [(2, _), (0, _), (1, _)]) hx hb dX0_isChosen_22 hl (k := 2) rfl rfl (by decide) rfl (fun ls hl => ?_)
        refine lv_goto (tgt := 2) hx hb dX0_isChosen_25 (by decide) ?_
        exact ih _ h hw (lv_sub hl [1, 2, 0] rfl)
      · have h := Eq.mp (if_pos hc) h
        refine lv_iconst (v := 1) hx hb dX0_isChosen_20 (by decide) ?_
        exact hm_zret X hr hlk hw zb_1 ⟨rfl, h⟩ dX0_isChosen_21

theorem cCov_isChosen {l : Launch} {D : va_G} {cA : Nat → ClassId} {z sz : Nat} {I : HI} {T : HR} {F : HR} {L : HL} {x1 : Int32} {Q : Int32 → Prop} (hcl : hCl Ev) (hG : Geo F L) (h : Cov_isChosen I x1 Q) : Met l yX0_isChosen (hws0 yX0_isChosen cX0_isChosen 3 (some .boolean)) { frames := 0, cells := 0, slots := 0, locals := 0 } (hPc D cA z Ev (I, J, T, F, L) sz [.ref (z + 44), .int x1]) (va_Qi (p0 (I, J, T, F, L) Q) (hB D cA z (hA z L sz)) (hA z L sz)) 0 0 (hA z L sz) := by
  refine hm_met (I, J, T, F, L) [.ref (z + 44), .int x1] rfl (by decide) (Nat.le_of_ble_eq_true rfl) ?_
  intro p e s m below meth c ls X hr hlk hnm hxt hsz hw hl
  have hl : lv_has ls 3 [(0, .ref (z + 44)), (1, .int x1)] := hl
  have hR : 0 ≤ ({ frames := 0, cells := 0, slots := 0, locals := 0 } : Room).frames ∧ 0 ≤ ({ frames := 0, cells := 0, slots := 0, locals := 0 } : Room).locals := ⟨Nat.le_refl _, Nat.le_refl _⟩
  generalize ({ frames := 0, cells := 0, slots := 0, locals := 0 } : Room) = R at hR ⊢
  clear hsz
  generalize (hA z L sz) = A at hw ⊢
  have hx := X.1
  have hb := X.2.1
  unfold Cov_isChosen at h
  refine lv_iconst (v := 0) hx hb dX0_isChosen_0 (by decide) ?_
  refine lv_istore_n (lv' := [(2, _), (0, _), (1, _)]) hx hb dX0_isChosen_1 rfl hl (by decide) rfl (fun ls hl => ?_)
  obtain ⟨n2, h⟩ := h
  exact wkCov_isChosen_l2 X hr hlk hR hcl hG  n2 _ h hw (lv_sub hl [1, 2, 0] rfl)

theorem cCov_guessBetween {l : Launch} {D : va_G} {cA : Nat → ClassId} {z sz : Nat} {I : HI} {T : HR} {F : HR} {L : HL} {x0 : Int32} {x1 : Int32} {Q : Int32 → Prop} (hcl : hCl Ev) (h : Cov_guessBetween  x0 x1 Q) : Met l yX0_guessBetween (hws0 yX0_guessBetween cX0_guessBetween 2 (some .int)) { frames := 0, cells := 0, slots := 0, locals := 0 } (hPc D cA z Ev (I, J, T, F, L) sz [.int x0, .int x1]) (va_Qi (p0 (I, J, T, F, L) Q) (hB D cA z (hA z L sz)) (hA z L sz)) 0 0 (hA z L sz) := by
  refine hm_met (I, J, T, F, L) [.int x0, .int x1] rfl (by decide) (Nat.le_of_ble_eq_true rfl) ?_
  intro p e s m below meth c ls X hr hlk hnm hxt hsz hw hl
  have hl : lv_has ls 2 [(0, .int x0), (1, .int x1)] := hl
  have hR : 0 ≤ ({ frames := 0, cells := 0, slots := 0, locals := 0 } : Room).frames ∧ 0 ≤ ({ frames := 0, cells := 0, slots := 0, locals := 0 } : Room).locals := ⟨Nat.le_refl _, Nat.le_refl _⟩
  generalize ({ frames := 0, cells := 0, slots := 0, locals := 0 } : Room) = R at hR ⊢
  clear hsz
  generalize (hA z L sz) = A at hw ⊢
  have hx := X.1
  have hb := X.2.1
  unfold Cov_guessBetween at h
  refine lv_iload_n hx hb dX0_guessBetween_0 rfl (lv_at hl 0 rfl) ?_
  refine lv_if_eq (tgt := 14) hx hb dX0_guessBetween_1 (by decide) (fun hc => ?_) (fun hc => ?_)
  · have h := Eq.mp (if_pos hc) h
    refine lv_iload_n hx hb dX0_guessBetween_14 rfl (lv_at hl 1 rfl) ?_
    refine lv_if_eq (tgt := 22) hx hb dX0_guessBetween_15 (by decide) (fun hc => ?_) (fun hc => ?_)
    · have h := Eq.mp (if_pos hc) h
      refine lv_iconst (v := 2) hx hb dX0_guessBetween_22 (by decide) ?_
      exact hm_iret X hr hlk hw ⟨rfl, h⟩ dX0_guessBetween_23
    · have h := Eq.mp (if_neg hc) h
      refine lv_iconst (v := 0) hx hb dX0_guessBetween_18 (by decide) ?_
      refine lv_goto (tgt := 23) hx hb dX0_guessBetween_19 (by decide) ?_
      exact hm_iret X hr hlk hw ⟨rfl, h⟩ dX0_guessBetween_23
  · have h := Eq.mp (if_neg hc) h
    refine lv_iload_n hx hb dX0_guessBetween_4 rfl (lv_at hl 1 rfl) ?_
    refine lv_if_eq (tgt := 12) hx hb dX0_guessBetween_5 (by decide) (fun hc => ?_) (fun hc => ?_)
    · have h := Eq.mp (if_pos hc) h
      refine lv_iconst (v := 1) hx hb dX0_guessBetween_12 (by decide) ?_
      exact hm_iret X hr hlk hw ⟨rfl, h⟩ dX0_guessBetween_13
    · have h := Eq.mp (if_neg hc) h
      refine lv_iconst (v := 0) hx hb dX0_guessBetween_8 (by decide) ?_
      refine lv_goto (tgt := 13) hx hb dX0_guessBetween_9 (by decide) ?_
      exact hm_iret X hr hlk hw ⟨rfl, h⟩ dX0_guessBetween_13

theorem cNet_setGuess {l : Launch} {D : va_G} {cA : Nat → ClassId} {z sz : Nat} {I : HI} {T : HR} {F : HR} {L : HL} {r0 : Nat} {x1 : Int32} {x2 : Int32} {x3 : Int32} {Q : HI → Prop} (hcl : hCl Ev) (hn0 : NetSh F L r0) (h : Net_setGuess I r0 x1 x2 x3 Q) : Met l yX5_setGuess (hws0 yX5_setGuess cX5_setGuess 4 none) { frames := 0, cells := 0, slots := 0, locals := 0 } (hPc D cA z Ev (I, J, T, F, L) sz [.ref (z + r0), .int x1, .int x2, .int x3]) (va_Qv (pIv J T F L Q) (hB D cA z (hA z L sz)) (hA z L sz)) 0 0 (hA z L sz) := by
  refine hm_met (I, J, T, F, L) [.ref (z + r0), .int x1, .int x2, .int x3] rfl (by decide) (Nat.le_of_ble_eq_true rfl) ?_
  intro p e s m below meth c ls X hr hlk hnm hxt hsz hw hl
  have hl : lv_has ls 4 [(0, .ref (z + r0)), (1, .int x1), (2, .int x2), (3, .int x3)] := hl
  have hR : 0 ≤ ({ frames := 0, cells := 0, slots := 0, locals := 0 } : Room).frames ∧ 0 ≤ ({ frames := 0, cells := 0, slots := 0, locals := 0 } : Room).locals := ⟨Nat.le_refl _, Nat.le_refl _⟩
  generalize ({ frames := 0, cells := 0, slots := 0, locals := 0 } : Room) = R at hR ⊢
  clear hsz
  generalize (hA z L sz) = A at hw ⊢
  have hx := X.1
  have hb := X.2.1
  unfold Net_setGuess at h
  refine lv_aload_n hx hb dX5_setGuess_0 rfl (lv_at hl 0 rfl) ?_
  refine hm_getr X hw lk_5_33 hn0.1 (nsf_9 hn0) dX5_setGuess_1 ?_
  refine lv_iload_n hx hb dX5_setGuess_4 rfl (lv_at hl 1 rfl) ?_
  refine lv_sipush (v := 1024) hx hb dX5_setGuess_5 (by decide) ?_
  refine lv_imul hx hb dX5_setGuess_8 ?_
  refine lv_iload_n hx hb dX5_setGuess_9 rfl (lv_at hl 2 rfl) ?_
  refine lv_iadd hx hb dX5_setGuess_10 ?_
  refine lv_iload_n hx hb dX5_setGuess_11 rfl (lv_at hl 3 rfl) ?_
  refine lv_i2b (v := ib x3) hx hb dX5_setGuess_12 rfl ?_
  obtain ⟨hi, h⟩ := h
  refine hm_bast X hw (nsm_9 hn0) hi dX5_setGuess_13 (fun H locs hw => ?_)
  exact hm_vret X hr hlk hw ⟨_, rfl, h⟩ dX5_setGuess_14

theorem wkCov_settle_l16 {T : HR} {F : HR} {L : HL} {r1 : Nat} {x2 : Int32} {K6 : HI → Int32 → Prop} {Q : HI → HR → Prop} (X : hX p m c s args RX0 cX0_settle 6) (hr : meth.sig.returnType = none) (hlk : meth.locks = false) (hR : 4 ≤ R.frames ∧ 87 ≤ R.locals) (hcl : hCl Ev) (hG : Geo F L) (hn1 : NetSh F L r1) (hK6 : ∀ (I : HI) (x2 : Int32) {ls : Array Slot} {H : Heap} {locs : List Loc}, K6 I x2 → hW D cA z Ev (I, J, T, F, L) A s H locs → lv_has ls 6 [(0, .ref (z + 44)), (1, .ref (z + r1)), (2, .int x2)] → W p l e R s m args below meth c H locs 0 0 (MQ below (va_Qv (pITv J F L Q) (hB D cA z A) A) args s 0 0 A) (F0 m 6 ls [])) : ∀ (n : Nat) (I : HI) (x3 : Int32) {ls : Array Slot} {H : Heap} {locs : List Loc}, Cov_settle_l16 T L r1 x2 K6 Q n I x3 → hW D cA z Ev (I, J, T, F, L) A s H locs → lv_has ls 6 [(0, .ref (z + 44)), (1, .ref (z + r1)), (2, .int x2), (3, .int x3)] → W p l e R s m args below meth c H locs 0 0 (MQ below (va_Qv (pITv J F L Q) (hB D cA z A) A) args s 0 0 A) (F0 m 16 ls []) := by
  have hx := X.1
  have hb := X.2.1
  intro n
  induction n with
  | zero => intro I x3 ls H locs h; exact False.elim h
  | succ n ih =>
    intro I x3 ls H locs h hw hl
    rw [Cov_settle_l16] at h
    refine lv_iload_n hx hb dX0_settle_16 rfl (lv_at hl 3 rfl) ?_
    refine lv_aload_n hx hb dX0_settle_17 rfl (lv_at hl 1 rfl) ?_
    refine hm_getr X hw lk_0_58 hn1.1 (nsf_6 hn1) dX0_settle_18 ?_
    refine lv_iload_n hx hb dX0_settle_21 rfl (lv_at hl 2 rfl) ?_
    obtain ⟨hi, h⟩ := h
    refine hm_iald X hw (nsm_6 hn1) hi dX0_settle_22 ?_
    refine lv_icmp_ge (tgt := 78) hx hb dX0_settle_23 (by decide) (fun hc => ?_) (fun hc => ?_)
    · have h := Eq.mp (if_pos hc) h
      refine lv_iinc (v := x2 + 1) (lv' := [(2, _), (0, _), (1, _), (3, _)]) hx hb dX0_settle_78 hl (k := 2) rfl rfl (by decide) rfl (fun ls hl => ?_)
      refine lv_goto (tgt := 6) hx hb dX0_settle_81 (by decide) ?_
      exact hK6 _ _ h hw (lv_sub hl [1, 2, 0] rfl)
    · have h := Eq.mp (if_neg hc) h
      refine lv_iload_n hx hb dX0_settle_26 rfl (lv_at hl 3 rfl) ?_
      refine lv_iconst (v := 1) hx hb dX0_settle_27 (by decide) ?_
      refine lv_iload_n hx hb dX0_settle_28 rfl (lv_at hl 2 rfl) ?_
      refine lv_ishl hx hb dX0_settle_29 ?_
      refine lv_iconst (v := 1) hx hb dX0_settle_30 (by decide) ?_
      refine lv_isub hx hb dX0_settle_31 ?_
      refine lv_iand hx hb dX0_settle_32 ?_
      refine lv_istore (lv' := [(4, _), (0, _), (1, _), (2, _), (3, _)]) hx hb dX0_settle_33 hl (by decide) rfl (fun ls hl => ?_)
      refine lv_iload_n hx hb dX0_settle_35 rfl (lv_at hl 4 rfl) ?_
      refine lv_iload_n hx hb dX0_settle_36 rfl (lv_at hl 3 rfl) ?_
      refine lv_ishr hx hb dX0_settle_37 ?_
      refine lv_iload_n hx hb dX0_settle_38 rfl (lv_at hl 3 rfl) ?_
      refine lv_iconst (v := 1) hx hb dX0_settle_39 (by decide) ?_
      refine lv_iadd hx hb dX0_settle_40 ?_
      refine lv_ishl hx hb dX0_settle_41 ?_
      refine lv_iload hx hb dX0_settle_42 (lv_at hl 0 rfl) ?_
      refine lv_ior hx hb dX0_settle_44 ?_
      refine lv_istore (lv' := [(5, _), (4, _), (0, _), (1, _), (2, _), (3, _)]) hx hb dX0_settle_45 hl (by decide) rfl (fun ls hl => ?_)
      refine lv_aload_n hx hb dX0_settle_47 rfl (lv_at hl 3 rfl) ?_
      refine lv_iload_n hx hb dX0_settle_48 rfl (lv_at hl 4 rfl) ?_
      refine lv_iload_n hx hb dX0_settle_49 rfl (lv_at hl 5 rfl) ?_
      refine lv_aload_n hx hb dX0_settle_50 rfl (lv_at hl 2 rfl) ?_
      refine lv_iload hx hb dX0_settle_51 (lv_at hl 0 rfl) ?_
      refine hm_calli hw (hm_runV (rest := [_, _, _]) hcl X hw (cCov_isChosen hcl hG h) yk_X0_isChosen kw694 rfl (gl_44 hG) rfl hl.1 rfl rfl rfl (Nat.le_of_ble_eq_true rfl) ⟨Nat.le_trans (Nat.le_of_ble_eq_true rfl) hR.1, Nat.le_trans (Nat.le_of_ble_eq_true rfl) hR.2⟩ ⟨Nat.zero_le _, Nat.zero_le _⟩ dX0_settle_53) (fun a4 u5 H locs hp hw => ?_)
      obtain ⟨rfl, h⟩ := hp
      refine lv_aload_n hx hb dX0_settle_56 rfl (lv_at hl 2 rfl) ?_
      refine lv_iload hx hb dX0_settle_57 (lv_at hl 0 rfl) ?_
      refine lv_iconst (v := 1) hx hb dX0_settle_59 (by decide) ?_
      refine lv_iload_n hx hb dX0_settle_60 rfl (lv_at hl 4 rfl) ?_
      refine lv_ishl hx hb dX0_settle_61 ?_
      refine lv_ior hx hb dX0_settle_62 ?_
      refine hm_calli hw (hm_runV (rest := [_, _, _, _]) hcl X hw (cCov_isChosen hcl hG h) yk_X0_isChosen kw694 rfl (gl_44 hG) rfl hl.1 rfl rfl rfl (Nat.le_of_ble_eq_true rfl) ⟨Nat.le_trans (Nat.le_of_ble_eq_true rfl) hR.1, Nat.le_trans (Nat.le_of_ble_eq_true rfl) hR.2⟩ ⟨Nat.zero_le _, Nat.zero_le _⟩ dX0_settle_63) (fun a6 u7 H locs hp hw => ?_)
      obtain ⟨rfl, h⟩ := hp
      refine hm_calli hw (hm_runS (rest := [_, _, _]) hcl X hw (cCov_guessBetween hcl h) yk_X0_guessBetween kw698 rfl hl.1 rfl rfl rfl (Nat.le_of_ble_eq_true rfl) ⟨Nat.le_trans (Nat.le_of_ble_eq_true rfl) hR.1, Nat.le_trans (Nat.le_of_ble_eq_true rfl) hR.2⟩ ⟨Nat.zero_le _, Nat.zero_le _⟩ dX0_settle_66) (fun a8 u9 H locs hp hw => ?_)
      obtain ⟨rfl, h⟩ := hp
      refine hm_callv hw (hm_runV (rest := []) hcl X hw (cNet_setGuess hcl hn1 h) yk_X5_setGuess kw701 rfl hn1.1 rfl hl.1 rfl rfl rfl (Nat.le_of_ble_eq_true rfl) ⟨Nat.le_trans (Nat.le_of_ble_eq_true rfl) hR.1, Nat.le_trans (Nat.le_of_ble_eq_true rfl) hR.2⟩ ⟨Nat.zero_le _, Nat.zero_le _⟩ dX0_settle_69) (fun u11 H locs hp hw => ?_)
      obtain ⟨I10, rfl, h⟩ := hp
      refine lv_iinc (v := x3 + 1) (lv' := [(3, _), (5, _), (4, _), (0, _), (1, _), (2, _)]) hx hb dX0_settle_72 hl (k := 5) rfl rfl (by decide) rfl (fun ls hl => ?_)
      refine lv_goto (tgt := 16) hx hb dX0_settle_75 (by decide) ?_
      exact ih _ _ h hw (lv_sub hl [3, 4, 5, 0] rfl)

theorem wkCov_settle_l6 {T : HR} {F : HR} {L : HL} {r1 : Nat} {Q : HI → HR → Prop} (X : hX p m c s args RX0 cX0_settle 6) (hr : meth.sig.returnType = none) (hlk : meth.locks = false) (hR : 4 ≤ R.frames ∧ 87 ≤ R.locals) (hcl : hCl Ev) (hG : Geo F L) (hn1 : NetSh F L r1)  : ∀ (n : Nat) (I : HI) (x2 : Int32) {ls : Array Slot} {H : Heap} {locs : List Loc}, Cov_settle_l6 T L r1 Q n I x2 → hW D cA z Ev (I, J, T, F, L) A s H locs → lv_has ls 6 [(0, .ref (z + 44)), (1, .ref (z + r1)), (2, .int x2)] → W p l e R s m args below meth c H locs 0 0 (MQ below (va_Qv (pITv J F L Q) (hB D cA z A) A) args s 0 0 A) (F0 m 6 ls []) := by
  have hx := X.1
  have hb := X.2.1
  intro n
  induction n with
  | zero => intro I x2 ls H locs h; exact False.elim h
  | succ n ih =>
    intro I x2 ls H locs h hw hl
    rw [Cov_settle_l6] at h
    refine lv_iload_n hx hb dX0_settle_6 rfl (lv_at hl 2 rfl) ?_
    refine lv_aload_n hx hb dX0_settle_7 rfl (lv_at hl 0 rfl) ?_
    refine hm_geti X hw lk_0_19 (gl_44 hG) dX0_settle_8 ?_
    refine lv_icmp_ge (tgt := 84) hx hb dX0_settle_11 (by decide) (fun hc => ?_) (fun hc => ?_)
    · have h := Eq.mp (if_pos hc) h
      exact hm_vret X hr hlk hw ⟨_, _, rfl, h⟩ dX0_settle_84
    · have h := Eq.mp (if_neg hc) h
      refine lv_iconst (v := 0) hx hb dX0_settle_14 (by decide) ?_
      refine lv_istore_n (lv' := [(3, _), (0, _), (1, _), (2, _)]) hx hb dX0_settle_15 rfl hl (by decide) rfl (fun ls hl => ?_)
      obtain ⟨n2, h⟩ := h
      exact wkCov_settle_l16 X hr hlk hR hcl hG hn1 ih n2 _ _ h hw (lv_sub hl [1, 2, 3, 0] rfl)

theorem cCov_settle {l : Launch} {D : va_G} {cA : Nat → ClassId} {z sz : Nat} {I : HI} {T : HR} {F : HR} {L : HL} {r1 : Nat} {Q : HI → HR → Prop} (hcl : hCl Ev) (hG : Geo F L) (hn1 : NetSh F L r1) (h : Cov_settle I T L r1 Q) : Met l yX0_settle (hws0 yX0_settle cX0_settle 6 none) { frames := 4, cells := 0, slots := 0, locals := 87 } (hPc D cA z Ev (I, J, T, F, L) sz [.ref (z + 44), .ref (z + r1)]) (va_Qv (pITv J F L Q) (hB D cA z (hA z L sz)) (hA z L sz)) 0 0 (hA z L sz) := by
  refine hm_met (I, J, T, F, L) [.ref (z + 44), .ref (z + r1)] rfl (by decide) (Nat.le_of_ble_eq_true rfl) ?_
  intro p e s m below meth c ls X hr hlk hnm hxt hsz hw hl
  have hl : lv_has ls 6 [(0, .ref (z + 44)), (1, .ref (z + r1))] := hl
  have hR : 4 ≤ ({ frames := 4, cells := 0, slots := 0, locals := 87 } : Room).frames ∧ 87 ≤ ({ frames := 4, cells := 0, slots := 0, locals := 87 } : Room).locals := ⟨Nat.le_refl _, Nat.le_refl _⟩
  generalize ({ frames := 4, cells := 0, slots := 0, locals := 87 } : Room) = R at hR ⊢
  clear hsz
  generalize (hA z L sz) = A at hw ⊢
  have hx := X.1
  have hb := X.2.1
  unfold Cov_settle at h
  refine lv_aload_n hx hb dX0_settle_0 rfl (lv_at hl 1 rfl) ?_
  refine hm_callv hw (hm_runV (rest := []) hcl X hw (cNet_lookAtAllAtOnce hcl hn1 h) yk_X5_lookAtAllAtOnce kw693 rfl hn1.1 rfl hl.1 rfl rfl rfl (Nat.le_of_ble_eq_true rfl) ⟨Nat.le_trans (Nat.le_of_ble_eq_true rfl) hR.1, Nat.le_trans (Nat.le_of_ble_eq_true rfl) hR.2⟩ ⟨Nat.zero_le _, Nat.zero_le _⟩ dX0_settle_1) (fun u3 H locs hp hw => ?_)
  obtain ⟨I1, T2, rfl, h⟩ := hp
  refine lv_iconst (v := 0) hx hb dX0_settle_4 (by decide) ?_
  refine lv_istore_n (lv' := [(2, _), (0, _), (1, _)]) hx hb dX0_settle_5 rfl hl (by decide) rfl (fun ls hl => ?_)
  obtain ⟨n2, h⟩ := h
  exact wkCov_settle_l6 X hr hlk hR hcl hG hn1  n2 _ _ h hw (lv_sub hl [1, 2, 0] rfl)

theorem cFrm_join {l : Launch} {D : va_G} {cA : Nat → ClassId} {z sz : Nat} {I : HI} {T : HR} {F : HR} {L : HL} {f0 : Nat} {n0 : Nat} {k0 : Nat} {l0 : Nat} {q0 : Nat} {v0 : Nat} {x1 : Int32} {Q : Int32 → Prop} (hcl : hCl Ev) (hf0 : FrmSh F L f0 n0 k0 l0 q0 v0) (h : Frm_join I f0 n0 k0 l0 q0 v0 x1 Q) : Met l yX1_join (hws0 yX1_join cX1_join 4 (some .int)) { frames := 0, cells := 0, slots := 0, locals := 0 } (hPc D cA z Ev (I, J, T, F, L) sz [.ref (z + f0), .int x1]) (va_Qi (p0 (I, J, T, F, L) Q) (hB D cA z (hA z L sz)) (hA z L sz)) 0 0 (hA z L sz) := by
  refine hm_met (I, J, T, F, L) [.ref (z + f0), .int x1] rfl (by decide) (Nat.le_of_ble_eq_true rfl) ?_
  intro p e s m below meth c ls X hr hlk hnm hxt hsz hw hl
  have hl : lv_has ls 4 [(0, .ref (z + f0)), (1, .int x1)] := hl
  have hR : 0 ≤ ({ frames := 0, cells := 0, slots := 0, locals := 0 } : Room).frames ∧ 0 ≤ ({ frames := 0, cells := 0, slots := 0, locals := 0 } : Room).locals := ⟨Nat.le_refl _, Nat.le_refl _⟩
  generalize ({ frames := 0, cells := 0, slots := 0, locals := 0 } : Room) = R at hR ⊢
  clear hsz
  generalize (hA z L sz) = A at hw ⊢
  have hx := X.1
  have hb := X.2.1
  unfold Frm_join at h
  refine lv_aload_n hx hb dX1_join_0 rfl (lv_at hl 0 rfl) ?_
  refine hm_getr X hw lk_1_25 hf0.1 (fsf_3 hf0) dX1_join_1 ?_
  refine lv_aload_n hx hb dX1_join_4 rfl (lv_at hl 0 rfl) ?_
  refine hm_getr X hw lk_1_15 hf0.1 (fsf_1 hf0) dX1_join_5 ?_
  refine lv_iload_n hx hb dX1_join_8 rfl (lv_at hl 1 rfl) ?_
  obtain ⟨hi, h⟩ := h
  refine hm_iald X hw (fsm_1 hf0) hi dX1_join_9 ?_
  obtain ⟨hi, h⟩ := h
  refine hm_iald X hw (fsm_3 hf0) hi dX1_join_10 ?_
  refine lv_istore_n (lv' := [(2, _), (0, _), (1, _)]) hx hb dX1_join_11 rfl hl (by decide) rfl (fun ls hl => ?_)
  refine lv_aload_n hx hb dX1_join_12 rfl (lv_at hl 1 rfl) ?_
  refine hm_getr X hw lk_1_25 hf0.1 (fsf_3 hf0) dX1_join_13 ?_
  refine lv_aload_n hx hb dX1_join_16 rfl (lv_at hl 1 rfl) ?_
  refine hm_getr X hw lk_1_18 hf0.1 (fsf_2 hf0) dX1_join_17 ?_
  refine lv_iload_n hx hb dX1_join_20 rfl (lv_at hl 2 rfl) ?_
  obtain ⟨hi, h⟩ := h
  refine hm_iald X hw (fsm_2 hf0) hi dX1_join_21 ?_
  obtain ⟨hi, h⟩ := h
  refine hm_iald X hw (fsm_3 hf0) hi dX1_join_22 ?_
  refine lv_istore_n (lv' := [(3, _), (2, _), (0, _), (1, _)]) hx hb dX1_join_23 rfl hl (by decide) rfl (fun ls hl => ?_)
  refine lv_aload_n hx hb dX1_join_24 rfl (lv_at hl 2 rfl) ?_
  refine hm_getr X hw lk_1_9 hf0.1 (fsf_0 hf0) dX1_join_25 ?_
  refine lv_iload_n hx hb dX1_join_28 rfl (lv_at hl 3 rfl) ?_
  obtain ⟨hi, h⟩ := h
  refine hm_iald X hw (fsm_0 hf0) hi dX1_join_29 ?_
  by_cases hc42 : (I k0 (nx x1)) = 42
  · have h := Eq.mp (if_pos hc42) h
    refine lv_lookup (tgt := 112) (off := 82) hx hb dX1_join_30 (by decide) (by rw [hc42]; decide) (by decide) ?_
    refine lv_iload_n hx hb dX1_join_112 rfl (lv_at hl 1 rfl) ?_
    refine lv_iload_n hx hb dX1_join_113 rfl (lv_at hl 0 rfl) ?_
    refine lv_imul hx hb dX1_join_114 ?_
    exact hm_iret X hr hlk hw ⟨rfl, h⟩ dX1_join_115
  have h := Eq.mp (if_neg hc42) h
  by_cases hc43 : (I k0 (nx x1)) = 43
  · have h := Eq.mp (if_pos hc43) h
    refine lv_lookup (tgt := 104) (off := 74) hx hb dX1_join_30 (by decide) (by rw [hc43]; decide) (by decide) ?_
    refine lv_iload_n hx hb dX1_join_104 rfl (lv_at hl 1 rfl) ?_
    refine lv_iload_n hx hb dX1_join_105 rfl (lv_at hl 0 rfl) ?_
    refine lv_iadd hx hb dX1_join_106 ?_
    exact hm_iret X hr hlk hw ⟨rfl, h⟩ dX1_join_107
  have h := Eq.mp (if_neg hc43) h
  by_cases hc45 : (I k0 (nx x1)) = 45
  · have h := Eq.mp (if_pos hc45) h
    refine lv_lookup (tgt := 108) (off := 78) hx hb dX1_join_30 (by decide) (by rw [hc45]; decide) (by decide) ?_
    refine lv_iload_n hx hb dX1_join_108 rfl (lv_at hl 1 rfl) ?_
    refine lv_iload_n hx hb dX1_join_109 rfl (lv_at hl 0 rfl) ?_
    refine lv_isub hx hb dX1_join_110 ?_
    exact hm_iret X hr hlk hw ⟨rfl, h⟩ dX1_join_111
  have h := Eq.mp (if_neg hc45) h
  by_cases hc47 : (I k0 (nx x1)) = 47
  · have h := Eq.mp (if_pos hc47) h
    refine lv_lookup (tgt := 116) (off := 86) hx hb dX1_join_30 (by decide) (by rw [hc47]; decide) (by decide) ?_
    refine lv_iload_n hx hb dX1_join_116 rfl (lv_at hl 0 rfl) ?_
    refine lv_if_ne (tgt := 124) hx hb dX1_join_117 (by decide) (fun hc => ?_) (fun hc => ?_)
    · have h := Eq.mp (if_neg hc) h
      refine lv_iload_n hx hb dX1_join_124 rfl (lv_at hl 1 rfl) ?_
      refine lv_iload_n hx hb dX1_join_125 rfl (lv_at hl 0 rfl) ?_
      obtain ⟨hi, h⟩ := h
      refine hm_idiv hx hb dX1_join_126 hi ?_
      exact hm_iret X hr hlk hw ⟨rfl, h⟩ dX1_join_127
    · have h := Eq.mp (if_pos hc) h
      refine lv_iconst (v := 0) hx hb dX1_join_120 (by decide) ?_
      refine lv_goto (tgt := 127) hx hb dX1_join_121 (by decide) ?_
      exact hm_iret X hr hlk hw ⟨rfl, h⟩ dX1_join_127
  have h := Eq.mp (if_neg hc47) h
  by_cases hc60 : (I k0 (nx x1)) = 60
  · have h := Eq.mp (if_pos hc60) h
    refine lv_lookup (tgt := 128) (off := 98) hx hb dX1_join_30 (by decide) (by rw [hc60]; decide) (by decide) ?_
    refine lv_iload_n hx hb dX1_join_128 rfl (lv_at hl 1 rfl) ?_
    refine lv_iload_n hx hb dX1_join_129 rfl (lv_at hl 0 rfl) ?_
    refine lv_icmp_ge (tgt := 137) hx hb dX1_join_130 (by decide) (fun hc => ?_) (fun hc => ?_)
    · have h := Eq.mp (if_pos hc) h
      refine lv_iconst (v := 0) hx hb dX1_join_137 (by decide) ?_
      exact hm_iret X hr hlk hw ⟨rfl, h⟩ dX1_join_138
    · have h := Eq.mp (if_neg hc) h
      refine lv_iconst (v := 1) hx hb dX1_join_133 (by decide) ?_
      refine lv_goto (tgt := 138) hx hb dX1_join_134 (by decide) ?_
      exact hm_iret X hr hlk hw ⟨rfl, h⟩ dX1_join_138
  have h := Eq.mp (if_neg hc60) h
  by_cases hc61 : (I k0 (nx x1)) = 61
  · have h := Eq.mp (if_pos hc61) h
    refine lv_lookup (tgt := 139) (off := 109) hx hb dX1_join_30 (by decide) (by rw [hc61]; decide) (by decide) ?_
    refine lv_iload_n hx hb dX1_join_139 rfl (lv_at hl 1 rfl) ?_
    refine lv_iload_n hx hb dX1_join_140 rfl (lv_at hl 0 rfl) ?_
    refine lv_icmp_ne (tgt := 148) hx hb dX1_join_141 (by decide) (fun hc => ?_) (fun hc => ?_)
    · have h := Eq.mp (if_neg hc) h
      refine lv_iconst (v := 0) hx hb dX1_join_148 (by decide) ?_
      exact hm_iret X hr hlk hw ⟨rfl, h⟩ dX1_join_149
    · have h := Eq.mp (if_pos hc) h
      refine lv_iconst (v := 1) hx hb dX1_join_144 (by decide) ?_
      refine lv_goto (tgt := 149) hx hb dX1_join_145 (by decide) ?_
      exact hm_iret X hr hlk hw ⟨rfl, h⟩ dX1_join_149
  have h := Eq.mp (if_neg hc61) h
  by_cases hc151 : (I k0 (nx x1)) = 151
  · have h := Eq.mp (if_pos hc151) h
    refine lv_lookup (tgt := 150) (off := 120) hx hb dX1_join_30 (by decide) (by rw [hc151]; decide) (by decide) ?_
    refine lv_iload_n hx hb dX1_join_150 rfl (lv_at hl 1 rfl) ?_
    refine lv_if_ne (tgt := 158) hx hb dX1_join_151 (by decide) (fun hc => ?_) (fun hc => ?_)
    · have h := Eq.mp (if_neg hc) h
      refine lv_iconst (v := 0) hx hb dX1_join_158 (by decide) ?_
      exact hm_iret X hr hlk hw ⟨rfl, h⟩ dX1_join_159
    · have h := Eq.mp (if_pos hc) h
      refine lv_iconst (v := 1) hx hb dX1_join_154 (by decide) ?_
      refine lv_goto (tgt := 159) hx hb dX1_join_155 (by decide) ?_
      exact hm_iret X hr hlk hw ⟨rfl, h⟩ dX1_join_159
  have h := Eq.mp (if_neg hc151) h
  by_cases hc152 : (I k0 (nx x1)) = 152
  · have h := Eq.mp (if_pos hc152) h
    refine lv_lookup (tgt := 160) (off := 130) hx hb dX1_join_30 (by decide) (by rw [hc152]; decide) (by decide) ?_
    refine lv_iload_n hx hb dX1_join_160 rfl (lv_at hl 1 rfl) ?_
    refine lv_if_eq (tgt := 172) hx hb dX1_join_161 (by decide) (fun hc => ?_) (fun hc => ?_)
    · have h := Eq.mp (if_pos hc) h
      refine lv_iconst (v := 0) hx hb dX1_join_172 (by decide) ?_
      exact hm_iret X hr hlk hw ⟨rfl, h⟩ dX1_join_173
    · have h := Eq.mp (if_neg hc) h
      refine lv_iload_n hx hb dX1_join_164 rfl (lv_at hl 0 rfl) ?_
      refine lv_if_eq (tgt := 172) hx hb dX1_join_165 (by decide) (fun hc => ?_) (fun hc => ?_)
      · have h := Eq.mp (if_pos hc) h
        refine lv_iconst (v := 0) hx hb dX1_join_172 (by decide) ?_
        exact hm_iret X hr hlk hw ⟨rfl, h⟩ dX1_join_173
      · have h := Eq.mp (if_neg hc) h
        refine lv_iconst (v := 1) hx hb dX1_join_168 (by decide) ?_
        refine lv_goto (tgt := 173) hx hb dX1_join_169 (by decide) ?_
        exact hm_iret X hr hlk hw ⟨rfl, h⟩ dX1_join_173
  have h := Eq.mp (if_neg hc152) h
  refine hm_lookD (tgt := 174) [42, 43, 45, 47, 60, 61, 151, 152] hx hb dX1_join_30 (by decide) (by decide) (by simp only [List.forall_mem_cons]; exact ⟨hc42, hc43, hc45, hc47, hc60, hc61, hc151, hc152, fun _ h => (by cases h)⟩) (by decide) ?_
  refine lv_iload_n hx hb dX1_join_174 rfl (lv_at hl 1 rfl) ?_
  refine lv_if_ne (tgt := 182) hx hb dX1_join_175 (by decide) (fun hc => ?_) (fun hc => ?_)
  · have h := Eq.mp (if_neg hc) h
    refine lv_iconst (v := 1) hx hb dX1_join_182 (by decide) ?_
    refine lv_goto (tgt := 187) hx hb dX1_join_183 (by decide) ?_
    exact hm_iret X hr hlk hw ⟨rfl, h⟩ dX1_join_187
  · have h := Eq.mp (if_pos hc) h
    refine lv_iload_n hx hb dX1_join_178 rfl (lv_at hl 0 rfl) ?_
    refine lv_if_eq (tgt := 186) hx hb dX1_join_179 (by decide) (fun hc => ?_) (fun hc => ?_)
    · have h := Eq.mp (if_pos hc) h
      refine lv_iconst (v := 0) hx hb dX1_join_186 (by decide) ?_
      exact hm_iret X hr hlk hw ⟨rfl, h⟩ dX1_join_187
    · have h := Eq.mp (if_neg hc) h
      refine lv_iconst (v := 1) hx hb dX1_join_182 (by decide) ?_
      refine lv_goto (tgt := 187) hx hb dX1_join_183 (by decide) ?_
      exact hm_iret X hr hlk hw ⟨rfl, h⟩ dX1_join_187

theorem wkFrm_sumOf_l4 {I : HI} {T : HR} {F : HR} {L : HL} {r0 : Nat} {x1 : Int32} {Q : Int32 → Prop} (X : hX p m c s args RX1 cX1_sumOf 4) (hr : meth.sig.returnType = (some .int)) (hlk : meth.locks = false) (hR : 0 ≤ R.frames ∧ 0 ≤ R.locals) (hcl : hCl Ev) (hs0 : (r0, 0, 8) ∈ L)  : ∀ (n : Nat) (x2 : Int32) (x3 : Int32) {ls : Array Slot} {H : Heap} {locs : List Loc}, Frm_sumOf_l4 I r0 x1 Q n x2 x3 → hW D cA z Ev (I, J, T, F, L) A s H locs → lv_has ls 4 [(0, .ref (z + r0)), (1, .int x1), (2, .int x2), (3, .int x3)] → W p l e R s m args below meth c H locs 0 0 (MQ below (va_Qi (p0 (I, J, T, F, L) Q) (hB D cA z A) A) args s 0 0 A) (F0 m 4 ls []) := by
  have hx := X.1
  have hb := X.2.1
  intro n
  induction n with
  | zero => intro x2 x3 ls H locs h; exact False.elim h
  | succ n ih =>
    intro x2 x3 ls H locs h hw hl
    rw [Frm_sumOf_l4] at h
    refine lv_iload_n hx hb dX1_sumOf_4 rfl (lv_at hl 3 rfl) ?_
    refine lv_bipush (v := 8) hx hb dX1_sumOf_5 (by decide) ?_
    refine lv_icmp_ge (tgt := 31) hx hb dX1_sumOf_7 (by decide) (fun hc => ?_) (fun hc => ?_)
    · have h := Eq.mp (if_pos hc) h
      refine lv_iload_n hx hb dX1_sumOf_31 rfl (lv_at hl 2 rfl) ?_
      exact hm_iret X hr hlk hw ⟨rfl, h⟩ dX1_sumOf_32
    · have h := Eq.mp (if_neg hc) h
      refine lv_iload_n hx hb dX1_sumOf_10 rfl (lv_at hl 1 rfl) ?_
      refine lv_iload_n hx hb dX1_sumOf_11 rfl (lv_at hl 3 rfl) ?_
      refine lv_ishr hx hb dX1_sumOf_12 ?_
      refine lv_iconst (v := 1) hx hb dX1_sumOf_13 (by decide) ?_
      refine lv_iand hx hb dX1_sumOf_14 ?_
      refine lv_iconst (v := 1) hx hb dX1_sumOf_15 (by decide) ?_
      refine lv_icmp_ne (tgt := 25) hx hb dX1_sumOf_16 (by decide) (fun hc => ?_) (fun hc => ?_)
      · have h := Eq.mp (if_neg hc) h
        refine lv_iinc (v := x3 + 1) (lv' := [(3, _), (0, _), (1, _), (2, _)]) hx hb dX1_sumOf_25 hl (k := 3) rfl rfl (by decide) rfl (fun ls hl => ?_)
        refine lv_goto (tgt := 4) hx hb dX1_sumOf_28 (by decide) ?_
        exact ih _ _ h hw (lv_sub hl [1, 2, 3, 0] rfl)
      · have h := Eq.mp (if_pos hc) h
        refine lv_iload_n hx hb dX1_sumOf_19 rfl (lv_at hl 2 rfl) ?_
        refine lv_aload_n hx hb dX1_sumOf_20 rfl (lv_at hl 0 rfl) ?_
        refine lv_iload_n hx hb dX1_sumOf_21 rfl (lv_at hl 3 rfl) ?_
        obtain ⟨hi, h⟩ := h
        refine hm_iald X hw hs0 hi dX1_sumOf_22 ?_
        refine lv_iadd hx hb dX1_sumOf_23 ?_
        refine lv_istore_n (lv' := [(2, _), (0, _), (1, _), (3, _)]) hx hb dX1_sumOf_24 rfl hl (by decide) rfl (fun ls hl => ?_)
        refine lv_iinc (v := x3 + 1) (lv' := [(3, _), (2, _), (0, _), (1, _)]) hx hb dX1_sumOf_25 hl (k := 3) rfl rfl (by decide) rfl (fun ls hl => ?_)
        refine lv_goto (tgt := 4) hx hb dX1_sumOf_28 (by decide) ?_
        exact ih _ _ h hw (lv_sub hl [2, 3, 1, 0] rfl)

theorem cFrm_sumOf {l : Launch} {D : va_G} {cA : Nat → ClassId} {z sz : Nat} {I : HI} {T : HR} {F : HR} {L : HL} {r0 : Nat} {x1 : Int32} {Q : Int32 → Prop} (hcl : hCl Ev) (hs0 : (r0, 0, 8) ∈ L) (h : Frm_sumOf I r0 x1 Q) : Met l yX1_sumOf (hws0 yX1_sumOf cX1_sumOf 4 (some .int)) { frames := 0, cells := 0, slots := 0, locals := 0 } (hPc D cA z Ev (I, J, T, F, L) sz [.ref (z + r0), .int x1]) (va_Qi (p0 (I, J, T, F, L) Q) (hB D cA z (hA z L sz)) (hA z L sz)) 0 0 (hA z L sz) := by
  refine hm_met (I, J, T, F, L) [.ref (z + r0), .int x1] rfl (by decide) (Nat.le_of_ble_eq_true rfl) ?_
  intro p e s m below meth c ls X hr hlk hnm hxt hsz hw hl
  have hl : lv_has ls 4 [(0, .ref (z + r0)), (1, .int x1)] := hl
  have hR : 0 ≤ ({ frames := 0, cells := 0, slots := 0, locals := 0 } : Room).frames ∧ 0 ≤ ({ frames := 0, cells := 0, slots := 0, locals := 0 } : Room).locals := ⟨Nat.le_refl _, Nat.le_refl _⟩
  generalize ({ frames := 0, cells := 0, slots := 0, locals := 0 } : Room) = R at hR ⊢
  clear hsz
  generalize (hA z L sz) = A at hw ⊢
  have hx := X.1
  have hb := X.2.1
  unfold Frm_sumOf at h
  refine lv_iconst (v := 0) hx hb dX1_sumOf_0 (by decide) ?_
  refine lv_istore_n (lv' := [(2, _), (0, _), (1, _)]) hx hb dX1_sumOf_1 rfl hl (by decide) rfl (fun ls hl => ?_)
  refine lv_iconst (v := 0) hx hb dX1_sumOf_2 (by decide) ?_
  refine lv_istore_n (lv' := [(3, _), (2, _), (0, _), (1, _)]) hx hb dX1_sumOf_3 rfl hl (by decide) rfl (fun ls hl => ?_)
  obtain ⟨n2, h⟩ := h
  exact wkFrm_sumOf_l4 X hr hlk hR hcl hs0  n2 _ _ h hw (lv_sub hl [2, 3, 1, 0] rfl)

theorem cFrm_look {l : Launch} {D : va_G} {cA : Nat → ClassId} {z sz : Nat} {I : HI} {T : HR} {F : HR} {L : HL} {f0 : Nat} {n0 : Nat} {k0 : Nat} {l0 : Nat} {q0 : Nat} {v0 : Nat} {x1 : Int32} {r2 : Nat} {x3 : Int32} {r4 : Nat} {Q : Int32 → Prop} (hcl : hCl Ev) (hf0 : FrmSh F L f0 n0 k0 l0 q0 v0) (hn2 : NetSh F L r2) (hc4 : SceSh F L r4) (h : Frm_look I f0 n0 k0 l0 q0 v0 x1 r2 x3 r4 Q) : Met l yX1_look (hws0 yX1_look cX1_look 6 (some .int)) { frames := 1, cells := 0, slots := 0, locals := 23 } (hPc D cA z Ev (I, J, T, F, L) sz [.ref (z + f0), .int x1, .ref (z + r2), .int x3, .ref (z + r4)]) (va_Qi (p0 (I, J, T, F, L) Q) (hB D cA z (hA z L sz)) (hA z L sz)) 0 0 (hA z L sz) := by
  refine hm_met (I, J, T, F, L) [.ref (z + f0), .int x1, .ref (z + r2), .int x3, .ref (z + r4)] rfl (by decide) (Nat.le_of_ble_eq_true rfl) ?_
  intro p e s m below meth c ls X hr hlk hnm hxt hsz hw hl
  have hl : lv_has ls 6 [(0, .ref (z + f0)), (1, .int x1), (2, .ref (z + r2)), (3, .int x3), (4, .ref (z + r4))] := hl
  have hR : 1 ≤ ({ frames := 1, cells := 0, slots := 0, locals := 23 } : Room).frames ∧ 23 ≤ ({ frames := 1, cells := 0, slots := 0, locals := 23 } : Room).locals := ⟨Nat.le_refl _, Nat.le_refl _⟩
  generalize ({ frames := 1, cells := 0, slots := 0, locals := 23 } : Room) = R at hR ⊢
  clear hsz
  generalize (hA z L sz) = A at hw ⊢
  have hx := X.1
  have hb := X.2.1
  unfold Frm_look at h
  refine lv_aload_n hx hb dX1_look_0 rfl (lv_at hl 0 rfl) ?_
  refine hm_getr X hw lk_1_15 hf0.1 (fsf_1 hf0) dX1_look_1 ?_
  refine lv_iload_n hx hb dX1_look_4 rfl (lv_at hl 1 rfl) ?_
  obtain ⟨hi, h⟩ := h
  refine hm_iald X hw (fsm_1 hf0) hi dX1_look_5 ?_
  refine lv_istore (lv' := [(5, _), (0, _), (1, _), (2, _), (3, _), (4, _)]) hx hb dX1_look_6 hl (by decide) rfl (fun ls hl => ?_)
  refine lv_aload_n hx hb dX1_look_8 rfl (lv_at hl 1 rfl) ?_
  refine hm_getr X hw lk_1_9 hf0.1 (fsf_0 hf0) dX1_look_9 ?_
  refine lv_iload_n hx hb dX1_look_12 rfl (lv_at hl 2 rfl) ?_
  obtain ⟨hi, h⟩ := h
  refine hm_iald X hw (fsm_0 hf0) hi dX1_look_13 ?_
  by_cases hc131 : (I k0 (nx x1)) = 131
  · have h := Eq.mp (if_pos hc131) h
    refine lv_tableIn (tgt := 104) (off := 90) hx hb dX1_look_14 (by rw [hc131]; decide) (by rw [hc131]; decide) (by rw [hc131]; decide) (by decide) ?_
    refine lv_iload hx hb dX1_look_104 (lv_at hl 0 rfl) ?_
    exact hm_iret X hr hlk hw ⟨rfl, h⟩ dX1_look_106
  have h := Eq.mp (if_neg hc131) h
  by_cases hc144 : (I k0 (nx x1)) = 144
  · have h := Eq.mp (if_pos hc144) h
    refine lv_tableIn (tgt := 107) (off := 93) hx hb dX1_look_14 (by rw [hc144]; decide) (by rw [hc144]; decide) (by rw [hc144]; decide) (by decide) ?_
    refine lv_iload_n hx hb dX1_look_107 rfl (lv_at hl 4 rfl) ?_
    exact hm_iret X hr hlk hw ⟨rfl, h⟩ dX1_look_108
  have h := Eq.mp (if_neg hc144) h
  by_cases hc145 : (I k0 (nx x1)) = 145
  · have h := Eq.mp (if_pos hc145) h
    refine lv_tableIn (tgt := 109) (off := 95) hx hb dX1_look_14 (by rw [hc145]; decide) (by rw [hc145]; decide) (by rw [hc145]; decide) (by decide) ?_
    refine lv_aload_n hx hb dX1_look_109 rfl (lv_at hl 3 rfl) ?_
    refine hm_geti X hw lk_1_52 hn2.1 dX1_look_110 ?_
    exact hm_iret X hr hlk hw ⟨rfl, h⟩ dX1_look_113
  have h := Eq.mp (if_neg hc145) h
  by_cases hc146 : (I k0 (nx x1)) = 146
  · have h := Eq.mp (if_pos hc146) h
    refine lv_tableIn (tgt := 114) (off := 100) hx hb dX1_look_14 (by rw [hc146]; decide) (by rw [hc146]; decide) (by rw [hc146]; decide) (by decide) ?_
    refine lv_aload_n hx hb dX1_look_114 rfl (lv_at hl 3 rfl) ?_
    refine hm_geti X hw lk_1_41 hn2.1 dX1_look_115 ?_
    exact hm_iret X hr hlk hw ⟨rfl, h⟩ dX1_look_118
  have h := Eq.mp (if_neg hc146) h
  by_cases hc147 : (I k0 (nx x1)) = 147
  · have h := Eq.mp (if_pos hc147) h
    refine lv_tableIn (tgt := 119) (off := 105) hx hb dX1_look_14 (by rw [hc147]; decide) (by rw [hc147]; decide) (by rw [hc147]; decide) (by decide) ?_
    refine lv_aload hx hb dX1_look_119 (lv_at hl 5 rfl) ?_
    refine hm_getr X hw lk_1_55 hc4.1 (ssf_0 hc4) dX1_look_121 ?_
    refine lv_aload_n hx hb dX1_look_124 rfl (lv_at hl 3 rfl) ?_
    refine hm_getr X hw lk_1_60 hn2.1 (nsf_3 hn2) dX1_look_125 ?_
    refine lv_iload_n hx hb dX1_look_128 rfl (lv_at hl 4 rfl) ?_
    obtain ⟨hi, h⟩ := h
    refine hm_iald X hw (nsm_3 hn2) hi dX1_look_129 ?_
    refine lv_iconst (v := 1) hx hb dX1_look_130 (by decide) ?_
    refine lv_iload hx hb dX1_look_131 (lv_at hl 0 rfl) ?_
    refine lv_ishl hx hb dX1_look_133 ?_
    refine lv_iand hx hb dX1_look_134 ?_
    refine hm_calli hw (hm_runS (rest := []) hcl X hw (cFrm_sumOf hcl (ssm_0 hc4) h) yk_X1_sumOf kw571 rfl hl.1 rfl rfl rfl (Nat.le_of_ble_eq_true rfl) ⟨Nat.le_trans (Nat.le_of_ble_eq_true rfl) hR.1, Nat.le_trans (Nat.le_of_ble_eq_true rfl) hR.2⟩ ⟨Nat.zero_le _, Nat.zero_le _⟩ dX1_look_135) (fun a1 u2 H locs hp hw => ?_)
    obtain ⟨rfl, h⟩ := hp
    exact hm_iret X hr hlk hw ⟨rfl, h⟩ dX1_look_138
  have h := Eq.mp (if_neg hc147) h
  by_cases hc148 : (I k0 (nx x1)) = 148
  · have h := Eq.mp (if_pos hc148) h
    refine lv_tableIn (tgt := 139) (off := 125) hx hb dX1_look_14 (by rw [hc148]; decide) (by rw [hc148]; decide) (by rw [hc148]; decide) (by decide) ?_
    refine lv_aload hx hb dX1_look_139 (lv_at hl 5 rfl) ?_
    refine hm_getr X hw lk_1_67 hc4.1 (ssf_1 hc4) dX1_look_141 ?_
    refine lv_aload_n hx hb dX1_look_144 rfl (lv_at hl 3 rfl) ?_
    refine hm_getr X hw lk_1_70 hn2.1 (nsf_5 hn2) dX1_look_145 ?_
    refine lv_iload_n hx hb dX1_look_148 rfl (lv_at hl 4 rfl) ?_
    obtain ⟨hi, h⟩ := h
    refine hm_iald X hw (nsm_5 hn2) hi dX1_look_149 ?_
    refine lv_iconst (v := 1) hx hb dX1_look_150 (by decide) ?_
    refine lv_iload hx hb dX1_look_151 (lv_at hl 0 rfl) ?_
    refine lv_ishl hx hb dX1_look_153 ?_
    refine lv_iand hx hb dX1_look_154 ?_
    refine hm_calli hw (hm_runS (rest := []) hcl X hw (cFrm_sumOf hcl (ssm_1 hc4) h) yk_X1_sumOf kw571 rfl hl.1 rfl rfl rfl (Nat.le_of_ble_eq_true rfl) ⟨Nat.le_trans (Nat.le_of_ble_eq_true rfl) hR.1, Nat.le_trans (Nat.le_of_ble_eq_true rfl) hR.2⟩ ⟨Nat.zero_le _, Nat.zero_le _⟩ dX1_look_155) (fun a3 u4 H locs hp hw => ?_)
    obtain ⟨rfl, h⟩ := hp
    exact hm_iret X hr hlk hw ⟨rfl, h⟩ dX1_look_158
  have h := Eq.mp (if_neg hc148) h
  by_cases hc149 : (I k0 (nx x1)) = 149
  · have h := Eq.mp (if_pos hc149) h
    refine lv_tableIn (tgt := 159) (off := 145) hx hb dX1_look_14 (by rw [hc149]; decide) (by rw [hc149]; decide) (by rw [hc149]; decide) (by decide) ?_
    refine lv_aload hx hb dX1_look_159 (lv_at hl 5 rfl) ?_
    refine hm_getr X hw lk_1_55 hc4.1 (ssf_0 hc4) dX1_look_161 ?_
    refine lv_aload_n hx hb dX1_look_164 rfl (lv_at hl 3 rfl) ?_
    refine hm_getr X hw lk_1_60 hn2.1 (nsf_3 hn2) dX1_look_165 ?_
    refine lv_iload_n hx hb dX1_look_168 rfl (lv_at hl 4 rfl) ?_
    obtain ⟨hi, h⟩ := h
    refine hm_iald X hw (nsm_3 hn2) hi dX1_look_169 ?_
    refine hm_calli hw (hm_runS (rest := []) hcl X hw (cFrm_sumOf hcl (ssm_0 hc4) h) yk_X1_sumOf kw571 rfl hl.1 rfl rfl rfl (Nat.le_of_ble_eq_true rfl) ⟨Nat.le_trans (Nat.le_of_ble_eq_true rfl) hR.1, Nat.le_trans (Nat.le_of_ble_eq_true rfl) hR.2⟩ ⟨Nat.zero_le _, Nat.zero_le _⟩ dX1_look_170) (fun a5 u6 H locs hp hw => ?_)
    obtain ⟨rfl, h⟩ := hp
    exact hm_iret X hr hlk hw ⟨rfl, h⟩ dX1_look_173
  have h := Eq.mp (if_neg hc149) h
  refine hm_tabD (tgt := 174) [131, 144, 145, 146, 147, 148, 149] hx hb dX1_look_14 (by decide) (by simp only [List.forall_mem_cons]; exact ⟨hc131, hc144, hc145, hc146, hc147, hc148, hc149, fun _ h => (by cases h)⟩) (by decide) ?_
  refine lv_aload hx hb dX1_look_174 (lv_at hl 5 rfl) ?_
  refine hm_getr X hw lk_1_67 hc4.1 (ssf_1 hc4) dX1_look_176 ?_
  refine lv_aload_n hx hb dX1_look_179 rfl (lv_at hl 3 rfl) ?_
  refine hm_getr X hw lk_1_70 hn2.1 (nsf_5 hn2) dX1_look_180 ?_
  refine lv_iload_n hx hb dX1_look_183 rfl (lv_at hl 4 rfl) ?_
  obtain ⟨hi, h⟩ := h
  refine hm_iald X hw (nsm_5 hn2) hi dX1_look_184 ?_
  refine hm_calli hw (hm_runS (rest := []) hcl X hw (cFrm_sumOf hcl (ssm_1 hc4) h) yk_X1_sumOf kw571 rfl hl.1 rfl rfl rfl (Nat.le_of_ble_eq_true rfl) ⟨Nat.le_trans (Nat.le_of_ble_eq_true rfl) hR.1, Nat.le_trans (Nat.le_of_ble_eq_true rfl) hR.2⟩ ⟨Nat.zero_le _, Nat.zero_le _⟩ dX1_look_185) (fun a7 u8 H locs hp hw => ?_)
  obtain ⟨rfl, h⟩ := hp
  exact hm_iret X hr hlk hw ⟨rfl, h⟩ dX1_look_188

theorem cJd_floorMod {l : Launch} {D : va_G} {cA : Nat → ClassId} {z sz : Nat} {I : HI} {T : HR} {F : HR} {L : HL} {x0 : Int32} {x1 : Int32} {Q : Int32 → Prop} (hcl : hCl Ev) (h : Jd_floorMod  x0 x1 Q) : Met l yJ9_floorMod_7cf53 (hws0 yJ9_floorMod_7cf53 cJ9_floorMod_7cf53 3 (some .int)) { frames := 0, cells := 0, slots := 0, locals := 0 } (hPc D cA z Ev (I, J, T, F, L) sz [.int x0, .int x1]) (va_Qi (p0 (I, J, T, F, L) Q) (hB D cA z (hA z L sz)) (hA z L sz)) 0 0 (hA z L sz) := by
  refine hm_metF (I, J, T, F, L) [.int x0, .int x1] rfl (by decide +kernel) (Nat.le_of_ble_eq_true rfl) ?_
  intro p e s m below meth c ls X hr hlk hnm hxt hsz hw hl
  have hl : lv_has ls 3 [(0, .int x0), (1, .int x1)] := hl
  have hR : 0 ≤ ({ frames := 0, cells := 0, slots := 0, locals := 0 } : Room).frames ∧ 0 ≤ ({ frames := 0, cells := 0, slots := 0, locals := 0 } : Room).locals := ⟨Nat.le_refl _, Nat.le_refl _⟩
  generalize ({ frames := 0, cells := 0, slots := 0, locals := 0 } : Room) = R at hR ⊢
  clear hsz
  generalize (hA z L sz) = A at hw ⊢
  have hx := X.1
  have hb := X.2.1
  unfold Jd_floorMod at h
  refine lv_iload_n hx hb dJ9_floorMod_7cf53_0 rfl (lv_at hl 0 rfl) ?_
  refine lv_iload_n hx hb dJ9_floorMod_7cf53_1 rfl (lv_at hl 1 rfl) ?_
  obtain ⟨hi, h⟩ := h
  refine hm_irem hx hb dJ9_floorMod_7cf53_2 hi ?_
  refine lv_istore_n (lv' := [(2, _), (0, _), (1, _)]) hx hb dJ9_floorMod_7cf53_3 rfl hl (by decide) rfl (fun ls hl => ?_)
  refine lv_iload_n hx hb dJ9_floorMod_7cf53_4 rfl (lv_at hl 1 rfl) ?_
  refine lv_iload_n hx hb dJ9_floorMod_7cf53_5 rfl (lv_at hl 2 rfl) ?_
  refine lv_ixor hx hb dJ9_floorMod_7cf53_6 ?_
  refine lv_if_ge (tgt := 18) hx hb dJ9_floorMod_7cf53_7 (by decide) (fun hc => ?_) (fun hc => ?_)
  · have h := Eq.mp (if_pos hc) h
    refine lv_iload_n hx hb dJ9_floorMod_7cf53_18 rfl (lv_at hl 0 rfl) ?_
    exact hm_iret X hr hlk hw ⟨rfl, h⟩ dJ9_floorMod_7cf53_19
  · have h := Eq.mp (if_neg hc) h
    refine lv_iload_n hx hb dJ9_floorMod_7cf53_10 rfl (lv_at hl 0 rfl) ?_
    refine lv_if_eq (tgt := 18) hx hb dJ9_floorMod_7cf53_11 (by decide) (fun hc => ?_) (fun hc => ?_)
    · have h := Eq.mp (if_pos hc) h
      refine lv_iload_n hx hb dJ9_floorMod_7cf53_18 rfl (lv_at hl 0 rfl) ?_
      exact hm_iret X hr hlk hw ⟨rfl, h⟩ dJ9_floorMod_7cf53_19
    · have h := Eq.mp (if_neg hc) h
      refine lv_iload_n hx hb dJ9_floorMod_7cf53_14 rfl (lv_at hl 0 rfl) ?_
      refine lv_iload_n hx hb dJ9_floorMod_7cf53_15 rfl (lv_at hl 2 rfl) ?_
      refine lv_iadd hx hb dJ9_floorMod_7cf53_16 ?_
      exact hm_iret X hr hlk hw ⟨rfl, h⟩ dJ9_floorMod_7cf53_17

theorem wkFrm_guess_b72 {I : HI} {T : HR} {F : HR} {L : HL} {f0 : Nat} {n0 : Nat} {k0 : Nat} {l0 : Nat} {q0 : Nat} {v0 : Nat} {r1 : Nat} {r3 : Nat} {x2 : Int32} {x5 : Int32} {t0 : Int32} {K6 : HI → Int32 → Int32 → Prop} {Q : Int32 → HI → Prop} (X : hX p m c s args RX1 cX1_guess 7) (hr : meth.sig.returnType = (some .int)) (hlk : meth.locks = false) (hR : 2 ≤ R.frames ∧ 48 ≤ R.locals) (hcl : hCl Ev) (hf0 : FrmSh F L f0 n0 k0 l0 q0 v0) (hn1 : NetSh F L r1) (hc3 : SceSh F L r3) (hK6 : ∀ (I : HI) (x4 : Int32) (x5 : Int32) {ls : Array Slot} {H : Heap} {locs : List Loc}, K6 I x4 x5 → hW D cA z Ev (I, J, T, F, L) A s H locs → lv_has ls 7 [(0, .ref (z + f0)), (1, .ref (z + r1)), (2, .int x2), (3, .ref (z + r3)), (4, .int x4), (5, .int x5)] → W p l e R s m args below meth c H locs 0 0 (MQ below (va_Qi (pI J T F L Q) (hB D cA z A) A) args s 0 0 A) (F0 m 6 ls [])) : ∀ {ls : Array Slot} {H : Heap} {locs : List Loc}, Frm_guess_b72 I f0 n0 k0 l0 q0 v0 r1 r3 x2 x5 t0 K6 Q → hW D cA z Ev (I, J, T, F, L) A s H locs → lv_has ls 7 [(0, .ref (z + f0)), (1, .ref (z + r1)), (2, .int x2), (3, .ref (z + r3)), (5, .int x5)] → W p l e R s m args below meth c H locs 0 0 (MQ below (va_Qi (pI J T F L Q) (hB D cA z A) A) args s 0 0 A) (F0 m 72 ls [.int t0]) := by
  have hx := X.1
  have hb := X.2.1
  intro ls H locs h hw hl
  unfold Frm_guess_b72 at h
  refine lv_istore (lv' := [(4, _), (0, _), (1, _), (2, _), (3, _), (5, _)]) hx hb dX1_guess_72 hl (by decide) rfl (fun ls hl => ?_)
  refine lv_aload_n hx hb dX1_guess_74 rfl (lv_at hl 1 rfl) ?_
  refine hm_getr X hw lk_1_25 hf0.1 (fsf_3 hf0) dX1_guess_75 ?_
  refine lv_iload hx hb dX1_guess_78 (lv_at hl 5 rfl) ?_
  refine lv_iload hx hb dX1_guess_80 (lv_at hl 0 rfl) ?_
  obtain ⟨hi, h⟩ := h
  refine hm_iast X hw (fsm_3 hf0) hi dX1_guess_82 (fun H locs hw => ?_)
  refine lv_iload hx hb dX1_guess_83 (lv_at hl 5 rfl) ?_
  refine lv_aload_n hx hb dX1_guess_85 rfl (lv_at hl 1 rfl) ?_
  refine hm_geti X hw lk_1_21 hf0.1 dX1_guess_86 ?_
  refine lv_iconst (v := 1) hx hb dX1_guess_89 (by decide) ?_
  refine lv_isub hx hb dX1_guess_90 ?_
  refine lv_icmp_ne (tgt := 104) hx hb dX1_guess_91 (by decide) (fun hc => ?_) (fun hc => ?_)
  · have h := Eq.mp (if_neg hc) h
    refine lv_iinc (v := x5 + 1) (lv' := [(5, _), (4, _), (0, _), (1, _), (2, _), (3, _)]) hx hb dX1_guess_104 hl (k := 5) rfl rfl (by decide) rfl (fun ls hl => ?_)
    refine lv_goto (tgt := 6) hx hb dX1_guess_107 (by decide) ?_
    exact hK6 _ _ _ h hw (lv_sub hl [2, 3, 4, 5, 1, 0] rfl)
  · have h := Eq.mp (if_pos hc) h
    refine lv_iload hx hb dX1_guess_94 (lv_at hl 0 rfl) ?_
    refine lv_if_eq (tgt := 104) hx hb dX1_guess_96 (by decide) (fun hc => ?_) (fun hc => ?_)
    · have h := Eq.mp (if_pos hc) h
      refine lv_iinc (v := x5 + 1) (lv' := [(5, _), (4, _), (0, _), (1, _), (2, _), (3, _)]) hx hb dX1_guess_104 hl (k := 5) rfl rfl (by decide) rfl (fun ls hl => ?_)
      refine lv_goto (tgt := 6) hx hb dX1_guess_107 (by decide) ?_
      exact hK6 _ _ _ h hw (lv_sub hl [2, 3, 4, 5, 1, 0] rfl)
    · have h := Eq.mp (if_neg hc) h
      refine lv_aload_n hx hb dX1_guess_99 rfl (lv_at hl 2 rfl) ?_
      refine hm_geti X hw lk_1_41 hn1.1 dX1_guess_100 ?_
      exact hm_iret X hr hlk hw ⟨_, rfl, h⟩ dX1_guess_103

theorem wkFrm_guess_b47 {I : HI} {T : HR} {F : HR} {L : HL} {f0 : Nat} {n0 : Nat} {k0 : Nat} {l0 : Nat} {q0 : Nat} {v0 : Nat} {r1 : Nat} {r3 : Nat} {x2 : Int32} {x5 : Int32} {t0 : Int32} {K6 : HI → Int32 → Int32 → Prop} {Q : Int32 → HI → Prop} (X : hX p m c s args RX1 cX1_guess 7) (hr : meth.sig.returnType = (some .int)) (hlk : meth.locks = false) (hR : 2 ≤ R.frames ∧ 48 ≤ R.locals) (hcl : hCl Ev) (hf0 : FrmSh F L f0 n0 k0 l0 q0 v0) (hn1 : NetSh F L r1) (hc3 : SceSh F L r3) (hK6 : ∀ (I : HI) (x4 : Int32) (x5 : Int32) {ls : Array Slot} {H : Heap} {locs : List Loc}, K6 I x4 x5 → hW D cA z Ev (I, J, T, F, L) A s H locs → lv_has ls 7 [(0, .ref (z + f0)), (1, .ref (z + r1)), (2, .int x2), (3, .ref (z + r3)), (4, .int x4), (5, .int x5)] → W p l e R s m args below meth c H locs 0 0 (MQ below (va_Qi (pI J T F L Q) (hB D cA z A) A) args s 0 0 A) (F0 m 6 ls [])) : ∀ {ls : Array Slot} {H : Heap} {locs : List Loc}, Frm_guess_b47 I f0 n0 k0 l0 q0 v0 r1 r3 x2 x5 t0 K6 Q → hW D cA z Ev (I, J, T, F, L) A s H locs → lv_has ls 7 [(0, .ref (z + f0)), (1, .ref (z + r1)), (2, .int x2), (3, .ref (z + r3)), (5, .int x5)] → W p l e R s m args below meth c H locs 0 0 (MQ below (va_Qi (pI J T F L Q) (hB D cA z A) A) args s 0 0 A) (F0 m 47 ls [.int t0]) := by
  have hx := X.1
  have hb := X.2.1
  intro ls H locs h hw hl
  unfold Frm_guess_b47 at h
  refine lv_istore (lv' := [(6, _), (0, _), (1, _), (2, _), (3, _), (5, _)]) hx hb dX1_guess_47 hl (by decide) rfl (fun ls hl => ?_)
  refine lv_iload hx hb dX1_guess_49 (lv_at hl 0 rfl) ?_
  refine lv_if_eq (tgt := 63) hx hb dX1_guess_51 (by decide) (fun hc => ?_) (fun hc => ?_)
  · have h := Eq.mp (if_pos hc) h
    refine lv_aload_n hx hb dX1_guess_63 rfl (lv_at hl 1 rfl) ?_
    refine lv_iload hx hb dX1_guess_64 (lv_at hl 5 rfl) ?_
    refine lv_aload_n hx hb dX1_guess_66 rfl (lv_at hl 2 rfl) ?_
    refine lv_iload_n hx hb dX1_guess_67 rfl (lv_at hl 3 rfl) ?_
    refine lv_aload_n hx hb dX1_guess_68 rfl (lv_at hl 4 rfl) ?_
    refine hm_calli hw (hm_runV (rest := []) hcl X hw (cFrm_look hcl hf0 hn1 hc3 h) yk_X1_look kw567 rfl hf0.1 rfl hl.1 rfl rfl rfl (Nat.le_of_ble_eq_true rfl) ⟨Nat.le_trans (Nat.le_of_ble_eq_true rfl) hR.1, Nat.le_trans (Nat.le_of_ble_eq_true rfl) hR.2⟩ ⟨Nat.zero_le _, Nat.zero_le _⟩ dX1_guess_69) (fun a3 u4 H locs hp hw => ?_)
    obtain ⟨rfl, h⟩ := hp
    exact wkFrm_guess_b72 X hr hlk hR hcl hf0 hn1 hc3 hK6 h hw (lv_sub hl [1, 2, 3, 4, 5] rfl)
  · have h := Eq.mp (if_neg hc) h
    refine lv_aload_n hx hb dX1_guess_54 rfl (lv_at hl 1 rfl) ?_
    refine lv_iload hx hb dX1_guess_55 (lv_at hl 5 rfl) ?_
    refine hm_calli hw (hm_runV (rest := []) hcl X hw (cFrm_join hcl hf0 h) yk_X1_join kw563 rfl hf0.1 rfl hl.1 rfl rfl rfl (Nat.le_of_ble_eq_true rfl) ⟨Nat.le_trans (Nat.le_of_ble_eq_true rfl) hR.1, Nat.le_trans (Nat.le_of_ble_eq_true rfl) hR.2⟩ ⟨Nat.zero_le _, Nat.zero_le _⟩ dX1_guess_57) (fun a5 u6 H locs hp hw => ?_)
    obtain ⟨rfl, h⟩ := hp
    refine lv_goto (tgt := 72) hx hb dX1_guess_60 (by decide) ?_
    exact wkFrm_guess_b72 X hr hlk hR hcl hf0 hn1 hc3 hK6 h hw (lv_sub hl [1, 2, 3, 4, 5] rfl)

theorem wkFrm_guess_l6 {T : HR} {F : HR} {L : HL} {f0 : Nat} {n0 : Nat} {k0 : Nat} {l0 : Nat} {q0 : Nat} {v0 : Nat} {r1 : Nat} {r3 : Nat} {x2 : Int32} {Q : Int32 → HI → Prop} (X : hX p m c s args RX1 cX1_guess 7) (hr : meth.sig.returnType = (some .int)) (hlk : meth.locks = false) (hR : 2 ≤ R.frames ∧ 48 ≤ R.locals) (hcl : hCl Ev) (hf0 : FrmSh F L f0 n0 k0 l0 q0 v0) (hn1 : NetSh F L r1) (hc3 : SceSh F L r3)  : ∀ (n : Nat) (I : HI) (x4 : Int32) (x5 : Int32) {ls : Array Slot} {H : Heap} {locs : List Loc}, Frm_guess_l6 f0 n0 k0 l0 q0 v0 r1 r3 x2 Q n I x4 x5 → hW D cA z Ev (I, J, T, F, L) A s H locs → lv_has ls 7 [(0, .ref (z + f0)), (1, .ref (z + r1)), (2, .int x2), (3, .ref (z + r3)), (4, .int x4), (5, .int x5)] → W p l e R s m args below meth c H locs 0 0 (MQ below (va_Qi (pI J T F L Q) (hB D cA z A) A) args s 0 0 A) (F0 m 6 ls []) := by
  have hx := X.1
  have hb := X.2.1
  intro n
  induction n with
  | zero => intro I x4 x5 ls H locs h; exact False.elim h
  | succ n ih =>
    intro I x4 x5 ls H locs h hw hl
    rw [Frm_guess_l6] at h
    refine lv_iload hx hb dX1_guess_6 (lv_at hl 5 rfl) ?_
    refine lv_aload_n hx hb dX1_guess_8 rfl (lv_at hl 0 rfl) ?_
    refine hm_getr X hw lk_1_9 hf0.1 (fsf_0 hf0) dX1_guess_9 ?_
    refine hm_alen0 X hw (fsm_0 hf0) dX1_guess_12 ?_
    refine lv_icmp_ge (tgt := 110) hx hb dX1_guess_13 (by decide) (fun hc => ?_) (fun hc => ?_)
    · have h := Eq.mp (if_pos hc) h
      refine lv_iload hx hb dX1_guess_110 (lv_at hl 4 rfl) ?_
      refine lv_aload_n hx hb dX1_guess_112 rfl (lv_at hl 1 rfl) ?_
      refine hm_geti X hw lk_1_41 hn1.1 dX1_guess_113 ?_
      refine hm_calli hw (hm_runS (rest := []) hcl X hw (cJd_floorMod hcl h) yk_J9_floorMod_7cf53 kw574 rfl hl.1 rfl rfl rfl (Nat.le_of_ble_eq_true rfl) ⟨Nat.le_trans (Nat.le_of_ble_eq_true rfl) hR.1, Nat.le_trans (Nat.le_of_ble_eq_true rfl) hR.2⟩ ⟨Nat.zero_le _, Nat.zero_le _⟩ dX1_guess_116) (fun a1 u2 H locs hp hw => ?_)
      obtain ⟨rfl, h⟩ := hp
      exact hm_iret X hr hlk hw ⟨_, rfl, h⟩ dX1_guess_119
    · have h := Eq.mp (if_neg hc) h
      refine lv_aload_n hx hb dX1_guess_16 rfl (lv_at hl 0 rfl) ?_
      refine hm_getr X hw lk_1_9 hf0.1 (fsf_0 hf0) dX1_guess_17 ?_
      refine lv_iload hx hb dX1_guess_20 (lv_at hl 5 rfl) ?_
      obtain ⟨hi, h⟩ := h
      refine hm_iald X hw (fsm_0 hf0) hi dX1_guess_22 ?_
      refine lv_sipush (v := 128) hx hb dX1_guess_23 (by decide) ?_
      refine lv_icmp_lt (tgt := 42) hx hb dX1_guess_26 (by decide) (fun hc => ?_) (fun hc => ?_)
      · have h := Eq.mp (if_pos hc) h
        refine lv_iconst (v := 1) hx hb dX1_guess_42 (by decide) ?_
        refine lv_goto (tgt := 47) hx hb dX1_guess_43 (by decide) ?_
        exact wkFrm_guess_b47 X hr hlk hR hcl hf0 hn1 hc3 ih h hw (lv_sub hl [0, 1, 2, 3, 5] rfl)
      · have h := Eq.mp (if_neg hc) h
        refine lv_aload_n hx hb dX1_guess_29 rfl (lv_at hl 0 rfl) ?_
        refine hm_getr X hw lk_1_9 hf0.1 (fsf_0 hf0) dX1_guess_30 ?_
        refine lv_iload hx hb dX1_guess_33 (lv_at hl 5 rfl) ?_
        obtain ⟨hi, h⟩ := h
        refine hm_iald X hw (fsm_0 hf0) hi dX1_guess_35 ?_
        refine lv_sipush (v := 151) hx hb dX1_guess_36 (by decide) ?_
        refine lv_icmp_lt (tgt := 46) hx hb dX1_guess_39 (by decide) (fun hc => ?_) (fun hc => ?_)
        · have h := Eq.mp (if_pos hc) h
          refine lv_iconst (v := 0) hx hb dX1_guess_46 (by decide) ?_
          exact wkFrm_guess_b47 X hr hlk hR hcl hf0 hn1 hc3 ih h hw (lv_sub hl [0, 1, 2, 3, 5] rfl)
        · have h := Eq.mp (if_neg hc) h
          refine lv_iconst (v := 1) hx hb dX1_guess_42 (by decide) ?_
          refine lv_goto (tgt := 47) hx hb dX1_guess_43 (by decide) ?_
          exact wkFrm_guess_b47 X hr hlk hR hcl hf0 hn1 hc3 ih h hw (lv_sub hl [0, 1, 2, 3, 5] rfl)

theorem cFrm_guess {l : Launch} {D : va_G} {cA : Nat → ClassId} {z sz : Nat} {I : HI} {T : HR} {F : HR} {L : HL} {f0 : Nat} {n0 : Nat} {k0 : Nat} {l0 : Nat} {q0 : Nat} {v0 : Nat} {r1 : Nat} {x2 : Int32} {r3 : Nat} {Q : Int32 → HI → Prop} (hcl : hCl Ev) (hf0 : FrmSh F L f0 n0 k0 l0 q0 v0) (hn1 : NetSh F L r1) (hc3 : SceSh F L r3) (h : Frm_guess I f0 n0 k0 l0 q0 v0 r1 x2 r3 Q) : Met l yX1_guess (hws0 yX1_guess cX1_guess 7 (some .int)) { frames := 2, cells := 0, slots := 0, locals := 48 } (hPc D cA z Ev (I, J, T, F, L) sz [.ref (z + f0), .ref (z + r1), .int x2, .ref (z + r3)]) (va_Qi (pI J T F L Q) (hB D cA z (hA z L sz)) (hA z L sz)) 0 0 (hA z L sz) := by
  refine hm_met (I, J, T, F, L) [.ref (z + f0), .ref (z + r1), .int x2, .ref (z + r3)] rfl (by decide) (Nat.le_of_ble_eq_true rfl) ?_
  intro p e s m below meth c ls X hr hlk hnm hxt hsz hw hl
  have hl : lv_has ls 7 [(0, .ref (z + f0)), (1, .ref (z + r1)), (2, .int x2), (3, .ref (z + r3))] := hl
  have hR : 2 ≤ ({ frames := 2, cells := 0, slots := 0, locals := 48 } : Room).frames ∧ 48 ≤ ({ frames := 2, cells := 0, slots := 0, locals := 48 } : Room).locals := ⟨Nat.le_refl _, Nat.le_refl _⟩
  generalize ({ frames := 2, cells := 0, slots := 0, locals := 48 } : Room) = R at hR ⊢
  clear hsz
  generalize (hA z L sz) = A at hw ⊢
  have hx := X.1
  have hb := X.2.1
  unfold Frm_guess at h
  refine lv_iconst (v := 0) hx hb dX1_guess_0 (by decide) ?_
  refine lv_istore (lv' := [(4, _), (0, _), (1, _), (2, _), (3, _)]) hx hb dX1_guess_1 hl (by decide) rfl (fun ls hl => ?_)
  refine lv_iconst (v := 0) hx hb dX1_guess_3 (by decide) ?_
  refine lv_istore (lv' := [(5, _), (4, _), (0, _), (1, _), (2, _), (3, _)]) hx hb dX1_guess_4 hl (by decide) rfl (fun ls hl => ?_)
  obtain ⟨n2, h⟩ := h
  exact wkFrm_guess_l6 X hr hlk hR hcl hf0 hn1 hc3  n2 _ _ _ h hw (lv_sub hl [2, 3, 4, 5, 1, 0] rfl)

end
