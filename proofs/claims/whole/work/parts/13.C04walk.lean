theorem dX9_advance_0 : decode cX9_advance 0 = .ok (.aload_n 1, 1) := by decide +kernel
theorem dX9_advance_1 : decode cX9_advance 1 = .ok (.getfield 33, 3) := by decide +kernel
theorem dX9_advance_4 : decode cX9_advance 4 = .ok (.iconst 1, 1) := by decide +kernel
theorem dX9_advance_5 : decode cX9_advance 5 = .ok (.isub, 1) := by decide +kernel
theorem dX9_advance_6 : decode cX9_advance 6 = .ok (.istore_n 2, 1) := by decide +kernel
theorem dX9_advance_7 : decode cX9_advance 7 = .ok (.iload_n 2, 1) := by decide +kernel
theorem dX9_advance_8 : decode cX9_advance 8 = .ok (.ifCond .lt 31, 3) := by decide +kernel
theorem dX9_advance_11 : decode cX9_advance 11 = .ok (.aload_n 0, 1) := by decide +kernel
theorem dX9_advance_12 : decode cX9_advance 12 = .ok (.getfield 19, 3) := by decide +kernel
theorem dX9_advance_15 : decode cX9_advance 15 = .ok (.iload_n 2, 1) := by decide +kernel
theorem dX9_advance_16 : decode cX9_advance 16 = .ok (.iaload, 1) := by decide +kernel
theorem dX9_advance_17 : decode cX9_advance 17 = .ok (.aload_n 1, 1) := by decide +kernel
theorem dX9_advance_18 : decode cX9_advance 18 = .ok (.getfield 87, 3) := by decide +kernel
theorem dX9_advance_21 : decode cX9_advance 21 = .ok (.iconst 1, 1) := by decide +kernel
theorem dX9_advance_22 : decode cX9_advance 22 = .ok (.isub, 1) := by decide +kernel
theorem dX9_advance_23 : decode cX9_advance 23 = .ok (.if_icmp .ne 16, 3) := by decide +kernel
theorem dX9_advance_26 : decode cX9_advance 26 = .ok (.aload_n 0, 1) := by decide +kernel
theorem dX9_advance_27 : decode cX9_advance 27 = .ok (.getfield 19, 3) := by decide +kernel
theorem dX9_advance_30 : decode cX9_advance 30 = .ok (.iload_n 2, 1) := by decide +kernel
theorem dX9_advance_31 : decode cX9_advance 31 = .ok (.iconst 0, 1) := by decide +kernel
theorem dX9_advance_32 : decode cX9_advance 32 = .ok (.iastore, 1) := by decide +kernel
theorem dX9_advance_33 : decode cX9_advance 33 = .ok (.iinc 2 (-1), 3) := by decide +kernel
theorem dX9_advance_36 : decode cX9_advance 36 = .ok (.goto (-29), 3) := by decide +kernel
theorem dX9_advance_39 : decode cX9_advance 39 = .ok (.iload_n 2, 1) := by decide +kernel
theorem dX9_advance_40 : decode cX9_advance 40 = .ok (.ifCond .lt 13, 3) := by decide +kernel
theorem dX9_advance_43 : decode cX9_advance 43 = .ok (.aload_n 0, 1) := by decide +kernel
theorem dX9_advance_44 : decode cX9_advance 44 = .ok (.getfield 19, 3) := by decide +kernel
theorem dX9_advance_47 : decode cX9_advance 47 = .ok (.iload_n 2, 1) := by decide +kernel
theorem dX9_advance_48 : decode cX9_advance 48 = .ok (.dup2, 1) := by decide +kernel
theorem dX9_advance_49 : decode cX9_advance 49 = .ok (.iaload, 1) := by decide +kernel
theorem dX9_advance_50 : decode cX9_advance 50 = .ok (.iconst 1, 1) := by decide +kernel
theorem dX9_advance_51 : decode cX9_advance 51 = .ok (.iadd, 1) := by decide +kernel
theorem dX9_advance_52 : decode cX9_advance 52 = .ok (.iastore, 1) := by decide +kernel
theorem dX9_advance_53 : decode cX9_advance 53 = .ok (.return_, 1) := by decide +kernel
theorem dX9_seek_0 : decode cX9_seek 0 = .ok (.aload_n 0, 1) := by decide +kernel
theorem dX9_seek_1 : decode cX9_seek 1 = .ok (.aload_n 1, 1) := by decide +kernel
theorem dX9_seek_2 : decode cX9_seek 2 = .ok (.aload_n 2, 1) := by decide +kernel
theorem dX9_seek_3 : decode cX9_seek 3 = .ok (.aload_n 3, 1) := by decide +kernel
theorem dX9_seek_4 : decode cX9_seek 4 = .ok (.invokevirtual 29, 3) := by decide +kernel
theorem dX9_seek_7 : decode cX9_seek 7 = .ok (.istore 4, 2) := by decide +kernel
theorem dX9_seek_9 : decode cX9_seek 9 = .ok (.iconst 0, 1) := by decide +kernel
theorem dX9_seek_10 : decode cX9_seek 10 = .ok (.istore 5, 2) := by decide +kernel
theorem dX9_seek_12 : decode cX9_seek 12 = .ok (.iload 5, 2) := by decide +kernel
theorem dX9_seek_14 : decode cX9_seek 14 = .ok (.aload_n 1, 1) := by decide +kernel
theorem dX9_seek_15 : decode cX9_seek 15 = .ok (.getfield 33, 3) := by decide +kernel
theorem dX9_seek_18 : decode cX9_seek 18 = .ok (.if_icmp .gt 47, 3) := by decide +kernel
theorem dX9_seek_21 : decode cX9_seek 21 = .ok (.iconst 1, 1) := by decide +kernel
theorem dX9_seek_22 : decode cX9_seek 22 = .ok (.iload 5, 2) := by decide +kernel
theorem dX9_seek_24 : decode cX9_seek 24 = .ok (.ishl, 1) := by decide +kernel
theorem dX9_seek_25 : decode cX9_seek 25 = .ok (.iconst 1, 1) := by decide +kernel
theorem dX9_seek_26 : decode cX9_seek 26 = .ok (.isub, 1) := by decide +kernel
theorem dX9_seek_27 : decode cX9_seek 27 = .ok (.istore 6, 2) := by decide +kernel
theorem dX9_seek_29 : decode cX9_seek 29 = .ok (.aload_n 0, 1) := by decide +kernel
theorem dX9_seek_30 : decode cX9_seek 30 = .ok (.getfield 25, 3) := by decide +kernel
theorem dX9_seek_33 : decode cX9_seek 33 = .ok (.iload 5, 2) := by decide +kernel
theorem dX9_seek_35 : decode cX9_seek 35 = .ok (.aload_n 2, 1) := by decide +kernel
theorem dX9_seek_36 : decode cX9_seek 36 = .ok (.iload 6, 2) := by decide +kernel
theorem dX9_seek_38 : decode cX9_seek 38 = .ok (.iconst 1, 1) := by decide +kernel
theorem dX9_seek_39 : decode cX9_seek 39 = .ok (.aload_n 1, 1) := by decide +kernel
theorem dX9_seek_40 : decode cX9_seek 40 = .ok (.getfield 33, 3) := by decide +kernel
theorem dX9_seek_43 : decode cX9_seek 43 = .ok (.ishl, 1) := by decide +kernel
theorem dX9_seek_44 : decode cX9_seek 44 = .ok (.iconst 1, 1) := by decide +kernel
theorem dX9_seek_45 : decode cX9_seek 45 = .ok (.isub, 1) := by decide +kernel
theorem dX9_seek_46 : decode cX9_seek 46 = .ok (.iload 6, 2) := by decide +kernel
theorem dX9_seek_48 : decode cX9_seek 48 = .ok (.iconst (-1), 1) := by decide +kernel
theorem dX9_seek_49 : decode cX9_seek 49 = .ok (.ixor, 1) := by decide +kernel
theorem dX9_seek_50 : decode cX9_seek 50 = .ok (.iand, 1) := by decide +kernel
theorem dX9_seek_51 : decode cX9_seek 51 = .ok (.aload_n 1, 1) := by decide +kernel
theorem dX9_seek_52 : decode cX9_seek 52 = .ok (.getfield 33, 3) := by decide +kernel
theorem dX9_seek_55 : decode cX9_seek 55 = .ok (.invokevirtual 38, 3) := by decide +kernel
theorem dX9_seek_58 : decode cX9_seek 58 = .ok (.bastore, 1) := by decide +kernel
theorem dX9_seek_59 : decode cX9_seek 59 = .ok (.iinc 5 1, 3) := by decide +kernel
theorem dX9_seek_62 : decode cX9_seek 62 = .ok (.goto (-50), 3) := by decide +kernel
theorem dX9_seek_65 : decode cX9_seek 65 = .ok (.aload_n 0, 1) := by decide +kernel
theorem dX9_seek_66 : decode cX9_seek 66 = .ok (.aload_n 1, 1) := by decide +kernel
theorem dX9_seek_67 : decode cX9_seek 67 = .ok (.getfield 33, 3) := by decide +kernel
theorem dX9_seek_70 : decode cX9_seek 70 = .ok (.putfield 15, 3) := by decide +kernel
theorem dX9_seek_73 : decode cX9_seek 73 = .ok (.aload_n 0, 1) := by decide +kernel
theorem dX9_seek_74 : decode cX9_seek 74 = .ok (.getfield 19, 3) := by decide +kernel
theorem dX9_seek_77 : decode cX9_seek 77 = .ok (.iconst 0, 1) := by decide +kernel
theorem dX9_seek_78 : decode cX9_seek 78 = .ok (.invokestatic 44, 3) := by decide +kernel
theorem dX9_seek_81 : decode cX9_seek 81 = .ok (.iconst (-1), 1) := by decide +kernel
theorem dX9_seek_82 : decode cX9_seek 82 = .ok (.istore 5, 2) := by decide +kernel
theorem dX9_seek_84 : decode cX9_seek 84 = .ok (.iconst 0, 1) := by decide +kernel
theorem dX9_seek_85 : decode cX9_seek 85 = .ok (.istore 6, 2) := by decide +kernel
theorem dX9_seek_87 : decode cX9_seek 87 = .ok (.iload 6, 2) := by decide +kernel
theorem dX9_seek_89 : decode cX9_seek 89 = .ok (.aload_n 1, 1) := by decide +kernel
theorem dX9_seek_90 : decode cX9_seek 90 = .ok (.getfield 50, 3) := by decide +kernel
theorem dX9_seek_93 : decode cX9_seek 93 = .ok (.if_icmp .ge 49, 3) := by decide +kernel
theorem dX9_seek_96 : decode cX9_seek 96 = .ok (.aload_n 0, 1) := by decide +kernel
theorem dX9_seek_97 : decode cX9_seek 97 = .ok (.aload_n 1, 1) := by decide +kernel
theorem dX9_seek_98 : decode cX9_seek 98 = .ok (.iload 4, 2) := by decide +kernel
theorem dX9_seek_100 : decode cX9_seek 100 = .ok (.invokevirtual 53, 3) := by decide +kernel
theorem dX9_seek_103 : decode cX9_seek 103 = .ok (.istore 7, 2) := by decide +kernel
theorem dX9_seek_105 : decode cX9_seek 105 = .ok (.iload 7, 2) := by decide +kernel
theorem dX9_seek_107 : decode cX9_seek 107 = .ok (.iload 5, 2) := by decide +kernel
theorem dX9_seek_109 : decode cX9_seek 109 = .ok (.if_icmp .le 22, 3) := by decide +kernel
theorem dX9_seek_112 : decode cX9_seek 112 = .ok (.iload 7, 2) := by decide +kernel
theorem dX9_seek_114 : decode cX9_seek 114 = .ok (.istore 5, 2) := by decide +kernel
theorem dX9_seek_116 : decode cX9_seek 116 = .ok (.aload_n 0, 1) := by decide +kernel
theorem dX9_seek_117 : decode cX9_seek 117 = .ok (.getfield 19, 3) := by decide +kernel
theorem dX9_seek_120 : decode cX9_seek 120 = .ok (.iconst 0, 1) := by decide +kernel
theorem dX9_seek_121 : decode cX9_seek 121 = .ok (.aload_n 0, 1) := by decide +kernel
theorem dX9_seek_122 : decode cX9_seek 122 = .ok (.getfield 9, 3) := by decide +kernel
theorem dX9_seek_125 : decode cX9_seek 125 = .ok (.iconst 0, 1) := by decide +kernel
theorem dX9_seek_126 : decode cX9_seek 126 = .ok (.bipush 8, 2) := by decide +kernel
theorem dX9_seek_128 : decode cX9_seek 128 = .ok (.invokestatic 57, 3) := by decide +kernel
theorem dX9_seek_131 : decode cX9_seek 131 = .ok (.aload_n 0, 1) := by decide +kernel
theorem dX9_seek_132 : decode cX9_seek 132 = .ok (.aload_n 1, 1) := by decide +kernel
theorem dX9_seek_133 : decode cX9_seek 133 = .ok (.invokevirtual 63, 3) := by decide +kernel
theorem dX9_seek_136 : decode cX9_seek 136 = .ok (.iinc 6 1, 3) := by decide +kernel
theorem dX9_seek_139 : decode cX9_seek 139 = .ok (.goto (-52), 3) := by decide +kernel
theorem dX9_seek_142 : decode cX9_seek 142 = .ok (.iload 5, 2) := by decide +kernel
theorem dX9_seek_144 : decode cX9_seek 144 = .ok (.ireturn, 1) := by decide +kernel
theorem dX9_sumOfDigits_0 : decode cX9_sumOfDigits 0 = .ok (.iconst 0, 1) := by decide +kernel
theorem dX9_sumOfDigits_1 : decode cX9_sumOfDigits 1 = .ok (.istore_n 2, 1) := by decide +kernel
theorem dX9_sumOfDigits_2 : decode cX9_sumOfDigits 2 = .ok (.iload_n 0, 1) := by decide +kernel
theorem dX9_sumOfDigits_3 : decode cX9_sumOfDigits 3 = .ok (.istore_n 3, 1) := by decide +kernel
theorem dX9_sumOfDigits_4 : decode cX9_sumOfDigits 4 = .ok (.iconst 0, 1) := by decide +kernel
theorem dX9_sumOfDigits_5 : decode cX9_sumOfDigits 5 = .ok (.istore 4, 2) := by decide +kernel
theorem dX9_sumOfDigits_7 : decode cX9_sumOfDigits 7 = .ok (.iload 4, 2) := by decide +kernel
theorem dX9_sumOfDigits_9 : decode cX9_sumOfDigits 9 = .ok (.bipush 8, 2) := by decide +kernel
theorem dX9_sumOfDigits_11 : decode cX9_sumOfDigits 11 = .ok (.if_icmp .ge 19, 3) := by decide +kernel
theorem dX9_sumOfDigits_14 : decode cX9_sumOfDigits 14 = .ok (.iload_n 2, 1) := by decide +kernel
theorem dX9_sumOfDigits_15 : decode cX9_sumOfDigits 15 = .ok (.iload_n 3, 1) := by decide +kernel
theorem dX9_sumOfDigits_16 : decode cX9_sumOfDigits 16 = .ok (.iload_n 1, 1) := by decide +kernel
theorem dX9_sumOfDigits_17 : decode cX9_sumOfDigits 17 = .ok (.irem, 1) := by decide +kernel
theorem dX9_sumOfDigits_18 : decode cX9_sumOfDigits 18 = .ok (.iadd, 1) := by decide +kernel
theorem dX9_sumOfDigits_19 : decode cX9_sumOfDigits 19 = .ok (.istore_n 2, 1) := by decide +kernel
theorem dX9_sumOfDigits_20 : decode cX9_sumOfDigits 20 = .ok (.iload_n 3, 1) := by decide +kernel
theorem dX9_sumOfDigits_21 : decode cX9_sumOfDigits 21 = .ok (.iload_n 1, 1) := by decide +kernel
theorem dX9_sumOfDigits_22 : decode cX9_sumOfDigits 22 = .ok (.idiv, 1) := by decide +kernel
theorem dX9_sumOfDigits_23 : decode cX9_sumOfDigits 23 = .ok (.istore_n 3, 1) := by decide +kernel
theorem dX9_sumOfDigits_24 : decode cX9_sumOfDigits 24 = .ok (.iinc 4 1, 3) := by decide +kernel
theorem dX9_sumOfDigits_27 : decode cX9_sumOfDigits 27 = .ok (.goto (-20), 3) := by decide +kernel
theorem dX9_sumOfDigits_30 : decode cX9_sumOfDigits 30 = .ok (.iload_n 2, 1) := by decide +kernel
theorem dX9_sumOfDigits_31 : decode cX9_sumOfDigits 31 = .ok (.ireturn, 1) := by decide +kernel
theorem dX9_settle_0 : decode cX9_settle 0 = .ok (.iconst 0, 1) := by decide +kernel
theorem dX9_settle_1 : decode cX9_settle 1 = .ok (.istore_n 2, 1) := by decide +kernel
theorem dX9_settle_2 : decode cX9_settle 2 = .ok (.iload_n 2, 1) := by decide +kernel
theorem dX9_settle_3 : decode cX9_settle 3 = .ok (.aload_n 1, 1) := by decide +kernel
theorem dX9_settle_4 : decode cX9_settle 4 = .ok (.getfield 33, 3) := by decide +kernel
theorem dX9_settle_7 : decode cX9_settle 7 = .ok (.if_icmp .ge 60, 3) := by decide +kernel
theorem dX9_settle_10 : decode cX9_settle 10 = .ok (.aload_n 1, 1) := by decide +kernel
theorem dX9_settle_11 : decode cX9_settle 11 = .ok (.iload_n 2, 1) := by decide +kernel
theorem dX9_settle_12 : decode cX9_settle 12 = .ok (.invokevirtual 96, 3) := by decide +kernel
theorem dX9_settle_15 : decode cX9_settle 15 = .ok (.iconst 0, 1) := by decide +kernel
theorem dX9_settle_16 : decode cX9_settle 16 = .ok (.istore_n 3, 1) := by decide +kernel
theorem dX9_settle_17 : decode cX9_settle 17 = .ok (.iload_n 3, 1) := by decide +kernel
theorem dX9_settle_18 : decode cX9_settle 18 = .ok (.aload_n 1, 1) := by decide +kernel
theorem dX9_settle_19 : decode cX9_settle 19 = .ok (.getfield 100, 3) := by decide +kernel
theorem dX9_settle_22 : decode cX9_settle 22 = .ok (.iload_n 2, 1) := by decide +kernel
theorem dX9_settle_23 : decode cX9_settle 23 = .ok (.iaload, 1) := by decide +kernel
theorem dX9_settle_24 : decode cX9_settle 24 = .ok (.if_icmp .ge 37, 3) := by decide +kernel
theorem dX9_settle_27 : decode cX9_settle 27 = .ok (.aload_n 1, 1) := by decide +kernel
theorem dX9_settle_28 : decode cX9_settle 28 = .ok (.iload_n 2, 1) := by decide +kernel
theorem dX9_settle_29 : decode cX9_settle 29 = .ok (.iload_n 3, 1) := by decide +kernel
theorem dX9_settle_30 : decode cX9_settle 30 = .ok (.aload_n 0, 1) := by decide +kernel
theorem dX9_settle_31 : decode cX9_settle 31 = .ok (.getfield 9, 3) := by decide +kernel
theorem dX9_settle_34 : decode cX9_settle 34 = .ok (.iload_n 2, 1) := by decide +kernel
theorem dX9_settle_35 : decode cX9_settle 35 = .ok (.iaload, 1) := by decide +kernel
theorem dX9_settle_36 : decode cX9_settle 36 = .ok (.iload_n 3, 1) := by decide +kernel
theorem dX9_settle_37 : decode cX9_settle 37 = .ok (.aload_n 1, 1) := by decide +kernel
theorem dX9_settle_38 : decode cX9_settle 38 = .ok (.getfield 87, 3) := by decide +kernel
theorem dX9_settle_41 : decode cX9_settle 41 = .ok (.invokestatic 103, 3) := by decide +kernel
theorem dX9_settle_44 : decode cX9_settle 44 = .ok (.isub, 1) := by decide +kernel
theorem dX9_settle_45 : decode cX9_settle 45 = .ok (.aload_n 1, 1) := by decide +kernel
theorem dX9_settle_46 : decode cX9_settle 46 = .ok (.getfield 87, 3) := by decide +kernel
theorem dX9_settle_49 : decode cX9_settle 49 = .ok (.invokestatic 107, 3) := by decide +kernel
theorem dX9_settle_52 : decode cX9_settle 52 = .ok (.invokevirtual 112, 3) := by decide +kernel
theorem dX9_settle_55 : decode cX9_settle 55 = .ok (.iinc 3 1, 3) := by decide +kernel
theorem dX9_settle_58 : decode cX9_settle 58 = .ok (.goto (-41), 3) := by decide +kernel
theorem dX9_settle_61 : decode cX9_settle 61 = .ok (.iinc 2 1, 3) := by decide +kernel
theorem dX9_settle_64 : decode cX9_settle 64 = .ok (.goto (-62), 3) := by decide +kernel
theorem dX9_settle_67 : decode cX9_settle 67 = .ok (.return_, 1) := by decide +kernel
theorem dX10_hall_0 : decode cX10_hall 0 = .ok (.iload_n 1, 1) := by decide +kernel
theorem dX10_hall_1 : decode cX10_hall 1 = .ok (.iload_n 2, 1) := by decide +kernel
theorem dX10_hall_2 : decode cX10_hall 2 = .ok (.invokestatic 103, 3) := by decide +kernel
theorem dX10_hall_5 : decode cX10_hall 5 = .ok (.ifCond .ne 5, 3) := by decide +kernel
theorem dX10_hall_8 : decode cX10_hall 8 = .ok (.iconst 0, 1) := by decide +kernel
theorem dX10_hall_9 : decode cX10_hall 9 = .ok (.ireturn, 1) := by decide +kernel
theorem dX10_hall_10 : decode cX10_hall 10 = .ok (.aload_n 0, 1) := by decide +kernel
theorem dX10_hall_11 : decode cX10_hall 11 = .ok (.getfield 10, 3) := by decide +kernel
theorem dX10_hall_14 : decode cX10_hall 14 = .ok (.iload_n 1, 1) := by decide +kernel
theorem dX10_hall_15 : decode cX10_hall 15 = .ok (.iload_n 2, 1) := by decide +kernel
theorem dX10_hall_16 : decode cX10_hall 16 = .ok (.invokevirtual 107, 3) := by decide +kernel
theorem dX10_hall_19 : decode cX10_hall 19 = .ok (.aload_n 0, 1) := by decide +kernel
theorem dX10_hall_20 : decode cX10_hall 20 = .ok (.getfield 40, 3) := by decide +kernel
theorem dX10_hall_23 : decode cX10_hall 23 = .ok (.invokevirtual 111, 3) := by decide +kernel
theorem dX10_hall_26 : decode cX10_hall 26 = .ok (.iconst 1, 1) := by decide +kernel
theorem dX10_hall_27 : decode cX10_hall 27 = .ok (.ireturn, 1) := by decide +kernel
theorem dX10_heap_0 : decode cX10_heap 0 = .ok (.iload_n 1, 1) := by decide +kernel
theorem dX10_heap_1 : decode cX10_heap 1 = .ok (.ifCond .lt 24, 3) := by decide +kernel
theorem dX10_heap_4 : decode cX10_heap 4 = .ok (.iload_n 1, 1) := by decide +kernel
theorem dX10_heap_5 : decode cX10_heap 5 = .ok (.aload_n 0, 1) := by decide +kernel
theorem dX10_heap_6 : decode cX10_heap 6 = .ok (.getfield 10, 3) := by decide +kernel
theorem dX10_heap_9 : decode cX10_heap 9 = .ok (.getfield 128, 3) := by decide +kernel
theorem dX10_heap_12 : decode cX10_heap 12 = .ok (.if_icmp .ge 13, 3) := by decide +kernel
theorem dX10_heap_15 : decode cX10_heap 15 = .ok (.iload_n 2, 1) := by decide +kernel
theorem dX10_heap_16 : decode cX10_heap 16 = .ok (.ifCond .lt 9, 3) := by decide +kernel
theorem dX10_heap_19 : decode cX10_heap 19 = .ok (.iload_n 2, 1) := by decide +kernel
theorem dX10_heap_20 : decode cX10_heap 20 = .ok (.bipush 9, 2) := by decide +kernel
theorem dX10_heap_22 : decode cX10_heap 22 = .ok (.if_icmp .le 5, 3) := by decide +kernel
theorem dX10_heap_25 : decode cX10_heap 25 = .ok (.iconst 0, 1) := by decide +kernel
theorem dX10_heap_26 : decode cX10_heap 26 = .ok (.ireturn, 1) := by decide +kernel
theorem dX10_heap_27 : decode cX10_heap 27 = .ok (.aload_n 0, 1) := by decide +kernel
theorem dX10_heap_28 : decode cX10_heap 28 = .ok (.getfield 33, 3) := by decide +kernel
theorem dX10_heap_31 : decode cX10_heap 31 = .ok (.getfield 131, 3) := by decide +kernel
theorem dX10_heap_34 : decode cX10_heap 34 = .ok (.iload_n 1, 1) := by decide +kernel
theorem dX10_heap_35 : decode cX10_heap 35 = .ok (.iload_n 2, 1) := by decide +kernel
theorem dX10_heap_36 : decode cX10_heap 36 = .ok (.iastore, 1) := by decide +kernel
theorem dX10_heap_37 : decode cX10_heap 37 = .ok (.aload_n 0, 1) := by decide +kernel
theorem dX10_heap_38 : decode cX10_heap 38 = .ok (.getfield 40, 3) := by decide +kernel
theorem dX10_heap_41 : decode cX10_heap 41 = .ok (.invokevirtual 111, 3) := by decide +kernel
theorem dX10_heap_44 : decode cX10_heap 44 = .ok (.iconst 1, 1) := by decide +kernel
theorem dX10_heap_45 : decode cX10_heap 45 = .ok (.ireturn, 1) := by decide +kernel
theorem dX10_law_0 : decode cX10_law 0 = .ok (.iload_n 1, 1) := by decide +kernel
theorem dX10_law_1 : decode cX10_law 1 = .ok (.ifCond .lt 18, 3) := by decide +kernel
theorem dX10_law_4 : decode cX10_law 4 = .ok (.iload_n 1, 1) := by decide +kernel
theorem dX10_law_5 : decode cX10_law 5 = .ok (.iconst 3, 1) := by decide +kernel
theorem dX10_law_6 : decode cX10_law 6 = .ok (.if_icmp .gt 13, 3) := by decide +kernel
theorem dX10_law_9 : decode cX10_law 9 = .ok (.iload_n 2, 1) := by decide +kernel
theorem dX10_law_10 : decode cX10_law 10 = .ok (.ifCond .lt 9, 3) := by decide +kernel
theorem dX10_law_13 : decode cX10_law 13 = .ok (.iload_n 2, 1) := by decide +kernel
theorem dX10_law_14 : decode cX10_law 14 = .ok (.bipush 8, 2) := by decide +kernel
theorem dX10_law_16 : decode cX10_law 16 = .ok (.if_icmp .le 5, 3) := by decide +kernel
theorem dX10_law_19 : decode cX10_law 19 = .ok (.iconst 0, 1) := by decide +kernel
theorem dX10_law_20 : decode cX10_law 20 = .ok (.ireturn, 1) := by decide +kernel
theorem dX10_law_21 : decode cX10_law 21 = .ok (.aload_n 0, 1) := by decide +kernel
theorem dX10_law_22 : decode cX10_law 22 = .ok (.getfield 33, 3) := by decide +kernel
theorem dX10_law_25 : decode cX10_law 25 = .ok (.iload_n 1, 1) := by decide +kernel
theorem dX10_law_26 : decode cX10_law 26 = .ok (.putfield 134, 3) := by decide +kernel
theorem dX10_law_29 : decode cX10_law 29 = .ok (.aload_n 0, 1) := by decide +kernel
theorem dX10_law_30 : decode cX10_law 30 = .ok (.getfield 33, 3) := by decide +kernel
theorem dX10_law_33 : decode cX10_law 33 = .ok (.iload_n 2, 1) := by decide +kernel
theorem dX10_law_34 : decode cX10_law 34 = .ok (.putfield 137, 3) := by decide +kernel
theorem dX10_law_37 : decode cX10_law 37 = .ok (.iconst 1, 1) := by decide +kernel
theorem dX10_law_38 : decode cX10_law 38 = .ok (.ireturn, 1) := by decide +kernel
theorem dX10_putBytes_0 : decode cX10_putBytes 0 = .ok (.bipush 24, 2) := by decide +kernel
theorem dX10_putBytes_2 : decode cX10_putBytes 2 = .ok (.istore_n 2, 1) := by decide +kernel
theorem dX10_putBytes_3 : decode cX10_putBytes 3 = .ok (.iload_n 2, 1) := by decide +kernel
theorem dX10_putBytes_4 : decode cX10_putBytes 4 = .ok (.ifCond .lt 45, 3) := by decide +kernel
theorem dX10_putBytes_7 : decode cX10_putBytes 7 = .ok (.aload_n 0, 1) := by decide +kernel
theorem dX10_putBytes_8 : decode cX10_putBytes 8 = .ok (.getfield 55, 3) := by decide +kernel
theorem dX10_putBytes_11 : decode cX10_putBytes 11 = .ok (.sipush 500, 3) := by decide +kernel
theorem dX10_putBytes_14 : decode cX10_putBytes 14 = .ok (.if_icmp .ge 35, 3) := by decide +kernel
theorem dX10_putBytes_17 : decode cX10_putBytes 17 = .ok (.aload_n 0, 1) := by decide +kernel
theorem dX10_putBytes_18 : decode cX10_putBytes 18 = .ok (.getfield 51, 3) := by decide +kernel
theorem dX10_putBytes_21 : decode cX10_putBytes 21 = .ok (.aload_n 0, 1) := by decide +kernel
theorem dX10_putBytes_22 : decode cX10_putBytes 22 = .ok (.getfield 55, 3) := by decide +kernel
theorem dX10_putBytes_25 : decode cX10_putBytes 25 = .ok (.iload_n 1, 1) := by decide +kernel
theorem dX10_putBytes_26 : decode cX10_putBytes 26 = .ok (.iload_n 2, 1) := by decide +kernel
theorem dX10_putBytes_27 : decode cX10_putBytes 27 = .ok (.iushr, 1) := by decide +kernel
theorem dX10_putBytes_28 : decode cX10_putBytes 28 = .ok (.sipush 255, 3) := by decide +kernel
theorem dX10_putBytes_31 : decode cX10_putBytes 31 = .ok (.iand, 1) := by decide +kernel
theorem dX10_putBytes_32 : decode cX10_putBytes 32 = .ok (.iastore, 1) := by decide +kernel
theorem dX10_putBytes_33 : decode cX10_putBytes 33 = .ok (.aload_n 0, 1) := by decide +kernel
theorem dX10_putBytes_34 : decode cX10_putBytes 34 = .ok (.dup, 1) := by decide +kernel
theorem dX10_putBytes_35 : decode cX10_putBytes 35 = .ok (.getfield 55, 3) := by decide +kernel
theorem dX10_putBytes_38 : decode cX10_putBytes 38 = .ok (.iconst 1, 1) := by decide +kernel
theorem dX10_putBytes_39 : decode cX10_putBytes 39 = .ok (.iadd, 1) := by decide +kernel
theorem dX10_putBytes_40 : decode cX10_putBytes 40 = .ok (.putfield 55, 3) := by decide +kernel
theorem dX10_putBytes_43 : decode cX10_putBytes 43 = .ok (.iinc 2 (-8), 3) := by decide +kernel
theorem dX10_putBytes_46 : decode cX10_putBytes 46 = .ok (.goto (-43), 3) := by decide +kernel
theorem dX10_putBytes_49 : decode cX10_putBytes 49 = .ok (.return_, 1) := by decide +kernel
theorem dX10_feed_0 : decode cX10_feed 0 = .ok (.aload_n 0, 1) := by decide +kernel
theorem dX10_feed_1 : decode cX10_feed 1 = .ok (.getfield 55, 3) := by decide +kernel
theorem dX10_feed_4 : decode cX10_feed 4 = .ok (.bipush 20, 2) := by decide +kernel
theorem dX10_feed_6 : decode cX10_feed 6 = .ok (.iadd, 1) := by decide +kernel
theorem dX10_feed_7 : decode cX10_feed 7 = .ok (.sipush 500, 3) := by decide +kernel
theorem dX10_feed_10 : decode cX10_feed 10 = .ok (.if_icmp .le 5, 3) := by decide +kernel
theorem dX10_feed_13 : decode cX10_feed 13 = .ok (.iconst (-1), 1) := by decide +kernel
theorem dX10_feed_14 : decode cX10_feed 14 = .ok (.ireturn, 1) := by decide +kernel
theorem dX10_feed_15 : decode cX10_feed 15 = .ok (.aload_n 0, 1) := by decide +kernel
theorem dX10_feed_16 : decode cX10_feed 16 = .ok (.iload_n 1, 1) := by decide +kernel
theorem dX10_feed_17 : decode cX10_feed 17 = .ok (.invokevirtual 140, 3) := by decide +kernel
theorem dX10_feed_20 : decode cX10_feed 20 = .ok (.aload_n 0, 1) := by decide +kernel
theorem dX10_feed_21 : decode cX10_feed 21 = .ok (.iload_n 2, 1) := by decide +kernel
theorem dX10_feed_22 : decode cX10_feed 22 = .ok (.invokevirtual 140, 3) := by decide +kernel
theorem dX10_feed_25 : decode cX10_feed 25 = .ok (.aload_n 0, 1) := by decide +kernel
theorem dX10_feed_26 : decode cX10_feed 26 = .ok (.iload_n 3, 1) := by decide +kernel
theorem dX10_feed_27 : decode cX10_feed 27 = .ok (.invokevirtual 140, 3) := by decide +kernel
theorem dX10_feed_30 : decode cX10_feed 30 = .ok (.aload_n 0, 1) := by decide +kernel
theorem dX10_feed_31 : decode cX10_feed 31 = .ok (.iload 4, 2) := by decide +kernel
theorem dX10_feed_33 : decode cX10_feed 33 = .ok (.invokevirtual 140, 3) := by decide +kernel
theorem dX10_feed_36 : decode cX10_feed 36 = .ok (.aload_n 0, 1) := by decide +kernel
theorem dX10_feed_37 : decode cX10_feed 37 = .ok (.iload 5, 2) := by decide +kernel
theorem dX10_feed_39 : decode cX10_feed 39 = .ok (.invokevirtual 140, 3) := by decide +kernel
theorem dX10_feed_42 : decode cX10_feed 42 = .ok (.aload_n 0, 1) := by decide +kernel
theorem dX10_feed_43 : decode cX10_feed 43 = .ok (.getfield 55, 3) := by decide +kernel
theorem dX10_feed_46 : decode cX10_feed 46 = .ok (.ireturn, 1) := by decide +kernel
theorem dX10_fault_0 : decode cX10_fault 0 = .ok (.aload_n 0, 1) := by decide +kernel
theorem dX10_fault_1 : decode cX10_fault 1 = .ok (.getfield 47, 3) := by decide +kernel
theorem dX10_fault_4 : decode cX10_fault 4 = .ok (.getfield 168, 3) := by decide +kernel
theorem dX10_fault_7 : decode cX10_fault 7 = .ok (.ireturn, 1) := by decide +kernel
theorem dX10_beaten_0 : decode cX10_beaten 0 = .ok (.aload_n 0, 1) := by decide +kernel
theorem dX10_beaten_1 : decode cX10_beaten 1 = .ok (.getfield 40, 3) := by decide +kernel
theorem dX10_beaten_4 : decode cX10_beaten 4 = .ok (.aload_n 0, 1) := by decide +kernel
theorem dX10_beaten_5 : decode cX10_beaten 5 = .ok (.getfield 10, 3) := by decide +kernel
theorem dX10_beaten_8 : decode cX10_beaten 8 = .ok (.aload_n 0, 1) := by decide +kernel
theorem dX10_beaten_9 : decode cX10_beaten 9 = .ok (.getfield 33, 3) := by decide +kernel
theorem dX10_beaten_12 : decode cX10_beaten 12 = .ok (.aload_n 0, 1) := by decide +kernel
theorem dX10_beaten_13 : decode cX10_beaten 13 = .ok (.getfield 26, 3) := by decide +kernel
theorem dX10_beaten_16 : decode cX10_beaten 16 = .ok (.invokevirtual 246, 3) := by decide +kernel
theorem dX10_beaten_19 : decode cX10_beaten 19 = .ok (.aload_n 0, 1) := by decide +kernel
theorem dX10_beaten_20 : decode cX10_beaten 20 = .ok (.getfield 40, 3) := by decide +kernel
theorem dX10_beaten_23 : decode cX10_beaten 23 = .ok (.aload_n 0, 1) := by decide +kernel
theorem dX10_beaten_24 : decode cX10_beaten 24 = .ok (.getfield 10, 3) := by decide +kernel
theorem dX10_beaten_27 : decode cX10_beaten 27 = .ok (.aload_n 0, 1) := by decide +kernel
theorem dX10_beaten_28 : decode cX10_beaten 28 = .ok (.getfield 33, 3) := by decide +kernel
theorem dX10_beaten_31 : decode cX10_beaten 31 = .ok (.iload_n 1, 1) := by decide +kernel
theorem dX10_beaten_32 : decode cX10_beaten 32 = .ok (.invokevirtual 258, 3) := by decide +kernel
theorem dX10_beaten_35 : decode cX10_beaten 35 = .ok (.ireturn, 1) := by decide +kernel
theorem dX10_tally_0 : decode cX10_tally 0 = .ok (.aload_n 0, 1) := by decide +kernel
theorem dX10_tally_1 : decode cX10_tally 1 = .ok (.getfield 40, 3) := by decide +kernel
theorem dX10_tally_4 : decode cX10_tally 4 = .ok (.aload_n 0, 1) := by decide +kernel
theorem dX10_tally_5 : decode cX10_tally 5 = .ok (.getfield 10, 3) := by decide +kernel
theorem dX10_tally_8 : decode cX10_tally 8 = .ok (.aload_n 0, 1) := by decide +kernel
theorem dX10_tally_9 : decode cX10_tally 9 = .ok (.getfield 33, 3) := by decide +kernel
theorem dX10_tally_12 : decode cX10_tally 12 = .ok (.aload_n 0, 1) := by decide +kernel
theorem dX10_tally_13 : decode cX10_tally 13 = .ok (.getfield 26, 3) := by decide +kernel
theorem dX10_tally_16 : decode cX10_tally 16 = .ok (.invokevirtual 246, 3) := by decide +kernel
theorem dX10_tally_19 : decode cX10_tally 19 = .ok (.aload_n 0, 1) := by decide +kernel
theorem dX10_tally_20 : decode cX10_tally 20 = .ok (.getfield 40, 3) := by decide +kernel
theorem dX10_tally_23 : decode cX10_tally 23 = .ok (.aload_n 0, 1) := by decide +kernel
theorem dX10_tally_24 : decode cX10_tally 24 = .ok (.getfield 10, 3) := by decide +kernel
theorem dX10_tally_27 : decode cX10_tally 27 = .ok (.iload_n 1, 1) := by decide +kernel
theorem dX10_tally_28 : decode cX10_tally 28 = .ok (.invokevirtual 262, 3) := by decide +kernel
theorem dX10_tally_31 : decode cX10_tally 31 = .ok (.ireturn, 1) := by decide +kernel
theorem dX10_alike_0 : decode cX10_alike 0 = .ok (.aload_n 0, 1) := by decide +kernel
theorem dX10_alike_1 : decode cX10_alike 1 = .ok (.getfield 10, 3) := by decide +kernel
theorem dX10_alike_4 : decode cX10_alike 4 = .ok (.invokevirtual 293, 3) := by decide +kernel
theorem dX10_alike_7 : decode cX10_alike 7 = .ok (.ireturn, 1) := by decide +kernel
theorem dX10_ring_0 : decode cX10_ring 0 = .ok (.aload_n 0, 1) := by decide +kernel
theorem dX10_ring_1 : decode cX10_ring 1 = .ok (.getfield 10, 3) := by decide +kernel
theorem dX10_ring_4 : decode cX10_ring 4 = .ok (.invokevirtual 297, 3) := by decide +kernel
theorem dX10_ring_7 : decode cX10_ring 7 = .ok (.ireturn, 1) := by decide +kernel
theorem dX10_steps_0 : decode cX10_steps 0 = .ok (.aload_n 0, 1) := by decide +kernel
theorem dX10_steps_1 : decode cX10_steps 1 = .ok (.getfield 62, 3) := by decide +kernel
theorem dX10_steps_4 : decode cX10_steps 4 = .ok (.getfield 312, 3) := by decide +kernel
theorem dX10_steps_7 : decode cX10_steps 7 = .ok (.ireturn, 1) := by decide +kernel
theorem dX10_cover_0 : decode cX10_cover 0 = .ok (.aload_n 0, 1) := by decide +kernel
theorem dX10_cover_1 : decode cX10_cover 1 = .ok (.getfield 10, 3) := by decide +kernel
theorem dX10_cover_4 : decode cX10_cover 4 = .ok (.getfield 128, 3) := by decide +kernel
theorem dX10_cover_7 : decode cX10_cover 7 = .ok (.iconst 2, 1) := by decide +kernel
theorem dX10_cover_8 : decode cX10_cover 8 = .ok (.if_icmp .ne 14, 3) := by decide +kernel
theorem dX10_cover_11 : decode cX10_cover 11 = .ok (.aload_n 0, 1) := by decide +kernel
theorem dX10_cover_12 : decode cX10_cover 12 = .ok (.getfield 10, 3) := by decide +kernel
theorem dX10_cover_15 : decode cX10_cover 15 = .ok (.getfield 150, 3) := by decide +kernel
theorem dX10_cover_18 : decode cX10_cover 18 = .ok (.iconst 5, 1) := by decide +kernel
theorem dX10_cover_19 : decode cX10_cover 19 = .ok (.if_icmp .le 5, 3) := by decide +kernel
theorem dX10_cover_22 : decode cX10_cover 22 = .ok (.iconst (-1), 1) := by decide +kernel
theorem dX10_cover_23 : decode cX10_cover 23 = .ok (.ireturn, 1) := by decide +kernel
theorem dX10_cover_24 : decode cX10_cover 24 = .ok (.aload_n 0, 1) := by decide +kernel
theorem dX10_cover_25 : decode cX10_cover 25 = .ok (.getfield 76, 3) := by decide +kernel
theorem dX10_cover_28 : decode cX10_cover 28 = .ok (.aload_n 0, 1) := by decide +kernel
theorem dX10_cover_29 : decode cX10_cover 29 = .ok (.getfield 10, 3) := by decide +kernel
theorem dX10_cover_32 : decode cX10_cover 32 = .ok (.getfield 150, 3) := by decide +kernel
theorem dX10_cover_35 : decode cX10_cover 35 = .ok (.invokevirtual 328, 3) := by decide +kernel
theorem dX10_cover_38 : decode cX10_cover 38 = .ok (.aload_n 0, 1) := by decide +kernel
theorem dX10_cover_39 : decode cX10_cover 39 = .ok (.getfield 76, 3) := by decide +kernel
theorem dX10_cover_42 : decode cX10_cover 42 = .ok (.aload_n 0, 1) := by decide +kernel
theorem dX10_cover_43 : decode cX10_cover 43 = .ok (.getfield 10, 3) := by decide +kernel
theorem dX10_cover_46 : decode cX10_cover 46 = .ok (.invokevirtual 330, 3) := by decide +kernel
theorem dX10_cover_49 : decode cX10_cover 49 = .ok (.aload_n 0, 1) := by decide +kernel
theorem dX10_cover_50 : decode cX10_cover 50 = .ok (.getfield 40, 3) := by decide +kernel
theorem dX10_cover_53 : decode cX10_cover 53 = .ok (.invokevirtual 111, 3) := by decide +kernel
theorem dX10_cover_56 : decode cX10_cover 56 = .ok (.aload_n 0, 1) := by decide +kernel
theorem dX10_cover_57 : decode cX10_cover 57 = .ok (.getfield 76, 3) := by decide +kernel
theorem dX10_cover_60 : decode cX10_cover 60 = .ok (.getfield 331, 3) := by decide +kernel
theorem dX10_cover_63 : decode cX10_cover 63 = .ok (.ireturn, 1) := by decide +kernel
theorem dX10_draw_0 : decode cX10_draw 0 = .ok (.aload_n 0, 1) := by decide +kernel
theorem dX10_draw_1 : decode cX10_draw 1 = .ok (.getfield 40, 3) := by decide +kernel
theorem dX10_draw_4 : decode cX10_draw 4 = .ok (.invokevirtual 111, 3) := by decide +kernel
theorem dX10_draw_7 : decode cX10_draw 7 = .ok (.aload_n 0, 1) := by decide +kernel
theorem dX10_draw_8 : decode cX10_draw 8 = .ok (.getfield 10, 3) := by decide +kernel
theorem dX10_draw_11 : decode cX10_draw 11 = .ok (.iload_n 1, 1) := by decide +kernel
theorem dX10_draw_12 : decode cX10_draw 12 = .ok (.invokevirtual 355, 3) := by decide +kernel
theorem dX10_draw_15 : decode cX10_draw 15 = .ok (.ireturn, 1) := by decide +kernel
theorem dX10_take_0 : decode cX10_take 0 = .ok (.iload_n 1, 1) := by decide +kernel
theorem dX10_take_1 : decode cX10_take 1 = .ok (.ifCond .lt 17, 3) := by decide +kernel
theorem dX10_take_4 : decode cX10_take 4 = .ok (.iload_n 1, 1) := by decide +kernel
theorem dX10_take_5 : decode cX10_take 5 = .ok (.iconst 4, 1) := by decide +kernel
theorem dX10_take_6 : decode cX10_take 6 = .ok (.if_icmp .ge 12, 3) := by decide +kernel
theorem dX10_take_9 : decode cX10_take 9 = .ok (.aload_n 0, 1) := by decide +kernel
theorem dX10_take_10 : decode cX10_take 10 = .ok (.getfield 19, 3) := by decide +kernel
theorem dX10_take_13 : decode cX10_take 13 = .ok (.iload_n 1, 1) := by decide +kernel
theorem dX10_take_14 : decode cX10_take 14 = .ok (.aaload, 1) := by decide +kernel
theorem dX10_take_15 : decode cX10_take 15 = .ok (.ifnonnull 5, 3) := by decide +kernel
theorem dX10_take_18 : decode cX10_take 18 = .ok (.iconst 0, 1) := by decide +kernel
theorem dX10_take_19 : decode cX10_take 19 = .ok (.ireturn, 1) := by decide +kernel
theorem dX10_take_20 : decode cX10_take 20 = .ok (.aload_n 0, 1) := by decide +kernel
theorem dX10_take_21 : decode cX10_take 21 = .ok (.getfield 10, 3) := by decide +kernel
theorem dX10_take_24 : decode cX10_take 24 = .ok (.aload_n 0, 1) := by decide +kernel
theorem dX10_take_25 : decode cX10_take 25 = .ok (.getfield 19, 3) := by decide +kernel
theorem dX10_take_28 : decode cX10_take 28 = .ok (.iload_n 1, 1) := by decide +kernel
theorem dX10_take_29 : decode cX10_take 29 = .ok (.aaload, 1) := by decide +kernel
theorem dX10_take_30 : decode cX10_take 30 = .ok (.invokevirtual 283, 3) := by decide +kernel
theorem dX10_take_33 : decode cX10_take 33 = .ok (.aload_n 0, 1) := by decide +kernel
theorem dX10_take_34 : decode cX10_take 34 = .ok (.getfield 40, 3) := by decide +kernel
theorem dX10_take_37 : decode cX10_take 37 = .ok (.invokevirtual 111, 3) := by decide +kernel
theorem dX10_take_40 : decode cX10_take 40 = .ok (.iconst 1, 1) := by decide +kernel
theorem dX10_take_41 : decode cX10_take 41 = .ok (.ireturn, 1) := by decide +kernel
section
variable {p : Program} {l : Launch} {e : Env} {R : Room} {s : State} {m : MethodId} {args : Array Value} {below : List Frame} {meth : Method} {c : Code} {D : va_G} {cA : Nat → ClassId} {z : Nat} {A : Nat → Prop} {J : HJ} {Ev : HE}
theorem wkSu_advance_b39 {I : HI} {T : HR} {F : HR} {L : HL} {r1 : Nat} {x2 : Int32} {Q : HI → Prop} (X : hX p m c s args RX9 cX9_advance 3) (hr : meth.sig.returnType = none) (hlk : meth.locks = false) (hR : 0 ≤ R.frames ∧ 0 ≤ R.locals) (hcl : hCl Ev) (hG : Geo F L) (hn1 : NetSh F L r1)  : ∀ {ls : Array Slot} {H : Heap} {locs : List Loc}, Su_advance_b39 I r1 x2 Q → hW D cA z Ev (I, J, T, F, L) A s H locs → lv_has ls 3 [(0, .ref (z + 39)), (2, .int x2)] → W p l e R s m args below meth c H locs 0 0 (MQ below (va_Qv (pIv J T F L Q) (hB D cA z A) A) args s 0 0 A) (F0 m 39 ls []) := by
  have hx := X.1
  have hb := X.2.1
  intro ls H locs h hw hl
  unfold Su_advance_b39 at h
  refine lv_iload_n hx hb dX9_advance_39 rfl (lv_at hl 1 rfl) ?_
  refine lv_if_lt (tgt := 53) hx hb dX9_advance_40 (by decide) (fun hc => ?_) (fun hc => ?_)
  · have h := Eq.mp (if_pos hc) h
    exact hm_vret X hr hlk hw ⟨_, rfl, h⟩ dX9_advance_53
  · have h := Eq.mp (if_neg hc) h
    refine lv_aload_n hx hb dX9_advance_43 rfl (lv_at hl 0 rfl) ?_
    refine hm_getr X hw lk_9_19 (gl_39 hG) (gf_39_2 hG) dX9_advance_44 ?_
    refine lv_iload_n hx hb dX9_advance_47 rfl (lv_at hl 1 rfl) ?_
    refine lv_dup2_11 hx hb dX9_advance_48 rfl rfl ?_
    obtain ⟨hi, h⟩ := h
    refine hm_iald X hw (gl_41 hG) hi dX9_advance_49 ?_
    refine lv_iconst (v := 1) hx hb dX9_advance_50 (by decide) ?_
    refine lv_iadd hx hb dX9_advance_51 ?_
    obtain ⟨hi, h⟩ := h
    refine hm_iast X hw (gl_41 hG) hi dX9_advance_52 (fun H locs hw => ?_)
    exact hm_vret X hr hlk hw ⟨_, rfl, h⟩ dX9_advance_53

theorem wkSu_advance_l7 {T : HR} {F : HR} {L : HL} {r1 : Nat} {Q : HI → Prop} (X : hX p m c s args RX9 cX9_advance 3) (hr : meth.sig.returnType = none) (hlk : meth.locks = false) (hR : 0 ≤ R.frames ∧ 0 ≤ R.locals) (hcl : hCl Ev) (hG : Geo F L) (hn1 : NetSh F L r1)  : ∀ (n : Nat) (I : HI) (x2 : Int32) {ls : Array Slot} {H : Heap} {locs : List Loc}, Su_advance_l7 r1 Q n I x2 → hW D cA z Ev (I, J, T, F, L) A s H locs → lv_has ls 3 [(0, .ref (z + 39)), (1, .ref (z + r1)), (2, .int x2)] → W p l e R s m args below meth c H locs 0 0 (MQ below (va_Qv (pIv J T F L Q) (hB D cA z A) A) args s 0 0 A) (F0 m 7 ls []) := by
  have hx := X.1
  have hb := X.2.1
  intro n
  induction n with
  | zero => intro I x2 ls H locs h; exact False.elim h
  | succ n ih =>
    intro I x2 ls H locs h hw hl
    rw [Su_advance_l7] at h
    refine lv_iload_n hx hb dX9_advance_7 rfl (lv_at hl 2 rfl) ?_
    refine lv_if_lt (tgt := 39) hx hb dX9_advance_8 (by decide) (fun hc => ?_) (fun hc => ?_)
    · have h := Eq.mp (if_pos hc) h
      exact wkSu_advance_b39 X hr hlk hR hcl hG hn1  h hw (lv_sub hl [0, 2] rfl)
    · have h := Eq.mp (if_neg hc) h
      refine lv_aload_n hx hb dX9_advance_11 rfl (lv_at hl 0 rfl) ?_
      refine hm_getr X hw lk_9_19 (gl_39 hG) (gf_39_2 hG) dX9_advance_12 ?_
      refine lv_iload_n hx hb dX9_advance_15 rfl (lv_at hl 2 rfl) ?_
      obtain ⟨hi, h⟩ := h
      refine hm_iald X hw (gl_41 hG) hi dX9_advance_16 ?_
      refine lv_aload_n hx hb dX9_advance_17 rfl (lv_at hl 1 rfl) ?_
      refine hm_geti X hw lk_9_87 hn1.1 dX9_advance_18 ?_
      refine lv_iconst (v := 1) hx hb dX9_advance_21 (by decide) ?_
      refine lv_isub hx hb dX9_advance_22 ?_
      refine lv_icmp_ne (tgt := 39) hx hb dX9_advance_23 (by decide) (fun hc => ?_) (fun hc => ?_)
      · have h := Eq.mp (if_neg hc) h
        exact wkSu_advance_b39 X hr hlk hR hcl hG hn1  h hw (lv_sub hl [0, 2] rfl)
      · have h := Eq.mp (if_pos hc) h
        refine lv_aload_n hx hb dX9_advance_26 rfl (lv_at hl 0 rfl) ?_
        refine hm_getr X hw lk_9_19 (gl_39 hG) (gf_39_2 hG) dX9_advance_27 ?_
        refine lv_iload_n hx hb dX9_advance_30 rfl (lv_at hl 2 rfl) ?_
        refine lv_iconst (v := 0) hx hb dX9_advance_31 (by decide) ?_
        obtain ⟨hi, h⟩ := h
        refine hm_iast X hw (gl_41 hG) hi dX9_advance_32 (fun H locs hw => ?_)
        refine lv_iinc (v := x2 + (-1)) (lv' := [(2, _), (0, _), (1, _)]) hx hb dX9_advance_33 hl (k := 2) rfl rfl (by decide) rfl (fun ls hl => ?_)
        refine lv_goto (tgt := 7) hx hb dX9_advance_36 (by decide) ?_
        exact ih _ _ h hw (lv_sub hl [1, 2, 0] rfl)

theorem cSu_advance {l : Launch} {D : va_G} {cA : Nat → ClassId} {z sz : Nat} {I : HI} {T : HR} {F : HR} {L : HL} {r1 : Nat} {Q : HI → Prop} (hcl : hCl Ev) (hG : Geo F L) (hn1 : NetSh F L r1) (h : Su_advance I r1 Q) : Met l yX9_advance (hws0 yX9_advance cX9_advance 3 none) { frames := 0, cells := 0, slots := 0, locals := 0 } (hPc D cA z Ev (I, J, T, F, L) sz [.ref (z + 39), .ref (z + r1)]) (va_Qv (pIv J T F L Q) (hB D cA z (hA z L sz)) (hA z L sz)) 0 0 (hA z L sz) := by
  refine hm_met (I, J, T, F, L) [.ref (z + 39), .ref (z + r1)] rfl (by decide) (Nat.le_of_ble_eq_true rfl) ?_
  intro p e s m below meth c ls X hr hlk hnm hxt hsz hw hl
  have hl : lv_has ls 3 [(0, .ref (z + 39)), (1, .ref (z + r1))] := hl
  have hR : 0 ≤ ({ frames := 0, cells := 0, slots := 0, locals := 0 } : Room).frames ∧ 0 ≤ ({ frames := 0, cells := 0, slots := 0, locals := 0 } : Room).locals := ⟨Nat.le_refl _, Nat.le_refl _⟩
  generalize ({ frames := 0, cells := 0, slots := 0, locals := 0 } : Room) = R at hR ⊢
  clear hsz
  generalize (hA z L sz) = A at hw ⊢
  have hx := X.1
  have hb := X.2.1
  unfold Su_advance at h
  refine lv_aload_n hx hb dX9_advance_0 rfl (lv_at hl 1 rfl) ?_
  refine hm_geti X hw lk_9_33 hn1.1 dX9_advance_1 ?_
  refine lv_iconst (v := 1) hx hb dX9_advance_4 (by decide) ?_
  refine lv_isub hx hb dX9_advance_5 ?_
  refine lv_istore_n (lv' := [(2, _), (0, _), (1, _)]) hx hb dX9_advance_6 rfl hl (by decide) rfl (fun ls hl => ?_)
  obtain ⟨n2, h⟩ := h
  exact wkSu_advance_l7 X hr hlk hR hcl hG hn1  n2 _ _ h hw (lv_sub hl [1, 2, 0] rfl)

theorem wkSu_seek_l87 {T : HR} {F : HR} {L : HL} {r1 : Nat} {r3 : Nat} {x4 : Int32} {Q : Int32 → HI → Prop} (X : hX p m c s args RX9 cX9_seek 8) (hr : meth.sig.returnType = (some .int)) (hlk : meth.locks = false) (hR : 3 ≤ R.frames ∧ 151 ≤ R.locals) (hcl : hCl Ev) (hG : Geo F L) (hn1 : NetSh F L r1) (hc3 : SceSh F L r3)  : ∀ (n : Nat) (I : HI) (x5 : Int32) (x6 : Int32) {ls : Array Slot} {H : Heap} {locs : List Loc}, Su_seek_l87 r1 r3 x4 Q n I x5 x6 → hW D cA z Ev (I, J, T, F, L) A s H locs → lv_has ls 8 [(0, .ref (z + 39)), (1, .ref (z + r1)), (4, .int x4), (5, .int x5), (6, .int x6)] → W p l e R s m args below meth c H locs 0 0 (MQ below (va_Qi (pI J T F L Q) (hB D cA z A) A) args s 0 0 A) (F0 m 87 ls []) := by
  have hx := X.1
  have hb := X.2.1
  intro n
  induction n with
  | zero => intro I x5 x6 ls H locs h; exact False.elim h
  | succ n ih =>
    intro I x5 x6 ls H locs h hw hl
    rw [Su_seek_l87] at h
    refine lv_iload hx hb dX9_seek_87 (lv_at hl 4 rfl) ?_
    refine lv_aload_n hx hb dX9_seek_89 rfl (lv_at hl 1 rfl) ?_
    refine hm_geti X hw lk_9_50 hn1.1 dX9_seek_90 ?_
    refine lv_icmp_ge (tgt := 142) hx hb dX9_seek_93 (by decide) (fun hc => ?_) (fun hc => ?_)
    · have h := Eq.mp (if_pos hc) h
      refine lv_iload hx hb dX9_seek_142 (lv_at hl 3 rfl) ?_
      exact hm_iret X hr hlk hw ⟨_, rfl, h⟩ dX9_seek_144
    · have h := Eq.mp (if_neg hc) h
      refine lv_aload_n hx hb dX9_seek_96 rfl (lv_at hl 0 rfl) ?_
      refine lv_aload_n hx hb dX9_seek_97 rfl (lv_at hl 1 rfl) ?_
      refine lv_iload hx hb dX9_seek_98 (lv_at hl 2 rfl) ?_
      refine hm_calli hw (hm_runV (rest := []) hcl X hw (cSu_rowsWonByTried hcl hG hn1 h) yk_X9_rowsWonByTried kw1225 rfl (gl_39 hG) rfl hl.1 rfl rfl rfl (Nat.le_of_ble_eq_true rfl) ⟨Nat.le_trans (Nat.le_of_ble_eq_true rfl) hR.1, Nat.le_trans (Nat.le_of_ble_eq_true rfl) hR.2⟩ ⟨Nat.zero_le _, Nat.zero_le _⟩ dX9_seek_100) (fun a6 u7 H locs hp hw => ?_)
      obtain ⟨rfl, h⟩ := hp
      refine lv_istore (lv' := [(7, _), (0, _), (1, _), (4, _), (5, _), (6, _)]) hx hb dX9_seek_103 hl (by decide) rfl (fun ls hl => ?_)
      refine lv_iload hx hb dX9_seek_105 (lv_at hl 0 rfl) ?_
      refine lv_iload hx hb dX9_seek_107 (lv_at hl 4 rfl) ?_
      refine lv_icmp_le (tgt := 131) hx hb dX9_seek_109 (by decide) (fun hc => ?_) (fun hc => ?_)
      · have h := Eq.mp (if_pos hc) h
        refine lv_aload_n hx hb dX9_seek_131 rfl (lv_at hl 1 rfl) ?_
        refine lv_aload_n hx hb dX9_seek_132 rfl (lv_at hl 2 rfl) ?_
        refine hm_callv hw (hm_runV (rest := []) hcl X hw (cSu_advance hcl hG hn1 h) yk_X9_advance kw1231 rfl (gl_39 hG) rfl hl.1 rfl rfl rfl (Nat.le_of_ble_eq_true rfl) ⟨Nat.le_trans (Nat.le_of_ble_eq_true rfl) hR.1, Nat.le_trans (Nat.le_of_ble_eq_true rfl) hR.2⟩ ⟨Nat.zero_le _, Nat.zero_le _⟩ dX9_seek_133) (fun u9 H locs hp hw => ?_)
        obtain ⟨I8, rfl, h⟩ := hp
        refine lv_iinc (v := x6 + 1) (lv' := [(6, _), (7, _), (0, _), (1, _), (4, _), (5, _)]) hx hb dX9_seek_136 hl (k := 5) rfl rfl (by decide) rfl (fun ls hl => ?_)
        refine lv_goto (tgt := 87) hx hb dX9_seek_139 (by decide) ?_
        exact ih _ _ _ h hw (lv_sub hl [2, 3, 4, 5, 0] rfl)
      · have h := Eq.mp (if_neg hc) h
        refine lv_iload hx hb dX9_seek_112 (lv_at hl 0 rfl) ?_
        refine lv_istore (lv' := [(5, _), (7, _), (0, _), (1, _), (4, _), (6, _)]) hx hb dX9_seek_114 hl (by decide) rfl (fun ls hl => ?_)
        refine lv_aload_n hx hb dX9_seek_116 rfl (lv_at hl 2 rfl) ?_
        refine hm_getr X hw lk_9_19 (gl_39 hG) (gf_39_2 hG) dX9_seek_117 ?_
        refine lv_iconst (v := 0) hx hb dX9_seek_120 (by decide) ?_
        refine lv_aload_n hx hb dX9_seek_121 rfl (lv_at hl 2 rfl) ?_
        refine hm_getr X hw lk_9_9 (gl_39 hG) (gf_39_0 hG) dX9_seek_122 ?_
        refine lv_iconst (v := 0) hx hb dX9_seek_125 (by decide) ?_
        refine lv_bipush (v := 8) hx hb dX9_seek_126 (by decide) ?_
        refine hm_cpy X hw 0 (Or.inl rfl) ⟨hl.2.1, hl.1⟩ kw1230 (gl_41 hG) (gl_40 hG) (by decide) (by decide) (by decide) (by decide) (by decide) (Or.inl rfl) ⟨Nat.le_trans (Nat.le_of_ble_eq_true rfl) hR.1, Nat.le_trans (by decide) hR.2⟩ dX9_seek_128 (fun H locs hw => ?_)
        refine lv_aload_n hx hb dX9_seek_131 rfl (lv_at hl 2 rfl) ?_
        refine lv_aload_n hx hb dX9_seek_132 rfl (lv_at hl 3 rfl) ?_
        refine hm_callv hw (hm_runV (rest := []) hcl X hw (cSu_advance hcl hG hn1 h) yk_X9_advance kw1231 rfl (gl_39 hG) rfl hl.1 rfl rfl rfl (Nat.le_of_ble_eq_true rfl) ⟨Nat.le_trans (Nat.le_of_ble_eq_true rfl) hR.1, Nat.le_trans (Nat.le_of_ble_eq_true rfl) hR.2⟩ ⟨Nat.zero_le _, Nat.zero_le _⟩ dX9_seek_133) (fun u11 H locs hp hw => ?_)
        obtain ⟨I10, rfl, h⟩ := hp
        refine lv_iinc (v := x6 + 1) (lv' := [(6, _), (5, _), (7, _), (0, _), (1, _), (4, _)]) hx hb dX9_seek_136 hl (k := 5) rfl rfl (by decide) rfl (fun ls hl => ?_)
        refine lv_goto (tgt := 87) hx hb dX9_seek_139 (by decide) ?_
        exact ih _ _ _ h hw (lv_sub hl [3, 4, 5, 1, 0] rfl)

theorem wkSu_seek_l12 {T : HR} {F : HR} {L : HL} {r1 : Nat} {r3 : Nat} {x4 : Int32} {Q : Int32 → HI → Prop} (X : hX p m c s args RX9 cX9_seek 8) (hr : meth.sig.returnType = (some .int)) (hlk : meth.locks = false) (hR : 3 ≤ R.frames ∧ 151 ≤ R.locals) (hcl : hCl Ev) (hG : Geo F L) (hn1 : NetSh F L r1) (hc3 : SceSh F L r3)  : ∀ (n : Nat) (I : HI) (x5 : Int32) {ls : Array Slot} {H : Heap} {locs : List Loc}, Su_seek_l12 r1 r3 x4 Q n I x5 → hW D cA z Ev (I, J, T, F, L) A s H locs → lv_has ls 8 [(0, .ref (z + 39)), (1, .ref (z + r1)), (2, .ref (z + 23)), (4, .int x4), (5, .int x5)] → W p l e R s m args below meth c H locs 0 0 (MQ below (va_Qi (pI J T F L Q) (hB D cA z A) A) args s 0 0 A) (F0 m 12 ls []) := by
  have hx := X.1
  have hb := X.2.1
  intro n
  induction n with
  | zero => intro I x5 ls H locs h; exact False.elim h
  | succ n ih =>
    intro I x5 ls H locs h hw hl
    rw [Su_seek_l12] at h
    refine lv_iload hx hb dX9_seek_12 (lv_at hl 4 rfl) ?_
    refine lv_aload_n hx hb dX9_seek_14 rfl (lv_at hl 1 rfl) ?_
    refine hm_geti X hw lk_9_33 hn1.1 dX9_seek_15 ?_
    refine lv_icmp_gt (tgt := 65) hx hb dX9_seek_18 (by decide) (fun hc => ?_) (fun hc => ?_)
    · have h := Eq.mp (if_pos hc) h
      refine lv_aload_n hx hb dX9_seek_65 rfl (lv_at hl 0 rfl) ?_
      refine lv_aload_n hx hb dX9_seek_66 rfl (lv_at hl 1 rfl) ?_
      refine hm_geti X hw lk_9_33 hn1.1 dX9_seek_67 ?_
      refine hm_puti X hw lk_9_15 (gl_39 hG) rfl rfl dX9_seek_70 (fun H locs hw => ?_)
      refine lv_aload_n hx hb dX9_seek_73 rfl (lv_at hl 0 rfl) ?_
      refine hm_getr X hw lk_9_19 (gl_39 hG) (gf_39_2 hG) dX9_seek_74 ?_
      refine lv_iconst (v := 0) hx hb dX9_seek_77 (by decide) ?_
      refine hm_callv hw (hm_runS (rest := []) hcl X hw (cJd_fillI hcl (gl_41 hG) h) yk_J7_fill_53178 kw1222 rfl hl.1 rfl rfl rfl (Nat.le_of_ble_eq_true rfl) ⟨Nat.le_trans (Nat.le_of_ble_eq_true rfl) hR.1, Nat.le_trans (Nat.le_of_ble_eq_true rfl) hR.2⟩ ⟨Nat.zero_le _, Nat.zero_le _⟩ dX9_seek_78) (fun u5 H locs hp hw => ?_)
      obtain ⟨I4, rfl, h⟩ := hp
      refine lv_iconst (v := (-1)) hx hb dX9_seek_81 (by decide) ?_
      refine lv_istore (lv' := [(5, _), (0, _), (1, _), (2, _), (4, _)]) hx hb dX9_seek_82 hl (by decide) rfl (fun ls hl => ?_)
      refine lv_iconst (v := 0) hx hb dX9_seek_84 (by decide) ?_
      refine lv_istore (lv' := [(6, _), (5, _), (0, _), (1, _), (2, _), (4, _)]) hx hb dX9_seek_85 hl (by decide) rfl (fun ls hl => ?_)
      obtain ⟨n2, h⟩ := h
      exact wkSu_seek_l87 X hr hlk hR hcl hG hn1 hc3  n2 _ _ _ h hw (lv_sub hl [2, 3, 5, 1, 0] rfl)
    · have h := Eq.mp (if_neg hc) h
      refine lv_iconst (v := 1) hx hb dX9_seek_21 (by decide) ?_
      refine lv_iload hx hb dX9_seek_22 (lv_at hl 4 rfl) ?_
      refine lv_ishl hx hb dX9_seek_24 ?_
      refine lv_iconst (v := 1) hx hb dX9_seek_25 (by decide) ?_
      refine lv_isub hx hb dX9_seek_26 ?_
      refine lv_istore (lv' := [(6, _), (0, _), (1, _), (2, _), (4, _), (5, _)]) hx hb dX9_seek_27 hl (by decide) rfl (fun ls hl => ?_)
      refine lv_aload_n hx hb dX9_seek_29 rfl (lv_at hl 1 rfl) ?_
      refine hm_getr X hw lk_9_25 (gl_39 hG) (gf_39_4 hG) dX9_seek_30 ?_
      refine lv_iload hx hb dX9_seek_33 (lv_at hl 5 rfl) ?_
      refine lv_aload_n hx hb dX9_seek_35 rfl (lv_at hl 3 rfl) ?_
      refine lv_iload hx hb dX9_seek_36 (lv_at hl 0 rfl) ?_
      refine lv_iconst (v := 1) hx hb dX9_seek_38 (by decide) ?_
      refine lv_aload_n hx hb dX9_seek_39 rfl (lv_at hl 2 rfl) ?_
      refine hm_geti X hw lk_9_33 hn1.1 dX9_seek_40 ?_
      refine lv_ishl hx hb dX9_seek_43 ?_
      refine lv_iconst (v := 1) hx hb dX9_seek_44 (by decide) ?_
      refine lv_isub hx hb dX9_seek_45 ?_
      refine lv_iload hx hb dX9_seek_46 (lv_at hl 0 rfl) ?_
      refine lv_iconst (v := (-1)) hx hb dX9_seek_48 (by decide) ?_
      refine lv_ixor hx hb dX9_seek_49 ?_
      refine lv_iand hx hb dX9_seek_50 ?_
      refine lv_aload_n hx hb dX9_seek_51 rfl (lv_at hl 2 rfl) ?_
      refine hm_geti X hw lk_9_33 hn1.1 dX9_seek_52 ?_
      refine hm_calli hw (hm_runV (rest := [_, _]) hcl X hw (cJud_isWon hcl hG h) yk_X2_isWon kw1221 rfl (gl_23 hG) rfl hl.1 rfl rfl rfl (Nat.le_of_ble_eq_true rfl) ⟨Nat.le_trans (Nat.le_of_ble_eq_true rfl) hR.1, Nat.le_trans (Nat.le_of_ble_eq_true rfl) hR.2⟩ ⟨Nat.zero_le _, Nat.zero_le _⟩ dX9_seek_55) (fun a12 u13 H locs hp hw => ?_)
      obtain ⟨rfl, h⟩ := hp
      obtain ⟨hi, h⟩ := h
      refine hm_zast X hw (gl_43 hG) hi dX9_seek_58 (fun H locs hw => ?_)
      refine lv_iinc (v := x5 + 1) (lv' := [(5, _), (6, _), (0, _), (1, _), (2, _), (4, _)]) hx hb dX9_seek_59 hl (k := 5) rfl rfl (by decide) rfl (fun ls hl => ?_)
      refine lv_goto (tgt := 12) hx hb dX9_seek_62 (by decide) ?_
      exact ih _ _ h hw (lv_sub hl [2, 3, 4, 5, 0] rfl)

theorem cSu_seek {l : Launch} {D : va_G} {cA : Nat → ClassId} {z sz : Nat} {I : HI} {T : HR} {F : HR} {L : HL} {r1 : Nat} {r3 : Nat} {Q : Int32 → HI → Prop} (hcl : hCl Ev) (hG : Geo F L) (hn1 : NetSh F L r1) (hc3 : SceSh F L r3) (h : Su_seek I r1 r3 Q) : Met l yX9_seek (hws0 yX9_seek cX9_seek 8 (some .int)) { frames := 3, cells := 0, slots := 0, locals := 151 } (hPc D cA z Ev (I, J, T, F, L) sz [.ref (z + 39), .ref (z + r1), .ref (z + 23), .ref (z + r3)]) (va_Qi (pI J T F L Q) (hB D cA z (hA z L sz)) (hA z L sz)) 0 0 (hA z L sz) := by
  refine hm_met (I, J, T, F, L) [.ref (z + 39), .ref (z + r1), .ref (z + 23), .ref (z + r3)] rfl (by decide) (Nat.le_of_ble_eq_true rfl) ?_
  intro p e s m below meth c ls X hr hlk hnm hxt hsz hw hl
  have hl : lv_has ls 8 [(0, .ref (z + 39)), (1, .ref (z + r1)), (2, .ref (z + 23)), (3, .ref (z + r3))] := hl
  have hR : 3 ≤ ({ frames := 3, cells := 0, slots := 0, locals := 151 } : Room).frames ∧ 151 ≤ ({ frames := 3, cells := 0, slots := 0, locals := 151 } : Room).locals := ⟨Nat.le_refl _, Nat.le_refl _⟩
  generalize ({ frames := 3, cells := 0, slots := 0, locals := 151 } : Room) = R at hR ⊢
  clear hsz
  generalize (hA z L sz) = A at hw ⊢
  have hx := X.1
  have hb := X.2.1
  unfold Su_seek at h
  refine lv_aload_n hx hb dX9_seek_0 rfl (lv_at hl 0 rfl) ?_
  refine lv_aload_n hx hb dX9_seek_1 rfl (lv_at hl 1 rfl) ?_
  refine lv_aload_n hx hb dX9_seek_2 rfl (lv_at hl 2 rfl) ?_
  refine lv_aload_n hx hb dX9_seek_3 rfl (lv_at hl 3 rfl) ?_
  refine hm_calli hw (hm_runV (rest := []) hcl X hw (cSu_noteNeeds hcl hG hn1 hc3 h) yk_X9_noteNeeds kw1211 rfl (gl_39 hG) rfl hl.1 rfl rfl rfl (Nat.le_of_ble_eq_true rfl) ⟨Nat.le_trans (Nat.le_of_ble_eq_true rfl) hR.1, Nat.le_trans (Nat.le_of_ble_eq_true rfl) hR.2⟩ ⟨Nat.zero_le _, Nat.zero_le _⟩ dX9_seek_4) (fun a1 u3 H locs hp hw => ?_)
  obtain ⟨I2, rfl, h⟩ := hp
  refine lv_istore (lv' := [(4, _), (0, _), (1, _), (2, _), (3, _)]) hx hb dX9_seek_7 hl (by decide) rfl (fun ls hl => ?_)
  refine lv_iconst (v := 0) hx hb dX9_seek_9 (by decide) ?_
  refine lv_istore (lv' := [(5, _), (4, _), (0, _), (1, _), (2, _), (3, _)]) hx hb dX9_seek_10 hl (by decide) rfl (fun ls hl => ?_)
  obtain ⟨n2, h⟩ := h
  exact wkSu_seek_l12 X hr hlk hR hcl hG hn1 hc3  n2 _ _ h hw (lv_sub hl [2, 3, 4, 1, 0] rfl)

theorem wkSu_sumOfDigits_l7 {I : HI} {T : HR} {F : HR} {L : HL} {x1 : Int32} {Q : Int32 → Prop} (X : hX p m c s args RX9 cX9_sumOfDigits 5) (hr : meth.sig.returnType = (some .int)) (hlk : meth.locks = false) (hR : 0 ≤ R.frames ∧ 0 ≤ R.locals) (hcl : hCl Ev)  : ∀ (n : Nat) (x2 : Int32) (x3 : Int32) (x4 : Int32) {ls : Array Slot} {H : Heap} {locs : List Loc}, Su_sumOfDigits_l7 x1 Q n x2 x3 x4 → hW D cA z Ev (I, J, T, F, L) A s H locs → lv_has ls 5 [(1, .int x1), (2, .int x2), (3, .int x3), (4, .int x4)] → W p l e R s m args below meth c H locs 0 0 (MQ below (va_Qi (p0 (I, J, T, F, L) Q) (hB D cA z A) A) args s 0 0 A) (F0 m 7 ls []) := by
  have hx := X.1
  have hb := X.2.1
  intro n
  induction n with
  | zero => intro x2 x3 x4 ls H locs h; exact False.elim h
  | succ n ih =>
    intro x2 x3 x4 ls H locs h hw hl
    rw [Su_sumOfDigits_l7] at h
    refine lv_iload hx hb dX9_sumOfDigits_7 (lv_at hl 3 rfl) ?_
    refine lv_bipush (v := 8) hx hb dX9_sumOfDigits_9 (by decide) ?_
    refine lv_icmp_ge (tgt := 30) hx hb dX9_sumOfDigits_11 (by decide) (fun hc => ?_) (fun hc => ?_)
    · have h := Eq.mp (if_pos hc) h
      refine lv_iload_n hx hb dX9_sumOfDigits_30 rfl (lv_at hl 1 rfl) ?_
      exact hm_iret X hr hlk hw ⟨rfl, h⟩ dX9_sumOfDigits_31
    · have h := Eq.mp (if_neg hc) h
      refine lv_iload_n hx hb dX9_sumOfDigits_14 rfl (lv_at hl 1 rfl) ?_
      refine lv_iload_n hx hb dX9_sumOfDigits_15 rfl (lv_at hl 2 rfl) ?_
      refine lv_iload_n hx hb dX9_sumOfDigits_16 rfl (lv_at hl 0 rfl) ?_
      obtain ⟨hi, h⟩ := h
      refine hm_irem hx hb dX9_sumOfDigits_17 hi ?_
      refine lv_iadd hx hb dX9_sumOfDigits_18 ?_
      refine lv_istore_n (lv' := [(2, _), (1, _), (3, _), (4, _)]) hx hb dX9_sumOfDigits_19 rfl hl (by decide) rfl (fun ls hl => ?_)
      refine lv_iload_n hx hb dX9_sumOfDigits_20 rfl (lv_at hl 2 rfl) ?_
      refine lv_iload_n hx hb dX9_sumOfDigits_21 rfl (lv_at hl 1 rfl) ?_
      obtain ⟨hi, h⟩ := h
      refine hm_idiv hx hb dX9_sumOfDigits_22 hi ?_
      refine lv_istore_n (lv' := [(3, _), (2, _), (1, _), (4, _)]) hx hb dX9_sumOfDigits_23 rfl hl (by decide) rfl (fun ls hl => ?_)
      refine lv_iinc (v := x4 + 1) (lv' := [(4, _), (3, _), (2, _), (1, _)]) hx hb dX9_sumOfDigits_24 hl (k := 3) rfl rfl (by decide) rfl (fun ls hl => ?_)
      refine lv_goto (tgt := 7) hx hb dX9_sumOfDigits_27 (by decide) ?_
      exact ih _ _ _ h hw (lv_sub hl [3, 2, 1, 0] rfl)

theorem cSu_sumOfDigits {l : Launch} {D : va_G} {cA : Nat → ClassId} {z sz : Nat} {I : HI} {T : HR} {F : HR} {L : HL} {x0 : Int32} {x1 : Int32} {Q : Int32 → Prop} (hcl : hCl Ev) (h : Su_sumOfDigits  x0 x1 Q) : Met l yX9_sumOfDigits (hws0 yX9_sumOfDigits cX9_sumOfDigits 5 (some .int)) { frames := 0, cells := 0, slots := 0, locals := 0 } (hPc D cA z Ev (I, J, T, F, L) sz [.int x0, .int x1]) (va_Qi (p0 (I, J, T, F, L) Q) (hB D cA z (hA z L sz)) (hA z L sz)) 0 0 (hA z L sz) := by
  refine hm_met (I, J, T, F, L) [.int x0, .int x1] rfl (by decide) (Nat.le_of_ble_eq_true rfl) ?_
  intro p e s m below meth c ls X hr hlk hnm hxt hsz hw hl
  have hl : lv_has ls 5 [(0, .int x0), (1, .int x1)] := hl
  have hR : 0 ≤ ({ frames := 0, cells := 0, slots := 0, locals := 0 } : Room).frames ∧ 0 ≤ ({ frames := 0, cells := 0, slots := 0, locals := 0 } : Room).locals := ⟨Nat.le_refl _, Nat.le_refl _⟩
  generalize ({ frames := 0, cells := 0, slots := 0, locals := 0 } : Room) = R at hR ⊢
  clear hsz
  generalize (hA z L sz) = A at hw ⊢
  have hx := X.1
  have hb := X.2.1
  unfold Su_sumOfDigits at h
  refine lv_iconst (v := 0) hx hb dX9_sumOfDigits_0 (by decide) ?_
  refine lv_istore_n (lv' := [(2, _), (0, _), (1, _)]) hx hb dX9_sumOfDigits_1 rfl hl (by decide) rfl (fun ls hl => ?_)
  refine lv_iload_n hx hb dX9_sumOfDigits_2 rfl (lv_at hl 1 rfl) ?_
  refine lv_istore_n (lv' := [(3, _), (2, _), (0, _), (1, _)]) hx hb dX9_sumOfDigits_3 rfl hl (by decide) rfl (fun ls hl => ?_)
  refine lv_iconst (v := 0) hx hb dX9_sumOfDigits_4 (by decide) ?_
  refine lv_istore (lv' := [(4, _), (3, _), (2, _), (0, _), (1, _)]) hx hb dX9_sumOfDigits_5 hl (by decide) rfl (fun ls hl => ?_)
  obtain ⟨n2, h⟩ := h
  exact wkSu_sumOfDigits_l7 X hr hlk hR hcl  n2 _ _ _ h hw (lv_sub hl [4, 2, 1, 0] rfl)

theorem wkSu_settle_l17 {T : HR} {F : HR} {L : HL} {r1 : Nat} {x2 : Int32} {K2 : HI → HR → Int32 → Prop} {Q : HI → HR → Prop} (X : hX p m c s args RX9 cX9_settle 4) (hr : meth.sig.returnType = none) (hlk : meth.locks = false) (hR : 3 ≤ R.frames ∧ 66 ≤ R.locals) (hcl : hCl Ev) (hG : Geo F L) (hn1 : NetSh F L r1) (hK2 : ∀ (I : HI) (T : HR) (x2 : Int32) {ls : Array Slot} {H : Heap} {locs : List Loc}, K2 I T x2 → hW D cA z Ev (I, J, T, F, L) A s H locs → lv_has ls 4 [(0, .ref (z + 39)), (1, .ref (z + r1)), (2, .int x2)] → W p l e R s m args below meth c H locs 0 0 (MQ below (va_Qv (pITv J F L Q) (hB D cA z A) A) args s 0 0 A) (F0 m 2 ls [])) : ∀ (n : Nat) (I : HI) (x3 : Int32) {ls : Array Slot} {H : Heap} {locs : List Loc}, Su_settle_l17 T L r1 x2 K2 Q n I x3 → hW D cA z Ev (I, J, T, F, L) A s H locs → lv_has ls 4 [(0, .ref (z + 39)), (1, .ref (z + r1)), (2, .int x2), (3, .int x3)] → W p l e R s m args below meth c H locs 0 0 (MQ below (va_Qv (pITv J F L Q) (hB D cA z A) A) args s 0 0 A) (F0 m 17 ls []) := by
  have hx := X.1
  have hb := X.2.1
  intro n
  induction n with
  | zero => intro I x3 ls H locs h; exact False.elim h
  | succ n ih =>
    intro I x3 ls H locs h hw hl
    rw [Su_settle_l17] at h
    refine lv_iload_n hx hb dX9_settle_17 rfl (lv_at hl 3 rfl) ?_
    refine lv_aload_n hx hb dX9_settle_18 rfl (lv_at hl 1 rfl) ?_
    refine hm_getr X hw lk_9_100 hn1.1 (nsf_6 hn1) dX9_settle_19 ?_
    refine lv_iload_n hx hb dX9_settle_22 rfl (lv_at hl 2 rfl) ?_
    obtain ⟨hi, h⟩ := h
    refine hm_iald X hw (nsm_6 hn1) hi dX9_settle_23 ?_
    refine lv_icmp_ge (tgt := 61) hx hb dX9_settle_24 (by decide) (fun hc => ?_) (fun hc => ?_)
    · have h := Eq.mp (if_pos hc) h
      refine lv_iinc (v := x2 + 1) (lv' := [(2, _), (0, _), (1, _), (3, _)]) hx hb dX9_settle_61 hl (k := 2) rfl rfl (by decide) rfl (fun ls hl => ?_)
      refine lv_goto (tgt := 2) hx hb dX9_settle_64 (by decide) ?_
      exact hK2 _ _ _ h hw (lv_sub hl [1, 2, 0] rfl)
    · have h := Eq.mp (if_neg hc) h
      refine lv_aload_n hx hb dX9_settle_27 rfl (lv_at hl 1 rfl) ?_
      refine lv_iload_n hx hb dX9_settle_28 rfl (lv_at hl 2 rfl) ?_
      refine lv_iload_n hx hb dX9_settle_29 rfl (lv_at hl 3 rfl) ?_
      refine lv_aload_n hx hb dX9_settle_30 rfl (lv_at hl 0 rfl) ?_
      refine hm_getr X hw lk_9_9 (gl_39 hG) (gf_39_0 hG) dX9_settle_31 ?_
      refine lv_iload_n hx hb dX9_settle_34 rfl (lv_at hl 2 rfl) ?_
      obtain ⟨hi, h⟩ := h
      refine hm_iald X hw (gl_40 hG) hi dX9_settle_35 ?_
      refine lv_iload_n hx hb dX9_settle_36 rfl (lv_at hl 3 rfl) ?_
      refine lv_aload_n hx hb dX9_settle_37 rfl (lv_at hl 1 rfl) ?_
      refine hm_geti X hw lk_9_87 hn1.1 dX9_settle_38 ?_
      refine hm_calli hw (hm_runS (rest := [_, _, _, _]) hcl X hw (cSu_sumOfDigits hcl h) yk_X9_sumOfDigits kw1240 rfl hl.1 rfl rfl rfl (Nat.le_of_ble_eq_true rfl) ⟨Nat.le_trans (Nat.le_of_ble_eq_true rfl) hR.1, Nat.le_trans (Nat.le_of_ble_eq_true rfl) hR.2⟩ ⟨Nat.zero_le _, Nat.zero_le _⟩ dX9_settle_41) (fun a4 u5 H locs hp hw => ?_)
      obtain ⟨rfl, h⟩ := hp
      refine lv_isub hx hb dX9_settle_44 ?_
      refine lv_aload_n hx hb dX9_settle_45 rfl (lv_at hl 1 rfl) ?_
      refine hm_geti X hw lk_9_87 hn1.1 dX9_settle_46 ?_
      refine hm_calli hw (hm_runS (rest := [_, _, _]) hcl X hw (cJd_floorMod hcl h) yk_J9_floorMod_7cf53 kw1243 rfl hl.1 rfl rfl rfl (Nat.le_of_ble_eq_true rfl) ⟨Nat.le_trans (Nat.le_of_ble_eq_true rfl) hR.1, Nat.le_trans (Nat.le_of_ble_eq_true rfl) hR.2⟩ ⟨Nat.zero_le _, Nat.zero_le _⟩ dX9_settle_49) (fun a6 u7 H locs hp hw => ?_)
      obtain ⟨rfl, h⟩ := hp
      refine hm_callv hw (hm_runV (rest := []) hcl X hw (cNet_setGuess hcl hn1 h) yk_X5_setGuess kw1244 rfl hn1.1 rfl hl.1 rfl rfl rfl (Nat.le_of_ble_eq_true rfl) ⟨Nat.le_trans (Nat.le_of_ble_eq_true rfl) hR.1, Nat.le_trans (Nat.le_of_ble_eq_true rfl) hR.2⟩ ⟨Nat.zero_le _, Nat.zero_le _⟩ dX9_settle_52) (fun u9 H locs hp hw => ?_)
      obtain ⟨I8, rfl, h⟩ := hp
      refine lv_iinc (v := x3 + 1) (lv' := [(3, _), (0, _), (1, _), (2, _)]) hx hb dX9_settle_55 hl (k := 3) rfl rfl (by decide) rfl (fun ls hl => ?_)
      refine lv_goto (tgt := 17) hx hb dX9_settle_58 (by decide) ?_
      exact ih _ _ h hw (lv_sub hl [1, 2, 3, 0] rfl)

theorem wkSu_settle_l2 {F : HR} {L : HL} {r1 : Nat} {Q : HI → HR → Prop} (X : hX p m c s args RX9 cX9_settle 4) (hr : meth.sig.returnType = none) (hlk : meth.locks = false) (hR : 3 ≤ R.frames ∧ 66 ≤ R.locals) (hcl : hCl Ev) (hG : Geo F L) (hn1 : NetSh F L r1)  : ∀ (n : Nat) (I : HI) (T : HR) (x2 : Int32) {ls : Array Slot} {H : Heap} {locs : List Loc}, Su_settle_l2 L r1 Q n I T x2 → hW D cA z Ev (I, J, T, F, L) A s H locs → lv_has ls 4 [(0, .ref (z + 39)), (1, .ref (z + r1)), (2, .int x2)] → W p l e R s m args below meth c H locs 0 0 (MQ below (va_Qv (pITv J F L Q) (hB D cA z A) A) args s 0 0 A) (F0 m 2 ls []) := by
  have hx := X.1
  have hb := X.2.1
  intro n
  induction n with
  | zero => intro I T x2 ls H locs h; exact False.elim h
  | succ n ih =>
    intro I T x2 ls H locs h hw hl
    rw [Su_settle_l2] at h
    refine lv_iload_n hx hb dX9_settle_2 rfl (lv_at hl 2 rfl) ?_
    refine lv_aload_n hx hb dX9_settle_3 rfl (lv_at hl 1 rfl) ?_
    refine hm_geti X hw lk_9_33 hn1.1 dX9_settle_4 ?_
    refine lv_icmp_ge (tgt := 67) hx hb dX9_settle_7 (by decide) (fun hc => ?_) (fun hc => ?_)
    · have h := Eq.mp (if_pos hc) h
      exact hm_vret X hr hlk hw ⟨_, _, rfl, h⟩ dX9_settle_67
    · have h := Eq.mp (if_neg hc) h
      refine lv_aload_n hx hb dX9_settle_10 rfl (lv_at hl 1 rfl) ?_
      refine lv_iload_n hx hb dX9_settle_11 rfl (lv_at hl 2 rfl) ?_
      refine hm_callv hw (hm_runV (rest := []) hcl X hw (cNet_startTable hcl hn1 h) yk_X5_startTable kw1239 rfl hn1.1 rfl hl.1 rfl rfl rfl (Nat.le_of_ble_eq_true rfl) ⟨Nat.le_trans (Nat.le_of_ble_eq_true rfl) hR.1, Nat.le_trans (Nat.le_of_ble_eq_true rfl) hR.2⟩ ⟨Nat.zero_le _, Nat.zero_le _⟩ dX9_settle_12) (fun u3 H locs hp hw => ?_)
      obtain ⟨I1, T2, rfl, h⟩ := hp
      refine lv_iconst (v := 0) hx hb dX9_settle_15 (by decide) ?_
      refine lv_istore_n (lv' := [(3, _), (0, _), (1, _), (2, _)]) hx hb dX9_settle_16 rfl hl (by decide) rfl (fun ls hl => ?_)
      obtain ⟨n2, h⟩ := h
      exact wkSu_settle_l17 X hr hlk hR hcl hG hn1 ih n2 _ _ h hw (lv_sub hl [1, 2, 3, 0] rfl)

theorem cSu_settle {l : Launch} {D : va_G} {cA : Nat → ClassId} {z sz : Nat} {I : HI} {T : HR} {F : HR} {L : HL} {r1 : Nat} {Q : HI → HR → Prop} (hcl : hCl Ev) (hG : Geo F L) (hn1 : NetSh F L r1) (h : Su_settle I T L r1 Q) : Met l yX9_settle (hws0 yX9_settle cX9_settle 4 none) { frames := 3, cells := 0, slots := 0, locals := 66 } (hPc D cA z Ev (I, J, T, F, L) sz [.ref (z + 39), .ref (z + r1)]) (va_Qv (pITv J F L Q) (hB D cA z (hA z L sz)) (hA z L sz)) 0 0 (hA z L sz) := by
  refine hm_met (I, J, T, F, L) [.ref (z + 39), .ref (z + r1)] rfl (by decide) (Nat.le_of_ble_eq_true rfl) ?_
  intro p e s m below meth c ls X hr hlk hnm hxt hsz hw hl
  have hl : lv_has ls 4 [(0, .ref (z + 39)), (1, .ref (z + r1))] := hl
  have hR : 3 ≤ ({ frames := 3, cells := 0, slots := 0, locals := 66 } : Room).frames ∧ 66 ≤ ({ frames := 3, cells := 0, slots := 0, locals := 66 } : Room).locals := ⟨Nat.le_refl _, Nat.le_refl _⟩
  generalize ({ frames := 3, cells := 0, slots := 0, locals := 66 } : Room) = R at hR ⊢
  clear hsz
  generalize (hA z L sz) = A at hw ⊢
  have hx := X.1
  have hb := X.2.1
  unfold Su_settle at h
  refine lv_iconst (v := 0) hx hb dX9_settle_0 (by decide) ?_
  refine lv_istore_n (lv' := [(2, _), (0, _), (1, _)]) hx hb dX9_settle_1 rfl hl (by decide) rfl (fun ls hl => ?_)
  obtain ⟨n2, h⟩ := h
  exact wkSu_settle_l2 X hr hlk hR hcl hG hn1  n2 _ _ _ h hw (lv_sub hl [1, 2, 0] rfl)

theorem cH_hall {l : Launch} {D : va_G} {cA : Nat → ClassId} {z sz : Nat} {I : HI} {T : HR} {F : HR} {L : HL} {x1 : Int32} {x2 : Int32} {Q : Int32 → HI → HR → Prop} (hcl : hCl Ev) (hG : Geo F L) (h : H_hall I T L x1 x2 Q) : Met l yX10_hall (hws0 yX10_hall cX10_hall 3 (some .boolean)) { frames := 5, cells := 0, slots := 0, locals := 110 } (hPc D cA z Ev (I, J, T, F, L) sz [.ref (z + 0), .int x1, .int x2]) (va_Qi (pIT J F L Q) (hB D cA z (hA z L sz)) (hA z L sz)) 0 0 (hA z L sz) := by
  refine hm_met (I, J, T, F, L) [.ref (z + 0), .int x1, .int x2] rfl (by decide) (Nat.le_of_ble_eq_true rfl) ?_
  intro p e s m below meth c ls X hr hlk hnm hxt hsz hw hl
  have hl : lv_has ls 3 [(0, .ref (z + 0)), (1, .int x1), (2, .int x2)] := hl
  have hR : 5 ≤ ({ frames := 5, cells := 0, slots := 0, locals := 110 } : Room).frames ∧ 110 ≤ ({ frames := 5, cells := 0, slots := 0, locals := 110 } : Room).locals := ⟨Nat.le_refl _, Nat.le_refl _⟩
  generalize ({ frames := 5, cells := 0, slots := 0, locals := 110 } : Room) = R at hR ⊢
  clear hsz
  generalize (hA z L sz) = A at hw ⊢
  have hx := X.1
  have hb := X.2.1
  unfold H_hall at h
  refine lv_iload_n hx hb dX10_hall_0 rfl (lv_at hl 1 rfl) ?_
  refine lv_iload_n hx hb dX10_hall_1 rfl (lv_at hl 2 rfl) ?_
  refine hm_calli hw (hm_runS (rest := []) hcl X hw (cNet_fits hcl h) yk_X5_fits kw511 rfl hl.1 rfl rfl rfl (Nat.le_of_ble_eq_true rfl) ⟨Nat.le_trans (Nat.le_of_ble_eq_true rfl) hR.1, Nat.le_trans (Nat.le_of_ble_eq_true rfl) hR.2⟩ ⟨Nat.zero_le _, Nat.zero_le _⟩ dX10_hall_2) (fun a1 u2 H locs hp hw => ?_)
  obtain ⟨rfl, h⟩ := hp
  refine lv_if_ne (tgt := 10) hx hb dX10_hall_5 (by decide) (fun hc => ?_) (fun hc => ?_)
  · have h := Eq.mp (if_neg hc) h
    refine lv_aload_n hx hb dX10_hall_10 rfl (lv_at hl 0 rfl) ?_
    refine hm_getr X hw lk_10_10 (gl_0 hG) (gf_0_0 hG) dX10_hall_11 ?_
    refine lv_iload_n hx hb dX10_hall_14 rfl (lv_at hl 1 rfl) ?_
    refine lv_iload_n hx hb dX10_hall_15 rfl (lv_at hl 2 rfl) ?_
    refine hm_callv hw (hm_runV (rest := []) hcl X hw (cNet_open hcl (geo_net hG) h) yk_X5_open kw514 rfl (gl_1 hG) rfl hl.1 rfl rfl rfl (Nat.le_of_ble_eq_true rfl) ⟨Nat.le_trans (Nat.le_of_ble_eq_true rfl) hR.1, Nat.le_trans (Nat.le_of_ble_eq_true rfl) hR.2⟩ ⟨Nat.zero_le _, Nat.zero_le _⟩ dX10_hall_16) (fun u5 H locs hp hw => ?_)
    obtain ⟨I3, T4, rfl, h⟩ := hp
    refine lv_aload_n hx hb dX10_hall_19 rfl (lv_at hl 0 rfl) ?_
    refine hm_getr X hw lk_10_40 (gl_0 hG) (gf_0_5 hG) dX10_hall_20 ?_
    refine hm_callv hw (hm_runV (rest := []) hcl X hw (cLed_spoil hcl hG h) yk_X3_spoil kw515 rfl (gl_26 hG) rfl hl.1 rfl rfl rfl (Nat.le_of_ble_eq_true rfl) ⟨Nat.le_trans (Nat.le_of_ble_eq_true rfl) hR.1, Nat.le_trans (Nat.le_of_ble_eq_true rfl) hR.2⟩ ⟨Nat.zero_le _, Nat.zero_le _⟩ dX10_hall_23) (fun u7 H locs hp hw => ?_)
    obtain ⟨I6, rfl, h⟩ := hp
    refine lv_iconst (v := 1) hx hb dX10_hall_26 (by decide) ?_
    exact hm_zret X hr hlk hw zb_1 ⟨_, _, rfl, h⟩ dX10_hall_27
  · have h := Eq.mp (if_pos hc) h
    refine lv_iconst (v := 0) hx hb dX10_hall_8 (by decide) ?_
    exact hm_zret X hr hlk hw zb_0 ⟨_, _, rfl, h⟩ dX10_hall_9

theorem cH_heap {l : Launch} {D : va_G} {cA : Nat → ClassId} {z sz : Nat} {I : HI} {T : HR} {F : HR} {L : HL} {x1 : Int32} {x2 : Int32} {Q : Int32 → HI → Prop} (hcl : hCl Ev) (hG : Geo F L) (h : H_heap I x1 x2 Q) : Met l yX10_heap (hws0 yX10_heap cX10_heap 3 (some .boolean)) { frames := 1, cells := 0, slots := 0, locals := 20 } (hPc D cA z Ev (I, J, T, F, L) sz [.ref (z + 0), .int x1, .int x2]) (va_Qi (pI J T F L Q) (hB D cA z (hA z L sz)) (hA z L sz)) 0 0 (hA z L sz) := by
  refine hm_met (I, J, T, F, L) [.ref (z + 0), .int x1, .int x2] rfl (by decide) (Nat.le_of_ble_eq_true rfl) ?_
  intro p e s m below meth c ls X hr hlk hnm hxt hsz hw hl
  have hl : lv_has ls 3 [(0, .ref (z + 0)), (1, .int x1), (2, .int x2)] := hl
  have hR : 1 ≤ ({ frames := 1, cells := 0, slots := 0, locals := 20 } : Room).frames ∧ 20 ≤ ({ frames := 1, cells := 0, slots := 0, locals := 20 } : Room).locals := ⟨Nat.le_refl _, Nat.le_refl _⟩
  generalize ({ frames := 1, cells := 0, slots := 0, locals := 20 } : Room) = R at hR ⊢
  clear hsz
  generalize (hA z L sz) = A at hw ⊢
  have hx := X.1
  have hb := X.2.1
  unfold H_heap at h
  refine lv_iload_n hx hb dX10_heap_0 rfl (lv_at hl 1 rfl) ?_
  refine lv_if_lt (tgt := 25) hx hb dX10_heap_1 (by decide) (fun hc => ?_) (fun hc => ?_)
  · have h := Eq.mp (if_pos hc) h
    refine lv_iconst (v := 0) hx hb dX10_heap_25 (by decide) ?_
    exact hm_zret X hr hlk hw zb_0 ⟨_, rfl, h⟩ dX10_heap_26
  · have h := Eq.mp (if_neg hc) h
    refine lv_iload_n hx hb dX10_heap_4 rfl (lv_at hl 1 rfl) ?_
    refine lv_aload_n hx hb dX10_heap_5 rfl (lv_at hl 0 rfl) ?_
    refine hm_getr X hw lk_10_10 (gl_0 hG) (gf_0_0 hG) dX10_heap_6 ?_
    refine hm_geti X hw lk_10_128 (gl_1 hG) dX10_heap_9 ?_
    refine lv_icmp_ge (tgt := 25) hx hb dX10_heap_12 (by decide) (fun hc => ?_) (fun hc => ?_)
    · have h := Eq.mp (if_pos hc) h
      refine lv_iconst (v := 0) hx hb dX10_heap_25 (by decide) ?_
      exact hm_zret X hr hlk hw zb_0 ⟨_, rfl, h⟩ dX10_heap_26
    · have h := Eq.mp (if_neg hc) h
      refine lv_iload_n hx hb dX10_heap_15 rfl (lv_at hl 2 rfl) ?_
      refine lv_if_lt (tgt := 25) hx hb dX10_heap_16 (by decide) (fun hc => ?_) (fun hc => ?_)
      · have h := Eq.mp (if_pos hc) h
        refine lv_iconst (v := 0) hx hb dX10_heap_25 (by decide) ?_
        exact hm_zret X hr hlk hw zb_0 ⟨_, rfl, h⟩ dX10_heap_26
      · have h := Eq.mp (if_neg hc) h
        refine lv_iload_n hx hb dX10_heap_19 rfl (lv_at hl 2 rfl) ?_
        refine lv_bipush (v := 9) hx hb dX10_heap_20 (by decide) ?_
        refine lv_icmp_le (tgt := 27) hx hb dX10_heap_22 (by decide) (fun hc => ?_) (fun hc => ?_)
        · have h := Eq.mp (if_pos hc) h
          refine lv_aload_n hx hb dX10_heap_27 rfl (lv_at hl 0 rfl) ?_
          refine hm_getr X hw lk_10_33 (gl_0 hG) (gf_0_4 hG) dX10_heap_28 ?_
          refine hm_getr X hw lk_10_131 (gl_23 hG) (gf_23_0 hG) dX10_heap_31 ?_
          refine lv_iload_n hx hb dX10_heap_34 rfl (lv_at hl 1 rfl) ?_
          refine lv_iload_n hx hb dX10_heap_35 rfl (lv_at hl 2 rfl) ?_
          obtain ⟨hi, h⟩ := h
          refine hm_iast X hw (gl_24 hG) hi dX10_heap_36 (fun H locs hw => ?_)
          refine lv_aload_n hx hb dX10_heap_37 rfl (lv_at hl 0 rfl) ?_
          refine hm_getr X hw lk_10_40 (gl_0 hG) (gf_0_5 hG) dX10_heap_38 ?_
          refine hm_callv hw (hm_runV (rest := []) hcl X hw (cLed_spoil hcl hG h) yk_X3_spoil kw515 rfl (gl_26 hG) rfl hl.1 rfl rfl rfl (Nat.le_of_ble_eq_true rfl) ⟨Nat.le_trans (Nat.le_of_ble_eq_true rfl) hR.1, Nat.le_trans (Nat.le_of_ble_eq_true rfl) hR.2⟩ ⟨Nat.zero_le _, Nat.zero_le _⟩ dX10_heap_41) (fun u2 H locs hp hw => ?_)
          obtain ⟨I1, rfl, h⟩ := hp
          refine lv_iconst (v := 1) hx hb dX10_heap_44 (by decide) ?_
          exact hm_zret X hr hlk hw zb_1 ⟨_, rfl, h⟩ dX10_heap_45
        · have h := Eq.mp (if_neg hc) h
          refine lv_iconst (v := 0) hx hb dX10_heap_25 (by decide) ?_
          exact hm_zret X hr hlk hw zb_0 ⟨_, rfl, h⟩ dX10_heap_26

theorem cH_law {l : Launch} {D : va_G} {cA : Nat → ClassId} {z sz : Nat} {I : HI} {T : HR} {F : HR} {L : HL} {x1 : Int32} {x2 : Int32} {Q : Int32 → HI → Prop} (hcl : hCl Ev) (hG : Geo F L) (h : H_law I x1 x2 Q) : Met l yX10_law (hws0 yX10_law cX10_law 3 (some .boolean)) { frames := 0, cells := 0, slots := 0, locals := 0 } (hPc D cA z Ev (I, J, T, F, L) sz [.ref (z + 0), .int x1, .int x2]) (va_Qi (pI J T F L Q) (hB D cA z (hA z L sz)) (hA z L sz)) 0 0 (hA z L sz) := by
  refine hm_met (I, J, T, F, L) [.ref (z + 0), .int x1, .int x2] rfl (by decide) (Nat.le_of_ble_eq_true rfl) ?_
  intro p e s m below meth c ls X hr hlk hnm hxt hsz hw hl
  have hl : lv_has ls 3 [(0, .ref (z + 0)), (1, .int x1), (2, .int x2)] := hl
  have hR : 0 ≤ ({ frames := 0, cells := 0, slots := 0, locals := 0 } : Room).frames ∧ 0 ≤ ({ frames := 0, cells := 0, slots := 0, locals := 0 } : Room).locals := ⟨Nat.le_refl _, Nat.le_refl _⟩
  generalize ({ frames := 0, cells := 0, slots := 0, locals := 0 } : Room) = R at hR ⊢
  clear hsz
  generalize (hA z L sz) = A at hw ⊢
  have hx := X.1
  have hb := X.2.1
  unfold H_law at h
  refine lv_iload_n hx hb dX10_law_0 rfl (lv_at hl 1 rfl) ?_
  refine lv_if_lt (tgt := 19) hx hb dX10_law_1 (by decide) (fun hc => ?_) (fun hc => ?_)
  · have h := Eq.mp (if_pos hc) h
    refine lv_iconst (v := 0) hx hb dX10_law_19 (by decide) ?_
    exact hm_zret X hr hlk hw zb_0 ⟨_, rfl, h⟩ dX10_law_20
  · have h := Eq.mp (if_neg hc) h
    refine lv_iload_n hx hb dX10_law_4 rfl (lv_at hl 1 rfl) ?_
    refine lv_iconst (v := 3) hx hb dX10_law_5 (by decide) ?_
    refine lv_icmp_gt (tgt := 19) hx hb dX10_law_6 (by decide) (fun hc => ?_) (fun hc => ?_)
    · have h := Eq.mp (if_pos hc) h
      refine lv_iconst (v := 0) hx hb dX10_law_19 (by decide) ?_
      exact hm_zret X hr hlk hw zb_0 ⟨_, rfl, h⟩ dX10_law_20
    · have h := Eq.mp (if_neg hc) h
      refine lv_iload_n hx hb dX10_law_9 rfl (lv_at hl 2 rfl) ?_
      refine lv_if_lt (tgt := 19) hx hb dX10_law_10 (by decide) (fun hc => ?_) (fun hc => ?_)
      · have h := Eq.mp (if_pos hc) h
        refine lv_iconst (v := 0) hx hb dX10_law_19 (by decide) ?_
        exact hm_zret X hr hlk hw zb_0 ⟨_, rfl, h⟩ dX10_law_20
      · have h := Eq.mp (if_neg hc) h
        refine lv_iload_n hx hb dX10_law_13 rfl (lv_at hl 2 rfl) ?_
        refine lv_bipush (v := 8) hx hb dX10_law_14 (by decide) ?_
        refine lv_icmp_le (tgt := 21) hx hb dX10_law_16 (by decide) (fun hc => ?_) (fun hc => ?_)
        · have h := Eq.mp (if_pos hc) h
          refine lv_aload_n hx hb dX10_law_21 rfl (lv_at hl 0 rfl) ?_
          refine hm_getr X hw lk_10_33 (gl_0 hG) (gf_0_4 hG) dX10_law_22 ?_
          refine lv_iload_n hx hb dX10_law_25 rfl (lv_at hl 1 rfl) ?_
          refine hm_puti X hw lk_10_134 (gl_23 hG) rfl rfl dX10_law_26 (fun H locs hw => ?_)
          refine lv_aload_n hx hb dX10_law_29 rfl (lv_at hl 0 rfl) ?_
          refine hm_getr X hw lk_10_33 (gl_0 hG) (gf_0_4 hG) dX10_law_30 ?_
          refine lv_iload_n hx hb dX10_law_33 rfl (lv_at hl 2 rfl) ?_
          refine hm_puti X hw lk_10_137 (gl_23 hG) rfl rfl dX10_law_34 (fun H locs hw => ?_)
          refine lv_iconst (v := 1) hx hb dX10_law_37 (by decide) ?_
          exact hm_zret X hr hlk hw zb_1 ⟨_, rfl, h⟩ dX10_law_38
        · have h := Eq.mp (if_neg hc) h
          refine lv_iconst (v := 0) hx hb dX10_law_19 (by decide) ?_
          exact hm_zret X hr hlk hw zb_0 ⟨_, rfl, h⟩ dX10_law_20

theorem wkH_putBytes_l3 {T : HR} {F : HR} {L : HL} {x1 : Int32} {Q : HI → Prop} (X : hX p m c s args RX10 cX10_putBytes 3) (hr : meth.sig.returnType = none) (hlk : meth.locks = false) (hR : 0 ≤ R.frames ∧ 0 ≤ R.locals) (hcl : hCl Ev) (hG : Geo F L)  : ∀ (n : Nat) (I : HI) (x2 : Int32) {ls : Array Slot} {H : Heap} {locs : List Loc}, H_putBytes_l3 x1 Q n I x2 → hW D cA z Ev (I, J, T, F, L) A s H locs → lv_has ls 3 [(0, .ref (z + 0)), (1, .int x1), (2, .int x2)] → W p l e R s m args below meth c H locs 0 0 (MQ below (va_Qv (pIv J T F L Q) (hB D cA z A) A) args s 0 0 A) (F0 m 3 ls []) := by
  have hx := X.1
  have hb := X.2.1
  intro n
  induction n with
  | zero => intro I x2 ls H locs h; exact False.elim h
  | succ n ih =>
    intro I x2 ls H locs h hw hl
    rw [H_putBytes_l3] at h
    refine lv_iload_n hx hb dX10_putBytes_3 rfl (lv_at hl 2 rfl) ?_
    refine lv_if_lt (tgt := 49) hx hb dX10_putBytes_4 (by decide) (fun hc => ?_) (fun hc => ?_)
    · have h := Eq.mp (if_pos hc) h
      exact hm_vret X hr hlk hw ⟨_, rfl, h⟩ dX10_putBytes_49
    · have h := Eq.mp (if_neg hc) h
      refine lv_aload_n hx hb dX10_putBytes_7 rfl (lv_at hl 0 rfl) ?_
      refine hm_geti X hw lk_10_55 (gl_0 hG) dX10_putBytes_8 ?_
      refine lv_sipush (v := 500) hx hb dX10_putBytes_11 (by decide) ?_
      refine lv_icmp_ge (tgt := 49) hx hb dX10_putBytes_14 (by decide) (fun hc => ?_) (fun hc => ?_)
      · have h := Eq.mp (if_pos hc) h
        exact hm_vret X hr hlk hw ⟨_, rfl, h⟩ dX10_putBytes_49
      · have h := Eq.mp (if_neg hc) h
        refine lv_aload_n hx hb dX10_putBytes_17 rfl (lv_at hl 0 rfl) ?_
        refine hm_getr X hw lk_10_51 (gl_0 hG) (gf_0_7 hG) dX10_putBytes_18 ?_
        refine lv_aload_n hx hb dX10_putBytes_21 rfl (lv_at hl 0 rfl) ?_
        refine hm_geti X hw lk_10_55 (gl_0 hG) dX10_putBytes_22 ?_
        refine lv_iload_n hx hb dX10_putBytes_25 rfl (lv_at hl 1 rfl) ?_
        refine lv_iload_n hx hb dX10_putBytes_26 rfl (lv_at hl 2 rfl) ?_
        refine lv_iushr (v := iu x1 x2) hx hb dX10_putBytes_27 rfl ?_
        refine lv_sipush (v := 255) hx hb dX10_putBytes_28 (by decide) ?_
        refine lv_iand hx hb dX10_putBytes_31 ?_
        obtain ⟨hi, h⟩ := h
        refine hm_iast X hw (gl_34 hG) hi dX10_putBytes_32 (fun H locs hw => ?_)
        refine lv_aload_n hx hb dX10_putBytes_33 rfl (lv_at hl 0 rfl) ?_
        refine lv_dup hx hb dX10_putBytes_34 rfl ?_
        refine hm_geti X hw lk_10_55 (gl_0 hG) dX10_putBytes_35 ?_
        refine lv_iconst (v := 1) hx hb dX10_putBytes_38 (by decide) ?_
        refine lv_iadd hx hb dX10_putBytes_39 ?_
        refine hm_puti X hw lk_10_55 (gl_0 hG) rfl rfl dX10_putBytes_40 (fun H locs hw => ?_)
        refine lv_iinc (v := x2 + (-8)) (lv' := [(2, _), (0, _), (1, _)]) hx hb dX10_putBytes_43 hl (k := 2) rfl rfl (by decide) rfl (fun ls hl => ?_)
        refine lv_goto (tgt := 3) hx hb dX10_putBytes_46 (by decide) ?_
        exact ih _ _ h hw (lv_sub hl [1, 2, 0] rfl)

theorem cH_putBytes {l : Launch} {D : va_G} {cA : Nat → ClassId} {z sz : Nat} {I : HI} {T : HR} {F : HR} {L : HL} {x1 : Int32} {Q : HI → Prop} (hcl : hCl Ev) (hG : Geo F L) (h : H_putBytes I x1 Q) : Met l yX10_putBytes (hws0 yX10_putBytes cX10_putBytes 3 none) { frames := 0, cells := 0, slots := 0, locals := 0 } (hPc D cA z Ev (I, J, T, F, L) sz [.ref (z + 0), .int x1]) (va_Qv (pIv J T F L Q) (hB D cA z (hA z L sz)) (hA z L sz)) 0 0 (hA z L sz) := by
  refine hm_met (I, J, T, F, L) [.ref (z + 0), .int x1] rfl (by decide) (Nat.le_of_ble_eq_true rfl) ?_
  intro p e s m below meth c ls X hr hlk hnm hxt hsz hw hl
  have hl : lv_has ls 3 [(0, .ref (z + 0)), (1, .int x1)] := hl
  have hR : 0 ≤ ({ frames := 0, cells := 0, slots := 0, locals := 0 } : Room).frames ∧ 0 ≤ ({ frames := 0, cells := 0, slots := 0, locals := 0 } : Room).locals := ⟨Nat.le_refl _, Nat.le_refl _⟩
  generalize ({ frames := 0, cells := 0, slots := 0, locals := 0 } : Room) = R at hR ⊢
  clear hsz
  generalize (hA z L sz) = A at hw ⊢
  have hx := X.1
  have hb := X.2.1
  unfold H_putBytes at h
  refine lv_bipush (v := 24) hx hb dX10_putBytes_0 (by decide) ?_
  refine lv_istore_n (lv' := [(2, _), (0, _), (1, _)]) hx hb dX10_putBytes_2 rfl hl (by decide) rfl (fun ls hl => ?_)
  obtain ⟨n2, h⟩ := h
  exact wkH_putBytes_l3 X hr hlk hR hcl hG  n2 _ _ h hw (lv_sub hl [1, 2, 0] rfl)

theorem cH_feed {l : Launch} {D : va_G} {cA : Nat → ClassId} {z sz : Nat} {I : HI} {T : HR} {F : HR} {L : HL} {x1 : Int32} {x2 : Int32} {x3 : Int32} {x4 : Int32} {x5 : Int32} {Q : Int32 → HI → Prop} (hcl : hCl Ev) (hG : Geo F L) (h : H_feed I x1 x2 x3 x4 x5 Q) : Met l yX10_feed (hws0 yX10_feed cX10_feed 6 (some .int)) { frames := 1, cells := 0, slots := 0, locals := 22 } (hPc D cA z Ev (I, J, T, F, L) sz [.ref (z + 0), .int x1, .int x2, .int x3, .int x4, .int x5]) (va_Qi (pI J T F L Q) (hB D cA z (hA z L sz)) (hA z L sz)) 0 0 (hA z L sz) := by
  refine hm_met (I, J, T, F, L) [.ref (z + 0), .int x1, .int x2, .int x3, .int x4, .int x5] rfl (by decide) (Nat.le_of_ble_eq_true rfl) ?_
  intro p e s m below meth c ls X hr hlk hnm hxt hsz hw hl
  have hl : lv_has ls 6 [(0, .ref (z + 0)), (1, .int x1), (2, .int x2), (3, .int x3), (4, .int x4), (5, .int x5)] := hl
  have hR : 1 ≤ ({ frames := 1, cells := 0, slots := 0, locals := 22 } : Room).frames ∧ 22 ≤ ({ frames := 1, cells := 0, slots := 0, locals := 22 } : Room).locals := ⟨Nat.le_refl _, Nat.le_refl _⟩
  generalize ({ frames := 1, cells := 0, slots := 0, locals := 22 } : Room) = R at hR ⊢
  clear hsz
  generalize (hA z L sz) = A at hw ⊢
  have hx := X.1
  have hb := X.2.1
  unfold H_feed at h
  refine lv_aload_n hx hb dX10_feed_0 rfl (lv_at hl 0 rfl) ?_
  refine hm_geti X hw lk_10_55 (gl_0 hG) dX10_feed_1 ?_
  refine lv_bipush (v := 20) hx hb dX10_feed_4 (by decide) ?_
  refine lv_iadd hx hb dX10_feed_6 ?_
  refine lv_sipush (v := 500) hx hb dX10_feed_7 (by decide) ?_
  refine lv_icmp_le (tgt := 15) hx hb dX10_feed_10 (by decide) (fun hc => ?_) (fun hc => ?_)
  · have h := Eq.mp (if_pos hc) h
    refine lv_aload_n hx hb dX10_feed_15 rfl (lv_at hl 0 rfl) ?_
    refine lv_iload_n hx hb dX10_feed_16 rfl (lv_at hl 1 rfl) ?_
    refine hm_callv hw (hm_runV (rest := []) hcl X hw (cH_putBytes hcl hG h) yk_X10_putBytes kw531 rfl (gl_0 hG) rfl hl.1 rfl rfl rfl (Nat.le_of_ble_eq_true rfl) ⟨Nat.le_trans (Nat.le_of_ble_eq_true rfl) hR.1, Nat.le_trans (Nat.le_of_ble_eq_true rfl) hR.2⟩ ⟨Nat.zero_le _, Nat.zero_le _⟩ dX10_feed_17) (fun u2 H locs hp hw => ?_)
    obtain ⟨I1, rfl, h⟩ := hp
    refine lv_aload_n hx hb dX10_feed_20 rfl (lv_at hl 0 rfl) ?_
    refine lv_iload_n hx hb dX10_feed_21 rfl (lv_at hl 2 rfl) ?_
    refine hm_callv hw (hm_runV (rest := []) hcl X hw (cH_putBytes hcl hG h) yk_X10_putBytes kw531 rfl (gl_0 hG) rfl hl.1 rfl rfl rfl (Nat.le_of_ble_eq_true rfl) ⟨Nat.le_trans (Nat.le_of_ble_eq_true rfl) hR.1, Nat.le_trans (Nat.le_of_ble_eq_true rfl) hR.2⟩ ⟨Nat.zero_le _, Nat.zero_le _⟩ dX10_feed_22) (fun u4 H locs hp hw => ?_)
    obtain ⟨I3, rfl, h⟩ := hp
    refine lv_aload_n hx hb dX10_feed_25 rfl (lv_at hl 0 rfl) ?_
    refine lv_iload_n hx hb dX10_feed_26 rfl (lv_at hl 3 rfl) ?_
    refine hm_callv hw (hm_runV (rest := []) hcl X hw (cH_putBytes hcl hG h) yk_X10_putBytes kw531 rfl (gl_0 hG) rfl hl.1 rfl rfl rfl (Nat.le_of_ble_eq_true rfl) ⟨Nat.le_trans (Nat.le_of_ble_eq_true rfl) hR.1, Nat.le_trans (Nat.le_of_ble_eq_true rfl) hR.2⟩ ⟨Nat.zero_le _, Nat.zero_le _⟩ dX10_feed_27) (fun u6 H locs hp hw => ?_)
    obtain ⟨I5, rfl, h⟩ := hp
    refine lv_aload_n hx hb dX10_feed_30 rfl (lv_at hl 0 rfl) ?_
    refine lv_iload hx hb dX10_feed_31 (lv_at hl 4 rfl) ?_
    refine hm_callv hw (hm_runV (rest := []) hcl X hw (cH_putBytes hcl hG h) yk_X10_putBytes kw531 rfl (gl_0 hG) rfl hl.1 rfl rfl rfl (Nat.le_of_ble_eq_true rfl) ⟨Nat.le_trans (Nat.le_of_ble_eq_true rfl) hR.1, Nat.le_trans (Nat.le_of_ble_eq_true rfl) hR.2⟩ ⟨Nat.zero_le _, Nat.zero_le _⟩ dX10_feed_33) (fun u8 H locs hp hw => ?_)
    obtain ⟨I7, rfl, h⟩ := hp
    refine lv_aload_n hx hb dX10_feed_36 rfl (lv_at hl 0 rfl) ?_
    refine lv_iload hx hb dX10_feed_37 (lv_at hl 5 rfl) ?_
    refine hm_callv hw (hm_runV (rest := []) hcl X hw (cH_putBytes hcl hG h) yk_X10_putBytes kw531 rfl (gl_0 hG) rfl hl.1 rfl rfl rfl (Nat.le_of_ble_eq_true rfl) ⟨Nat.le_trans (Nat.le_of_ble_eq_true rfl) hR.1, Nat.le_trans (Nat.le_of_ble_eq_true rfl) hR.2⟩ ⟨Nat.zero_le _, Nat.zero_le _⟩ dX10_feed_39) (fun u10 H locs hp hw => ?_)
    obtain ⟨I9, rfl, h⟩ := hp
    refine lv_aload_n hx hb dX10_feed_42 rfl (lv_at hl 0 rfl) ?_
    refine hm_geti X hw lk_10_55 (gl_0 hG) dX10_feed_43 ?_
    exact hm_iret X hr hlk hw ⟨_, rfl, h⟩ dX10_feed_46
  · have h := Eq.mp (if_neg hc) h
    refine lv_iconst (v := (-1)) hx hb dX10_feed_13 (by decide) ?_
    exact hm_iret X hr hlk hw ⟨_, rfl, h⟩ dX10_feed_14

theorem cH_fault {l : Launch} {D : va_G} {cA : Nat → ClassId} {z sz : Nat} {I : HI} {T : HR} {F : HR} {L : HL}  {Q : Int32 → Prop} (hcl : hCl Ev) (hG : Geo F L) (h : H_fault I  Q) : Met l yX10_fault (hws0 yX10_fault cX10_fault 1 (some .int)) { frames := 0, cells := 0, slots := 0, locals := 0 } (hPc D cA z Ev (I, J, T, F, L) sz [.ref (z + 0)]) (va_Qi (p0 (I, J, T, F, L) Q) (hB D cA z (hA z L sz)) (hA z L sz)) 0 0 (hA z L sz) := by
  refine hm_met (I, J, T, F, L) [.ref (z + 0)] rfl (by decide) (Nat.le_of_ble_eq_true rfl) ?_
  intro p e s m below meth c ls X hr hlk hnm hxt hsz hw hl
  have hl : lv_has ls 1 [(0, .ref (z + 0))] := hl
  have hR : 0 ≤ ({ frames := 0, cells := 0, slots := 0, locals := 0 } : Room).frames ∧ 0 ≤ ({ frames := 0, cells := 0, slots := 0, locals := 0 } : Room).locals := ⟨Nat.le_refl _, Nat.le_refl _⟩
  generalize ({ frames := 0, cells := 0, slots := 0, locals := 0 } : Room) = R at hR ⊢
  clear hsz
  generalize (hA z L sz) = A at hw ⊢
  have hx := X.1
  have hb := X.2.1
  unfold H_fault at h
  refine lv_aload_n hx hb dX10_fault_0 rfl (lv_at hl 0 rfl) ?_
  refine hm_getr X hw lk_10_47 (gl_0 hG) (gf_0_6 hG) dX10_fault_1 ?_
  refine hm_geti X hw lk_10_168 (gl_28 hG) dX10_fault_4 ?_
  exact hm_iret X hr hlk hw ⟨rfl, h⟩ dX10_fault_7

theorem cH_beaten {l : Launch} {D : va_G} {cA : Nat → ClassId} {z sz : Nat} {I : HI} {T : HR} {F : HR} {L : HL} {x1 : Int32} {Q : Int32 → HI → Prop} (hcl : hCl Ev) (hG : Geo F L) (h : H_beaten I T F L x1 Q) : Met l yX10_beaten (hws0 yX10_beaten cX10_beaten 2 (some .int)) { frames := 6, cells := 0, slots := 0, locals := 151 } (hPc D cA z Ev (I, J, T, F, L) sz [.ref (z + 0), .int x1]) (va_Qi (pI J T F L Q) (hB D cA z (hA z L sz)) (hA z L sz)) 0 0 (hA z L sz) := by
  refine hm_met (I, J, T, F, L) [.ref (z + 0), .int x1] rfl (by decide) (Nat.le_of_ble_eq_true rfl) ?_
  intro p e s m below meth c ls X hr hlk hnm hxt hsz hw hl
  have hl : lv_has ls 2 [(0, .ref (z + 0)), (1, .int x1)] := hl
  have hR : 6 ≤ ({ frames := 6, cells := 0, slots := 0, locals := 151 } : Room).frames ∧ 151 ≤ ({ frames := 6, cells := 0, slots := 0, locals := 151 } : Room).locals := ⟨Nat.le_refl _, Nat.le_refl _⟩
  generalize ({ frames := 6, cells := 0, slots := 0, locals := 151 } : Room) = R at hR ⊢
  clear hsz
  generalize (hA z L sz) = A at hw ⊢
  have hx := X.1
  have hb := X.2.1
  unfold H_beaten at h
  refine lv_aload_n hx hb dX10_beaten_0 rfl (lv_at hl 0 rfl) ?_
  refine hm_getr X hw lk_10_40 (gl_0 hG) (gf_0_5 hG) dX10_beaten_1 ?_
  refine lv_aload_n hx hb dX10_beaten_4 rfl (lv_at hl 0 rfl) ?_
  refine hm_getr X hw lk_10_10 (gl_0 hG) (gf_0_0 hG) dX10_beaten_5 ?_
  refine lv_aload_n hx hb dX10_beaten_8 rfl (lv_at hl 0 rfl) ?_
  refine hm_getr X hw lk_10_33 (gl_0 hG) (gf_0_4 hG) dX10_beaten_9 ?_
  refine lv_aload_n hx hb dX10_beaten_12 rfl (lv_at hl 0 rfl) ?_
  refine hm_getr X hw lk_10_26 (gl_0 hG) (gf_0_3 hG) dX10_beaten_13 ?_
  refine hm_callv hw (hm_runV (rest := []) hcl X hw (cLed_fill hcl hG (geo_net hG) (geo_scene hG) h) yk_X3_fill kw543 rfl (gl_26 hG) rfl hl.1 rfl rfl rfl (Nat.le_of_ble_eq_true rfl) ⟨Nat.le_trans (Nat.le_of_ble_eq_true rfl) hR.1, Nat.le_trans (Nat.le_of_ble_eq_true rfl) hR.2⟩ ⟨Nat.zero_le _, Nat.zero_le _⟩ dX10_beaten_16) (fun u2 H locs hp hw => ?_)
  obtain ⟨I1, rfl, h⟩ := hp
  refine lv_aload_n hx hb dX10_beaten_19 rfl (lv_at hl 0 rfl) ?_
  refine hm_getr X hw lk_10_40 (gl_0 hG) (gf_0_5 hG) dX10_beaten_20 ?_
  refine lv_aload_n hx hb dX10_beaten_23 rfl (lv_at hl 0 rfl) ?_
  refine hm_getr X hw lk_10_10 (gl_0 hG) (gf_0_0 hG) dX10_beaten_24 ?_
  refine lv_aload_n hx hb dX10_beaten_27 rfl (lv_at hl 0 rfl) ?_
  refine hm_getr X hw lk_10_33 (gl_0 hG) (gf_0_4 hG) dX10_beaten_28 ?_
  refine lv_iload_n hx hb dX10_beaten_31 rfl (lv_at hl 1 rfl) ?_
  refine hm_calli hw (hm_runV (rest := []) hcl X hw (cLed_rowBeaten hcl hG (geo_net hG) h) yk_X3_rowBeaten kw601 rfl (gl_26 hG) rfl hl.1 rfl rfl rfl (Nat.le_of_ble_eq_true rfl) ⟨Nat.le_trans (Nat.le_of_ble_eq_true rfl) hR.1, Nat.le_trans (Nat.le_of_ble_eq_true rfl) hR.2⟩ ⟨Nat.zero_le _, Nat.zero_le _⟩ dX10_beaten_32) (fun a3 u4 H locs hp hw => ?_)
  obtain ⟨rfl, h⟩ := hp
  exact hm_iret X hr hlk hw ⟨_, rfl, h⟩ dX10_beaten_35

theorem cH_tally {l : Launch} {D : va_G} {cA : Nat → ClassId} {z sz : Nat} {I : HI} {T : HR} {F : HR} {L : HL} {x1 : Int32} {Q : Int32 → HI → Prop} (hcl : hCl Ev) (hG : Geo F L) (h : H_tally I T F L x1 Q) : Met l yX10_tally (hws0 yX10_tally cX10_tally 2 (some .int)) { frames := 6, cells := 0, slots := 0, locals := 151 } (hPc D cA z Ev (I, J, T, F, L) sz [.ref (z + 0), .int x1]) (va_Qi (pI J T F L Q) (hB D cA z (hA z L sz)) (hA z L sz)) 0 0 (hA z L sz) := by
  refine hm_met (I, J, T, F, L) [.ref (z + 0), .int x1] rfl (by decide) (Nat.le_of_ble_eq_true rfl) ?_
  intro p e s m below meth c ls X hr hlk hnm hxt hsz hw hl
  have hl : lv_has ls 2 [(0, .ref (z + 0)), (1, .int x1)] := hl
  have hR : 6 ≤ ({ frames := 6, cells := 0, slots := 0, locals := 151 } : Room).frames ∧ 151 ≤ ({ frames := 6, cells := 0, slots := 0, locals := 151 } : Room).locals := ⟨Nat.le_refl _, Nat.le_refl _⟩
  generalize ({ frames := 6, cells := 0, slots := 0, locals := 151 } : Room) = R at hR ⊢
  clear hsz
  generalize (hA z L sz) = A at hw ⊢
  have hx := X.1
  have hb := X.2.1
  unfold H_tally at h
  refine lv_aload_n hx hb dX10_tally_0 rfl (lv_at hl 0 rfl) ?_
  refine hm_getr X hw lk_10_40 (gl_0 hG) (gf_0_5 hG) dX10_tally_1 ?_
  refine lv_aload_n hx hb dX10_tally_4 rfl (lv_at hl 0 rfl) ?_
  refine hm_getr X hw lk_10_10 (gl_0 hG) (gf_0_0 hG) dX10_tally_5 ?_
  refine lv_aload_n hx hb dX10_tally_8 rfl (lv_at hl 0 rfl) ?_
  refine hm_getr X hw lk_10_33 (gl_0 hG) (gf_0_4 hG) dX10_tally_9 ?_
  refine lv_aload_n hx hb dX10_tally_12 rfl (lv_at hl 0 rfl) ?_
  refine hm_getr X hw lk_10_26 (gl_0 hG) (gf_0_3 hG) dX10_tally_13 ?_
  refine hm_callv hw (hm_runV (rest := []) hcl X hw (cLed_fill hcl hG (geo_net hG) (geo_scene hG) h) yk_X3_fill kw543 rfl (gl_26 hG) rfl hl.1 rfl rfl rfl (Nat.le_of_ble_eq_true rfl) ⟨Nat.le_trans (Nat.le_of_ble_eq_true rfl) hR.1, Nat.le_trans (Nat.le_of_ble_eq_true rfl) hR.2⟩ ⟨Nat.zero_le _, Nat.zero_le _⟩ dX10_tally_16) (fun u2 H locs hp hw => ?_)
  obtain ⟨I1, rfl, h⟩ := hp
  refine lv_aload_n hx hb dX10_tally_19 rfl (lv_at hl 0 rfl) ?_
  refine hm_getr X hw lk_10_40 (gl_0 hG) (gf_0_5 hG) dX10_tally_20 ?_
  refine lv_aload_n hx hb dX10_tally_23 rfl (lv_at hl 0 rfl) ?_
  refine hm_getr X hw lk_10_10 (gl_0 hG) (gf_0_0 hG) dX10_tally_24 ?_
  refine lv_iload_n hx hb dX10_tally_27 rfl (lv_at hl 1 rfl) ?_
  refine hm_calli hw (hm_runV (rest := []) hcl X hw (cLed_rowsWithRight hcl hG (geo_net hG) h) yk_X3_rowsWithRight kw627 rfl (gl_26 hG) rfl hl.1 rfl rfl rfl (Nat.le_of_ble_eq_true rfl) ⟨Nat.le_trans (Nat.le_of_ble_eq_true rfl) hR.1, Nat.le_trans (Nat.le_of_ble_eq_true rfl) hR.2⟩ ⟨Nat.zero_le _, Nat.zero_le _⟩ dX10_tally_28) (fun a3 u4 H locs hp hw => ?_)
  obtain ⟨rfl, h⟩ := hp
  exact hm_iret X hr hlk hw ⟨_, rfl, h⟩ dX10_tally_31

theorem cH_alike {l : Launch} {D : va_G} {cA : Nat → ClassId} {z sz : Nat} {I : HI} {T : HR} {F : HR} {L : HL}  {Q : Int32 → HI → Prop} (hcl : hCl Ev) (hG : Geo F L) (h : H_alike I  Q) : Met l yX10_alike (hws0 yX10_alike cX10_alike 1 (some .int)) { frames := 10, cells := 0, slots := 0, locals := 244 } (hPc D cA z Ev (I, J, T, F, L) sz [.ref (z + 0)]) (va_Qi (pI J T F L Q) (hB D cA z (hA z L sz)) (hA z L sz)) 0 0 (hA z L sz) := by
  refine hm_met (I, J, T, F, L) [.ref (z + 0)] rfl (by decide) (Nat.le_of_ble_eq_true rfl) ?_
  intro p e s m below meth c ls X hr hlk hnm hxt hsz hw hl
  have hl : lv_has ls 1 [(0, .ref (z + 0))] := hl
  have hR : 10 ≤ ({ frames := 10, cells := 0, slots := 0, locals := 244 } : Room).frames ∧ 244 ≤ ({ frames := 10, cells := 0, slots := 0, locals := 244 } : Room).locals := ⟨Nat.le_refl _, Nat.le_refl _⟩
  generalize ({ frames := 10, cells := 0, slots := 0, locals := 244 } : Room) = R at hR ⊢
  clear hsz
  generalize (hA z L sz) = A at hw ⊢
  have hx := X.1
  have hb := X.2.1
  unfold H_alike at h
  refine lv_aload_n hx hb dX10_alike_0 rfl (lv_at hl 0 rfl) ?_
  refine hm_getr X hw lk_10_10 (gl_0 hG) (gf_0_0 hG) dX10_alike_1 ?_
  refine hm_calli hw (hm_runV (rest := []) hcl X hw (cNet_countPlacings hcl (geo_net hG) h) yk_X5_countPlacings kw636 rfl (gl_1 hG) rfl hl.1 rfl rfl rfl (Nat.le_of_ble_eq_true rfl) ⟨Nat.le_trans (Nat.le_of_ble_eq_true rfl) hR.1, Nat.le_trans (Nat.le_of_ble_eq_true rfl) hR.2⟩ ⟨Nat.zero_le _, Nat.zero_le _⟩ dX10_alike_4) (fun a1 u3 H locs hp hw => ?_)
  obtain ⟨I2, rfl, h⟩ := hp
  exact hm_iret X hr hlk hw ⟨_, rfl, h⟩ dX10_alike_7

theorem cH_ring {l : Launch} {D : va_G} {cA : Nat → ClassId} {z sz : Nat} {I : HI} {T : HR} {F : HR} {L : HL}  {Q : Int32 → Prop} (hcl : hCl Ev) (hG : Geo F L) (h : H_ring I  Q) : Met l yX10_ring (hws0 yX10_ring cX10_ring 1 (some .int)) { frames := 2, cells := 0, slots := 0, locals := 47 } (hPc D cA z Ev (I, J, T, F, L) sz [.ref (z + 0)]) (va_Qi (p0 (I, J, T, F, L) Q) (hB D cA z (hA z L sz)) (hA z L sz)) 0 0 (hA z L sz) := by
  refine hm_met (I, J, T, F, L) [.ref (z + 0)] rfl (by decide) (Nat.le_of_ble_eq_true rfl) ?_
  intro p e s m below meth c ls X hr hlk hnm hxt hsz hw hl
  have hl : lv_has ls 1 [(0, .ref (z + 0))] := hl
  have hR : 2 ≤ ({ frames := 2, cells := 0, slots := 0, locals := 47 } : Room).frames ∧ 47 ≤ ({ frames := 2, cells := 0, slots := 0, locals := 47 } : Room).locals := ⟨Nat.le_refl _, Nat.le_refl _⟩
  generalize ({ frames := 2, cells := 0, slots := 0, locals := 47 } : Room) = R at hR ⊢
  clear hsz
  generalize (hA z L sz) = A at hw ⊢
  have hx := X.1
  have hb := X.2.1
  unfold H_ring at h
  refine lv_aload_n hx hb dX10_ring_0 rfl (lv_at hl 0 rfl) ?_
  refine hm_getr X hw lk_10_10 (gl_0 hG) (gf_0_0 hG) dX10_ring_1 ?_
  refine hm_calli hw (hm_runV (rest := []) hcl X hw (cNet_shortestRing hcl (geo_net hG) h) yk_X5_shortestRing kw651 rfl (gl_1 hG) rfl hl.1 rfl rfl rfl (Nat.le_of_ble_eq_true rfl) ⟨Nat.le_trans (Nat.le_of_ble_eq_true rfl) hR.1, Nat.le_trans (Nat.le_of_ble_eq_true rfl) hR.2⟩ ⟨Nat.zero_le _, Nat.zero_le _⟩ dX10_ring_4) (fun a1 u2 H locs hp hw => ?_)
  obtain ⟨rfl, h⟩ := hp
  exact hm_iret X hr hlk hw ⟨rfl, h⟩ dX10_ring_7

theorem cH_steps {l : Launch} {D : va_G} {cA : Nat → ClassId} {z sz : Nat} {I : HI} {T : HR} {F : HR} {L : HL}  {Q : Int32 → Prop} (hcl : hCl Ev) (hG : Geo F L) (h : H_steps I  Q) : Met l yX10_steps (hws0 yX10_steps cX10_steps 1 (some .int)) { frames := 0, cells := 0, slots := 0, locals := 0 } (hPc D cA z Ev (I, J, T, F, L) sz [.ref (z + 0)]) (va_Qi (p0 (I, J, T, F, L) Q) (hB D cA z (hA z L sz)) (hA z L sz)) 0 0 (hA z L sz) := by
  refine hm_met (I, J, T, F, L) [.ref (z + 0)] rfl (by decide) (Nat.le_of_ble_eq_true rfl) ?_
  intro p e s m below meth c ls X hr hlk hnm hxt hsz hw hl
  have hl : lv_has ls 1 [(0, .ref (z + 0))] := hl
  have hR : 0 ≤ ({ frames := 0, cells := 0, slots := 0, locals := 0 } : Room).frames ∧ 0 ≤ ({ frames := 0, cells := 0, slots := 0, locals := 0 } : Room).locals := ⟨Nat.le_refl _, Nat.le_refl _⟩
  generalize ({ frames := 0, cells := 0, slots := 0, locals := 0 } : Room) = R at hR ⊢
  clear hsz
  generalize (hA z L sz) = A at hw ⊢
  have hx := X.1
  have hb := X.2.1
  unfold H_steps at h
  refine lv_aload_n hx hb dX10_steps_0 rfl (lv_at hl 0 rfl) ?_
  refine hm_getr X hw lk_10_62 (gl_0 hG) (gf_0_9 hG) dX10_steps_1 ?_
  refine hm_geti X hw lk_10_312 (gl_35 hG) dX10_steps_4 ?_
  exact hm_iret X hr hlk hw ⟨rfl, h⟩ dX10_steps_7

theorem cH_cover {l : Launch} {D : va_G} {cA : Nat → ClassId} {z sz : Nat} {I : HI} {T : HR} {F : HR} {L : HL}  {Q : Int32 → HI → HR → Prop} (hcl : hCl Ev) (hG : Geo F L) (h : H_cover I T L  Q) : Met l yX10_cover (hws0 yX10_cover cX10_cover 1 (some .int)) { frames := 18, cells := 0, slots := 0, locals := 401 } (hPc D cA z Ev (I, J, T, F, L) sz [.ref (z + 0)]) (va_Qi (pIT J F L Q) (hB D cA z (hA z L sz)) (hA z L sz)) 0 0 (hA z L sz) := by
  refine hm_met (I, J, T, F, L) [.ref (z + 0)] rfl (by decide) (Nat.le_of_ble_eq_true rfl) ?_
  intro p e s m below meth c ls X hr hlk hnm hxt hsz hw hl
  have hl : lv_has ls 1 [(0, .ref (z + 0))] := hl
  have hR : 18 ≤ ({ frames := 18, cells := 0, slots := 0, locals := 401 } : Room).frames ∧ 401 ≤ ({ frames := 18, cells := 0, slots := 0, locals := 401 } : Room).locals := ⟨Nat.le_refl _, Nat.le_refl _⟩
  generalize ({ frames := 18, cells := 0, slots := 0, locals := 401 } : Room) = R at hR ⊢
  clear hsz
  generalize (hA z L sz) = A at hw ⊢
  have hx := X.1
  have hb := X.2.1
  unfold H_cover at h
  refine lv_aload_n hx hb dX10_cover_0 rfl (lv_at hl 0 rfl) ?_
  refine hm_getr X hw lk_10_10 (gl_0 hG) (gf_0_0 hG) dX10_cover_1 ?_
  refine hm_geti X hw lk_10_128 (gl_1 hG) dX10_cover_4 ?_
  refine lv_iconst (v := 2) hx hb dX10_cover_7 (by decide) ?_
  refine lv_icmp_ne (tgt := 22) hx hb dX10_cover_8 (by decide) (fun hc => ?_) (fun hc => ?_)
  · have h := Eq.mp (if_neg hc) h
    refine lv_iconst (v := (-1)) hx hb dX10_cover_22 (by decide) ?_
    exact hm_iret X hr hlk hw ⟨_, _, rfl, h⟩ dX10_cover_23
  · have h := Eq.mp (if_pos hc) h
    refine lv_aload_n hx hb dX10_cover_11 rfl (lv_at hl 0 rfl) ?_
    refine hm_getr X hw lk_10_10 (gl_0 hG) (gf_0_0 hG) dX10_cover_12 ?_
    refine hm_geti X hw lk_10_150 (gl_1 hG) dX10_cover_15 ?_
    refine lv_iconst (v := 5) hx hb dX10_cover_18 (by decide) ?_
    refine lv_icmp_le (tgt := 24) hx hb dX10_cover_19 (by decide) (fun hc => ?_) (fun hc => ?_)
    · have h := Eq.mp (if_pos hc) h
      refine lv_aload_n hx hb dX10_cover_24 rfl (lv_at hl 0 rfl) ?_
      refine hm_getr X hw lk_10_76 (gl_0 hG) (gf_0_11 hG) dX10_cover_25 ?_
      refine lv_aload_n hx hb dX10_cover_28 rfl (lv_at hl 0 rfl) ?_
      refine hm_getr X hw lk_10_10 (gl_0 hG) (gf_0_0 hG) dX10_cover_29 ?_
      refine hm_geti X hw lk_10_150 (gl_1 hG) dX10_cover_32 ?_
      refine hm_callv hw (hm_runV (rest := []) hcl X hw (cCov_seek hcl hG h) yk_X0_seek kw667 rfl (gl_44 hG) rfl hl.1 rfl rfl rfl (Nat.le_of_ble_eq_true rfl) ⟨Nat.le_trans (Nat.le_of_ble_eq_true rfl) hR.1, Nat.le_trans (Nat.le_of_ble_eq_true rfl) hR.2⟩ ⟨Nat.zero_le _, Nat.zero_le _⟩ dX10_cover_35) (fun u2 H locs hp hw => ?_)
      obtain ⟨I1, rfl, h⟩ := hp
      refine lv_aload_n hx hb dX10_cover_38 rfl (lv_at hl 0 rfl) ?_
      refine hm_getr X hw lk_10_76 (gl_0 hG) (gf_0_11 hG) dX10_cover_39 ?_
      refine lv_aload_n hx hb dX10_cover_42 rfl (lv_at hl 0 rfl) ?_
      refine hm_getr X hw lk_10_10 (gl_0 hG) (gf_0_0 hG) dX10_cover_43 ?_
      refine hm_callv hw (hm_runV (rest := []) hcl X hw (cCov_settle hcl hG (geo_net hG) h) yk_X0_settle kw689 rfl (gl_44 hG) rfl hl.1 rfl rfl rfl (Nat.le_of_ble_eq_true rfl) ⟨Nat.le_trans (Nat.le_of_ble_eq_true rfl) hR.1, Nat.le_trans (Nat.le_of_ble_eq_true rfl) hR.2⟩ ⟨Nat.zero_le _, Nat.zero_le _⟩ dX10_cover_46) (fun u5 H locs hp hw => ?_)
      obtain ⟨I3, T4, rfl, h⟩ := hp
      refine lv_aload_n hx hb dX10_cover_49 rfl (lv_at hl 0 rfl) ?_
      refine hm_getr X hw lk_10_40 (gl_0 hG) (gf_0_5 hG) dX10_cover_50 ?_
      refine hm_callv hw (hm_runV (rest := []) hcl X hw (cLed_spoil hcl hG h) yk_X3_spoil kw515 rfl (gl_26 hG) rfl hl.1 rfl rfl rfl (Nat.le_of_ble_eq_true rfl) ⟨Nat.le_trans (Nat.le_of_ble_eq_true rfl) hR.1, Nat.le_trans (Nat.le_of_ble_eq_true rfl) hR.2⟩ ⟨Nat.zero_le _, Nat.zero_le _⟩ dX10_cover_53) (fun u7 H locs hp hw => ?_)
      obtain ⟨I6, rfl, h⟩ := hp
      refine lv_aload_n hx hb dX10_cover_56 rfl (lv_at hl 0 rfl) ?_
      refine hm_getr X hw lk_10_76 (gl_0 hG) (gf_0_11 hG) dX10_cover_57 ?_
      refine hm_geti X hw lk_10_331 (gl_44 hG) dX10_cover_60 ?_
      exact hm_iret X hr hlk hw ⟨_, _, rfl, h⟩ dX10_cover_63
    · have h := Eq.mp (if_neg hc) h
      refine lv_iconst (v := (-1)) hx hb dX10_cover_22 (by decide) ?_
      exact hm_iret X hr hlk hw ⟨_, _, rfl, h⟩ dX10_cover_23

theorem cH_draw {l : Launch} {D : va_G} {cA : Nat → ClassId} {z sz : Nat} {I : HI} {T : HR} {F : HR} {L : HL} {x1 : Int32} {Q : Int32 → HI → Prop} (hcl : hCl Ev) (hG : Geo F L) (h : H_draw I T x1 Q) : Met l yX10_draw (hws0 yX10_draw cX10_draw 2 (some .int)) { frames := 2, cells := 0, slots := 0, locals := 48 } (hPc D cA z Ev (I, J, T, F, L) sz [.ref (z + 0), .int x1]) (va_Qi (pI J T F L Q) (hB D cA z (hA z L sz)) (hA z L sz)) 0 0 (hA z L sz) := by
  refine hm_met (I, J, T, F, L) [.ref (z + 0), .int x1] rfl (by decide) (Nat.le_of_ble_eq_true rfl) ?_
  intro p e s m below meth c ls X hr hlk hnm hxt hsz hw hl
  have hl : lv_has ls 2 [(0, .ref (z + 0)), (1, .int x1)] := hl
  have hR : 2 ≤ ({ frames := 2, cells := 0, slots := 0, locals := 48 } : Room).frames ∧ 48 ≤ ({ frames := 2, cells := 0, slots := 0, locals := 48 } : Room).locals := ⟨Nat.le_refl _, Nat.le_refl _⟩
  generalize ({ frames := 2, cells := 0, slots := 0, locals := 48 } : Room) = R at hR ⊢
  clear hsz
  generalize (hA z L sz) = A at hw ⊢
  have hx := X.1
  have hb := X.2.1
  unfold H_draw at h
  refine lv_aload_n hx hb dX10_draw_0 rfl (lv_at hl 0 rfl) ?_
  refine hm_getr X hw lk_10_40 (gl_0 hG) (gf_0_5 hG) dX10_draw_1 ?_
  refine hm_callv hw (hm_runV (rest := []) hcl X hw (cLed_spoil hcl hG h) yk_X3_spoil kw515 rfl (gl_26 hG) rfl hl.1 rfl rfl rfl (Nat.le_of_ble_eq_true rfl) ⟨Nat.le_trans (Nat.le_of_ble_eq_true rfl) hR.1, Nat.le_trans (Nat.le_of_ble_eq_true rfl) hR.2⟩ ⟨Nat.zero_le _, Nat.zero_le _⟩ dX10_draw_4) (fun u2 H locs hp hw => ?_)
  obtain ⟨I1, rfl, h⟩ := hp
  refine lv_aload_n hx hb dX10_draw_7 rfl (lv_at hl 0 rfl) ?_
  refine hm_getr X hw lk_10_10 (gl_0 hG) (gf_0_0 hG) dX10_draw_8 ?_
  refine lv_iload_n hx hb dX10_draw_11 rfl (lv_at hl 1 rfl) ?_
  refine hm_calli hw (hm_runV (rest := []) hcl X hw (cNet_drawTables hcl (geo_net hG) h) yk_X5_drawTables kw812 rfl (gl_1 hG) rfl hl.1 rfl rfl rfl (Nat.le_of_ble_eq_true rfl) ⟨Nat.le_trans (Nat.le_of_ble_eq_true rfl) hR.1, Nat.le_trans (Nat.le_of_ble_eq_true rfl) hR.2⟩ ⟨Nat.zero_le _, Nat.zero_le _⟩ dX10_draw_12) (fun a3 u5 H locs hp hw => ?_)
  obtain ⟨I4, rfl, h⟩ := hp
  exact hm_iret X hr hlk hw ⟨_, rfl, h⟩ dX10_draw_15

theorem cH_take {l : Launch} {D : va_G} {cA : Nat → ClassId} {z sz : Nat} {I : HI} {T : HR} {F : HR} {L : HL} {x1 : Int32} {Q : Int32 → HI → HR → Prop} (hcl : hCl Ev) (hG : Geo F L) (h : H_take I T F L x1 Q) : Met l yX10_take (hws0 yX10_take cX10_take 2 (some .boolean)) { frames := 2, cells := 0, slots := 0, locals := 122 } (hPc D cA z Ev (I, J, T, F, L) sz [.ref (z + 0), .int x1]) (va_Qi (pIT J F L Q) (hB D cA z (hA z L sz)) (hA z L sz)) 0 0 (hA z L sz) := by
  refine hm_met (I, J, T, F, L) [.ref (z + 0), .int x1] rfl (by decide) (Nat.le_of_ble_eq_true rfl) ?_
  intro p e s m below meth c ls X hr hlk hnm hxt hsz hw hl
  have hl : lv_has ls 2 [(0, .ref (z + 0)), (1, .int x1)] := hl
  have hR : 2 ≤ ({ frames := 2, cells := 0, slots := 0, locals := 122 } : Room).frames ∧ 122 ≤ ({ frames := 2, cells := 0, slots := 0, locals := 122 } : Room).locals := ⟨Nat.le_refl _, Nat.le_refl _⟩
  generalize ({ frames := 2, cells := 0, slots := 0, locals := 122 } : Room) = R at hR ⊢
  clear hsz
  generalize (hA z L sz) = A at hw ⊢
  have hx := X.1
  have hb := X.2.1
  unfold H_take at h
  refine lv_iload_n hx hb dX10_take_0 rfl (lv_at hl 1 rfl) ?_
  refine lv_if_lt (tgt := 18) hx hb dX10_take_1 (by decide) (fun hc => ?_) (fun hc => ?_)
  · have h := Eq.mp (if_pos hc) h
    refine lv_iconst (v := 0) hx hb dX10_take_18 (by decide) ?_
    exact hm_zret X hr hlk hw zb_0 ⟨_, _, rfl, h⟩ dX10_take_19
  · have h := Eq.mp (if_neg hc) h
    refine lv_iload_n hx hb dX10_take_4 rfl (lv_at hl 1 rfl) ?_
    refine lv_iconst (v := 4) hx hb dX10_take_5 (by decide) ?_
    refine lv_icmp_ge (tgt := 18) hx hb dX10_take_6 (by decide) (fun hc => ?_) (fun hc => ?_)
    · have h := Eq.mp (if_pos hc) h
      refine lv_iconst (v := 0) hx hb dX10_take_18 (by decide) ?_
      exact hm_zret X hr hlk hw zb_0 ⟨_, _, rfl, h⟩ dX10_take_19
    · have h := Eq.mp (if_neg hc) h
      refine lv_aload_n hx hb dX10_take_9 rfl (lv_at hl 0 rfl) ?_
      refine hm_getr X hw lk_10_19 (gl_0 hG) (gf_0_2 hG) dX10_take_10 ?_
      refine lv_iload_n hx hb dX10_take_13 rfl (lv_at hl 1 rfl) ?_
      obtain ⟨hi, h⟩ := h
      refine hm_aldq6 X hw (gl_19 hG) hi dX10_take_14 ?_
      refine hm_ifnonnull (tgt := 20) hx hb dX10_take_15 (by decide) (fun ef1 he => ?_) (fun he => ?_)
      · have h := h.2 ef1 he
        refine lv_aload_n hx hb dX10_take_20 rfl (lv_at hl 0 rfl) ?_
        refine hm_getr X hw lk_10_10 (gl_0 hG) (gf_0_0 hG) dX10_take_21 ?_
        refine lv_aload_n hx hb dX10_take_24 rfl (lv_at hl 0 rfl) ?_
        refine hm_getr X hw lk_10_19 (gl_0 hG) (gf_0_2 hG) dX10_take_25 ?_
        refine lv_iload_n hx hb dX10_take_28 rfl (lv_at hl 1 rfl) ?_
        obtain ⟨hi, h⟩ := h
        refine hm_aldq6 X hw (gl_19 hG) hi dX10_take_29 ?_
        obtain ⟨ef2, he, ehn3, h⟩ := h
        rw [he]
        refine hm_callv hw (hm_runV (rest := []) hcl X hw (cNet_copy hcl (geo_net hG) ehn3 h) yk_X5_copy kw826 rfl (gl_1 hG) rfl hl.1 rfl rfl rfl (Nat.le_of_ble_eq_true rfl) ⟨Nat.le_trans (Nat.le_of_ble_eq_true rfl) hR.1, Nat.le_trans (Nat.le_of_ble_eq_true rfl) hR.2⟩ ⟨Nat.zero_le _, Nat.zero_le _⟩ dX10_take_30) (fun u6 H locs hp hw => ?_)
        obtain ⟨I4, T5, rfl, h⟩ := hp
        refine lv_aload_n hx hb dX10_take_33 rfl (lv_at hl 0 rfl) ?_
        refine hm_getr X hw lk_10_40 (gl_0 hG) (gf_0_5 hG) dX10_take_34 ?_
        refine hm_callv hw (hm_runV (rest := []) hcl X hw (cLed_spoil hcl hG h) yk_X3_spoil kw515 rfl (gl_26 hG) rfl hl.1 rfl rfl rfl (Nat.le_of_ble_eq_true rfl) ⟨Nat.le_trans (Nat.le_of_ble_eq_true rfl) hR.1, Nat.le_trans (Nat.le_of_ble_eq_true rfl) hR.2⟩ ⟨Nat.zero_le _, Nat.zero_le _⟩ dX10_take_37) (fun u8 H locs hp hw => ?_)
        obtain ⟨I7, rfl, h⟩ := hp
        refine lv_iconst (v := 1) hx hb dX10_take_40 (by decide) ?_
        exact hm_zret X hr hlk hw zb_1 ⟨_, _, rfl, h⟩ dX10_take_41
      · have h := h.1 he
        refine lv_iconst (v := 0) hx hb dX10_take_18 (by decide) ?_
        exact hm_zret X hr hlk hw zb_0 ⟨_, _, rfl, h⟩ dX10_take_19

end
