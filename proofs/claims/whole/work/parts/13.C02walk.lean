theorem dX4_takeBest_0 : decode cX4_takeBest 0 = .ok (.iconst 0, 1) := by decide +kernel
theorem dX4_takeBest_1 : decode cX4_takeBest 1 = .ok (.istore_n 2, 1) := by decide +kernel
theorem dX4_takeBest_2 : decode cX4_takeBest 2 = .ok (.iconst (-1), 1) := by decide +kernel
theorem dX4_takeBest_3 : decode cX4_takeBest 3 = .ok (.istore_n 3, 1) := by decide +kernel
theorem dX4_takeBest_4 : decode cX4_takeBest 4 = .ok (.iconst 0, 1) := by decide +kernel
theorem dX4_takeBest_5 : decode cX4_takeBest 5 = .ok (.istore 4, 2) := by decide +kernel
theorem dX4_takeBest_7 : decode cX4_takeBest 7 = .ok (.iconst 0, 1) := by decide +kernel
theorem dX4_takeBest_8 : decode cX4_takeBest 8 = .ok (.istore 5, 2) := by decide +kernel
theorem dX4_takeBest_10 : decode cX4_takeBest 10 = .ok (.iconst 0, 1) := by decide +kernel
theorem dX4_takeBest_11 : decode cX4_takeBest 11 = .ok (.istore 6, 2) := by decide +kernel
theorem dX4_takeBest_13 : decode cX4_takeBest 13 = .ok (.iload 6, 2) := by decide +kernel
theorem dX4_takeBest_15 : decode cX4_takeBest 15 = .ok (.aload_n 1, 1) := by decide +kernel
theorem dX4_takeBest_16 : decode cX4_takeBest 16 = .ok (.getfield 41, 3) := by decide +kernel
theorem dX4_takeBest_19 : decode cX4_takeBest 19 = .ok (.if_icmp .ge 88, 3) := by decide +kernel
theorem dX4_takeBest_22 : decode cX4_takeBest 22 = .ok (.aload_n 1, 1) := by decide +kernel
theorem dX4_takeBest_23 : decode cX4_takeBest 23 = .ok (.iload 6, 2) := by decide +kernel
theorem dX4_takeBest_25 : decode cX4_takeBest 25 = .ok (.invokevirtual 62, 3) := by decide +kernel
theorem dX4_takeBest_28 : decode cX4_takeBest 28 = .ok (.ifCond .eq 15, 3) := by decide +kernel
theorem dX4_takeBest_31 : decode cX4_takeBest 31 = .ok (.aload_n 1, 1) := by decide +kernel
theorem dX4_takeBest_32 : decode cX4_takeBest 32 = .ok (.getfield 81, 3) := by decide +kernel
theorem dX4_takeBest_35 : decode cX4_takeBest 35 = .ok (.iload 6, 2) := by decide +kernel
theorem dX4_takeBest_37 : decode cX4_takeBest 37 = .ok (.iaload, 1) := by decide +kernel
theorem dX4_takeBest_38 : decode cX4_takeBest 38 = .ok (.iconst 5, 1) := by decide +kernel
theorem dX4_takeBest_39 : decode cX4_takeBest 39 = .ok (.imul, 1) := by decide +kernel
theorem dX4_takeBest_40 : decode cX4_takeBest 40 = .ok (.goto 4, 3) := by decide +kernel
theorem dX4_takeBest_43 : decode cX4_takeBest 43 = .ok (.iconst 0, 1) := by decide +kernel
theorem dX4_takeBest_44 : decode cX4_takeBest 44 = .ok (.istore 7, 2) := by decide +kernel
theorem dX4_takeBest_46 : decode cX4_takeBest 46 = .ok (.iconst 0, 1) := by decide +kernel
theorem dX4_takeBest_47 : decode cX4_takeBest 47 = .ok (.istore 8, 2) := by decide +kernel
theorem dX4_takeBest_49 : decode cX4_takeBest 49 = .ok (.iload 8, 2) := by decide +kernel
theorem dX4_takeBest_51 : decode cX4_takeBest 51 = .ok (.iload 7, 2) := by decide +kernel
theorem dX4_takeBest_53 : decode cX4_takeBest 53 = .ok (.if_icmp .ge 41, 3) := by decide +kernel
theorem dX4_takeBest_56 : decode cX4_takeBest 56 = .ok (.aload_n 0, 1) := by decide +kernel
theorem dX4_takeBest_57 : decode cX4_takeBest 57 = .ok (.getfield 11, 3) := by decide +kernel
theorem dX4_takeBest_60 : decode cX4_takeBest 60 = .ok (.iload 5, 2) := by decide +kernel
theorem dX4_takeBest_62 : decode cX4_takeBest 62 = .ok (.iload 8, 2) := by decide +kernel
theorem dX4_takeBest_64 : decode cX4_takeBest 64 = .ok (.iadd, 1) := by decide +kernel
theorem dX4_takeBest_65 : decode cX4_takeBest 65 = .ok (.iaload, 1) := by decide +kernel
theorem dX4_takeBest_66 : decode cX4_takeBest 66 = .ok (.iload_n 2, 1) := by decide +kernel
theorem dX4_takeBest_67 : decode cX4_takeBest 67 = .ok (.if_icmp .le 21, 3) := by decide +kernel
theorem dX4_takeBest_70 : decode cX4_takeBest 70 = .ok (.aload_n 0, 1) := by decide +kernel
theorem dX4_takeBest_71 : decode cX4_takeBest 71 = .ok (.getfield 11, 3) := by decide +kernel
theorem dX4_takeBest_74 : decode cX4_takeBest 74 = .ok (.iload 5, 2) := by decide +kernel
theorem dX4_takeBest_76 : decode cX4_takeBest 76 = .ok (.iload 8, 2) := by decide +kernel
theorem dX4_takeBest_78 : decode cX4_takeBest 78 = .ok (.iadd, 1) := by decide +kernel
theorem dX4_takeBest_79 : decode cX4_takeBest 79 = .ok (.iaload, 1) := by decide +kernel
theorem dX4_takeBest_80 : decode cX4_takeBest 80 = .ok (.istore_n 2, 1) := by decide +kernel
theorem dX4_takeBest_81 : decode cX4_takeBest 81 = .ok (.iload 6, 2) := by decide +kernel
theorem dX4_takeBest_83 : decode cX4_takeBest 83 = .ok (.istore_n 3, 1) := by decide +kernel
theorem dX4_takeBest_84 : decode cX4_takeBest 84 = .ok (.iload 8, 2) := by decide +kernel
theorem dX4_takeBest_86 : decode cX4_takeBest 86 = .ok (.istore 4, 2) := by decide +kernel
theorem dX4_takeBest_88 : decode cX4_takeBest 88 = .ok (.iinc 8 1, 3) := by decide +kernel
theorem dX4_takeBest_91 : decode cX4_takeBest 91 = .ok (.goto (-42), 3) := by decide +kernel
theorem dX4_takeBest_94 : decode cX4_takeBest 94 = .ok (.iload 5, 2) := by decide +kernel
theorem dX4_takeBest_96 : decode cX4_takeBest 96 = .ok (.iload 7, 2) := by decide +kernel
theorem dX4_takeBest_98 : decode cX4_takeBest 98 = .ok (.iadd, 1) := by decide +kernel
theorem dX4_takeBest_99 : decode cX4_takeBest 99 = .ok (.istore 5, 2) := by decide +kernel
theorem dX4_takeBest_101 : decode cX4_takeBest 101 = .ok (.iinc 6 1, 3) := by decide +kernel
theorem dX4_takeBest_104 : decode cX4_takeBest 104 = .ok (.goto (-91), 3) := by decide +kernel
theorem dX4_takeBest_107 : decode cX4_takeBest 107 = .ok (.iload_n 3, 1) := by decide +kernel
theorem dX4_takeBest_108 : decode cX4_takeBest 108 = .ok (.iconst (-1), 1) := by decide +kernel
theorem dX4_takeBest_109 : decode cX4_takeBest 109 = .ok (.if_icmp .ne 5, 3) := by decide +kernel
theorem dX4_takeBest_112 : decode cX4_takeBest 112 = .ok (.iconst 0, 1) := by decide +kernel
theorem dX4_takeBest_113 : decode cX4_takeBest 113 = .ok (.ireturn, 1) := by decide +kernel
theorem dX4_takeBest_114 : decode cX4_takeBest 114 = .ok (.aload_n 1, 1) := by decide +kernel
theorem dX4_takeBest_115 : decode cX4_takeBest 115 = .ok (.iload_n 3, 1) := by decide +kernel
theorem dX4_takeBest_116 : decode cX4_takeBest 116 = .ok (.iload 4, 2) := by decide +kernel
theorem dX4_takeBest_118 : decode cX4_takeBest 118 = .ok (.iconst 5, 1) := by decide +kernel
theorem dX4_takeBest_119 : decode cX4_takeBest 119 = .ok (.idiv, 1) := by decide +kernel
theorem dX4_takeBest_120 : decode cX4_takeBest 120 = .ok (.iload 4, 2) := by decide +kernel
theorem dX4_takeBest_122 : decode cX4_takeBest 122 = .ok (.iconst 5, 1) := by decide +kernel
theorem dX4_takeBest_123 : decode cX4_takeBest 123 = .ok (.irem, 1) := by decide +kernel
theorem dX4_takeBest_124 : decode cX4_takeBest 124 = .ok (.invokevirtual 94, 3) := by decide +kernel
theorem dX4_takeBest_127 : decode cX4_takeBest 127 = .ok (.iconst 1, 1) := by decide +kernel
theorem dX4_takeBest_128 : decode cX4_takeBest 128 = .ok (.ireturn, 1) := by decide +kernel
theorem dX4_mendOne_0 : decode cX4_mendOne 0 = .ok (.aload_n 0, 1) := by decide +kernel
theorem dX4_mendOne_1 : decode cX4_mendOne 1 = .ok (.getfield 11, 3) := by decide +kernel
theorem dX4_mendOne_4 : decode cX4_mendOne 4 = .ok (.iconst 0, 1) := by decide +kernel
theorem dX4_mendOne_5 : decode cX4_mendOne 5 = .ok (.invokestatic 25, 3) := by decide +kernel
theorem dX4_mendOne_8 : decode cX4_mendOne 8 = .ok (.iconst 0, 1) := by decide +kernel
theorem dX4_mendOne_9 : decode cX4_mendOne 9 = .ok (.istore_n 3, 1) := by decide +kernel
theorem dX4_mendOne_10 : decode cX4_mendOne 10 = .ok (.iload_n 3, 1) := by decide +kernel
theorem dX4_mendOne_11 : decode cX4_mendOne 11 = .ok (.aload_n 1, 1) := by decide +kernel
theorem dX4_mendOne_12 : decode cX4_mendOne 12 = .ok (.getfield 31, 3) := by decide +kernel
theorem dX4_mendOne_15 : decode cX4_mendOne 15 = .ok (.if_icmp .ge 41, 3) := by decide +kernel
theorem dX4_mendOne_18 : decode cX4_mendOne 18 = .ok (.aload_n 0, 1) := by decide +kernel
theorem dX4_mendOne_19 : decode cX4_mendOne 19 = .ok (.getfield 18, 3) := by decide +kernel
theorem dX4_mendOne_22 : decode cX4_mendOne 22 = .ok (.aload_n 1, 1) := by decide +kernel
theorem dX4_mendOne_23 : decode cX4_mendOne 23 = .ok (.iload_n 3, 1) := by decide +kernel
theorem dX4_mendOne_24 : decode cX4_mendOne 24 = .ok (.invokevirtual 37, 3) := by decide +kernel
theorem dX4_mendOne_27 : decode cX4_mendOne 27 = .ok (.aload_n 2, 1) := by decide +kernel
theorem dX4_mendOne_28 : decode cX4_mendOne 28 = .ok (.aload_n 0, 1) := by decide +kernel
theorem dX4_mendOne_29 : decode cX4_mendOne 29 = .ok (.getfield 18, 3) := by decide +kernel
theorem dX4_mendOne_32 : decode cX4_mendOne 32 = .ok (.aload_n 1, 1) := by decide +kernel
theorem dX4_mendOne_33 : decode cX4_mendOne 33 = .ok (.getfield 41, 3) := by decide +kernel
theorem dX4_mendOne_36 : decode cX4_mendOne 36 = .ok (.invokevirtual 44, 3) := by decide +kernel
theorem dX4_mendOne_39 : decode cX4_mendOne 39 = .ok (.lconst 0, 1) := by decide +kernel
theorem dX4_mendOne_40 : decode cX4_mendOne 40 = .ok (.lcmp, 1) := by decide +kernel
theorem dX4_mendOne_41 : decode cX4_mendOne 41 = .ok (.ifCond .le 9, 3) := by decide +kernel
theorem dX4_mendOne_44 : decode cX4_mendOne 44 = .ok (.aload_n 0, 1) := by decide +kernel
theorem dX4_mendOne_45 : decode cX4_mendOne 45 = .ok (.aload_n 1, 1) := by decide +kernel
theorem dX4_mendOne_46 : decode cX4_mendOne 46 = .ok (.aload_n 2, 1) := by decide +kernel
theorem dX4_mendOne_47 : decode cX4_mendOne 47 = .ok (.invokevirtual 50, 3) := by decide +kernel
theorem dX4_mendOne_50 : decode cX4_mendOne 50 = .ok (.iinc 3 1, 3) := by decide +kernel
theorem dX4_mendOne_53 : decode cX4_mendOne 53 = .ok (.goto (-43), 3) := by decide +kernel
theorem dX4_mendOne_56 : decode cX4_mendOne 56 = .ok (.aload_n 0, 1) := by decide +kernel
theorem dX4_mendOne_57 : decode cX4_mendOne 57 = .ok (.aload_n 1, 1) := by decide +kernel
theorem dX4_mendOne_58 : decode cX4_mendOne 58 = .ok (.invokevirtual 54, 3) := by decide +kernel
theorem dX4_mendOne_61 : decode cX4_mendOne 61 = .ok (.ireturn, 1) := by decide +kernel
theorem dX5_fits_0 : decode cX5_fits 0 = .ok (.iload_n 0, 1) := by decide +kernel
theorem dX5_fits_1 : decode cX5_fits 1 = .ok (.iconst 1, 1) := by decide +kernel
theorem dX5_fits_2 : decode cX5_fits 2 = .ok (.if_icmp .lt 19, 3) := by decide +kernel
theorem dX5_fits_5 : decode cX5_fits 5 = .ok (.iload_n 0, 1) := by decide +kernel
theorem dX5_fits_6 : decode cX5_fits 6 = .ok (.bipush 8, 2) := by decide +kernel
theorem dX5_fits_8 : decode cX5_fits 8 = .ok (.if_icmp .gt 13, 3) := by decide +kernel
theorem dX5_fits_11 : decode cX5_fits 11 = .ok (.iload_n 1, 1) := by decide +kernel
theorem dX5_fits_12 : decode cX5_fits 12 = .ok (.iconst 2, 1) := by decide +kernel
theorem dX5_fits_13 : decode cX5_fits 13 = .ok (.if_icmp .lt 8, 3) := by decide +kernel
theorem dX5_fits_16 : decode cX5_fits 16 = .ok (.iload_n 1, 1) := by decide +kernel
theorem dX5_fits_17 : decode cX5_fits 17 = .ok (.iconst 4, 1) := by decide +kernel
theorem dX5_fits_18 : decode cX5_fits 18 = .ok (.if_icmp .le 5, 3) := by decide +kernel
theorem dX5_fits_21 : decode cX5_fits 21 = .ok (.iconst 0, 1) := by decide +kernel
theorem dX5_fits_22 : decode cX5_fits 22 = .ok (.ireturn, 1) := by decide +kernel
theorem dX5_fits_23 : decode cX5_fits 23 = .ok (.iconst 1, 1) := by decide +kernel
theorem dX5_fits_24 : decode cX5_fits 24 = .ok (.istore_n 2, 1) := by decide +kernel
theorem dX5_fits_25 : decode cX5_fits 25 = .ok (.iconst 0, 1) := by decide +kernel
theorem dX5_fits_26 : decode cX5_fits 26 = .ok (.istore_n 3, 1) := by decide +kernel
theorem dX5_fits_27 : decode cX5_fits 27 = .ok (.iload_n 3, 1) := by decide +kernel
theorem dX5_fits_28 : decode cX5_fits 28 = .ok (.iload_n 0, 1) := by decide +kernel
theorem dX5_fits_29 : decode cX5_fits 29 = .ok (.if_icmp .ge 13, 3) := by decide +kernel
theorem dX5_fits_32 : decode cX5_fits 32 = .ok (.iload_n 2, 1) := by decide +kernel
theorem dX5_fits_33 : decode cX5_fits 33 = .ok (.iload_n 1, 1) := by decide +kernel
theorem dX5_fits_34 : decode cX5_fits 34 = .ok (.imul, 1) := by decide +kernel
theorem dX5_fits_35 : decode cX5_fits 35 = .ok (.istore_n 2, 1) := by decide +kernel
theorem dX5_fits_36 : decode cX5_fits 36 = .ok (.iinc 3 1, 3) := by decide +kernel
theorem dX5_fits_39 : decode cX5_fits 39 = .ok (.goto (-12), 3) := by decide +kernel
theorem dX5_fits_42 : decode cX5_fits 42 = .ok (.iload_n 2, 1) := by decide +kernel
theorem dX5_fits_43 : decode cX5_fits 43 = .ok (.sipush 6561, 3) := by decide +kernel
theorem dX5_fits_46 : decode cX5_fits 46 = .ok (.if_icmp .gt 7, 3) := by decide +kernel
theorem dX5_fits_49 : decode cX5_fits 49 = .ok (.iconst 1, 1) := by decide +kernel
theorem dX5_fits_50 : decode cX5_fits 50 = .ok (.goto 4, 3) := by decide +kernel
theorem dX5_fits_53 : decode cX5_fits 53 = .ok (.iconst 0, 1) := by decide +kernel
theorem dX5_fits_54 : decode cX5_fits 54 = .ok (.ireturn, 1) := by decide +kernel
theorem dX5_open_0 : decode cX5_open 0 = .ok (.aload_n 0, 1) := by decide +kernel
theorem dX5_open_1 : decode cX5_open 1 = .ok (.iload_n 1, 1) := by decide +kernel
theorem dX5_open_2 : decode cX5_open 2 = .ok (.putfield 44, 3) := by decide +kernel
theorem dX5_open_5 : decode cX5_open 5 = .ok (.aload_n 0, 1) := by decide +kernel
theorem dX5_open_6 : decode cX5_open 6 = .ok (.iload_n 2, 1) := by decide +kernel
theorem dX5_open_7 : decode cX5_open 7 = .ok (.putfield 48, 3) := by decide +kernel
theorem dX5_open_10 : decode cX5_open 10 = .ok (.aload_n 0, 1) := by decide +kernel
theorem dX5_open_11 : decode cX5_open 11 = .ok (.iconst 1, 1) := by decide +kernel
theorem dX5_open_12 : decode cX5_open 12 = .ok (.putfield 51, 3) := by decide +kernel
theorem dX5_open_15 : decode cX5_open 15 = .ok (.iconst 0, 1) := by decide +kernel
theorem dX5_open_16 : decode cX5_open 16 = .ok (.istore_n 3, 1) := by decide +kernel
theorem dX5_open_17 : decode cX5_open 17 = .ok (.iload_n 3, 1) := by decide +kernel
theorem dX5_open_18 : decode cX5_open 18 = .ok (.aload_n 0, 1) := by decide +kernel
theorem dX5_open_19 : decode cX5_open 19 = .ok (.getfield 44, 3) := by decide +kernel
theorem dX5_open_22 : decode cX5_open 22 = .ok (.if_icmp .ge 22, 3) := by decide +kernel
theorem dX5_open_25 : decode cX5_open 25 = .ok (.aload_n 0, 1) := by decide +kernel
theorem dX5_open_26 : decode cX5_open 26 = .ok (.dup, 1) := by decide +kernel
theorem dX5_open_27 : decode cX5_open 27 = .ok (.getfield 51, 3) := by decide +kernel
theorem dX5_open_30 : decode cX5_open 30 = .ok (.aload_n 0, 1) := by decide +kernel
theorem dX5_open_31 : decode cX5_open 31 = .ok (.getfield 48, 3) := by decide +kernel
theorem dX5_open_34 : decode cX5_open 34 = .ok (.imul, 1) := by decide +kernel
theorem dX5_open_35 : decode cX5_open 35 = .ok (.putfield 51, 3) := by decide +kernel
theorem dX5_open_38 : decode cX5_open 38 = .ok (.iinc 3 1, 3) := by decide +kernel
theorem dX5_open_41 : decode cX5_open 41 = .ok (.goto (-24), 3) := by decide +kernel
theorem dX5_open_44 : decode cX5_open 44 = .ok (.aload_n 0, 1) := by decide +kernel
theorem dX5_open_45 : decode cX5_open 45 = .ok (.invokevirtual 54, 3) := by decide +kernel
theorem dX5_open_48 : decode cX5_open 48 = .ok (.return_, 1) := by decide +kernel
theorem dX5_copy_0 : decode cX5_copy 0 = .ok (.aload_n 0, 1) := by decide +kernel
theorem dX5_copy_1 : decode cX5_copy 1 = .ok (.aload_n 1, 1) := by decide +kernel
theorem dX5_copy_2 : decode cX5_copy 2 = .ok (.getfield 44, 3) := by decide +kernel
theorem dX5_copy_5 : decode cX5_copy 5 = .ok (.putfield 44, 3) := by decide +kernel
theorem dX5_copy_8 : decode cX5_copy 8 = .ok (.aload_n 0, 1) := by decide +kernel
theorem dX5_copy_9 : decode cX5_copy 9 = .ok (.aload_n 1, 1) := by decide +kernel
theorem dX5_copy_10 : decode cX5_copy 10 = .ok (.getfield 48, 3) := by decide +kernel
theorem dX5_copy_13 : decode cX5_copy 13 = .ok (.putfield 48, 3) := by decide +kernel
theorem dX5_copy_16 : decode cX5_copy 16 = .ok (.aload_n 0, 1) := by decide +kernel
theorem dX5_copy_17 : decode cX5_copy 17 = .ok (.aload_n 1, 1) := by decide +kernel
theorem dX5_copy_18 : decode cX5_copy 18 = .ok (.getfield 51, 3) := by decide +kernel
theorem dX5_copy_21 : decode cX5_copy 21 = .ok (.putfield 51, 3) := by decide +kernel
theorem dX5_copy_24 : decode cX5_copy 24 = .ok (.aload_n 1, 1) := by decide +kernel
theorem dX5_copy_25 : decode cX5_copy 25 = .ok (.getfield 9, 3) := by decide +kernel
theorem dX5_copy_28 : decode cX5_copy 28 = .ok (.iconst 0, 1) := by decide +kernel
theorem dX5_copy_29 : decode cX5_copy 29 = .ok (.aload_n 0, 1) := by decide +kernel
theorem dX5_copy_30 : decode cX5_copy 30 = .ok (.getfield 9, 3) := by decide +kernel
theorem dX5_copy_33 : decode cX5_copy 33 = .ok (.iconst 0, 1) := by decide +kernel
theorem dX5_copy_34 : decode cX5_copy 34 = .ok (.bipush 8, 2) := by decide +kernel
theorem dX5_copy_36 : decode cX5_copy 36 = .ok (.invokestatic 65, 3) := by decide +kernel
theorem dX5_copy_39 : decode cX5_copy 39 = .ok (.aload_n 1, 1) := by decide +kernel
theorem dX5_copy_40 : decode cX5_copy 40 = .ok (.getfield 15, 3) := by decide +kernel
theorem dX5_copy_43 : decode cX5_copy 43 = .ok (.iconst 0, 1) := by decide +kernel
theorem dX5_copy_44 : decode cX5_copy 44 = .ok (.aload_n 0, 1) := by decide +kernel
theorem dX5_copy_45 : decode cX5_copy 45 = .ok (.getfield 15, 3) := by decide +kernel
theorem dX5_copy_48 : decode cX5_copy 48 = .ok (.iconst 0, 1) := by decide +kernel
theorem dX5_copy_49 : decode cX5_copy 49 = .ok (.bipush 8, 2) := by decide +kernel
theorem dX5_copy_51 : decode cX5_copy 51 = .ok (.invokestatic 65, 3) := by decide +kernel
theorem dX5_copy_54 : decode cX5_copy 54 = .ok (.aload_n 1, 1) := by decide +kernel
theorem dX5_copy_55 : decode cX5_copy 55 = .ok (.getfield 18, 3) := by decide +kernel
theorem dX5_copy_58 : decode cX5_copy 58 = .ok (.iconst 0, 1) := by decide +kernel
theorem dX5_copy_59 : decode cX5_copy 59 = .ok (.aload_n 0, 1) := by decide +kernel
theorem dX5_copy_60 : decode cX5_copy 60 = .ok (.getfield 18, 3) := by decide +kernel
theorem dX5_copy_63 : decode cX5_copy 63 = .ok (.iconst 0, 1) := by decide +kernel
theorem dX5_copy_64 : decode cX5_copy 64 = .ok (.bipush 8, 2) := by decide +kernel
theorem dX5_copy_66 : decode cX5_copy 66 = .ok (.invokestatic 65, 3) := by decide +kernel
theorem dX5_copy_69 : decode cX5_copy 69 = .ok (.aload_n 1, 1) := by decide +kernel
theorem dX5_copy_70 : decode cX5_copy 70 = .ok (.getfield 21, 3) := by decide +kernel
theorem dX5_copy_73 : decode cX5_copy 73 = .ok (.iconst 0, 1) := by decide +kernel
theorem dX5_copy_74 : decode cX5_copy 74 = .ok (.aload_n 0, 1) := by decide +kernel
theorem dX5_copy_75 : decode cX5_copy 75 = .ok (.getfield 21, 3) := by decide +kernel
theorem dX5_copy_78 : decode cX5_copy 78 = .ok (.iconst 0, 1) := by decide +kernel
theorem dX5_copy_79 : decode cX5_copy 79 = .ok (.bipush 8, 2) := by decide +kernel
theorem dX5_copy_81 : decode cX5_copy 81 = .ok (.invokestatic 65, 3) := by decide +kernel
theorem dX5_copy_84 : decode cX5_copy 84 = .ok (.aload_n 1, 1) := by decide +kernel
theorem dX5_copy_85 : decode cX5_copy 85 = .ok (.getfield 24, 3) := by decide +kernel
theorem dX5_copy_88 : decode cX5_copy 88 = .ok (.iconst 0, 1) := by decide +kernel
theorem dX5_copy_89 : decode cX5_copy 89 = .ok (.aload_n 0, 1) := by decide +kernel
theorem dX5_copy_90 : decode cX5_copy 90 = .ok (.getfield 24, 3) := by decide +kernel
theorem dX5_copy_93 : decode cX5_copy 93 = .ok (.iconst 0, 1) := by decide +kernel
theorem dX5_copy_94 : decode cX5_copy 94 = .ok (.bipush 8, 2) := by decide +kernel
theorem dX5_copy_96 : decode cX5_copy 96 = .ok (.invokestatic 65, 3) := by decide +kernel
theorem dX5_copy_99 : decode cX5_copy 99 = .ok (.aload_n 1, 1) := by decide +kernel
theorem dX5_copy_100 : decode cX5_copy 100 = .ok (.getfield 33, 3) := by decide +kernel
theorem dX5_copy_103 : decode cX5_copy 103 = .ok (.iconst 0, 1) := by decide +kernel
theorem dX5_copy_104 : decode cX5_copy 104 = .ok (.aload_n 0, 1) := by decide +kernel
theorem dX5_copy_105 : decode cX5_copy 105 = .ok (.getfield 33, 3) := by decide +kernel
theorem dX5_copy_108 : decode cX5_copy 108 = .ok (.iconst 0, 1) := by decide +kernel
theorem dX5_copy_109 : decode cX5_copy 109 = .ok (.aload_n 0, 1) := by decide +kernel
theorem dX5_copy_110 : decode cX5_copy 110 = .ok (.getfield 44, 3) := by decide +kernel
theorem dX5_copy_113 : decode cX5_copy 113 = .ok (.sipush 1024, 3) := by decide +kernel
theorem dX5_copy_116 : decode cX5_copy 116 = .ok (.imul, 1) := by decide +kernel
theorem dX5_copy_117 : decode cX5_copy 117 = .ok (.invokestatic 65, 3) := by decide +kernel
theorem dX5_copy_120 : decode cX5_copy 120 = .ok (.iconst 0, 1) := by decide +kernel
theorem dX5_copy_121 : decode cX5_copy 121 = .ok (.istore_n 2, 1) := by decide +kernel
theorem dX5_copy_122 : decode cX5_copy 122 = .ok (.iload_n 2, 1) := by decide +kernel
theorem dX5_copy_123 : decode cX5_copy 123 = .ok (.bipush 8, 2) := by decide +kernel
theorem dX5_copy_125 : decode cX5_copy 125 = .ok (.if_icmp .ge 21, 3) := by decide +kernel
theorem dX5_copy_128 : decode cX5_copy 128 = .ok (.aload_n 0, 1) := by decide +kernel
theorem dX5_copy_129 : decode cX5_copy 129 = .ok (.getfield 29, 3) := by decide +kernel
theorem dX5_copy_132 : decode cX5_copy 132 = .ok (.iload_n 2, 1) := by decide +kernel
theorem dX5_copy_133 : decode cX5_copy 133 = .ok (.aload_n 1, 1) := by decide +kernel
theorem dX5_copy_134 : decode cX5_copy 134 = .ok (.getfield 29, 3) := by decide +kernel
theorem dX5_copy_137 : decode cX5_copy 137 = .ok (.iload_n 2, 1) := by decide +kernel
theorem dX5_copy_138 : decode cX5_copy 138 = .ok (.aaload, 1) := by decide +kernel
theorem dX5_copy_139 : decode cX5_copy 139 = .ok (.aastore, 1) := by decide +kernel
theorem dX5_copy_140 : decode cX5_copy 140 = .ok (.iinc 2 1, 3) := by decide +kernel
theorem dX5_copy_143 : decode cX5_copy 143 = .ok (.goto (-21), 3) := by decide +kernel
theorem dX5_copy_146 : decode cX5_copy 146 = .ok (.return_, 1) := by decide +kernel
theorem dX5_lookAt_0 : decode cX5_lookAt 0 = .ok (.aload_n 0, 1) := by decide +kernel
theorem dX5_lookAt_1 : decode cX5_lookAt 1 = .ok (.getfield 9, 3) := by decide +kernel
theorem dX5_lookAt_4 : decode cX5_lookAt 4 = .ok (.iload_n 1, 1) := by decide +kernel
theorem dX5_lookAt_5 : decode cX5_lookAt 5 = .ok (.iaload, 1) := by decide +kernel
theorem dX5_lookAt_6 : decode cX5_lookAt 6 = .ok (.iload_n 2, 1) := by decide +kernel
theorem dX5_lookAt_7 : decode cX5_lookAt 7 = .ok (.if_icmp .eq 15, 3) := by decide +kernel
theorem dX5_lookAt_10 : decode cX5_lookAt 10 = .ok (.aload_n 0, 1) := by decide +kernel
theorem dX5_lookAt_11 : decode cX5_lookAt 11 = .ok (.getfield 9, 3) := by decide +kernel
theorem dX5_lookAt_14 : decode cX5_lookAt 14 = .ok (.iload_n 1, 1) := by decide +kernel
theorem dX5_lookAt_15 : decode cX5_lookAt 15 = .ok (.iload_n 2, 1) := by decide +kernel
theorem dX5_lookAt_16 : decode cX5_lookAt 16 = .ok (.iastore, 1) := by decide +kernel
theorem dX5_lookAt_17 : decode cX5_lookAt 17 = .ok (.aload_n 0, 1) := by decide +kernel
theorem dX5_lookAt_18 : decode cX5_lookAt 18 = .ok (.iload_n 1, 1) := by decide +kernel
theorem dX5_lookAt_19 : decode cX5_lookAt 19 = .ok (.invokevirtual 71, 3) := by decide +kernel
theorem dX5_lookAt_22 : decode cX5_lookAt 22 = .ok (.return_, 1) := by decide +kernel
theorem dX5_orderByRounds_0 : decode cX5_orderByRounds 0 = .ok (.iconst 0, 1) := by decide +kernel
theorem dX5_orderByRounds_1 : decode cX5_orderByRounds 1 = .ok (.istore_n 1, 1) := by decide +kernel
theorem dX5_orderByRounds_2 : decode cX5_orderByRounds 2 = .ok (.iconst 0, 1) := by decide +kernel
theorem dX5_orderByRounds_3 : decode cX5_orderByRounds 3 = .ok (.istore_n 2, 1) := by decide +kernel
theorem dX5_orderByRounds_4 : decode cX5_orderByRounds 4 = .ok (.iload_n 2, 1) := by decide +kernel
theorem dX5_orderByRounds_5 : decode cX5_orderByRounds 5 = .ok (.bipush 7, 2) := by decide +kernel
theorem dX5_orderByRounds_7 : decode cX5_orderByRounds 7 = .ok (.if_icmp .gt 45, 3) := by decide +kernel
theorem dX5_orderByRounds_10 : decode cX5_orderByRounds 10 = .ok (.iconst 0, 1) := by decide +kernel
theorem dX5_orderByRounds_11 : decode cX5_orderByRounds 11 = .ok (.istore_n 3, 1) := by decide +kernel
theorem dX5_orderByRounds_12 : decode cX5_orderByRounds 12 = .ok (.iload_n 3, 1) := by decide +kernel
theorem dX5_orderByRounds_13 : decode cX5_orderByRounds 13 = .ok (.aload_n 0, 1) := by decide +kernel
theorem dX5_orderByRounds_14 : decode cX5_orderByRounds 14 = .ok (.getfield 44, 3) := by decide +kernel
theorem dX5_orderByRounds_17 : decode cX5_orderByRounds 17 = .ok (.if_icmp .ge 29, 3) := by decide +kernel
theorem dX5_orderByRounds_20 : decode cX5_orderByRounds 20 = .ok (.aload_n 0, 1) := by decide +kernel
theorem dX5_orderByRounds_21 : decode cX5_orderByRounds 21 = .ok (.getfield 15, 3) := by decide +kernel
theorem dX5_orderByRounds_24 : decode cX5_orderByRounds 24 = .ok (.iload_n 3, 1) := by decide +kernel
theorem dX5_orderByRounds_25 : decode cX5_orderByRounds 25 = .ok (.iaload, 1) := by decide +kernel
theorem dX5_orderByRounds_26 : decode cX5_orderByRounds 26 = .ok (.iload_n 2, 1) := by decide +kernel
theorem dX5_orderByRounds_27 : decode cX5_orderByRounds 27 = .ok (.if_icmp .ne 13, 3) := by decide +kernel
theorem dX5_orderByRounds_30 : decode cX5_orderByRounds 30 = .ok (.aload_n 0, 1) := by decide +kernel
theorem dX5_orderByRounds_31 : decode cX5_orderByRounds 31 = .ok (.getfield 24, 3) := by decide +kernel
theorem dX5_orderByRounds_34 : decode cX5_orderByRounds 34 = .ok (.iload_n 1, 1) := by decide +kernel
theorem dX5_orderByRounds_35 : decode cX5_orderByRounds 35 = .ok (.iload_n 3, 1) := by decide +kernel
theorem dX5_orderByRounds_36 : decode cX5_orderByRounds 36 = .ok (.iastore, 1) := by decide +kernel
theorem dX5_orderByRounds_37 : decode cX5_orderByRounds 37 = .ok (.iinc 1 1, 3) := by decide +kernel
theorem dX5_orderByRounds_40 : decode cX5_orderByRounds 40 = .ok (.iinc 3 1, 3) := by decide +kernel
theorem dX5_orderByRounds_43 : decode cX5_orderByRounds 43 = .ok (.goto (-31), 3) := by decide +kernel
theorem dX5_orderByRounds_46 : decode cX5_orderByRounds 46 = .ok (.iinc 2 1, 3) := by decide +kernel
theorem dX5_orderByRounds_49 : decode cX5_orderByRounds 49 = .ok (.goto (-45), 3) := by decide +kernel
theorem dX5_orderByRounds_52 : decode cX5_orderByRounds 52 = .ok (.return_, 1) := by decide +kernel
theorem dX5_earlierThan_0 : decode cX5_earlierThan 0 = .ok (.iconst 0, 1) := by decide +kernel
theorem dX5_earlierThan_1 : decode cX5_earlierThan 1 = .ok (.istore_n 2, 1) := by decide +kernel
theorem dX5_earlierThan_2 : decode cX5_earlierThan 2 = .ok (.iconst 0, 1) := by decide +kernel
theorem dX5_earlierThan_3 : decode cX5_earlierThan 3 = .ok (.istore_n 3, 1) := by decide +kernel
theorem dX5_earlierThan_4 : decode cX5_earlierThan 4 = .ok (.iload_n 3, 1) := by decide +kernel
theorem dX5_earlierThan_5 : decode cX5_earlierThan 5 = .ok (.aload_n 0, 1) := by decide +kernel
theorem dX5_earlierThan_6 : decode cX5_earlierThan 6 = .ok (.getfield 44, 3) := by decide +kernel
theorem dX5_earlierThan_9 : decode cX5_earlierThan 9 = .ok (.if_icmp .ge 25, 3) := by decide +kernel
theorem dX5_earlierThan_12 : decode cX5_earlierThan 12 = .ok (.aload_n 0, 1) := by decide +kernel
theorem dX5_earlierThan_13 : decode cX5_earlierThan 13 = .ok (.getfield 15, 3) := by decide +kernel
theorem dX5_earlierThan_16 : decode cX5_earlierThan 16 = .ok (.iload_n 3, 1) := by decide +kernel
theorem dX5_earlierThan_17 : decode cX5_earlierThan 17 = .ok (.iaload, 1) := by decide +kernel
theorem dX5_earlierThan_18 : decode cX5_earlierThan 18 = .ok (.iload_n 1, 1) := by decide +kernel
theorem dX5_earlierThan_19 : decode cX5_earlierThan 19 = .ok (.if_icmp .ge 9, 3) := by decide +kernel
theorem dX5_earlierThan_22 : decode cX5_earlierThan 22 = .ok (.iload_n 2, 1) := by decide +kernel
theorem dX5_earlierThan_23 : decode cX5_earlierThan 23 = .ok (.iconst 1, 1) := by decide +kernel
theorem dX5_earlierThan_24 : decode cX5_earlierThan 24 = .ok (.iload_n 3, 1) := by decide +kernel
theorem dX5_earlierThan_25 : decode cX5_earlierThan 25 = .ok (.ishl, 1) := by decide +kernel
theorem dX5_earlierThan_26 : decode cX5_earlierThan 26 = .ok (.ior, 1) := by decide +kernel
theorem dX5_earlierThan_27 : decode cX5_earlierThan 27 = .ok (.istore_n 2, 1) := by decide +kernel
theorem dX5_earlierThan_28 : decode cX5_earlierThan 28 = .ok (.iinc 3 1, 3) := by decide +kernel
theorem dX5_earlierThan_31 : decode cX5_earlierThan 31 = .ok (.goto (-27), 3) := by decide +kernel
theorem dX5_earlierThan_34 : decode cX5_earlierThan 34 = .ok (.iload_n 2, 1) := by decide +kernel
theorem dX5_earlierThan_35 : decode cX5_earlierThan 35 = .ok (.ireturn, 1) := by decide +kernel
theorem dX5_guessIn_0 : decode cX5_guessIn 0 = .ok (.aload_n 0, 1) := by decide +kernel
theorem dX5_guessIn_1 : decode cX5_guessIn 1 = .ok (.getfield 15, 3) := by decide +kernel
theorem dX5_guessIn_4 : decode cX5_guessIn 4 = .ok (.iload_n 1, 1) := by decide +kernel
theorem dX5_guessIn_5 : decode cX5_guessIn 5 = .ok (.iload_n 2, 1) := by decide +kernel
theorem dX5_guessIn_6 : decode cX5_guessIn 6 = .ok (.iastore, 1) := by decide +kernel
theorem dX5_guessIn_7 : decode cX5_guessIn 7 = .ok (.aload_n 0, 1) := by decide +kernel
theorem dX5_guessIn_8 : decode cX5_guessIn 8 = .ok (.invokevirtual 74, 3) := by decide +kernel
theorem dX5_guessIn_11 : decode cX5_guessIn 11 = .ok (.iconst 0, 1) := by decide +kernel
theorem dX5_guessIn_12 : decode cX5_guessIn 12 = .ok (.istore_n 3, 1) := by decide +kernel
theorem dX5_guessIn_13 : decode cX5_guessIn 13 = .ok (.iload_n 3, 1) := by decide +kernel
theorem dX5_guessIn_14 : decode cX5_guessIn 14 = .ok (.aload_n 0, 1) := by decide +kernel
theorem dX5_guessIn_15 : decode cX5_guessIn 15 = .ok (.getfield 44, 3) := by decide +kernel
theorem dX5_guessIn_18 : decode cX5_guessIn 18 = .ok (.if_icmp .ge 45, 3) := by decide +kernel
theorem dX5_guessIn_21 : decode cX5_guessIn 21 = .ok (.aload_n 0, 1) := by decide +kernel
theorem dX5_guessIn_22 : decode cX5_guessIn 22 = .ok (.aload_n 0, 1) := by decide +kernel
theorem dX5_guessIn_23 : decode cX5_guessIn 23 = .ok (.getfield 15, 3) := by decide +kernel
theorem dX5_guessIn_26 : decode cX5_guessIn 26 = .ok (.iload_n 3, 1) := by decide +kernel
theorem dX5_guessIn_27 : decode cX5_guessIn 27 = .ok (.iaload, 1) := by decide +kernel
theorem dX5_guessIn_28 : decode cX5_guessIn 28 = .ok (.invokevirtual 77, 3) := by decide +kernel
theorem dX5_guessIn_31 : decode cX5_guessIn 31 = .ok (.istore 4, 2) := by decide +kernel
theorem dX5_guessIn_33 : decode cX5_guessIn 33 = .ok (.aload_n 0, 1) := by decide +kernel
theorem dX5_guessIn_34 : decode cX5_guessIn 34 = .ok (.getfield 18, 3) := by decide +kernel
theorem dX5_guessIn_37 : decode cX5_guessIn 37 = .ok (.iload_n 3, 1) := by decide +kernel
theorem dX5_guessIn_38 : decode cX5_guessIn 38 = .ok (.iaload, 1) := by decide +kernel
theorem dX5_guessIn_39 : decode cX5_guessIn 39 = .ok (.iload 4, 2) := by decide +kernel
theorem dX5_guessIn_41 : decode cX5_guessIn 41 = .ok (.if_icmp .eq 16, 3) := by decide +kernel
theorem dX5_guessIn_44 : decode cX5_guessIn 44 = .ok (.aload_n 0, 1) := by decide +kernel
theorem dX5_guessIn_45 : decode cX5_guessIn 45 = .ok (.getfield 18, 3) := by decide +kernel
theorem dX5_guessIn_48 : decode cX5_guessIn 48 = .ok (.iload_n 3, 1) := by decide +kernel
theorem dX5_guessIn_49 : decode cX5_guessIn 49 = .ok (.iload 4, 2) := by decide +kernel
theorem dX5_guessIn_51 : decode cX5_guessIn 51 = .ok (.iastore, 1) := by decide +kernel
theorem dX5_guessIn_52 : decode cX5_guessIn 52 = .ok (.aload_n 0, 1) := by decide +kernel
theorem dX5_guessIn_53 : decode cX5_guessIn 53 = .ok (.iload_n 3, 1) := by decide +kernel
theorem dX5_guessIn_54 : decode cX5_guessIn 54 = .ok (.invokevirtual 71, 3) := by decide +kernel
theorem dX5_guessIn_57 : decode cX5_guessIn 57 = .ok (.iinc 3 1, 3) := by decide +kernel
theorem dX5_guessIn_60 : decode cX5_guessIn 60 = .ok (.goto (-47), 3) := by decide +kernel
theorem dX5_guessIn_63 : decode cX5_guessIn 63 = .ok (.return_, 1) := by decide +kernel
theorem dX5_kindOfRule_0 : decode cX5_kindOfRule 0 = .ok (.aload_n 0, 1) := by decide +kernel
theorem dX5_kindOfRule_1 : decode cX5_kindOfRule 1 = .ok (.getfield 29, 3) := by decide +kernel
theorem dX5_kindOfRule_4 : decode cX5_kindOfRule 4 = .ok (.iload_n 1, 1) := by decide +kernel
theorem dX5_kindOfRule_5 : decode cX5_kindOfRule 5 = .ok (.aaload, 1) := by decide +kernel
theorem dX5_kindOfRule_6 : decode cX5_kindOfRule 6 = .ok (.ifnull 5, 3) := by decide +kernel
theorem dX5_kindOfRule_9 : decode cX5_kindOfRule 9 = .ok (.iconst 1, 1) := by decide +kernel
theorem dX5_kindOfRule_10 : decode cX5_kindOfRule 10 = .ok (.ireturn, 1) := by decide +kernel
theorem dX5_kindOfRule_11 : decode cX5_kindOfRule 11 = .ok (.aload_n 0, 1) := by decide +kernel
theorem dX5_kindOfRule_12 : decode cX5_kindOfRule 12 = .ok (.getfield 21, 3) := by decide +kernel
theorem dX5_kindOfRule_15 : decode cX5_kindOfRule 15 = .ok (.iload_n 1, 1) := by decide +kernel
theorem dX5_kindOfRule_16 : decode cX5_kindOfRule 16 = .ok (.iaload, 1) := by decide +kernel
theorem dX5_kindOfRule_17 : decode cX5_kindOfRule 17 = .ok (.iconst (-1), 1) := by decide +kernel
theorem dX5_kindOfRule_18 : decode cX5_kindOfRule 18 = .ok (.if_icmp .ne 7, 3) := by decide +kernel
theorem dX5_kindOfRule_21 : decode cX5_kindOfRule 21 = .ok (.iconst 2, 1) := by decide +kernel
theorem dX5_kindOfRule_22 : decode cX5_kindOfRule 22 = .ok (.goto 4, 3) := by decide +kernel
theorem dX5_kindOfRule_25 : decode cX5_kindOfRule 25 = .ok (.iconst 0, 1) := by decide +kernel
theorem dX5_kindOfRule_26 : decode cX5_kindOfRule 26 = .ok (.ireturn, 1) := by decide +kernel
theorem dX5_follow_0 : decode cX5_follow 0 = .ok (.iconst 0, 1) := by decide +kernel
theorem dX5_follow_1 : decode cX5_follow 1 = .ok (.istore_n 2, 1) := by decide +kernel
theorem dX5_follow_2 : decode cX5_follow 2 = .ok (.iload_n 2, 1) := by decide +kernel
theorem dX5_follow_3 : decode cX5_follow 3 = .ok (.aload_n 0, 1) := by decide +kernel
theorem dX5_follow_4 : decode cX5_follow 4 = .ok (.getfield 44, 3) := by decide +kernel
theorem dX5_follow_7 : decode cX5_follow 7 = .ok (.if_icmp .ge 24, 3) := by decide +kernel
theorem dX5_follow_10 : decode cX5_follow 10 = .ok (.aload_n 1, 1) := by decide +kernel
theorem dX5_follow_11 : decode cX5_follow 11 = .ok (.iload_n 2, 1) := by decide +kernel
theorem dX5_follow_12 : decode cX5_follow 12 = .ok (.aaload, 1) := by decide +kernel
theorem dX5_follow_13 : decode cX5_follow 13 = .ok (.ifnull 12, 3) := by decide +kernel
theorem dX5_follow_16 : decode cX5_follow 16 = .ok (.aload_n 0, 1) := by decide +kernel
theorem dX5_follow_17 : decode cX5_follow 17 = .ok (.getfield 29, 3) := by decide +kernel
theorem dX5_follow_20 : decode cX5_follow 20 = .ok (.iload_n 2, 1) := by decide +kernel
theorem dX5_follow_21 : decode cX5_follow 21 = .ok (.aload_n 1, 1) := by decide +kernel
theorem dX5_follow_22 : decode cX5_follow 22 = .ok (.iload_n 2, 1) := by decide +kernel
theorem dX5_follow_23 : decode cX5_follow 23 = .ok (.aaload, 1) := by decide +kernel
theorem dX5_follow_24 : decode cX5_follow 24 = .ok (.aastore, 1) := by decide +kernel
theorem dX5_follow_25 : decode cX5_follow 25 = .ok (.iinc 2 1, 3) := by decide +kernel
theorem dX5_follow_28 : decode cX5_follow 28 = .ok (.goto (-26), 3) := by decide +kernel
theorem dX5_follow_31 : decode cX5_follow 31 = .ok (.return_, 1) := by decide +kernel
theorem dX5_countTexts_0 : decode cX5_countTexts 0 = .ok (.iconst 0, 1) := by decide +kernel
theorem dX5_countTexts_1 : decode cX5_countTexts 1 = .ok (.istore_n 1, 1) := by decide +kernel
theorem dX5_countTexts_2 : decode cX5_countTexts 2 = .ok (.iconst 0, 1) := by decide +kernel
theorem dX5_countTexts_3 : decode cX5_countTexts 3 = .ok (.istore_n 2, 1) := by decide +kernel
theorem dX5_countTexts_4 : decode cX5_countTexts 4 = .ok (.iload_n 2, 1) := by decide +kernel
theorem dX5_countTexts_5 : decode cX5_countTexts 5 = .ok (.aload_n 0, 1) := by decide +kernel
theorem dX5_countTexts_6 : decode cX5_countTexts 6 = .ok (.getfield 44, 3) := by decide +kernel
theorem dX5_countTexts_9 : decode cX5_countTexts 9 = .ok (.if_icmp .ge 26, 3) := by decide +kernel
theorem dX5_countTexts_12 : decode cX5_countTexts 12 = .ok (.iload_n 1, 1) := by decide +kernel
theorem dX5_countTexts_13 : decode cX5_countTexts 13 = .ok (.aload_n 0, 1) := by decide +kernel
theorem dX5_countTexts_14 : decode cX5_countTexts 14 = .ok (.getfield 29, 3) := by decide +kernel
theorem dX5_countTexts_17 : decode cX5_countTexts 17 = .ok (.iload_n 2, 1) := by decide +kernel
theorem dX5_countTexts_18 : decode cX5_countTexts 18 = .ok (.aaload, 1) := by decide +kernel
theorem dX5_countTexts_19 : decode cX5_countTexts 19 = .ok (.ifnull 7, 3) := by decide +kernel
theorem dX5_countTexts_22 : decode cX5_countTexts 22 = .ok (.iconst 1, 1) := by decide +kernel
theorem dX5_countTexts_23 : decode cX5_countTexts 23 = .ok (.goto 4, 3) := by decide +kernel
theorem dX5_countTexts_26 : decode cX5_countTexts 26 = .ok (.iconst 0, 1) := by decide +kernel
theorem dX5_countTexts_27 : decode cX5_countTexts 27 = .ok (.iadd, 1) := by decide +kernel
theorem dX5_countTexts_28 : decode cX5_countTexts 28 = .ok (.istore_n 1, 1) := by decide +kernel
theorem dX5_countTexts_29 : decode cX5_countTexts 29 = .ok (.iinc 2 1, 3) := by decide +kernel
theorem dX5_countTexts_32 : decode cX5_countTexts 32 = .ok (.goto (-28), 3) := by decide +kernel
theorem dX5_countTexts_35 : decode cX5_countTexts 35 = .ok (.iload_n 1, 1) := by decide +kernel
theorem dX5_countTexts_36 : decode cX5_countTexts 36 = .ok (.ireturn, 1) := by decide +kernel
theorem dX5_viewsInTables_0 : decode cX5_viewsInTables 0 = .ok (.iconst 0, 1) := by decide +kernel
theorem dX5_viewsInTables_1 : decode cX5_viewsInTables 1 = .ok (.istore_n 1, 1) := by decide +kernel
theorem dX5_viewsInTables_2 : decode cX5_viewsInTables 2 = .ok (.iconst 0, 1) := by decide +kernel
theorem dX5_viewsInTables_3 : decode cX5_viewsInTables 3 = .ok (.istore_n 2, 1) := by decide +kernel
theorem dX5_viewsInTables_4 : decode cX5_viewsInTables 4 = .ok (.iload_n 2, 1) := by decide +kernel
theorem dX5_viewsInTables_5 : decode cX5_viewsInTables 5 = .ok (.aload_n 0, 1) := by decide +kernel
theorem dX5_viewsInTables_6 : decode cX5_viewsInTables 6 = .ok (.getfield 44, 3) := by decide +kernel
theorem dX5_viewsInTables_9 : decode cX5_viewsInTables 9 = .ok (.if_icmp .ge 30, 3) := by decide +kernel
theorem dX5_viewsInTables_12 : decode cX5_viewsInTables 12 = .ok (.iload_n 1, 1) := by decide +kernel
theorem dX5_viewsInTables_13 : decode cX5_viewsInTables 13 = .ok (.aload_n 0, 1) := by decide +kernel
theorem dX5_viewsInTables_14 : decode cX5_viewsInTables 14 = .ok (.iload_n 2, 1) := by decide +kernel
theorem dX5_viewsInTables_15 : decode cX5_viewsInTables 15 = .ok (.invokevirtual 83, 3) := by decide +kernel
theorem dX5_viewsInTables_18 : decode cX5_viewsInTables 18 = .ok (.ifCond .eq 12, 3) := by decide +kernel
theorem dX5_viewsInTables_21 : decode cX5_viewsInTables 21 = .ok (.aload_n 0, 1) := by decide +kernel
theorem dX5_viewsInTables_22 : decode cX5_viewsInTables 22 = .ok (.getfield 21, 3) := by decide +kernel
theorem dX5_viewsInTables_25 : decode cX5_viewsInTables 25 = .ok (.iload_n 2, 1) := by decide +kernel
theorem dX5_viewsInTables_26 : decode cX5_viewsInTables 26 = .ok (.iaload, 1) := by decide +kernel
theorem dX5_viewsInTables_27 : decode cX5_viewsInTables 27 = .ok (.goto 4, 3) := by decide +kernel
theorem dX5_viewsInTables_30 : decode cX5_viewsInTables 30 = .ok (.iconst 0, 1) := by decide +kernel
theorem dX5_viewsInTables_31 : decode cX5_viewsInTables 31 = .ok (.iadd, 1) := by decide +kernel
theorem dX5_viewsInTables_32 : decode cX5_viewsInTables 32 = .ok (.istore_n 1, 1) := by decide +kernel
theorem dX5_viewsInTables_33 : decode cX5_viewsInTables 33 = .ok (.iinc 2 1, 3) := by decide +kernel
theorem dX5_viewsInTables_36 : decode cX5_viewsInTables 36 = .ok (.goto (-32), 3) := by decide +kernel
theorem dX5_viewsInTables_39 : decode cX5_viewsInTables 39 = .ok (.iload_n 1, 1) := by decide +kernel
theorem dX5_viewsInTables_40 : decode cX5_viewsInTables 40 = .ok (.ireturn, 1) := by decide +kernel
theorem dX5_standInLine_0 : decode cX5_standInLine 0 = .ok (.iconst 0, 1) := by decide +kernel
theorem dX5_standInLine_1 : decode cX5_standInLine 1 = .ok (.istore_n 3, 1) := by decide +kernel
theorem dX5_standInLine_2 : decode cX5_standInLine 2 = .ok (.iload_n 3, 1) := by decide +kernel
theorem dX5_standInLine_3 : decode cX5_standInLine 3 = .ok (.aload_n 0, 1) := by decide +kernel
theorem dX5_standInLine_4 : decode cX5_standInLine 4 = .ok (.getfield 44, 3) := by decide +kernel
theorem dX5_standInLine_7 : decode cX5_standInLine 7 = .ok (.if_icmp .ge 44, 3) := by decide +kernel
theorem dX5_standInLine_10 : decode cX5_standInLine 10 = .ok (.aload_n 0, 1) := by decide +kernel
theorem dX5_standInLine_11 : decode cX5_standInLine 11 = .ok (.iload_n 3, 1) := by decide +kernel
theorem dX5_standInLine_12 : decode cX5_standInLine 12 = .ok (.aload_n 0, 1) := by decide +kernel
theorem dX5_standInLine_13 : decode cX5_standInLine 13 = .ok (.iload_n 3, 1) := by decide +kernel
theorem dX5_standInLine_14 : decode cX5_standInLine 14 = .ok (.invokevirtual 57, 3) := by decide +kernel
theorem dX5_standInLine_17 : decode cX5_standInLine 17 = .ok (.iload_n 3, 1) := by decide +kernel
theorem dX5_standInLine_18 : decode cX5_standInLine 18 = .ok (.ishr, 1) := by decide +kernel
theorem dX5_standInLine_19 : decode cX5_standInLine 19 = .ok (.iload_n 3, 1) := by decide +kernel
theorem dX5_standInLine_20 : decode cX5_standInLine 20 = .ok (.ishl, 1) := by decide +kernel
theorem dX5_standInLine_21 : decode cX5_standInLine 21 = .ok (.invokevirtual 87, 3) := by decide +kernel
theorem dX5_standInLine_24 : decode cX5_standInLine 24 = .ok (.aload_n 0, 1) := by decide +kernel
theorem dX5_standInLine_25 : decode cX5_standInLine 25 = .ok (.iload_n 3, 1) := by decide +kernel
theorem dX5_standInLine_26 : decode cX5_standInLine 26 = .ok (.iload_n 3, 1) := by decide +kernel
theorem dX5_standInLine_27 : decode cX5_standInLine 27 = .ok (.invokevirtual 90, 3) := by decide +kernel
theorem dX5_standInLine_30 : decode cX5_standInLine 30 = .ok (.aload_n 0, 1) := by decide +kernel
theorem dX5_standInLine_31 : decode cX5_standInLine 31 = .ok (.getfield 29, 3) := by decide +kernel
theorem dX5_standInLine_34 : decode cX5_standInLine 34 = .ok (.iload_n 3, 1) := by decide +kernel
theorem dX5_standInLine_35 : decode cX5_standInLine 35 = .ok (.iload_n 3, 1) := by decide +kernel
theorem dX5_standInLine_36 : decode cX5_standInLine 36 = .ok (.ifCond .ne 7, 3) := by decide +kernel
theorem dX5_standInLine_39 : decode cX5_standInLine 39 = .ok (.aload_n 1, 1) := by decide +kernel
theorem dX5_standInLine_40 : decode cX5_standInLine 40 = .ok (.goto 4, 3) := by decide +kernel
theorem dX5_standInLine_43 : decode cX5_standInLine 43 = .ok (.aload_n 2, 1) := by decide +kernel
theorem dX5_standInLine_44 : decode cX5_standInLine 44 = .ok (.aastore, 1) := by decide +kernel
theorem dX5_standInLine_45 : decode cX5_standInLine 45 = .ok (.iinc 3 1, 3) := by decide +kernel
theorem dX5_standInLine_48 : decode cX5_standInLine 48 = .ok (.goto (-46), 3) := by decide +kernel
theorem dX5_standInLine_51 : decode cX5_standInLine 51 = .ok (.return_, 1) := by decide +kernel
theorem dX5_drawTables_0 : decode cX5_drawTables 0 = .ok (.iconst 0, 1) := by decide +kernel
theorem dX5_drawTables_1 : decode cX5_drawTables 1 = .ok (.istore_n 2, 1) := by decide +kernel
theorem dX5_drawTables_2 : decode cX5_drawTables 2 = .ok (.iload_n 1, 1) := by decide +kernel
theorem dX5_drawTables_3 : decode cX5_drawTables 3 = .ok (.istore_n 3, 1) := by decide +kernel
theorem dX5_drawTables_4 : decode cX5_drawTables 4 = .ok (.iconst 0, 1) := by decide +kernel
theorem dX5_drawTables_5 : decode cX5_drawTables 5 = .ok (.istore 4, 2) := by decide +kernel
theorem dX5_drawTables_7 : decode cX5_drawTables 7 = .ok (.iload 4, 2) := by decide +kernel
theorem dX5_drawTables_9 : decode cX5_drawTables 9 = .ok (.aload_n 0, 1) := by decide +kernel
theorem dX5_drawTables_10 : decode cX5_drawTables 10 = .ok (.getfield 44, 3) := by decide +kernel
theorem dX5_drawTables_13 : decode cX5_drawTables 13 = .ok (.if_icmp .ge 72, 3) := by decide +kernel
theorem dX5_drawTables_16 : decode cX5_drawTables 16 = .ok (.iconst 0, 1) := by decide +kernel
theorem dX5_drawTables_17 : decode cX5_drawTables 17 = .ok (.istore 5, 2) := by decide +kernel
theorem dX5_drawTables_19 : decode cX5_drawTables 19 = .ok (.aload_n 0, 1) := by decide +kernel
theorem dX5_drawTables_20 : decode cX5_drawTables 20 = .ok (.iload 4, 2) := by decide +kernel
theorem dX5_drawTables_22 : decode cX5_drawTables 22 = .ok (.invokevirtual 83, 3) := by decide +kernel
theorem dX5_drawTables_25 : decode cX5_drawTables 25 = .ok (.ifCond .eq 54, 3) := by decide +kernel
theorem dX5_drawTables_28 : decode cX5_drawTables 28 = .ok (.iload 5, 2) := by decide +kernel
theorem dX5_drawTables_30 : decode cX5_drawTables 30 = .ok (.aload_n 0, 1) := by decide +kernel
theorem dX5_drawTables_31 : decode cX5_drawTables 31 = .ok (.getfield 21, 3) := by decide +kernel
theorem dX5_drawTables_34 : decode cX5_drawTables 34 = .ok (.iload 4, 2) := by decide +kernel
theorem dX5_drawTables_36 : decode cX5_drawTables 36 = .ok (.iaload, 1) := by decide +kernel
theorem dX5_drawTables_37 : decode cX5_drawTables 37 = .ok (.if_icmp .ge 42, 3) := by decide +kernel
theorem dX5_drawTables_40 : decode cX5_drawTables 40 = .ok (.iload_n 3, 1) := by decide +kernel
theorem dX5_drawTables_41 : decode cX5_drawTables 41 = .ok (.ldc 93, 2) := by decide +kernel
theorem dX5_drawTables_43 : decode cX5_drawTables 43 = .ok (.imul, 1) := by decide +kernel
theorem dX5_drawTables_44 : decode cX5_drawTables 44 = .ok (.sipush 12345, 3) := by decide +kernel
theorem dX5_drawTables_47 : decode cX5_drawTables 47 = .ok (.iadd, 1) := by decide +kernel
theorem dX5_drawTables_48 : decode cX5_drawTables 48 = .ok (.istore_n 3, 1) := by decide +kernel
theorem dX5_drawTables_49 : decode cX5_drawTables 49 = .ok (.aload_n 0, 1) := by decide +kernel
theorem dX5_drawTables_50 : decode cX5_drawTables 50 = .ok (.iload 4, 2) := by decide +kernel
theorem dX5_drawTables_52 : decode cX5_drawTables 52 = .ok (.iload 5, 2) := by decide +kernel
theorem dX5_drawTables_54 : decode cX5_drawTables 54 = .ok (.iload_n 3, 1) := by decide +kernel
theorem dX5_drawTables_55 : decode cX5_drawTables 55 = .ok (.bipush 16, 2) := by decide +kernel
theorem dX5_drawTables_57 : decode cX5_drawTables 57 = .ok (.iushr, 1) := by decide +kernel
theorem dX5_drawTables_58 : decode cX5_drawTables 58 = .ok (.sipush 32767, 3) := by decide +kernel
theorem dX5_drawTables_61 : decode cX5_drawTables 61 = .ok (.iand, 1) := by decide +kernel
theorem dX5_drawTables_62 : decode cX5_drawTables 62 = .ok (.aload_n 0, 1) := by decide +kernel
theorem dX5_drawTables_63 : decode cX5_drawTables 63 = .ok (.getfield 48, 3) := by decide +kernel
theorem dX5_drawTables_66 : decode cX5_drawTables 66 = .ok (.irem, 1) := by decide +kernel
theorem dX5_drawTables_67 : decode cX5_drawTables 67 = .ok (.invokevirtual 94, 3) := by decide +kernel
theorem dX5_drawTables_70 : decode cX5_drawTables 70 = .ok (.iinc 2 1, 3) := by decide +kernel
theorem dX5_drawTables_73 : decode cX5_drawTables 73 = .ok (.iinc 5 1, 3) := by decide +kernel
theorem dX5_drawTables_76 : decode cX5_drawTables 76 = .ok (.goto (-57), 3) := by decide +kernel
theorem dX5_drawTables_79 : decode cX5_drawTables 79 = .ok (.iinc 4 1, 3) := by decide +kernel
theorem dX5_drawTables_82 : decode cX5_drawTables 82 = .ok (.goto (-75), 3) := by decide +kernel
theorem dX5_drawTables_85 : decode cX5_drawTables 85 = .ok (.iload_n 2, 1) := by decide +kernel
theorem dX5_drawTables_86 : decode cX5_drawTables 86 = .ok (.ireturn, 1) := by decide +kernel
theorem dX5_seenByAnyOf_0 : decode cX5_seenByAnyOf 0 = .ok (.iconst 0, 1) := by decide +kernel
theorem dX5_seenByAnyOf_1 : decode cX5_seenByAnyOf 1 = .ok (.istore_n 2, 1) := by decide +kernel
theorem dX5_seenByAnyOf_2 : decode cX5_seenByAnyOf 2 = .ok (.iconst 0, 1) := by decide +kernel
theorem dX5_seenByAnyOf_3 : decode cX5_seenByAnyOf 3 = .ok (.istore_n 3, 1) := by decide +kernel
theorem dX5_seenByAnyOf_4 : decode cX5_seenByAnyOf 4 = .ok (.iload_n 3, 1) := by decide +kernel
theorem dX5_seenByAnyOf_5 : decode cX5_seenByAnyOf 5 = .ok (.aload_n 0, 1) := by decide +kernel
theorem dX5_seenByAnyOf_6 : decode cX5_seenByAnyOf 6 = .ok (.getfield 44, 3) := by decide +kernel
theorem dX5_seenByAnyOf_9 : decode cX5_seenByAnyOf 9 = .ok (.if_icmp .ge 27, 3) := by decide +kernel
theorem dX5_seenByAnyOf_12 : decode cX5_seenByAnyOf 12 = .ok (.iload_n 1, 1) := by decide +kernel
theorem dX5_seenByAnyOf_13 : decode cX5_seenByAnyOf 13 = .ok (.iload_n 3, 1) := by decide +kernel
theorem dX5_seenByAnyOf_14 : decode cX5_seenByAnyOf 14 = .ok (.ishr, 1) := by decide +kernel
theorem dX5_seenByAnyOf_15 : decode cX5_seenByAnyOf 15 = .ok (.iconst 1, 1) := by decide +kernel
theorem dX5_seenByAnyOf_16 : decode cX5_seenByAnyOf 16 = .ok (.iand, 1) := by decide +kernel
theorem dX5_seenByAnyOf_17 : decode cX5_seenByAnyOf 17 = .ok (.iconst 1, 1) := by decide +kernel
theorem dX5_seenByAnyOf_18 : decode cX5_seenByAnyOf 18 = .ok (.if_icmp .ne 12, 3) := by decide +kernel
theorem dX5_seenByAnyOf_21 : decode cX5_seenByAnyOf 21 = .ok (.iload_n 2, 1) := by decide +kernel
theorem dX5_seenByAnyOf_22 : decode cX5_seenByAnyOf 22 = .ok (.aload_n 0, 1) := by decide +kernel
theorem dX5_seenByAnyOf_23 : decode cX5_seenByAnyOf 23 = .ok (.getfield 9, 3) := by decide +kernel
theorem dX5_seenByAnyOf_26 : decode cX5_seenByAnyOf 26 = .ok (.iload_n 3, 1) := by decide +kernel
theorem dX5_seenByAnyOf_27 : decode cX5_seenByAnyOf 27 = .ok (.iaload, 1) := by decide +kernel
theorem dX5_seenByAnyOf_28 : decode cX5_seenByAnyOf 28 = .ok (.ior, 1) := by decide +kernel
theorem dX5_seenByAnyOf_29 : decode cX5_seenByAnyOf 29 = .ok (.istore_n 2, 1) := by decide +kernel
theorem dX5_seenByAnyOf_30 : decode cX5_seenByAnyOf 30 = .ok (.iinc 3 1, 3) := by decide +kernel
theorem dX5_seenByAnyOf_33 : decode cX5_seenByAnyOf 33 = .ok (.goto (-29), 3) := by decide +kernel
theorem dX5_seenByAnyOf_36 : decode cX5_seenByAnyOf 36 = .ok (.iload_n 2, 1) := by decide +kernel
theorem dX5_seenByAnyOf_37 : decode cX5_seenByAnyOf 37 = .ok (.ireturn, 1) := by decide +kernel
theorem dX5_shortestRing_0 : decode cX5_shortestRing 0 = .ok (.iconst (-1), 1) := by decide +kernel
theorem dX5_shortestRing_1 : decode cX5_shortestRing 1 = .ok (.istore_n 1, 1) := by decide +kernel
theorem dX5_shortestRing_2 : decode cX5_shortestRing 2 = .ok (.iconst 0, 1) := by decide +kernel
theorem dX5_shortestRing_3 : decode cX5_shortestRing 3 = .ok (.istore_n 2, 1) := by decide +kernel
theorem dX5_shortestRing_4 : decode cX5_shortestRing 4 = .ok (.iload_n 2, 1) := by decide +kernel
theorem dX5_shortestRing_5 : decode cX5_shortestRing 5 = .ok (.aload_n 0, 1) := by decide +kernel
theorem dX5_shortestRing_6 : decode cX5_shortestRing 6 = .ok (.getfield 44, 3) := by decide +kernel
theorem dX5_shortestRing_9 : decode cX5_shortestRing 9 = .ok (.if_icmp .ge 60, 3) := by decide +kernel
theorem dX5_shortestRing_12 : decode cX5_shortestRing 12 = .ok (.iconst 1, 1) := by decide +kernel
theorem dX5_shortestRing_13 : decode cX5_shortestRing 13 = .ok (.iload_n 2, 1) := by decide +kernel
theorem dX5_shortestRing_14 : decode cX5_shortestRing 14 = .ok (.ishl, 1) := by decide +kernel
theorem dX5_shortestRing_15 : decode cX5_shortestRing 15 = .ok (.istore_n 3, 1) := by decide +kernel
theorem dX5_shortestRing_16 : decode cX5_shortestRing 16 = .ok (.iconst 1, 1) := by decide +kernel
theorem dX5_shortestRing_17 : decode cX5_shortestRing 17 = .ok (.istore 4, 2) := by decide +kernel
theorem dX5_shortestRing_19 : decode cX5_shortestRing 19 = .ok (.iload 4, 2) := by decide +kernel
theorem dX5_shortestRing_21 : decode cX5_shortestRing 21 = .ok (.aload_n 0, 1) := by decide +kernel
theorem dX5_shortestRing_22 : decode cX5_shortestRing 22 = .ok (.getfield 44, 3) := by decide +kernel
theorem dX5_shortestRing_25 : decode cX5_shortestRing 25 = .ok (.if_icmp .gt 38, 3) := by decide +kernel
theorem dX5_shortestRing_28 : decode cX5_shortestRing 28 = .ok (.aload_n 0, 1) := by decide +kernel
theorem dX5_shortestRing_29 : decode cX5_shortestRing 29 = .ok (.iload_n 3, 1) := by decide +kernel
theorem dX5_shortestRing_30 : decode cX5_shortestRing 30 = .ok (.invokevirtual 98, 3) := by decide +kernel
theorem dX5_shortestRing_33 : decode cX5_shortestRing 33 = .ok (.istore_n 3, 1) := by decide +kernel
theorem dX5_shortestRing_34 : decode cX5_shortestRing 34 = .ok (.iload_n 3, 1) := by decide +kernel
theorem dX5_shortestRing_35 : decode cX5_shortestRing 35 = .ok (.iload_n 2, 1) := by decide +kernel
theorem dX5_shortestRing_36 : decode cX5_shortestRing 36 = .ok (.ishr, 1) := by decide +kernel
theorem dX5_shortestRing_37 : decode cX5_shortestRing 37 = .ok (.iconst 1, 1) := by decide +kernel
theorem dX5_shortestRing_38 : decode cX5_shortestRing 38 = .ok (.iand, 1) := by decide +kernel
theorem dX5_shortestRing_39 : decode cX5_shortestRing 39 = .ok (.iconst 1, 1) := by decide +kernel
theorem dX5_shortestRing_40 : decode cX5_shortestRing 40 = .ok (.if_icmp .ne 17, 3) := by decide +kernel
theorem dX5_shortestRing_43 : decode cX5_shortestRing 43 = .ok (.iload_n 1, 1) := by decide +kernel
theorem dX5_shortestRing_44 : decode cX5_shortestRing 44 = .ok (.iconst (-1), 1) := by decide +kernel
theorem dX5_shortestRing_45 : decode cX5_shortestRing 45 = .ok (.if_icmp .eq 9, 3) := by decide +kernel
theorem dX5_shortestRing_48 : decode cX5_shortestRing 48 = .ok (.iload 4, 2) := by decide +kernel
theorem dX5_shortestRing_50 : decode cX5_shortestRing 50 = .ok (.iload_n 1, 1) := by decide +kernel
theorem dX5_shortestRing_51 : decode cX5_shortestRing 51 = .ok (.if_icmp .ge 6, 3) := by decide +kernel
theorem dX5_shortestRing_54 : decode cX5_shortestRing 54 = .ok (.iload 4, 2) := by decide +kernel
theorem dX5_shortestRing_56 : decode cX5_shortestRing 56 = .ok (.istore_n 1, 1) := by decide +kernel
theorem dX5_shortestRing_57 : decode cX5_shortestRing 57 = .ok (.iinc 4 1, 3) := by decide +kernel
theorem dX5_shortestRing_60 : decode cX5_shortestRing 60 = .ok (.goto (-41), 3) := by decide +kernel
theorem dX5_shortestRing_63 : decode cX5_shortestRing 63 = .ok (.iinc 2 1, 3) := by decide +kernel
theorem dX5_shortestRing_66 : decode cX5_shortestRing 66 = .ok (.goto (-62), 3) := by decide +kernel
theorem dX5_shortestRing_69 : decode cX5_shortestRing 69 = .ok (.iload_n 1, 1) := by decide +kernel
theorem dX5_shortestRing_70 : decode cX5_shortestRing 70 = .ok (.ireturn, 1) := by decide +kernel
theorem dX5_suits_0 : decode cX5_suits 0 = .ok (.aload_n 0, 1) := by decide +kernel
theorem dX5_suits_1 : decode cX5_suits 1 = .ok (.getfield 37, 3) := by decide +kernel
theorem dX5_suits_4 : decode cX5_suits 4 = .ok (.iload_n 1, 1) := by decide +kernel
theorem dX5_suits_5 : decode cX5_suits 5 = .ok (.iaload, 1) := by decide +kernel
theorem dX5_suits_6 : decode cX5_suits 6 = .ok (.istore_n 2, 1) := by decide +kernel
theorem dX5_suits_7 : decode cX5_suits 7 = .ok (.aload_n 0, 1) := by decide +kernel
theorem dX5_suits_8 : decode cX5_suits 8 = .ok (.getfield 15, 3) := by decide +kernel
theorem dX5_suits_11 : decode cX5_suits 11 = .ok (.iload_n 1, 1) := by decide +kernel
theorem dX5_suits_12 : decode cX5_suits 12 = .ok (.iaload, 1) := by decide +kernel
theorem dX5_suits_13 : decode cX5_suits 13 = .ok (.aload_n 0, 1) := by decide +kernel
theorem dX5_suits_14 : decode cX5_suits 14 = .ok (.getfield 15, 3) := by decide +kernel
theorem dX5_suits_17 : decode cX5_suits 17 = .ok (.iload_n 2, 1) := by decide +kernel
theorem dX5_suits_18 : decode cX5_suits 18 = .ok (.iaload, 1) := by decide +kernel
theorem dX5_suits_19 : decode cX5_suits 19 = .ok (.if_icmp .eq 5, 3) := by decide +kernel
theorem dX5_suits_22 : decode cX5_suits 22 = .ok (.iconst 0, 1) := by decide +kernel
theorem dX5_suits_23 : decode cX5_suits 23 = .ok (.ireturn, 1) := by decide +kernel
theorem dX5_suits_24 : decode cX5_suits 24 = .ok (.iconst 0, 1) := by decide +kernel
theorem dX5_suits_25 : decode cX5_suits 25 = .ok (.istore_n 3, 1) := by decide +kernel
theorem dX5_suits_26 : decode cX5_suits 26 = .ok (.iload_n 3, 1) := by decide +kernel
theorem dX5_suits_27 : decode cX5_suits 27 = .ok (.iload_n 1, 1) := by decide +kernel
theorem dX5_suits_28 : decode cX5_suits 28 = .ok (.if_icmp .ge 91, 3) := by decide +kernel
theorem dX5_suits_31 : decode cX5_suits 31 = .ok (.aload_n 0, 1) := by decide +kernel
theorem dX5_suits_32 : decode cX5_suits 32 = .ok (.getfield 9, 3) := by decide +kernel
theorem dX5_suits_35 : decode cX5_suits 35 = .ok (.iload_n 1, 1) := by decide +kernel
theorem dX5_suits_36 : decode cX5_suits 36 = .ok (.iaload, 1) := by decide +kernel
theorem dX5_suits_37 : decode cX5_suits 37 = .ok (.iload_n 3, 1) := by decide +kernel
theorem dX5_suits_38 : decode cX5_suits 38 = .ok (.ishr, 1) := by decide +kernel
theorem dX5_suits_39 : decode cX5_suits 39 = .ok (.iconst 1, 1) := by decide +kernel
theorem dX5_suits_40 : decode cX5_suits 40 = .ok (.iand, 1) := by decide +kernel
theorem dX5_suits_41 : decode cX5_suits 41 = .ok (.aload_n 0, 1) := by decide +kernel
theorem dX5_suits_42 : decode cX5_suits 42 = .ok (.getfield 9, 3) := by decide +kernel
theorem dX5_suits_45 : decode cX5_suits 45 = .ok (.iload_n 2, 1) := by decide +kernel
theorem dX5_suits_46 : decode cX5_suits 46 = .ok (.iaload, 1) := by decide +kernel
theorem dX5_suits_47 : decode cX5_suits 47 = .ok (.aload_n 0, 1) := by decide +kernel
theorem dX5_suits_48 : decode cX5_suits 48 = .ok (.getfield 37, 3) := by decide +kernel
theorem dX5_suits_51 : decode cX5_suits 51 = .ok (.iload_n 3, 1) := by decide +kernel
theorem dX5_suits_52 : decode cX5_suits 52 = .ok (.iaload, 1) := by decide +kernel
theorem dX5_suits_53 : decode cX5_suits 53 = .ok (.ishr, 1) := by decide +kernel
theorem dX5_suits_54 : decode cX5_suits 54 = .ok (.iconst 1, 1) := by decide +kernel
theorem dX5_suits_55 : decode cX5_suits 55 = .ok (.iand, 1) := by decide +kernel
theorem dX5_suits_56 : decode cX5_suits 56 = .ok (.if_icmp .ne 7, 3) := by decide +kernel
theorem dX5_suits_59 : decode cX5_suits 59 = .ok (.iconst 1, 1) := by decide +kernel
theorem dX5_suits_60 : decode cX5_suits 60 = .ok (.goto 4, 3) := by decide +kernel
theorem dX5_suits_63 : decode cX5_suits 63 = .ok (.iconst 0, 1) := by decide +kernel
theorem dX5_suits_64 : decode cX5_suits 64 = .ok (.istore 4, 2) := by decide +kernel
theorem dX5_suits_66 : decode cX5_suits 66 = .ok (.aload_n 0, 1) := by decide +kernel
theorem dX5_suits_67 : decode cX5_suits 67 = .ok (.getfield 9, 3) := by decide +kernel
theorem dX5_suits_70 : decode cX5_suits 70 = .ok (.iload_n 3, 1) := by decide +kernel
theorem dX5_suits_71 : decode cX5_suits 71 = .ok (.iaload, 1) := by decide +kernel
theorem dX5_suits_72 : decode cX5_suits 72 = .ok (.iload_n 1, 1) := by decide +kernel
theorem dX5_suits_73 : decode cX5_suits 73 = .ok (.ishr, 1) := by decide +kernel
theorem dX5_suits_74 : decode cX5_suits 74 = .ok (.iconst 1, 1) := by decide +kernel
theorem dX5_suits_75 : decode cX5_suits 75 = .ok (.iand, 1) := by decide +kernel
theorem dX5_suits_76 : decode cX5_suits 76 = .ok (.aload_n 0, 1) := by decide +kernel
theorem dX5_suits_77 : decode cX5_suits 77 = .ok (.getfield 9, 3) := by decide +kernel
theorem dX5_suits_80 : decode cX5_suits 80 = .ok (.aload_n 0, 1) := by decide +kernel
theorem dX5_suits_81 : decode cX5_suits 81 = .ok (.getfield 37, 3) := by decide +kernel
theorem dX5_suits_84 : decode cX5_suits 84 = .ok (.iload_n 3, 1) := by decide +kernel
theorem dX5_suits_85 : decode cX5_suits 85 = .ok (.iaload, 1) := by decide +kernel
theorem dX5_suits_86 : decode cX5_suits 86 = .ok (.iaload, 1) := by decide +kernel
theorem dX5_suits_87 : decode cX5_suits 87 = .ok (.iload_n 2, 1) := by decide +kernel
theorem dX5_suits_88 : decode cX5_suits 88 = .ok (.ishr, 1) := by decide +kernel
theorem dX5_suits_89 : decode cX5_suits 89 = .ok (.iconst 1, 1) := by decide +kernel
theorem dX5_suits_90 : decode cX5_suits 90 = .ok (.iand, 1) := by decide +kernel
theorem dX5_suits_91 : decode cX5_suits 91 = .ok (.if_icmp .ne 7, 3) := by decide +kernel
theorem dX5_suits_94 : decode cX5_suits 94 = .ok (.iconst 1, 1) := by decide +kernel
theorem dX5_suits_95 : decode cX5_suits 95 = .ok (.goto 4, 3) := by decide +kernel
theorem dX5_suits_98 : decode cX5_suits 98 = .ok (.iconst 0, 1) := by decide +kernel
theorem dX5_suits_99 : decode cX5_suits 99 = .ok (.istore 5, 2) := by decide +kernel
theorem dX5_suits_101 : decode cX5_suits 101 = .ok (.iload 4, 2) := by decide +kernel
theorem dX5_suits_103 : decode cX5_suits 103 = .ok (.ifCond .eq 8, 3) := by decide +kernel
theorem dX5_suits_106 : decode cX5_suits 106 = .ok (.iload 5, 2) := by decide +kernel
theorem dX5_suits_108 : decode cX5_suits 108 = .ok (.ifCond .ne 5, 3) := by decide +kernel
theorem dX5_suits_111 : decode cX5_suits 111 = .ok (.iconst 0, 1) := by decide +kernel
theorem dX5_suits_112 : decode cX5_suits 112 = .ok (.ireturn, 1) := by decide +kernel
theorem dX5_suits_113 : decode cX5_suits 113 = .ok (.iinc 3 1, 3) := by decide +kernel
theorem dX5_suits_116 : decode cX5_suits 116 = .ok (.goto (-90), 3) := by decide +kernel
theorem dX5_suits_119 : decode cX5_suits 119 = .ok (.iconst 1, 1) := by decide +kernel
theorem dX5_suits_120 : decode cX5_suits 120 = .ok (.ireturn, 1) := by decide +kernel
theorem dX5_placeFrom_0 : decode cX5_placeFrom 0 = .ok (.iload_n 1, 1) := by decide +kernel
theorem dX5_placeFrom_1 : decode cX5_placeFrom 1 = .ok (.aload_n 0, 1) := by decide +kernel
theorem dX5_placeFrom_2 : decode cX5_placeFrom 2 = .ok (.getfield 44, 3) := by decide +kernel
theorem dX5_placeFrom_5 : decode cX5_placeFrom 5 = .ok (.if_icmp .ge 9, 3) := by decide +kernel
theorem dX5_placeFrom_8 : decode cX5_placeFrom 8 = .ok (.iload_n 1, 1) := by decide +kernel
theorem dX5_placeFrom_9 : decode cX5_placeFrom 9 = .ok (.bipush 6, 2) := by decide +kernel
theorem dX5_placeFrom_11 : decode cX5_placeFrom 11 = .ok (.if_icmp .lt 5, 3) := by decide +kernel
theorem dX5_placeFrom_14 : decode cX5_placeFrom 14 = .ok (.iconst 1, 1) := by decide +kernel
theorem dX5_placeFrom_15 : decode cX5_placeFrom 15 = .ok (.ireturn, 1) := by decide +kernel
theorem dX5_placeFrom_16 : decode cX5_placeFrom 16 = .ok (.iconst 0, 1) := by decide +kernel
theorem dX5_placeFrom_17 : decode cX5_placeFrom 17 = .ok (.istore_n 3, 1) := by decide +kernel
theorem dX5_placeFrom_18 : decode cX5_placeFrom 18 = .ok (.iconst 0, 1) := by decide +kernel
theorem dX5_placeFrom_19 : decode cX5_placeFrom 19 = .ok (.istore 4, 2) := by decide +kernel
theorem dX5_placeFrom_21 : decode cX5_placeFrom 21 = .ok (.iload 4, 2) := by decide +kernel
theorem dX5_placeFrom_23 : decode cX5_placeFrom 23 = .ok (.aload_n 0, 1) := by decide +kernel
theorem dX5_placeFrom_24 : decode cX5_placeFrom 24 = .ok (.getfield 44, 3) := by decide +kernel
theorem dX5_placeFrom_27 : decode cX5_placeFrom 27 = .ok (.if_icmp .ge 50, 3) := by decide +kernel
theorem dX5_placeFrom_30 : decode cX5_placeFrom 30 = .ok (.aload_n 0, 1) := by decide +kernel
theorem dX5_placeFrom_31 : decode cX5_placeFrom 31 = .ok (.getfield 37, 3) := by decide +kernel
theorem dX5_placeFrom_34 : decode cX5_placeFrom 34 = .ok (.iload_n 1, 1) := by decide +kernel
theorem dX5_placeFrom_35 : decode cX5_placeFrom 35 = .ok (.iload 4, 2) := by decide +kernel
theorem dX5_placeFrom_37 : decode cX5_placeFrom 37 = .ok (.iastore, 1) := by decide +kernel
theorem dX5_placeFrom_38 : decode cX5_placeFrom 38 = .ok (.iload_n 2, 1) := by decide +kernel
theorem dX5_placeFrom_39 : decode cX5_placeFrom 39 = .ok (.iload 4, 2) := by decide +kernel
theorem dX5_placeFrom_41 : decode cX5_placeFrom 41 = .ok (.ishr, 1) := by decide +kernel
theorem dX5_placeFrom_42 : decode cX5_placeFrom 42 = .ok (.iconst 1, 1) := by decide +kernel
theorem dX5_placeFrom_43 : decode cX5_placeFrom 43 = .ok (.iand, 1) := by decide +kernel
theorem dX5_placeFrom_44 : decode cX5_placeFrom 44 = .ok (.ifCond .ne 27, 3) := by decide +kernel
theorem dX5_placeFrom_47 : decode cX5_placeFrom 47 = .ok (.aload_n 0, 1) := by decide +kernel
theorem dX5_placeFrom_48 : decode cX5_placeFrom 48 = .ok (.iload_n 1, 1) := by decide +kernel
theorem dX5_placeFrom_49 : decode cX5_placeFrom 49 = .ok (.invokevirtual 105, 3) := by decide +kernel
theorem dX5_placeFrom_52 : decode cX5_placeFrom 52 = .ok (.ifCond .eq 19, 3) := by decide +kernel
theorem dX5_placeFrom_55 : decode cX5_placeFrom 55 = .ok (.iload_n 3, 1) := by decide +kernel
theorem dX5_placeFrom_56 : decode cX5_placeFrom 56 = .ok (.aload_n 0, 1) := by decide +kernel
theorem dX5_placeFrom_57 : decode cX5_placeFrom 57 = .ok (.iload_n 1, 1) := by decide +kernel
theorem dX5_placeFrom_58 : decode cX5_placeFrom 58 = .ok (.iconst 1, 1) := by decide +kernel
theorem dX5_placeFrom_59 : decode cX5_placeFrom 59 = .ok (.iadd, 1) := by decide +kernel
theorem dX5_placeFrom_60 : decode cX5_placeFrom 60 = .ok (.iload_n 2, 1) := by decide +kernel
theorem dX5_placeFrom_61 : decode cX5_placeFrom 61 = .ok (.iconst 1, 1) := by decide +kernel
theorem dX5_placeFrom_62 : decode cX5_placeFrom 62 = .ok (.iload 4, 2) := by decide +kernel
theorem dX5_placeFrom_64 : decode cX5_placeFrom 64 = .ok (.ishl, 1) := by decide +kernel
theorem dX5_placeFrom_65 : decode cX5_placeFrom 65 = .ok (.ior, 1) := by decide +kernel
theorem dX5_placeFrom_66 : decode cX5_placeFrom 66 = .ok (.invokestatic 101, 3) := by decide +kernel
theorem dX5_placeFrom_69 : decode cX5_placeFrom 69 = .ok (.iadd, 1) := by decide +kernel
theorem dX5_placeFrom_70 : decode cX5_placeFrom 70 = .ok (.istore_n 3, 1) := by decide +kernel
theorem dX5_placeFrom_71 : decode cX5_placeFrom 71 = .ok (.iinc 4 1, 3) := by decide +kernel
theorem dX5_placeFrom_74 : decode cX5_placeFrom 74 = .ok (.goto (-53), 3) := by decide +kernel
theorem dX5_placeFrom_77 : decode cX5_placeFrom 77 = .ok (.iload_n 3, 1) := by decide +kernel
theorem dX5_placeFrom_78 : decode cX5_placeFrom 78 = .ok (.ireturn, 1) := by decide +kernel
section
variable {p : Program} {l : Launch} {e : Env} {R : Room} {s : State} {m : MethodId} {args : Array Value} {below : List Frame} {meth : Method} {c : Code} {D : va_G} {cA : Nat → ClassId} {z : Nat} {A : Nat → Prop} {J : HJ} {Ev : HE}
theorem wkMen_takeBest_l49 {I : HI} {T : HR} {F : HR} {L : HL} {r1 : Nat} {x5 : Int32} {x6 : Int32} {x7 : Int32} {K13 : Int32 → Int32 → Int32 → Int32 → Int32 → Prop} {Q : Int32 → HI → Prop} (X : hX p m c s args RX4 cX4_takeBest 9) (hr : meth.sig.returnType = (some .boolean)) (hlk : meth.locks = false) (hR : 1 ≤ R.frames ∧ 23 ≤ R.locals) (hcl : hCl Ev) (hG : Geo F L) (hn1 : NetSh F L r1) (hK13 : ∀ (x2 : Int32) (x3 : Int32) (x4 : Int32) (x5 : Int32) (x6 : Int32) {ls : Array Slot} {H : Heap} {locs : List Loc}, K13 x2 x3 x4 x5 x6 → hW D cA z Ev (I, J, T, F, L) A s H locs → lv_has ls 9 [(0, .ref (z + 48)), (1, .ref (z + r1)), (2, .int x2), (3, .int x3), (4, .int x4), (5, .int x5), (6, .int x6)] → W p l e R s m args below meth c H locs 0 0 (MQ below (va_Qi (pI J T F L Q) (hB D cA z A) A) args s 0 0 A) (F0 m 13 ls [])) : ∀ (n : Nat) (x2 : Int32) (x3 : Int32) (x4 : Int32) (x8 : Int32) {ls : Array Slot} {H : Heap} {locs : List Loc}, Men_takeBest_l49 I T r1 x5 x6 x7 K13 Q n x2 x3 x4 x8 → hW D cA z Ev (I, J, T, F, L) A s H locs → lv_has ls 9 [(0, .ref (z + 48)), (1, .ref (z + r1)), (2, .int x2), (3, .int x3), (4, .int x4), (5, .int x5), (6, .int x6), (7, .int x7), (8, .int x8)] → W p l e R s m args below meth c H locs 0 0 (MQ below (va_Qi (pI J T F L Q) (hB D cA z A) A) args s 0 0 A) (F0 m 49 ls []) := by
  have hx := X.1
  have hb := X.2.1
  intro n
  induction n with
  | zero => intro x2 x3 x4 x8 ls H locs h; exact False.elim h
  | succ n ih =>
    intro x2 x3 x4 x8 ls H locs h hw hl
    rw [Men_takeBest_l49] at h
    refine lv_iload hx hb dX4_takeBest_49 (lv_at hl 8 rfl) ?_
    refine lv_iload hx hb dX4_takeBest_51 (lv_at hl 7 rfl) ?_
    refine lv_icmp_ge (tgt := 94) hx hb dX4_takeBest_53 (by decide) (fun hc => ?_) (fun hc => ?_)
    · have h := Eq.mp (if_pos hc) h
      refine lv_iload hx hb dX4_takeBest_94 (lv_at hl 5 rfl) ?_
      refine lv_iload hx hb dX4_takeBest_96 (lv_at hl 7 rfl) ?_
      refine lv_iadd hx hb dX4_takeBest_98 ?_
      refine lv_istore (lv' := [(5, _), (0, _), (1, _), (2, _), (3, _), (4, _), (6, _), (7, _), (8, _)]) hx hb dX4_takeBest_99 hl (by decide) rfl (fun ls hl => ?_)
      refine lv_iinc (v := x6 + 1) (lv' := [(6, _), (5, _), (0, _), (1, _), (2, _), (3, _), (4, _), (7, _), (8, _)]) hx hb dX4_takeBest_101 hl (k := 6) rfl rfl (by decide) rfl (fun ls hl => ?_)
      refine lv_goto (tgt := 13) hx hb dX4_takeBest_104 (by decide) ?_
      exact hK13 _ _ _ _ _ h hw (lv_sub hl [2, 3, 4, 5, 6, 1, 0] rfl)
    · have h := Eq.mp (if_neg hc) h
      refine lv_aload_n hx hb dX4_takeBest_56 rfl (lv_at hl 0 rfl) ?_
      refine hm_getr X hw lk_4_11 (gl_48 hG) (gf_48_0 hG) dX4_takeBest_57 ?_
      refine lv_iload hx hb dX4_takeBest_60 (lv_at hl 5 rfl) ?_
      refine lv_iload hx hb dX4_takeBest_62 (lv_at hl 8 rfl) ?_
      refine lv_iadd hx hb dX4_takeBest_64 ?_
      obtain ⟨hi, h⟩ := h
      refine hm_iald X hw (gl_49 hG) hi dX4_takeBest_65 ?_
      refine lv_iload_n hx hb dX4_takeBest_66 rfl (lv_at hl 2 rfl) ?_
      refine lv_icmp_le (tgt := 88) hx hb dX4_takeBest_67 (by decide) (fun hc => ?_) (fun hc => ?_)
      · have h := Eq.mp (if_pos hc) h
        refine lv_iinc (v := x8 + 1) (lv' := [(8, _), (0, _), (1, _), (2, _), (3, _), (4, _), (5, _), (6, _), (7, _)]) hx hb dX4_takeBest_88 hl (k := 8) rfl rfl (by decide) rfl (fun ls hl => ?_)
        refine lv_goto (tgt := 49) hx hb dX4_takeBest_91 (by decide) ?_
        exact ih _ _ _ _ h hw (lv_sub hl [1, 2, 3, 4, 5, 6, 7, 8, 0] rfl)
      · have h := Eq.mp (if_neg hc) h
        refine lv_aload_n hx hb dX4_takeBest_70 rfl (lv_at hl 0 rfl) ?_
        refine hm_getr X hw lk_4_11 (gl_48 hG) (gf_48_0 hG) dX4_takeBest_71 ?_
        refine lv_iload hx hb dX4_takeBest_74 (lv_at hl 5 rfl) ?_
        refine lv_iload hx hb dX4_takeBest_76 (lv_at hl 8 rfl) ?_
        refine lv_iadd hx hb dX4_takeBest_78 ?_
        obtain ⟨hi, h⟩ := h
        refine hm_iald X hw (gl_49 hG) hi dX4_takeBest_79 ?_
        refine lv_istore_n (lv' := [(2, _), (0, _), (1, _), (3, _), (4, _), (5, _), (6, _), (7, _), (8, _)]) hx hb dX4_takeBest_80 rfl hl (by decide) rfl (fun ls hl => ?_)
        refine lv_iload hx hb dX4_takeBest_81 (lv_at hl 6 rfl) ?_
        refine lv_istore_n (lv' := [(3, _), (2, _), (0, _), (1, _), (4, _), (5, _), (6, _), (7, _), (8, _)]) hx hb dX4_takeBest_83 rfl hl (by decide) rfl (fun ls hl => ?_)
        refine lv_iload hx hb dX4_takeBest_84 (lv_at hl 8 rfl) ?_
        refine lv_istore (lv' := [(4, _), (3, _), (2, _), (0, _), (1, _), (5, _), (6, _), (7, _), (8, _)]) hx hb dX4_takeBest_86 hl (by decide) rfl (fun ls hl => ?_)
        refine lv_iinc (v := x8 + 1) (lv' := [(8, _), (4, _), (3, _), (2, _), (0, _), (1, _), (5, _), (6, _), (7, _)]) hx hb dX4_takeBest_88 hl (k := 8) rfl rfl (by decide) rfl (fun ls hl => ?_)
        refine lv_goto (tgt := 49) hx hb dX4_takeBest_91 (by decide) ?_
        exact ih _ _ _ _ h hw (lv_sub hl [4, 5, 3, 2, 1, 6, 7, 8, 0] rfl)

theorem wkMen_takeBest_l13 {I : HI} {T : HR} {F : HR} {L : HL} {r1 : Nat} {Q : Int32 → HI → Prop} (X : hX p m c s args RX4 cX4_takeBest 9) (hr : meth.sig.returnType = (some .boolean)) (hlk : meth.locks = false) (hR : 1 ≤ R.frames ∧ 23 ≤ R.locals) (hcl : hCl Ev) (hG : Geo F L) (hn1 : NetSh F L r1)  : ∀ (n : Nat) (x2 : Int32) (x3 : Int32) (x4 : Int32) (x5 : Int32) (x6 : Int32) {ls : Array Slot} {H : Heap} {locs : List Loc}, Men_takeBest_l13 I T r1 Q n x2 x3 x4 x5 x6 → hW D cA z Ev (I, J, T, F, L) A s H locs → lv_has ls 9 [(0, .ref (z + 48)), (1, .ref (z + r1)), (2, .int x2), (3, .int x3), (4, .int x4), (5, .int x5), (6, .int x6)] → W p l e R s m args below meth c H locs 0 0 (MQ below (va_Qi (pI J T F L Q) (hB D cA z A) A) args s 0 0 A) (F0 m 13 ls []) := by
  have hx := X.1
  have hb := X.2.1
  intro n
  induction n with
  | zero => intro x2 x3 x4 x5 x6 ls H locs h; exact False.elim h
  | succ n ih =>
    intro x2 x3 x4 x5 x6 ls H locs h hw hl
    rw [Men_takeBest_l13] at h
    refine lv_iload hx hb dX4_takeBest_13 (lv_at hl 6 rfl) ?_
    refine lv_aload_n hx hb dX4_takeBest_15 rfl (lv_at hl 1 rfl) ?_
    refine hm_geti X hw lk_4_41 hn1.1 dX4_takeBest_16 ?_
    refine lv_icmp_ge (tgt := 107) hx hb dX4_takeBest_19 (by decide) (fun hc => ?_) (fun hc => ?_)
    · have h := Eq.mp (if_pos hc) h
      refine lv_iload_n hx hb dX4_takeBest_107 rfl (lv_at hl 3 rfl) ?_
      refine lv_iconst (v := (-1)) hx hb dX4_takeBest_108 (by decide) ?_
      refine lv_icmp_ne (tgt := 114) hx hb dX4_takeBest_109 (by decide) (fun hc => ?_) (fun hc => ?_)
      · have h := Eq.mp (if_neg hc) h
        refine lv_aload_n hx hb dX4_takeBest_114 rfl (lv_at hl 1 rfl) ?_
        refine lv_iload_n hx hb dX4_takeBest_115 rfl (lv_at hl 3 rfl) ?_
        refine lv_iload hx hb dX4_takeBest_116 (lv_at hl 4 rfl) ?_
        refine lv_iconst (v := 5) hx hb dX4_takeBest_118 (by decide) ?_
        refine hm_idiv hx hb dX4_takeBest_119 (by decide) ?_
        refine lv_iload hx hb dX4_takeBest_120 (lv_at hl 4 rfl) ?_
        refine lv_iconst (v := 5) hx hb dX4_takeBest_122 (by decide) ?_
        refine hm_irem hx hb dX4_takeBest_123 (by decide) ?_
        refine hm_callv hw (hm_runV (rest := []) hcl X hw (cNet_setGuess hcl hn1 h) yk_X5_setGuess kw1305 rfl hn1.1 rfl hl.1 rfl rfl rfl (Nat.le_of_ble_eq_true rfl) ⟨Nat.le_trans (Nat.le_of_ble_eq_true rfl) hR.1, Nat.le_trans (Nat.le_of_ble_eq_true rfl) hR.2⟩ ⟨Nat.zero_le _, Nat.zero_le _⟩ dX4_takeBest_124) (fun u2 H locs hp hw => ?_)
        obtain ⟨I1, rfl, h⟩ := hp
        refine lv_iconst (v := 1) hx hb dX4_takeBest_127 (by decide) ?_
        exact hm_zret X hr hlk hw zb_1 ⟨_, rfl, h⟩ dX4_takeBest_128
      · have h := Eq.mp (if_pos hc) h
        refine lv_iconst (v := 0) hx hb dX4_takeBest_112 (by decide) ?_
        exact hm_zret X hr hlk hw zb_0 ⟨_, rfl, h⟩ dX4_takeBest_113
    · have h := Eq.mp (if_neg hc) h
      refine lv_aload_n hx hb dX4_takeBest_22 rfl (lv_at hl 1 rfl) ?_
      refine lv_iload hx hb dX4_takeBest_23 (lv_at hl 6 rfl) ?_
      refine hm_calli hw (hm_runV (rest := []) hcl X hw (cNet_hasTable hcl hn1 h) yk_X5_hasTable kw1290 rfl hn1.1 rfl hl.1 rfl rfl rfl (Nat.le_of_ble_eq_true rfl) ⟨Nat.le_trans (Nat.le_of_ble_eq_true rfl) hR.1, Nat.le_trans (Nat.le_of_ble_eq_true rfl) hR.2⟩ ⟨Nat.zero_le _, Nat.zero_le _⟩ dX4_takeBest_25) (fun a3 u4 H locs hp hw => ?_)
      obtain ⟨rfl, h⟩ := hp
      refine lv_if_eq (tgt := 43) hx hb dX4_takeBest_28 (by decide) (fun hc => ?_) (fun hc => ?_)
      · have h := Eq.mp (if_pos hc) h
        refine lv_iconst (v := 0) hx hb dX4_takeBest_43 (by decide) ?_
        refine lv_istore (lv' := [(7, _), (0, _), (1, _), (2, _), (3, _), (4, _), (5, _), (6, _)]) hx hb dX4_takeBest_44 hl (by decide) rfl (fun ls hl => ?_)
        refine lv_iconst (v := 0) hx hb dX4_takeBest_46 (by decide) ?_
        refine lv_istore (lv' := [(8, _), (7, _), (0, _), (1, _), (2, _), (3, _), (4, _), (5, _), (6, _)]) hx hb dX4_takeBest_47 hl (by decide) rfl (fun ls hl => ?_)
        obtain ⟨n2, h⟩ := h
        exact wkMen_takeBest_l49 X hr hlk hR hcl hG hn1 ih n2 _ _ _ _ h hw (lv_sub hl [2, 3, 4, 5, 6, 7, 8, 1, 0] rfl)
      · have h := Eq.mp (if_neg hc) h
        refine lv_aload_n hx hb dX4_takeBest_31 rfl (lv_at hl 1 rfl) ?_
        refine hm_getr X hw lk_4_81 hn1.1 (nsf_6 hn1) dX4_takeBest_32 ?_
        refine lv_iload hx hb dX4_takeBest_35 (lv_at hl 6 rfl) ?_
        obtain ⟨hi, h⟩ := h
        refine hm_iald X hw (nsm_6 hn1) hi dX4_takeBest_37 ?_
        refine lv_iconst (v := 5) hx hb dX4_takeBest_38 (by decide) ?_
        refine lv_imul hx hb dX4_takeBest_39 ?_
        refine lv_goto (tgt := 44) hx hb dX4_takeBest_40 (by decide) ?_
        refine lv_istore (lv' := [(7, _), (0, _), (1, _), (2, _), (3, _), (4, _), (5, _), (6, _)]) hx hb dX4_takeBest_44 hl (by decide) rfl (fun ls hl => ?_)
        refine lv_iconst (v := 0) hx hb dX4_takeBest_46 (by decide) ?_
        refine lv_istore (lv' := [(8, _), (7, _), (0, _), (1, _), (2, _), (3, _), (4, _), (5, _), (6, _)]) hx hb dX4_takeBest_47 hl (by decide) rfl (fun ls hl => ?_)
        obtain ⟨n2, h⟩ := h
        exact wkMen_takeBest_l49 X hr hlk hR hcl hG hn1 ih n2 _ _ _ _ h hw (lv_sub hl [2, 3, 4, 5, 6, 7, 8, 1, 0] rfl)

theorem cMen_takeBest {l : Launch} {D : va_G} {cA : Nat → ClassId} {z sz : Nat} {I : HI} {T : HR} {F : HR} {L : HL} {r1 : Nat} {Q : Int32 → HI → Prop} (hcl : hCl Ev) (hG : Geo F L) (hn1 : NetSh F L r1) (h : Men_takeBest I T r1 Q) : Met l yX4_takeBest (hws0 yX4_takeBest cX4_takeBest 9 (some .boolean)) { frames := 1, cells := 0, slots := 0, locals := 23 } (hPc D cA z Ev (I, J, T, F, L) sz [.ref (z + 48), .ref (z + r1)]) (va_Qi (pI J T F L Q) (hB D cA z (hA z L sz)) (hA z L sz)) 0 0 (hA z L sz) := by
  refine hm_met (I, J, T, F, L) [.ref (z + 48), .ref (z + r1)] rfl (by decide) (Nat.le_of_ble_eq_true rfl) ?_
  intro p e s m below meth c ls X hr hlk hnm hxt hsz hw hl
  have hl : lv_has ls 9 [(0, .ref (z + 48)), (1, .ref (z + r1))] := hl
  have hR : 1 ≤ ({ frames := 1, cells := 0, slots := 0, locals := 23 } : Room).frames ∧ 23 ≤ ({ frames := 1, cells := 0, slots := 0, locals := 23 } : Room).locals := ⟨Nat.le_refl _, Nat.le_refl _⟩
  generalize ({ frames := 1, cells := 0, slots := 0, locals := 23 } : Room) = R at hR ⊢
  clear hsz
  generalize (hA z L sz) = A at hw ⊢
  have hx := X.1
  have hb := X.2.1
  unfold Men_takeBest at h
  refine lv_iconst (v := 0) hx hb dX4_takeBest_0 (by decide) ?_
  refine lv_istore_n (lv' := [(2, _), (0, _), (1, _)]) hx hb dX4_takeBest_1 rfl hl (by decide) rfl (fun ls hl => ?_)
  refine lv_iconst (v := (-1)) hx hb dX4_takeBest_2 (by decide) ?_
  refine lv_istore_n (lv' := [(3, _), (2, _), (0, _), (1, _)]) hx hb dX4_takeBest_3 rfl hl (by decide) rfl (fun ls hl => ?_)
  refine lv_iconst (v := 0) hx hb dX4_takeBest_4 (by decide) ?_
  refine lv_istore (lv' := [(4, _), (3, _), (2, _), (0, _), (1, _)]) hx hb dX4_takeBest_5 hl (by decide) rfl (fun ls hl => ?_)
  refine lv_iconst (v := 0) hx hb dX4_takeBest_7 (by decide) ?_
  refine lv_istore (lv' := [(5, _), (4, _), (3, _), (2, _), (0, _), (1, _)]) hx hb dX4_takeBest_8 hl (by decide) rfl (fun ls hl => ?_)
  refine lv_iconst (v := 0) hx hb dX4_takeBest_10 (by decide) ?_
  refine lv_istore (lv' := [(6, _), (5, _), (4, _), (3, _), (2, _), (0, _), (1, _)]) hx hb dX4_takeBest_11 hl (by decide) rfl (fun ls hl => ?_)
  obtain ⟨n2, h⟩ := h
  exact wkMen_takeBest_l13 X hr hlk hR hcl hG hn1  n2 _ _ _ _ _ h hw (lv_sub hl [5, 6, 4, 3, 2, 1, 0] rfl)

theorem wkMen_mendOne_l10 {T : HR} {F : HR} {L : HL} {r1 : Nat} {Q : Int32 → HI → Prop} (X : hX p m c s args RX4 cX4_mendOne 4) (hr : meth.sig.returnType = (some .boolean)) (hlk : meth.locks = false) (hR : 6 ≤ R.frames ∧ 149 ≤ R.locals) (hcl : hCl Ev) (hG : Geo F L) (hn1 : NetSh F L r1)  : ∀ (n : Nat) (I : HI) (x3 : Int32) {ls : Array Slot} {H : Heap} {locs : List Loc}, Men_mendOne_l10 T F L r1 Q n I x3 → hW D cA z Ev (I, J, T, F, L) A s H locs → lv_has ls 4 [(0, .ref (z + 48)), (1, .ref (z + r1)), (2, .ref (z + 23)), (3, .int x3)] → W p l e R s m args below meth c H locs 0 0 (MQ below (va_Qi (pI J T F L Q) (hB D cA z A) A) args s 0 0 A) (F0 m 10 ls []) := by
  have hx := X.1
  have hb := X.2.1
  intro n
  induction n with
  | zero => intro I x3 ls H locs h; exact False.elim h
  | succ n ih =>
    intro I x3 ls H locs h hw hl
    rw [Men_mendOne_l10] at h
    refine lv_iload_n hx hb dX4_mendOne_10 rfl (lv_at hl 3 rfl) ?_
    refine lv_aload_n hx hb dX4_mendOne_11 rfl (lv_at hl 1 rfl) ?_
    refine hm_geti X hw lk_4_31 hn1.1 dX4_mendOne_12 ?_
    refine lv_icmp_ge (tgt := 56) hx hb dX4_mendOne_15 (by decide) (fun hc => ?_) (fun hc => ?_)
    · have h := Eq.mp (if_pos hc) h
      refine lv_aload_n hx hb dX4_mendOne_56 rfl (lv_at hl 0 rfl) ?_
      refine lv_aload_n hx hb dX4_mendOne_57 rfl (lv_at hl 1 rfl) ?_
      refine hm_calli hw (hm_runV (rest := []) hcl X hw (cMen_takeBest hcl hG hn1 h) yk_X4_takeBest kw1301 rfl (gl_48 hG) rfl hl.1 rfl rfl rfl (Nat.le_of_ble_eq_true rfl) ⟨Nat.le_trans (Nat.le_of_ble_eq_true rfl) hR.1, Nat.le_trans (Nat.le_of_ble_eq_true rfl) hR.2⟩ ⟨Nat.zero_le _, Nat.zero_le _⟩ dX4_mendOne_58) (fun a3 u5 H locs hp hw => ?_)
      obtain ⟨I4, rfl, h⟩ := hp
      obtain ⟨hz, h⟩ := h
      exact hm_zret X hr hlk hw hz ⟨_, rfl, h⟩ dX4_mendOne_61
    · have h := Eq.mp (if_neg hc) h
      refine lv_aload_n hx hb dX4_mendOne_18 rfl (lv_at hl 0 rfl) ?_
      refine hm_getr X hw lk_4_18 (gl_48 hG) (gf_48_1 hG) dX4_mendOne_19 ?_
      refine lv_aload_n hx hb dX4_mendOne_22 rfl (lv_at hl 1 rfl) ?_
      refine lv_iload_n hx hb dX4_mendOne_23 rfl (lv_at hl 3 rfl) ?_
      refine hm_callv hw (hm_runV (rest := []) hcl X hw (cSc_play hcl (geo_played hG) hn1 h) yk_X7_play kw1278 rfl (gl_50 hG) rfl hl.1 rfl rfl rfl (Nat.le_of_ble_eq_true rfl) ⟨Nat.le_trans (Nat.le_of_ble_eq_true rfl) hR.1, Nat.le_trans (Nat.le_of_ble_eq_true rfl) hR.2⟩ ⟨Nat.zero_le _, Nat.zero_le _⟩ dX4_mendOne_24) (fun u7 H locs hp hw => ?_)
      obtain ⟨I6, rfl, h⟩ := hp
      refine lv_aload_n hx hb dX4_mendOne_27 rfl (lv_at hl 2 rfl) ?_
      refine lv_aload_n hx hb dX4_mendOne_28 rfl (lv_at hl 0 rfl) ?_
      refine hm_getr X hw lk_4_18 (gl_48 hG) (gf_48_1 hG) dX4_mendOne_29 ?_
      refine lv_aload_n hx hb dX4_mendOne_32 rfl (lv_at hl 1 rfl) ?_
      refine hm_geti X hw lk_4_41 hn1.1 dX4_mendOne_33 ?_
      refine hm_calll hw (hm_runV (rest := []) hcl X hw (cJud_weigh hcl hG (geo_played hG) h) yk_X2_weigh kw1279 rfl (gl_23 hG) rfl hl.1 rfl rfl rfl (Nat.le_of_ble_eq_true rfl) ⟨Nat.le_trans (Nat.le_of_ble_eq_true rfl) hR.1, Nat.le_trans (Nat.le_of_ble_eq_true rfl) hR.2⟩ ⟨Nat.zero_le _, Nat.zero_le _⟩ dX4_mendOne_36) (fun a8 u10 H locs hp hw => ?_)
      obtain ⟨I9, rfl, h⟩ := hp
      refine lv_lconst (v := 0) hx hb dX4_mendOne_39 (by decide) ?_
      refine W.lcmp hx hb dX4_mendOne_40 ?_
      refine lv_if_le (tgt := 50) hx hb dX4_mendOne_41 (by decide) (fun hc => ?_) (fun hc => ?_)
      · have h := Eq.mp (if_pos hc) h
        refine lv_iinc (v := x3 + 1) (lv' := [(3, _), (0, _), (1, _), (2, _)]) hx hb dX4_mendOne_50 hl (k := 3) rfl rfl (by decide) rfl (fun ls hl => ?_)
        refine lv_goto (tgt := 10) hx hb dX4_mendOne_53 (by decide) ?_
        exact ih _ _ h hw (lv_sub hl [1, 2, 3, 0] rfl)
      · have h := Eq.mp (if_neg hc) h
        refine lv_aload_n hx hb dX4_mendOne_44 rfl (lv_at hl 0 rfl) ?_
        refine lv_aload_n hx hb dX4_mendOne_45 rfl (lv_at hl 1 rfl) ?_
        refine lv_aload_n hx hb dX4_mendOne_46 rfl (lv_at hl 2 rfl) ?_
        refine hm_callv hw (hm_runV (rest := []) hcl X hw (cMen_noteGains hcl hG hn1 h) yk_X4_noteGains kw1280 rfl (gl_48 hG) rfl hl.1 rfl rfl rfl (Nat.le_of_ble_eq_true rfl) ⟨Nat.le_trans (Nat.le_of_ble_eq_true rfl) hR.1, Nat.le_trans (Nat.le_of_ble_eq_true rfl) hR.2⟩ ⟨Nat.zero_le _, Nat.zero_le _⟩ dX4_mendOne_47) (fun u12 H locs hp hw => ?_)
        obtain ⟨I11, rfl, h⟩ := hp
        refine lv_iinc (v := x3 + 1) (lv' := [(3, _), (0, _), (1, _), (2, _)]) hx hb dX4_mendOne_50 hl (k := 3) rfl rfl (by decide) rfl (fun ls hl => ?_)
        refine lv_goto (tgt := 10) hx hb dX4_mendOne_53 (by decide) ?_
        exact ih _ _ h hw (lv_sub hl [1, 2, 3, 0] rfl)

theorem cMen_mendOne {l : Launch} {D : va_G} {cA : Nat → ClassId} {z sz : Nat} {I : HI} {T : HR} {F : HR} {L : HL} {r1 : Nat} {Q : Int32 → HI → Prop} (hcl : hCl Ev) (hG : Geo F L) (hn1 : NetSh F L r1) (h : Men_mendOne I T F L r1 Q) : Met l yX4_mendOne (hws0 yX4_mendOne cX4_mendOne 4 (some .boolean)) { frames := 6, cells := 0, slots := 0, locals := 149 } (hPc D cA z Ev (I, J, T, F, L) sz [.ref (z + 48), .ref (z + r1), .ref (z + 23)]) (va_Qi (pI J T F L Q) (hB D cA z (hA z L sz)) (hA z L sz)) 0 0 (hA z L sz) := by
  refine hm_met (I, J, T, F, L) [.ref (z + 48), .ref (z + r1), .ref (z + 23)] rfl (by decide) (Nat.le_of_ble_eq_true rfl) ?_
  intro p e s m below meth c ls X hr hlk hnm hxt hsz hw hl
  have hl : lv_has ls 4 [(0, .ref (z + 48)), (1, .ref (z + r1)), (2, .ref (z + 23))] := hl
  have hR : 6 ≤ ({ frames := 6, cells := 0, slots := 0, locals := 149 } : Room).frames ∧ 149 ≤ ({ frames := 6, cells := 0, slots := 0, locals := 149 } : Room).locals := ⟨Nat.le_refl _, Nat.le_refl _⟩
  generalize ({ frames := 6, cells := 0, slots := 0, locals := 149 } : Room) = R at hR ⊢
  clear hsz
  generalize (hA z L sz) = A at hw ⊢
  have hx := X.1
  have hb := X.2.1
  unfold Men_mendOne at h
  refine lv_aload_n hx hb dX4_mendOne_0 rfl (lv_at hl 0 rfl) ?_
  refine hm_getr X hw lk_4_11 (gl_48 hG) (gf_48_0 hG) dX4_mendOne_1 ?_
  refine lv_iconst (v := 0) hx hb dX4_mendOne_4 (by decide) ?_
  refine hm_callv hw (hm_runS (rest := []) hcl X hw (cJd_fillI hcl (gl_49 hG) h) yk_J7_fill_53178 kw1277 rfl hl.1 rfl rfl rfl (Nat.le_of_ble_eq_true rfl) ⟨Nat.le_trans (Nat.le_of_ble_eq_true rfl) hR.1, Nat.le_trans (Nat.le_of_ble_eq_true rfl) hR.2⟩ ⟨Nat.zero_le _, Nat.zero_le _⟩ dX4_mendOne_5) (fun u2 H locs hp hw => ?_)
  obtain ⟨I1, rfl, h⟩ := hp
  refine lv_iconst (v := 0) hx hb dX4_mendOne_8 (by decide) ?_
  refine lv_istore_n (lv' := [(3, _), (0, _), (1, _), (2, _)]) hx hb dX4_mendOne_9 rfl hl (by decide) rfl (fun ls hl => ?_)
  obtain ⟨n2, h⟩ := h
  exact wkMen_mendOne_l10 X hr hlk hR hcl hG hn1  n2 _ _ h hw (lv_sub hl [1, 2, 3, 0] rfl)

theorem wkNet_fits_l27 {I : HI} {T : HR} {F : HR} {L : HL} {x0 : Int32} {x1 : Int32} {Q : Int32 → Prop} (X : hX p m c s args RX5 cX5_fits 4) (hr : meth.sig.returnType = (some .boolean)) (hlk : meth.locks = false) (hR : 0 ≤ R.frames ∧ 0 ≤ R.locals) (hcl : hCl Ev)  : ∀ (n : Nat) (x2 : Int32) (x3 : Int32) {ls : Array Slot} {H : Heap} {locs : List Loc}, Net_fits_l27 x0 x1 Q n x2 x3 → hW D cA z Ev (I, J, T, F, L) A s H locs → lv_has ls 4 [(0, .int x0), (1, .int x1), (2, .int x2), (3, .int x3)] → W p l e R s m args below meth c H locs 0 0 (MQ below (va_Qi (p0 (I, J, T, F, L) Q) (hB D cA z A) A) args s 0 0 A) (F0 m 27 ls []) := by
  have hx := X.1
  have hb := X.2.1
  intro n
  induction n with
  | zero => intro x2 x3 ls H locs h; exact False.elim h
  | succ n ih =>
    intro x2 x3 ls H locs h hw hl
    rw [Net_fits_l27] at h
    refine lv_iload_n hx hb dX5_fits_27 rfl (lv_at hl 3 rfl) ?_
    refine lv_iload_n hx hb dX5_fits_28 rfl (lv_at hl 0 rfl) ?_
    refine lv_icmp_ge (tgt := 42) hx hb dX5_fits_29 (by decide) (fun hc => ?_) (fun hc => ?_)
    · have h := Eq.mp (if_pos hc) h
      refine lv_iload_n hx hb dX5_fits_42 rfl (lv_at hl 2 rfl) ?_
      refine lv_sipush (v := 6561) hx hb dX5_fits_43 (by decide) ?_
      refine lv_icmp_gt (tgt := 53) hx hb dX5_fits_46 (by decide) (fun hc => ?_) (fun hc => ?_)
      · have h := Eq.mp (if_pos hc) h
        refine lv_iconst (v := 0) hx hb dX5_fits_53 (by decide) ?_
        exact hm_zret X hr hlk hw zb_0 ⟨rfl, h⟩ dX5_fits_54
      · have h := Eq.mp (if_neg hc) h
        refine lv_iconst (v := 1) hx hb dX5_fits_49 (by decide) ?_
        refine lv_goto (tgt := 54) hx hb dX5_fits_50 (by decide) ?_
        exact hm_zret X hr hlk hw zb_1 ⟨rfl, h⟩ dX5_fits_54
    · have h := Eq.mp (if_neg hc) h
      refine lv_iload_n hx hb dX5_fits_32 rfl (lv_at hl 2 rfl) ?_
      refine lv_iload_n hx hb dX5_fits_33 rfl (lv_at hl 1 rfl) ?_
      refine lv_imul hx hb dX5_fits_34 ?_
      refine lv_istore_n (lv' := [(2, _), (0, _), (1, _), (3, _)]) hx hb dX5_fits_35 rfl hl (by decide) rfl (fun ls hl => ?_)
      refine lv_iinc (v := x3 + 1) (lv' := [(3, _), (2, _), (0, _), (1, _)]) hx hb dX5_fits_36 hl (k := 3) rfl rfl (by decide) rfl (fun ls hl => ?_)
      refine lv_goto (tgt := 27) hx hb dX5_fits_39 (by decide) ?_
      exact ih _ _ h hw (lv_sub hl [2, 3, 1, 0] rfl)

theorem cNet_fits {l : Launch} {D : va_G} {cA : Nat → ClassId} {z sz : Nat} {I : HI} {T : HR} {F : HR} {L : HL} {x0 : Int32} {x1 : Int32} {Q : Int32 → Prop} (hcl : hCl Ev) (h : Net_fits  x0 x1 Q) : Met l yX5_fits (hws0 yX5_fits cX5_fits 4 (some .boolean)) { frames := 0, cells := 0, slots := 0, locals := 0 } (hPc D cA z Ev (I, J, T, F, L) sz [.int x0, .int x1]) (va_Qi (p0 (I, J, T, F, L) Q) (hB D cA z (hA z L sz)) (hA z L sz)) 0 0 (hA z L sz) := by
  refine hm_met (I, J, T, F, L) [.int x0, .int x1] rfl (by decide) (Nat.le_of_ble_eq_true rfl) ?_
  intro p e s m below meth c ls X hr hlk hnm hxt hsz hw hl
  have hl : lv_has ls 4 [(0, .int x0), (1, .int x1)] := hl
  have hR : 0 ≤ ({ frames := 0, cells := 0, slots := 0, locals := 0 } : Room).frames ∧ 0 ≤ ({ frames := 0, cells := 0, slots := 0, locals := 0 } : Room).locals := ⟨Nat.le_refl _, Nat.le_refl _⟩
  generalize ({ frames := 0, cells := 0, slots := 0, locals := 0 } : Room) = R at hR ⊢
  clear hsz
  generalize (hA z L sz) = A at hw ⊢
  have hx := X.1
  have hb := X.2.1
  unfold Net_fits at h
  refine lv_iload_n hx hb dX5_fits_0 rfl (lv_at hl 0 rfl) ?_
  refine lv_iconst (v := 1) hx hb dX5_fits_1 (by decide) ?_
  refine lv_icmp_lt (tgt := 21) hx hb dX5_fits_2 (by decide) (fun hc => ?_) (fun hc => ?_)
  · have h := Eq.mp (if_pos hc) h
    refine lv_iconst (v := 0) hx hb dX5_fits_21 (by decide) ?_
    exact hm_zret X hr hlk hw zb_0 ⟨rfl, h⟩ dX5_fits_22
  · have h := Eq.mp (if_neg hc) h
    refine lv_iload_n hx hb dX5_fits_5 rfl (lv_at hl 0 rfl) ?_
    refine lv_bipush (v := 8) hx hb dX5_fits_6 (by decide) ?_
    refine lv_icmp_gt (tgt := 21) hx hb dX5_fits_8 (by decide) (fun hc => ?_) (fun hc => ?_)
    · have h := Eq.mp (if_pos hc) h
      refine lv_iconst (v := 0) hx hb dX5_fits_21 (by decide) ?_
      exact hm_zret X hr hlk hw zb_0 ⟨rfl, h⟩ dX5_fits_22
    · have h := Eq.mp (if_neg hc) h
      refine lv_iload_n hx hb dX5_fits_11 rfl (lv_at hl 1 rfl) ?_
      refine lv_iconst (v := 2) hx hb dX5_fits_12 (by decide) ?_
      refine lv_icmp_lt (tgt := 21) hx hb dX5_fits_13 (by decide) (fun hc => ?_) (fun hc => ?_)
      · have h := Eq.mp (if_pos hc) h
        refine lv_iconst (v := 0) hx hb dX5_fits_21 (by decide) ?_
        exact hm_zret X hr hlk hw zb_0 ⟨rfl, h⟩ dX5_fits_22
      · have h := Eq.mp (if_neg hc) h
        refine lv_iload_n hx hb dX5_fits_16 rfl (lv_at hl 1 rfl) ?_
        refine lv_iconst (v := 4) hx hb dX5_fits_17 (by decide) ?_
        refine lv_icmp_le (tgt := 23) hx hb dX5_fits_18 (by decide) (fun hc => ?_) (fun hc => ?_)
        · have h := Eq.mp (if_pos hc) h
          refine lv_iconst (v := 1) hx hb dX5_fits_23 (by decide) ?_
          refine lv_istore_n (lv' := [(2, _), (0, _), (1, _)]) hx hb dX5_fits_24 rfl hl (by decide) rfl (fun ls hl => ?_)
          refine lv_iconst (v := 0) hx hb dX5_fits_25 (by decide) ?_
          refine lv_istore_n (lv' := [(3, _), (2, _), (0, _), (1, _)]) hx hb dX5_fits_26 rfl hl (by decide) rfl (fun ls hl => ?_)
          obtain ⟨n2, h⟩ := h
          exact wkNet_fits_l27 X hr hlk hR hcl  n2 _ _ h hw (lv_sub hl [2, 3, 1, 0] rfl)
        · have h := Eq.mp (if_neg hc) h
          refine lv_iconst (v := 0) hx hb dX5_fits_21 (by decide) ?_
          exact hm_zret X hr hlk hw zb_0 ⟨rfl, h⟩ dX5_fits_22

theorem wkNet_open_l17 {T : HR} {F : HR} {L : HL} {r0 : Nat} {Q : HI → HR → Prop} (X : hX p m c s args RX5 cX5_open 4) (hr : meth.sig.returnType = none) (hlk : meth.locks = false) (hR : 4 ≤ R.frames ∧ 87 ≤ R.locals) (hcl : hCl Ev) (hn0 : NetSh F L r0)  : ∀ (n : Nat) (I : HI) (x3 : Int32) {ls : Array Slot} {H : Heap} {locs : List Loc}, Net_open_l17 T L r0 Q n I x3 → hW D cA z Ev (I, J, T, F, L) A s H locs → lv_has ls 4 [(0, .ref (z + r0)), (3, .int x3)] → W p l e R s m args below meth c H locs 0 0 (MQ below (va_Qv (pITv J F L Q) (hB D cA z A) A) args s 0 0 A) (F0 m 17 ls []) := by
  have hx := X.1
  have hb := X.2.1
  intro n
  induction n with
  | zero => intro I x3 ls H locs h; exact False.elim h
  | succ n ih =>
    intro I x3 ls H locs h hw hl
    rw [Net_open_l17] at h
    refine lv_iload_n hx hb dX5_open_17 rfl (lv_at hl 1 rfl) ?_
    refine lv_aload_n hx hb dX5_open_18 rfl (lv_at hl 0 rfl) ?_
    refine hm_geti X hw lk_5_44 hn0.1 dX5_open_19 ?_
    refine lv_icmp_ge (tgt := 44) hx hb dX5_open_22 (by decide) (fun hc => ?_) (fun hc => ?_)
    · have h := Eq.mp (if_pos hc) h
      refine lv_aload_n hx hb dX5_open_44 rfl (lv_at hl 0 rfl) ?_
      refine hm_callv hw (hm_runV (rest := []) hcl X hw (cNet_lookAtAllAtOnce hcl hn0 h) yk_X5_lookAtAllAtOnce kw146 rfl hn0.1 rfl hl.1 rfl rfl rfl (Nat.le_of_ble_eq_true rfl) ⟨Nat.le_trans (Nat.le_of_ble_eq_true rfl) hR.1, Nat.le_trans (Nat.le_of_ble_eq_true rfl) hR.2⟩ ⟨Nat.zero_le _, Nat.zero_le _⟩ dX5_open_45) (fun u3 H locs hp hw => ?_)
      obtain ⟨I1, T2, rfl, h⟩ := hp
      exact hm_vret X hr hlk hw ⟨_, _, rfl, h⟩ dX5_open_48
    · have h := Eq.mp (if_neg hc) h
      refine lv_aload_n hx hb dX5_open_25 rfl (lv_at hl 0 rfl) ?_
      refine lv_dup hx hb dX5_open_26 rfl ?_
      refine hm_geti X hw lk_5_51 hn0.1 dX5_open_27 ?_
      refine lv_aload_n hx hb dX5_open_30 rfl (lv_at hl 0 rfl) ?_
      refine hm_geti X hw lk_5_48 hn0.1 dX5_open_31 ?_
      refine lv_imul hx hb dX5_open_34 ?_
      refine hm_puti X hw lk_5_51 hn0.1 rfl rfl dX5_open_35 (fun H locs hw => ?_)
      refine lv_iinc (v := x3 + 1) (lv' := [(3, _), (0, _)]) hx hb dX5_open_38 hl (k := 1) rfl rfl (by decide) rfl (fun ls hl => ?_)
      refine lv_goto (tgt := 17) hx hb dX5_open_41 (by decide) ?_
      exact ih _ _ h hw (lv_sub hl [1, 0] rfl)

theorem cNet_open {l : Launch} {D : va_G} {cA : Nat → ClassId} {z sz : Nat} {I : HI} {T : HR} {F : HR} {L : HL} {r0 : Nat} {x1 : Int32} {x2 : Int32} {Q : HI → HR → Prop} (hcl : hCl Ev) (hn0 : NetSh F L r0) (h : Net_open I T L r0 x1 x2 Q) : Met l yX5_open (hws0 yX5_open cX5_open 4 none) { frames := 4, cells := 0, slots := 0, locals := 87 } (hPc D cA z Ev (I, J, T, F, L) sz [.ref (z + r0), .int x1, .int x2]) (va_Qv (pITv J F L Q) (hB D cA z (hA z L sz)) (hA z L sz)) 0 0 (hA z L sz) := by
  refine hm_met (I, J, T, F, L) [.ref (z + r0), .int x1, .int x2] rfl (by decide) (Nat.le_of_ble_eq_true rfl) ?_
  intro p e s m below meth c ls X hr hlk hnm hxt hsz hw hl
  have hl : lv_has ls 4 [(0, .ref (z + r0)), (1, .int x1), (2, .int x2)] := hl
  have hR : 4 ≤ ({ frames := 4, cells := 0, slots := 0, locals := 87 } : Room).frames ∧ 87 ≤ ({ frames := 4, cells := 0, slots := 0, locals := 87 } : Room).locals := ⟨Nat.le_refl _, Nat.le_refl _⟩
  generalize ({ frames := 4, cells := 0, slots := 0, locals := 87 } : Room) = R at hR ⊢
  clear hsz
  generalize (hA z L sz) = A at hw ⊢
  have hx := X.1
  have hb := X.2.1
  unfold Net_open at h
  refine lv_aload_n hx hb dX5_open_0 rfl (lv_at hl 0 rfl) ?_
  refine lv_iload_n hx hb dX5_open_1 rfl (lv_at hl 1 rfl) ?_
  refine hm_puti X hw lk_5_44 hn0.1 rfl rfl dX5_open_2 (fun H locs hw => ?_)
  refine lv_aload_n hx hb dX5_open_5 rfl (lv_at hl 0 rfl) ?_
  refine lv_iload_n hx hb dX5_open_6 rfl (lv_at hl 2 rfl) ?_
  refine hm_puti X hw lk_5_48 hn0.1 rfl rfl dX5_open_7 (fun H locs hw => ?_)
  refine lv_aload_n hx hb dX5_open_10 rfl (lv_at hl 0 rfl) ?_
  refine lv_iconst (v := 1) hx hb dX5_open_11 (by decide) ?_
  refine hm_puti X hw lk_5_51 hn0.1 rfl rfl dX5_open_12 (fun H locs hw => ?_)
  refine lv_iconst (v := 0) hx hb dX5_open_15 (by decide) ?_
  refine lv_istore_n (lv' := [(3, _), (0, _), (1, _), (2, _)]) hx hb dX5_open_16 rfl hl (by decide) rfl (fun ls hl => ?_)
  obtain ⟨n2, h⟩ := h
  exact wkNet_open_l17 X hr hlk hR hcl hn0  n2 _ _ h hw (lv_sub hl [1, 0] rfl)

theorem wkNet_copy_l122 {I : HI} {F : HR} {L : HL} {r0 : Nat} {r1 : Nat} {Q : HI → HR → Prop} (X : hX p m c s args RX5 cX5_copy 3) (hr : meth.sig.returnType = none) (hlk : meth.locks = false) (hR : 1 ≤ R.frames ∧ 100 ≤ R.locals) (hcl : hCl Ev) (hn0 : NetSh F L r0) (hn1 : NetSh F L r1)  : ∀ (n : Nat) (T : HR) (x2 : Int32) {ls : Array Slot} {H : Heap} {locs : List Loc}, Net_copy_l122 I L r0 r1 Q n T x2 → hW D cA z Ev (I, J, T, F, L) A s H locs → lv_has ls 3 [(0, .ref (z + r0)), (1, .ref (z + r1)), (2, .int x2)] → W p l e R s m args below meth c H locs 0 0 (MQ below (va_Qv (pITv J F L Q) (hB D cA z A) A) args s 0 0 A) (F0 m 122 ls []) := by
  have hx := X.1
  have hb := X.2.1
  intro n
  induction n with
  | zero => intro T x2 ls H locs h; exact False.elim h
  | succ n ih =>
    intro T x2 ls H locs h hw hl
    rw [Net_copy_l122] at h
    refine lv_iload_n hx hb dX5_copy_122 rfl (lv_at hl 2 rfl) ?_
    refine lv_bipush (v := 8) hx hb dX5_copy_123 (by decide) ?_
    refine lv_icmp_ge (tgt := 146) hx hb dX5_copy_125 (by decide) (fun hc => ?_) (fun hc => ?_)
    · have h := Eq.mp (if_pos hc) h
      exact hm_vret X hr hlk hw ⟨_, _, rfl, h⟩ dX5_copy_146
    · have h := Eq.mp (if_neg hc) h
      refine lv_aload_n hx hb dX5_copy_128 rfl (lv_at hl 0 rfl) ?_
      refine hm_getr X hw lk_5_29 hn0.1 (nsf_8 hn0) dX5_copy_129 ?_
      refine lv_iload_n hx hb dX5_copy_132 rfl (lv_at hl 2 rfl) ?_
      refine lv_aload_n hx hb dX5_copy_133 rfl (lv_at hl 1 rfl) ?_
      refine hm_getr X hw lk_5_29 hn1.1 (nsf_8 hn1) dX5_copy_134 ?_
      refine lv_iload_n hx hb dX5_copy_137 rfl (lv_at hl 2 rfl) ?_
      obtain ⟨hi, h⟩ := h
      refine hm_aldq5 X hw (nsm_8 hn1) hi dX5_copy_138 ?_
      obtain ⟨hi, h⟩ := h
      obtain ⟨hv, h⟩ := h
      refine hm_astq5 (v := (T (r1 + 6) (nx x2))) X hw (nsm_8 hn0) hv hi dX5_copy_139 (fun H locs hw => ?_)
      refine lv_iinc (v := x2 + 1) (lv' := [(2, _), (0, _), (1, _)]) hx hb dX5_copy_140 hl (k := 2) rfl rfl (by decide) rfl (fun ls hl => ?_)
      refine lv_goto (tgt := 122) hx hb dX5_copy_143 (by decide) ?_
      exact ih _ _ h hw (lv_sub hl [1, 2, 0] rfl)

theorem cNet_copy {l : Launch} {D : va_G} {cA : Nat → ClassId} {z sz : Nat} {I : HI} {T : HR} {F : HR} {L : HL} {r0 : Nat} {r1 : Nat} {Q : HI → HR → Prop} (hcl : hCl Ev) (hn0 : NetSh F L r0) (hn1 : NetSh F L r1) (h : Net_copy I T L r0 r1 Q) : Met l yX5_copy (hws0 yX5_copy cX5_copy 3 none) { frames := 1, cells := 0, slots := 0, locals := 100 } (hPc D cA z Ev (I, J, T, F, L) sz [.ref (z + r0), .ref (z + r1)]) (va_Qv (pITv J F L Q) (hB D cA z (hA z L sz)) (hA z L sz)) 0 0 (hA z L sz) := by
  refine hm_met (I, J, T, F, L) [.ref (z + r0), .ref (z + r1)] rfl (by decide) (Nat.le_of_ble_eq_true rfl) ?_
  intro p e s m below meth c ls X hr hlk hnm hxt hsz hw hl
  have hl : lv_has ls 3 [(0, .ref (z + r0)), (1, .ref (z + r1))] := hl
  have hR : 1 ≤ ({ frames := 1, cells := 0, slots := 0, locals := 100 } : Room).frames ∧ 100 ≤ ({ frames := 1, cells := 0, slots := 0, locals := 100 } : Room).locals := ⟨Nat.le_refl _, Nat.le_refl _⟩
  generalize ({ frames := 1, cells := 0, slots := 0, locals := 100 } : Room) = R at hR ⊢
  clear hsz
  generalize (hA z L sz) = A at hw ⊢
  have hx := X.1
  have hb := X.2.1
  unfold Net_copy at h
  refine lv_aload_n hx hb dX5_copy_0 rfl (lv_at hl 0 rfl) ?_
  refine lv_aload_n hx hb dX5_copy_1 rfl (lv_at hl 1 rfl) ?_
  refine hm_geti X hw lk_5_44 hn1.1 dX5_copy_2 ?_
  refine hm_puti X hw lk_5_44 hn0.1 rfl rfl dX5_copy_5 (fun H locs hw => ?_)
  refine lv_aload_n hx hb dX5_copy_8 rfl (lv_at hl 0 rfl) ?_
  refine lv_aload_n hx hb dX5_copy_9 rfl (lv_at hl 1 rfl) ?_
  refine hm_geti X hw lk_5_48 hn1.1 dX5_copy_10 ?_
  refine hm_puti X hw lk_5_48 hn0.1 rfl rfl dX5_copy_13 (fun H locs hw => ?_)
  refine lv_aload_n hx hb dX5_copy_16 rfl (lv_at hl 0 rfl) ?_
  refine lv_aload_n hx hb dX5_copy_17 rfl (lv_at hl 1 rfl) ?_
  refine hm_geti X hw lk_5_51 hn1.1 dX5_copy_18 ?_
  refine hm_puti X hw lk_5_51 hn0.1 rfl rfl dX5_copy_21 (fun H locs hw => ?_)
  refine lv_aload_n hx hb dX5_copy_24 rfl (lv_at hl 1 rfl) ?_
  refine hm_getr X hw lk_5_9 hn1.1 (nsf_3 hn1) dX5_copy_25 ?_
  refine lv_iconst (v := 0) hx hb dX5_copy_28 (by decide) ?_
  refine lv_aload_n hx hb dX5_copy_29 rfl (lv_at hl 0 rfl) ?_
  refine hm_getr X hw lk_5_9 hn0.1 (nsf_3 hn0) dX5_copy_30 ?_
  refine lv_iconst (v := 0) hx hb dX5_copy_33 (by decide) ?_
  refine lv_bipush (v := 8) hx hb dX5_copy_34 (by decide) ?_
  refine hm_cpy X hw 0 (Or.inl rfl) ⟨hl.2.1, hl.1⟩ kw830 (nsm_3 hn1) (nsm_3 hn0) (by decide) (by decide) (by decide) (by decide) (by decide) (Or.inl rfl) ⟨Nat.le_trans (Nat.le_of_ble_eq_true rfl) hR.1, Nat.le_trans (by decide) hR.2⟩ dX5_copy_36 (fun H locs hw => ?_)
  refine lv_aload_n hx hb dX5_copy_39 rfl (lv_at hl 1 rfl) ?_
  refine hm_getr X hw lk_5_15 hn1.1 (nsf_4 hn1) dX5_copy_40 ?_
  refine lv_iconst (v := 0) hx hb dX5_copy_43 (by decide) ?_
  refine lv_aload_n hx hb dX5_copy_44 rfl (lv_at hl 0 rfl) ?_
  refine hm_getr X hw lk_5_15 hn0.1 (nsf_4 hn0) dX5_copy_45 ?_
  refine lv_iconst (v := 0) hx hb dX5_copy_48 (by decide) ?_
  refine lv_bipush (v := 8) hx hb dX5_copy_49 (by decide) ?_
  refine hm_cpy X hw 0 (Or.inl rfl) ⟨hl.2.1, hl.1⟩ kw830 (nsm_4 hn1) (nsm_4 hn0) (by decide) (by decide) (by decide) (by decide) (by decide) (Or.inl rfl) ⟨Nat.le_trans (Nat.le_of_ble_eq_true rfl) hR.1, Nat.le_trans (by decide) hR.2⟩ dX5_copy_51 (fun H locs hw => ?_)
  refine lv_aload_n hx hb dX5_copy_54 rfl (lv_at hl 1 rfl) ?_
  refine hm_getr X hw lk_5_18 hn1.1 (nsf_5 hn1) dX5_copy_55 ?_
  refine lv_iconst (v := 0) hx hb dX5_copy_58 (by decide) ?_
  refine lv_aload_n hx hb dX5_copy_59 rfl (lv_at hl 0 rfl) ?_
  refine hm_getr X hw lk_5_18 hn0.1 (nsf_5 hn0) dX5_copy_60 ?_
  refine lv_iconst (v := 0) hx hb dX5_copy_63 (by decide) ?_
  refine lv_bipush (v := 8) hx hb dX5_copy_64 (by decide) ?_
  refine hm_cpy X hw 0 (Or.inl rfl) ⟨hl.2.1, hl.1⟩ kw830 (nsm_5 hn1) (nsm_5 hn0) (by decide) (by decide) (by decide) (by decide) (by decide) (Or.inl rfl) ⟨Nat.le_trans (Nat.le_of_ble_eq_true rfl) hR.1, Nat.le_trans (by decide) hR.2⟩ dX5_copy_66 (fun H locs hw => ?_)
  refine lv_aload_n hx hb dX5_copy_69 rfl (lv_at hl 1 rfl) ?_
  refine hm_getr X hw lk_5_21 hn1.1 (nsf_6 hn1) dX5_copy_70 ?_
  refine lv_iconst (v := 0) hx hb dX5_copy_73 (by decide) ?_
  refine lv_aload_n hx hb dX5_copy_74 rfl (lv_at hl 0 rfl) ?_
  refine hm_getr X hw lk_5_21 hn0.1 (nsf_6 hn0) dX5_copy_75 ?_
  refine lv_iconst (v := 0) hx hb dX5_copy_78 (by decide) ?_
  refine lv_bipush (v := 8) hx hb dX5_copy_79 (by decide) ?_
  refine hm_cpy X hw 0 (Or.inl rfl) ⟨hl.2.1, hl.1⟩ kw830 (nsm_6 hn1) (nsm_6 hn0) (by decide) (by decide) (by decide) (by decide) (by decide) (Or.inl rfl) ⟨Nat.le_trans (Nat.le_of_ble_eq_true rfl) hR.1, Nat.le_trans (by decide) hR.2⟩ dX5_copy_81 (fun H locs hw => ?_)
  refine lv_aload_n hx hb dX5_copy_84 rfl (lv_at hl 1 rfl) ?_
  refine hm_getr X hw lk_5_24 hn1.1 (nsf_7 hn1) dX5_copy_85 ?_
  refine lv_iconst (v := 0) hx hb dX5_copy_88 (by decide) ?_
  refine lv_aload_n hx hb dX5_copy_89 rfl (lv_at hl 0 rfl) ?_
  refine hm_getr X hw lk_5_24 hn0.1 (nsf_7 hn0) dX5_copy_90 ?_
  refine lv_iconst (v := 0) hx hb dX5_copy_93 (by decide) ?_
  refine lv_bipush (v := 8) hx hb dX5_copy_94 (by decide) ?_
  refine hm_cpy X hw 0 (Or.inl rfl) ⟨hl.2.1, hl.1⟩ kw830 (nsm_7 hn1) (nsm_7 hn0) (by decide) (by decide) (by decide) (by decide) (by decide) (Or.inl rfl) ⟨Nat.le_trans (Nat.le_of_ble_eq_true rfl) hR.1, Nat.le_trans (by decide) hR.2⟩ dX5_copy_96 (fun H locs hw => ?_)
  refine lv_aload_n hx hb dX5_copy_99 rfl (lv_at hl 1 rfl) ?_
  refine hm_getr X hw lk_5_33 hn1.1 (nsf_9 hn1) dX5_copy_100 ?_
  refine lv_iconst (v := 0) hx hb dX5_copy_103 (by decide) ?_
  refine lv_aload_n hx hb dX5_copy_104 rfl (lv_at hl 0 rfl) ?_
  refine hm_getr X hw lk_5_33 hn0.1 (nsf_9 hn0) dX5_copy_105 ?_
  refine lv_iconst (v := 0) hx hb dX5_copy_108 (by decide) ?_
  refine lv_aload_n hx hb dX5_copy_109 rfl (lv_at hl 0 rfl) ?_
  refine hm_geti X hw lk_5_44 hn0.1 dX5_copy_110 ?_
  refine lv_sipush (v := 1024) hx hb dX5_copy_113 (by decide) ?_
  refine lv_imul hx hb dX5_copy_116 ?_
  obtain ⟨hq1, hq2, hq3, hq4, h⟩ := h
  refine hm_cpy X hw 1 (Or.inr rfl) ⟨hl.2.1, hl.1⟩ kw830 (nsm_9 hn1) (nsm_9 hn0) (by decide) (by decide) hq1 hq2 hq3 (Or.inr hq4) ⟨Nat.le_trans (Nat.le_of_ble_eq_true rfl) hR.1, Nat.le_trans (by decide) hR.2⟩ dX5_copy_117 (fun H locs hw => ?_)
  refine lv_iconst (v := 0) hx hb dX5_copy_120 (by decide) ?_
  refine lv_istore_n (lv' := [(2, _), (0, _), (1, _)]) hx hb dX5_copy_121 rfl hl (by decide) rfl (fun ls hl => ?_)
  obtain ⟨n2, h⟩ := h
  exact wkNet_copy_l122 X hr hlk hR hcl hn0 hn1  n2 _ _ h hw (lv_sub hl [1, 2, 0] rfl)

theorem cNet_lookAt {l : Launch} {D : va_G} {cA : Nat → ClassId} {z sz : Nat} {I : HI} {T : HR} {F : HR} {L : HL} {r0 : Nat} {x1 : Int32} {x2 : Int32} {Q : HI → Prop} (hcl : hCl Ev) (hn0 : NetSh F L r0) (h : Net_lookAt I r0 x1 x2 Q) : Met l yX5_lookAt (hws0 yX5_lookAt cX5_lookAt 3 none) { frames := 2, cells := 0, slots := 0, locals := 45 } (hPc D cA z Ev (I, J, T, F, L) sz [.ref (z + r0), .int x1, .int x2]) (va_Qv (pIv J T F L Q) (hB D cA z (hA z L sz)) (hA z L sz)) 0 0 (hA z L sz) := by
  refine hm_met (I, J, T, F, L) [.ref (z + r0), .int x1, .int x2] rfl (by decide) (Nat.le_of_ble_eq_true rfl) ?_
  intro p e s m below meth c ls X hr hlk hnm hxt hsz hw hl
  have hl : lv_has ls 3 [(0, .ref (z + r0)), (1, .int x1), (2, .int x2)] := hl
  have hR : 2 ≤ ({ frames := 2, cells := 0, slots := 0, locals := 45 } : Room).frames ∧ 45 ≤ ({ frames := 2, cells := 0, slots := 0, locals := 45 } : Room).locals := ⟨Nat.le_refl _, Nat.le_refl _⟩
  generalize ({ frames := 2, cells := 0, slots := 0, locals := 45 } : Room) = R at hR ⊢
  clear hsz
  generalize (hA z L sz) = A at hw ⊢
  have hx := X.1
  have hb := X.2.1
  unfold Net_lookAt at h
  refine lv_aload_n hx hb dX5_lookAt_0 rfl (lv_at hl 0 rfl) ?_
  refine hm_getr X hw lk_5_9 hn0.1 (nsf_3 hn0) dX5_lookAt_1 ?_
  refine lv_iload_n hx hb dX5_lookAt_4 rfl (lv_at hl 1 rfl) ?_
  obtain ⟨hi, h⟩ := h
  refine hm_iald X hw (nsm_3 hn0) hi dX5_lookAt_5 ?_
  refine lv_iload_n hx hb dX5_lookAt_6 rfl (lv_at hl 2 rfl) ?_
  refine lv_icmp_eq (tgt := 22) hx hb dX5_lookAt_7 (by decide) (fun hc => ?_) (fun hc => ?_)
  · have h := Eq.mp (if_pos hc) h
    exact hm_vret X hr hlk hw ⟨_, rfl, h⟩ dX5_lookAt_22
  · have h := Eq.mp (if_neg hc) h
    refine lv_aload_n hx hb dX5_lookAt_10 rfl (lv_at hl 0 rfl) ?_
    refine hm_getr X hw lk_5_9 hn0.1 (nsf_3 hn0) dX5_lookAt_11 ?_
    refine lv_iload_n hx hb dX5_lookAt_14 rfl (lv_at hl 1 rfl) ?_
    refine lv_iload_n hx hb dX5_lookAt_15 rfl (lv_at hl 2 rfl) ?_
    obtain ⟨hi, h⟩ := h
    refine hm_iast X hw (nsm_3 hn0) hi dX5_lookAt_16 (fun H locs hw => ?_)
    refine lv_aload_n hx hb dX5_lookAt_17 rfl (lv_at hl 0 rfl) ?_
    refine lv_iload_n hx hb dX5_lookAt_18 rfl (lv_at hl 1 rfl) ?_
    refine hm_callv hw (hm_runV (rest := []) hcl X hw (cNet_clearTable hcl hn0 h) yk_X5_clearTable kw158 rfl hn0.1 rfl hl.1 rfl rfl rfl (Nat.le_of_ble_eq_true rfl) ⟨Nat.le_trans (Nat.le_of_ble_eq_true rfl) hR.1, Nat.le_trans (Nat.le_of_ble_eq_true rfl) hR.2⟩ ⟨Nat.zero_le _, Nat.zero_le _⟩ dX5_lookAt_19) (fun u2 H locs hp hw => ?_)
    obtain ⟨I1, rfl, h⟩ := hp
    exact hm_vret X hr hlk hw ⟨_, rfl, h⟩ dX5_lookAt_22

theorem wkNet_orderByRounds_l12 {T : HR} {F : HR} {L : HL} {r0 : Nat} {x2 : Int32} {K4 : HI → Int32 → Int32 → Prop} {Q : HI → Prop} (X : hX p m c s args RX5 cX5_orderByRounds 4) (hr : meth.sig.returnType = none) (hlk : meth.locks = false) (hR : 0 ≤ R.frames ∧ 0 ≤ R.locals) (hcl : hCl Ev) (hn0 : NetSh F L r0) (hK4 : ∀ (I : HI) (x1 : Int32) (x2 : Int32) {ls : Array Slot} {H : Heap} {locs : List Loc}, K4 I x1 x2 → hW D cA z Ev (I, J, T, F, L) A s H locs → lv_has ls 4 [(0, .ref (z + r0)), (1, .int x1), (2, .int x2)] → W p l e R s m args below meth c H locs 0 0 (MQ below (va_Qv (pIv J T F L Q) (hB D cA z A) A) args s 0 0 A) (F0 m 4 ls [])) : ∀ (n : Nat) (I : HI) (x1 : Int32) (x3 : Int32) {ls : Array Slot} {H : Heap} {locs : List Loc}, Net_orderByRounds_l12 r0 x2 K4 Q n I x1 x3 → hW D cA z Ev (I, J, T, F, L) A s H locs → lv_has ls 4 [(0, .ref (z + r0)), (1, .int x1), (2, .int x2), (3, .int x3)] → W p l e R s m args below meth c H locs 0 0 (MQ below (va_Qv (pIv J T F L Q) (hB D cA z A) A) args s 0 0 A) (F0 m 12 ls []) := by
  have hx := X.1
  have hb := X.2.1
  intro n
  induction n with
  | zero => intro I x1 x3 ls H locs h; exact False.elim h
  | succ n ih =>
    intro I x1 x3 ls H locs h hw hl
    rw [Net_orderByRounds_l12] at h
    refine lv_iload_n hx hb dX5_orderByRounds_12 rfl (lv_at hl 3 rfl) ?_
    refine lv_aload_n hx hb dX5_orderByRounds_13 rfl (lv_at hl 0 rfl) ?_
    refine hm_geti X hw lk_5_44 hn0.1 dX5_orderByRounds_14 ?_
    refine lv_icmp_ge (tgt := 46) hx hb dX5_orderByRounds_17 (by decide) (fun hc => ?_) (fun hc => ?_)
    · have h := Eq.mp (if_pos hc) h
      refine lv_iinc (v := x2 + 1) (lv' := [(2, _), (0, _), (1, _), (3, _)]) hx hb dX5_orderByRounds_46 hl (k := 2) rfl rfl (by decide) rfl (fun ls hl => ?_)
      refine lv_goto (tgt := 4) hx hb dX5_orderByRounds_49 (by decide) ?_
      exact hK4 _ _ _ h hw (lv_sub hl [1, 2, 0] rfl)
    · have h := Eq.mp (if_neg hc) h
      refine lv_aload_n hx hb dX5_orderByRounds_20 rfl (lv_at hl 0 rfl) ?_
      refine hm_getr X hw lk_5_15 hn0.1 (nsf_4 hn0) dX5_orderByRounds_21 ?_
      refine lv_iload_n hx hb dX5_orderByRounds_24 rfl (lv_at hl 3 rfl) ?_
      obtain ⟨hi, h⟩ := h
      refine hm_iald X hw (nsm_4 hn0) hi dX5_orderByRounds_25 ?_
      refine lv_iload_n hx hb dX5_orderByRounds_26 rfl (lv_at hl 2 rfl) ?_
      refine lv_icmp_ne (tgt := 40) hx hb dX5_orderByRounds_27 (by decide) (fun hc => ?_) (fun hc => ?_)
      · have h := Eq.mp (if_neg hc) h
        refine lv_iinc (v := x3 + 1) (lv' := [(3, _), (0, _), (1, _), (2, _)]) hx hb dX5_orderByRounds_40 hl (k := 3) rfl rfl (by decide) rfl (fun ls hl => ?_)
        refine lv_goto (tgt := 12) hx hb dX5_orderByRounds_43 (by decide) ?_
        exact ih _ _ _ h hw (lv_sub hl [1, 2, 3, 0] rfl)
      · have h := Eq.mp (if_pos hc) h
        refine lv_aload_n hx hb dX5_orderByRounds_30 rfl (lv_at hl 0 rfl) ?_
        refine hm_getr X hw lk_5_24 hn0.1 (nsf_7 hn0) dX5_orderByRounds_31 ?_
        refine lv_iload_n hx hb dX5_orderByRounds_34 rfl (lv_at hl 1 rfl) ?_
        refine lv_iload_n hx hb dX5_orderByRounds_35 rfl (lv_at hl 3 rfl) ?_
        obtain ⟨hi, h⟩ := h
        refine hm_iast X hw (nsm_7 hn0) hi dX5_orderByRounds_36 (fun H locs hw => ?_)
        refine lv_iinc (v := x1 + 1) (lv' := [(1, _), (0, _), (2, _), (3, _)]) hx hb dX5_orderByRounds_37 hl (k := 1) rfl rfl (by decide) rfl (fun ls hl => ?_)
        refine lv_iinc (v := x3 + 1) (lv' := [(3, _), (1, _), (0, _), (2, _)]) hx hb dX5_orderByRounds_40 hl (k := 3) rfl rfl (by decide) rfl (fun ls hl => ?_)
        refine lv_goto (tgt := 12) hx hb dX5_orderByRounds_43 (by decide) ?_
        exact ih _ _ _ h hw (lv_sub hl [2, 1, 3, 0] rfl)

theorem wkNet_orderByRounds_l4 {T : HR} {F : HR} {L : HL} {r0 : Nat} {Q : HI → Prop} (X : hX p m c s args RX5 cX5_orderByRounds 4) (hr : meth.sig.returnType = none) (hlk : meth.locks = false) (hR : 0 ≤ R.frames ∧ 0 ≤ R.locals) (hcl : hCl Ev) (hn0 : NetSh F L r0)  : ∀ (n : Nat) (I : HI) (x1 : Int32) (x2 : Int32) {ls : Array Slot} {H : Heap} {locs : List Loc}, Net_orderByRounds_l4 r0 Q n I x1 x2 → hW D cA z Ev (I, J, T, F, L) A s H locs → lv_has ls 4 [(0, .ref (z + r0)), (1, .int x1), (2, .int x2)] → W p l e R s m args below meth c H locs 0 0 (MQ below (va_Qv (pIv J T F L Q) (hB D cA z A) A) args s 0 0 A) (F0 m 4 ls []) := by
  have hx := X.1
  have hb := X.2.1
  intro n
  induction n with
  | zero => intro I x1 x2 ls H locs h; exact False.elim h
  | succ n ih =>
    intro I x1 x2 ls H locs h hw hl
    rw [Net_orderByRounds_l4] at h
    refine lv_iload_n hx hb dX5_orderByRounds_4 rfl (lv_at hl 2 rfl) ?_
    refine lv_bipush (v := 7) hx hb dX5_orderByRounds_5 (by decide) ?_
    refine lv_icmp_gt (tgt := 52) hx hb dX5_orderByRounds_7 (by decide) (fun hc => ?_) (fun hc => ?_)
    · have h := Eq.mp (if_pos hc) h
      exact hm_vret X hr hlk hw ⟨_, rfl, h⟩ dX5_orderByRounds_52
    · have h := Eq.mp (if_neg hc) h
      refine lv_iconst (v := 0) hx hb dX5_orderByRounds_10 (by decide) ?_
      refine lv_istore_n (lv' := [(3, _), (0, _), (1, _), (2, _)]) hx hb dX5_orderByRounds_11 rfl hl (by decide) rfl (fun ls hl => ?_)
      obtain ⟨n2, h⟩ := h
      exact wkNet_orderByRounds_l12 X hr hlk hR hcl hn0 ih n2 _ _ _ h hw (lv_sub hl [1, 2, 3, 0] rfl)

theorem cNet_orderByRounds {l : Launch} {D : va_G} {cA : Nat → ClassId} {z sz : Nat} {I : HI} {T : HR} {F : HR} {L : HL} {r0 : Nat} {Q : HI → Prop} (hcl : hCl Ev) (hn0 : NetSh F L r0) (h : Net_orderByRounds I r0 Q) : Met l yX5_orderByRounds (hws0 yX5_orderByRounds cX5_orderByRounds 4 none) { frames := 0, cells := 0, slots := 0, locals := 0 } (hPc D cA z Ev (I, J, T, F, L) sz [.ref (z + r0)]) (va_Qv (pIv J T F L Q) (hB D cA z (hA z L sz)) (hA z L sz)) 0 0 (hA z L sz) := by
  refine hm_met (I, J, T, F, L) [.ref (z + r0)] rfl (by decide) (Nat.le_of_ble_eq_true rfl) ?_
  intro p e s m below meth c ls X hr hlk hnm hxt hsz hw hl
  have hl : lv_has ls 4 [(0, .ref (z + r0))] := hl
  have hR : 0 ≤ ({ frames := 0, cells := 0, slots := 0, locals := 0 } : Room).frames ∧ 0 ≤ ({ frames := 0, cells := 0, slots := 0, locals := 0 } : Room).locals := ⟨Nat.le_refl _, Nat.le_refl _⟩
  generalize ({ frames := 0, cells := 0, slots := 0, locals := 0 } : Room) = R at hR ⊢
  clear hsz
  generalize (hA z L sz) = A at hw ⊢
  have hx := X.1
  have hb := X.2.1
  unfold Net_orderByRounds at h
  refine lv_iconst (v := 0) hx hb dX5_orderByRounds_0 (by decide) ?_
  refine lv_istore_n (lv' := [(1, _), (0, _)]) hx hb dX5_orderByRounds_1 rfl hl (by decide) rfl (fun ls hl => ?_)
  refine lv_iconst (v := 0) hx hb dX5_orderByRounds_2 (by decide) ?_
  refine lv_istore_n (lv' := [(2, _), (1, _), (0, _)]) hx hb dX5_orderByRounds_3 rfl hl (by decide) rfl (fun ls hl => ?_)
  obtain ⟨n2, h⟩ := h
  exact wkNet_orderByRounds_l4 X hr hlk hR hcl hn0  n2 _ _ _ h hw (lv_sub hl [2, 1, 0] rfl)

theorem wkNet_earlierThan_l4 {I : HI} {T : HR} {F : HR} {L : HL} {r0 : Nat} {x1 : Int32} {Q : Int32 → Prop} (X : hX p m c s args RX5 cX5_earlierThan 4) (hr : meth.sig.returnType = (some .int)) (hlk : meth.locks = false) (hR : 0 ≤ R.frames ∧ 0 ≤ R.locals) (hcl : hCl Ev) (hn0 : NetSh F L r0)  : ∀ (n : Nat) (x2 : Int32) (x3 : Int32) {ls : Array Slot} {H : Heap} {locs : List Loc}, Net_earlierThan_l4 I r0 x1 Q n x2 x3 → hW D cA z Ev (I, J, T, F, L) A s H locs → lv_has ls 4 [(0, .ref (z + r0)), (1, .int x1), (2, .int x2), (3, .int x3)] → W p l e R s m args below meth c H locs 0 0 (MQ below (va_Qi (p0 (I, J, T, F, L) Q) (hB D cA z A) A) args s 0 0 A) (F0 m 4 ls []) := by
  have hx := X.1
  have hb := X.2.1
  intro n
  induction n with
  | zero => intro x2 x3 ls H locs h; exact False.elim h
  | succ n ih =>
    intro x2 x3 ls H locs h hw hl
    rw [Net_earlierThan_l4] at h
    refine lv_iload_n hx hb dX5_earlierThan_4 rfl (lv_at hl 3 rfl) ?_
    refine lv_aload_n hx hb dX5_earlierThan_5 rfl (lv_at hl 0 rfl) ?_
    refine hm_geti X hw lk_5_44 hn0.1 dX5_earlierThan_6 ?_
    refine lv_icmp_ge (tgt := 34) hx hb dX5_earlierThan_9 (by decide) (fun hc => ?_) (fun hc => ?_)
    · have h := Eq.mp (if_pos hc) h
      refine lv_iload_n hx hb dX5_earlierThan_34 rfl (lv_at hl 2 rfl) ?_
      exact hm_iret X hr hlk hw ⟨rfl, h⟩ dX5_earlierThan_35
    · have h := Eq.mp (if_neg hc) h
      refine lv_aload_n hx hb dX5_earlierThan_12 rfl (lv_at hl 0 rfl) ?_
      refine hm_getr X hw lk_5_15 hn0.1 (nsf_4 hn0) dX5_earlierThan_13 ?_
      refine lv_iload_n hx hb dX5_earlierThan_16 rfl (lv_at hl 3 rfl) ?_
      obtain ⟨hi, h⟩ := h
      refine hm_iald X hw (nsm_4 hn0) hi dX5_earlierThan_17 ?_
      refine lv_iload_n hx hb dX5_earlierThan_18 rfl (lv_at hl 1 rfl) ?_
      refine lv_icmp_ge (tgt := 28) hx hb dX5_earlierThan_19 (by decide) (fun hc => ?_) (fun hc => ?_)
      · have h := Eq.mp (if_pos hc) h
        refine lv_iinc (v := x3 + 1) (lv' := [(3, _), (0, _), (1, _), (2, _)]) hx hb dX5_earlierThan_28 hl (k := 3) rfl rfl (by decide) rfl (fun ls hl => ?_)
        refine lv_goto (tgt := 4) hx hb dX5_earlierThan_31 (by decide) ?_
        exact ih _ _ h hw (lv_sub hl [1, 2, 3, 0] rfl)
      · have h := Eq.mp (if_neg hc) h
        refine lv_iload_n hx hb dX5_earlierThan_22 rfl (lv_at hl 2 rfl) ?_
        refine lv_iconst (v := 1) hx hb dX5_earlierThan_23 (by decide) ?_
        refine lv_iload_n hx hb dX5_earlierThan_24 rfl (lv_at hl 3 rfl) ?_
        refine lv_ishl hx hb dX5_earlierThan_25 ?_
        refine lv_ior hx hb dX5_earlierThan_26 ?_
        refine lv_istore_n (lv' := [(2, _), (0, _), (1, _), (3, _)]) hx hb dX5_earlierThan_27 rfl hl (by decide) rfl (fun ls hl => ?_)
        refine lv_iinc (v := x3 + 1) (lv' := [(3, _), (2, _), (0, _), (1, _)]) hx hb dX5_earlierThan_28 hl (k := 3) rfl rfl (by decide) rfl (fun ls hl => ?_)
        refine lv_goto (tgt := 4) hx hb dX5_earlierThan_31 (by decide) ?_
        exact ih _ _ h hw (lv_sub hl [2, 3, 1, 0] rfl)

theorem cNet_earlierThan {l : Launch} {D : va_G} {cA : Nat → ClassId} {z sz : Nat} {I : HI} {T : HR} {F : HR} {L : HL} {r0 : Nat} {x1 : Int32} {Q : Int32 → Prop} (hcl : hCl Ev) (hn0 : NetSh F L r0) (h : Net_earlierThan I r0 x1 Q) : Met l yX5_earlierThan (hws0 yX5_earlierThan cX5_earlierThan 4 (some .int)) { frames := 0, cells := 0, slots := 0, locals := 0 } (hPc D cA z Ev (I, J, T, F, L) sz [.ref (z + r0), .int x1]) (va_Qi (p0 (I, J, T, F, L) Q) (hB D cA z (hA z L sz)) (hA z L sz)) 0 0 (hA z L sz) := by
  refine hm_met (I, J, T, F, L) [.ref (z + r0), .int x1] rfl (by decide) (Nat.le_of_ble_eq_true rfl) ?_
  intro p e s m below meth c ls X hr hlk hnm hxt hsz hw hl
  have hl : lv_has ls 4 [(0, .ref (z + r0)), (1, .int x1)] := hl
  have hR : 0 ≤ ({ frames := 0, cells := 0, slots := 0, locals := 0 } : Room).frames ∧ 0 ≤ ({ frames := 0, cells := 0, slots := 0, locals := 0 } : Room).locals := ⟨Nat.le_refl _, Nat.le_refl _⟩
  generalize ({ frames := 0, cells := 0, slots := 0, locals := 0 } : Room) = R at hR ⊢
  clear hsz
  generalize (hA z L sz) = A at hw ⊢
  have hx := X.1
  have hb := X.2.1
  unfold Net_earlierThan at h
  refine lv_iconst (v := 0) hx hb dX5_earlierThan_0 (by decide) ?_
  refine lv_istore_n (lv' := [(2, _), (0, _), (1, _)]) hx hb dX5_earlierThan_1 rfl hl (by decide) rfl (fun ls hl => ?_)
  refine lv_iconst (v := 0) hx hb dX5_earlierThan_2 (by decide) ?_
  refine lv_istore_n (lv' := [(3, _), (2, _), (0, _), (1, _)]) hx hb dX5_earlierThan_3 rfl hl (by decide) rfl (fun ls hl => ?_)
  obtain ⟨n2, h⟩ := h
  exact wkNet_earlierThan_l4 X hr hlk hR hcl hn0  n2 _ _ h hw (lv_sub hl [2, 3, 1, 0] rfl)

theorem wkNet_guessIn_l13 {T : HR} {F : HR} {L : HL} {r0 : Nat} {Q : HI → Prop} (X : hX p m c s args RX5 cX5_guessIn 5) (hr : meth.sig.returnType = none) (hlk : meth.locks = false) (hR : 2 ≤ R.frames ∧ 45 ≤ R.locals) (hcl : hCl Ev) (hn0 : NetSh F L r0)  : ∀ (n : Nat) (I : HI) (x3 : Int32) {ls : Array Slot} {H : Heap} {locs : List Loc}, Net_guessIn_l13 r0 Q n I x3 → hW D cA z Ev (I, J, T, F, L) A s H locs → lv_has ls 5 [(0, .ref (z + r0)), (3, .int x3)] → W p l e R s m args below meth c H locs 0 0 (MQ below (va_Qv (pIv J T F L Q) (hB D cA z A) A) args s 0 0 A) (F0 m 13 ls []) := by
  have hx := X.1
  have hb := X.2.1
  intro n
  induction n with
  | zero => intro I x3 ls H locs h; exact False.elim h
  | succ n ih =>
    intro I x3 ls H locs h hw hl
    rw [Net_guessIn_l13] at h
    refine lv_iload_n hx hb dX5_guessIn_13 rfl (lv_at hl 1 rfl) ?_
    refine lv_aload_n hx hb dX5_guessIn_14 rfl (lv_at hl 0 rfl) ?_
    refine hm_geti X hw lk_5_44 hn0.1 dX5_guessIn_15 ?_
    refine lv_icmp_ge (tgt := 63) hx hb dX5_guessIn_18 (by decide) (fun hc => ?_) (fun hc => ?_)
    · have h := Eq.mp (if_pos hc) h
      exact hm_vret X hr hlk hw ⟨_, rfl, h⟩ dX5_guessIn_63
    · have h := Eq.mp (if_neg hc) h
      refine lv_aload_n hx hb dX5_guessIn_21 rfl (lv_at hl 0 rfl) ?_
      refine lv_aload_n hx hb dX5_guessIn_22 rfl (lv_at hl 0 rfl) ?_
      refine hm_getr X hw lk_5_15 hn0.1 (nsf_4 hn0) dX5_guessIn_23 ?_
      refine lv_iload_n hx hb dX5_guessIn_26 rfl (lv_at hl 1 rfl) ?_
      obtain ⟨hi, h⟩ := h
      refine hm_iald X hw (nsm_4 hn0) hi dX5_guessIn_27 ?_
      refine hm_calli hw (hm_runV (rest := []) hcl X hw (cNet_earlierThan hcl hn0 h) yk_X5_earlierThan kw725 rfl hn0.1 rfl hl.1 rfl rfl rfl (Nat.le_of_ble_eq_true rfl) ⟨Nat.le_trans (Nat.le_of_ble_eq_true rfl) hR.1, Nat.le_trans (Nat.le_of_ble_eq_true rfl) hR.2⟩ ⟨Nat.zero_le _, Nat.zero_le _⟩ dX5_guessIn_28) (fun a3 u4 H locs hp hw => ?_)
      obtain ⟨rfl, h⟩ := hp
      refine lv_istore (lv' := [(4, _), (0, _), (3, _)]) hx hb dX5_guessIn_31 hl (by decide) rfl (fun ls hl => ?_)
      refine lv_aload_n hx hb dX5_guessIn_33 rfl (lv_at hl 1 rfl) ?_
      refine hm_getr X hw lk_5_18 hn0.1 (nsf_5 hn0) dX5_guessIn_34 ?_
      refine lv_iload_n hx hb dX5_guessIn_37 rfl (lv_at hl 2 rfl) ?_
      obtain ⟨hi, h⟩ := h
      refine hm_iald X hw (nsm_5 hn0) hi dX5_guessIn_38 ?_
      refine lv_iload hx hb dX5_guessIn_39 (lv_at hl 0 rfl) ?_
      refine lv_icmp_eq (tgt := 57) hx hb dX5_guessIn_41 (by decide) (fun hc => ?_) (fun hc => ?_)
      · have h := Eq.mp (if_pos hc) h
        refine lv_iinc (v := x3 + 1) (lv' := [(3, _), (4, _), (0, _)]) hx hb dX5_guessIn_57 hl (k := 2) rfl rfl (by decide) rfl (fun ls hl => ?_)
        refine lv_goto (tgt := 13) hx hb dX5_guessIn_60 (by decide) ?_
        exact ih _ _ h hw (lv_sub hl [2, 0] rfl)
      · have h := Eq.mp (if_neg hc) h
        refine lv_aload_n hx hb dX5_guessIn_44 rfl (lv_at hl 1 rfl) ?_
        refine hm_getr X hw lk_5_18 hn0.1 (nsf_5 hn0) dX5_guessIn_45 ?_
        refine lv_iload_n hx hb dX5_guessIn_48 rfl (lv_at hl 2 rfl) ?_
        refine lv_iload hx hb dX5_guessIn_49 (lv_at hl 0 rfl) ?_
        obtain ⟨hi, h⟩ := h
        refine hm_iast X hw (nsm_5 hn0) hi dX5_guessIn_51 (fun H locs hw => ?_)
        refine lv_aload_n hx hb dX5_guessIn_52 rfl (lv_at hl 1 rfl) ?_
        refine lv_iload_n hx hb dX5_guessIn_53 rfl (lv_at hl 2 rfl) ?_
        refine hm_callv hw (hm_runV (rest := []) hcl X hw (cNet_clearTable hcl hn0 h) yk_X5_clearTable kw158 rfl hn0.1 rfl hl.1 rfl rfl rfl (Nat.le_of_ble_eq_true rfl) ⟨Nat.le_trans (Nat.le_of_ble_eq_true rfl) hR.1, Nat.le_trans (Nat.le_of_ble_eq_true rfl) hR.2⟩ ⟨Nat.zero_le _, Nat.zero_le _⟩ dX5_guessIn_54) (fun u6 H locs hp hw => ?_)
        obtain ⟨I5, rfl, h⟩ := hp
        refine lv_iinc (v := x3 + 1) (lv' := [(3, _), (4, _), (0, _)]) hx hb dX5_guessIn_57 hl (k := 2) rfl rfl (by decide) rfl (fun ls hl => ?_)
        refine lv_goto (tgt := 13) hx hb dX5_guessIn_60 (by decide) ?_
        exact ih _ _ h hw (lv_sub hl [2, 0] rfl)

theorem cNet_guessIn {l : Launch} {D : va_G} {cA : Nat → ClassId} {z sz : Nat} {I : HI} {T : HR} {F : HR} {L : HL} {r0 : Nat} {x1 : Int32} {x2 : Int32} {Q : HI → Prop} (hcl : hCl Ev) (hn0 : NetSh F L r0) (h : Net_guessIn I r0 x1 x2 Q) : Met l yX5_guessIn (hws0 yX5_guessIn cX5_guessIn 5 none) { frames := 2, cells := 0, slots := 0, locals := 45 } (hPc D cA z Ev (I, J, T, F, L) sz [.ref (z + r0), .int x1, .int x2]) (va_Qv (pIv J T F L Q) (hB D cA z (hA z L sz)) (hA z L sz)) 0 0 (hA z L sz) := by
  refine hm_met (I, J, T, F, L) [.ref (z + r0), .int x1, .int x2] rfl (by decide) (Nat.le_of_ble_eq_true rfl) ?_
  intro p e s m below meth c ls X hr hlk hnm hxt hsz hw hl
  have hl : lv_has ls 5 [(0, .ref (z + r0)), (1, .int x1), (2, .int x2)] := hl
  have hR : 2 ≤ ({ frames := 2, cells := 0, slots := 0, locals := 45 } : Room).frames ∧ 45 ≤ ({ frames := 2, cells := 0, slots := 0, locals := 45 } : Room).locals := ⟨Nat.le_refl _, Nat.le_refl _⟩
  generalize ({ frames := 2, cells := 0, slots := 0, locals := 45 } : Room) = R at hR ⊢
  clear hsz
  generalize (hA z L sz) = A at hw ⊢
  have hx := X.1
  have hb := X.2.1
  unfold Net_guessIn at h
  refine lv_aload_n hx hb dX5_guessIn_0 rfl (lv_at hl 0 rfl) ?_
  refine hm_getr X hw lk_5_15 hn0.1 (nsf_4 hn0) dX5_guessIn_1 ?_
  refine lv_iload_n hx hb dX5_guessIn_4 rfl (lv_at hl 1 rfl) ?_
  refine lv_iload_n hx hb dX5_guessIn_5 rfl (lv_at hl 2 rfl) ?_
  obtain ⟨hi, h⟩ := h
  refine hm_iast X hw (nsm_4 hn0) hi dX5_guessIn_6 (fun H locs hw => ?_)
  refine lv_aload_n hx hb dX5_guessIn_7 rfl (lv_at hl 0 rfl) ?_
  refine hm_callv hw (hm_runV (rest := []) hcl X hw (cNet_orderByRounds hcl hn0 h) yk_X5_orderByRounds kw721 rfl hn0.1 rfl hl.1 rfl rfl rfl (Nat.le_of_ble_eq_true rfl) ⟨Nat.le_trans (Nat.le_of_ble_eq_true rfl) hR.1, Nat.le_trans (Nat.le_of_ble_eq_true rfl) hR.2⟩ ⟨Nat.zero_le _, Nat.zero_le _⟩ dX5_guessIn_8) (fun u2 H locs hp hw => ?_)
  obtain ⟨I1, rfl, h⟩ := hp
  refine lv_iconst (v := 0) hx hb dX5_guessIn_11 (by decide) ?_
  refine lv_istore_n (lv' := [(3, _), (0, _), (1, _), (2, _)]) hx hb dX5_guessIn_12 rfl hl (by decide) rfl (fun ls hl => ?_)
  obtain ⟨n2, h⟩ := h
  exact wkNet_guessIn_l13 X hr hlk hR hcl hn0  n2 _ _ h hw (lv_sub hl [1, 0] rfl)

theorem cNet_kindOfRule {l : Launch} {D : va_G} {cA : Nat → ClassId} {z sz : Nat} {I : HI} {T : HR} {F : HR} {L : HL} {r0 : Nat} {x1 : Int32} {Q : Int32 → Prop} (hcl : hCl Ev) (hn0 : NetSh F L r0) (h : Net_kindOfRule I T r0 x1 Q) : Met l yX5_kindOfRule (hws0 yX5_kindOfRule cX5_kindOfRule 2 (some .int)) { frames := 0, cells := 0, slots := 0, locals := 0 } (hPc D cA z Ev (I, J, T, F, L) sz [.ref (z + r0), .int x1]) (va_Qi (p0 (I, J, T, F, L) Q) (hB D cA z (hA z L sz)) (hA z L sz)) 0 0 (hA z L sz) := by
  refine hm_met (I, J, T, F, L) [.ref (z + r0), .int x1] rfl (by decide) (Nat.le_of_ble_eq_true rfl) ?_
  intro p e s m below meth c ls X hr hlk hnm hxt hsz hw hl
  have hl : lv_has ls 2 [(0, .ref (z + r0)), (1, .int x1)] := hl
  have hR : 0 ≤ ({ frames := 0, cells := 0, slots := 0, locals := 0 } : Room).frames ∧ 0 ≤ ({ frames := 0, cells := 0, slots := 0, locals := 0 } : Room).locals := ⟨Nat.le_refl _, Nat.le_refl _⟩
  generalize ({ frames := 0, cells := 0, slots := 0, locals := 0 } : Room) = R at hR ⊢
  clear hsz
  generalize (hA z L sz) = A at hw ⊢
  have hx := X.1
  have hb := X.2.1
  unfold Net_kindOfRule at h
  refine lv_aload_n hx hb dX5_kindOfRule_0 rfl (lv_at hl 0 rfl) ?_
  refine hm_getr X hw lk_5_29 hn0.1 (nsf_8 hn0) dX5_kindOfRule_1 ?_
  refine lv_iload_n hx hb dX5_kindOfRule_4 rfl (lv_at hl 1 rfl) ?_
  obtain ⟨hi, h⟩ := h
  refine hm_aldq5 X hw (nsm_8 hn0) hi dX5_kindOfRule_5 ?_
  refine hm_ifnull (tgt := 11) hx hb dX5_kindOfRule_6 (by decide) (fun he => ?_) (fun ef1 he => ?_)
  · have h := h.1 he
    refine lv_aload_n hx hb dX5_kindOfRule_11 rfl (lv_at hl 0 rfl) ?_
    refine hm_getr X hw lk_5_21 hn0.1 (nsf_6 hn0) dX5_kindOfRule_12 ?_
    refine lv_iload_n hx hb dX5_kindOfRule_15 rfl (lv_at hl 1 rfl) ?_
    obtain ⟨hi, h⟩ := h
    refine hm_iald X hw (nsm_6 hn0) hi dX5_kindOfRule_16 ?_
    refine lv_iconst (v := (-1)) hx hb dX5_kindOfRule_17 (by decide) ?_
    refine lv_icmp_ne (tgt := 25) hx hb dX5_kindOfRule_18 (by decide) (fun hc => ?_) (fun hc => ?_)
    · have h := Eq.mp (if_neg hc) h
      refine lv_iconst (v := 0) hx hb dX5_kindOfRule_25 (by decide) ?_
      exact hm_iret X hr hlk hw ⟨rfl, h⟩ dX5_kindOfRule_26
    · have h := Eq.mp (if_pos hc) h
      refine lv_iconst (v := 2) hx hb dX5_kindOfRule_21 (by decide) ?_
      refine lv_goto (tgt := 26) hx hb dX5_kindOfRule_22 (by decide) ?_
      exact hm_iret X hr hlk hw ⟨rfl, h⟩ dX5_kindOfRule_26
  · have h := h.2 ef1 he
    refine lv_iconst (v := 1) hx hb dX5_kindOfRule_9 (by decide) ?_
    exact hm_iret X hr hlk hw ⟨rfl, h⟩ dX5_kindOfRule_10

theorem wkNet_follow_l2 {I : HI} {F : HR} {L : HL} {r0 : Nat} {Q : HR → Prop} (X : hX p m c s args RX5 cX5_follow 3) (hr : meth.sig.returnType = none) (hlk : meth.locks = false) (hR : 0 ≤ R.frames ∧ 0 ≤ R.locals) (hcl : hCl Ev) (hG : Geo F L) (hn0 : NetSh F L r0)  : ∀ (n : Nat) (T : HR) (x2 : Int32) {ls : Array Slot} {H : Heap} {locs : List Loc}, Net_follow_l2 I L r0 Q n T x2 → hW D cA z Ev (I, J, T, F, L) A s H locs → lv_has ls 3 [(0, .ref (z + r0)), (1, .ref (z + 29)), (2, .int x2)] → W p l e R s m args below meth c H locs 0 0 (MQ below (va_Qv (pTv I J F L Q) (hB D cA z A) A) args s 0 0 A) (F0 m 2 ls []) := by
  have hx := X.1
  have hb := X.2.1
  intro n
  induction n with
  | zero => intro T x2 ls H locs h; exact False.elim h
  | succ n ih =>
    intro T x2 ls H locs h hw hl
    rw [Net_follow_l2] at h
    refine lv_iload_n hx hb dX5_follow_2 rfl (lv_at hl 2 rfl) ?_
    refine lv_aload_n hx hb dX5_follow_3 rfl (lv_at hl 0 rfl) ?_
    refine hm_geti X hw lk_5_44 hn0.1 dX5_follow_4 ?_
    refine lv_icmp_ge (tgt := 31) hx hb dX5_follow_7 (by decide) (fun hc => ?_) (fun hc => ?_)
    · have h := Eq.mp (if_pos hc) h
      exact hm_vret X hr hlk hw ⟨_, rfl, h⟩ dX5_follow_31
    · have h := Eq.mp (if_neg hc) h
      refine lv_aload_n hx hb dX5_follow_10 rfl (lv_at hl 1 rfl) ?_
      refine lv_iload_n hx hb dX5_follow_11 rfl (lv_at hl 2 rfl) ?_
      obtain ⟨hi, h⟩ := h
      refine hm_aldq5 X hw (gl_29 hG) hi dX5_follow_12 ?_
      refine hm_ifnull (tgt := 25) hx hb dX5_follow_13 (by decide) (fun he => ?_) (fun ef1 he => ?_)
      · have h := h.1 he
        refine lv_iinc (v := x2 + 1) (lv' := [(2, _), (0, _), (1, _)]) hx hb dX5_follow_25 hl (k := 2) rfl rfl (by decide) rfl (fun ls hl => ?_)
        refine lv_goto (tgt := 2) hx hb dX5_follow_28 (by decide) ?_
        exact ih _ _ h hw (lv_sub hl [1, 2, 0] rfl)
      · have h := h.2 ef1 he
        refine lv_aload_n hx hb dX5_follow_16 rfl (lv_at hl 0 rfl) ?_
        refine hm_getr X hw lk_5_29 hn0.1 (nsf_8 hn0) dX5_follow_17 ?_
        refine lv_iload_n hx hb dX5_follow_20 rfl (lv_at hl 2 rfl) ?_
        refine lv_aload_n hx hb dX5_follow_21 rfl (lv_at hl 1 rfl) ?_
        refine lv_iload_n hx hb dX5_follow_22 rfl (lv_at hl 2 rfl) ?_
        obtain ⟨hi, h⟩ := h
        refine hm_aldq5 X hw (gl_29 hG) hi dX5_follow_23 ?_
        obtain ⟨hi, h⟩ := h
        obtain ⟨hv, h⟩ := h
        refine hm_astq5 (v := (T 29 (nx x2))) X hw (nsm_8 hn0) hv hi dX5_follow_24 (fun H locs hw => ?_)
        refine lv_iinc (v := x2 + 1) (lv' := [(2, _), (0, _), (1, _)]) hx hb dX5_follow_25 hl (k := 2) rfl rfl (by decide) rfl (fun ls hl => ?_)
        refine lv_goto (tgt := 2) hx hb dX5_follow_28 (by decide) ?_
        exact ih _ _ h hw (lv_sub hl [1, 2, 0] rfl)

theorem cNet_follow {l : Launch} {D : va_G} {cA : Nat → ClassId} {z sz : Nat} {I : HI} {T : HR} {F : HR} {L : HL} {r0 : Nat} {Q : HR → Prop} (hcl : hCl Ev) (hG : Geo F L) (hn0 : NetSh F L r0) (h : Net_follow I T L r0 Q) : Met l yX5_follow (hws0 yX5_follow cX5_follow 3 none) { frames := 0, cells := 0, slots := 0, locals := 0 } (hPc D cA z Ev (I, J, T, F, L) sz [.ref (z + r0), .ref (z + 29)]) (va_Qv (pTv I J F L Q) (hB D cA z (hA z L sz)) (hA z L sz)) 0 0 (hA z L sz) := by
  refine hm_met (I, J, T, F, L) [.ref (z + r0), .ref (z + 29)] rfl (by decide) (Nat.le_of_ble_eq_true rfl) ?_
  intro p e s m below meth c ls X hr hlk hnm hxt hsz hw hl
  have hl : lv_has ls 3 [(0, .ref (z + r0)), (1, .ref (z + 29))] := hl
  have hR : 0 ≤ ({ frames := 0, cells := 0, slots := 0, locals := 0 } : Room).frames ∧ 0 ≤ ({ frames := 0, cells := 0, slots := 0, locals := 0 } : Room).locals := ⟨Nat.le_refl _, Nat.le_refl _⟩
  generalize ({ frames := 0, cells := 0, slots := 0, locals := 0 } : Room) = R at hR ⊢
  clear hsz
  generalize (hA z L sz) = A at hw ⊢
  have hx := X.1
  have hb := X.2.1
  unfold Net_follow at h
  refine lv_iconst (v := 0) hx hb dX5_follow_0 (by decide) ?_
  refine lv_istore_n (lv' := [(2, _), (0, _), (1, _)]) hx hb dX5_follow_1 rfl hl (by decide) rfl (fun ls hl => ?_)
  obtain ⟨n2, h⟩ := h
  exact wkNet_follow_l2 X hr hlk hR hcl hG hn0  n2 _ _ h hw (lv_sub hl [1, 2, 0] rfl)

theorem wkNet_countTexts_l4 {I : HI} {T : HR} {F : HR} {L : HL} {r0 : Nat} {Q : Int32 → Prop} (X : hX p m c s args RX5 cX5_countTexts 3) (hr : meth.sig.returnType = (some .int)) (hlk : meth.locks = false) (hR : 0 ≤ R.frames ∧ 0 ≤ R.locals) (hcl : hCl Ev) (hn0 : NetSh F L r0)  : ∀ (n : Nat) (x1 : Int32) (x2 : Int32) {ls : Array Slot} {H : Heap} {locs : List Loc}, Net_countTexts_l4 I T r0 Q n x1 x2 → hW D cA z Ev (I, J, T, F, L) A s H locs → lv_has ls 3 [(0, .ref (z + r0)), (1, .int x1), (2, .int x2)] → W p l e R s m args below meth c H locs 0 0 (MQ below (va_Qi (p0 (I, J, T, F, L) Q) (hB D cA z A) A) args s 0 0 A) (F0 m 4 ls []) := by
  have hx := X.1
  have hb := X.2.1
  intro n
  induction n with
  | zero => intro x1 x2 ls H locs h; exact False.elim h
  | succ n ih =>
    intro x1 x2 ls H locs h hw hl
    rw [Net_countTexts_l4] at h
    refine lv_iload_n hx hb dX5_countTexts_4 rfl (lv_at hl 2 rfl) ?_
    refine lv_aload_n hx hb dX5_countTexts_5 rfl (lv_at hl 0 rfl) ?_
    refine hm_geti X hw lk_5_44 hn0.1 dX5_countTexts_6 ?_
    refine lv_icmp_ge (tgt := 35) hx hb dX5_countTexts_9 (by decide) (fun hc => ?_) (fun hc => ?_)
    · have h := Eq.mp (if_pos hc) h
      refine lv_iload_n hx hb dX5_countTexts_35 rfl (lv_at hl 1 rfl) ?_
      exact hm_iret X hr hlk hw ⟨rfl, h⟩ dX5_countTexts_36
    · have h := Eq.mp (if_neg hc) h
      refine lv_iload_n hx hb dX5_countTexts_12 rfl (lv_at hl 1 rfl) ?_
      refine lv_aload_n hx hb dX5_countTexts_13 rfl (lv_at hl 0 rfl) ?_
      refine hm_getr X hw lk_5_29 hn0.1 (nsf_8 hn0) dX5_countTexts_14 ?_
      refine lv_iload_n hx hb dX5_countTexts_17 rfl (lv_at hl 2 rfl) ?_
      obtain ⟨hi, h⟩ := h
      refine hm_aldq5 X hw (nsm_8 hn0) hi dX5_countTexts_18 ?_
      refine hm_ifnull (tgt := 26) hx hb dX5_countTexts_19 (by decide) (fun he => ?_) (fun ef1 he => ?_)
      · have h := h.1 he
        refine lv_iconst (v := 0) hx hb dX5_countTexts_26 (by decide) ?_
        refine lv_iadd hx hb dX5_countTexts_27 ?_
        refine lv_istore_n (lv' := [(1, _), (0, _), (2, _)]) hx hb dX5_countTexts_28 rfl hl (by decide) rfl (fun ls hl => ?_)
        refine lv_iinc (v := x2 + 1) (lv' := [(2, _), (1, _), (0, _)]) hx hb dX5_countTexts_29 hl (k := 2) rfl rfl (by decide) rfl (fun ls hl => ?_)
        refine lv_goto (tgt := 4) hx hb dX5_countTexts_32 (by decide) ?_
        exact ih _ _ h hw (lv_sub hl [2, 1, 0] rfl)
      · have h := h.2 ef1 he
        refine lv_iconst (v := 1) hx hb dX5_countTexts_22 (by decide) ?_
        refine lv_goto (tgt := 27) hx hb dX5_countTexts_23 (by decide) ?_
        refine lv_iadd hx hb dX5_countTexts_27 ?_
        refine lv_istore_n (lv' := [(1, _), (0, _), (2, _)]) hx hb dX5_countTexts_28 rfl hl (by decide) rfl (fun ls hl => ?_)
        refine lv_iinc (v := x2 + 1) (lv' := [(2, _), (1, _), (0, _)]) hx hb dX5_countTexts_29 hl (k := 2) rfl rfl (by decide) rfl (fun ls hl => ?_)
        refine lv_goto (tgt := 4) hx hb dX5_countTexts_32 (by decide) ?_
        exact ih _ _ h hw (lv_sub hl [2, 1, 0] rfl)

theorem cNet_countTexts {l : Launch} {D : va_G} {cA : Nat → ClassId} {z sz : Nat} {I : HI} {T : HR} {F : HR} {L : HL} {r0 : Nat} {Q : Int32 → Prop} (hcl : hCl Ev) (hn0 : NetSh F L r0) (h : Net_countTexts I T r0 Q) : Met l yX5_countTexts (hws0 yX5_countTexts cX5_countTexts 3 (some .int)) { frames := 0, cells := 0, slots := 0, locals := 0 } (hPc D cA z Ev (I, J, T, F, L) sz [.ref (z + r0)]) (va_Qi (p0 (I, J, T, F, L) Q) (hB D cA z (hA z L sz)) (hA z L sz)) 0 0 (hA z L sz) := by
  refine hm_met (I, J, T, F, L) [.ref (z + r0)] rfl (by decide) (Nat.le_of_ble_eq_true rfl) ?_
  intro p e s m below meth c ls X hr hlk hnm hxt hsz hw hl
  have hl : lv_has ls 3 [(0, .ref (z + r0))] := hl
  have hR : 0 ≤ ({ frames := 0, cells := 0, slots := 0, locals := 0 } : Room).frames ∧ 0 ≤ ({ frames := 0, cells := 0, slots := 0, locals := 0 } : Room).locals := ⟨Nat.le_refl _, Nat.le_refl _⟩
  generalize ({ frames := 0, cells := 0, slots := 0, locals := 0 } : Room) = R at hR ⊢
  clear hsz
  generalize (hA z L sz) = A at hw ⊢
  have hx := X.1
  have hb := X.2.1
  unfold Net_countTexts at h
  refine lv_iconst (v := 0) hx hb dX5_countTexts_0 (by decide) ?_
  refine lv_istore_n (lv' := [(1, _), (0, _)]) hx hb dX5_countTexts_1 rfl hl (by decide) rfl (fun ls hl => ?_)
  refine lv_iconst (v := 0) hx hb dX5_countTexts_2 (by decide) ?_
  refine lv_istore_n (lv' := [(2, _), (1, _), (0, _)]) hx hb dX5_countTexts_3 rfl hl (by decide) rfl (fun ls hl => ?_)
  obtain ⟨n2, h⟩ := h
  exact wkNet_countTexts_l4 X hr hlk hR hcl hn0  n2 _ _ h hw (lv_sub hl [2, 1, 0] rfl)

theorem wkNet_viewsInTables_l4 {I : HI} {T : HR} {F : HR} {L : HL} {r0 : Nat} {Q : Int32 → Prop} (X : hX p m c s args RX5 cX5_viewsInTables 3) (hr : meth.sig.returnType = (some .int)) (hlk : meth.locks = false) (hR : 1 ≤ R.frames ∧ 21 ≤ R.locals) (hcl : hCl Ev) (hn0 : NetSh F L r0)  : ∀ (n : Nat) (x1 : Int32) (x2 : Int32) {ls : Array Slot} {H : Heap} {locs : List Loc}, Net_viewsInTables_l4 I T r0 Q n x1 x2 → hW D cA z Ev (I, J, T, F, L) A s H locs → lv_has ls 3 [(0, .ref (z + r0)), (1, .int x1), (2, .int x2)] → W p l e R s m args below meth c H locs 0 0 (MQ below (va_Qi (p0 (I, J, T, F, L) Q) (hB D cA z A) A) args s 0 0 A) (F0 m 4 ls []) := by
  have hx := X.1
  have hb := X.2.1
  intro n
  induction n with
  | zero => intro x1 x2 ls H locs h; exact False.elim h
  | succ n ih =>
    intro x1 x2 ls H locs h hw hl
    rw [Net_viewsInTables_l4] at h
    refine lv_iload_n hx hb dX5_viewsInTables_4 rfl (lv_at hl 2 rfl) ?_
    refine lv_aload_n hx hb dX5_viewsInTables_5 rfl (lv_at hl 0 rfl) ?_
    refine hm_geti X hw lk_5_44 hn0.1 dX5_viewsInTables_6 ?_
    refine lv_icmp_ge (tgt := 39) hx hb dX5_viewsInTables_9 (by decide) (fun hc => ?_) (fun hc => ?_)
    · have h := Eq.mp (if_pos hc) h
      refine lv_iload_n hx hb dX5_viewsInTables_39 rfl (lv_at hl 1 rfl) ?_
      exact hm_iret X hr hlk hw ⟨rfl, h⟩ dX5_viewsInTables_40
    · have h := Eq.mp (if_neg hc) h
      refine lv_iload_n hx hb dX5_viewsInTables_12 rfl (lv_at hl 1 rfl) ?_
      refine lv_aload_n hx hb dX5_viewsInTables_13 rfl (lv_at hl 0 rfl) ?_
      refine lv_iload_n hx hb dX5_viewsInTables_14 rfl (lv_at hl 2 rfl) ?_
      refine hm_calli hw (hm_runV (rest := [_]) hcl X hw (cNet_hasTable hcl hn0 h) yk_X5_hasTable kw816 rfl hn0.1 rfl hl.1 rfl rfl rfl (Nat.le_of_ble_eq_true rfl) ⟨Nat.le_trans (Nat.le_of_ble_eq_true rfl) hR.1, Nat.le_trans (Nat.le_of_ble_eq_true rfl) hR.2⟩ ⟨Nat.zero_le _, Nat.zero_le _⟩ dX5_viewsInTables_15) (fun a1 u2 H locs hp hw => ?_)
      obtain ⟨rfl, h⟩ := hp
      refine lv_if_eq (tgt := 30) hx hb dX5_viewsInTables_18 (by decide) (fun hc => ?_) (fun hc => ?_)
      · have h := Eq.mp (if_pos hc) h
        refine lv_iconst (v := 0) hx hb dX5_viewsInTables_30 (by decide) ?_
        refine lv_iadd hx hb dX5_viewsInTables_31 ?_
        refine lv_istore_n (lv' := [(1, _), (0, _), (2, _)]) hx hb dX5_viewsInTables_32 rfl hl (by decide) rfl (fun ls hl => ?_)
        refine lv_iinc (v := x2 + 1) (lv' := [(2, _), (1, _), (0, _)]) hx hb dX5_viewsInTables_33 hl (k := 2) rfl rfl (by decide) rfl (fun ls hl => ?_)
        refine lv_goto (tgt := 4) hx hb dX5_viewsInTables_36 (by decide) ?_
        exact ih _ _ h hw (lv_sub hl [2, 1, 0] rfl)
      · have h := Eq.mp (if_neg hc) h
        refine lv_aload_n hx hb dX5_viewsInTables_21 rfl (lv_at hl 0 rfl) ?_
        refine hm_getr X hw lk_5_21 hn0.1 (nsf_6 hn0) dX5_viewsInTables_22 ?_
        refine lv_iload_n hx hb dX5_viewsInTables_25 rfl (lv_at hl 2 rfl) ?_
        obtain ⟨hi, h⟩ := h
        refine hm_iald X hw (nsm_6 hn0) hi dX5_viewsInTables_26 ?_
        refine lv_goto (tgt := 31) hx hb dX5_viewsInTables_27 (by decide) ?_
        refine lv_iadd hx hb dX5_viewsInTables_31 ?_
        refine lv_istore_n (lv' := [(1, _), (0, _), (2, _)]) hx hb dX5_viewsInTables_32 rfl hl (by decide) rfl (fun ls hl => ?_)
        refine lv_iinc (v := x2 + 1) (lv' := [(2, _), (1, _), (0, _)]) hx hb dX5_viewsInTables_33 hl (k := 2) rfl rfl (by decide) rfl (fun ls hl => ?_)
        refine lv_goto (tgt := 4) hx hb dX5_viewsInTables_36 (by decide) ?_
        exact ih _ _ h hw (lv_sub hl [2, 1, 0] rfl)

theorem cNet_viewsInTables {l : Launch} {D : va_G} {cA : Nat → ClassId} {z sz : Nat} {I : HI} {T : HR} {F : HR} {L : HL} {r0 : Nat} {Q : Int32 → Prop} (hcl : hCl Ev) (hn0 : NetSh F L r0) (h : Net_viewsInTables I T r0 Q) : Met l yX5_viewsInTables (hws0 yX5_viewsInTables cX5_viewsInTables 3 (some .int)) { frames := 1, cells := 0, slots := 0, locals := 21 } (hPc D cA z Ev (I, J, T, F, L) sz [.ref (z + r0)]) (va_Qi (p0 (I, J, T, F, L) Q) (hB D cA z (hA z L sz)) (hA z L sz)) 0 0 (hA z L sz) := by
  refine hm_met (I, J, T, F, L) [.ref (z + r0)] rfl (by decide) (Nat.le_of_ble_eq_true rfl) ?_
  intro p e s m below meth c ls X hr hlk hnm hxt hsz hw hl
  have hl : lv_has ls 3 [(0, .ref (z + r0))] := hl
  have hR : 1 ≤ ({ frames := 1, cells := 0, slots := 0, locals := 21 } : Room).frames ∧ 21 ≤ ({ frames := 1, cells := 0, slots := 0, locals := 21 } : Room).locals := ⟨Nat.le_refl _, Nat.le_refl _⟩
  generalize ({ frames := 1, cells := 0, slots := 0, locals := 21 } : Room) = R at hR ⊢
  clear hsz
  generalize (hA z L sz) = A at hw ⊢
  have hx := X.1
  have hb := X.2.1
  unfold Net_viewsInTables at h
  refine lv_iconst (v := 0) hx hb dX5_viewsInTables_0 (by decide) ?_
  refine lv_istore_n (lv' := [(1, _), (0, _)]) hx hb dX5_viewsInTables_1 rfl hl (by decide) rfl (fun ls hl => ?_)
  refine lv_iconst (v := 0) hx hb dX5_viewsInTables_2 (by decide) ?_
  refine lv_istore_n (lv' := [(2, _), (1, _), (0, _)]) hx hb dX5_viewsInTables_3 rfl hl (by decide) rfl (fun ls hl => ?_)
  obtain ⟨n2, h⟩ := h
  exact wkNet_viewsInTables_l4 X hr hlk hR hcl hn0  n2 _ _ h hw (lv_sub hl [2, 1, 0] rfl)

theorem wkNet_standInLine_l2 {F : HR} {L : HL} {r0 : Nat} {f1 : Nat} {n1 : Nat} {k1 : Nat} {l1 : Nat} {q1 : Nat} {v1 : Nat} {f2 : Nat} {n2 : Nat} {k2 : Nat} {l2 : Nat} {q2 : Nat} {v2 : Nat} {Q : HI → HR → Prop} (X : hX p m c s args RX5 cX5_standInLine 4) (hr : meth.sig.returnType = none) (hlk : meth.locks = false) (hR : 3 ≤ R.frames ∧ 69 ≤ R.locals) (hcl : hCl Ev) (hn0 : NetSh F L r0) (hf1 : FrmSh F L f1 n1 k1 l1 q1 v1) (hf2 : FrmSh F L f2 n2 k2 l2 q2 v2)  : ∀ (n : Nat) (I : HI) (T : HR) (x3 : Int32) {ls : Array Slot} {H : Heap} {locs : List Loc}, Net_standInLine_l2 L r0 f1 n1 k1 l1 q1 v1 f2 n2 k2 l2 q2 v2 Q n I T x3 → hW D cA z Ev (I, J, T, F, L) A s H locs → lv_has ls 4 [(0, .ref (z + r0)), (1, .ref (z + f1)), (2, .ref (z + f2)), (3, .int x3)] → W p l e R s m args below meth c H locs 0 0 (MQ below (va_Qv (pITv J F L Q) (hB D cA z A) A) args s 0 0 A) (F0 m 2 ls []) := by
  have hx := X.1
  have hb := X.2.1
  intro n
  induction n with
  | zero => intro I T x3 ls H locs h; exact False.elim h
  | succ n ih =>
    intro I T x3 ls H locs h hw hl
    rw [Net_standInLine_l2] at h
    refine lv_iload_n hx hb dX5_standInLine_2 rfl (lv_at hl 3 rfl) ?_
    refine lv_aload_n hx hb dX5_standInLine_3 rfl (lv_at hl 0 rfl) ?_
    refine hm_geti X hw lk_5_44 hn0.1 dX5_standInLine_4 ?_
    refine lv_icmp_ge (tgt := 51) hx hb dX5_standInLine_7 (by decide) (fun hc => ?_) (fun hc => ?_)
    · have h := Eq.mp (if_pos hc) h
      exact hm_vret X hr hlk hw ⟨_, _, rfl, h⟩ dX5_standInLine_51
    · have h := Eq.mp (if_neg hc) h
      refine lv_aload_n hx hb dX5_standInLine_10 rfl (lv_at hl 0 rfl) ?_
      refine lv_iload_n hx hb dX5_standInLine_11 rfl (lv_at hl 3 rfl) ?_
      refine lv_aload_n hx hb dX5_standInLine_12 rfl (lv_at hl 0 rfl) ?_
      refine lv_iload_n hx hb dX5_standInLine_13 rfl (lv_at hl 3 rfl) ?_
      refine hm_calli hw (hm_runV (rest := [_, _]) hcl X hw (cNet_othersOf hcl hn0 h) yk_X5_othersOf kw150 rfl hn0.1 rfl hl.1 rfl rfl rfl (Nat.le_of_ble_eq_true rfl) ⟨Nat.le_trans (Nat.le_of_ble_eq_true rfl) hR.1, Nat.le_trans (Nat.le_of_ble_eq_true rfl) hR.2⟩ ⟨Nat.zero_le _, Nat.zero_le _⟩ dX5_standInLine_14) (fun a1 u2 H locs hp hw => ?_)
      obtain ⟨rfl, h⟩ := hp
      refine lv_iload_n hx hb dX5_standInLine_17 rfl (lv_at hl 3 rfl) ?_
      refine lv_ishr hx hb dX5_standInLine_18 ?_
      refine lv_iload_n hx hb dX5_standInLine_19 rfl (lv_at hl 3 rfl) ?_
      refine lv_ishl hx hb dX5_standInLine_20 ?_
      refine hm_callv hw (hm_runV (rest := []) hcl X hw (cNet_lookAt hcl hn0 h) yk_X5_lookAt kw713 rfl hn0.1 rfl hl.1 rfl rfl rfl (Nat.le_of_ble_eq_true rfl) ⟨Nat.le_trans (Nat.le_of_ble_eq_true rfl) hR.1, Nat.le_trans (Nat.le_of_ble_eq_true rfl) hR.2⟩ ⟨Nat.zero_le _, Nat.zero_le _⟩ dX5_standInLine_21) (fun u4 H locs hp hw => ?_)
      obtain ⟨I3, rfl, h⟩ := hp
      refine lv_aload_n hx hb dX5_standInLine_24 rfl (lv_at hl 0 rfl) ?_
      refine lv_iload_n hx hb dX5_standInLine_25 rfl (lv_at hl 3 rfl) ?_
      refine lv_iload_n hx hb dX5_standInLine_26 rfl (lv_at hl 3 rfl) ?_
      refine hm_callv hw (hm_runV (rest := []) hcl X hw (cNet_guessIn hcl hn0 h) yk_X5_guessIn kw717 rfl hn0.1 rfl hl.1 rfl rfl rfl (Nat.le_of_ble_eq_true rfl) ⟨Nat.le_trans (Nat.le_of_ble_eq_true rfl) hR.1, Nat.le_trans (Nat.le_of_ble_eq_true rfl) hR.2⟩ ⟨Nat.zero_le _, Nat.zero_le _⟩ dX5_standInLine_27) (fun u6 H locs hp hw => ?_)
      obtain ⟨I5, rfl, h⟩ := hp
      refine lv_aload_n hx hb dX5_standInLine_30 rfl (lv_at hl 0 rfl) ?_
      refine hm_getr X hw lk_5_29 hn0.1 (nsf_8 hn0) dX5_standInLine_31 ?_
      refine lv_iload_n hx hb dX5_standInLine_34 rfl (lv_at hl 3 rfl) ?_
      refine lv_iload_n hx hb dX5_standInLine_35 rfl (lv_at hl 3 rfl) ?_
      refine lv_if_ne (tgt := 43) hx hb dX5_standInLine_36 (by decide) (fun hc => ?_) (fun hc => ?_)
      · have h := Eq.mp (if_neg hc) h
        refine lv_aload_n hx hb dX5_standInLine_43 rfl (lv_at hl 2 rfl) ?_
        obtain ⟨hi, h⟩ := h
        refine hm_astq5 (v := (some f2)) X hw (nsm_8 hn0) (fun f h => by cases h; exact hf2.1) hi dX5_standInLine_44 (fun H locs hw => ?_)
        refine lv_iinc (v := x3 + 1) (lv' := [(3, _), (0, _), (1, _), (2, _)]) hx hb dX5_standInLine_45 hl (k := 3) rfl rfl (by decide) rfl (fun ls hl => ?_)
        refine lv_goto (tgt := 2) hx hb dX5_standInLine_48 (by decide) ?_
        exact ih _ _ _ h hw (lv_sub hl [1, 2, 3, 0] rfl)
      · have h := Eq.mp (if_pos hc) h
        refine lv_aload_n hx hb dX5_standInLine_39 rfl (lv_at hl 1 rfl) ?_
        refine lv_goto (tgt := 44) hx hb dX5_standInLine_40 (by decide) ?_
        obtain ⟨hi, h⟩ := h
        refine hm_astq5 (v := (some f1)) X hw (nsm_8 hn0) (fun f h => by cases h; exact hf1.1) hi dX5_standInLine_44 (fun H locs hw => ?_)
        refine lv_iinc (v := x3 + 1) (lv' := [(3, _), (0, _), (1, _), (2, _)]) hx hb dX5_standInLine_45 hl (k := 3) rfl rfl (by decide) rfl (fun ls hl => ?_)
        refine lv_goto (tgt := 2) hx hb dX5_standInLine_48 (by decide) ?_
        exact ih _ _ _ h hw (lv_sub hl [1, 2, 3, 0] rfl)

theorem cNet_standInLine {l : Launch} {D : va_G} {cA : Nat → ClassId} {z sz : Nat} {I : HI} {T : HR} {F : HR} {L : HL} {r0 : Nat} {f1 : Nat} {n1 : Nat} {k1 : Nat} {l1 : Nat} {q1 : Nat} {v1 : Nat} {f2 : Nat} {n2 : Nat} {k2 : Nat} {l2 : Nat} {q2 : Nat} {v2 : Nat} {Q : HI → HR → Prop} (hcl : hCl Ev) (hn0 : NetSh F L r0) (hf1 : FrmSh F L f1 n1 k1 l1 q1 v1) (hf2 : FrmSh F L f2 n2 k2 l2 q2 v2) (h : Net_standInLine I T L r0 f1 n1 k1 l1 q1 v1 f2 n2 k2 l2 q2 v2 Q) : Met l yX5_standInLine (hws0 yX5_standInLine cX5_standInLine 4 none) { frames := 3, cells := 0, slots := 0, locals := 69 } (hPc D cA z Ev (I, J, T, F, L) sz [.ref (z + r0), .ref (z + f1), .ref (z + f2)]) (va_Qv (pITv J F L Q) (hB D cA z (hA z L sz)) (hA z L sz)) 0 0 (hA z L sz) := by
  refine hm_met (I, J, T, F, L) [.ref (z + r0), .ref (z + f1), .ref (z + f2)] rfl (by decide) (Nat.le_of_ble_eq_true rfl) ?_
  intro p e s m below meth c ls X hr hlk hnm hxt hsz hw hl
  have hl : lv_has ls 4 [(0, .ref (z + r0)), (1, .ref (z + f1)), (2, .ref (z + f2))] := hl
  have hR : 3 ≤ ({ frames := 3, cells := 0, slots := 0, locals := 69 } : Room).frames ∧ 69 ≤ ({ frames := 3, cells := 0, slots := 0, locals := 69 } : Room).locals := ⟨Nat.le_refl _, Nat.le_refl _⟩
  generalize ({ frames := 3, cells := 0, slots := 0, locals := 69 } : Room) = R at hR ⊢
  clear hsz
  generalize (hA z L sz) = A at hw ⊢
  have hx := X.1
  have hb := X.2.1
  unfold Net_standInLine at h
  refine lv_iconst (v := 0) hx hb dX5_standInLine_0 (by decide) ?_
  refine lv_istore_n (lv' := [(3, _), (0, _), (1, _), (2, _)]) hx hb dX5_standInLine_1 rfl hl (by decide) rfl (fun ls hl => ?_)
  obtain ⟨n2, h⟩ := h
  exact wkNet_standInLine_l2 X hr hlk hR hcl hn0 hf1 hf2  n2 _ _ _ h hw (lv_sub hl [1, 2, 3, 0] rfl)

theorem wkNet_drawTables_l19 {T : HR} {F : HR} {L : HL} {r0 : Nat} {x4 : Int32} {K7 : HI → Int32 → Int32 → Int32 → Prop} {Q : Int32 → HI → Prop} (X : hX p m c s args RX5 cX5_drawTables 6) (hr : meth.sig.returnType = (some .int)) (hlk : meth.locks = false) (hR : 1 ≤ R.frames ∧ 23 ≤ R.locals) (hcl : hCl Ev) (hn0 : NetSh F L r0) (hK7 : ∀ (I : HI) (x2 : Int32) (x3 : Int32) (x4 : Int32) {ls : Array Slot} {H : Heap} {locs : List Loc}, K7 I x2 x3 x4 → hW D cA z Ev (I, J, T, F, L) A s H locs → lv_has ls 6 [(0, .ref (z + r0)), (2, .int x2), (3, .int x3), (4, .int x4)] → W p l e R s m args below meth c H locs 0 0 (MQ below (va_Qi (pI J T F L Q) (hB D cA z A) A) args s 0 0 A) (F0 m 7 ls [])) : ∀ (n : Nat) (I : HI) (x2 : Int32) (x3 : Int32) (x5 : Int32) {ls : Array Slot} {H : Heap} {locs : List Loc}, Net_drawTables_l19 T r0 x4 K7 Q n I x2 x3 x5 → hW D cA z Ev (I, J, T, F, L) A s H locs → lv_has ls 6 [(0, .ref (z + r0)), (2, .int x2), (3, .int x3), (4, .int x4), (5, .int x5)] → W p l e R s m args below meth c H locs 0 0 (MQ below (va_Qi (pI J T F L Q) (hB D cA z A) A) args s 0 0 A) (F0 m 19 ls []) := by
  have hx := X.1
  have hb := X.2.1
  intro n
  induction n with
  | zero => intro I x2 x3 x5 ls H locs h; exact False.elim h
  | succ n ih =>
    intro I x2 x3 x5 ls H locs h hw hl
    rw [Net_drawTables_l19] at h
    refine lv_aload_n hx hb dX5_drawTables_19 rfl (lv_at hl 0 rfl) ?_
    refine lv_iload hx hb dX5_drawTables_20 (lv_at hl 3 rfl) ?_
    refine hm_calli hw (hm_runV (rest := []) hcl X hw (cNet_hasTable hcl hn0 h) yk_X5_hasTable kw816 rfl hn0.1 rfl hl.1 rfl rfl rfl (Nat.le_of_ble_eq_true rfl) ⟨Nat.le_trans (Nat.le_of_ble_eq_true rfl) hR.1, Nat.le_trans (Nat.le_of_ble_eq_true rfl) hR.2⟩ ⟨Nat.zero_le _, Nat.zero_le _⟩ dX5_drawTables_22) (fun a1 u2 H locs hp hw => ?_)
    obtain ⟨rfl, h⟩ := hp
    refine lv_if_eq (tgt := 79) hx hb dX5_drawTables_25 (by decide) (fun hc => ?_) (fun hc => ?_)
    · have h := Eq.mp (if_pos hc) h
      refine lv_iinc (v := x4 + 1) (lv' := [(4, _), (0, _), (2, _), (3, _), (5, _)]) hx hb dX5_drawTables_79 hl (k := 3) rfl rfl (by decide) rfl (fun ls hl => ?_)
      refine lv_goto (tgt := 7) hx hb dX5_drawTables_82 (by decide) ?_
      exact hK7 _ _ _ _ h hw (lv_sub hl [1, 2, 3, 0] rfl)
    · have h := Eq.mp (if_neg hc) h
      refine lv_iload hx hb dX5_drawTables_28 (lv_at hl 4 rfl) ?_
      refine lv_aload_n hx hb dX5_drawTables_30 rfl (lv_at hl 0 rfl) ?_
      refine hm_getr X hw lk_5_21 hn0.1 (nsf_6 hn0) dX5_drawTables_31 ?_
      refine lv_iload hx hb dX5_drawTables_34 (lv_at hl 3 rfl) ?_
      obtain ⟨hi, h⟩ := h
      refine hm_iald X hw (nsm_6 hn0) hi dX5_drawTables_36 ?_
      refine lv_icmp_ge (tgt := 79) hx hb dX5_drawTables_37 (by decide) (fun hc => ?_) (fun hc => ?_)
      · have h := Eq.mp (if_pos hc) h
        refine lv_iinc (v := x4 + 1) (lv' := [(4, _), (0, _), (2, _), (3, _), (5, _)]) hx hb dX5_drawTables_79 hl (k := 3) rfl rfl (by decide) rfl (fun ls hl => ?_)
        refine lv_goto (tgt := 7) hx hb dX5_drawTables_82 (by decide) ?_
        exact hK7 _ _ _ _ h hw (lv_sub hl [1, 2, 3, 0] rfl)
      · have h := Eq.mp (if_neg hc) h
        refine lv_iload_n hx hb dX5_drawTables_40 rfl (lv_at hl 2 rfl) ?_
        refine lv_ldc (v := 1103515245) hx hb X.2.2.2.1 (X.2.2.2.2 _ kw820) dX5_drawTables_41 ?_
        refine lv_imul hx hb dX5_drawTables_43 ?_
        refine lv_sipush (v := 12345) hx hb dX5_drawTables_44 (by decide) ?_
        refine lv_iadd hx hb dX5_drawTables_47 ?_
        refine lv_istore_n (lv' := [(3, _), (0, _), (2, _), (4, _), (5, _)]) hx hb dX5_drawTables_48 rfl hl (by decide) rfl (fun ls hl => ?_)
        refine lv_aload_n hx hb dX5_drawTables_49 rfl (lv_at hl 1 rfl) ?_
        refine lv_iload hx hb dX5_drawTables_50 (lv_at hl 3 rfl) ?_
        refine lv_iload hx hb dX5_drawTables_52 (lv_at hl 4 rfl) ?_
        refine lv_iload_n hx hb dX5_drawTables_54 rfl (lv_at hl 0 rfl) ?_
        refine lv_bipush (v := 16) hx hb dX5_drawTables_55 (by decide) ?_
        refine lv_iushr (v := iu ((x3 * 1103515245) + 12345) 16) hx hb dX5_drawTables_57 rfl ?_
        refine lv_sipush (v := 32767) hx hb dX5_drawTables_58 (by decide) ?_
        refine lv_iand hx hb dX5_drawTables_61 ?_
        refine lv_aload_n hx hb dX5_drawTables_62 rfl (lv_at hl 1 rfl) ?_
        refine hm_geti X hw lk_5_48 hn0.1 dX5_drawTables_63 ?_
        obtain ⟨hi, h⟩ := h
        refine hm_irem hx hb dX5_drawTables_66 hi ?_
        refine hm_callv hw (hm_runV (rest := []) hcl X hw (cNet_setGuess hcl hn0 h) yk_X5_setGuess kw821 rfl hn0.1 rfl hl.1 rfl rfl rfl (Nat.le_of_ble_eq_true rfl) ⟨Nat.le_trans (Nat.le_of_ble_eq_true rfl) hR.1, Nat.le_trans (Nat.le_of_ble_eq_true rfl) hR.2⟩ ⟨Nat.zero_le _, Nat.zero_le _⟩ dX5_drawTables_67) (fun u4 H locs hp hw => ?_)
        obtain ⟨I3, rfl, h⟩ := hp
        refine lv_iinc (v := x2 + 1) (lv' := [(2, _), (3, _), (0, _), (4, _), (5, _)]) hx hb dX5_drawTables_70 hl (k := 2) rfl rfl (by decide) rfl (fun ls hl => ?_)
        refine lv_iinc (v := x5 + 1) (lv' := [(5, _), (2, _), (3, _), (0, _), (4, _)]) hx hb dX5_drawTables_73 hl (k := 4) rfl rfl (by decide) rfl (fun ls hl => ?_)
        refine lv_goto (tgt := 19) hx hb dX5_drawTables_76 (by decide) ?_
        exact ih _ _ _ _ h hw (lv_sub hl [3, 1, 2, 4, 0] rfl)

theorem wkNet_drawTables_l7 {T : HR} {F : HR} {L : HL} {r0 : Nat} {Q : Int32 → HI → Prop} (X : hX p m c s args RX5 cX5_drawTables 6) (hr : meth.sig.returnType = (some .int)) (hlk : meth.locks = false) (hR : 1 ≤ R.frames ∧ 23 ≤ R.locals) (hcl : hCl Ev) (hn0 : NetSh F L r0)  : ∀ (n : Nat) (I : HI) (x2 : Int32) (x3 : Int32) (x4 : Int32) {ls : Array Slot} {H : Heap} {locs : List Loc}, Net_drawTables_l7 T r0 Q n I x2 x3 x4 → hW D cA z Ev (I, J, T, F, L) A s H locs → lv_has ls 6 [(0, .ref (z + r0)), (2, .int x2), (3, .int x3), (4, .int x4)] → W p l e R s m args below meth c H locs 0 0 (MQ below (va_Qi (pI J T F L Q) (hB D cA z A) A) args s 0 0 A) (F0 m 7 ls []) := by
  have hx := X.1
  have hb := X.2.1
  intro n
  induction n with
  | zero => intro I x2 x3 x4 ls H locs h; exact False.elim h
  | succ n ih =>
    intro I x2 x3 x4 ls H locs h hw hl
    rw [Net_drawTables_l7] at h
    refine lv_iload hx hb dX5_drawTables_7 (lv_at hl 3 rfl) ?_
    refine lv_aload_n hx hb dX5_drawTables_9 rfl (lv_at hl 0 rfl) ?_
    refine hm_geti X hw lk_5_44 hn0.1 dX5_drawTables_10 ?_
    refine lv_icmp_ge (tgt := 85) hx hb dX5_drawTables_13 (by decide) (fun hc => ?_) (fun hc => ?_)
    · have h := Eq.mp (if_pos hc) h
      refine lv_iload_n hx hb dX5_drawTables_85 rfl (lv_at hl 1 rfl) ?_
      exact hm_iret X hr hlk hw ⟨_, rfl, h⟩ dX5_drawTables_86
    · have h := Eq.mp (if_neg hc) h
      refine lv_iconst (v := 0) hx hb dX5_drawTables_16 (by decide) ?_
      refine lv_istore (lv' := [(5, _), (0, _), (2, _), (3, _), (4, _)]) hx hb dX5_drawTables_17 hl (by decide) rfl (fun ls hl => ?_)
      obtain ⟨n2, h⟩ := h
      exact wkNet_drawTables_l19 X hr hlk hR hcl hn0 ih n2 _ _ _ _ h hw (lv_sub hl [1, 2, 3, 4, 0] rfl)

theorem cNet_drawTables {l : Launch} {D : va_G} {cA : Nat → ClassId} {z sz : Nat} {I : HI} {T : HR} {F : HR} {L : HL} {r0 : Nat} {x1 : Int32} {Q : Int32 → HI → Prop} (hcl : hCl Ev) (hn0 : NetSh F L r0) (h : Net_drawTables I T r0 x1 Q) : Met l yX5_drawTables (hws0 yX5_drawTables cX5_drawTables 6 (some .int)) { frames := 1, cells := 0, slots := 0, locals := 23 } (hPc D cA z Ev (I, J, T, F, L) sz [.ref (z + r0), .int x1]) (va_Qi (pI J T F L Q) (hB D cA z (hA z L sz)) (hA z L sz)) 0 0 (hA z L sz) := by
  refine hm_met (I, J, T, F, L) [.ref (z + r0), .int x1] rfl (by decide) (Nat.le_of_ble_eq_true rfl) ?_
  intro p e s m below meth c ls X hr hlk hnm hxt hsz hw hl
  have hl : lv_has ls 6 [(0, .ref (z + r0)), (1, .int x1)] := hl
  have hR : 1 ≤ ({ frames := 1, cells := 0, slots := 0, locals := 23 } : Room).frames ∧ 23 ≤ ({ frames := 1, cells := 0, slots := 0, locals := 23 } : Room).locals := ⟨Nat.le_refl _, Nat.le_refl _⟩
  generalize ({ frames := 1, cells := 0, slots := 0, locals := 23 } : Room) = R at hR ⊢
  clear hsz
  generalize (hA z L sz) = A at hw ⊢
  have hx := X.1
  have hb := X.2.1
  unfold Net_drawTables at h
  refine lv_iconst (v := 0) hx hb dX5_drawTables_0 (by decide) ?_
  refine lv_istore_n (lv' := [(2, _), (0, _), (1, _)]) hx hb dX5_drawTables_1 rfl hl (by decide) rfl (fun ls hl => ?_)
  refine lv_iload_n hx hb dX5_drawTables_2 rfl (lv_at hl 2 rfl) ?_
  refine lv_istore_n (lv' := [(3, _), (2, _), (0, _), (1, _)]) hx hb dX5_drawTables_3 rfl hl (by decide) rfl (fun ls hl => ?_)
  refine lv_iconst (v := 0) hx hb dX5_drawTables_4 (by decide) ?_
  refine lv_istore (lv' := [(4, _), (3, _), (2, _), (0, _), (1, _)]) hx hb dX5_drawTables_5 hl (by decide) rfl (fun ls hl => ?_)
  obtain ⟨n2, h⟩ := h
  exact wkNet_drawTables_l7 X hr hlk hR hcl hn0  n2 _ _ _ _ h hw (lv_sub hl [3, 2, 1, 0] rfl)

theorem wkNet_seenByAnyOf_l4 {I : HI} {T : HR} {F : HR} {L : HL} {r0 : Nat} {x1 : Int32} {Q : Int32 → Prop} (X : hX p m c s args RX5 cX5_seenByAnyOf 4) (hr : meth.sig.returnType = (some .int)) (hlk : meth.locks = false) (hR : 0 ≤ R.frames ∧ 0 ≤ R.locals) (hcl : hCl Ev) (hn0 : NetSh F L r0)  : ∀ (n : Nat) (x2 : Int32) (x3 : Int32) {ls : Array Slot} {H : Heap} {locs : List Loc}, Net_seenByAnyOf_l4 I r0 x1 Q n x2 x3 → hW D cA z Ev (I, J, T, F, L) A s H locs → lv_has ls 4 [(0, .ref (z + r0)), (1, .int x1), (2, .int x2), (3, .int x3)] → W p l e R s m args below meth c H locs 0 0 (MQ below (va_Qi (p0 (I, J, T, F, L) Q) (hB D cA z A) A) args s 0 0 A) (F0 m 4 ls []) := by
  have hx := X.1
  have hb := X.2.1
  intro n
  induction n with
  | zero => intro x2 x3 ls H locs h; exact False.elim h
  | succ n ih =>
    intro x2 x3 ls H locs h hw hl
    rw [Net_seenByAnyOf_l4] at h
    refine lv_iload_n hx hb dX5_seenByAnyOf_4 rfl (lv_at hl 3 rfl) ?_
    refine lv_aload_n hx hb dX5_seenByAnyOf_5 rfl (lv_at hl 0 rfl) ?_
    refine hm_geti X hw lk_5_44 hn0.1 dX5_seenByAnyOf_6 ?_
    refine lv_icmp_ge (tgt := 36) hx hb dX5_seenByAnyOf_9 (by decide) (fun hc => ?_) (fun hc => ?_)
    · have h := Eq.mp (if_pos hc) h
      refine lv_iload_n hx hb dX5_seenByAnyOf_36 rfl (lv_at hl 2 rfl) ?_
      exact hm_iret X hr hlk hw ⟨rfl, h⟩ dX5_seenByAnyOf_37
    · have h := Eq.mp (if_neg hc) h
      refine lv_iload_n hx hb dX5_seenByAnyOf_12 rfl (lv_at hl 1 rfl) ?_
      refine lv_iload_n hx hb dX5_seenByAnyOf_13 rfl (lv_at hl 3 rfl) ?_
      refine lv_ishr hx hb dX5_seenByAnyOf_14 ?_
      refine lv_iconst (v := 1) hx hb dX5_seenByAnyOf_15 (by decide) ?_
      refine lv_iand hx hb dX5_seenByAnyOf_16 ?_
      refine lv_iconst (v := 1) hx hb dX5_seenByAnyOf_17 (by decide) ?_
      refine lv_icmp_ne (tgt := 30) hx hb dX5_seenByAnyOf_18 (by decide) (fun hc => ?_) (fun hc => ?_)
      · have h := Eq.mp (if_neg hc) h
        refine lv_iinc (v := x3 + 1) (lv' := [(3, _), (0, _), (1, _), (2, _)]) hx hb dX5_seenByAnyOf_30 hl (k := 3) rfl rfl (by decide) rfl (fun ls hl => ?_)
        refine lv_goto (tgt := 4) hx hb dX5_seenByAnyOf_33 (by decide) ?_
        exact ih _ _ h hw (lv_sub hl [1, 2, 3, 0] rfl)
      · have h := Eq.mp (if_pos hc) h
        refine lv_iload_n hx hb dX5_seenByAnyOf_21 rfl (lv_at hl 2 rfl) ?_
        refine lv_aload_n hx hb dX5_seenByAnyOf_22 rfl (lv_at hl 0 rfl) ?_
        refine hm_getr X hw lk_5_9 hn0.1 (nsf_3 hn0) dX5_seenByAnyOf_23 ?_
        refine lv_iload_n hx hb dX5_seenByAnyOf_26 rfl (lv_at hl 3 rfl) ?_
        obtain ⟨hi, h⟩ := h
        refine hm_iald X hw (nsm_3 hn0) hi dX5_seenByAnyOf_27 ?_
        refine lv_ior hx hb dX5_seenByAnyOf_28 ?_
        refine lv_istore_n (lv' := [(2, _), (0, _), (1, _), (3, _)]) hx hb dX5_seenByAnyOf_29 rfl hl (by decide) rfl (fun ls hl => ?_)
        refine lv_iinc (v := x3 + 1) (lv' := [(3, _), (2, _), (0, _), (1, _)]) hx hb dX5_seenByAnyOf_30 hl (k := 3) rfl rfl (by decide) rfl (fun ls hl => ?_)
        refine lv_goto (tgt := 4) hx hb dX5_seenByAnyOf_33 (by decide) ?_
        exact ih _ _ h hw (lv_sub hl [2, 3, 1, 0] rfl)

theorem cNet_seenByAnyOf {l : Launch} {D : va_G} {cA : Nat → ClassId} {z sz : Nat} {I : HI} {T : HR} {F : HR} {L : HL} {r0 : Nat} {x1 : Int32} {Q : Int32 → Prop} (hcl : hCl Ev) (hn0 : NetSh F L r0) (h : Net_seenByAnyOf I r0 x1 Q) : Met l yX5_seenByAnyOf (hws0 yX5_seenByAnyOf cX5_seenByAnyOf 4 (some .int)) { frames := 0, cells := 0, slots := 0, locals := 0 } (hPc D cA z Ev (I, J, T, F, L) sz [.ref (z + r0), .int x1]) (va_Qi (p0 (I, J, T, F, L) Q) (hB D cA z (hA z L sz)) (hA z L sz)) 0 0 (hA z L sz) := by
  refine hm_met (I, J, T, F, L) [.ref (z + r0), .int x1] rfl (by decide) (Nat.le_of_ble_eq_true rfl) ?_
  intro p e s m below meth c ls X hr hlk hnm hxt hsz hw hl
  have hl : lv_has ls 4 [(0, .ref (z + r0)), (1, .int x1)] := hl
  have hR : 0 ≤ ({ frames := 0, cells := 0, slots := 0, locals := 0 } : Room).frames ∧ 0 ≤ ({ frames := 0, cells := 0, slots := 0, locals := 0 } : Room).locals := ⟨Nat.le_refl _, Nat.le_refl _⟩
  generalize ({ frames := 0, cells := 0, slots := 0, locals := 0 } : Room) = R at hR ⊢
  clear hsz
  generalize (hA z L sz) = A at hw ⊢
  have hx := X.1
  have hb := X.2.1
  unfold Net_seenByAnyOf at h
  refine lv_iconst (v := 0) hx hb dX5_seenByAnyOf_0 (by decide) ?_
  refine lv_istore_n (lv' := [(2, _), (0, _), (1, _)]) hx hb dX5_seenByAnyOf_1 rfl hl (by decide) rfl (fun ls hl => ?_)
  refine lv_iconst (v := 0) hx hb dX5_seenByAnyOf_2 (by decide) ?_
  refine lv_istore_n (lv' := [(3, _), (2, _), (0, _), (1, _)]) hx hb dX5_seenByAnyOf_3 rfl hl (by decide) rfl (fun ls hl => ?_)
  obtain ⟨n2, h⟩ := h
  exact wkNet_seenByAnyOf_l4 X hr hlk hR hcl hn0  n2 _ _ h hw (lv_sub hl [2, 3, 1, 0] rfl)

theorem wkNet_shortestRing_l19 {I : HI} {T : HR} {F : HR} {L : HL} {r0 : Nat} {x2 : Int32} {K4 : Int32 → Int32 → Prop} {Q : Int32 → Prop} (X : hX p m c s args RX5 cX5_shortestRing 5) (hr : meth.sig.returnType = (some .int)) (hlk : meth.locks = false) (hR : 1 ≤ R.frames ∧ 23 ≤ R.locals) (hcl : hCl Ev) (hn0 : NetSh F L r0) (hK4 : ∀ (x1 : Int32) (x2 : Int32) {ls : Array Slot} {H : Heap} {locs : List Loc}, K4 x1 x2 → hW D cA z Ev (I, J, T, F, L) A s H locs → lv_has ls 5 [(0, .ref (z + r0)), (1, .int x1), (2, .int x2)] → W p l e R s m args below meth c H locs 0 0 (MQ below (va_Qi (p0 (I, J, T, F, L) Q) (hB D cA z A) A) args s 0 0 A) (F0 m 4 ls [])) : ∀ (n : Nat) (x1 : Int32) (x3 : Int32) (x4 : Int32) {ls : Array Slot} {H : Heap} {locs : List Loc}, Net_shortestRing_l19 I r0 x2 K4 Q n x1 x3 x4 → hW D cA z Ev (I, J, T, F, L) A s H locs → lv_has ls 5 [(0, .ref (z + r0)), (1, .int x1), (2, .int x2), (3, .int x3), (4, .int x4)] → W p l e R s m args below meth c H locs 0 0 (MQ below (va_Qi (p0 (I, J, T, F, L) Q) (hB D cA z A) A) args s 0 0 A) (F0 m 19 ls []) := by
  have hx := X.1
  have hb := X.2.1
  intro n
  induction n with
  | zero => intro x1 x3 x4 ls H locs h; exact False.elim h
  | succ n ih =>
    intro x1 x3 x4 ls H locs h hw hl
    rw [Net_shortestRing_l19] at h
    refine lv_iload hx hb dX5_shortestRing_19 (lv_at hl 4 rfl) ?_
    refine lv_aload_n hx hb dX5_shortestRing_21 rfl (lv_at hl 0 rfl) ?_
    refine hm_geti X hw lk_5_44 hn0.1 dX5_shortestRing_22 ?_
    refine lv_icmp_gt (tgt := 63) hx hb dX5_shortestRing_25 (by decide) (fun hc => ?_) (fun hc => ?_)
    · have h := Eq.mp (if_pos hc) h
      refine lv_iinc (v := x2 + 1) (lv' := [(2, _), (0, _), (1, _), (3, _), (4, _)]) hx hb dX5_shortestRing_63 hl (k := 2) rfl rfl (by decide) rfl (fun ls hl => ?_)
      refine lv_goto (tgt := 4) hx hb dX5_shortestRing_66 (by decide) ?_
      exact hK4 _ _ h hw (lv_sub hl [1, 2, 0] rfl)
    · have h := Eq.mp (if_neg hc) h
      refine lv_aload_n hx hb dX5_shortestRing_28 rfl (lv_at hl 0 rfl) ?_
      refine lv_iload_n hx hb dX5_shortestRing_29 rfl (lv_at hl 3 rfl) ?_
      refine hm_calli hw (hm_runV (rest := []) hcl X hw (cNet_seenByAnyOf hcl hn0 h) yk_X5_seenByAnyOf kw655 rfl hn0.1 rfl hl.1 rfl rfl rfl (Nat.le_of_ble_eq_true rfl) ⟨Nat.le_trans (Nat.le_of_ble_eq_true rfl) hR.1, Nat.le_trans (Nat.le_of_ble_eq_true rfl) hR.2⟩ ⟨Nat.zero_le _, Nat.zero_le _⟩ dX5_shortestRing_30) (fun a1 u2 H locs hp hw => ?_)
      obtain ⟨rfl, h⟩ := hp
      refine lv_istore_n (lv' := [(3, _), (0, _), (1, _), (2, _), (4, _)]) hx hb dX5_shortestRing_33 rfl hl (by decide) rfl (fun ls hl => ?_)
      refine lv_iload_n hx hb dX5_shortestRing_34 rfl (lv_at hl 0 rfl) ?_
      refine lv_iload_n hx hb dX5_shortestRing_35 rfl (lv_at hl 3 rfl) ?_
      refine lv_ishr hx hb dX5_shortestRing_36 ?_
      refine lv_iconst (v := 1) hx hb dX5_shortestRing_37 (by decide) ?_
      refine lv_iand hx hb dX5_shortestRing_38 ?_
      refine lv_iconst (v := 1) hx hb dX5_shortestRing_39 (by decide) ?_
      refine lv_icmp_ne (tgt := 57) hx hb dX5_shortestRing_40 (by decide) (fun hc => ?_) (fun hc => ?_)
      · have h := Eq.mp (if_neg hc) h
        refine lv_iinc (v := x4 + 1) (lv' := [(4, _), (3, _), (0, _), (1, _), (2, _)]) hx hb dX5_shortestRing_57 hl (k := 4) rfl rfl (by decide) rfl (fun ls hl => ?_)
        refine lv_goto (tgt := 19) hx hb dX5_shortestRing_60 (by decide) ?_
        exact ih _ _ _ h hw (lv_sub hl [2, 3, 4, 1, 0] rfl)
      · have h := Eq.mp (if_pos hc) h
        refine lv_iload_n hx hb dX5_shortestRing_43 rfl (lv_at hl 2 rfl) ?_
        refine lv_iconst (v := (-1)) hx hb dX5_shortestRing_44 (by decide) ?_
        refine lv_icmp_eq (tgt := 54) hx hb dX5_shortestRing_45 (by decide) (fun hc => ?_) (fun hc => ?_)
        · have h := Eq.mp (if_pos hc) h
          refine lv_iload hx hb dX5_shortestRing_54 (lv_at hl 4 rfl) ?_
          refine lv_istore_n (lv' := [(1, _), (3, _), (0, _), (2, _), (4, _)]) hx hb dX5_shortestRing_56 rfl hl (by decide) rfl (fun ls hl => ?_)
          refine lv_iinc (v := x4 + 1) (lv' := [(4, _), (1, _), (3, _), (0, _), (2, _)]) hx hb dX5_shortestRing_57 hl (k := 4) rfl rfl (by decide) rfl (fun ls hl => ?_)
          refine lv_goto (tgt := 19) hx hb dX5_shortestRing_60 (by decide) ?_
          exact ih _ _ _ h hw (lv_sub hl [3, 1, 4, 2, 0] rfl)
        · have h := Eq.mp (if_neg hc) h
          refine lv_iload hx hb dX5_shortestRing_48 (lv_at hl 4 rfl) ?_
          refine lv_iload_n hx hb dX5_shortestRing_50 rfl (lv_at hl 2 rfl) ?_
          refine lv_icmp_ge (tgt := 57) hx hb dX5_shortestRing_51 (by decide) (fun hc => ?_) (fun hc => ?_)
          · have h := Eq.mp (if_pos hc) h
            refine lv_iinc (v := x4 + 1) (lv' := [(4, _), (3, _), (0, _), (1, _), (2, _)]) hx hb dX5_shortestRing_57 hl (k := 4) rfl rfl (by decide) rfl (fun ls hl => ?_)
            refine lv_goto (tgt := 19) hx hb dX5_shortestRing_60 (by decide) ?_
            exact ih _ _ _ h hw (lv_sub hl [2, 3, 4, 1, 0] rfl)
          · have h := Eq.mp (if_neg hc) h
            refine lv_iload hx hb dX5_shortestRing_54 (lv_at hl 4 rfl) ?_
            refine lv_istore_n (lv' := [(1, _), (3, _), (0, _), (2, _), (4, _)]) hx hb dX5_shortestRing_56 rfl hl (by decide) rfl (fun ls hl => ?_)
            refine lv_iinc (v := x4 + 1) (lv' := [(4, _), (1, _), (3, _), (0, _), (2, _)]) hx hb dX5_shortestRing_57 hl (k := 4) rfl rfl (by decide) rfl (fun ls hl => ?_)
            refine lv_goto (tgt := 19) hx hb dX5_shortestRing_60 (by decide) ?_
            exact ih _ _ _ h hw (lv_sub hl [3, 1, 4, 2, 0] rfl)

theorem wkNet_shortestRing_l4 {I : HI} {T : HR} {F : HR} {L : HL} {r0 : Nat} {Q : Int32 → Prop} (X : hX p m c s args RX5 cX5_shortestRing 5) (hr : meth.sig.returnType = (some .int)) (hlk : meth.locks = false) (hR : 1 ≤ R.frames ∧ 23 ≤ R.locals) (hcl : hCl Ev) (hn0 : NetSh F L r0)  : ∀ (n : Nat) (x1 : Int32) (x2 : Int32) {ls : Array Slot} {H : Heap} {locs : List Loc}, Net_shortestRing_l4 I r0 Q n x1 x2 → hW D cA z Ev (I, J, T, F, L) A s H locs → lv_has ls 5 [(0, .ref (z + r0)), (1, .int x1), (2, .int x2)] → W p l e R s m args below meth c H locs 0 0 (MQ below (va_Qi (p0 (I, J, T, F, L) Q) (hB D cA z A) A) args s 0 0 A) (F0 m 4 ls []) := by
  have hx := X.1
  have hb := X.2.1
  intro n
  induction n with
  | zero => intro x1 x2 ls H locs h; exact False.elim h
  | succ n ih =>
    intro x1 x2 ls H locs h hw hl
    rw [Net_shortestRing_l4] at h
    refine lv_iload_n hx hb dX5_shortestRing_4 rfl (lv_at hl 2 rfl) ?_
    refine lv_aload_n hx hb dX5_shortestRing_5 rfl (lv_at hl 0 rfl) ?_
    refine hm_geti X hw lk_5_44 hn0.1 dX5_shortestRing_6 ?_
    refine lv_icmp_ge (tgt := 69) hx hb dX5_shortestRing_9 (by decide) (fun hc => ?_) (fun hc => ?_)
    · have h := Eq.mp (if_pos hc) h
      refine lv_iload_n hx hb dX5_shortestRing_69 rfl (lv_at hl 1 rfl) ?_
      exact hm_iret X hr hlk hw ⟨rfl, h⟩ dX5_shortestRing_70
    · have h := Eq.mp (if_neg hc) h
      refine lv_iconst (v := 1) hx hb dX5_shortestRing_12 (by decide) ?_
      refine lv_iload_n hx hb dX5_shortestRing_13 rfl (lv_at hl 2 rfl) ?_
      refine lv_ishl hx hb dX5_shortestRing_14 ?_
      refine lv_istore_n (lv' := [(3, _), (0, _), (1, _), (2, _)]) hx hb dX5_shortestRing_15 rfl hl (by decide) rfl (fun ls hl => ?_)
      refine lv_iconst (v := 1) hx hb dX5_shortestRing_16 (by decide) ?_
      refine lv_istore (lv' := [(4, _), (3, _), (0, _), (1, _), (2, _)]) hx hb dX5_shortestRing_17 hl (by decide) rfl (fun ls hl => ?_)
      obtain ⟨n2, h⟩ := h
      exact wkNet_shortestRing_l19 X hr hlk hR hcl hn0 ih n2 _ _ _ h hw (lv_sub hl [2, 3, 4, 1, 0] rfl)

theorem cNet_shortestRing {l : Launch} {D : va_G} {cA : Nat → ClassId} {z sz : Nat} {I : HI} {T : HR} {F : HR} {L : HL} {r0 : Nat} {Q : Int32 → Prop} (hcl : hCl Ev) (hn0 : NetSh F L r0) (h : Net_shortestRing I r0 Q) : Met l yX5_shortestRing (hws0 yX5_shortestRing cX5_shortestRing 5 (some .int)) { frames := 1, cells := 0, slots := 0, locals := 23 } (hPc D cA z Ev (I, J, T, F, L) sz [.ref (z + r0)]) (va_Qi (p0 (I, J, T, F, L) Q) (hB D cA z (hA z L sz)) (hA z L sz)) 0 0 (hA z L sz) := by
  refine hm_met (I, J, T, F, L) [.ref (z + r0)] rfl (by decide) (Nat.le_of_ble_eq_true rfl) ?_
  intro p e s m below meth c ls X hr hlk hnm hxt hsz hw hl
  have hl : lv_has ls 5 [(0, .ref (z + r0))] := hl
  have hR : 1 ≤ ({ frames := 1, cells := 0, slots := 0, locals := 23 } : Room).frames ∧ 23 ≤ ({ frames := 1, cells := 0, slots := 0, locals := 23 } : Room).locals := ⟨Nat.le_refl _, Nat.le_refl _⟩
  generalize ({ frames := 1, cells := 0, slots := 0, locals := 23 } : Room) = R at hR ⊢
  clear hsz
  generalize (hA z L sz) = A at hw ⊢
  have hx := X.1
  have hb := X.2.1
  unfold Net_shortestRing at h
  refine lv_iconst (v := (-1)) hx hb dX5_shortestRing_0 (by decide) ?_
  refine lv_istore_n (lv' := [(1, _), (0, _)]) hx hb dX5_shortestRing_1 rfl hl (by decide) rfl (fun ls hl => ?_)
  refine lv_iconst (v := 0) hx hb dX5_shortestRing_2 (by decide) ?_
  refine lv_istore_n (lv' := [(2, _), (1, _), (0, _)]) hx hb dX5_shortestRing_3 rfl hl (by decide) rfl (fun ls hl => ?_)
  obtain ⟨n2, h⟩ := h
  exact wkNet_shortestRing_l4 X hr hlk hR hcl hn0  n2 _ _ h hw (lv_sub hl [2, 1, 0] rfl)

theorem wkNet_suits_b99 {I : HI} {T : HR} {F : HR} {L : HL} {r0 : Nat} {x1 : Int32} {x2 : Int32} {x3 : Int32} {x4 : Int32} {t0 : Int32} {K26 : Int32 → Prop} {Q : Int32 → Prop} (X : hX p m c s args RX5 cX5_suits 6) (hr : meth.sig.returnType = (some .boolean)) (hlk : meth.locks = false) (hR : 0 ≤ R.frames ∧ 0 ≤ R.locals) (hcl : hCl Ev) (hn0 : NetSh F L r0) (hK26 : ∀ (x3 : Int32) {ls : Array Slot} {H : Heap} {locs : List Loc}, K26 x3 → hW D cA z Ev (I, J, T, F, L) A s H locs → lv_has ls 6 [(0, .ref (z + r0)), (1, .int x1), (2, .int x2), (3, .int x3)] → W p l e R s m args below meth c H locs 0 0 (MQ below (va_Qi (p0 (I, J, T, F, L) Q) (hB D cA z A) A) args s 0 0 A) (F0 m 26 ls [])) : ∀ {ls : Array Slot} {H : Heap} {locs : List Loc}, Net_suits_b99 I r0 x1 x2 x3 x4 t0 K26 Q → hW D cA z Ev (I, J, T, F, L) A s H locs → lv_has ls 6 [(0, .ref (z + r0)), (1, .int x1), (2, .int x2), (3, .int x3), (4, .int x4)] → W p l e R s m args below meth c H locs 0 0 (MQ below (va_Qi (p0 (I, J, T, F, L) Q) (hB D cA z A) A) args s 0 0 A) (F0 m 99 ls [.int t0]) := by
  have hx := X.1
  have hb := X.2.1
  intro ls H locs h hw hl
  unfold Net_suits_b99 at h
  refine lv_istore (lv' := [(5, _), (0, _), (1, _), (2, _), (3, _), (4, _)]) hx hb dX5_suits_99 hl (by decide) rfl (fun ls hl => ?_)
  refine lv_iload hx hb dX5_suits_101 (lv_at hl 5 rfl) ?_
  refine lv_if_eq (tgt := 111) hx hb dX5_suits_103 (by decide) (fun hc => ?_) (fun hc => ?_)
  · have h := Eq.mp (if_pos hc) h
    refine lv_iconst (v := 0) hx hb dX5_suits_111 (by decide) ?_
    exact hm_zret X hr hlk hw zb_0 ⟨rfl, h⟩ dX5_suits_112
  · have h := Eq.mp (if_neg hc) h
    refine lv_iload hx hb dX5_suits_106 (lv_at hl 0 rfl) ?_
    refine lv_if_ne (tgt := 113) hx hb dX5_suits_108 (by decide) (fun hc => ?_) (fun hc => ?_)
    · have h := Eq.mp (if_neg hc) h
      refine lv_iinc (v := x3 + 1) (lv' := [(3, _), (5, _), (0, _), (1, _), (2, _), (4, _)]) hx hb dX5_suits_113 hl (k := 4) rfl rfl (by decide) rfl (fun ls hl => ?_)
      refine lv_goto (tgt := 26) hx hb dX5_suits_116 (by decide) ?_
      exact hK26 _ h hw (lv_sub hl [2, 3, 4, 0] rfl)
    · have h := Eq.mp (if_pos hc) h
      refine lv_iconst (v := 0) hx hb dX5_suits_111 (by decide) ?_
      exact hm_zret X hr hlk hw zb_0 ⟨rfl, h⟩ dX5_suits_112

theorem wkNet_suits_b64 {I : HI} {T : HR} {F : HR} {L : HL} {r0 : Nat} {x1 : Int32} {x2 : Int32} {x3 : Int32} {t0 : Int32} {K26 : Int32 → Prop} {Q : Int32 → Prop} (X : hX p m c s args RX5 cX5_suits 6) (hr : meth.sig.returnType = (some .boolean)) (hlk : meth.locks = false) (hR : 0 ≤ R.frames ∧ 0 ≤ R.locals) (hcl : hCl Ev) (hn0 : NetSh F L r0) (hK26 : ∀ (x3 : Int32) {ls : Array Slot} {H : Heap} {locs : List Loc}, K26 x3 → hW D cA z Ev (I, J, T, F, L) A s H locs → lv_has ls 6 [(0, .ref (z + r0)), (1, .int x1), (2, .int x2), (3, .int x3)] → W p l e R s m args below meth c H locs 0 0 (MQ below (va_Qi (p0 (I, J, T, F, L) Q) (hB D cA z A) A) args s 0 0 A) (F0 m 26 ls [])) : ∀ {ls : Array Slot} {H : Heap} {locs : List Loc}, Net_suits_b64 I r0 x1 x2 x3 t0 K26 Q → hW D cA z Ev (I, J, T, F, L) A s H locs → lv_has ls 6 [(0, .ref (z + r0)), (1, .int x1), (2, .int x2), (3, .int x3)] → W p l e R s m args below meth c H locs 0 0 (MQ below (va_Qi (p0 (I, J, T, F, L) Q) (hB D cA z A) A) args s 0 0 A) (F0 m 64 ls [.int t0]) := by
  have hx := X.1
  have hb := X.2.1
  intro ls H locs h hw hl
  unfold Net_suits_b64 at h
  refine lv_istore (lv' := [(4, _), (0, _), (1, _), (2, _), (3, _)]) hx hb dX5_suits_64 hl (by decide) rfl (fun ls hl => ?_)
  refine lv_aload_n hx hb dX5_suits_66 rfl (lv_at hl 1 rfl) ?_
  refine hm_getr X hw lk_5_9 hn0.1 (nsf_3 hn0) dX5_suits_67 ?_
  refine lv_iload_n hx hb dX5_suits_70 rfl (lv_at hl 4 rfl) ?_
  obtain ⟨hi, h⟩ := h
  refine hm_iald X hw (nsm_3 hn0) hi dX5_suits_71 ?_
  refine lv_iload_n hx hb dX5_suits_72 rfl (lv_at hl 2 rfl) ?_
  refine lv_ishr hx hb dX5_suits_73 ?_
  refine lv_iconst (v := 1) hx hb dX5_suits_74 (by decide) ?_
  refine lv_iand hx hb dX5_suits_75 ?_
  refine lv_aload_n hx hb dX5_suits_76 rfl (lv_at hl 1 rfl) ?_
  refine hm_getr X hw lk_5_9 hn0.1 (nsf_3 hn0) dX5_suits_77 ?_
  refine lv_aload_n hx hb dX5_suits_80 rfl (lv_at hl 1 rfl) ?_
  refine hm_getr X hw lk_5_37 hn0.1 (nsf_10 hn0) dX5_suits_81 ?_
  refine lv_iload_n hx hb dX5_suits_84 rfl (lv_at hl 4 rfl) ?_
  obtain ⟨hi, h⟩ := h
  refine hm_iald X hw (nsm_10 hn0) hi dX5_suits_85 ?_
  obtain ⟨hi, h⟩ := h
  refine hm_iald X hw (nsm_3 hn0) hi dX5_suits_86 ?_
  refine lv_iload_n hx hb dX5_suits_87 rfl (lv_at hl 3 rfl) ?_
  refine lv_ishr hx hb dX5_suits_88 ?_
  refine lv_iconst (v := 1) hx hb dX5_suits_89 (by decide) ?_
  refine lv_iand hx hb dX5_suits_90 ?_
  refine lv_icmp_ne (tgt := 98) hx hb dX5_suits_91 (by decide) (fun hc => ?_) (fun hc => ?_)
  · have h := Eq.mp (if_neg hc) h
    refine lv_iconst (v := 0) hx hb dX5_suits_98 (by decide) ?_
    exact wkNet_suits_b99 X hr hlk hR hcl hn0 hK26 h hw (lv_sub hl [1, 2, 3, 4, 0] rfl)
  · have h := Eq.mp (if_pos hc) h
    refine lv_iconst (v := 1) hx hb dX5_suits_94 (by decide) ?_
    refine lv_goto (tgt := 99) hx hb dX5_suits_95 (by decide) ?_
    exact wkNet_suits_b99 X hr hlk hR hcl hn0 hK26 h hw (lv_sub hl [1, 2, 3, 4, 0] rfl)

theorem wkNet_suits_l26 {I : HI} {T : HR} {F : HR} {L : HL} {r0 : Nat} {x1 : Int32} {x2 : Int32} {Q : Int32 → Prop} (X : hX p m c s args RX5 cX5_suits 6) (hr : meth.sig.returnType = (some .boolean)) (hlk : meth.locks = false) (hR : 0 ≤ R.frames ∧ 0 ≤ R.locals) (hcl : hCl Ev) (hn0 : NetSh F L r0)  : ∀ (n : Nat) (x3 : Int32) {ls : Array Slot} {H : Heap} {locs : List Loc}, Net_suits_l26 I r0 x1 x2 Q n x3 → hW D cA z Ev (I, J, T, F, L) A s H locs → lv_has ls 6 [(0, .ref (z + r0)), (1, .int x1), (2, .int x2), (3, .int x3)] → W p l e R s m args below meth c H locs 0 0 (MQ below (va_Qi (p0 (I, J, T, F, L) Q) (hB D cA z A) A) args s 0 0 A) (F0 m 26 ls []) := by
  have hx := X.1
  have hb := X.2.1
  intro n
  induction n with
  | zero => intro x3 ls H locs h; exact False.elim h
  | succ n ih =>
    intro x3 ls H locs h hw hl
    rw [Net_suits_l26] at h
    refine lv_iload_n hx hb dX5_suits_26 rfl (lv_at hl 3 rfl) ?_
    refine lv_iload_n hx hb dX5_suits_27 rfl (lv_at hl 1 rfl) ?_
    refine lv_icmp_ge (tgt := 119) hx hb dX5_suits_28 (by decide) (fun hc => ?_) (fun hc => ?_)
    · have h := Eq.mp (if_pos hc) h
      refine lv_iconst (v := 1) hx hb dX5_suits_119 (by decide) ?_
      exact hm_zret X hr hlk hw zb_1 ⟨rfl, h⟩ dX5_suits_120
    · have h := Eq.mp (if_neg hc) h
      refine lv_aload_n hx hb dX5_suits_31 rfl (lv_at hl 0 rfl) ?_
      refine hm_getr X hw lk_5_9 hn0.1 (nsf_3 hn0) dX5_suits_32 ?_
      refine lv_iload_n hx hb dX5_suits_35 rfl (lv_at hl 1 rfl) ?_
      obtain ⟨hi, h⟩ := h
      refine hm_iald X hw (nsm_3 hn0) hi dX5_suits_36 ?_
      refine lv_iload_n hx hb dX5_suits_37 rfl (lv_at hl 3 rfl) ?_
      refine lv_ishr hx hb dX5_suits_38 ?_
      refine lv_iconst (v := 1) hx hb dX5_suits_39 (by decide) ?_
      refine lv_iand hx hb dX5_suits_40 ?_
      refine lv_aload_n hx hb dX5_suits_41 rfl (lv_at hl 0 rfl) ?_
      refine hm_getr X hw lk_5_9 hn0.1 (nsf_3 hn0) dX5_suits_42 ?_
      refine lv_iload_n hx hb dX5_suits_45 rfl (lv_at hl 2 rfl) ?_
      obtain ⟨hi, h⟩ := h
      refine hm_iald X hw (nsm_3 hn0) hi dX5_suits_46 ?_
      refine lv_aload_n hx hb dX5_suits_47 rfl (lv_at hl 0 rfl) ?_
      refine hm_getr X hw lk_5_37 hn0.1 (nsf_10 hn0) dX5_suits_48 ?_
      refine lv_iload_n hx hb dX5_suits_51 rfl (lv_at hl 3 rfl) ?_
      obtain ⟨hi, h⟩ := h
      refine hm_iald X hw (nsm_10 hn0) hi dX5_suits_52 ?_
      refine lv_ishr hx hb dX5_suits_53 ?_
      refine lv_iconst (v := 1) hx hb dX5_suits_54 (by decide) ?_
      refine lv_iand hx hb dX5_suits_55 ?_
      refine lv_icmp_ne (tgt := 63) hx hb dX5_suits_56 (by decide) (fun hc => ?_) (fun hc => ?_)
      · have h := Eq.mp (if_neg hc) h
        refine lv_iconst (v := 0) hx hb dX5_suits_63 (by decide) ?_
        exact wkNet_suits_b64 X hr hlk hR hcl hn0 ih h hw (lv_sub hl [0, 1, 2, 3] rfl)
      · have h := Eq.mp (if_pos hc) h
        refine lv_iconst (v := 1) hx hb dX5_suits_59 (by decide) ?_
        refine lv_goto (tgt := 64) hx hb dX5_suits_60 (by decide) ?_
        exact wkNet_suits_b64 X hr hlk hR hcl hn0 ih h hw (lv_sub hl [0, 1, 2, 3] rfl)

theorem cNet_suits {l : Launch} {D : va_G} {cA : Nat → ClassId} {z sz : Nat} {I : HI} {T : HR} {F : HR} {L : HL} {r0 : Nat} {x1 : Int32} {Q : Int32 → Prop} (hcl : hCl Ev) (hn0 : NetSh F L r0) (h : Net_suits I r0 x1 Q) : Met l yX5_suits (hws0 yX5_suits cX5_suits 6 (some .boolean)) { frames := 0, cells := 0, slots := 0, locals := 0 } (hPc D cA z Ev (I, J, T, F, L) sz [.ref (z + r0), .int x1]) (va_Qi (p0 (I, J, T, F, L) Q) (hB D cA z (hA z L sz)) (hA z L sz)) 0 0 (hA z L sz) := by
  refine hm_met (I, J, T, F, L) [.ref (z + r0), .int x1] rfl (by decide) (Nat.le_of_ble_eq_true rfl) ?_
  intro p e s m below meth c ls X hr hlk hnm hxt hsz hw hl
  have hl : lv_has ls 6 [(0, .ref (z + r0)), (1, .int x1)] := hl
  have hR : 0 ≤ ({ frames := 0, cells := 0, slots := 0, locals := 0 } : Room).frames ∧ 0 ≤ ({ frames := 0, cells := 0, slots := 0, locals := 0 } : Room).locals := ⟨Nat.le_refl _, Nat.le_refl _⟩
  generalize ({ frames := 0, cells := 0, slots := 0, locals := 0 } : Room) = R at hR ⊢
  clear hsz
  generalize (hA z L sz) = A at hw ⊢
  have hx := X.1
  have hb := X.2.1
  unfold Net_suits at h
  refine lv_aload_n hx hb dX5_suits_0 rfl (lv_at hl 0 rfl) ?_
  refine hm_getr X hw lk_5_37 hn0.1 (nsf_10 hn0) dX5_suits_1 ?_
  refine lv_iload_n hx hb dX5_suits_4 rfl (lv_at hl 1 rfl) ?_
  obtain ⟨hi, h⟩ := h
  refine hm_iald X hw (nsm_10 hn0) hi dX5_suits_5 ?_
  refine lv_istore_n (lv' := [(2, _), (0, _), (1, _)]) hx hb dX5_suits_6 rfl hl (by decide) rfl (fun ls hl => ?_)
  refine lv_aload_n hx hb dX5_suits_7 rfl (lv_at hl 1 rfl) ?_
  refine hm_getr X hw lk_5_15 hn0.1 (nsf_4 hn0) dX5_suits_8 ?_
  refine lv_iload_n hx hb dX5_suits_11 rfl (lv_at hl 2 rfl) ?_
  obtain ⟨hi, h⟩ := h
  refine hm_iald X hw (nsm_4 hn0) hi dX5_suits_12 ?_
  refine lv_aload_n hx hb dX5_suits_13 rfl (lv_at hl 1 rfl) ?_
  refine hm_getr X hw lk_5_15 hn0.1 (nsf_4 hn0) dX5_suits_14 ?_
  refine lv_iload_n hx hb dX5_suits_17 rfl (lv_at hl 0 rfl) ?_
  obtain ⟨hi, h⟩ := h
  refine hm_iald X hw (nsm_4 hn0) hi dX5_suits_18 ?_
  refine lv_icmp_eq (tgt := 24) hx hb dX5_suits_19 (by decide) (fun hc => ?_) (fun hc => ?_)
  · have h := Eq.mp (if_pos hc) h
    refine lv_iconst (v := 0) hx hb dX5_suits_24 (by decide) ?_
    refine lv_istore_n (lv' := [(3, _), (2, _), (0, _), (1, _)]) hx hb dX5_suits_25 rfl hl (by decide) rfl (fun ls hl => ?_)
    obtain ⟨n2, h⟩ := h
    exact wkNet_suits_l26 X hr hlk hR hcl hn0  n2 _ h hw (lv_sub hl [2, 3, 1, 0] rfl)
  · have h := Eq.mp (if_neg hc) h
    refine lv_iconst (v := 0) hx hb dX5_suits_22 (by decide) ?_
    exact hm_zret X hr hlk hw zb_0 ⟨rfl, h⟩ dX5_suits_23

theorem wkNet_placeFrom_l21 {T : HR} {F : HR} {L : HL} {r0 : Nat} {x1 : Int32} {x2 : Int32} {Q : Int32 → HI → Prop} {RO : HI → Nat → Int32 → Int32 → (Int32 → HI → Prop) → Prop} {rf rl : Nat} (hRO : ∀ {l : Launch} {D : va_G} {cA : Nat → ClassId} {z sz : Nat} {Ev : HE} {J : HJ} {I : HI} {T : HR} {F : HR} {L : HL} {r0 : Nat} {y1 : Int32} {y2 : Int32} {Q : Int32 → HI → Prop}, (hCl Ev) → (NetSh F L r0) → RO I r0 y1 y2 Q → Met l yX5_placeFrom (hws0 yX5_placeFrom cX5_placeFrom 5 (some .int)) { frames := rf, cells := 0, slots := 0, locals := rl } (hPc D cA z Ev (I, J, T, F, L) sz [.ref (z + r0), .int y1, .int y2]) (va_Qi (pI J T F L Q) (hB D cA z (hA z L sz)) (hA z L sz)) 0 0 (hA z L sz)) (X : hX p m c s args RX5 cX5_placeFrom 5) (hr : meth.sig.returnType = (some .int)) (hlk : meth.locks = false) (hR : rf + 1 ≤ R.frames ∧ rl + 25 ≤ R.locals) (hcl : hCl Ev) (hn0 : NetSh F L r0)  : ∀ (n : Nat) (I : HI) (x3 : Int32) (x4 : Int32) {ls : Array Slot} {H : Heap} {locs : List Loc}, Net_placeFrom_l21 RO r0 x1 x2 Q n I x3 x4 → hW D cA z Ev (I, J, T, F, L) A s H locs → lv_has ls 5 [(0, .ref (z + r0)), (1, .int x1), (2, .int x2), (3, .int x3), (4, .int x4)] → W p l e R s m args below meth c H locs 0 0 (MQ below (va_Qi (pI J T F L Q) (hB D cA z A) A) args s 0 0 A) (F0 m 21 ls []) := by
  have hx := X.1
  have hb := X.2.1
  intro n
  induction n with
  | zero => intro I x3 x4 ls H locs h; exact False.elim h
  | succ n ih =>
    intro I x3 x4 ls H locs h hw hl
    rw [Net_placeFrom_l21] at h
    refine lv_iload hx hb dX5_placeFrom_21 (lv_at hl 4 rfl) ?_
    refine lv_aload_n hx hb dX5_placeFrom_23 rfl (lv_at hl 0 rfl) ?_
    refine hm_geti X hw lk_5_44 hn0.1 dX5_placeFrom_24 ?_
    refine lv_icmp_ge (tgt := 77) hx hb dX5_placeFrom_27 (by decide) (fun hc => ?_) (fun hc => ?_)
    · have h := Eq.mp (if_pos hc) h
      refine lv_iload_n hx hb dX5_placeFrom_77 rfl (lv_at hl 3 rfl) ?_
      exact hm_iret X hr hlk hw ⟨_, rfl, h⟩ dX5_placeFrom_78
    · have h := Eq.mp (if_neg hc) h
      refine lv_aload_n hx hb dX5_placeFrom_30 rfl (lv_at hl 0 rfl) ?_
      refine hm_getr X hw lk_5_37 hn0.1 (nsf_10 hn0) dX5_placeFrom_31 ?_
      refine lv_iload_n hx hb dX5_placeFrom_34 rfl (lv_at hl 1 rfl) ?_
      refine lv_iload hx hb dX5_placeFrom_35 (lv_at hl 4 rfl) ?_
      obtain ⟨hi, h⟩ := h
      refine hm_iast X hw (nsm_10 hn0) hi dX5_placeFrom_37 (fun H locs hw => ?_)
      refine lv_iload_n hx hb dX5_placeFrom_38 rfl (lv_at hl 2 rfl) ?_
      refine lv_iload hx hb dX5_placeFrom_39 (lv_at hl 4 rfl) ?_
      refine lv_ishr hx hb dX5_placeFrom_41 ?_
      refine lv_iconst (v := 1) hx hb dX5_placeFrom_42 (by decide) ?_
      refine lv_iand hx hb dX5_placeFrom_43 ?_
      refine lv_if_ne (tgt := 71) hx hb dX5_placeFrom_44 (by decide) (fun hc => ?_) (fun hc => ?_)
      · have h := Eq.mp (if_neg hc) h
        refine lv_iinc (v := x4 + 1) (lv' := [(4, _), (0, _), (1, _), (2, _), (3, _)]) hx hb dX5_placeFrom_71 hl (k := 4) rfl rfl (by decide) rfl (fun ls hl => ?_)
        refine lv_goto (tgt := 21) hx hb dX5_placeFrom_74 (by decide) ?_
        exact ih _ _ _ h hw (lv_sub hl [1, 2, 3, 4, 0] rfl)
      · have h := Eq.mp (if_pos hc) h
        refine lv_aload_n hx hb dX5_placeFrom_47 rfl (lv_at hl 0 rfl) ?_
        refine lv_iload_n hx hb dX5_placeFrom_48 rfl (lv_at hl 1 rfl) ?_
        refine hm_calli hw (hm_runV (rest := []) hcl X hw (cNet_suits hcl hn0 h) yk_X5_suits kw643 rfl hn0.1 rfl hl.1 rfl rfl rfl (Nat.le_of_ble_eq_true rfl) ⟨by have := hR.1; dsimp only; omega, by have := hR.2; dsimp only; omega⟩ ⟨Nat.zero_le _, Nat.zero_le _⟩ dX5_placeFrom_49) (fun a1 u2 H locs hp hw => ?_)
        obtain ⟨rfl, h⟩ := hp
        refine lv_if_eq (tgt := 71) hx hb dX5_placeFrom_52 (by decide) (fun hc => ?_) (fun hc => ?_)
        · have h := Eq.mp (if_pos hc) h
          refine lv_iinc (v := x4 + 1) (lv' := [(4, _), (0, _), (1, _), (2, _), (3, _)]) hx hb dX5_placeFrom_71 hl (k := 4) rfl rfl (by decide) rfl (fun ls hl => ?_)
          refine lv_goto (tgt := 21) hx hb dX5_placeFrom_74 (by decide) ?_
          exact ih _ _ _ h hw (lv_sub hl [1, 2, 3, 4, 0] rfl)
        · have h := Eq.mp (if_neg hc) h
          refine lv_iload_n hx hb dX5_placeFrom_55 rfl (lv_at hl 3 rfl) ?_
          refine lv_aload_n hx hb dX5_placeFrom_56 rfl (lv_at hl 0 rfl) ?_
          refine lv_iload_n hx hb dX5_placeFrom_57 rfl (lv_at hl 1 rfl) ?_
          refine lv_iconst (v := 1) hx hb dX5_placeFrom_58 (by decide) ?_
          refine lv_iadd hx hb dX5_placeFrom_59 ?_
          refine lv_iload_n hx hb dX5_placeFrom_60 rfl (lv_at hl 2 rfl) ?_
          refine lv_iconst (v := 1) hx hb dX5_placeFrom_61 (by decide) ?_
          refine lv_iload hx hb dX5_placeFrom_62 (lv_at hl 4 rfl) ?_
          refine lv_ishl hx hb dX5_placeFrom_64 ?_
          refine lv_ior hx hb dX5_placeFrom_65 ?_
          refine hm_calli hw (hm_runS (rest := [_]) hcl X hw (hRO hcl hn0 h) yk_X5_placeFrom kw640 rfl hl.1 rfl rfl rfl (Nat.le_of_ble_eq_true rfl) ⟨by have := hR.1; dsimp only; omega, by have := hR.2; dsimp only; omega⟩ ⟨Nat.zero_le _, Nat.zero_le _⟩ dX5_placeFrom_66) (fun a3 u5 H locs hp hw => ?_)
          obtain ⟨I4, rfl, h⟩ := hp
          refine lv_iadd hx hb dX5_placeFrom_69 ?_
          refine lv_istore_n (lv' := [(3, _), (0, _), (1, _), (2, _), (4, _)]) hx hb dX5_placeFrom_70 rfl hl (by decide) rfl (fun ls hl => ?_)
          refine lv_iinc (v := x4 + 1) (lv' := [(4, _), (3, _), (0, _), (1, _), (2, _)]) hx hb dX5_placeFrom_71 hl (k := 4) rfl rfl (by decide) rfl (fun ls hl => ?_)
          refine lv_goto (tgt := 21) hx hb dX5_placeFrom_74 (by decide) ?_
          exact ih _ _ _ h hw (lv_sub hl [2, 3, 4, 1, 0] rfl)

theorem cNet_placeFrom_o {l : Launch} {D : va_G} {cA : Nat → ClassId} {z sz : Nat} {RO : HI → Nat → Int32 → Int32 → (Int32 → HI → Prop) → Prop} {rf rl : Nat} (hRO : ∀ {l : Launch} {D : va_G} {cA : Nat → ClassId} {z sz : Nat} {Ev : HE} {J : HJ} {I : HI} {T : HR} {F : HR} {L : HL} {r0 : Nat} {y1 : Int32} {y2 : Int32} {Q : Int32 → HI → Prop}, (hCl Ev) → (NetSh F L r0) → RO I r0 y1 y2 Q → Met l yX5_placeFrom (hws0 yX5_placeFrom cX5_placeFrom 5 (some .int)) { frames := rf, cells := 0, slots := 0, locals := rl } (hPc D cA z Ev (I, J, T, F, L) sz [.ref (z + r0), .int y1, .int y2]) (va_Qi (pI J T F L Q) (hB D cA z (hA z L sz)) (hA z L sz)) 0 0 (hA z L sz)) {I : HI} {T : HR} {F : HR} {L : HL} {r0 : Nat} {x1 : Int32} {x2 : Int32} {Q : Int32 → HI → Prop} (hcl : hCl Ev) (hn0 : NetSh F L r0) (h : Net_placeFrom_o RO I r0 x1 x2 Q) : Met l yX5_placeFrom (hws0 yX5_placeFrom cX5_placeFrom 5 (some .int)) { frames := rf + 1, cells := 0, slots := 0, locals := rl + 25 } (hPc D cA z Ev (I, J, T, F, L) sz [.ref (z + r0), .int x1, .int x2]) (va_Qi (pI J T F L Q) (hB D cA z (hA z L sz)) (hA z L sz)) 0 0 (hA z L sz) := by
  refine hm_met (I, J, T, F, L) [.ref (z + r0), .int x1, .int x2] rfl (by decide) (Nat.le_of_ble_eq_true rfl) ?_
  intro p e s m below meth c ls X hr hlk hnm hxt hsz hw hl
  have hl : lv_has ls 5 [(0, .ref (z + r0)), (1, .int x1), (2, .int x2)] := hl
  have hR : rf + 1 ≤ ({ frames := rf + 1, cells := 0, slots := 0, locals := rl + 25 } : Room).frames ∧ rl + 25 ≤ ({ frames := rf + 1, cells := 0, slots := 0, locals := rl + 25 } : Room).locals := ⟨Nat.le_refl _, Nat.le_refl _⟩
  generalize ({ frames := rf + 1, cells := 0, slots := 0, locals := rl + 25 } : Room) = R at hR ⊢
  clear hsz
  generalize (hA z L sz) = A at hw ⊢
  have hx := X.1
  have hb := X.2.1
  unfold Net_placeFrom_o at h
  refine lv_iload_n hx hb dX5_placeFrom_0 rfl (lv_at hl 1 rfl) ?_
  refine lv_aload_n hx hb dX5_placeFrom_1 rfl (lv_at hl 0 rfl) ?_
  refine hm_geti X hw lk_5_44 hn0.1 dX5_placeFrom_2 ?_
  refine lv_icmp_ge (tgt := 14) hx hb dX5_placeFrom_5 (by decide) (fun hc => ?_) (fun hc => ?_)
  · have h := Eq.mp (if_pos hc) h
    refine lv_iconst (v := 1) hx hb dX5_placeFrom_14 (by decide) ?_
    exact hm_iret X hr hlk hw ⟨_, rfl, h⟩ dX5_placeFrom_15
  · have h := Eq.mp (if_neg hc) h
    refine lv_iload_n hx hb dX5_placeFrom_8 rfl (lv_at hl 1 rfl) ?_
    refine lv_bipush (v := 6) hx hb dX5_placeFrom_9 (by decide) ?_
    refine lv_icmp_lt (tgt := 16) hx hb dX5_placeFrom_11 (by decide) (fun hc => ?_) (fun hc => ?_)
    · have h := Eq.mp (if_pos hc) h
      refine lv_iconst (v := 0) hx hb dX5_placeFrom_16 (by decide) ?_
      refine lv_istore_n (lv' := [(3, _), (0, _), (1, _), (2, _)]) hx hb dX5_placeFrom_17 rfl hl (by decide) rfl (fun ls hl => ?_)
      refine lv_iconst (v := 0) hx hb dX5_placeFrom_18 (by decide) ?_
      refine lv_istore (lv' := [(4, _), (3, _), (0, _), (1, _), (2, _)]) hx hb dX5_placeFrom_19 hl (by decide) rfl (fun ls hl => ?_)
      obtain ⟨n2, h⟩ := h
      exact wkNet_placeFrom_l21 hRO X hr hlk hR hcl hn0  n2 _ _ _ h hw (lv_sub hl [2, 3, 4, 1, 0] rfl)
    · have h := Eq.mp (if_neg hc) h
      refine lv_iconst (v := 1) hx hb dX5_placeFrom_14 (by decide) ?_
      exact hm_iret X hr hlk hw ⟨_, rfl, h⟩ dX5_placeFrom_15

theorem cNet_placeFrom (d : Nat) : ∀ {l : Launch} {D : va_G} {cA : Nat → ClassId} {z sz : Nat} {Ev : HE} {J : HJ} {I : HI} {T : HR} {F : HR} {L : HL} {r0 : Nat} {y1 : Int32} {y2 : Int32} {Q : Int32 → HI → Prop}, (hCl Ev) → (NetSh F L r0) → Net_placeFrom d I r0 y1 y2 Q → Met l yX5_placeFrom (hws0 yX5_placeFrom cX5_placeFrom 5 (some .int)) { frames := 1 * d, cells := 0, slots := 0, locals := 25 * d } (hPc D cA z Ev (I, J, T, F, L) sz [.ref (z + r0), .int y1, .int y2]) (va_Qi (pI J T F L Q) (hB D cA z (hA z L sz)) (hA z L sz)) 0 0 (hA z L sz) := by
  induction d with
  | zero => intros; rename_i h; exact False.elim h
  | succ d ih => intros; rename_i h; exact cNet_placeFrom_o (rf := 1 * d) (rl := 25 * d) ih (by assumption) (by assumption) h
end
