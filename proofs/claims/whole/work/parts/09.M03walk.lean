theorem dX11_worksAll_0 : decode cX11_worksAll 0 = .ok (.aload_n 0, 1) := by decide +kernel
theorem dX11_worksAll_1 : decode cX11_worksAll 1 = .ok (.getfield 195, 3) := by decide +kernel
theorem dX11_worksAll_4 : decode cX11_worksAll 4 = .ok (.ifCond .eq 4, 3) := by decide +kernel
theorem dX11_worksAll_7 : decode cX11_worksAll 7 = .ok (.return_, 1) := by decide +kernel
theorem dX11_worksAll_8 : decode cX11_worksAll 8 = .ok (.aload_n 0, 1) := by decide +kernel
theorem dX11_worksAll_9 : decode cX11_worksAll 9 = .ok (.iconst 1, 1) := by decide +kernel
theorem dX11_worksAll_10 : decode cX11_worksAll 10 = .ok (.putfield 195, 3) := by decide +kernel
theorem dX11_worksAll_13 : decode cX11_worksAll 13 = .ok (.iconst 0, 1) := by decide +kernel
theorem dX11_worksAll_14 : decode cX11_worksAll 14 = .ok (.istore_n 1, 1) := by decide +kernel
theorem dX11_worksAll_15 : decode cX11_worksAll 15 = .ok (.iload_n 1, 1) := by decide +kernel
theorem dX11_worksAll_16 : decode cX11_worksAll 16 = .ok (.aload_n 0, 1) := by decide +kernel
theorem dX11_worksAll_17 : decode cX11_worksAll 17 = .ok (.getfield 16, 3) := by decide +kernel
theorem dX11_worksAll_20 : decode cX11_worksAll 20 = .ok (.if_icmp .ge 116, 3) := by decide +kernel
theorem dX11_worksAll_23 : decode cX11_worksAll 23 = .ok (.aload_n 0, 1) := by decide +kernel
theorem dX11_worksAll_24 : decode cX11_worksAll 24 = .ok (.iload_n 1, 1) := by decide +kernel
theorem dX11_worksAll_25 : decode cX11_worksAll 25 = .ok (.invokevirtual 351, 3) := by decide +kernel
theorem dX11_worksAll_28 : decode cX11_worksAll 28 = .ok (.aload_n 0, 1) := by decide +kernel
theorem dX11_worksAll_29 : decode cX11_worksAll 29 = .ok (.getfield 84, 3) := by decide +kernel
theorem dX11_worksAll_32 : decode cX11_worksAll 32 = .ok (.iload_n 1, 1) := by decide +kernel
theorem dX11_worksAll_33 : decode cX11_worksAll 33 = .ok (.iconst 0, 1) := by decide +kernel
theorem dX11_worksAll_34 : decode cX11_worksAll 34 = .ok (.iastore, 1) := by decide +kernel
theorem dX11_worksAll_35 : decode cX11_worksAll 35 = .ok (.aload_n 0, 1) := by decide +kernel
theorem dX11_worksAll_36 : decode cX11_worksAll 36 = .ok (.getfield 87, 3) := by decide +kernel
theorem dX11_worksAll_39 : decode cX11_worksAll 39 = .ok (.iload_n 1, 1) := by decide +kernel
theorem dX11_worksAll_40 : decode cX11_worksAll 40 = .ok (.iconst 0, 1) := by decide +kernel
theorem dX11_worksAll_41 : decode cX11_worksAll 41 = .ok (.iastore, 1) := by decide +kernel
theorem dX11_worksAll_42 : decode cX11_worksAll 42 = .ok (.iconst 0, 1) := by decide +kernel
theorem dX11_worksAll_43 : decode cX11_worksAll 43 = .ok (.istore_n 2, 1) := by decide +kernel
theorem dX11_worksAll_44 : decode cX11_worksAll 44 = .ok (.iload_n 2, 1) := by decide +kernel
theorem dX11_worksAll_45 : decode cX11_worksAll 45 = .ok (.aload_n 0, 1) := by decide +kernel
theorem dX11_worksAll_46 : decode cX11_worksAll 46 = .ok (.getfield 7, 3) := by decide +kernel
theorem dX11_worksAll_49 : decode cX11_worksAll 49 = .ok (.if_icmp .ge 81, 3) := by decide +kernel
theorem dX11_worksAll_52 : decode cX11_worksAll 52 = .ok (.aload_n 0, 1) := by decide +kernel
theorem dX11_worksAll_53 : decode cX11_worksAll 53 = .ok (.getfield 91, 3) := by decide +kernel
theorem dX11_worksAll_56 : decode cX11_worksAll 56 = .ok (.bipush 8, 2) := by decide +kernel
theorem dX11_worksAll_58 : decode cX11_worksAll 58 = .ok (.iload_n 1, 1) := by decide +kernel
theorem dX11_worksAll_59 : decode cX11_worksAll 59 = .ok (.imul, 1) := by decide +kernel
theorem dX11_worksAll_60 : decode cX11_worksAll 60 = .ok (.iload_n 2, 1) := by decide +kernel
theorem dX11_worksAll_61 : decode cX11_worksAll 61 = .ok (.iadd, 1) := by decide +kernel
theorem dX11_worksAll_62 : decode cX11_worksAll 62 = .ok (.aload_n 0, 1) := by decide +kernel
theorem dX11_worksAll_63 : decode cX11_worksAll 63 = .ok (.getfield 78, 3) := by decide +kernel
theorem dX11_worksAll_66 : decode cX11_worksAll 66 = .ok (.iload_n 2, 1) := by decide +kernel
theorem dX11_worksAll_67 : decode cX11_worksAll 67 = .ok (.iaload, 1) := by decide +kernel
theorem dX11_worksAll_68 : decode cX11_worksAll 68 = .ok (.iastore, 1) := by decide +kernel
theorem dX11_worksAll_69 : decode cX11_worksAll 69 = .ok (.aload_n 0, 1) := by decide +kernel
theorem dX11_worksAll_70 : decode cX11_worksAll 70 = .ok (.getfield 78, 3) := by decide +kernel
theorem dX11_worksAll_73 : decode cX11_worksAll 73 = .ok (.iload_n 2, 1) := by decide +kernel
theorem dX11_worksAll_74 : decode cX11_worksAll 74 = .ok (.iaload, 1) := by decide +kernel
theorem dX11_worksAll_75 : decode cX11_worksAll 75 = .ok (.aload_n 0, 1) := by decide +kernel
theorem dX11_worksAll_76 : decode cX11_worksAll 76 = .ok (.getfield 75, 3) := by decide +kernel
theorem dX11_worksAll_79 : decode cX11_worksAll 79 = .ok (.iload_n 2, 1) := by decide +kernel
theorem dX11_worksAll_80 : decode cX11_worksAll 80 = .ok (.iaload, 1) := by decide +kernel
theorem dX11_worksAll_81 : decode cX11_worksAll 81 = .ok (.if_icmp .ne 18, 3) := by decide +kernel
theorem dX11_worksAll_84 : decode cX11_worksAll 84 = .ok (.aload_n 0, 1) := by decide +kernel
theorem dX11_worksAll_85 : decode cX11_worksAll 85 = .ok (.getfield 84, 3) := by decide +kernel
theorem dX11_worksAll_88 : decode cX11_worksAll 88 = .ok (.iload_n 1, 1) := by decide +kernel
theorem dX11_worksAll_89 : decode cX11_worksAll 89 = .ok (.dup2, 1) := by decide +kernel
theorem dX11_worksAll_90 : decode cX11_worksAll 90 = .ok (.iaload, 1) := by decide +kernel
theorem dX11_worksAll_91 : decode cX11_worksAll 91 = .ok (.iconst 1, 1) := by decide +kernel
theorem dX11_worksAll_92 : decode cX11_worksAll 92 = .ok (.iload_n 2, 1) := by decide +kernel
theorem dX11_worksAll_93 : decode cX11_worksAll 93 = .ok (.ishl, 1) := by decide +kernel
theorem dX11_worksAll_94 : decode cX11_worksAll 94 = .ok (.ior, 1) := by decide +kernel
theorem dX11_worksAll_95 : decode cX11_worksAll 95 = .ok (.iastore, 1) := by decide +kernel
theorem dX11_worksAll_96 : decode cX11_worksAll 96 = .ok (.goto 28, 3) := by decide +kernel
theorem dX11_worksAll_99 : decode cX11_worksAll 99 = .ok (.aload_n 0, 1) := by decide +kernel
theorem dX11_worksAll_100 : decode cX11_worksAll 100 = .ok (.getfield 78, 3) := by decide +kernel
theorem dX11_worksAll_103 : decode cX11_worksAll 103 = .ok (.iload_n 2, 1) := by decide +kernel
theorem dX11_worksAll_104 : decode cX11_worksAll 104 = .ok (.iaload, 1) := by decide +kernel
theorem dX11_worksAll_105 : decode cX11_worksAll 105 = .ok (.aload_n 0, 1) := by decide +kernel
theorem dX11_worksAll_106 : decode cX11_worksAll 106 = .ok (.getfield 13, 3) := by decide +kernel
theorem dX11_worksAll_109 : decode cX11_worksAll 109 = .ok (.if_icmp .eq 15, 3) := by decide +kernel
theorem dX11_worksAll_112 : decode cX11_worksAll 112 = .ok (.aload_n 0, 1) := by decide +kernel
theorem dX11_worksAll_113 : decode cX11_worksAll 113 = .ok (.getfield 87, 3) := by decide +kernel
theorem dX11_worksAll_116 : decode cX11_worksAll 116 = .ok (.iload_n 1, 1) := by decide +kernel
theorem dX11_worksAll_117 : decode cX11_worksAll 117 = .ok (.dup2, 1) := by decide +kernel
theorem dX11_worksAll_118 : decode cX11_worksAll 118 = .ok (.iaload, 1) := by decide +kernel
theorem dX11_worksAll_119 : decode cX11_worksAll 119 = .ok (.iconst 1, 1) := by decide +kernel
theorem dX11_worksAll_120 : decode cX11_worksAll 120 = .ok (.iload_n 2, 1) := by decide +kernel
theorem dX11_worksAll_121 : decode cX11_worksAll 121 = .ok (.ishl, 1) := by decide +kernel
theorem dX11_worksAll_122 : decode cX11_worksAll 122 = .ok (.ior, 1) := by decide +kernel
theorem dX11_worksAll_123 : decode cX11_worksAll 123 = .ok (.iastore, 1) := by decide +kernel
theorem dX11_worksAll_124 : decode cX11_worksAll 124 = .ok (.iinc 2 1, 3) := by decide +kernel
theorem dX11_worksAll_127 : decode cX11_worksAll 127 = .ok (.goto (-83), 3) := by decide +kernel
theorem dX11_worksAll_130 : decode cX11_worksAll 130 = .ok (.iinc 1 1, 3) := by decide +kernel
theorem dX11_worksAll_133 : decode cX11_worksAll 133 = .ok (.goto (-118), 3) := by decide +kernel
theorem dX11_worksAll_136 : decode cX11_worksAll 136 = .ok (.return_, 1) := by decide +kernel
theorem dX11_many_0 : decode cX11_many 0 = .ok (.iload_n 1, 1) := by decide +kernel
theorem dX11_many_1 : decode cX11_many 1 = .ok (.istore_n 3, 1) := by decide +kernel
theorem dX11_many_2 : decode cX11_many 2 = .ok (.iconst 0, 1) := by decide +kernel
theorem dX11_many_3 : decode cX11_many 3 = .ok (.istore 4, 2) := by decide +kernel
theorem dX11_many_5 : decode cX11_many 5 = .ok (.iconst 0, 1) := by decide +kernel
theorem dX11_many_6 : decode cX11_many 6 = .ok (.istore 5, 2) := by decide +kernel
theorem dX11_many_8 : decode cX11_many 8 = .ok (.iload 5, 2) := by decide +kernel
theorem dX11_many_10 : decode cX11_many 10 = .ok (.aload_n 0, 1) := by decide +kernel
theorem dX11_many_11 : decode cX11_many 11 = .ok (.getfield 7, 3) := by decide +kernel
theorem dX11_many_14 : decode cX11_many 14 = .ok (.if_icmp .ge 36, 3) := by decide +kernel
theorem dX11_many_17 : decode cX11_many 17 = .ok (.iload 4, 2) := by decide +kernel
theorem dX11_many_19 : decode cX11_many 19 = .ok (.iload_n 3, 1) := by decide +kernel
theorem dX11_many_20 : decode cX11_many 20 = .ok (.aload_n 0, 1) := by decide +kernel
theorem dX11_many_21 : decode cX11_many 21 = .ok (.getfield 13, 3) := by decide +kernel
theorem dX11_many_24 : decode cX11_many 24 = .ok (.irem, 1) := by decide +kernel
theorem dX11_many_25 : decode cX11_many 25 = .ok (.iload_n 2, 1) := by decide +kernel
theorem dX11_many_26 : decode cX11_many 26 = .ok (.if_icmp .ne 7, 3) := by decide +kernel
theorem dX11_many_29 : decode cX11_many 29 = .ok (.iconst 1, 1) := by decide +kernel
theorem dX11_many_30 : decode cX11_many 30 = .ok (.goto 4, 3) := by decide +kernel
theorem dX11_many_33 : decode cX11_many 33 = .ok (.iconst 0, 1) := by decide +kernel
theorem dX11_many_34 : decode cX11_many 34 = .ok (.iadd, 1) := by decide +kernel
theorem dX11_many_35 : decode cX11_many 35 = .ok (.istore 4, 2) := by decide +kernel
theorem dX11_many_37 : decode cX11_many 37 = .ok (.iload_n 3, 1) := by decide +kernel
theorem dX11_many_38 : decode cX11_many 38 = .ok (.aload_n 0, 1) := by decide +kernel
theorem dX11_many_39 : decode cX11_many 39 = .ok (.getfield 13, 3) := by decide +kernel
theorem dX11_many_42 : decode cX11_many 42 = .ok (.idiv, 1) := by decide +kernel
theorem dX11_many_43 : decode cX11_many 43 = .ok (.istore_n 3, 1) := by decide +kernel
theorem dX11_many_44 : decode cX11_many 44 = .ok (.iinc 5 1, 3) := by decide +kernel
theorem dX11_many_47 : decode cX11_many 47 = .ok (.goto (-39), 3) := by decide +kernel
theorem dX11_many_50 : decode cX11_many 50 = .ok (.iload 4, 2) := by decide +kernel
theorem dX11_many_52 : decode cX11_many 52 = .ok (.ireturn, 1) := by decide +kernel
theorem dX11_counts_0 : decode cX11_counts 0 = .ok (.iconst 1, 1) := by decide +kernel
theorem dX11_counts_1 : decode cX11_counts 1 = .ok (.istore_n 2, 1) := by decide +kernel
theorem dX11_counts_2 : decode cX11_counts 2 = .ok (.iconst 0, 1) := by decide +kernel
theorem dX11_counts_3 : decode cX11_counts 3 = .ok (.istore_n 3, 1) := by decide +kernel
theorem dX11_counts_4 : decode cX11_counts 4 = .ok (.iload_n 3, 1) := by decide +kernel
theorem dX11_counts_5 : decode cX11_counts 5 = .ok (.aload_n 0, 1) := by decide +kernel
theorem dX11_counts_6 : decode cX11_counts 6 = .ok (.getfield 13, 3) := by decide +kernel
theorem dX11_counts_9 : decode cX11_counts 9 = .ok (.if_icmp .ge 34, 3) := by decide +kernel
theorem dX11_counts_12 : decode cX11_counts 12 = .ok (.iload_n 2, 1) := by decide +kernel
theorem dX11_counts_13 : decode cX11_counts 13 = .ok (.ifCond .eq 22, 3) := by decide +kernel
theorem dX11_counts_16 : decode cX11_counts 16 = .ok (.aload_n 0, 1) := by decide +kernel
theorem dX11_counts_17 : decode cX11_counts 17 = .ok (.iload_n 1, 1) := by decide +kernel
theorem dX11_counts_18 : decode cX11_counts 18 = .ok (.iload_n 3, 1) := by decide +kernel
theorem dX11_counts_19 : decode cX11_counts 19 = .ok (.invokevirtual 354, 3) := by decide +kernel
theorem dX11_counts_22 : decode cX11_counts 22 = .ok (.aload_n 0, 1) := by decide +kernel
theorem dX11_counts_23 : decode cX11_counts 23 = .ok (.getfield 22, 3) := by decide +kernel
theorem dX11_counts_26 : decode cX11_counts 26 = .ok (.iload_n 3, 1) := by decide +kernel
theorem dX11_counts_27 : decode cX11_counts 27 = .ok (.iaload, 1) := by decide +kernel
theorem dX11_counts_28 : decode cX11_counts 28 = .ok (.if_icmp .gt 7, 3) := by decide +kernel
theorem dX11_counts_31 : decode cX11_counts 31 = .ok (.iconst 1, 1) := by decide +kernel
theorem dX11_counts_32 : decode cX11_counts 32 = .ok (.goto 4, 3) := by decide +kernel
theorem dX11_counts_35 : decode cX11_counts 35 = .ok (.iconst 0, 1) := by decide +kernel
theorem dX11_counts_36 : decode cX11_counts 36 = .ok (.istore_n 2, 1) := by decide +kernel
theorem dX11_counts_37 : decode cX11_counts 37 = .ok (.iinc 3 1, 3) := by decide +kernel
theorem dX11_counts_40 : decode cX11_counts 40 = .ok (.goto (-36), 3) := by decide +kernel
theorem dX11_counts_43 : decode cX11_counts 43 = .ok (.iload_n 2, 1) := by decide +kernel
theorem dX11_counts_44 : decode cX11_counts 44 = .ok (.ireturn, 1) := by decide +kernel
theorem dX11_isWon_0 : decode cX11_isWon 0 = .ok (.iload_n 1, 1) := by decide +kernel
theorem dX11_isWon_1 : decode cX11_isWon 1 = .ok (.invokestatic 177, 3) := by decide +kernel
theorem dX11_isWon_4 : decode cX11_isWon 4 = .ok (.istore_n 3, 1) := by decide +kernel
theorem dX11_isWon_5 : decode cX11_isWon 5 = .ok (.aload_n 0, 1) := by decide +kernel
theorem dX11_isWon_6 : decode cX11_isWon 6 = .ok (.getfield 211, 3) := by decide +kernel
theorem dX11_isWon_9 : decode cX11_isWon 9 = .ok (.tableswitch 73 0 2 #[27, 41, 55], 27) := by decide +kernel
theorem dX11_isWon_36 : decode cX11_isWon 36 = .ok (.iload_n 3, 1) := by decide +kernel
theorem dX11_isWon_37 : decode cX11_isWon 37 = .ok (.aload_n 0, 1) := by decide +kernel
theorem dX11_isWon_38 : decode cX11_isWon 38 = .ok (.getfield 19, 3) := by decide +kernel
theorem dX11_isWon_41 : decode cX11_isWon 41 = .ok (.if_icmp .lt 7, 3) := by decide +kernel
theorem dX11_isWon_44 : decode cX11_isWon 44 = .ok (.iconst 1, 1) := by decide +kernel
theorem dX11_isWon_45 : decode cX11_isWon 45 = .ok (.goto 4, 3) := by decide +kernel
theorem dX11_isWon_48 : decode cX11_isWon 48 = .ok (.iconst 0, 1) := by decide +kernel
theorem dX11_isWon_49 : decode cX11_isWon 49 = .ok (.ireturn, 1) := by decide +kernel
theorem dX11_isWon_50 : decode cX11_isWon 50 = .ok (.iload_n 3, 1) := by decide +kernel
theorem dX11_isWon_51 : decode cX11_isWon 51 = .ok (.aload_n 0, 1) := by decide +kernel
theorem dX11_isWon_52 : decode cX11_isWon 52 = .ok (.getfield 19, 3) := by decide +kernel
theorem dX11_isWon_55 : decode cX11_isWon 55 = .ok (.if_icmp .ne 7, 3) := by decide +kernel
theorem dX11_isWon_58 : decode cX11_isWon 58 = .ok (.iconst 1, 1) := by decide +kernel
theorem dX11_isWon_59 : decode cX11_isWon 59 = .ok (.goto 4, 3) := by decide +kernel
theorem dX11_isWon_62 : decode cX11_isWon 62 = .ok (.iconst 0, 1) := by decide +kernel
theorem dX11_isWon_63 : decode cX11_isWon 63 = .ok (.ireturn, 1) := by decide +kernel
theorem dX11_isWon_64 : decode cX11_isWon 64 = .ok (.iload_n 2, 1) := by decide +kernel
theorem dX11_isWon_65 : decode cX11_isWon 65 = .ok (.ifCond .ne 15, 3) := by decide +kernel
theorem dX11_isWon_68 : decode cX11_isWon 68 = .ok (.iload_n 3, 1) := by decide +kernel
theorem dX11_isWon_69 : decode cX11_isWon 69 = .ok (.aload_n 0, 1) := by decide +kernel
theorem dX11_isWon_70 : decode cX11_isWon 70 = .ok (.getfield 19, 3) := by decide +kernel
theorem dX11_isWon_73 : decode cX11_isWon 73 = .ok (.if_icmp .lt 7, 3) := by decide +kernel
theorem dX11_isWon_76 : decode cX11_isWon 76 = .ok (.iconst 1, 1) := by decide +kernel
theorem dX11_isWon_77 : decode cX11_isWon 77 = .ok (.goto 4, 3) := by decide +kernel
theorem dX11_isWon_80 : decode cX11_isWon 80 = .ok (.iconst 0, 1) := by decide +kernel
theorem dX11_isWon_81 : decode cX11_isWon 81 = .ok (.ireturn, 1) := by decide +kernel
theorem dX11_isWon_82 : decode cX11_isWon 82 = .ok (.aload_n 0, 1) := by decide +kernel
theorem dX11_isWon_83 : decode cX11_isWon 83 = .ok (.getfield 7, 3) := by decide +kernel
theorem dX11_isWon_86 : decode cX11_isWon 86 = .ok (.iload_n 3, 1) := by decide +kernel
theorem dX11_isWon_87 : decode cX11_isWon 87 = .ok (.isub, 1) := by decide +kernel
theorem dX11_isWon_88 : decode cX11_isWon 88 = .ok (.aload_n 0, 1) := by decide +kernel
theorem dX11_isWon_89 : decode cX11_isWon 89 = .ok (.getfield 19, 3) := by decide +kernel
theorem dX11_isWon_92 : decode cX11_isWon 92 = .ok (.if_icmp .gt 7, 3) := by decide +kernel
theorem dX11_isWon_95 : decode cX11_isWon 95 = .ok (.iconst 1, 1) := by decide +kernel
theorem dX11_isWon_96 : decode cX11_isWon 96 = .ok (.goto 4, 3) := by decide +kernel
theorem dX11_isWon_99 : decode cX11_isWon 99 = .ok (.iconst 0, 1) := by decide +kernel
theorem dX11_isWon_100 : decode cX11_isWon 100 = .ok (.ireturn, 1) := by decide +kernel
theorem dX11_about_0 : decode cX11_about 0 = .ok (.aload_n 0, 1) := by decide +kernel
theorem dX11_about_1 : decode cX11_about 1 = .ok (.iload_n 1, 1) := by decide +kernel
theorem dX11_about_2 : decode cX11_about 2 = .ok (.invokevirtual 207, 3) := by decide +kernel
theorem dX11_about_5 : decode cX11_about 5 = .ok (.ifCond .eq 25, 3) := by decide +kernel
theorem dX11_about_8 : decode cX11_about 8 = .ok (.aload_n 0, 1) := by decide +kernel
theorem dX11_about_9 : decode cX11_about 9 = .ok (.iload_n 2, 1) := by decide +kernel
theorem dX11_about_10 : decode cX11_about 10 = .ok (.ifCond .lt 12, 3) := by decide +kernel
theorem dX11_about_13 : decode cX11_about 13 = .ok (.iload_n 2, 1) := by decide +kernel
theorem dX11_about_14 : decode cX11_about 14 = .ok (.iconst 4, 1) := by decide +kernel
theorem dX11_about_15 : decode cX11_about 15 = .ok (.if_icmp .gt 7, 3) := by decide +kernel
theorem dX11_about_18 : decode cX11_about 18 = .ok (.iconst 1, 1) := by decide +kernel
theorem dX11_about_19 : decode cX11_about 19 = .ok (.goto 4, 3) := by decide +kernel
theorem dX11_about_22 : decode cX11_about 22 = .ok (.iconst 0, 1) := by decide +kernel
theorem dX11_about_23 : decode cX11_about 23 = .ok (.iconst 1, 1) := by decide +kernel
theorem dX11_about_24 : decode cX11_about 24 = .ok (.invokevirtual 203, 3) := by decide +kernel
theorem dX11_about_27 : decode cX11_about 27 = .ok (.ifCond .ne 5, 3) := by decide +kernel
theorem dX11_about_30 : decode cX11_about 30 = .ok (.iconst 0, 1) := by decide +kernel
theorem dX11_about_31 : decode cX11_about 31 = .ok (.ireturn, 1) := by decide +kernel
theorem dX11_about_32 : decode cX11_about 32 = .ok (.aload_n 0, 1) := by decide +kernel
theorem dX11_about_33 : decode cX11_about 33 = .ok (.iload_n 1, 1) := by decide +kernel
theorem dX11_about_34 : decode cX11_about 34 = .ok (.invokevirtual 184, 3) := by decide +kernel
theorem dX11_about_37 : decode cX11_about 37 = .ok (.istore_n 3, 1) := by decide +kernel
theorem dX11_about_38 : decode cX11_about 38 = .ok (.iload_n 2, 1) := by decide +kernel
theorem dX11_about_39 : decode cX11_about 39 = .ok (.ifCond .ne 12, 3) := by decide +kernel
theorem dX11_about_42 : decode cX11_about 42 = .ok (.aload_n 0, 1) := by decide +kernel
theorem dX11_about_43 : decode cX11_about 43 = .ok (.getfield 26, 3) := by decide +kernel
theorem dX11_about_46 : decode cX11_about 46 = .ok (.iload_n 1, 1) := by decide +kernel
theorem dX11_about_47 : decode cX11_about 47 = .ok (.iaload, 1) := by decide +kernel
theorem dX11_about_48 : decode cX11_about 48 = .ok (.goto 56, 3) := by decide +kernel
theorem dX11_about_51 : decode cX11_about 51 = .ok (.iload_n 2, 1) := by decide +kernel
theorem dX11_about_52 : decode cX11_about 52 = .ok (.iconst 1, 1) := by decide +kernel
theorem dX11_about_53 : decode cX11_about 53 = .ok (.if_icmp .ne 12, 3) := by decide +kernel
theorem dX11_about_56 : decode cX11_about 56 = .ok (.aload_n 0, 1) := by decide +kernel
theorem dX11_about_57 : decode cX11_about 57 = .ok (.getfield 29, 3) := by decide +kernel
theorem dX11_about_60 : decode cX11_about 60 = .ok (.iload_n 1, 1) := by decide +kernel
theorem dX11_about_61 : decode cX11_about 61 = .ok (.iaload, 1) := by decide +kernel
theorem dX11_about_62 : decode cX11_about 62 = .ok (.goto 42, 3) := by decide +kernel
theorem dX11_about_65 : decode cX11_about 65 = .ok (.iload_n 2, 1) := by decide +kernel
theorem dX11_about_66 : decode cX11_about 66 = .ok (.iconst 2, 1) := by decide +kernel
theorem dX11_about_67 : decode cX11_about 67 = .ok (.if_icmp .ne 11, 3) := by decide +kernel
theorem dX11_about_70 : decode cX11_about 70 = .ok (.aload_n 0, 1) := by decide +kernel
theorem dX11_about_71 : decode cX11_about 71 = .ok (.iload_n 1, 1) := by decide +kernel
theorem dX11_about_72 : decode cX11_about 72 = .ok (.invokevirtual 181, 3) := by decide +kernel
theorem dX11_about_75 : decode cX11_about 75 = .ok (.goto 29, 3) := by decide +kernel
theorem dX11_about_78 : decode cX11_about 78 = .ok (.iload_n 2, 1) := by decide +kernel
theorem dX11_about_79 : decode cX11_about 79 = .ok (.iconst 3, 1) := by decide +kernel
theorem dX11_about_80 : decode cX11_about 80 = .ok (.if_icmp .ne 18, 3) := by decide +kernel
theorem dX11_about_83 : decode cX11_about 83 = .ok (.iload_n 3, 1) := by decide +kernel
theorem dX11_about_84 : decode cX11_about 84 = .ok (.sipush 1024, 3) := by decide +kernel
theorem dX11_about_87 : decode cX11_about 87 = .ok (.if_icmp .le 7, 3) := by decide +kernel
theorem dX11_about_90 : decode cX11_about 90 = .ok (.iconst (-1), 1) := by decide +kernel
theorem dX11_about_91 : decode cX11_about 91 = .ok (.goto 13, 3) := by decide +kernel
theorem dX11_about_94 : decode cX11_about 94 = .ok (.iload_n 3, 1) := by decide +kernel
theorem dX11_about_95 : decode cX11_about 95 = .ok (.goto 9, 3) := by decide +kernel
theorem dX11_about_98 : decode cX11_about 98 = .ok (.aload_n 0, 1) := by decide +kernel
theorem dX11_about_99 : decode cX11_about 99 = .ok (.getfield 32, 3) := by decide +kernel
theorem dX11_about_102 : decode cX11_about 102 = .ok (.iload_n 1, 1) := by decide +kernel
theorem dX11_about_103 : decode cX11_about 103 = .ok (.iaload, 1) := by decide +kernel
theorem dX11_about_104 : decode cX11_about 104 = .ok (.ireturn, 1) := by decide +kernel
theorem dX11_tell_0 : decode cX11_tell 0 = .ok (.aload_n 0, 1) := by decide +kernel
theorem dX11_tell_1 : decode cX11_tell 1 = .ok (.iload_n 1, 1) := by decide +kernel
theorem dX11_tell_2 : decode cX11_tell 2 = .ok (.invokevirtual 207, 3) := by decide +kernel
theorem dX11_tell_5 : decode cX11_tell 5 = .ok (.ifCond .ne 5, 3) := by decide +kernel
theorem dX11_tell_8 : decode cX11_tell 8 = .ok (.iconst 0, 1) := by decide +kernel
theorem dX11_tell_9 : decode cX11_tell 9 = .ok (.ireturn, 1) := by decide +kernel
theorem dX11_tell_10 : decode cX11_tell 10 = .ok (.aload_n 0, 1) := by decide +kernel
theorem dX11_tell_11 : decode cX11_tell 11 = .ok (.iload_n 1, 1) := by decide +kernel
theorem dX11_tell_12 : decode cX11_tell 12 = .ok (.invokevirtual 184, 3) := by decide +kernel
theorem dX11_tell_15 : decode cX11_tell 15 = .ok (.istore 4, 2) := by decide +kernel
theorem dX11_tell_17 : decode cX11_tell 17 = .ok (.iload 4, 2) := by decide +kernel
theorem dX11_tell_19 : decode cX11_tell 19 = .ok (.sipush 1024, 3) := by decide +kernel
theorem dX11_tell_22 : decode cX11_tell 22 = .ok (.if_icmp .gt 25, 3) := by decide +kernel
theorem dX11_tell_25 : decode cX11_tell 25 = .ok (.iload_n 2, 1) := by decide +kernel
theorem dX11_tell_26 : decode cX11_tell 26 = .ok (.ifCond .lt 21, 3) := by decide +kernel
theorem dX11_tell_29 : decode cX11_tell 29 = .ok (.iload_n 2, 1) := by decide +kernel
theorem dX11_tell_30 : decode cX11_tell 30 = .ok (.iload 4, 2) := by decide +kernel
theorem dX11_tell_32 : decode cX11_tell 32 = .ok (.if_icmp .ge 15, 3) := by decide +kernel
theorem dX11_tell_35 : decode cX11_tell 35 = .ok (.iload_n 3, 1) := by decide +kernel
theorem dX11_tell_36 : decode cX11_tell 36 = .ok (.iconst 0, 1) := by decide +kernel
theorem dX11_tell_37 : decode cX11_tell 37 = .ok (.aload_n 0, 1) := by decide +kernel
theorem dX11_tell_38 : decode cX11_tell 38 = .ok (.getfield 13, 3) := by decide +kernel
theorem dX11_tell_41 : decode cX11_tell 41 = .ok (.invokestatic 199, 3) := by decide +kernel
theorem dX11_tell_44 : decode cX11_tell 44 = .ok (.ifCond .ne 5, 3) := by decide +kernel
theorem dX11_tell_47 : decode cX11_tell 47 = .ok (.iconst 0, 1) := by decide +kernel
theorem dX11_tell_48 : decode cX11_tell 48 = .ok (.ireturn, 1) := by decide +kernel
theorem dX11_tell_49 : decode cX11_tell 49 = .ok (.aload_n 0, 1) := by decide +kernel
theorem dX11_tell_50 : decode cX11_tell 50 = .ok (.getfield 32, 3) := by decide +kernel
theorem dX11_tell_53 : decode cX11_tell 53 = .ok (.iload_n 1, 1) := by decide +kernel
theorem dX11_tell_54 : decode cX11_tell 54 = .ok (.iaload, 1) := by decide +kernel
theorem dX11_tell_55 : decode cX11_tell 55 = .ok (.ifCond .eq 8, 3) := by decide +kernel
theorem dX11_tell_58 : decode cX11_tell 58 = .ok (.aload_n 0, 1) := by decide +kernel
theorem dX11_tell_59 : decode cX11_tell 59 = .ok (.iload_n 1, 1) := by decide +kernel
theorem dX11_tell_60 : decode cX11_tell 60 = .ok (.invokevirtual 191, 3) := by decide +kernel
theorem dX11_tell_63 : decode cX11_tell 63 = .ok (.aload_n 0, 1) := by decide +kernel
theorem dX11_tell_64 : decode cX11_tell 64 = .ok (.getfield 35, 3) := by decide +kernel
theorem dX11_tell_67 : decode cX11_tell 67 = .ok (.sipush 1024, 3) := by decide +kernel
theorem dX11_tell_70 : decode cX11_tell 70 = .ok (.iload_n 1, 1) := by decide +kernel
theorem dX11_tell_71 : decode cX11_tell 71 = .ok (.imul, 1) := by decide +kernel
theorem dX11_tell_72 : decode cX11_tell 72 = .ok (.iload_n 2, 1) := by decide +kernel
theorem dX11_tell_73 : decode cX11_tell 73 = .ok (.iadd, 1) := by decide +kernel
theorem dX11_tell_74 : decode cX11_tell 74 = .ok (.iload_n 3, 1) := by decide +kernel
theorem dX11_tell_75 : decode cX11_tell 75 = .ok (.iastore, 1) := by decide +kernel
theorem dX11_tell_76 : decode cX11_tell 76 = .ok (.aload_n 0, 1) := by decide +kernel
theorem dX11_tell_77 : decode cX11_tell 77 = .ok (.iconst 0, 1) := by decide +kernel
theorem dX11_tell_78 : decode cX11_tell 78 = .ok (.putfield 195, 3) := by decide +kernel
theorem dX11_tell_81 : decode cX11_tell 81 = .ok (.iconst 1, 1) := by decide +kernel
theorem dX11_tell_82 : decode cX11_tell 82 = .ok (.ireturn, 1) := by decide +kernel
theorem dX11_cell_0 : decode cX11_cell 0 = .ok (.aload_n 0, 1) := by decide +kernel
theorem dX11_cell_1 : decode cX11_cell 1 = .ok (.iload_n 1, 1) := by decide +kernel
theorem dX11_cell_2 : decode cX11_cell 2 = .ok (.invokevirtual 207, 3) := by decide +kernel
theorem dX11_cell_5 : decode cX11_cell 5 = .ok (.ifCond .eq 38, 3) := by decide +kernel
theorem dX11_cell_8 : decode cX11_cell 8 = .ok (.aload_n 0, 1) := by decide +kernel
theorem dX11_cell_9 : decode cX11_cell 9 = .ok (.aload_n 0, 1) := by decide +kernel
theorem dX11_cell_10 : decode cX11_cell 10 = .ok (.getfield 32, 3) := by decide +kernel
theorem dX11_cell_13 : decode cX11_cell 13 = .ok (.iload_n 1, 1) := by decide +kernel
theorem dX11_cell_14 : decode cX11_cell 14 = .ok (.iaload, 1) := by decide +kernel
theorem dX11_cell_15 : decode cX11_cell 15 = .ok (.ifCond .ne 20, 3) := by decide +kernel
theorem dX11_cell_18 : decode cX11_cell 18 = .ok (.iload_n 2, 1) := by decide +kernel
theorem dX11_cell_19 : decode cX11_cell 19 = .ok (.ifCond .lt 16, 3) := by decide +kernel
theorem dX11_cell_22 : decode cX11_cell 22 = .ok (.iload_n 2, 1) := by decide +kernel
theorem dX11_cell_23 : decode cX11_cell 23 = .ok (.aload_n 0, 1) := by decide +kernel
theorem dX11_cell_24 : decode cX11_cell 24 = .ok (.iload_n 1, 1) := by decide +kernel
theorem dX11_cell_25 : decode cX11_cell 25 = .ok (.invokevirtual 184, 3) := by decide +kernel
theorem dX11_cell_28 : decode cX11_cell 28 = .ok (.if_icmp .ge 7, 3) := by decide +kernel
theorem dX11_cell_31 : decode cX11_cell 31 = .ok (.iconst 1, 1) := by decide +kernel
theorem dX11_cell_32 : decode cX11_cell 32 = .ok (.goto 4, 3) := by decide +kernel
theorem dX11_cell_35 : decode cX11_cell 35 = .ok (.iconst 0, 1) := by decide +kernel
theorem dX11_cell_36 : decode cX11_cell 36 = .ok (.iconst 1, 1) := by decide +kernel
theorem dX11_cell_37 : decode cX11_cell 37 = .ok (.invokevirtual 203, 3) := by decide +kernel
theorem dX11_cell_40 : decode cX11_cell 40 = .ok (.ifCond .ne 5, 3) := by decide +kernel
theorem dX11_cell_43 : decode cX11_cell 43 = .ok (.iconst 0, 1) := by decide +kernel
theorem dX11_cell_44 : decode cX11_cell 44 = .ok (.ireturn, 1) := by decide +kernel
theorem dX11_cell_45 : decode cX11_cell 45 = .ok (.aload_n 0, 1) := by decide +kernel
theorem dX11_cell_46 : decode cX11_cell 46 = .ok (.getfield 35, 3) := by decide +kernel
theorem dX11_cell_49 : decode cX11_cell 49 = .ok (.sipush 1024, 3) := by decide +kernel
theorem dX11_cell_52 : decode cX11_cell 52 = .ok (.iload_n 1, 1) := by decide +kernel
theorem dX11_cell_53 : decode cX11_cell 53 = .ok (.imul, 1) := by decide +kernel
theorem dX11_cell_54 : decode cX11_cell 54 = .ok (.iload_n 2, 1) := by decide +kernel
theorem dX11_cell_55 : decode cX11_cell 55 = .ok (.iadd, 1) := by decide +kernel
theorem dX11_cell_56 : decode cX11_cell 56 = .ok (.iaload, 1) := by decide +kernel
theorem dX11_cell_57 : decode cX11_cell 57 = .ok (.ireturn, 1) := by decide +kernel
theorem dX11_isRow_0 : decode cX11_isRow 0 = .ok (.aload_n 0, 1) := by decide +kernel
theorem dX11_isRow_1 : decode cX11_isRow 1 = .ok (.iload_n 1, 1) := by decide +kernel
theorem dX11_isRow_2 : decode cX11_isRow 2 = .ok (.ifCond .lt 15, 3) := by decide +kernel
theorem dX11_isRow_5 : decode cX11_isRow 5 = .ok (.iload_n 1, 1) := by decide +kernel
theorem dX11_isRow_6 : decode cX11_isRow 6 = .ok (.aload_n 0, 1) := by decide +kernel
theorem dX11_isRow_7 : decode cX11_isRow 7 = .ok (.getfield 16, 3) := by decide +kernel
theorem dX11_isRow_10 : decode cX11_isRow 10 = .ok (.if_icmp .ge 7, 3) := by decide +kernel
theorem dX11_isRow_13 : decode cX11_isRow 13 = .ok (.iconst 1, 1) := by decide +kernel
theorem dX11_isRow_14 : decode cX11_isRow 14 = .ok (.goto 4, 3) := by decide +kernel
theorem dX11_isRow_17 : decode cX11_isRow 17 = .ok (.iconst 0, 1) := by decide +kernel
theorem dX11_isRow_18 : decode cX11_isRow 18 = .ok (.iconst 1, 1) := by decide +kernel
theorem dX11_isRow_19 : decode cX11_isRow 19 = .ok (.invokevirtual 203, 3) := by decide +kernel
theorem dX11_isRow_22 : decode cX11_isRow 22 = .ok (.ireturn, 1) := by decide +kernel
theorem dX11_in_0 : decode cX11_in 0 = .ok (.aload_n 0, 1) := by decide +kernel
theorem dX11_in_1 : decode cX11_in 1 = .ok (.iconst 0, 1) := by decide +kernel
theorem dX11_in_2 : decode cX11_in 2 = .ok (.putfield 174, 3) := by decide +kernel
theorem dX11_in_5 : decode cX11_in 5 = .ok (.aload_n 0, 1) := by decide +kernel
theorem dX11_in_6 : decode cX11_in 6 = .ok (.iload_n 1, 1) := by decide +kernel
theorem dX11_in_7 : decode cX11_in 7 = .ok (.invokevirtual 357, 3) := by decide +kernel
theorem dX11_in_10 : decode cX11_in 10 = .ok (.ifCond .eq 66, 3) := by decide +kernel
theorem dX11_in_13 : decode cX11_in 13 = .ok (.aload_n 0, 1) := by decide +kernel
theorem dX11_in_14 : decode cX11_in 14 = .ok (.iload_n 2, 1) := by decide +kernel
theorem dX11_in_15 : decode cX11_in 15 = .ok (.ifCond .lt 24, 3) := by decide +kernel
theorem dX11_in_18 : decode cX11_in 18 = .ok (.iload_n 2, 1) := by decide +kernel
theorem dX11_in_19 : decode cX11_in 19 = .ok (.aload_n 0, 1) := by decide +kernel
theorem dX11_in_20 : decode cX11_in 20 = .ok (.getfield 7, 3) := by decide +kernel
theorem dX11_in_23 : decode cX11_in 23 = .ok (.if_icmp .ge 16, 3) := by decide +kernel
theorem dX11_in_26 : decode cX11_in 26 = .ok (.iload_n 3, 1) := by decide +kernel
theorem dX11_in_27 : decode cX11_in 27 = .ok (.ifCond .eq 8, 3) := by decide +kernel
theorem dX11_in_30 : decode cX11_in 30 = .ok (.iload_n 3, 1) := by decide +kernel
theorem dX11_in_31 : decode cX11_in 31 = .ok (.iconst 1, 1) := by decide +kernel
theorem dX11_in_32 : decode cX11_in 32 = .ok (.if_icmp .ne 7, 3) := by decide +kernel
theorem dX11_in_35 : decode cX11_in 35 = .ok (.iconst 1, 1) := by decide +kernel
theorem dX11_in_36 : decode cX11_in 36 = .ok (.goto 4, 3) := by decide +kernel
theorem dX11_in_39 : decode cX11_in 39 = .ok (.iconst 0, 1) := by decide +kernel
theorem dX11_in_40 : decode cX11_in 40 = .ok (.iconst 1, 1) := by decide +kernel
theorem dX11_in_41 : decode cX11_in 41 = .ok (.invokevirtual 203, 3) := by decide +kernel
theorem dX11_in_44 : decode cX11_in 44 = .ok (.ifCond .eq 32, 3) := by decide +kernel
theorem dX11_in_47 : decode cX11_in 47 = .ok (.aload_n 0, 1) := by decide +kernel
theorem dX11_in_48 : decode cX11_in 48 = .ok (.iload_n 3, 1) := by decide +kernel
theorem dX11_in_49 : decode cX11_in 49 = .ok (.iconst 1, 1) := by decide +kernel
theorem dX11_in_50 : decode cX11_in 50 = .ok (.if_icmp .eq 14, 3) := by decide +kernel
theorem dX11_in_53 : decode cX11_in 53 = .ok (.aload_n 0, 1) := by decide +kernel
theorem dX11_in_54 : decode cX11_in 54 = .ok (.iload_n 2, 1) := by decide +kernel
theorem dX11_in_55 : decode cX11_in 55 = .ok (.invokevirtual 184, 3) := by decide +kernel
theorem dX11_in_58 : decode cX11_in 58 = .ok (.sipush 1024, 3) := by decide +kernel
theorem dX11_in_61 : decode cX11_in 61 = .ok (.if_icmp .gt 7, 3) := by decide +kernel
theorem dX11_in_64 : decode cX11_in 64 = .ok (.iconst 1, 1) := by decide +kernel
theorem dX11_in_65 : decode cX11_in 65 = .ok (.goto 4, 3) := by decide +kernel
theorem dX11_in_68 : decode cX11_in 68 = .ok (.iconst 0, 1) := by decide +kernel
theorem dX11_in_69 : decode cX11_in 69 = .ok (.iconst 1, 1) := by decide +kernel
theorem dX11_in_70 : decode cX11_in 70 = .ok (.invokevirtual 203, 3) := by decide +kernel
theorem dX11_in_73 : decode cX11_in 73 = .ok (.ifCond .ne 5, 3) := by decide +kernel
theorem dX11_in_76 : decode cX11_in 76 = .ok (.iconst 0, 1) := by decide +kernel
theorem dX11_in_77 : decode cX11_in 77 = .ok (.ireturn, 1) := by decide +kernel
theorem dX11_in_78 : decode cX11_in 78 = .ok (.aload_n 0, 1) := by decide +kernel
theorem dX11_in_79 : decode cX11_in 79 = .ok (.invokevirtual 360, 3) := by decide +kernel
theorem dX11_in_82 : decode cX11_in 82 = .ok (.iload_n 3, 1) := by decide +kernel
theorem dX11_in_83 : decode cX11_in 83 = .ok (.iconst 1, 1) := by decide +kernel
theorem dX11_in_84 : decode cX11_in 84 = .ok (.if_icmp .ne 15, 3) := by decide +kernel
theorem dX11_in_87 : decode cX11_in 87 = .ok (.aload_n 0, 1) := by decide +kernel
theorem dX11_in_88 : decode cX11_in 88 = .ok (.getfield 91, 3) := by decide +kernel
theorem dX11_in_91 : decode cX11_in 91 = .ok (.bipush 8, 2) := by decide +kernel
theorem dX11_in_93 : decode cX11_in 93 = .ok (.iload_n 1, 1) := by decide +kernel
theorem dX11_in_94 : decode cX11_in 94 = .ok (.imul, 1) := by decide +kernel
theorem dX11_in_95 : decode cX11_in 95 = .ok (.iload_n 2, 1) := by decide +kernel
theorem dX11_in_96 : decode cX11_in 96 = .ok (.iadd, 1) := by decide +kernel
theorem dX11_in_97 : decode cX11_in 97 = .ok (.iaload, 1) := by decide +kernel
theorem dX11_in_98 : decode cX11_in 98 = .ok (.ireturn, 1) := by decide +kernel
theorem dX11_in_99 : decode cX11_in 99 = .ok (.aload_n 0, 1) := by decide +kernel
theorem dX11_in_100 : decode cX11_in 100 = .ok (.iload_n 1, 1) := by decide +kernel
theorem dX11_in_101 : decode cX11_in 101 = .ok (.invokevirtual 345, 3) := by decide +kernel
theorem dX11_in_104 : decode cX11_in 104 = .ok (.iconst 0, 1) := by decide +kernel
theorem dX11_in_105 : decode cX11_in 105 = .ok (.istore 4, 2) := by decide +kernel
theorem dX11_in_107 : decode cX11_in 107 = .ok (.iload 4, 2) := by decide +kernel
theorem dX11_in_109 : decode cX11_in 109 = .ok (.aload_n 0, 1) := by decide +kernel
theorem dX11_in_110 : decode cX11_in 110 = .ok (.getfield 7, 3) := by decide +kernel
theorem dX11_in_113 : decode cX11_in 113 = .ok (.if_icmp .ge 28, 3) := by decide +kernel
theorem dX11_in_116 : decode cX11_in 116 = .ok (.aload_n 0, 1) := by decide +kernel
theorem dX11_in_117 : decode cX11_in 117 = .ok (.getfield 78, 3) := by decide +kernel
theorem dX11_in_120 : decode cX11_in 120 = .ok (.iload 4, 2) := by decide +kernel
theorem dX11_in_122 : decode cX11_in 122 = .ok (.aload_n 0, 1) := by decide +kernel
theorem dX11_in_123 : decode cX11_in 123 = .ok (.getfield 91, 3) := by decide +kernel
theorem dX11_in_126 : decode cX11_in 126 = .ok (.bipush 8, 2) := by decide +kernel
theorem dX11_in_128 : decode cX11_in 128 = .ok (.iload_n 1, 1) := by decide +kernel
theorem dX11_in_129 : decode cX11_in 129 = .ok (.imul, 1) := by decide +kernel
theorem dX11_in_130 : decode cX11_in 130 = .ok (.iload 4, 2) := by decide +kernel
theorem dX11_in_132 : decode cX11_in 132 = .ok (.iadd, 1) := by decide +kernel
theorem dX11_in_133 : decode cX11_in 133 = .ok (.iaload, 1) := by decide +kernel
theorem dX11_in_134 : decode cX11_in 134 = .ok (.iastore, 1) := by decide +kernel
theorem dX11_in_135 : decode cX11_in 135 = .ok (.iinc 4 1, 3) := by decide +kernel
theorem dX11_in_138 : decode cX11_in 138 = .ok (.goto (-31), 3) := by decide +kernel
theorem dX11_in_141 : decode cX11_in 141 = .ok (.aload_n 0, 1) := by decide +kernel
theorem dX11_in_142 : decode cX11_in 142 = .ok (.iload_n 2, 1) := by decide +kernel
theorem dX11_in_143 : decode cX11_in 143 = .ok (.invokevirtual 339, 3) := by decide +kernel
theorem dX11_in_146 : decode cX11_in 146 = .ok (.ireturn, 1) := by decide +kernel
theorem dX11_row_0 : decode cX11_row 0 = .ok (.aload_n 0, 1) := by decide +kernel
theorem dX11_row_1 : decode cX11_row 1 = .ok (.iconst 0, 1) := by decide +kernel
theorem dX11_row_2 : decode cX11_row 2 = .ok (.putfield 174, 3) := by decide +kernel
theorem dX11_row_5 : decode cX11_row 5 = .ok (.aload_n 0, 1) := by decide +kernel
theorem dX11_row_6 : decode cX11_row 6 = .ok (.iload_n 1, 1) := by decide +kernel
theorem dX11_row_7 : decode cX11_row 7 = .ok (.invokevirtual 357, 3) := by decide +kernel
theorem dX11_row_10 : decode cX11_row 10 = .ok (.ifCond .eq 25, 3) := by decide +kernel
theorem dX11_row_13 : decode cX11_row 13 = .ok (.aload_n 0, 1) := by decide +kernel
theorem dX11_row_14 : decode cX11_row 14 = .ok (.iload_n 2, 1) := by decide +kernel
theorem dX11_row_15 : decode cX11_row 15 = .ok (.ifCond .lt 12, 3) := by decide +kernel
theorem dX11_row_18 : decode cX11_row 18 = .ok (.iload_n 2, 1) := by decide +kernel
theorem dX11_row_19 : decode cX11_row 19 = .ok (.iconst 3, 1) := by decide +kernel
theorem dX11_row_20 : decode cX11_row 20 = .ok (.if_icmp .gt 7, 3) := by decide +kernel
theorem dX11_row_23 : decode cX11_row 23 = .ok (.iconst 1, 1) := by decide +kernel
theorem dX11_row_24 : decode cX11_row 24 = .ok (.goto 4, 3) := by decide +kernel
theorem dX11_row_27 : decode cX11_row 27 = .ok (.iconst 0, 1) := by decide +kernel
theorem dX11_row_28 : decode cX11_row 28 = .ok (.iconst 1, 1) := by decide +kernel
theorem dX11_row_29 : decode cX11_row 29 = .ok (.invokevirtual 203, 3) := by decide +kernel
theorem dX11_row_32 : decode cX11_row 32 = .ok (.ifCond .ne 5, 3) := by decide +kernel
theorem dX11_row_35 : decode cX11_row 35 = .ok (.iconst 0, 1) := by decide +kernel
theorem dX11_row_36 : decode cX11_row 36 = .ok (.ireturn, 1) := by decide +kernel
theorem dX11_row_37 : decode cX11_row 37 = .ok (.aload_n 0, 1) := by decide +kernel
theorem dX11_row_38 : decode cX11_row 38 = .ok (.invokevirtual 360, 3) := by decide +kernel
theorem dX11_row_41 : decode cX11_row 41 = .ok (.iload_n 2, 1) := by decide +kernel
theorem dX11_row_42 : decode cX11_row 42 = .ok (.iconst 2, 1) := by decide +kernel
theorem dX11_row_43 : decode cX11_row 43 = .ok (.if_icmp .ge 23, 3) := by decide +kernel
theorem dX11_row_46 : decode cX11_row 46 = .ok (.iload_n 2, 1) := by decide +kernel
theorem dX11_row_47 : decode cX11_row 47 = .ok (.ifCond .ne 12, 3) := by decide +kernel
theorem dX11_row_50 : decode cX11_row 50 = .ok (.aload_n 0, 1) := by decide +kernel
theorem dX11_row_51 : decode cX11_row 51 = .ok (.getfield 84, 3) := by decide +kernel
theorem dX11_row_54 : decode cX11_row 54 = .ok (.iload_n 1, 1) := by decide +kernel
theorem dX11_row_55 : decode cX11_row 55 = .ok (.iaload, 1) := by decide +kernel
theorem dX11_row_56 : decode cX11_row 56 = .ok (.goto 9, 3) := by decide +kernel
theorem dX11_row_59 : decode cX11_row 59 = .ok (.aload_n 0, 1) := by decide +kernel
theorem dX11_row_60 : decode cX11_row 60 = .ok (.getfield 87, 3) := by decide +kernel
theorem dX11_row_63 : decode cX11_row 63 = .ok (.iload_n 1, 1) := by decide +kernel
theorem dX11_row_64 : decode cX11_row 64 = .ok (.iaload, 1) := by decide +kernel
theorem dX11_row_65 : decode cX11_row 65 = .ok (.ireturn, 1) := by decide +kernel
theorem dX11_row_66 : decode cX11_row 66 = .ok (.iload_n 2, 1) := by decide +kernel
theorem dX11_row_67 : decode cX11_row 67 = .ok (.iconst 2, 1) := by decide +kernel
theorem dX11_row_68 : decode cX11_row 68 = .ok (.if_icmp .ne 11, 3) := by decide +kernel
theorem dX11_row_71 : decode cX11_row 71 = .ok (.aload_n 0, 1) := by decide +kernel
theorem dX11_row_72 : decode cX11_row 72 = .ok (.iload_n 1, 1) := by decide +kernel
theorem dX11_row_73 : decode cX11_row 73 = .ok (.invokevirtual 363, 3) := by decide +kernel
theorem dX11_row_76 : decode cX11_row 76 = .ok (.goto 19, 3) := by decide +kernel
theorem dX11_row_79 : decode cX11_row 79 = .ok (.aload_n 0, 1) := by decide +kernel
theorem dX11_row_80 : decode cX11_row 80 = .ok (.aload_n 0, 1) := by decide +kernel
theorem dX11_row_81 : decode cX11_row 81 = .ok (.getfield 84, 3) := by decide +kernel
theorem dX11_row_84 : decode cX11_row 84 = .ok (.iload_n 1, 1) := by decide +kernel
theorem dX11_row_85 : decode cX11_row 85 = .ok (.iaload, 1) := by decide +kernel
theorem dX11_row_86 : decode cX11_row 86 = .ok (.aload_n 0, 1) := by decide +kernel
theorem dX11_row_87 : decode cX11_row 87 = .ok (.getfield 87, 3) := by decide +kernel
theorem dX11_row_90 : decode cX11_row 90 = .ok (.iload_n 1, 1) := by decide +kernel
theorem dX11_row_91 : decode cX11_row 91 = .ok (.iaload, 1) := by decide +kernel
theorem dX11_row_92 : decode cX11_row 92 = .ok (.invokevirtual 366, 3) := by decide +kernel
theorem dX11_row_95 : decode cX11_row 95 = .ok (.istore_n 3, 1) := by decide +kernel
theorem dX11_row_96 : decode cX11_row 96 = .ok (.iload_n 3, 1) := by decide +kernel
theorem dX11_row_97 : decode cX11_row 97 = .ok (.ifCond .eq 7, 3) := by decide +kernel
theorem dX11_row_100 : decode cX11_row 100 = .ok (.iconst 1, 1) := by decide +kernel
theorem dX11_row_101 : decode cX11_row 101 = .ok (.goto 4, 3) := by decide +kernel
theorem dX11_row_104 : decode cX11_row 104 = .ok (.iconst 0, 1) := by decide +kernel
theorem dX11_row_105 : decode cX11_row 105 = .ok (.ireturn, 1) := by decide +kernel
theorem dX11_weight_0 : decode cX11_weight 0 = .ok (.lconst 1, 1) := by decide +kernel
theorem dX11_weight_1 : decode cX11_weight 1 = .ok (.lstore_n 2, 1) := by decide +kernel
theorem dX11_weight_2 : decode cX11_weight 2 = .ok (.iconst 0, 1) := by decide +kernel
theorem dX11_weight_3 : decode cX11_weight 3 = .ok (.istore 4, 2) := by decide +kernel
theorem dX11_weight_5 : decode cX11_weight 5 = .ok (.iload 4, 2) := by decide +kernel
theorem dX11_weight_7 : decode cX11_weight 7 = .ok (.aload_n 0, 1) := by decide +kernel
theorem dX11_weight_8 : decode cX11_weight 8 = .ok (.getfield 13, 3) := by decide +kernel
theorem dX11_weight_11 : decode cX11_weight 11 = .ok (.if_icmp .ge 44, 3) := by decide +kernel
theorem dX11_weight_14 : decode cX11_weight 14 = .ok (.iconst 0, 1) := by decide +kernel
theorem dX11_weight_15 : decode cX11_weight 15 = .ok (.istore 5, 2) := by decide +kernel
theorem dX11_weight_17 : decode cX11_weight 17 = .ok (.iload 5, 2) := by decide +kernel
theorem dX11_weight_19 : decode cX11_weight 19 = .ok (.aload_n 0, 1) := by decide +kernel
theorem dX11_weight_20 : decode cX11_weight 20 = .ok (.iload_n 1, 1) := by decide +kernel
theorem dX11_weight_21 : decode cX11_weight 21 = .ok (.iload 4, 2) := by decide +kernel
theorem dX11_weight_23 : decode cX11_weight 23 = .ok (.invokevirtual 354, 3) := by decide +kernel
theorem dX11_weight_26 : decode cX11_weight 26 = .ok (.if_icmp .ge 23, 3) := by decide +kernel
theorem dX11_weight_29 : decode cX11_weight 29 = .ok (.lload_n 2, 1) := by decide +kernel
theorem dX11_weight_30 : decode cX11_weight 30 = .ok (.aload_n 0, 1) := by decide +kernel
theorem dX11_weight_31 : decode cX11_weight 31 = .ok (.getfield 22, 3) := by decide +kernel
theorem dX11_weight_34 : decode cX11_weight 34 = .ok (.iload 4, 2) := by decide +kernel
theorem dX11_weight_36 : decode cX11_weight 36 = .ok (.iaload, 1) := by decide +kernel
theorem dX11_weight_37 : decode cX11_weight 37 = .ok (.iload 5, 2) := by decide +kernel
theorem dX11_weight_39 : decode cX11_weight 39 = .ok (.isub, 1) := by decide +kernel
theorem dX11_weight_40 : decode cX11_weight 40 = .ok (.i2l, 1) := by decide +kernel
theorem dX11_weight_41 : decode cX11_weight 41 = .ok (.lmul, 1) := by decide +kernel
theorem dX11_weight_42 : decode cX11_weight 42 = .ok (.lstore_n 2, 1) := by decide +kernel
theorem dX11_weight_43 : decode cX11_weight 43 = .ok (.iinc 5 1, 3) := by decide +kernel
theorem dX11_weight_46 : decode cX11_weight 46 = .ok (.goto (-29), 3) := by decide +kernel
theorem dX11_weight_49 : decode cX11_weight 49 = .ok (.iinc 4 1, 3) := by decide +kernel
theorem dX11_weight_52 : decode cX11_weight 52 = .ok (.goto (-47), 3) := by decide +kernel
theorem dX11_weight_55 : decode cX11_weight 55 = .ok (.lload_n 2, 1) := by decide +kernel
theorem dX11_weight_56 : decode cX11_weight 56 = .ok (.lreturn, 1) := by decide +kernel
theorem dX11_won_0 : decode cX11_won 0 = .ok (.aload_n 0, 1) := by decide +kernel
theorem dX11_won_1 : decode cX11_won 1 = .ok (.iconst 0, 1) := by decide +kernel
theorem dX11_won_2 : decode cX11_won 2 = .ok (.putfield 174, 3) := by decide +kernel
theorem dX11_won_5 : decode cX11_won 5 = .ok (.aload_n 0, 1) := by decide +kernel
theorem dX11_won_6 : decode cX11_won 6 = .ok (.iload_n 1, 1) := by decide +kernel
theorem dX11_won_7 : decode cX11_won 7 = .ok (.ifCond .lt 12, 3) := by decide +kernel
theorem dX11_won_10 : decode cX11_won 10 = .ok (.iload_n 1, 1) := by decide +kernel
theorem dX11_won_11 : decode cX11_won 11 = .ok (.iconst 3, 1) := by decide +kernel
theorem dX11_won_12 : decode cX11_won 12 = .ok (.if_icmp .gt 7, 3) := by decide +kernel
theorem dX11_won_15 : decode cX11_won 15 = .ok (.iconst 1, 1) := by decide +kernel
theorem dX11_won_16 : decode cX11_won 16 = .ok (.goto 4, 3) := by decide +kernel
theorem dX11_won_19 : decode cX11_won 19 = .ok (.iconst 0, 1) := by decide +kernel
theorem dX11_won_20 : decode cX11_won 20 = .ok (.iconst 1, 1) := by decide +kernel
theorem dX11_won_21 : decode cX11_won 21 = .ok (.invokevirtual 203, 3) := by decide +kernel
theorem dX11_won_24 : decode cX11_won 24 = .ok (.ifCond .ne 5, 3) := by decide +kernel
theorem dX11_won_27 : decode cX11_won 27 = .ok (.lconst 0, 1) := by decide +kernel
theorem dX11_won_28 : decode cX11_won 28 = .ok (.lreturn, 1) := by decide +kernel
theorem dX11_won_29 : decode cX11_won 29 = .ok (.aload_n 0, 1) := by decide +kernel
theorem dX11_won_30 : decode cX11_won 30 = .ok (.invokevirtual 360, 3) := by decide +kernel
theorem dX11_won_33 : decode cX11_won 33 = .ok (.lconst 0, 1) := by decide +kernel
theorem dX11_won_34 : decode cX11_won 34 = .ok (.lstore_n 2, 1) := by decide +kernel
theorem dX11_won_35 : decode cX11_won 35 = .ok (.iconst 0, 1) := by decide +kernel
theorem dX11_won_36 : decode cX11_won 36 = .ok (.istore 4, 2) := by decide +kernel
theorem dX11_won_38 : decode cX11_won 38 = .ok (.iload 4, 2) := by decide +kernel
theorem dX11_won_40 : decode cX11_won 40 = .ok (.aload_n 0, 1) := by decide +kernel
theorem dX11_won_41 : decode cX11_won 41 = .ok (.getfield 16, 3) := by decide +kernel
theorem dX11_won_44 : decode cX11_won 44 = .ok (.if_icmp .ge 67, 3) := by decide +kernel
theorem dX11_won_47 : decode cX11_won 47 = .ok (.aload_n 0, 1) := by decide +kernel
theorem dX11_won_48 : decode cX11_won 48 = .ok (.iload 4, 2) := by decide +kernel
theorem dX11_won_50 : decode cX11_won 50 = .ok (.invokevirtual 363, 3) := by decide +kernel
theorem dX11_won_53 : decode cX11_won 53 = .ok (.ifCond .eq 52, 3) := by decide +kernel
theorem dX11_won_56 : decode cX11_won 56 = .ok (.iload_n 1, 1) := by decide +kernel
theorem dX11_won_57 : decode cX11_won 57 = .ok (.iconst 2, 1) := by decide +kernel
theorem dX11_won_58 : decode cX11_won 58 = .ok (.irem, 1) := by decide +kernel
theorem dX11_won_59 : decode cX11_won 59 = .ok (.iconst 1, 1) := by decide +kernel
theorem dX11_won_60 : decode cX11_won 60 = .ok (.if_icmp .ne 27, 3) := by decide +kernel
theorem dX11_won_63 : decode cX11_won 63 = .ok (.aload_n 0, 1) := by decide +kernel
theorem dX11_won_64 : decode cX11_won 64 = .ok (.aload_n 0, 1) := by decide +kernel
theorem dX11_won_65 : decode cX11_won 65 = .ok (.getfield 84, 3) := by decide +kernel
theorem dX11_won_68 : decode cX11_won 68 = .ok (.iload 4, 2) := by decide +kernel
theorem dX11_won_70 : decode cX11_won 70 = .ok (.iaload, 1) := by decide +kernel
theorem dX11_won_71 : decode cX11_won 71 = .ok (.aload_n 0, 1) := by decide +kernel
theorem dX11_won_72 : decode cX11_won 72 = .ok (.getfield 87, 3) := by decide +kernel
theorem dX11_won_75 : decode cX11_won 75 = .ok (.iload 4, 2) := by decide +kernel
theorem dX11_won_77 : decode cX11_won 77 = .ok (.iaload, 1) := by decide +kernel
theorem dX11_won_78 : decode cX11_won 78 = .ok (.invokevirtual 366, 3) := by decide +kernel
theorem dX11_won_81 : decode cX11_won 81 = .ok (.ifCond .ne 6, 3) := by decide +kernel
theorem dX11_won_84 : decode cX11_won 84 = .ok (.goto 21, 3) := by decide +kernel
theorem dX11_won_87 : decode cX11_won 87 = .ok (.lload_n 2, 1) := by decide +kernel
theorem dX11_won_88 : decode cX11_won 88 = .ok (.iload_n 1, 1) := by decide +kernel
theorem dX11_won_89 : decode cX11_won 89 = .ok (.iconst 2, 1) := by decide +kernel
theorem dX11_won_90 : decode cX11_won 90 = .ok (.if_icmp .ge 7, 3) := by decide +kernel
theorem dX11_won_93 : decode cX11_won 93 = .ok (.lconst 1, 1) := by decide +kernel
theorem dX11_won_94 : decode cX11_won 94 = .ok (.goto 9, 3) := by decide +kernel
theorem dX11_won_97 : decode cX11_won 97 = .ok (.aload_n 0, 1) := by decide +kernel
theorem dX11_won_98 : decode cX11_won 98 = .ok (.iload 4, 2) := by decide +kernel
theorem dX11_won_100 : decode cX11_won 100 = .ok (.invokevirtual 370, 3) := by decide +kernel
theorem dX11_won_103 : decode cX11_won 103 = .ok (.ladd, 1) := by decide +kernel
theorem dX11_won_104 : decode cX11_won 104 = .ok (.lstore_n 2, 1) := by decide +kernel
theorem dX11_won_105 : decode cX11_won 105 = .ok (.iinc 4 1, 3) := by decide +kernel
theorem dX11_won_108 : decode cX11_won 108 = .ok (.goto (-70), 3) := by decide +kernel
theorem dX11_won_111 : decode cX11_won 111 = .ok (.lload_n 2, 1) := by decide +kernel
theorem dX11_won_112 : decode cX11_won 112 = .ok (.lreturn, 1) := by decide +kernel
theorem dX11_beaten_0 : decode cX11_beaten 0 = .ok (.aload_n 0, 1) := by decide +kernel
theorem dX11_beaten_1 : decode cX11_beaten 1 = .ok (.iconst 0, 1) := by decide +kernel
theorem dX11_beaten_2 : decode cX11_beaten 2 = .ok (.putfield 174, 3) := by decide +kernel
theorem dX11_beaten_5 : decode cX11_beaten 5 = .ok (.aload_n 0, 1) := by decide +kernel
theorem dX11_beaten_6 : decode cX11_beaten 6 = .ok (.invokevirtual 360, 3) := by decide +kernel
theorem dX11_beaten_9 : decode cX11_beaten 9 = .ok (.iconst 0, 1) := by decide +kernel
theorem dX11_beaten_10 : decode cX11_beaten 10 = .ok (.istore_n 2, 1) := by decide +kernel
theorem dX11_beaten_11 : decode cX11_beaten 11 = .ok (.iconst 0, 1) := by decide +kernel
theorem dX11_beaten_12 : decode cX11_beaten 12 = .ok (.istore_n 3, 1) := by decide +kernel
theorem dX11_beaten_13 : decode cX11_beaten 13 = .ok (.iload_n 3, 1) := by decide +kernel
theorem dX11_beaten_14 : decode cX11_beaten 14 = .ok (.aload_n 0, 1) := by decide +kernel
theorem dX11_beaten_15 : decode cX11_beaten 15 = .ok (.getfield 16, 3) := by decide +kernel
theorem dX11_beaten_18 : decode cX11_beaten 18 = .ok (.if_icmp .ge 53, 3) := by decide +kernel
theorem dX11_beaten_21 : decode cX11_beaten 21 = .ok (.iload_n 1, 1) := by decide +kernel
theorem dX11_beaten_22 : decode cX11_beaten 22 = .ok (.ifCond .lt 49, 3) := by decide +kernel
theorem dX11_beaten_25 : decode cX11_beaten 25 = .ok (.aload_n 0, 1) := by decide +kernel
theorem dX11_beaten_26 : decode cX11_beaten 26 = .ok (.iload_n 3, 1) := by decide +kernel
theorem dX11_beaten_27 : decode cX11_beaten 27 = .ok (.invokevirtual 363, 3) := by decide +kernel
theorem dX11_beaten_30 : decode cX11_beaten 30 = .ok (.ifCond .eq 35, 3) := by decide +kernel
theorem dX11_beaten_33 : decode cX11_beaten 33 = .ok (.aload_n 0, 1) := by decide +kernel
theorem dX11_beaten_34 : decode cX11_beaten 34 = .ok (.aload_n 0, 1) := by decide +kernel
theorem dX11_beaten_35 : decode cX11_beaten 35 = .ok (.getfield 84, 3) := by decide +kernel
theorem dX11_beaten_38 : decode cX11_beaten 38 = .ok (.iload_n 3, 1) := by decide +kernel
theorem dX11_beaten_39 : decode cX11_beaten 39 = .ok (.iaload, 1) := by decide +kernel
theorem dX11_beaten_40 : decode cX11_beaten 40 = .ok (.aload_n 0, 1) := by decide +kernel
theorem dX11_beaten_41 : decode cX11_beaten 41 = .ok (.getfield 87, 3) := by decide +kernel
theorem dX11_beaten_44 : decode cX11_beaten 44 = .ok (.iload_n 3, 1) := by decide +kernel
theorem dX11_beaten_45 : decode cX11_beaten 45 = .ok (.iaload, 1) := by decide +kernel
theorem dX11_beaten_46 : decode cX11_beaten 46 = .ok (.invokevirtual 366, 3) := by decide +kernel
theorem dX11_beaten_49 : decode cX11_beaten 49 = .ok (.ifCond .eq 6, 3) := by decide +kernel
theorem dX11_beaten_52 : decode cX11_beaten 52 = .ok (.goto 13, 3) := by decide +kernel
theorem dX11_beaten_55 : decode cX11_beaten 55 = .ok (.iload_n 2, 1) := by decide +kernel
theorem dX11_beaten_56 : decode cX11_beaten 56 = .ok (.iload_n 1, 1) := by decide +kernel
theorem dX11_beaten_57 : decode cX11_beaten 57 = .ok (.if_icmp .ne 5, 3) := by decide +kernel
theorem dX11_beaten_60 : decode cX11_beaten 60 = .ok (.iload_n 3, 1) := by decide +kernel
theorem dX11_beaten_61 : decode cX11_beaten 61 = .ok (.ireturn, 1) := by decide +kernel
theorem dX11_beaten_62 : decode cX11_beaten 62 = .ok (.iinc 2 1, 3) := by decide +kernel
theorem dX11_beaten_65 : decode cX11_beaten 65 = .ok (.iinc 3 1, 3) := by decide +kernel
theorem dX11_beaten_68 : decode cX11_beaten 68 = .ok (.goto (-55), 3) := by decide +kernel
theorem dX11_beaten_71 : decode cX11_beaten 71 = .ok (.iconst (-1), 1) := by decide +kernel
theorem dX11_beaten_72 : decode cX11_beaten 72 = .ok (.ireturn, 1) := by decide +kernel
theorem dX11_tally_0 : decode cX11_tally 0 = .ok (.aload_n 0, 1) := by decide +kernel
theorem dX11_tally_1 : decode cX11_tally 1 = .ok (.iconst 0, 1) := by decide +kernel
theorem dX11_tally_2 : decode cX11_tally 2 = .ok (.putfield 174, 3) := by decide +kernel
theorem dX11_tally_5 : decode cX11_tally 5 = .ok (.aload_n 0, 1) := by decide +kernel
theorem dX11_tally_6 : decode cX11_tally 6 = .ok (.invokevirtual 360, 3) := by decide +kernel
theorem dX11_tally_9 : decode cX11_tally 9 = .ok (.iconst 0, 1) := by decide +kernel
theorem dX11_tally_10 : decode cX11_tally 10 = .ok (.istore_n 2, 1) := by decide +kernel
theorem dX11_tally_11 : decode cX11_tally 11 = .ok (.iconst 0, 1) := by decide +kernel
theorem dX11_tally_12 : decode cX11_tally 12 = .ok (.istore_n 3, 1) := by decide +kernel
theorem dX11_tally_13 : decode cX11_tally 13 = .ok (.iload_n 3, 1) := by decide +kernel
theorem dX11_tally_14 : decode cX11_tally 14 = .ok (.aload_n 0, 1) := by decide +kernel
theorem dX11_tally_15 : decode cX11_tally 15 = .ok (.getfield 16, 3) := by decide +kernel
theorem dX11_tally_18 : decode cX11_tally 18 = .ok (.if_icmp .ge 33, 3) := by decide +kernel
theorem dX11_tally_21 : decode cX11_tally 21 = .ok (.aload_n 0, 1) := by decide +kernel
theorem dX11_tally_22 : decode cX11_tally 22 = .ok (.iload_n 3, 1) := by decide +kernel
theorem dX11_tally_23 : decode cX11_tally 23 = .ok (.invokevirtual 363, 3) := by decide +kernel
theorem dX11_tally_26 : decode cX11_tally 26 = .ok (.ifCond .eq 19, 3) := by decide +kernel
theorem dX11_tally_29 : decode cX11_tally 29 = .ok (.aload_n 0, 1) := by decide +kernel
theorem dX11_tally_30 : decode cX11_tally 30 = .ok (.getfield 84, 3) := by decide +kernel
theorem dX11_tally_33 : decode cX11_tally 33 = .ok (.iload_n 3, 1) := by decide +kernel
theorem dX11_tally_34 : decode cX11_tally 34 = .ok (.iaload, 1) := by decide +kernel
theorem dX11_tally_35 : decode cX11_tally 35 = .ok (.invokestatic 177, 3) := by decide +kernel
theorem dX11_tally_38 : decode cX11_tally 38 = .ok (.iload_n 1, 1) := by decide +kernel
theorem dX11_tally_39 : decode cX11_tally 39 = .ok (.if_icmp .ne 6, 3) := by decide +kernel
theorem dX11_tally_42 : decode cX11_tally 42 = .ok (.iinc 2 1, 3) := by decide +kernel
theorem dX11_tally_45 : decode cX11_tally 45 = .ok (.iinc 3 1, 3) := by decide +kernel
theorem dX11_tally_48 : decode cX11_tally 48 = .ok (.goto (-35), 3) := by decide +kernel
theorem dX11_tally_51 : decode cX11_tally 51 = .ok (.iload_n 2, 1) := by decide +kernel
theorem dX11_tally_52 : decode cX11_tally 52 = .ok (.ireturn, 1) := by decide +kernel
theorem dX11_rightOf_0 : decode cX11_rightOf 0 = .ok (.aload_n 0, 1) := by decide +kernel
theorem dX11_rightOf_1 : decode cX11_rightOf 1 = .ok (.iload_n 1, 1) := by decide +kernel
theorem dX11_rightOf_2 : decode cX11_rightOf 2 = .ok (.invokevirtual 207, 3) := by decide +kernel
theorem dX11_rightOf_5 : decode cX11_rightOf 5 = .ok (.ifCond .ne 5, 3) := by decide +kernel
theorem dX11_rightOf_8 : decode cX11_rightOf 8 = .ok (.iconst 0, 1) := by decide +kernel
theorem dX11_rightOf_9 : decode cX11_rightOf 9 = .ok (.ireturn, 1) := by decide +kernel
theorem dX11_rightOf_10 : decode cX11_rightOf 10 = .ok (.aload_n 0, 1) := by decide +kernel
theorem dX11_rightOf_11 : decode cX11_rightOf 11 = .ok (.invokevirtual 360, 3) := by decide +kernel
theorem dX11_rightOf_14 : decode cX11_rightOf 14 = .ok (.iconst 0, 1) := by decide +kernel
theorem dX11_rightOf_15 : decode cX11_rightOf 15 = .ok (.istore_n 2, 1) := by decide +kernel
theorem dX11_rightOf_16 : decode cX11_rightOf 16 = .ok (.iconst 0, 1) := by decide +kernel
theorem dX11_rightOf_17 : decode cX11_rightOf 17 = .ok (.istore_n 3, 1) := by decide +kernel
theorem dX11_rightOf_18 : decode cX11_rightOf 18 = .ok (.iload_n 3, 1) := by decide +kernel
theorem dX11_rightOf_19 : decode cX11_rightOf 19 = .ok (.aload_n 0, 1) := by decide +kernel
theorem dX11_rightOf_20 : decode cX11_rightOf 20 = .ok (.getfield 16, 3) := by decide +kernel
theorem dX11_rightOf_23 : decode cX11_rightOf 23 = .ok (.if_icmp .ge 34, 3) := by decide +kernel
theorem dX11_rightOf_26 : decode cX11_rightOf 26 = .ok (.aload_n 0, 1) := by decide +kernel
theorem dX11_rightOf_27 : decode cX11_rightOf 27 = .ok (.iload_n 3, 1) := by decide +kernel
theorem dX11_rightOf_28 : decode cX11_rightOf 28 = .ok (.invokevirtual 363, 3) := by decide +kernel
theorem dX11_rightOf_31 : decode cX11_rightOf 31 = .ok (.ifCond .eq 20, 3) := by decide +kernel
theorem dX11_rightOf_34 : decode cX11_rightOf 34 = .ok (.aload_n 0, 1) := by decide +kernel
theorem dX11_rightOf_35 : decode cX11_rightOf 35 = .ok (.getfield 84, 3) := by decide +kernel
theorem dX11_rightOf_38 : decode cX11_rightOf 38 = .ok (.iload_n 3, 1) := by decide +kernel
theorem dX11_rightOf_39 : decode cX11_rightOf 39 = .ok (.iaload, 1) := by decide +kernel
theorem dX11_rightOf_40 : decode cX11_rightOf 40 = .ok (.iload_n 1, 1) := by decide +kernel
theorem dX11_rightOf_41 : decode cX11_rightOf 41 = .ok (.ishr, 1) := by decide +kernel
theorem dX11_rightOf_42 : decode cX11_rightOf 42 = .ok (.iconst 1, 1) := by decide +kernel
theorem dX11_rightOf_43 : decode cX11_rightOf 43 = .ok (.iand, 1) := by decide +kernel
theorem dX11_rightOf_44 : decode cX11_rightOf 44 = .ok (.iconst 1, 1) := by decide +kernel
theorem dX11_rightOf_45 : decode cX11_rightOf 45 = .ok (.if_icmp .ne 6, 3) := by decide +kernel
theorem dX11_rightOf_48 : decode cX11_rightOf 48 = .ok (.iinc 2 1, 3) := by decide +kernel
theorem dX11_rightOf_51 : decode cX11_rightOf 51 = .ok (.iinc 3 1, 3) := by decide +kernel
theorem dX11_rightOf_54 : decode cX11_rightOf 54 = .ok (.goto (-36), 3) := by decide +kernel
theorem dX11_rightOf_57 : decode cX11_rightOf 57 = .ok (.iload_n 2, 1) := by decide +kernel
theorem dX11_rightOf_58 : decode cX11_rightOf 58 = .ok (.ireturn, 1) := by decide +kernel
theorem dX11_worstRow_0 : decode cX11_worstRow 0 = .ok (.aload_n 0, 1) := by decide +kernel
theorem dX11_worstRow_1 : decode cX11_worstRow 1 = .ok (.invokevirtual 360, 3) := by decide +kernel
theorem dX11_worstRow_4 : decode cX11_worstRow 4 = .ok (.iconst (-1), 1) := by decide +kernel
theorem dX11_worstRow_5 : decode cX11_worstRow 5 = .ok (.istore_n 1, 1) := by decide +kernel
theorem dX11_worstRow_6 : decode cX11_worstRow 6 = .ok (.iconst 0, 1) := by decide +kernel
theorem dX11_worstRow_7 : decode cX11_worstRow 7 = .ok (.istore_n 2, 1) := by decide +kernel
theorem dX11_worstRow_8 : decode cX11_worstRow 8 = .ok (.iload_n 2, 1) := by decide +kernel
theorem dX11_worstRow_9 : decode cX11_worstRow 9 = .ok (.aload_n 0, 1) := by decide +kernel
theorem dX11_worstRow_10 : decode cX11_worstRow 10 = .ok (.getfield 16, 3) := by decide +kernel
theorem dX11_worstRow_13 : decode cX11_worstRow 13 = .ok (.if_icmp .ge 45, 3) := by decide +kernel
theorem dX11_worstRow_16 : decode cX11_worstRow 16 = .ok (.aload_n 0, 1) := by decide +kernel
theorem dX11_worstRow_17 : decode cX11_worstRow 17 = .ok (.iload_n 2, 1) := by decide +kernel
theorem dX11_worstRow_18 : decode cX11_worstRow 18 = .ok (.invokevirtual 363, 3) := by decide +kernel
theorem dX11_worstRow_21 : decode cX11_worstRow 21 = .ok (.ifCond .eq 31, 3) := by decide +kernel
theorem dX11_worstRow_24 : decode cX11_worstRow 24 = .ok (.iload_n 1, 1) := by decide +kernel
theorem dX11_worstRow_25 : decode cX11_worstRow 25 = .ok (.iconst (-1), 1) := by decide +kernel
theorem dX11_worstRow_26 : decode cX11_worstRow 26 = .ok (.if_icmp .eq 24, 3) := by decide +kernel
theorem dX11_worstRow_29 : decode cX11_worstRow 29 = .ok (.aload_n 0, 1) := by decide +kernel
theorem dX11_worstRow_30 : decode cX11_worstRow 30 = .ok (.getfield 87, 3) := by decide +kernel
theorem dX11_worstRow_33 : decode cX11_worstRow 33 = .ok (.iload_n 2, 1) := by decide +kernel
theorem dX11_worstRow_34 : decode cX11_worstRow 34 = .ok (.iaload, 1) := by decide +kernel
theorem dX11_worstRow_35 : decode cX11_worstRow 35 = .ok (.invokestatic 177, 3) := by decide +kernel
theorem dX11_worstRow_38 : decode cX11_worstRow 38 = .ok (.aload_n 0, 1) := by decide +kernel
theorem dX11_worstRow_39 : decode cX11_worstRow 39 = .ok (.getfield 87, 3) := by decide +kernel
theorem dX11_worstRow_42 : decode cX11_worstRow 42 = .ok (.iload_n 1, 1) := by decide +kernel
theorem dX11_worstRow_43 : decode cX11_worstRow 43 = .ok (.iaload, 1) := by decide +kernel
theorem dX11_worstRow_44 : decode cX11_worstRow 44 = .ok (.invokestatic 177, 3) := by decide +kernel
theorem dX11_worstRow_47 : decode cX11_worstRow 47 = .ok (.if_icmp .le 5, 3) := by decide +kernel
theorem dX11_worstRow_50 : decode cX11_worstRow 50 = .ok (.iload_n 2, 1) := by decide +kernel
theorem dX11_worstRow_51 : decode cX11_worstRow 51 = .ok (.istore_n 1, 1) := by decide +kernel
theorem dX11_worstRow_52 : decode cX11_worstRow 52 = .ok (.iinc 2 1, 3) := by decide +kernel
theorem dX11_worstRow_55 : decode cX11_worstRow 55 = .ok (.goto (-47), 3) := by decide +kernel
theorem dX11_worstRow_58 : decode cX11_worstRow 58 = .ok (.iload_n 1, 1) := by decide +kernel
theorem dX11_worstRow_59 : decode cX11_worstRow 59 = .ok (.ireturn, 1) := by decide +kernel
section
variable {p : Program} {l : Launch} {e : Env} {R : Room} {s : State} {m : MethodId} {args : Array Value} {below : List Frame} {meth : Method} {c : Code} {D : va_G} {cA : Nat → ClassId} {z : Nat} {A : Nat → Prop} {T : HR}
theorem wkM_worksAll_l44 {J : HJ} {x1 : Int32} {K15 : HI → Int32 → Prop} {Q : HI → Prop} (X : hX p m c s args RX11 cX11_worksAll 3) (hr : meth.sig.returnType = none) (hlk : meth.locks = false) (hR : 5 ≤ R.frames ∧ 117 ≤ R.locals)  (hK15 : ∀ (I : HI) (x1 : Int32) {ls : Array Slot} {H : Heap} {locs : List Loc}, K15 I x1 → hW D cA z Ev0 (I, J, T, FM, LM) A s H locs → lv_has ls 3 [(0, .ref (z + 0)), (1, .int x1)] → W p l e R s m args below meth c H locs 0 0 (MQ below (va_Qv (pIv J T FM LM Q) (hB D cA z A) A) args s 0 0 A) (F0 m 15 ls [])) : ∀ (n : Nat) (I : HI) (x2 : Int32) {ls : Array Slot} {H : Heap} {locs : List Loc}, M_worksAll_l44 x1 K15 Q n I x2 → hW D cA z Ev0 (I, J, T, FM, LM) A s H locs → lv_has ls 3 [(0, .ref (z + 0)), (1, .int x1), (2, .int x2)] → W p l e R s m args below meth c H locs 0 0 (MQ below (va_Qv (pIv J T FM LM Q) (hB D cA z A) A) args s 0 0 A) (F0 m 44 ls []) := by
  have hx := X.1
  have hb := X.2.1
  intro n
  induction n with
  | zero => intro I x2 ls H locs h; exact False.elim h
  | succ n ih =>
    intro I x2 ls H locs h hw hl
    rw [M_worksAll_l44] at h
    refine lv_iload_n hx hb dX11_worksAll_44 rfl (lv_at hl 2 rfl) ?_
    refine lv_aload_n hx hb dX11_worksAll_45 rfl (lv_at hl 0 rfl) ?_
    refine hm_geti X hw lkM_7 LM_0 dX11_worksAll_46 ?_
    refine lv_icmp_ge (tgt := 130) hx hb dX11_worksAll_49 (by decide) (fun hc => ?_) (fun hc => ?_)
    · have h := Eq.mp (if_pos hc) h
      refine lv_iinc (v := x1 + 1) (lv' := [(1, _), (0, _), (2, _)]) hx hb dX11_worksAll_130 hl (k := 1) rfl rfl (by decide) rfl (fun ls hl => ?_)
      refine lv_goto (tgt := 15) hx hb dX11_worksAll_133 (by decide) ?_
      exact hK15 _ _ h hw (lv_sub hl [1, 0] rfl)
    · have h := Eq.mp (if_neg hc) h
      refine lv_aload_n hx hb dX11_worksAll_52 rfl (lv_at hl 0 rfl) ?_
      refine hm_getr X hw lkM_91 LM_0 (b := 22) rfl dX11_worksAll_53 ?_
      refine lv_bipush (v := 8) hx hb dX11_worksAll_56 (by decide) ?_
      refine lv_iload_n hx hb dX11_worksAll_58 rfl (lv_at hl 1 rfl) ?_
      refine lv_imul hx hb dX11_worksAll_59 ?_
      refine lv_iload_n hx hb dX11_worksAll_60 rfl (lv_at hl 2 rfl) ?_
      refine lv_iadd hx hb dX11_worksAll_61 ?_
      refine lv_aload_n hx hb dX11_worksAll_62 rfl (lv_at hl 0 rfl) ?_
      refine hm_getr X hw lkM_78 LM_0 (b := 18) rfl dX11_worksAll_63 ?_
      refine lv_iload_n hx hb dX11_worksAll_66 rfl (lv_at hl 2 rfl) ?_
      obtain ⟨hi, h⟩ := h
      refine hm_iald X hw LM_18 hi dX11_worksAll_67 ?_
      obtain ⟨hi, h⟩ := h
      refine hm_iast X hw LM_22 hi dX11_worksAll_68 (fun H locs hw => ?_)
      refine lv_aload_n hx hb dX11_worksAll_69 rfl (lv_at hl 0 rfl) ?_
      refine hm_getr X hw lkM_78 LM_0 (b := 18) rfl dX11_worksAll_70 ?_
      refine lv_iload_n hx hb dX11_worksAll_73 rfl (lv_at hl 2 rfl) ?_
      obtain ⟨hi, h⟩ := h
      refine hm_iald X hw LM_18 hi dX11_worksAll_74 ?_
      refine lv_aload_n hx hb dX11_worksAll_75 rfl (lv_at hl 0 rfl) ?_
      refine hm_getr X hw lkM_75 LM_0 (b := 17) rfl dX11_worksAll_76 ?_
      refine lv_iload_n hx hb dX11_worksAll_79 rfl (lv_at hl 2 rfl) ?_
      obtain ⟨hi, h⟩ := h
      refine hm_iald X hw LM_17 hi dX11_worksAll_80 ?_
      refine lv_icmp_ne (tgt := 99) hx hb dX11_worksAll_81 (by decide) (fun hc => ?_) (fun hc => ?_)
      · have h := Eq.mp (if_neg hc) h
        refine lv_aload_n hx hb dX11_worksAll_99 rfl (lv_at hl 0 rfl) ?_
        refine hm_getr X hw lkM_78 LM_0 (b := 18) rfl dX11_worksAll_100 ?_
        refine lv_iload_n hx hb dX11_worksAll_103 rfl (lv_at hl 2 rfl) ?_
        obtain ⟨hi, h⟩ := h
        refine hm_iald X hw LM_18 hi dX11_worksAll_104 ?_
        refine lv_aload_n hx hb dX11_worksAll_105 rfl (lv_at hl 0 rfl) ?_
        refine hm_geti X hw lkM_13 LM_0 dX11_worksAll_106 ?_
        refine lv_icmp_eq (tgt := 124) hx hb dX11_worksAll_109 (by decide) (fun hc => ?_) (fun hc => ?_)
        · have h := Eq.mp (if_pos hc) h
          refine lv_iinc (v := x2 + 1) (lv' := [(2, _), (0, _), (1, _)]) hx hb dX11_worksAll_124 hl (k := 2) rfl rfl (by decide) rfl (fun ls hl => ?_)
          refine lv_goto (tgt := 44) hx hb dX11_worksAll_127 (by decide) ?_
          exact ih _ _ h hw (lv_sub hl [1, 2, 0] rfl)
        · have h := Eq.mp (if_neg hc) h
          refine lv_aload_n hx hb dX11_worksAll_112 rfl (lv_at hl 0 rfl) ?_
          refine hm_getr X hw lkM_87 LM_0 (b := 21) rfl dX11_worksAll_113 ?_
          refine lv_iload_n hx hb dX11_worksAll_116 rfl (lv_at hl 1 rfl) ?_
          refine lv_dup2_11 hx hb dX11_worksAll_117 rfl rfl ?_
          obtain ⟨hi, h⟩ := h
          refine hm_iald X hw LM_21 hi dX11_worksAll_118 ?_
          refine lv_iconst (v := 1) hx hb dX11_worksAll_119 (by decide) ?_
          refine lv_iload_n hx hb dX11_worksAll_120 rfl (lv_at hl 2 rfl) ?_
          refine lv_ishl hx hb dX11_worksAll_121 ?_
          refine lv_ior hx hb dX11_worksAll_122 ?_
          obtain ⟨hi, h⟩ := h
          refine hm_iast X hw LM_21 hi dX11_worksAll_123 (fun H locs hw => ?_)
          refine lv_iinc (v := x2 + 1) (lv' := [(2, _), (0, _), (1, _)]) hx hb dX11_worksAll_124 hl (k := 2) rfl rfl (by decide) rfl (fun ls hl => ?_)
          refine lv_goto (tgt := 44) hx hb dX11_worksAll_127 (by decide) ?_
          exact ih _ _ h hw (lv_sub hl [1, 2, 0] rfl)
      · have h := Eq.mp (if_pos hc) h
        refine lv_aload_n hx hb dX11_worksAll_84 rfl (lv_at hl 0 rfl) ?_
        refine hm_getr X hw lkM_84 LM_0 (b := 20) rfl dX11_worksAll_85 ?_
        refine lv_iload_n hx hb dX11_worksAll_88 rfl (lv_at hl 1 rfl) ?_
        refine lv_dup2_11 hx hb dX11_worksAll_89 rfl rfl ?_
        obtain ⟨hi, h⟩ := h
        refine hm_iald X hw LM_20 hi dX11_worksAll_90 ?_
        refine lv_iconst (v := 1) hx hb dX11_worksAll_91 (by decide) ?_
        refine lv_iload_n hx hb dX11_worksAll_92 rfl (lv_at hl 2 rfl) ?_
        refine lv_ishl hx hb dX11_worksAll_93 ?_
        refine lv_ior hx hb dX11_worksAll_94 ?_
        obtain ⟨hi, h⟩ := h
        refine hm_iast X hw LM_20 hi dX11_worksAll_95 (fun H locs hw => ?_)
        refine lv_goto (tgt := 124) hx hb dX11_worksAll_96 (by decide) ?_
        refine lv_iinc (v := x2 + 1) (lv' := [(2, _), (0, _), (1, _)]) hx hb dX11_worksAll_124 hl (k := 2) rfl rfl (by decide) rfl (fun ls hl => ?_)
        refine lv_goto (tgt := 44) hx hb dX11_worksAll_127 (by decide) ?_
        exact ih _ _ h hw (lv_sub hl [1, 2, 0] rfl)

theorem wkM_worksAll_l15 {J : HJ} {Q : HI → Prop} (X : hX p m c s args RX11 cX11_worksAll 3) (hr : meth.sig.returnType = none) (hlk : meth.locks = false) (hR : 5 ≤ R.frames ∧ 117 ≤ R.locals)   : ∀ (n : Nat) (I : HI) (x1 : Int32) {ls : Array Slot} {H : Heap} {locs : List Loc}, M_worksAll_l15 Q n I x1 → hW D cA z Ev0 (I, J, T, FM, LM) A s H locs → lv_has ls 3 [(0, .ref (z + 0)), (1, .int x1)] → W p l e R s m args below meth c H locs 0 0 (MQ below (va_Qv (pIv J T FM LM Q) (hB D cA z A) A) args s 0 0 A) (F0 m 15 ls []) := by
  have hx := X.1
  have hb := X.2.1
  intro n
  induction n with
  | zero => intro I x1 ls H locs h; exact False.elim h
  | succ n ih =>
    intro I x1 ls H locs h hw hl
    rw [M_worksAll_l15] at h
    refine lv_iload_n hx hb dX11_worksAll_15 rfl (lv_at hl 1 rfl) ?_
    refine lv_aload_n hx hb dX11_worksAll_16 rfl (lv_at hl 0 rfl) ?_
    refine hm_geti X hw lkM_16 LM_0 dX11_worksAll_17 ?_
    refine lv_icmp_ge (tgt := 136) hx hb dX11_worksAll_20 (by decide) (fun hc => ?_) (fun hc => ?_)
    · have h := Eq.mp (if_pos hc) h
      exact hm_vret X hr hlk hw ⟨_, rfl, h⟩ dX11_worksAll_136
    · have h := Eq.mp (if_neg hc) h
      refine lv_aload_n hx hb dX11_worksAll_23 rfl (lv_at hl 0 rfl) ?_
      refine lv_iload_n hx hb dX11_worksAll_24 rfl (lv_at hl 1 rfl) ?_
      refine hm_callv hw (hm_runV (rest := []) hCl_true X hw (cM_worksRow  h) ykM_worksRow kw1729 rfl LM_0 rfl hl.1 rfl rfl rfl (Nat.le_of_ble_eq_true rfl) ⟨Nat.le_trans (Nat.le_of_ble_eq_true rfl) hR.1, Nat.le_trans (Nat.le_of_ble_eq_true rfl) hR.2⟩ ⟨Nat.zero_le _, Nat.zero_le _⟩ dX11_worksAll_25) (fun u2 H locs hp hw => ?_)
      obtain ⟨I1, rfl, h⟩ := hp
      refine lv_aload_n hx hb dX11_worksAll_28 rfl (lv_at hl 0 rfl) ?_
      refine hm_getr X hw lkM_84 LM_0 (b := 20) rfl dX11_worksAll_29 ?_
      refine lv_iload_n hx hb dX11_worksAll_32 rfl (lv_at hl 1 rfl) ?_
      refine lv_iconst (v := 0) hx hb dX11_worksAll_33 (by decide) ?_
      obtain ⟨hi, h⟩ := h
      refine hm_iast X hw LM_20 hi dX11_worksAll_34 (fun H locs hw => ?_)
      refine lv_aload_n hx hb dX11_worksAll_35 rfl (lv_at hl 0 rfl) ?_
      refine hm_getr X hw lkM_87 LM_0 (b := 21) rfl dX11_worksAll_36 ?_
      refine lv_iload_n hx hb dX11_worksAll_39 rfl (lv_at hl 1 rfl) ?_
      refine lv_iconst (v := 0) hx hb dX11_worksAll_40 (by decide) ?_
      obtain ⟨hi, h⟩ := h
      refine hm_iast X hw LM_21 hi dX11_worksAll_41 (fun H locs hw => ?_)
      refine lv_iconst (v := 0) hx hb dX11_worksAll_42 (by decide) ?_
      refine lv_istore_n (lv' := [(2, _), (0, _), (1, _)]) hx hb dX11_worksAll_43 rfl hl (by decide) rfl (fun ls hl => ?_)
      obtain ⟨n2, h⟩ := h
      exact wkM_worksAll_l44 X hr hlk hR  ih n2 _ _ h hw (lv_sub hl [1, 2, 0] rfl)

theorem cM_worksAll {l : Launch} {D : va_G} {cA : Nat → ClassId} {z sz : Nat} {I : HI} {J : HJ}  {Q : HI → Prop}  (h : M_worksAll I  Q) : Met l yX11_worksAll (hws0 yX11_worksAll cX11_worksAll 3 none) { frames := 5, cells := 0, slots := 0, locals := 117 } (hPc D cA z Ev0 (I, J, T, FM, LM) sz [.ref (z + 0)]) (va_Qv (pIv J T FM LM Q) (hB D cA z (hA z LM sz)) (hA z LM sz)) 0 0 (hA z LM sz) := by
  refine hm_met (I, J, T, FM, LM) [.ref (z + 0)] rfl (by decide) (Nat.le_of_ble_eq_true rfl) ?_
  intro p e s m below meth c ls X hr hlk hnm hxt hsz hw hl
  have hl : lv_has ls 3 [(0, .ref (z + 0))] := hl
  have hR : 5 ≤ ({ frames := 5, cells := 0, slots := 0, locals := 117 } : Room).frames ∧ 117 ≤ ({ frames := 5, cells := 0, slots := 0, locals := 117 } : Room).locals := ⟨Nat.le_refl _, Nat.le_refl _⟩
  generalize ({ frames := 5, cells := 0, slots := 0, locals := 117 } : Room) = R at hR ⊢
  clear hsz
  generalize (hA z LM sz) = A at hw ⊢
  have hx := X.1
  have hb := X.2.1
  unfold M_worksAll at h
  refine lv_aload_n hx hb dX11_worksAll_0 rfl (lv_at hl 0 rfl) ?_
  refine hm_geti X hw lkM_195 LM_0 dX11_worksAll_1 ?_
  refine lv_if_eq (tgt := 8) hx hb dX11_worksAll_4 (by decide) (fun hc => ?_) (fun hc => ?_)
  · have h := Eq.mp (if_pos hc) h
    refine lv_aload_n hx hb dX11_worksAll_8 rfl (lv_at hl 0 rfl) ?_
    refine lv_iconst (v := 1) hx hb dX11_worksAll_9 (by decide) ?_
    refine hm_puti X hw lkM_195 LM_0 rfl rfl dX11_worksAll_10 (fun H locs hw => ?_)
    refine lv_iconst (v := 0) hx hb dX11_worksAll_13 (by decide) ?_
    refine lv_istore_n (lv' := [(1, _), (0, _)]) hx hb dX11_worksAll_14 rfl hl (by decide) rfl (fun ls hl => ?_)
    obtain ⟨n2, h⟩ := h
    exact wkM_worksAll_l15 X hr hlk hR   n2 _ _ h hw (lv_sub hl [1, 0] rfl)
  · have h := Eq.mp (if_neg hc) h
    exact hm_vret X hr hlk hw ⟨_, rfl, h⟩ dX11_worksAll_7

theorem wkM_many_b34 {I : HI} {J : HJ} {x2 : Int32} {x3 : Int32} {x5 : Int32} {t0 : Int32} {t1 : Int32} {K8 : Int32 → Int32 → Int32 → Prop} {Q : Int32 → Prop} (X : hX p m c s args RX11 cX11_many 6) (hr : meth.sig.returnType = (some .int)) (hlk : meth.locks = false) (hR : 0 ≤ R.frames ∧ 0 ≤ R.locals)  (hK8 : ∀ (x3 : Int32) (x4 : Int32) (x5 : Int32) {ls : Array Slot} {H : Heap} {locs : List Loc}, K8 x3 x4 x5 → hW D cA z Ev0 (I, J, T, FM, LM) A s H locs → lv_has ls 6 [(0, .ref (z + 0)), (2, .int x2), (3, .int x3), (4, .int x4), (5, .int x5)] → W p l e R s m args below meth c H locs 0 0 (MQ below (va_Qi (p0 (I, J, T, FM, LM) Q) (hB D cA z A) A) args s 0 0 A) (F0 m 8 ls [])) : ∀ {ls : Array Slot} {H : Heap} {locs : List Loc}, M_many_b34 I x2 x3 x5 t0 t1 K8 Q → hW D cA z Ev0 (I, J, T, FM, LM) A s H locs → lv_has ls 6 [(0, .ref (z + 0)), (2, .int x2), (3, .int x3), (5, .int x5)] → W p l e R s m args below meth c H locs 0 0 (MQ below (va_Qi (p0 (I, J, T, FM, LM) Q) (hB D cA z A) A) args s 0 0 A) (F0 m 34 ls [.int t0, .int t1]) := by
  have hx := X.1
  have hb := X.2.1
  intro ls H locs h hw hl
  unfold M_many_b34 at h
  refine lv_iadd hx hb dX11_many_34 ?_
  refine lv_istore (lv' := [(4, _), (0, _), (2, _), (3, _), (5, _)]) hx hb dX11_many_35 hl (by decide) rfl (fun ls hl => ?_)
  refine lv_iload_n hx hb dX11_many_37 rfl (lv_at hl 3 rfl) ?_
  refine lv_aload_n hx hb dX11_many_38 rfl (lv_at hl 1 rfl) ?_
  refine hm_geti X hw lkM_13 LM_0 dX11_many_39 ?_
  obtain ⟨hi, h⟩ := h
  refine hm_idiv hx hb dX11_many_42 hi ?_
  refine lv_istore_n (lv' := [(3, _), (4, _), (0, _), (2, _), (5, _)]) hx hb dX11_many_43 rfl hl (by decide) rfl (fun ls hl => ?_)
  refine lv_iinc (v := x5 + 1) (lv' := [(5, _), (3, _), (4, _), (0, _), (2, _)]) hx hb dX11_many_44 hl (k := 4) rfl rfl (by decide) rfl (fun ls hl => ?_)
  refine lv_goto (tgt := 8) hx hb dX11_many_47 (by decide) ?_
  exact hK8 _ _ _ h hw (lv_sub hl [3, 4, 1, 2, 0] rfl)

theorem wkM_many_l8 {I : HI} {J : HJ} {x2 : Int32} {Q : Int32 → Prop} (X : hX p m c s args RX11 cX11_many 6) (hr : meth.sig.returnType = (some .int)) (hlk : meth.locks = false) (hR : 0 ≤ R.frames ∧ 0 ≤ R.locals)   : ∀ (n : Nat) (x3 : Int32) (x4 : Int32) (x5 : Int32) {ls : Array Slot} {H : Heap} {locs : List Loc}, M_many_l8 I x2 Q n x3 x4 x5 → hW D cA z Ev0 (I, J, T, FM, LM) A s H locs → lv_has ls 6 [(0, .ref (z + 0)), (2, .int x2), (3, .int x3), (4, .int x4), (5, .int x5)] → W p l e R s m args below meth c H locs 0 0 (MQ below (va_Qi (p0 (I, J, T, FM, LM) Q) (hB D cA z A) A) args s 0 0 A) (F0 m 8 ls []) := by
  have hx := X.1
  have hb := X.2.1
  intro n
  induction n with
  | zero => intro x3 x4 x5 ls H locs h; exact False.elim h
  | succ n ih =>
    intro x3 x4 x5 ls H locs h hw hl
    rw [M_many_l8] at h
    refine lv_iload hx hb dX11_many_8 (lv_at hl 4 rfl) ?_
    refine lv_aload_n hx hb dX11_many_10 rfl (lv_at hl 0 rfl) ?_
    refine hm_geti X hw lkM_7 LM_0 dX11_many_11 ?_
    refine lv_icmp_ge (tgt := 50) hx hb dX11_many_14 (by decide) (fun hc => ?_) (fun hc => ?_)
    · have h := Eq.mp (if_pos hc) h
      refine lv_iload hx hb dX11_many_50 (lv_at hl 3 rfl) ?_
      exact hm_iret X hr hlk hw ⟨rfl, h⟩ dX11_many_52
    · have h := Eq.mp (if_neg hc) h
      refine lv_iload hx hb dX11_many_17 (lv_at hl 3 rfl) ?_
      refine lv_iload_n hx hb dX11_many_19 rfl (lv_at hl 2 rfl) ?_
      refine lv_aload_n hx hb dX11_many_20 rfl (lv_at hl 0 rfl) ?_
      refine hm_geti X hw lkM_13 LM_0 dX11_many_21 ?_
      obtain ⟨hi, h⟩ := h
      refine hm_irem hx hb dX11_many_24 hi ?_
      refine lv_iload_n hx hb dX11_many_25 rfl (lv_at hl 1 rfl) ?_
      refine lv_icmp_ne (tgt := 33) hx hb dX11_many_26 (by decide) (fun hc => ?_) (fun hc => ?_)
      · have h := Eq.mp (if_neg hc) h
        refine lv_iconst (v := 0) hx hb dX11_many_33 (by decide) ?_
        exact wkM_many_b34 X hr hlk hR  ih h hw (lv_sub hl [0, 1, 2, 4] rfl)
      · have h := Eq.mp (if_pos hc) h
        refine lv_iconst (v := 1) hx hb dX11_many_29 (by decide) ?_
        refine lv_goto (tgt := 34) hx hb dX11_many_30 (by decide) ?_
        exact wkM_many_b34 X hr hlk hR  ih h hw (lv_sub hl [0, 1, 2, 4] rfl)

theorem cM_many {l : Launch} {D : va_G} {cA : Nat → ClassId} {z sz : Nat} {I : HI} {J : HJ} {x1 : Int32} {x2 : Int32} {Q : Int32 → Prop}  (h : M_many I x1 x2 Q) : Met l yX11_many (hws0 yX11_many cX11_many 6 (some .int)) { frames := 0, cells := 0, slots := 0, locals := 0 } (hPc D cA z Ev0 (I, J, T, FM, LM) sz [.ref (z + 0), .int x1, .int x2]) (va_Qi (p0 (I, J, T, FM, LM) Q) (hB D cA z (hA z LM sz)) (hA z LM sz)) 0 0 (hA z LM sz) := by
  refine hm_met (I, J, T, FM, LM) [.ref (z + 0), .int x1, .int x2] rfl (by decide) (Nat.le_of_ble_eq_true rfl) ?_
  intro p e s m below meth c ls X hr hlk hnm hxt hsz hw hl
  have hl : lv_has ls 6 [(0, .ref (z + 0)), (1, .int x1), (2, .int x2)] := hl
  have hR : 0 ≤ ({ frames := 0, cells := 0, slots := 0, locals := 0 } : Room).frames ∧ 0 ≤ ({ frames := 0, cells := 0, slots := 0, locals := 0 } : Room).locals := ⟨Nat.le_refl _, Nat.le_refl _⟩
  generalize ({ frames := 0, cells := 0, slots := 0, locals := 0 } : Room) = R at hR ⊢
  clear hsz
  generalize (hA z LM sz) = A at hw ⊢
  have hx := X.1
  have hb := X.2.1
  unfold M_many at h
  refine lv_iload_n hx hb dX11_many_0 rfl (lv_at hl 1 rfl) ?_
  refine lv_istore_n (lv' := [(3, _), (0, _), (1, _), (2, _)]) hx hb dX11_many_1 rfl hl (by decide) rfl (fun ls hl => ?_)
  refine lv_iconst (v := 0) hx hb dX11_many_2 (by decide) ?_
  refine lv_istore (lv' := [(4, _), (3, _), (0, _), (1, _), (2, _)]) hx hb dX11_many_3 hl (by decide) rfl (fun ls hl => ?_)
  refine lv_iconst (v := 0) hx hb dX11_many_5 (by decide) ?_
  refine lv_istore (lv' := [(5, _), (4, _), (3, _), (0, _), (1, _), (2, _)]) hx hb dX11_many_6 hl (by decide) rfl (fun ls hl => ?_)
  obtain ⟨n2, h⟩ := h
  exact wkM_many_l8 X hr hlk hR   n2 _ _ _ h hw (lv_sub hl [3, 5, 2, 1, 0] rfl)

theorem wkM_counts_l4 {I : HI} {J : HJ} {x1 : Int32} {Q : Int32 → Prop} (X : hX p m c s args RX11 cX11_counts 4) (hr : meth.sig.returnType = (some .boolean)) (hlk : meth.locks = false) (hR : 1 ≤ R.frames ∧ 25 ≤ R.locals)   : ∀ (n : Nat) (x2 : Int32) (x3 : Int32) {ls : Array Slot} {H : Heap} {locs : List Loc}, M_counts_l4 I x1 Q n x2 x3 → hW D cA z Ev0 (I, J, T, FM, LM) A s H locs → lv_has ls 4 [(0, .ref (z + 0)), (1, .int x1), (2, .int x2), (3, .int x3)] → W p l e R s m args below meth c H locs 0 0 (MQ below (va_Qi (p0 (I, J, T, FM, LM) Q) (hB D cA z A) A) args s 0 0 A) (F0 m 4 ls []) := by
  have hx := X.1
  have hb := X.2.1
  intro n
  induction n with
  | zero => intro x2 x3 ls H locs h; exact False.elim h
  | succ n ih =>
    intro x2 x3 ls H locs h hw hl
    rw [M_counts_l4] at h
    refine lv_iload_n hx hb dX11_counts_4 rfl (lv_at hl 3 rfl) ?_
    refine lv_aload_n hx hb dX11_counts_5 rfl (lv_at hl 0 rfl) ?_
    refine hm_geti X hw lkM_13 LM_0 dX11_counts_6 ?_
    refine lv_icmp_ge (tgt := 43) hx hb dX11_counts_9 (by decide) (fun hc => ?_) (fun hc => ?_)
    · have h := Eq.mp (if_pos hc) h
      refine lv_iload_n hx hb dX11_counts_43 rfl (lv_at hl 2 rfl) ?_
      obtain ⟨hz, h⟩ := h
      exact hm_zret X hr hlk hw hz ⟨rfl, h⟩ dX11_counts_44
    · have h := Eq.mp (if_neg hc) h
      refine lv_iload_n hx hb dX11_counts_12 rfl (lv_at hl 2 rfl) ?_
      refine lv_if_eq (tgt := 35) hx hb dX11_counts_13 (by decide) (fun hc => ?_) (fun hc => ?_)
      · have h := Eq.mp (if_pos hc) h
        refine lv_iconst (v := 0) hx hb dX11_counts_35 (by decide) ?_
        refine lv_istore_n (lv' := [(2, _), (0, _), (1, _), (3, _)]) hx hb dX11_counts_36 rfl hl (by decide) rfl (fun ls hl => ?_)
        refine lv_iinc (v := x3 + 1) (lv' := [(3, _), (2, _), (0, _), (1, _)]) hx hb dX11_counts_37 hl (k := 3) rfl rfl (by decide) rfl (fun ls hl => ?_)
        refine lv_goto (tgt := 4) hx hb dX11_counts_40 (by decide) ?_
        exact ih _ _ h hw (lv_sub hl [2, 3, 1, 0] rfl)
      · have h := Eq.mp (if_neg hc) h
        refine lv_aload_n hx hb dX11_counts_16 rfl (lv_at hl 0 rfl) ?_
        refine lv_iload_n hx hb dX11_counts_17 rfl (lv_at hl 1 rfl) ?_
        refine lv_iload_n hx hb dX11_counts_18 rfl (lv_at hl 3 rfl) ?_
        refine hm_calli hw (hm_runV (rest := []) hCl_true X hw (cM_many  h) ykM_many kw1768 rfl LM_0 rfl hl.1 rfl rfl rfl (Nat.le_of_ble_eq_true rfl) ⟨Nat.le_trans (Nat.le_of_ble_eq_true rfl) hR.1, Nat.le_trans (Nat.le_of_ble_eq_true rfl) hR.2⟩ ⟨Nat.zero_le _, Nat.zero_le _⟩ dX11_counts_19) (fun r1 u2 H locs hp hw => ?_)
        obtain ⟨rfl, h⟩ := hp
        refine lv_aload_n hx hb dX11_counts_22 rfl (lv_at hl 0 rfl) ?_
        refine hm_getr X hw lkM_22 LM_0 (b := 1) rfl dX11_counts_23 ?_
        refine lv_iload_n hx hb dX11_counts_26 rfl (lv_at hl 3 rfl) ?_
        obtain ⟨hi, h⟩ := h
        refine hm_iald X hw LM_1 hi dX11_counts_27 ?_
        refine lv_icmp_gt (tgt := 35) hx hb dX11_counts_28 (by decide) (fun hc => ?_) (fun hc => ?_)
        · have h := Eq.mp (if_pos hc) h
          refine lv_iconst (v := 0) hx hb dX11_counts_35 (by decide) ?_
          refine lv_istore_n (lv' := [(2, _), (0, _), (1, _), (3, _)]) hx hb dX11_counts_36 rfl hl (by decide) rfl (fun ls hl => ?_)
          refine lv_iinc (v := x3 + 1) (lv' := [(3, _), (2, _), (0, _), (1, _)]) hx hb dX11_counts_37 hl (k := 3) rfl rfl (by decide) rfl (fun ls hl => ?_)
          refine lv_goto (tgt := 4) hx hb dX11_counts_40 (by decide) ?_
          exact ih _ _ h hw (lv_sub hl [2, 3, 1, 0] rfl)
        · have h := Eq.mp (if_neg hc) h
          refine lv_iconst (v := 1) hx hb dX11_counts_31 (by decide) ?_
          refine lv_goto (tgt := 36) hx hb dX11_counts_32 (by decide) ?_
          refine lv_istore_n (lv' := [(2, _), (0, _), (1, _), (3, _)]) hx hb dX11_counts_36 rfl hl (by decide) rfl (fun ls hl => ?_)
          refine lv_iinc (v := x3 + 1) (lv' := [(3, _), (2, _), (0, _), (1, _)]) hx hb dX11_counts_37 hl (k := 3) rfl rfl (by decide) rfl (fun ls hl => ?_)
          refine lv_goto (tgt := 4) hx hb dX11_counts_40 (by decide) ?_
          exact ih _ _ h hw (lv_sub hl [2, 3, 1, 0] rfl)

theorem cM_counts {l : Launch} {D : va_G} {cA : Nat → ClassId} {z sz : Nat} {I : HI} {J : HJ} {x1 : Int32} {Q : Int32 → Prop}  (h : M_counts I x1 Q) : Met l yX11_counts (hws0 yX11_counts cX11_counts 4 (some .boolean)) { frames := 1, cells := 0, slots := 0, locals := 25 } (hPc D cA z Ev0 (I, J, T, FM, LM) sz [.ref (z + 0), .int x1]) (va_Qi (p0 (I, J, T, FM, LM) Q) (hB D cA z (hA z LM sz)) (hA z LM sz)) 0 0 (hA z LM sz) := by
  refine hm_met (I, J, T, FM, LM) [.ref (z + 0), .int x1] rfl (by decide) (Nat.le_of_ble_eq_true rfl) ?_
  intro p e s m below meth c ls X hr hlk hnm hxt hsz hw hl
  have hl : lv_has ls 4 [(0, .ref (z + 0)), (1, .int x1)] := hl
  have hR : 1 ≤ ({ frames := 1, cells := 0, slots := 0, locals := 25 } : Room).frames ∧ 25 ≤ ({ frames := 1, cells := 0, slots := 0, locals := 25 } : Room).locals := ⟨Nat.le_refl _, Nat.le_refl _⟩
  generalize ({ frames := 1, cells := 0, slots := 0, locals := 25 } : Room) = R at hR ⊢
  clear hsz
  generalize (hA z LM sz) = A at hw ⊢
  have hx := X.1
  have hb := X.2.1
  unfold M_counts at h
  refine lv_iconst (v := 1) hx hb dX11_counts_0 (by decide) ?_
  refine lv_istore_n (lv' := [(2, _), (0, _), (1, _)]) hx hb dX11_counts_1 rfl hl (by decide) rfl (fun ls hl => ?_)
  refine lv_iconst (v := 0) hx hb dX11_counts_2 (by decide) ?_
  refine lv_istore_n (lv' := [(3, _), (2, _), (0, _), (1, _)]) hx hb dX11_counts_3 rfl hl (by decide) rfl (fun ls hl => ?_)
  obtain ⟨n2, h⟩ := h
  exact wkM_counts_l4 X hr hlk hR   n2 _ _ h hw (lv_sub hl [2, 3, 1, 0] rfl)

theorem cM_isWon {l : Launch} {D : va_G} {cA : Nat → ClassId} {z sz : Nat} {I : HI} {J : HJ} {x1 : Int32} {x2 : Int32} {Q : Int32 → Prop}  (h : M_isWon I x1 x2 Q) : Met l yX11_isWon (hws0 yX11_isWon cX11_isWon 4 (some .boolean)) { frames := 1, cells := 0, slots := 0, locals := 22 } (hPc D cA z Ev0 (I, J, T, FM, LM) sz [.ref (z + 0), .int x1, .int x2]) (va_Qi (p0 (I, J, T, FM, LM) Q) (hB D cA z (hA z LM sz)) (hA z LM sz)) 0 0 (hA z LM sz) := by
  refine hm_met (I, J, T, FM, LM) [.ref (z + 0), .int x1, .int x2] rfl (by decide) (Nat.le_of_ble_eq_true rfl) ?_
  intro p e s m below meth c ls X hr hlk hnm hxt hsz hw hl
  have hl : lv_has ls 4 [(0, .ref (z + 0)), (1, .int x1), (2, .int x2)] := hl
  have hR : 1 ≤ ({ frames := 1, cells := 0, slots := 0, locals := 22 } : Room).frames ∧ 22 ≤ ({ frames := 1, cells := 0, slots := 0, locals := 22 } : Room).locals := ⟨Nat.le_refl _, Nat.le_refl _⟩
  generalize ({ frames := 1, cells := 0, slots := 0, locals := 22 } : Room) = R at hR ⊢
  clear hsz
  generalize (hA z LM sz) = A at hw ⊢
  have hx := X.1
  have hb := X.2.1
  unfold M_isWon at h
  refine lv_iload_n hx hb dX11_isWon_0 rfl (lv_at hl 1 rfl) ?_
  refine hm_calli hw (hm_runS (rest := []) hCl_true X hw (cM_bits  h) ykM_bits kw1342 rfl hl.1 rfl rfl rfl (Nat.le_of_ble_eq_true rfl) ⟨Nat.le_trans (Nat.le_of_ble_eq_true rfl) hR.1, Nat.le_trans (Nat.le_of_ble_eq_true rfl) hR.2⟩ ⟨Nat.zero_le _, Nat.zero_le _⟩ dX11_isWon_1) (fun r1 u2 H locs hp hw => ?_)
  obtain ⟨rfl, h⟩ := hp
  refine lv_istore_n (lv' := [(3, _), (0, _), (1, _), (2, _)]) hx hb dX11_isWon_4 rfl hl (by decide) rfl (fun ls hl => ?_)
  refine lv_aload_n hx hb dX11_isWon_5 rfl (lv_at hl 1 rfl) ?_
  refine hm_geti X hw lkM_211 LM_0 dX11_isWon_6 ?_
  by_cases hc0 : (I 0 4) = 0
  · have h := Eq.mp (if_pos hc0) h
    refine lv_tableIn (tgt := 36) (off := 27) hx hb dX11_isWon_9 (by rw [hc0]; decide) (by rw [hc0]; decide) (by rw [hc0]; decide) (by decide) ?_
    refine lv_iload_n hx hb dX11_isWon_36 rfl (lv_at hl 0 rfl) ?_
    refine lv_aload_n hx hb dX11_isWon_37 rfl (lv_at hl 1 rfl) ?_
    refine hm_geti X hw lkM_19 LM_0 dX11_isWon_38 ?_
    refine lv_icmp_lt (tgt := 48) hx hb dX11_isWon_41 (by decide) (fun hc => ?_) (fun hc => ?_)
    · have h := Eq.mp (if_pos hc) h
      refine lv_iconst (v := 0) hx hb dX11_isWon_48 (by decide) ?_
      exact hm_zret X hr hlk hw zb_0 ⟨rfl, h⟩ dX11_isWon_49
    · have h := Eq.mp (if_neg hc) h
      refine lv_iconst (v := 1) hx hb dX11_isWon_44 (by decide) ?_
      refine lv_goto (tgt := 49) hx hb dX11_isWon_45 (by decide) ?_
      exact hm_zret X hr hlk hw zb_1 ⟨rfl, h⟩ dX11_isWon_49
  have h := Eq.mp (if_neg hc0) h
  by_cases hc1 : (I 0 4) = 1
  · have h := Eq.mp (if_pos hc1) h
    refine lv_tableIn (tgt := 50) (off := 41) hx hb dX11_isWon_9 (by rw [hc1]; decide) (by rw [hc1]; decide) (by rw [hc1]; decide) (by decide) ?_
    refine lv_iload_n hx hb dX11_isWon_50 rfl (lv_at hl 0 rfl) ?_
    refine lv_aload_n hx hb dX11_isWon_51 rfl (lv_at hl 1 rfl) ?_
    refine hm_geti X hw lkM_19 LM_0 dX11_isWon_52 ?_
    refine lv_icmp_ne (tgt := 62) hx hb dX11_isWon_55 (by decide) (fun hc => ?_) (fun hc => ?_)
    · have h := Eq.mp (if_neg hc) h
      refine lv_iconst (v := 0) hx hb dX11_isWon_62 (by decide) ?_
      exact hm_zret X hr hlk hw zb_0 ⟨rfl, h⟩ dX11_isWon_63
    · have h := Eq.mp (if_pos hc) h
      refine lv_iconst (v := 1) hx hb dX11_isWon_58 (by decide) ?_
      refine lv_goto (tgt := 63) hx hb dX11_isWon_59 (by decide) ?_
      exact hm_zret X hr hlk hw zb_1 ⟨rfl, h⟩ dX11_isWon_63
  have h := Eq.mp (if_neg hc1) h
  by_cases hc2 : (I 0 4) = 2
  · have h := Eq.mp (if_pos hc2) h
    refine lv_tableIn (tgt := 64) (off := 55) hx hb dX11_isWon_9 (by rw [hc2]; decide) (by rw [hc2]; decide) (by rw [hc2]; decide) (by decide) ?_
    refine lv_iload_n hx hb dX11_isWon_64 rfl (lv_at hl 3 rfl) ?_
    refine lv_if_ne (tgt := 80) hx hb dX11_isWon_65 (by decide) (fun hc => ?_) (fun hc => ?_)
    · have h := Eq.mp (if_neg hc) h
      refine lv_iconst (v := 0) hx hb dX11_isWon_80 (by decide) ?_
      exact hm_zret X hr hlk hw zb_0 ⟨rfl, h⟩ dX11_isWon_81
    · have h := Eq.mp (if_pos hc) h
      refine lv_iload_n hx hb dX11_isWon_68 rfl (lv_at hl 0 rfl) ?_
      refine lv_aload_n hx hb dX11_isWon_69 rfl (lv_at hl 1 rfl) ?_
      refine hm_geti X hw lkM_19 LM_0 dX11_isWon_70 ?_
      refine lv_icmp_lt (tgt := 80) hx hb dX11_isWon_73 (by decide) (fun hc => ?_) (fun hc => ?_)
      · have h := Eq.mp (if_pos hc) h
        refine lv_iconst (v := 0) hx hb dX11_isWon_80 (by decide) ?_
        exact hm_zret X hr hlk hw zb_0 ⟨rfl, h⟩ dX11_isWon_81
      · have h := Eq.mp (if_neg hc) h
        refine lv_iconst (v := 1) hx hb dX11_isWon_76 (by decide) ?_
        refine lv_goto (tgt := 81) hx hb dX11_isWon_77 (by decide) ?_
        exact hm_zret X hr hlk hw zb_1 ⟨rfl, h⟩ dX11_isWon_81
  have h := Eq.mp (if_neg hc2) h
  refine hm_tabD (tgt := 82) [0, 1, 2] hx hb dX11_isWon_9 (by decide) (by simp only [List.forall_mem_cons]; exact ⟨hc0, hc1, hc2, fun _ h => (by cases h)⟩) (by decide) ?_
  refine lv_aload_n hx hb dX11_isWon_82 rfl (lv_at hl 1 rfl) ?_
  refine hm_geti X hw lkM_7 LM_0 dX11_isWon_83 ?_
  refine lv_iload_n hx hb dX11_isWon_86 rfl (lv_at hl 0 rfl) ?_
  refine lv_isub hx hb dX11_isWon_87 ?_
  refine lv_aload_n hx hb dX11_isWon_88 rfl (lv_at hl 1 rfl) ?_
  refine hm_geti X hw lkM_19 LM_0 dX11_isWon_89 ?_
  refine lv_icmp_gt (tgt := 99) hx hb dX11_isWon_92 (by decide) (fun hc => ?_) (fun hc => ?_)
  · have h := Eq.mp (if_pos hc) h
    refine lv_iconst (v := 0) hx hb dX11_isWon_99 (by decide) ?_
    exact hm_zret X hr hlk hw zb_0 ⟨rfl, h⟩ dX11_isWon_100
  · have h := Eq.mp (if_neg hc) h
    refine lv_iconst (v := 1) hx hb dX11_isWon_95 (by decide) ?_
    refine lv_goto (tgt := 100) hx hb dX11_isWon_96 (by decide) ?_
    exact hm_zret X hr hlk hw zb_1 ⟨rfl, h⟩ dX11_isWon_100

theorem wkM_about_b23 {I : HI} {J : HJ} {x1 : Int32} {x2 : Int32} {t0 : Int32} {Q : Int32 → HI → Prop} (X : hX p m c s args RX11 cX11_about 4) (hr : meth.sig.returnType = (some .int)) (hlk : meth.locks = false) (hR : 2 ≤ R.frames ∧ 46 ≤ R.locals)   : ∀ {ls : Array Slot} {H : Heap} {locs : List Loc}, M_about_b23 I x1 x2 t0 Q → hW D cA z Ev0 (I, J, T, FM, LM) A s H locs → lv_has ls 4 [(0, .ref (z + 0)), (1, .int x1), (2, .int x2)] → W p l e R s m args below meth c H locs 0 0 (MQ below (va_Qi (pI J T FM LM Q) (hB D cA z A) A) args s 0 0 A) (F0 m 23 ls [.int t0, .ref (z + 0)]) := by
  have hx := X.1
  have hb := X.2.1
  intro ls H locs h hw hl
  unfold M_about_b23 at h
  refine lv_iconst (v := 1) hx hb dX11_about_23 (by decide) ?_
  refine hm_calli hw (hm_runV (rest := []) hCl_true X hw (cM_right  h) ykM_right kw1594 rfl LM_0 rfl hl.1 rfl rfl rfl (Nat.le_of_ble_eq_true rfl) ⟨Nat.le_trans (Nat.le_of_ble_eq_true rfl) hR.1, Nat.le_trans (Nat.le_of_ble_eq_true rfl) hR.2⟩ ⟨Nat.zero_le _, Nat.zero_le _⟩ dX11_about_24) (fun r4 u6 H locs hp hw => ?_)
  obtain ⟨I5, rfl, h⟩ := hp
  refine lv_if_ne (tgt := 32) hx hb dX11_about_27 (by decide) (fun hc => ?_) (fun hc => ?_)
  · have h := Eq.mp (if_neg hc) h
    refine lv_aload_n hx hb dX11_about_32 rfl (lv_at hl 0 rfl) ?_
    refine lv_iload_n hx hb dX11_about_33 rfl (lv_at hl 1 rfl) ?_
    refine hm_calli hw (hm_runV (rest := []) hCl_true X hw (cM_viewsOf  h) ykM_viewsOf kw1338 rfl LM_0 rfl hl.1 rfl rfl rfl (Nat.le_of_ble_eq_true rfl) ⟨Nat.le_trans (Nat.le_of_ble_eq_true rfl) hR.1, Nat.le_trans (Nat.le_of_ble_eq_true rfl) hR.2⟩ ⟨Nat.zero_le _, Nat.zero_le _⟩ dX11_about_34) (fun r7 u8 H locs hp hw => ?_)
    obtain ⟨rfl, h⟩ := hp
    refine lv_istore_n (lv' := [(3, _), (0, _), (1, _), (2, _)]) hx hb dX11_about_37 rfl hl (by decide) rfl (fun ls hl => ?_)
    refine lv_iload_n hx hb dX11_about_38 rfl (lv_at hl 3 rfl) ?_
    refine lv_if_ne (tgt := 51) hx hb dX11_about_39 (by decide) (fun hc => ?_) (fun hc => ?_)
    · have h := Eq.mp (if_neg hc) h
      refine lv_iload_n hx hb dX11_about_51 rfl (lv_at hl 3 rfl) ?_
      refine lv_iconst (v := 1) hx hb dX11_about_52 (by decide) ?_
      refine lv_icmp_ne (tgt := 65) hx hb dX11_about_53 (by decide) (fun hc => ?_) (fun hc => ?_)
      · have h := Eq.mp (if_neg hc) h
        refine lv_iload_n hx hb dX11_about_65 rfl (lv_at hl 3 rfl) ?_
        refine lv_iconst (v := 2) hx hb dX11_about_66 (by decide) ?_
        refine lv_icmp_ne (tgt := 78) hx hb dX11_about_67 (by decide) (fun hc => ?_) (fun hc => ?_)
        · have h := Eq.mp (if_neg hc) h
          refine lv_iload_n hx hb dX11_about_78 rfl (lv_at hl 3 rfl) ?_
          refine lv_iconst (v := 3) hx hb dX11_about_79 (by decide) ?_
          refine lv_icmp_ne (tgt := 98) hx hb dX11_about_80 (by decide) (fun hc => ?_) (fun hc => ?_)
          · have h := Eq.mp (if_neg hc) h
            refine lv_aload_n hx hb dX11_about_98 rfl (lv_at hl 1 rfl) ?_
            refine hm_getr X hw lkM_32 LM_0 (b := 4) rfl dX11_about_99 ?_
            refine lv_iload_n hx hb dX11_about_102 rfl (lv_at hl 2 rfl) ?_
            obtain ⟨hi, h⟩ := h
            refine hm_iald X hw LM_4 hi dX11_about_103 ?_
            exact hm_iret X hr hlk hw ⟨_, rfl, h⟩ dX11_about_104
          · have h := Eq.mp (if_pos hc) h
            refine lv_iload_n hx hb dX11_about_83 rfl (lv_at hl 0 rfl) ?_
            refine lv_sipush (v := 1024) hx hb dX11_about_84 (by decide) ?_
            refine lv_icmp_le (tgt := 94) hx hb dX11_about_87 (by decide) (fun hc => ?_) (fun hc => ?_)
            · have h := Eq.mp (if_pos hc) h
              refine lv_iload_n hx hb dX11_about_94 rfl (lv_at hl 0 rfl) ?_
              refine lv_goto (tgt := 104) hx hb dX11_about_95 (by decide) ?_
              exact hm_iret X hr hlk hw ⟨_, rfl, h⟩ dX11_about_104
            · have h := Eq.mp (if_neg hc) h
              refine lv_iconst (v := (-1)) hx hb dX11_about_90 (by decide) ?_
              refine lv_goto (tgt := 104) hx hb dX11_about_91 (by decide) ?_
              exact hm_iret X hr hlk hw ⟨_, rfl, h⟩ dX11_about_104
        · have h := Eq.mp (if_pos hc) h
          refine lv_aload_n hx hb dX11_about_70 rfl (lv_at hl 1 rfl) ?_
          refine lv_iload_n hx hb dX11_about_71 rfl (lv_at hl 2 rfl) ?_
          refine hm_calli hw (hm_runV (rest := []) hCl_true X hw (cM_hears  h) ykM_hears kw1345 rfl LM_0 rfl hl.1 rfl rfl rfl (Nat.le_of_ble_eq_true rfl) ⟨Nat.le_trans (Nat.le_of_ble_eq_true rfl) hR.1, Nat.le_trans (Nat.le_of_ble_eq_true rfl) hR.2⟩ ⟨Nat.zero_le _, Nat.zero_le _⟩ dX11_about_72) (fun r9 u10 H locs hp hw => ?_)
          obtain ⟨rfl, h⟩ := hp
          refine lv_goto (tgt := 104) hx hb dX11_about_75 (by decide) ?_
          exact hm_iret X hr hlk hw ⟨_, rfl, h⟩ dX11_about_104
      · have h := Eq.mp (if_pos hc) h
        refine lv_aload_n hx hb dX11_about_56 rfl (lv_at hl 1 rfl) ?_
        refine hm_getr X hw lkM_29 LM_0 (b := 3) rfl dX11_about_57 ?_
        refine lv_iload_n hx hb dX11_about_60 rfl (lv_at hl 2 rfl) ?_
        obtain ⟨hi, h⟩ := h
        refine hm_iald X hw LM_3 hi dX11_about_61 ?_
        refine lv_goto (tgt := 104) hx hb dX11_about_62 (by decide) ?_
        exact hm_iret X hr hlk hw ⟨_, rfl, h⟩ dX11_about_104
    · have h := Eq.mp (if_pos hc) h
      refine lv_aload_n hx hb dX11_about_42 rfl (lv_at hl 1 rfl) ?_
      refine hm_getr X hw lkM_26 LM_0 (b := 2) rfl dX11_about_43 ?_
      refine lv_iload_n hx hb dX11_about_46 rfl (lv_at hl 2 rfl) ?_
      obtain ⟨hi, h⟩ := h
      refine hm_iald X hw LM_2 hi dX11_about_47 ?_
      refine lv_goto (tgt := 104) hx hb dX11_about_48 (by decide) ?_
      exact hm_iret X hr hlk hw ⟨_, rfl, h⟩ dX11_about_104
  · have h := Eq.mp (if_pos hc) h
    refine lv_iconst (v := 0) hx hb dX11_about_30 (by decide) ?_
    exact hm_iret X hr hlk hw ⟨_, rfl, h⟩ dX11_about_31

theorem wkM_about_b22 {I : HI} {J : HJ} {x1 : Int32} {x2 : Int32} {Q : Int32 → HI → Prop} (X : hX p m c s args RX11 cX11_about 4) (hr : meth.sig.returnType = (some .int)) (hlk : meth.locks = false) (hR : 2 ≤ R.frames ∧ 46 ≤ R.locals)   : ∀ {ls : Array Slot} {H : Heap} {locs : List Loc}, M_about_b22 I x1 x2 Q → hW D cA z Ev0 (I, J, T, FM, LM) A s H locs → lv_has ls 4 [(0, .ref (z + 0)), (1, .int x1), (2, .int x2)] → W p l e R s m args below meth c H locs 0 0 (MQ below (va_Qi (pI J T FM LM Q) (hB D cA z A) A) args s 0 0 A) (F0 m 22 ls [.ref (z + 0)]) := by
  have hx := X.1
  have hb := X.2.1
  intro ls H locs h hw hl
  unfold M_about_b22 at h
  refine lv_iconst (v := 0) hx hb dX11_about_22 (by decide) ?_
  exact wkM_about_b23 X hr hlk hR   h hw (lv_sub hl [0, 1, 2] rfl)

theorem cM_about {l : Launch} {D : va_G} {cA : Nat → ClassId} {z sz : Nat} {I : HI} {J : HJ} {x1 : Int32} {x2 : Int32} {Q : Int32 → HI → Prop}  (h : M_about I x1 x2 Q) : Met l yX11_about (hws0 yX11_about cX11_about 4 (some .int)) { frames := 2, cells := 0, slots := 0, locals := 46 } (hPc D cA z Ev0 (I, J, T, FM, LM) sz [.ref (z + 0), .int x1, .int x2]) (va_Qi (pI J T FM LM Q) (hB D cA z (hA z LM sz)) (hA z LM sz)) 0 0 (hA z LM sz) := by
  refine hm_met (I, J, T, FM, LM) [.ref (z + 0), .int x1, .int x2] rfl (by decide) (Nat.le_of_ble_eq_true rfl) ?_
  intro p e s m below meth c ls X hr hlk hnm hxt hsz hw hl
  have hl : lv_has ls 4 [(0, .ref (z + 0)), (1, .int x1), (2, .int x2)] := hl
  have hR : 2 ≤ ({ frames := 2, cells := 0, slots := 0, locals := 46 } : Room).frames ∧ 46 ≤ ({ frames := 2, cells := 0, slots := 0, locals := 46 } : Room).locals := ⟨Nat.le_refl _, Nat.le_refl _⟩
  generalize ({ frames := 2, cells := 0, slots := 0, locals := 46 } : Room) = R at hR ⊢
  clear hsz
  generalize (hA z LM sz) = A at hw ⊢
  have hx := X.1
  have hb := X.2.1
  unfold M_about at h
  refine lv_aload_n hx hb dX11_about_0 rfl (lv_at hl 0 rfl) ?_
  refine lv_iload_n hx hb dX11_about_1 rfl (lv_at hl 1 rfl) ?_
  refine hm_calli hw (hm_runV (rest := []) hCl_true X hw (cM_isWearer  h) ykM_isWearer kw1590 rfl LM_0 rfl hl.1 rfl rfl rfl (Nat.le_of_ble_eq_true rfl) ⟨Nat.le_trans (Nat.le_of_ble_eq_true rfl) hR.1, Nat.le_trans (Nat.le_of_ble_eq_true rfl) hR.2⟩ ⟨Nat.zero_le _, Nat.zero_le _⟩ dX11_about_2) (fun r1 u3 H locs hp hw => ?_)
  obtain ⟨I2, rfl, h⟩ := hp
  refine lv_if_eq (tgt := 30) hx hb dX11_about_5 (by decide) (fun hc => ?_) (fun hc => ?_)
  · have h := Eq.mp (if_pos hc) h
    refine lv_iconst (v := 0) hx hb dX11_about_30 (by decide) ?_
    exact hm_iret X hr hlk hw ⟨_, rfl, h⟩ dX11_about_31
  · have h := Eq.mp (if_neg hc) h
    refine lv_aload_n hx hb dX11_about_8 rfl (lv_at hl 0 rfl) ?_
    refine lv_iload_n hx hb dX11_about_9 rfl (lv_at hl 2 rfl) ?_
    refine lv_if_lt (tgt := 22) hx hb dX11_about_10 (by decide) (fun hc => ?_) (fun hc => ?_)
    · have h := Eq.mp (if_pos hc) h
      exact wkM_about_b22 X hr hlk hR   h hw (lv_sub hl [0, 1, 2] rfl)
    · have h := Eq.mp (if_neg hc) h
      refine lv_iload_n hx hb dX11_about_13 rfl (lv_at hl 2 rfl) ?_
      refine lv_iconst (v := 4) hx hb dX11_about_14 (by decide) ?_
      refine lv_icmp_gt (tgt := 22) hx hb dX11_about_15 (by decide) (fun hc => ?_) (fun hc => ?_)
      · have h := Eq.mp (if_pos hc) h
        exact wkM_about_b22 X hr hlk hR   h hw (lv_sub hl [0, 1, 2] rfl)
      · have h := Eq.mp (if_neg hc) h
        refine lv_iconst (v := 1) hx hb dX11_about_18 (by decide) ?_
        refine lv_goto (tgt := 23) hx hb dX11_about_19 (by decide) ?_
        exact wkM_about_b23 X hr hlk hR   h hw (lv_sub hl [0, 1, 2] rfl)

theorem wkM_tell_b63 {I : HI} {J : HJ} {x1 : Int32} {x2 : Int32} {x3 : Int32} {Q : Int32 → HI → Prop} (X : hX p m c s args RX11 cX11_tell 5) (hr : meth.sig.returnType = (some .boolean)) (hlk : meth.locks = false) (hR : 3 ≤ R.frames ∧ 68 ≤ R.locals)   : ∀ {ls : Array Slot} {H : Heap} {locs : List Loc}, M_tell_b63 I x1 x2 x3 Q → hW D cA z Ev0 (I, J, T, FM, LM) A s H locs → lv_has ls 5 [(0, .ref (z + 0)), (1, .int x1), (2, .int x2), (3, .int x3)] → W p l e R s m args below meth c H locs 0 0 (MQ below (va_Qi (pI J T FM LM Q) (hB D cA z A) A) args s 0 0 A) (F0 m 63 ls []) := by
  have hx := X.1
  have hb := X.2.1
  intro ls H locs h hw hl
  unfold M_tell_b63 at h
  refine lv_aload_n hx hb dX11_tell_63 rfl (lv_at hl 0 rfl) ?_
  refine hm_getr X hw lkM_35 LM_0 (b := 5) rfl dX11_tell_64 ?_
  refine lv_sipush (v := 1024) hx hb dX11_tell_67 (by decide) ?_
  refine lv_iload_n hx hb dX11_tell_70 rfl (lv_at hl 1 rfl) ?_
  refine lv_imul hx hb dX11_tell_71 ?_
  refine lv_iload_n hx hb dX11_tell_72 rfl (lv_at hl 2 rfl) ?_
  refine lv_iadd hx hb dX11_tell_73 ?_
  refine lv_iload_n hx hb dX11_tell_74 rfl (lv_at hl 3 rfl) ?_
  obtain ⟨hi, h⟩ := h
  refine hm_iast X hw LM_5 hi dX11_tell_75 (fun H locs hw => ?_)
  refine lv_aload_n hx hb dX11_tell_76 rfl (lv_at hl 0 rfl) ?_
  refine lv_iconst (v := 0) hx hb dX11_tell_77 (by decide) ?_
  refine hm_puti X hw lkM_195 LM_0 rfl rfl dX11_tell_78 (fun H locs hw => ?_)
  refine lv_iconst (v := 1) hx hb dX11_tell_81 (by decide) ?_
  exact hm_zret X hr hlk hw zb_1 ⟨_, rfl, h⟩ dX11_tell_82

theorem cM_tell {l : Launch} {D : va_G} {cA : Nat → ClassId} {z sz : Nat} {I : HI} {J : HJ} {x1 : Int32} {x2 : Int32} {x3 : Int32} {Q : Int32 → HI → Prop}  (h : M_tell I x1 x2 x3 Q) : Met l yX11_tell (hws0 yX11_tell cX11_tell 5 (some .boolean)) { frames := 3, cells := 0, slots := 0, locals := 68 } (hPc D cA z Ev0 (I, J, T, FM, LM) sz [.ref (z + 0), .int x1, .int x2, .int x3]) (va_Qi (pI J T FM LM Q) (hB D cA z (hA z LM sz)) (hA z LM sz)) 0 0 (hA z LM sz) := by
  refine hm_met (I, J, T, FM, LM) [.ref (z + 0), .int x1, .int x2, .int x3] rfl (by decide) (Nat.le_of_ble_eq_true rfl) ?_
  intro p e s m below meth c ls X hr hlk hnm hxt hsz hw hl
  have hl : lv_has ls 5 [(0, .ref (z + 0)), (1, .int x1), (2, .int x2), (3, .int x3)] := hl
  have hR : 3 ≤ ({ frames := 3, cells := 0, slots := 0, locals := 68 } : Room).frames ∧ 68 ≤ ({ frames := 3, cells := 0, slots := 0, locals := 68 } : Room).locals := ⟨Nat.le_refl _, Nat.le_refl _⟩
  generalize ({ frames := 3, cells := 0, slots := 0, locals := 68 } : Room) = R at hR ⊢
  clear hsz
  generalize (hA z LM sz) = A at hw ⊢
  have hx := X.1
  have hb := X.2.1
  unfold M_tell at h
  refine lv_aload_n hx hb dX11_tell_0 rfl (lv_at hl 0 rfl) ?_
  refine lv_iload_n hx hb dX11_tell_1 rfl (lv_at hl 1 rfl) ?_
  refine hm_calli hw (hm_runV (rest := []) hCl_true X hw (cM_isWearer  h) ykM_isWearer kw1590 rfl LM_0 rfl hl.1 rfl rfl rfl (Nat.le_of_ble_eq_true rfl) ⟨Nat.le_trans (Nat.le_of_ble_eq_true rfl) hR.1, Nat.le_trans (Nat.le_of_ble_eq_true rfl) hR.2⟩ ⟨Nat.zero_le _, Nat.zero_le _⟩ dX11_tell_2) (fun r1 u3 H locs hp hw => ?_)
  obtain ⟨I2, rfl, h⟩ := hp
  refine lv_if_ne (tgt := 10) hx hb dX11_tell_5 (by decide) (fun hc => ?_) (fun hc => ?_)
  · have h := Eq.mp (if_neg hc) h
    refine lv_aload_n hx hb dX11_tell_10 rfl (lv_at hl 0 rfl) ?_
    refine lv_iload_n hx hb dX11_tell_11 rfl (lv_at hl 1 rfl) ?_
    refine hm_calli hw (hm_runV (rest := []) hCl_true X hw (cM_viewsOf  h) ykM_viewsOf kw1338 rfl LM_0 rfl hl.1 rfl rfl rfl (Nat.le_of_ble_eq_true rfl) ⟨Nat.le_trans (Nat.le_of_ble_eq_true rfl) hR.1, Nat.le_trans (Nat.le_of_ble_eq_true rfl) hR.2⟩ ⟨Nat.zero_le _, Nat.zero_le _⟩ dX11_tell_12) (fun r4 u5 H locs hp hw => ?_)
    obtain ⟨rfl, h⟩ := hp
    refine lv_istore (lv' := [(4, _), (0, _), (1, _), (2, _), (3, _)]) hx hb dX11_tell_15 hl (by decide) rfl (fun ls hl => ?_)
    refine lv_iload hx hb dX11_tell_17 (lv_at hl 0 rfl) ?_
    refine lv_sipush (v := 1024) hx hb dX11_tell_19 (by decide) ?_
    refine lv_icmp_gt (tgt := 47) hx hb dX11_tell_22 (by decide) (fun hc => ?_) (fun hc => ?_)
    · have h := Eq.mp (if_pos hc) h
      refine lv_iconst (v := 0) hx hb dX11_tell_47 (by decide) ?_
      exact hm_zret X hr hlk hw zb_0 ⟨_, rfl, h⟩ dX11_tell_48
    · have h := Eq.mp (if_neg hc) h
      refine lv_iload_n hx hb dX11_tell_25 rfl (lv_at hl 3 rfl) ?_
      refine lv_if_lt (tgt := 47) hx hb dX11_tell_26 (by decide) (fun hc => ?_) (fun hc => ?_)
      · have h := Eq.mp (if_pos hc) h
        refine lv_iconst (v := 0) hx hb dX11_tell_47 (by decide) ?_
        exact hm_zret X hr hlk hw zb_0 ⟨_, rfl, h⟩ dX11_tell_48
      · have h := Eq.mp (if_neg hc) h
        refine lv_iload_n hx hb dX11_tell_29 rfl (lv_at hl 3 rfl) ?_
        refine lv_iload hx hb dX11_tell_30 (lv_at hl 0 rfl) ?_
        refine lv_icmp_ge (tgt := 47) hx hb dX11_tell_32 (by decide) (fun hc => ?_) (fun hc => ?_)
        · have h := Eq.mp (if_pos hc) h
          refine lv_iconst (v := 0) hx hb dX11_tell_47 (by decide) ?_
          exact hm_zret X hr hlk hw zb_0 ⟨_, rfl, h⟩ dX11_tell_48
        · have h := Eq.mp (if_neg hc) h
          refine lv_iload_n hx hb dX11_tell_35 rfl (lv_at hl 4 rfl) ?_
          refine lv_iconst (v := 0) hx hb dX11_tell_36 (by decide) ?_
          refine lv_aload_n hx hb dX11_tell_37 rfl (lv_at hl 1 rfl) ?_
          refine hm_geti X hw lkM_13 LM_0 dX11_tell_38 ?_
          refine hm_calli hw (hm_runS (rest := []) hCl_true X hw (cM_within  h) ykM_within kw1583 rfl hl.1 rfl rfl rfl (Nat.le_of_ble_eq_true rfl) ⟨Nat.le_trans (Nat.le_of_ble_eq_true rfl) hR.1, Nat.le_trans (Nat.le_of_ble_eq_true rfl) hR.2⟩ ⟨Nat.zero_le _, Nat.zero_le _⟩ dX11_tell_41) (fun r6 u7 H locs hp hw => ?_)
          obtain ⟨rfl, h⟩ := hp
          refine lv_if_ne (tgt := 49) hx hb dX11_tell_44 (by decide) (fun hc => ?_) (fun hc => ?_)
          · have h := Eq.mp (if_neg hc) h
            refine lv_aload_n hx hb dX11_tell_49 rfl (lv_at hl 1 rfl) ?_
            refine hm_getr X hw lkM_32 LM_0 (b := 4) rfl dX11_tell_50 ?_
            refine lv_iload_n hx hb dX11_tell_53 rfl (lv_at hl 2 rfl) ?_
            obtain ⟨hi, h⟩ := h
            refine hm_iald X hw LM_4 hi dX11_tell_54 ?_
            refine lv_if_eq (tgt := 63) hx hb dX11_tell_55 (by decide) (fun hc => ?_) (fun hc => ?_)
            · have h := Eq.mp (if_pos hc) h
              exact wkM_tell_b63 X hr hlk hR   h hw (lv_sub hl [1, 2, 3, 4] rfl)
            · have h := Eq.mp (if_neg hc) h
              refine lv_aload_n hx hb dX11_tell_58 rfl (lv_at hl 1 rfl) ?_
              refine lv_iload_n hx hb dX11_tell_59 rfl (lv_at hl 2 rfl) ?_
              refine hm_callv hw (hm_runV (rest := []) hCl_true X hw (cM_blank  h) ykM_blank kw1334 rfl LM_0 rfl hl.1 rfl rfl rfl (Nat.le_of_ble_eq_true rfl) ⟨Nat.le_trans (Nat.le_of_ble_eq_true rfl) hR.1, Nat.le_trans (Nat.le_of_ble_eq_true rfl) hR.2⟩ ⟨Nat.zero_le _, Nat.zero_le _⟩ dX11_tell_60) (fun u9 H locs hp hw => ?_)
              obtain ⟨I8, rfl, h⟩ := hp
              exact wkM_tell_b63 X hr hlk hR   h hw (lv_sub hl [1, 2, 3, 4] rfl)
          · have h := Eq.mp (if_pos hc) h
            refine lv_iconst (v := 0) hx hb dX11_tell_47 (by decide) ?_
            exact hm_zret X hr hlk hw zb_0 ⟨_, rfl, h⟩ dX11_tell_48
  · have h := Eq.mp (if_pos hc) h
    refine lv_iconst (v := 0) hx hb dX11_tell_8 (by decide) ?_
    exact hm_zret X hr hlk hw zb_0 ⟨_, rfl, h⟩ dX11_tell_9

theorem wkM_cell_b36 {I : HI} {J : HJ} {x1 : Int32} {x2 : Int32} {t0 : Int32} {Q : Int32 → HI → Prop} (X : hX p m c s args RX11 cX11_cell 3) (hr : meth.sig.returnType = (some .int)) (hlk : meth.locks = false) (hR : 2 ≤ R.frames ∧ 46 ≤ R.locals)   : ∀ {ls : Array Slot} {H : Heap} {locs : List Loc}, M_cell_b36 I x1 x2 t0 Q → hW D cA z Ev0 (I, J, T, FM, LM) A s H locs → lv_has ls 3 [(0, .ref (z + 0)), (1, .int x1), (2, .int x2)] → W p l e R s m args below meth c H locs 0 0 (MQ below (va_Qi (pI J T FM LM Q) (hB D cA z A) A) args s 0 0 A) (F0 m 36 ls [.int t0, .ref (z + 0)]) := by
  have hx := X.1
  have hb := X.2.1
  intro ls H locs h hw hl
  unfold M_cell_b36 at h
  refine lv_iconst (v := 1) hx hb dX11_cell_36 (by decide) ?_
  refine hm_calli hw (hm_runV (rest := []) hCl_true X hw (cM_right  h) ykM_right kw1594 rfl LM_0 rfl hl.1 rfl rfl rfl (Nat.le_of_ble_eq_true rfl) ⟨Nat.le_trans (Nat.le_of_ble_eq_true rfl) hR.1, Nat.le_trans (Nat.le_of_ble_eq_true rfl) hR.2⟩ ⟨Nat.zero_le _, Nat.zero_le _⟩ dX11_cell_37) (fun r4 u6 H locs hp hw => ?_)
  obtain ⟨I5, rfl, h⟩ := hp
  refine lv_if_ne (tgt := 45) hx hb dX11_cell_40 (by decide) (fun hc => ?_) (fun hc => ?_)
  · have h := Eq.mp (if_neg hc) h
    refine lv_aload_n hx hb dX11_cell_45 rfl (lv_at hl 0 rfl) ?_
    refine hm_getr X hw lkM_35 LM_0 (b := 5) rfl dX11_cell_46 ?_
    refine lv_sipush (v := 1024) hx hb dX11_cell_49 (by decide) ?_
    refine lv_iload_n hx hb dX11_cell_52 rfl (lv_at hl 1 rfl) ?_
    refine lv_imul hx hb dX11_cell_53 ?_
    refine lv_iload_n hx hb dX11_cell_54 rfl (lv_at hl 2 rfl) ?_
    refine lv_iadd hx hb dX11_cell_55 ?_
    obtain ⟨hi, h⟩ := h
    refine hm_iald X hw LM_5 hi dX11_cell_56 ?_
    exact hm_iret X hr hlk hw ⟨_, rfl, h⟩ dX11_cell_57
  · have h := Eq.mp (if_pos hc) h
    refine lv_iconst (v := 0) hx hb dX11_cell_43 (by decide) ?_
    exact hm_iret X hr hlk hw ⟨_, rfl, h⟩ dX11_cell_44

theorem wkM_cell_b35 {I : HI} {J : HJ} {x1 : Int32} {x2 : Int32} {Q : Int32 → HI → Prop} (X : hX p m c s args RX11 cX11_cell 3) (hr : meth.sig.returnType = (some .int)) (hlk : meth.locks = false) (hR : 2 ≤ R.frames ∧ 46 ≤ R.locals)   : ∀ {ls : Array Slot} {H : Heap} {locs : List Loc}, M_cell_b35 I x1 x2 Q → hW D cA z Ev0 (I, J, T, FM, LM) A s H locs → lv_has ls 3 [(0, .ref (z + 0)), (1, .int x1), (2, .int x2)] → W p l e R s m args below meth c H locs 0 0 (MQ below (va_Qi (pI J T FM LM Q) (hB D cA z A) A) args s 0 0 A) (F0 m 35 ls [.ref (z + 0)]) := by
  have hx := X.1
  have hb := X.2.1
  intro ls H locs h hw hl
  unfold M_cell_b35 at h
  refine lv_iconst (v := 0) hx hb dX11_cell_35 (by decide) ?_
  exact wkM_cell_b36 X hr hlk hR   h hw (lv_sub hl [0, 1, 2] rfl)

theorem cM_cell {l : Launch} {D : va_G} {cA : Nat → ClassId} {z sz : Nat} {I : HI} {J : HJ} {x1 : Int32} {x2 : Int32} {Q : Int32 → HI → Prop}  (h : M_cell I x1 x2 Q) : Met l yX11_cell (hws0 yX11_cell cX11_cell 3 (some .int)) { frames := 2, cells := 0, slots := 0, locals := 46 } (hPc D cA z Ev0 (I, J, T, FM, LM) sz [.ref (z + 0), .int x1, .int x2]) (va_Qi (pI J T FM LM Q) (hB D cA z (hA z LM sz)) (hA z LM sz)) 0 0 (hA z LM sz) := by
  refine hm_met (I, J, T, FM, LM) [.ref (z + 0), .int x1, .int x2] rfl (by decide) (Nat.le_of_ble_eq_true rfl) ?_
  intro p e s m below meth c ls X hr hlk hnm hxt hsz hw hl
  have hl : lv_has ls 3 [(0, .ref (z + 0)), (1, .int x1), (2, .int x2)] := hl
  have hR : 2 ≤ ({ frames := 2, cells := 0, slots := 0, locals := 46 } : Room).frames ∧ 46 ≤ ({ frames := 2, cells := 0, slots := 0, locals := 46 } : Room).locals := ⟨Nat.le_refl _, Nat.le_refl _⟩
  generalize ({ frames := 2, cells := 0, slots := 0, locals := 46 } : Room) = R at hR ⊢
  clear hsz
  generalize (hA z LM sz) = A at hw ⊢
  have hx := X.1
  have hb := X.2.1
  unfold M_cell at h
  refine lv_aload_n hx hb dX11_cell_0 rfl (lv_at hl 0 rfl) ?_
  refine lv_iload_n hx hb dX11_cell_1 rfl (lv_at hl 1 rfl) ?_
  refine hm_calli hw (hm_runV (rest := []) hCl_true X hw (cM_isWearer  h) ykM_isWearer kw1590 rfl LM_0 rfl hl.1 rfl rfl rfl (Nat.le_of_ble_eq_true rfl) ⟨Nat.le_trans (Nat.le_of_ble_eq_true rfl) hR.1, Nat.le_trans (Nat.le_of_ble_eq_true rfl) hR.2⟩ ⟨Nat.zero_le _, Nat.zero_le _⟩ dX11_cell_2) (fun r1 u3 H locs hp hw => ?_)
  obtain ⟨I2, rfl, h⟩ := hp
  refine lv_if_eq (tgt := 43) hx hb dX11_cell_5 (by decide) (fun hc => ?_) (fun hc => ?_)
  · have h := Eq.mp (if_pos hc) h
    refine lv_iconst (v := 0) hx hb dX11_cell_43 (by decide) ?_
    exact hm_iret X hr hlk hw ⟨_, rfl, h⟩ dX11_cell_44
  · have h := Eq.mp (if_neg hc) h
    refine lv_aload_n hx hb dX11_cell_8 rfl (lv_at hl 0 rfl) ?_
    refine lv_aload_n hx hb dX11_cell_9 rfl (lv_at hl 0 rfl) ?_
    refine hm_getr X hw lkM_32 LM_0 (b := 4) rfl dX11_cell_10 ?_
    refine lv_iload_n hx hb dX11_cell_13 rfl (lv_at hl 1 rfl) ?_
    obtain ⟨hi, h⟩ := h
    refine hm_iald X hw LM_4 hi dX11_cell_14 ?_
    refine lv_if_ne (tgt := 35) hx hb dX11_cell_15 (by decide) (fun hc => ?_) (fun hc => ?_)
    · have h := Eq.mp (if_neg hc) h
      exact wkM_cell_b35 X hr hlk hR   h hw (lv_sub hl [0, 1, 2] rfl)
    · have h := Eq.mp (if_pos hc) h
      refine lv_iload_n hx hb dX11_cell_18 rfl (lv_at hl 2 rfl) ?_
      refine lv_if_lt (tgt := 35) hx hb dX11_cell_19 (by decide) (fun hc => ?_) (fun hc => ?_)
      · have h := Eq.mp (if_pos hc) h
        exact wkM_cell_b35 X hr hlk hR   h hw (lv_sub hl [0, 1, 2] rfl)
      · have h := Eq.mp (if_neg hc) h
        refine lv_iload_n hx hb dX11_cell_22 rfl (lv_at hl 2 rfl) ?_
        refine lv_aload_n hx hb dX11_cell_23 rfl (lv_at hl 0 rfl) ?_
        refine lv_iload_n hx hb dX11_cell_24 rfl (lv_at hl 1 rfl) ?_
        refine hm_calli hw (hm_runV (rest := [_, _]) hCl_true X hw (cM_viewsOf  h) ykM_viewsOf kw1338 rfl LM_0 rfl hl.1 rfl rfl rfl (Nat.le_of_ble_eq_true rfl) ⟨Nat.le_trans (Nat.le_of_ble_eq_true rfl) hR.1, Nat.le_trans (Nat.le_of_ble_eq_true rfl) hR.2⟩ ⟨Nat.zero_le _, Nat.zero_le _⟩ dX11_cell_25) (fun r7 u8 H locs hp hw => ?_)
        obtain ⟨rfl, h⟩ := hp
        refine lv_icmp_ge (tgt := 35) hx hb dX11_cell_28 (by decide) (fun hc => ?_) (fun hc => ?_)
        · have h := Eq.mp (if_pos hc) h
          exact wkM_cell_b35 X hr hlk hR   h hw (lv_sub hl [0, 1, 2] rfl)
        · have h := Eq.mp (if_neg hc) h
          refine lv_iconst (v := 1) hx hb dX11_cell_31 (by decide) ?_
          refine lv_goto (tgt := 36) hx hb dX11_cell_32 (by decide) ?_
          exact wkM_cell_b36 X hr hlk hR   h hw (lv_sub hl [0, 1, 2] rfl)

theorem cM_isRow {l : Launch} {D : va_G} {cA : Nat → ClassId} {z sz : Nat} {I : HI} {J : HJ} {x1 : Int32} {Q : Int32 → HI → Prop}  (h : M_isRow I x1 Q) : Met l yX11_isRow (hws0 yX11_isRow cX11_isRow 2 (some .boolean)) { frames := 1, cells := 0, slots := 0, locals := 22 } (hPc D cA z Ev0 (I, J, T, FM, LM) sz [.ref (z + 0), .int x1]) (va_Qi (pI J T FM LM Q) (hB D cA z (hA z LM sz)) (hA z LM sz)) 0 0 (hA z LM sz) := by
  refine hm_met (I, J, T, FM, LM) [.ref (z + 0), .int x1] rfl (by decide) (Nat.le_of_ble_eq_true rfl) ?_
  intro p e s m below meth c ls X hr hlk hnm hxt hsz hw hl
  have hl : lv_has ls 2 [(0, .ref (z + 0)), (1, .int x1)] := hl
  have hR : 1 ≤ ({ frames := 1, cells := 0, slots := 0, locals := 22 } : Room).frames ∧ 22 ≤ ({ frames := 1, cells := 0, slots := 0, locals := 22 } : Room).locals := ⟨Nat.le_refl _, Nat.le_refl _⟩
  generalize ({ frames := 1, cells := 0, slots := 0, locals := 22 } : Room) = R at hR ⊢
  clear hsz
  generalize (hA z LM sz) = A at hw ⊢
  have hx := X.1
  have hb := X.2.1
  unfold M_isRow at h
  refine lv_aload_n hx hb dX11_isRow_0 rfl (lv_at hl 0 rfl) ?_
  refine lv_iload_n hx hb dX11_isRow_1 rfl (lv_at hl 1 rfl) ?_
  refine lv_if_lt (tgt := 17) hx hb dX11_isRow_2 (by decide) (fun hc => ?_) (fun hc => ?_)
  · have h := Eq.mp (if_pos hc) h
    refine lv_iconst (v := 0) hx hb dX11_isRow_17 (by decide) ?_
    refine lv_iconst (v := 1) hx hb dX11_isRow_18 (by decide) ?_
    refine hm_calli hw (hm_runV (rest := []) hCl_true X hw (cM_right  h) ykM_right kw1594 rfl LM_0 rfl hl.1 rfl rfl rfl (Nat.le_of_ble_eq_true rfl) ⟨Nat.le_trans (Nat.le_of_ble_eq_true rfl) hR.1, Nat.le_trans (Nat.le_of_ble_eq_true rfl) hR.2⟩ ⟨Nat.zero_le _, Nat.zero_le _⟩ dX11_isRow_19) (fun r1 u3 H locs hp hw => ?_)
    obtain ⟨I2, rfl, h⟩ := hp
    obtain ⟨hz, h⟩ := h
    exact hm_zret X hr hlk hw hz ⟨_, rfl, h⟩ dX11_isRow_22
  · have h := Eq.mp (if_neg hc) h
    refine lv_iload_n hx hb dX11_isRow_5 rfl (lv_at hl 1 rfl) ?_
    refine lv_aload_n hx hb dX11_isRow_6 rfl (lv_at hl 0 rfl) ?_
    refine hm_geti X hw lkM_16 LM_0 dX11_isRow_7 ?_
    refine lv_icmp_ge (tgt := 17) hx hb dX11_isRow_10 (by decide) (fun hc => ?_) (fun hc => ?_)
    · have h := Eq.mp (if_pos hc) h
      refine lv_iconst (v := 0) hx hb dX11_isRow_17 (by decide) ?_
      refine lv_iconst (v := 1) hx hb dX11_isRow_18 (by decide) ?_
      refine hm_calli hw (hm_runV (rest := []) hCl_true X hw (cM_right  h) ykM_right kw1594 rfl LM_0 rfl hl.1 rfl rfl rfl (Nat.le_of_ble_eq_true rfl) ⟨Nat.le_trans (Nat.le_of_ble_eq_true rfl) hR.1, Nat.le_trans (Nat.le_of_ble_eq_true rfl) hR.2⟩ ⟨Nat.zero_le _, Nat.zero_le _⟩ dX11_isRow_19) (fun r4 u6 H locs hp hw => ?_)
      obtain ⟨I5, rfl, h⟩ := hp
      obtain ⟨hz, h⟩ := h
      exact hm_zret X hr hlk hw hz ⟨_, rfl, h⟩ dX11_isRow_22
    · have h := Eq.mp (if_neg hc) h
      refine lv_iconst (v := 1) hx hb dX11_isRow_13 (by decide) ?_
      refine lv_goto (tgt := 18) hx hb dX11_isRow_14 (by decide) ?_
      refine lv_iconst (v := 1) hx hb dX11_isRow_18 (by decide) ?_
      refine hm_calli hw (hm_runV (rest := []) hCl_true X hw (cM_right  h) ykM_right kw1594 rfl LM_0 rfl hl.1 rfl rfl rfl (Nat.le_of_ble_eq_true rfl) ⟨Nat.le_trans (Nat.le_of_ble_eq_true rfl) hR.1, Nat.le_trans (Nat.le_of_ble_eq_true rfl) hR.2⟩ ⟨Nat.zero_le _, Nat.zero_le _⟩ dX11_isRow_19) (fun r7 u9 H locs hp hw => ?_)
      obtain ⟨I8, rfl, h⟩ := hp
      obtain ⟨hz, h⟩ := h
      exact hm_zret X hr hlk hw hz ⟨_, rfl, h⟩ dX11_isRow_22

theorem wkM_in_l107 {J : HJ} {x1 : Int32} {x2 : Int32} {Q : Int32 → HI → Prop} (X : hX p m c s args RX11 cX11_in 5) (hr : meth.sig.returnType = (some .int)) (hlk : meth.locks = false) (hR : 6 ≤ R.frames ∧ 139 ≤ R.locals)   : ∀ (n : Nat) (I : HI) (x4 : Int32) {ls : Array Slot} {H : Heap} {locs : List Loc}, M_in_l107 x1 x2 Q n I x4 → hW D cA z Ev0 (I, J, T, FM, LM) A s H locs → lv_has ls 5 [(0, .ref (z + 0)), (1, .int x1), (2, .int x2), (4, .int x4)] → W p l e R s m args below meth c H locs 0 0 (MQ below (va_Qi (pI J T FM LM Q) (hB D cA z A) A) args s 0 0 A) (F0 m 107 ls []) := by
  have hx := X.1
  have hb := X.2.1
  intro n
  induction n with
  | zero => intro I x4 ls H locs h; exact False.elim h
  | succ n ih =>
    intro I x4 ls H locs h hw hl
    rw [M_in_l107] at h
    refine lv_iload hx hb dX11_in_107 (lv_at hl 3 rfl) ?_
    refine lv_aload_n hx hb dX11_in_109 rfl (lv_at hl 0 rfl) ?_
    refine hm_geti X hw lkM_7 LM_0 dX11_in_110 ?_
    refine lv_icmp_ge (tgt := 141) hx hb dX11_in_113 (by decide) (fun hc => ?_) (fun hc => ?_)
    · have h := Eq.mp (if_pos hc) h
      refine lv_aload_n hx hb dX11_in_141 rfl (lv_at hl 0 rfl) ?_
      refine lv_iload_n hx hb dX11_in_142 rfl (lv_at hl 2 rfl) ?_
      refine hm_calli hw (hm_runV (rest := []) hCl_true X hw (cM_viewOf  h) ykM_viewOf kw1741 rfl LM_0 rfl hl.1 rfl rfl rfl (Nat.le_of_ble_eq_true rfl) ⟨Nat.le_trans (Nat.le_of_ble_eq_true rfl) hR.1, Nat.le_trans (Nat.le_of_ble_eq_true rfl) hR.2⟩ ⟨Nat.zero_le _, Nat.zero_le _⟩ dX11_in_143) (fun r14 u15 H locs hp hw => ?_)
      obtain ⟨rfl, h⟩ := hp
      exact hm_iret X hr hlk hw ⟨_, rfl, h⟩ dX11_in_146
    · have h := Eq.mp (if_neg hc) h
      refine lv_aload_n hx hb dX11_in_116 rfl (lv_at hl 0 rfl) ?_
      refine hm_getr X hw lkM_78 LM_0 (b := 18) rfl dX11_in_117 ?_
      refine lv_iload hx hb dX11_in_120 (lv_at hl 3 rfl) ?_
      refine lv_aload_n hx hb dX11_in_122 rfl (lv_at hl 0 rfl) ?_
      refine hm_getr X hw lkM_91 LM_0 (b := 22) rfl dX11_in_123 ?_
      refine lv_bipush (v := 8) hx hb dX11_in_126 (by decide) ?_
      refine lv_iload_n hx hb dX11_in_128 rfl (lv_at hl 1 rfl) ?_
      refine lv_imul hx hb dX11_in_129 ?_
      refine lv_iload hx hb dX11_in_130 (lv_at hl 3 rfl) ?_
      refine lv_iadd hx hb dX11_in_132 ?_
      obtain ⟨hi, h⟩ := h
      refine hm_iald X hw LM_22 hi dX11_in_133 ?_
      obtain ⟨hi, h⟩ := h
      refine hm_iast X hw LM_18 hi dX11_in_134 (fun H locs hw => ?_)
      refine lv_iinc (v := x4 + 1) (lv' := [(4, _), (0, _), (1, _), (2, _)]) hx hb dX11_in_135 hl (k := 3) rfl rfl (by decide) rfl (fun ls hl => ?_)
      refine lv_goto (tgt := 107) hx hb dX11_in_138 (by decide) ?_
      exact ih _ _ h hw (lv_sub hl [1, 2, 3, 0] rfl)

theorem wkM_in_b69 {I : HI} {J : HJ} {x1 : Int32} {x2 : Int32} {x3 : Int32} {t0 : Int32} {Q : Int32 → HI → Prop} (X : hX p m c s args RX11 cX11_in 5) (hr : meth.sig.returnType = (some .int)) (hlk : meth.locks = false) (hR : 6 ≤ R.frames ∧ 139 ≤ R.locals)   : ∀ {ls : Array Slot} {H : Heap} {locs : List Loc}, M_in_b69 I x1 x2 x3 t0 Q → hW D cA z Ev0 (I, J, T, FM, LM) A s H locs → lv_has ls 5 [(0, .ref (z + 0)), (1, .int x1), (2, .int x2), (3, .int x3)] → W p l e R s m args below meth c H locs 0 0 (MQ below (va_Qi (pI J T FM LM Q) (hB D cA z A) A) args s 0 0 A) (F0 m 69 ls [.int t0, .ref (z + 0)]) := by
  have hx := X.1
  have hb := X.2.1
  intro ls H locs h hw hl
  unfold M_in_b69 at h
  refine lv_iconst (v := 1) hx hb dX11_in_69 (by decide) ?_
  refine hm_calli hw (hm_runV (rest := []) hCl_true X hw (cM_right  h) ykM_right kw1594 rfl LM_0 rfl hl.1 rfl rfl rfl (Nat.le_of_ble_eq_true rfl) ⟨Nat.le_trans (Nat.le_of_ble_eq_true rfl) hR.1, Nat.le_trans (Nat.le_of_ble_eq_true rfl) hR.2⟩ ⟨Nat.zero_le _, Nat.zero_le _⟩ dX11_in_70) (fun r7 u9 H locs hp hw => ?_)
  obtain ⟨I8, rfl, h⟩ := hp
  refine lv_if_ne (tgt := 78) hx hb dX11_in_73 (by decide) (fun hc => ?_) (fun hc => ?_)
  · have h := Eq.mp (if_neg hc) h
    refine lv_aload_n hx hb dX11_in_78 rfl (lv_at hl 0 rfl) ?_
    refine hm_callv hw (hm_runV (rest := []) hCl_true X hw (cM_worksAll  h) ykM_worksAll kw1725 rfl LM_0 rfl hl.1 rfl rfl rfl (Nat.le_of_ble_eq_true rfl) ⟨Nat.le_trans (Nat.le_of_ble_eq_true rfl) hR.1, Nat.le_trans (Nat.le_of_ble_eq_true rfl) hR.2⟩ ⟨Nat.zero_le _, Nat.zero_le _⟩ dX11_in_79) (fun u11 H locs hp hw => ?_)
    obtain ⟨I10, rfl, h⟩ := hp
    refine lv_iload_n hx hb dX11_in_82 rfl (lv_at hl 3 rfl) ?_
    refine lv_iconst (v := 1) hx hb dX11_in_83 (by decide) ?_
    refine lv_icmp_ne (tgt := 99) hx hb dX11_in_84 (by decide) (fun hc => ?_) (fun hc => ?_)
    · have h := Eq.mp (if_neg hc) h
      refine lv_aload_n hx hb dX11_in_99 rfl (lv_at hl 0 rfl) ?_
      refine lv_iload_n hx hb dX11_in_100 rfl (lv_at hl 1 rfl) ?_
      refine hm_callv hw (hm_runV (rest := []) hCl_true X hw (cM_wears  h) ykM_wears kw1733 rfl LM_0 rfl hl.1 rfl rfl rfl (Nat.le_of_ble_eq_true rfl) ⟨Nat.le_trans (Nat.le_of_ble_eq_true rfl) hR.1, Nat.le_trans (Nat.le_of_ble_eq_true rfl) hR.2⟩ ⟨Nat.zero_le _, Nat.zero_le _⟩ dX11_in_101) (fun u13 H locs hp hw => ?_)
      obtain ⟨I12, rfl, h⟩ := hp
      refine lv_iconst (v := 0) hx hb dX11_in_104 (by decide) ?_
      refine lv_istore (lv' := [(4, _), (0, _), (1, _), (2, _), (3, _)]) hx hb dX11_in_105 hl (by decide) rfl (fun ls hl => ?_)
      obtain ⟨n2, h⟩ := h
      exact wkM_in_l107 X hr hlk hR   n2 _ _ h hw (lv_sub hl [1, 2, 3, 0] rfl)
    · have h := Eq.mp (if_pos hc) h
      refine lv_aload_n hx hb dX11_in_87 rfl (lv_at hl 0 rfl) ?_
      refine hm_getr X hw lkM_91 LM_0 (b := 22) rfl dX11_in_88 ?_
      refine lv_bipush (v := 8) hx hb dX11_in_91 (by decide) ?_
      refine lv_iload_n hx hb dX11_in_93 rfl (lv_at hl 1 rfl) ?_
      refine lv_imul hx hb dX11_in_94 ?_
      refine lv_iload_n hx hb dX11_in_95 rfl (lv_at hl 2 rfl) ?_
      refine lv_iadd hx hb dX11_in_96 ?_
      obtain ⟨hi, h⟩ := h
      refine hm_iald X hw LM_22 hi dX11_in_97 ?_
      exact hm_iret X hr hlk hw ⟨_, rfl, h⟩ dX11_in_98
  · have h := Eq.mp (if_pos hc) h
    refine lv_iconst (v := 0) hx hb dX11_in_76 (by decide) ?_
    exact hm_iret X hr hlk hw ⟨_, rfl, h⟩ dX11_in_77

theorem wkM_in_b40 {I : HI} {J : HJ} {x1 : Int32} {x2 : Int32} {x3 : Int32} {t0 : Int32} {Q : Int32 → HI → Prop} (X : hX p m c s args RX11 cX11_in 5) (hr : meth.sig.returnType = (some .int)) (hlk : meth.locks = false) (hR : 6 ≤ R.frames ∧ 139 ≤ R.locals)   : ∀ {ls : Array Slot} {H : Heap} {locs : List Loc}, M_in_b40 I x1 x2 x3 t0 Q → hW D cA z Ev0 (I, J, T, FM, LM) A s H locs → lv_has ls 5 [(0, .ref (z + 0)), (1, .int x1), (2, .int x2), (3, .int x3)] → W p l e R s m args below meth c H locs 0 0 (MQ below (va_Qi (pI J T FM LM Q) (hB D cA z A) A) args s 0 0 A) (F0 m 40 ls [.int t0, .ref (z + 0)]) := by
  have hx := X.1
  have hb := X.2.1
  intro ls H locs h hw hl
  unfold M_in_b40 at h
  refine lv_iconst (v := 1) hx hb dX11_in_40 (by decide) ?_
  refine hm_calli hw (hm_runV (rest := []) hCl_true X hw (cM_right  h) ykM_right kw1594 rfl LM_0 rfl hl.1 rfl rfl rfl (Nat.le_of_ble_eq_true rfl) ⟨Nat.le_trans (Nat.le_of_ble_eq_true rfl) hR.1, Nat.le_trans (Nat.le_of_ble_eq_true rfl) hR.2⟩ ⟨Nat.zero_le _, Nat.zero_le _⟩ dX11_in_41) (fun r4 u6 H locs hp hw => ?_)
  obtain ⟨I5, rfl, h⟩ := hp
  refine lv_if_eq (tgt := 76) hx hb dX11_in_44 (by decide) (fun hc => ?_) (fun hc => ?_)
  · have h := Eq.mp (if_pos hc) h
    refine lv_iconst (v := 0) hx hb dX11_in_76 (by decide) ?_
    exact hm_iret X hr hlk hw ⟨_, rfl, h⟩ dX11_in_77
  · have h := Eq.mp (if_neg hc) h
    refine lv_aload_n hx hb dX11_in_47 rfl (lv_at hl 0 rfl) ?_
    refine lv_iload_n hx hb dX11_in_48 rfl (lv_at hl 3 rfl) ?_
    refine lv_iconst (v := 1) hx hb dX11_in_49 (by decide) ?_
    refine lv_icmp_eq (tgt := 64) hx hb dX11_in_50 (by decide) (fun hc => ?_) (fun hc => ?_)
    · have h := Eq.mp (if_pos hc) h
      refine lv_iconst (v := 1) hx hb dX11_in_64 (by decide) ?_
      refine lv_goto (tgt := 69) hx hb dX11_in_65 (by decide) ?_
      exact wkM_in_b69 X hr hlk hR   h hw (lv_sub hl [0, 1, 2, 3] rfl)
    · have h := Eq.mp (if_neg hc) h
      refine lv_aload_n hx hb dX11_in_53 rfl (lv_at hl 0 rfl) ?_
      refine lv_iload_n hx hb dX11_in_54 rfl (lv_at hl 2 rfl) ?_
      refine hm_calli hw (hm_runV (rest := [_]) hCl_true X hw (cM_viewsOf  h) ykM_viewsOf kw1338 rfl LM_0 rfl hl.1 rfl rfl rfl (Nat.le_of_ble_eq_true rfl) ⟨Nat.le_trans (Nat.le_of_ble_eq_true rfl) hR.1, Nat.le_trans (Nat.le_of_ble_eq_true rfl) hR.2⟩ ⟨Nat.zero_le _, Nat.zero_le _⟩ dX11_in_55) (fun r16 u17 H locs hp hw => ?_)
      obtain ⟨rfl, h⟩ := hp
      refine lv_sipush (v := 1024) hx hb dX11_in_58 (by decide) ?_
      refine lv_icmp_gt (tgt := 68) hx hb dX11_in_61 (by decide) (fun hc => ?_) (fun hc => ?_)
      · have h := Eq.mp (if_pos hc) h
        refine lv_iconst (v := 0) hx hb dX11_in_68 (by decide) ?_
        exact wkM_in_b69 X hr hlk hR   h hw (lv_sub hl [0, 1, 2, 3] rfl)
      · have h := Eq.mp (if_neg hc) h
        refine lv_iconst (v := 1) hx hb dX11_in_64 (by decide) ?_
        refine lv_goto (tgt := 69) hx hb dX11_in_65 (by decide) ?_
        exact wkM_in_b69 X hr hlk hR   h hw (lv_sub hl [0, 1, 2, 3] rfl)

theorem wkM_in_b39 {I : HI} {J : HJ} {x1 : Int32} {x2 : Int32} {x3 : Int32} {Q : Int32 → HI → Prop} (X : hX p m c s args RX11 cX11_in 5) (hr : meth.sig.returnType = (some .int)) (hlk : meth.locks = false) (hR : 6 ≤ R.frames ∧ 139 ≤ R.locals)   : ∀ {ls : Array Slot} {H : Heap} {locs : List Loc}, M_in_b39 I x1 x2 x3 Q → hW D cA z Ev0 (I, J, T, FM, LM) A s H locs → lv_has ls 5 [(0, .ref (z + 0)), (1, .int x1), (2, .int x2), (3, .int x3)] → W p l e R s m args below meth c H locs 0 0 (MQ below (va_Qi (pI J T FM LM Q) (hB D cA z A) A) args s 0 0 A) (F0 m 39 ls [.ref (z + 0)]) := by
  have hx := X.1
  have hb := X.2.1
  intro ls H locs h hw hl
  unfold M_in_b39 at h
  refine lv_iconst (v := 0) hx hb dX11_in_39 (by decide) ?_
  exact wkM_in_b40 X hr hlk hR   h hw (lv_sub hl [0, 1, 2, 3] rfl)

theorem cM_in {l : Launch} {D : va_G} {cA : Nat → ClassId} {z sz : Nat} {I : HI} {J : HJ} {x1 : Int32} {x2 : Int32} {x3 : Int32} {Q : Int32 → HI → Prop}  (h : M_in I x1 x2 x3 Q) : Met l yX11_in (hws0 yX11_in cX11_in 5 (some .int)) { frames := 6, cells := 0, slots := 0, locals := 139 } (hPc D cA z Ev0 (I, J, T, FM, LM) sz [.ref (z + 0), .int x1, .int x2, .int x3]) (va_Qi (pI J T FM LM Q) (hB D cA z (hA z LM sz)) (hA z LM sz)) 0 0 (hA z LM sz) := by
  refine hm_met (I, J, T, FM, LM) [.ref (z + 0), .int x1, .int x2, .int x3] rfl (by decide) (Nat.le_of_ble_eq_true rfl) ?_
  intro p e s m below meth c ls X hr hlk hnm hxt hsz hw hl
  have hl : lv_has ls 5 [(0, .ref (z + 0)), (1, .int x1), (2, .int x2), (3, .int x3)] := hl
  have hR : 6 ≤ ({ frames := 6, cells := 0, slots := 0, locals := 139 } : Room).frames ∧ 139 ≤ ({ frames := 6, cells := 0, slots := 0, locals := 139 } : Room).locals := ⟨Nat.le_refl _, Nat.le_refl _⟩
  generalize ({ frames := 6, cells := 0, slots := 0, locals := 139 } : Room) = R at hR ⊢
  clear hsz
  generalize (hA z LM sz) = A at hw ⊢
  have hx := X.1
  have hb := X.2.1
  unfold M_in at h
  refine lv_aload_n hx hb dX11_in_0 rfl (lv_at hl 0 rfl) ?_
  refine lv_iconst (v := 0) hx hb dX11_in_1 (by decide) ?_
  refine hm_puti X hw lkM_174 LM_0 rfl rfl dX11_in_2 (fun H locs hw => ?_)
  refine lv_aload_n hx hb dX11_in_5 rfl (lv_at hl 0 rfl) ?_
  refine lv_iload_n hx hb dX11_in_6 rfl (lv_at hl 1 rfl) ?_
  refine hm_calli hw (hm_runV (rest := []) hCl_true X hw (cM_isRow  h) ykM_isRow kw1721 rfl LM_0 rfl hl.1 rfl rfl rfl (Nat.le_of_ble_eq_true rfl) ⟨Nat.le_trans (Nat.le_of_ble_eq_true rfl) hR.1, Nat.le_trans (Nat.le_of_ble_eq_true rfl) hR.2⟩ ⟨Nat.zero_le _, Nat.zero_le _⟩ dX11_in_7) (fun r1 u3 H locs hp hw => ?_)
  obtain ⟨I2, rfl, h⟩ := hp
  refine lv_if_eq (tgt := 76) hx hb dX11_in_10 (by decide) (fun hc => ?_) (fun hc => ?_)
  · have h := Eq.mp (if_pos hc) h
    refine lv_iconst (v := 0) hx hb dX11_in_76 (by decide) ?_
    exact hm_iret X hr hlk hw ⟨_, rfl, h⟩ dX11_in_77
  · have h := Eq.mp (if_neg hc) h
    refine lv_aload_n hx hb dX11_in_13 rfl (lv_at hl 0 rfl) ?_
    refine lv_iload_n hx hb dX11_in_14 rfl (lv_at hl 2 rfl) ?_
    refine lv_if_lt (tgt := 39) hx hb dX11_in_15 (by decide) (fun hc => ?_) (fun hc => ?_)
    · have h := Eq.mp (if_pos hc) h
      exact wkM_in_b39 X hr hlk hR   h hw (lv_sub hl [0, 1, 2, 3] rfl)
    · have h := Eq.mp (if_neg hc) h
      refine lv_iload_n hx hb dX11_in_18 rfl (lv_at hl 2 rfl) ?_
      refine lv_aload_n hx hb dX11_in_19 rfl (lv_at hl 0 rfl) ?_
      refine hm_geti X hw lkM_7 LM_0 dX11_in_20 ?_
      refine lv_icmp_ge (tgt := 39) hx hb dX11_in_23 (by decide) (fun hc => ?_) (fun hc => ?_)
      · have h := Eq.mp (if_pos hc) h
        exact wkM_in_b39 X hr hlk hR   h hw (lv_sub hl [0, 1, 2, 3] rfl)
      · have h := Eq.mp (if_neg hc) h
        refine lv_iload_n hx hb dX11_in_26 rfl (lv_at hl 3 rfl) ?_
        refine lv_if_eq (tgt := 35) hx hb dX11_in_27 (by decide) (fun hc => ?_) (fun hc => ?_)
        · have h := Eq.mp (if_pos hc) h
          refine lv_iconst (v := 1) hx hb dX11_in_35 (by decide) ?_
          refine lv_goto (tgt := 40) hx hb dX11_in_36 (by decide) ?_
          exact wkM_in_b40 X hr hlk hR   h hw (lv_sub hl [0, 1, 2, 3] rfl)
        · have h := Eq.mp (if_neg hc) h
          refine lv_iload_n hx hb dX11_in_30 rfl (lv_at hl 3 rfl) ?_
          refine lv_iconst (v := 1) hx hb dX11_in_31 (by decide) ?_
          refine lv_icmp_ne (tgt := 39) hx hb dX11_in_32 (by decide) (fun hc => ?_) (fun hc => ?_)
          · have h := Eq.mp (if_neg hc) h
            exact wkM_in_b39 X hr hlk hR   h hw (lv_sub hl [0, 1, 2, 3] rfl)
          · have h := Eq.mp (if_pos hc) h
            refine lv_iconst (v := 1) hx hb dX11_in_35 (by decide) ?_
            refine lv_goto (tgt := 40) hx hb dX11_in_36 (by decide) ?_
            exact wkM_in_b40 X hr hlk hR   h hw (lv_sub hl [0, 1, 2, 3] rfl)

theorem wkM_row_b95 {I : HI} {J : HJ} {t0 : Int32} {Q : Int32 → HI → Prop} (X : hX p m c s args RX11 cX11_row 4) (hr : meth.sig.returnType = (some .int)) (hlk : meth.locks = false) (hR : 6 ≤ R.frames ∧ 139 ≤ R.locals)   : ∀ {ls : Array Slot} {H : Heap} {locs : List Loc}, M_row_b95 I t0 Q → hW D cA z Ev0 (I, J, T, FM, LM) A s H locs → lv_has ls 4 [] → W p l e R s m args below meth c H locs 0 0 (MQ below (va_Qi (pI J T FM LM Q) (hB D cA z A) A) args s 0 0 A) (F0 m 95 ls [.int t0]) := by
  have hx := X.1
  have hb := X.2.1
  intro ls H locs h hw hl
  unfold M_row_b95 at h
  refine lv_istore_n (lv' := [(3, _)]) hx hb dX11_row_95 rfl hl (by decide) rfl (fun ls hl => ?_)
  refine lv_iload_n hx hb dX11_row_96 rfl (lv_at hl 0 rfl) ?_
  refine lv_if_eq (tgt := 104) hx hb dX11_row_97 (by decide) (fun hc => ?_) (fun hc => ?_)
  · have h := Eq.mp (if_pos hc) h
    refine lv_iconst (v := 0) hx hb dX11_row_104 (by decide) ?_
    exact hm_iret X hr hlk hw ⟨_, rfl, h⟩ dX11_row_105
  · have h := Eq.mp (if_neg hc) h
    refine lv_iconst (v := 1) hx hb dX11_row_100 (by decide) ?_
    refine lv_goto (tgt := 105) hx hb dX11_row_101 (by decide) ?_
    exact hm_iret X hr hlk hw ⟨_, rfl, h⟩ dX11_row_105

theorem wkM_row_b28 {I : HI} {J : HJ} {x1 : Int32} {x2 : Int32} {t0 : Int32} {Q : Int32 → HI → Prop} (X : hX p m c s args RX11 cX11_row 4) (hr : meth.sig.returnType = (some .int)) (hlk : meth.locks = false) (hR : 6 ≤ R.frames ∧ 139 ≤ R.locals)   : ∀ {ls : Array Slot} {H : Heap} {locs : List Loc}, M_row_b28 I x1 x2 t0 Q → hW D cA z Ev0 (I, J, T, FM, LM) A s H locs → lv_has ls 4 [(0, .ref (z + 0)), (1, .int x1), (2, .int x2)] → W p l e R s m args below meth c H locs 0 0 (MQ below (va_Qi (pI J T FM LM Q) (hB D cA z A) A) args s 0 0 A) (F0 m 28 ls [.int t0, .ref (z + 0)]) := by
  have hx := X.1
  have hb := X.2.1
  intro ls H locs h hw hl
  unfold M_row_b28 at h
  refine lv_iconst (v := 1) hx hb dX11_row_28 (by decide) ?_
  refine hm_calli hw (hm_runV (rest := []) hCl_true X hw (cM_right  h) ykM_right kw1594 rfl LM_0 rfl hl.1 rfl rfl rfl (Nat.le_of_ble_eq_true rfl) ⟨Nat.le_trans (Nat.le_of_ble_eq_true rfl) hR.1, Nat.le_trans (Nat.le_of_ble_eq_true rfl) hR.2⟩ ⟨Nat.zero_le _, Nat.zero_le _⟩ dX11_row_29) (fun r4 u6 H locs hp hw => ?_)
  obtain ⟨I5, rfl, h⟩ := hp
  refine lv_if_ne (tgt := 37) hx hb dX11_row_32 (by decide) (fun hc => ?_) (fun hc => ?_)
  · have h := Eq.mp (if_neg hc) h
    refine lv_aload_n hx hb dX11_row_37 rfl (lv_at hl 0 rfl) ?_
    refine hm_callv hw (hm_runV (rest := []) hCl_true X hw (cM_worksAll  h) ykM_worksAll kw1725 rfl LM_0 rfl hl.1 rfl rfl rfl (Nat.le_of_ble_eq_true rfl) ⟨Nat.le_trans (Nat.le_of_ble_eq_true rfl) hR.1, Nat.le_trans (Nat.le_of_ble_eq_true rfl) hR.2⟩ ⟨Nat.zero_le _, Nat.zero_le _⟩ dX11_row_38) (fun u8 H locs hp hw => ?_)
    obtain ⟨I7, rfl, h⟩ := hp
    refine lv_iload_n hx hb dX11_row_41 rfl (lv_at hl 2 rfl) ?_
    refine lv_iconst (v := 2) hx hb dX11_row_42 (by decide) ?_
    refine lv_icmp_ge (tgt := 66) hx hb dX11_row_43 (by decide) (fun hc => ?_) (fun hc => ?_)
    · have h := Eq.mp (if_pos hc) h
      refine lv_iload_n hx hb dX11_row_66 rfl (lv_at hl 2 rfl) ?_
      refine lv_iconst (v := 2) hx hb dX11_row_67 (by decide) ?_
      refine lv_icmp_ne (tgt := 79) hx hb dX11_row_68 (by decide) (fun hc => ?_) (fun hc => ?_)
      · have h := Eq.mp (if_neg hc) h
        refine lv_aload_n hx hb dX11_row_79 rfl (lv_at hl 0 rfl) ?_
        refine lv_aload_n hx hb dX11_row_80 rfl (lv_at hl 0 rfl) ?_
        refine hm_getr X hw lkM_84 LM_0 (b := 20) rfl dX11_row_81 ?_
        refine lv_iload_n hx hb dX11_row_84 rfl (lv_at hl 1 rfl) ?_
        obtain ⟨hi, h⟩ := h
        refine hm_iald X hw LM_20 hi dX11_row_85 ?_
        refine lv_aload_n hx hb dX11_row_86 rfl (lv_at hl 0 rfl) ?_
        refine hm_getr X hw lkM_87 LM_0 (b := 21) rfl dX11_row_87 ?_
        refine lv_iload_n hx hb dX11_row_90 rfl (lv_at hl 1 rfl) ?_
        obtain ⟨hi, h⟩ := h
        refine hm_iald X hw LM_21 hi dX11_row_91 ?_
        refine hm_calli hw (hm_runV (rest := []) hCl_true X hw (cM_isWon  h) ykM_isWon kw1772 rfl LM_0 rfl hl.1 rfl rfl rfl (Nat.le_of_ble_eq_true rfl) ⟨Nat.le_trans (Nat.le_of_ble_eq_true rfl) hR.1, Nat.le_trans (Nat.le_of_ble_eq_true rfl) hR.2⟩ ⟨Nat.zero_le _, Nat.zero_le _⟩ dX11_row_92) (fun r9 u10 H locs hp hw => ?_)
        obtain ⟨rfl, h⟩ := hp
        exact wkM_row_b95 X hr hlk hR   h hw (lv_sub hl [] rfl)
      · have h := Eq.mp (if_pos hc) h
        refine lv_aload_n hx hb dX11_row_71 rfl (lv_at hl 0 rfl) ?_
        refine lv_iload_n hx hb dX11_row_72 rfl (lv_at hl 1 rfl) ?_
        refine hm_calli hw (hm_runV (rest := []) hCl_true X hw (cM_counts  h) ykM_counts kw1764 rfl LM_0 rfl hl.1 rfl rfl rfl (Nat.le_of_ble_eq_true rfl) ⟨Nat.le_trans (Nat.le_of_ble_eq_true rfl) hR.1, Nat.le_trans (Nat.le_of_ble_eq_true rfl) hR.2⟩ ⟨Nat.zero_le _, Nat.zero_le _⟩ dX11_row_73) (fun r11 u12 H locs hp hw => ?_)
        obtain ⟨rfl, h⟩ := hp
        refine lv_goto (tgt := 95) hx hb dX11_row_76 (by decide) ?_
        exact wkM_row_b95 X hr hlk hR   h hw (lv_sub hl [] rfl)
    · have h := Eq.mp (if_neg hc) h
      refine lv_iload_n hx hb dX11_row_46 rfl (lv_at hl 2 rfl) ?_
      refine lv_if_ne (tgt := 59) hx hb dX11_row_47 (by decide) (fun hc => ?_) (fun hc => ?_)
      · have h := Eq.mp (if_neg hc) h
        refine lv_aload_n hx hb dX11_row_59 rfl (lv_at hl 0 rfl) ?_
        refine hm_getr X hw lkM_87 LM_0 (b := 21) rfl dX11_row_60 ?_
        refine lv_iload_n hx hb dX11_row_63 rfl (lv_at hl 1 rfl) ?_
        obtain ⟨hi, h⟩ := h
        refine hm_iald X hw LM_21 hi dX11_row_64 ?_
        exact hm_iret X hr hlk hw ⟨_, rfl, h⟩ dX11_row_65
      · have h := Eq.mp (if_pos hc) h
        refine lv_aload_n hx hb dX11_row_50 rfl (lv_at hl 0 rfl) ?_
        refine hm_getr X hw lkM_84 LM_0 (b := 20) rfl dX11_row_51 ?_
        refine lv_iload_n hx hb dX11_row_54 rfl (lv_at hl 1 rfl) ?_
        obtain ⟨hi, h⟩ := h
        refine hm_iald X hw LM_20 hi dX11_row_55 ?_
        refine lv_goto (tgt := 65) hx hb dX11_row_56 (by decide) ?_
        exact hm_iret X hr hlk hw ⟨_, rfl, h⟩ dX11_row_65
  · have h := Eq.mp (if_pos hc) h
    refine lv_iconst (v := 0) hx hb dX11_row_35 (by decide) ?_
    exact hm_iret X hr hlk hw ⟨_, rfl, h⟩ dX11_row_36

theorem wkM_row_b27 {I : HI} {J : HJ} {x1 : Int32} {x2 : Int32} {Q : Int32 → HI → Prop} (X : hX p m c s args RX11 cX11_row 4) (hr : meth.sig.returnType = (some .int)) (hlk : meth.locks = false) (hR : 6 ≤ R.frames ∧ 139 ≤ R.locals)   : ∀ {ls : Array Slot} {H : Heap} {locs : List Loc}, M_row_b27 I x1 x2 Q → hW D cA z Ev0 (I, J, T, FM, LM) A s H locs → lv_has ls 4 [(0, .ref (z + 0)), (1, .int x1), (2, .int x2)] → W p l e R s m args below meth c H locs 0 0 (MQ below (va_Qi (pI J T FM LM Q) (hB D cA z A) A) args s 0 0 A) (F0 m 27 ls [.ref (z + 0)]) := by
  have hx := X.1
  have hb := X.2.1
  intro ls H locs h hw hl
  unfold M_row_b27 at h
  refine lv_iconst (v := 0) hx hb dX11_row_27 (by decide) ?_
  exact wkM_row_b28 X hr hlk hR   h hw (lv_sub hl [0, 1, 2] rfl)

theorem cM_row {l : Launch} {D : va_G} {cA : Nat → ClassId} {z sz : Nat} {I : HI} {J : HJ} {x1 : Int32} {x2 : Int32} {Q : Int32 → HI → Prop}  (h : M_row I x1 x2 Q) : Met l yX11_row (hws0 yX11_row cX11_row 4 (some .int)) { frames := 6, cells := 0, slots := 0, locals := 139 } (hPc D cA z Ev0 (I, J, T, FM, LM) sz [.ref (z + 0), .int x1, .int x2]) (va_Qi (pI J T FM LM Q) (hB D cA z (hA z LM sz)) (hA z LM sz)) 0 0 (hA z LM sz) := by
  refine hm_met (I, J, T, FM, LM) [.ref (z + 0), .int x1, .int x2] rfl (by decide) (Nat.le_of_ble_eq_true rfl) ?_
  intro p e s m below meth c ls X hr hlk hnm hxt hsz hw hl
  have hl : lv_has ls 4 [(0, .ref (z + 0)), (1, .int x1), (2, .int x2)] := hl
  have hR : 6 ≤ ({ frames := 6, cells := 0, slots := 0, locals := 139 } : Room).frames ∧ 139 ≤ ({ frames := 6, cells := 0, slots := 0, locals := 139 } : Room).locals := ⟨Nat.le_refl _, Nat.le_refl _⟩
  generalize ({ frames := 6, cells := 0, slots := 0, locals := 139 } : Room) = R at hR ⊢
  clear hsz
  generalize (hA z LM sz) = A at hw ⊢
  have hx := X.1
  have hb := X.2.1
  unfold M_row at h
  refine lv_aload_n hx hb dX11_row_0 rfl (lv_at hl 0 rfl) ?_
  refine lv_iconst (v := 0) hx hb dX11_row_1 (by decide) ?_
  refine hm_puti X hw lkM_174 LM_0 rfl rfl dX11_row_2 (fun H locs hw => ?_)
  refine lv_aload_n hx hb dX11_row_5 rfl (lv_at hl 0 rfl) ?_
  refine lv_iload_n hx hb dX11_row_6 rfl (lv_at hl 1 rfl) ?_
  refine hm_calli hw (hm_runV (rest := []) hCl_true X hw (cM_isRow  h) ykM_isRow kw1721 rfl LM_0 rfl hl.1 rfl rfl rfl (Nat.le_of_ble_eq_true rfl) ⟨Nat.le_trans (Nat.le_of_ble_eq_true rfl) hR.1, Nat.le_trans (Nat.le_of_ble_eq_true rfl) hR.2⟩ ⟨Nat.zero_le _, Nat.zero_le _⟩ dX11_row_7) (fun r1 u3 H locs hp hw => ?_)
  obtain ⟨I2, rfl, h⟩ := hp
  refine lv_if_eq (tgt := 35) hx hb dX11_row_10 (by decide) (fun hc => ?_) (fun hc => ?_)
  · have h := Eq.mp (if_pos hc) h
    refine lv_iconst (v := 0) hx hb dX11_row_35 (by decide) ?_
    exact hm_iret X hr hlk hw ⟨_, rfl, h⟩ dX11_row_36
  · have h := Eq.mp (if_neg hc) h
    refine lv_aload_n hx hb dX11_row_13 rfl (lv_at hl 0 rfl) ?_
    refine lv_iload_n hx hb dX11_row_14 rfl (lv_at hl 2 rfl) ?_
    refine lv_if_lt (tgt := 27) hx hb dX11_row_15 (by decide) (fun hc => ?_) (fun hc => ?_)
    · have h := Eq.mp (if_pos hc) h
      exact wkM_row_b27 X hr hlk hR   h hw (lv_sub hl [0, 1, 2] rfl)
    · have h := Eq.mp (if_neg hc) h
      refine lv_iload_n hx hb dX11_row_18 rfl (lv_at hl 2 rfl) ?_
      refine lv_iconst (v := 3) hx hb dX11_row_19 (by decide) ?_
      refine lv_icmp_gt (tgt := 27) hx hb dX11_row_20 (by decide) (fun hc => ?_) (fun hc => ?_)
      · have h := Eq.mp (if_pos hc) h
        exact wkM_row_b27 X hr hlk hR   h hw (lv_sub hl [0, 1, 2] rfl)
      · have h := Eq.mp (if_neg hc) h
        refine lv_iconst (v := 1) hx hb dX11_row_23 (by decide) ?_
        refine lv_goto (tgt := 28) hx hb dX11_row_24 (by decide) ?_
        exact wkM_row_b28 X hr hlk hR   h hw (lv_sub hl [0, 1, 2] rfl)

theorem wkM_weight_l17 {I : HI} {J : HJ} {x1 : Int32} {x4 : Int32} {K5 : Int64 → Int32 → Prop} {Q : Int64 → Prop} (X : hX p m c s args RX11 cX11_weight 6) (hr : meth.sig.returnType = (some .long)) (hlk : meth.locks = false) (hR : 1 ≤ R.frames ∧ 25 ≤ R.locals)  (hK5 : ∀ (x2 : Int64) (x4 : Int32) {ls : Array Slot} {H : Heap} {locs : List Loc}, K5 x2 x4 → hW D cA z Ev0 (I, J, T, FM, LM) A s H locs → lv_has ls 6 [(0, .ref (z + 0)), (1, .int x1), (2, .long x2), (4, .int x4)] → W p l e R s m args below meth c H locs 0 0 (MQ below (va_Ql (p0 (I, J, T, FM, LM) Q) (hB D cA z A) A) args s 0 0 A) (F0 m 5 ls [])) : ∀ (n : Nat) (x2 : Int64) (x5 : Int32) {ls : Array Slot} {H : Heap} {locs : List Loc}, M_weight_l17 I x1 x4 K5 Q n x2 x5 → hW D cA z Ev0 (I, J, T, FM, LM) A s H locs → lv_has ls 6 [(0, .ref (z + 0)), (1, .int x1), (2, .long x2), (4, .int x4), (5, .int x5)] → W p l e R s m args below meth c H locs 0 0 (MQ below (va_Ql (p0 (I, J, T, FM, LM) Q) (hB D cA z A) A) args s 0 0 A) (F0 m 17 ls []) := by
  have hx := X.1
  have hb := X.2.1
  intro n
  induction n with
  | zero => intro x2 x5 ls H locs h; exact False.elim h
  | succ n ih =>
    intro x2 x5 ls H locs h hw hl
    rw [M_weight_l17] at h
    refine lv_iload hx hb dX11_weight_17 (lv_at hl 4 rfl) ?_
    refine lv_aload_n hx hb dX11_weight_19 rfl (lv_at hl 0 rfl) ?_
    refine lv_iload_n hx hb dX11_weight_20 rfl (lv_at hl 1 rfl) ?_
    refine lv_iload hx hb dX11_weight_21 (lv_at hl 3 rfl) ?_
    refine hm_calli hw (hm_runV (rest := [_]) hCl_true X hw (cM_many  h) ykM_many kw1768 rfl LM_0 rfl hl.1 rfl rfl rfl (Nat.le_of_ble_eq_true rfl) ⟨Nat.le_trans (Nat.le_of_ble_eq_true rfl) hR.1, Nat.le_trans (Nat.le_of_ble_eq_true rfl) hR.2⟩ ⟨Nat.zero_le _, Nat.zero_le _⟩ dX11_weight_23) (fun r1 u2 H locs hp hw => ?_)
    obtain ⟨rfl, h⟩ := hp
    refine lv_icmp_ge (tgt := 49) hx hb dX11_weight_26 (by decide) (fun hc => ?_) (fun hc => ?_)
    · have h := Eq.mp (if_pos hc) h
      refine lv_iinc (v := x4 + 1) (lv' := [(4, _), (0, _), (1, _), (2, _), (5, _)]) hx hb dX11_weight_49 hl (k := 3) rfl rfl (by decide) rfl (fun ls hl => ?_)
      refine lv_goto (tgt := 5) hx hb dX11_weight_52 (by decide) ?_
      exact hK5 _ _ h hw (lv_sub hl [1, 2, 3, 0] rfl)
    · have h := Eq.mp (if_neg hc) h
      refine lv_lload_n hx hb dX11_weight_29 rfl (lv_at hl 2 rfl) ?_
      refine lv_aload_n hx hb dX11_weight_30 rfl (lv_at hl 0 rfl) ?_
      refine hm_getr X hw lkM_22 LM_0 (b := 1) rfl dX11_weight_31 ?_
      refine lv_iload hx hb dX11_weight_34 (lv_at hl 3 rfl) ?_
      obtain ⟨hi, h⟩ := h
      refine hm_iald X hw LM_1 hi dX11_weight_36 ?_
      refine lv_iload hx hb dX11_weight_37 (lv_at hl 4 rfl) ?_
      refine lv_isub hx hb dX11_weight_39 ?_
      refine lv_i2l (v := Int32.toInt64 ((I 1 (nx x4)) - x5)) hx hb dX11_weight_40 rfl ?_
      refine lv_lmul hx hb dX11_weight_41 ?_
      refine lv_lstore_n (lv' := [(2, _), (0, _), (1, _), (4, _), (5, _)]) hx hb dX11_weight_42 rfl hl (by decide) rfl (fun ls hl => ?_)
      refine lv_iinc (v := x5 + 1) (lv' := [(5, _), (2, _), (0, _), (1, _), (4, _)]) hx hb dX11_weight_43 hl (k := 4) rfl rfl (by decide) rfl (fun ls hl => ?_)
      refine lv_goto (tgt := 17) hx hb dX11_weight_46 (by decide) ?_
      exact ih _ _ h hw (lv_sub hl [2, 3, 1, 4, 0] rfl)

theorem wkM_weight_l5 {I : HI} {J : HJ} {x1 : Int32} {Q : Int64 → Prop} (X : hX p m c s args RX11 cX11_weight 6) (hr : meth.sig.returnType = (some .long)) (hlk : meth.locks = false) (hR : 1 ≤ R.frames ∧ 25 ≤ R.locals)   : ∀ (n : Nat) (x2 : Int64) (x4 : Int32) {ls : Array Slot} {H : Heap} {locs : List Loc}, M_weight_l5 I x1 Q n x2 x4 → hW D cA z Ev0 (I, J, T, FM, LM) A s H locs → lv_has ls 6 [(0, .ref (z + 0)), (1, .int x1), (2, .long x2), (4, .int x4)] → W p l e R s m args below meth c H locs 0 0 (MQ below (va_Ql (p0 (I, J, T, FM, LM) Q) (hB D cA z A) A) args s 0 0 A) (F0 m 5 ls []) := by
  have hx := X.1
  have hb := X.2.1
  intro n
  induction n with
  | zero => intro x2 x4 ls H locs h; exact False.elim h
  | succ n ih =>
    intro x2 x4 ls H locs h hw hl
    rw [M_weight_l5] at h
    refine lv_iload hx hb dX11_weight_5 (lv_at hl 3 rfl) ?_
    refine lv_aload_n hx hb dX11_weight_7 rfl (lv_at hl 0 rfl) ?_
    refine hm_geti X hw lkM_13 LM_0 dX11_weight_8 ?_
    refine lv_icmp_ge (tgt := 55) hx hb dX11_weight_11 (by decide) (fun hc => ?_) (fun hc => ?_)
    · have h := Eq.mp (if_pos hc) h
      refine lv_lload_n hx hb dX11_weight_55 rfl (lv_at hl 2 rfl) ?_
      exact hm_lret X hr hlk hw ⟨rfl, h⟩ dX11_weight_56
    · have h := Eq.mp (if_neg hc) h
      refine lv_iconst (v := 0) hx hb dX11_weight_14 (by decide) ?_
      refine lv_istore (lv' := [(5, _), (0, _), (1, _), (2, _), (4, _)]) hx hb dX11_weight_15 hl (by decide) rfl (fun ls hl => ?_)
      obtain ⟨n2, h⟩ := h
      exact wkM_weight_l17 X hr hlk hR  ih n2 _ _ h hw (lv_sub hl [1, 2, 3, 4, 0] rfl)

theorem cM_weight {l : Launch} {D : va_G} {cA : Nat → ClassId} {z sz : Nat} {I : HI} {J : HJ} {x1 : Int32} {Q : Int64 → Prop}  (h : M_weight I x1 Q) : Met l yX11_weight (hws0 yX11_weight cX11_weight 6 (some .long)) { frames := 1, cells := 0, slots := 0, locals := 25 } (hPc D cA z Ev0 (I, J, T, FM, LM) sz [.ref (z + 0), .int x1]) (va_Ql (p0 (I, J, T, FM, LM) Q) (hB D cA z (hA z LM sz)) (hA z LM sz)) 0 0 (hA z LM sz) := by
  refine hm_met (I, J, T, FM, LM) [.ref (z + 0), .int x1] rfl (by decide) (Nat.le_of_ble_eq_true rfl) ?_
  intro p e s m below meth c ls X hr hlk hnm hxt hsz hw hl
  have hl : lv_has ls 6 [(0, .ref (z + 0)), (1, .int x1)] := hl
  have hR : 1 ≤ ({ frames := 1, cells := 0, slots := 0, locals := 25 } : Room).frames ∧ 25 ≤ ({ frames := 1, cells := 0, slots := 0, locals := 25 } : Room).locals := ⟨Nat.le_refl _, Nat.le_refl _⟩
  generalize ({ frames := 1, cells := 0, slots := 0, locals := 25 } : Room) = R at hR ⊢
  clear hsz
  generalize (hA z LM sz) = A at hw ⊢
  have hx := X.1
  have hb := X.2.1
  unfold M_weight at h
  refine lv_lconst (v := 1) hx hb dX11_weight_0 (by decide) ?_
  refine lv_lstore_n (lv' := [(2, _), (0, _), (1, _)]) hx hb dX11_weight_1 rfl hl (by decide) rfl (fun ls hl => ?_)
  refine lv_iconst (v := 0) hx hb dX11_weight_2 (by decide) ?_
  refine lv_istore (lv' := [(4, _), (2, _), (0, _), (1, _)]) hx hb dX11_weight_3 hl (by decide) rfl (fun ls hl => ?_)
  obtain ⟨n2, h⟩ := h
  exact wkM_weight_l5 X hr hlk hR   n2 _ _ h hw (lv_sub hl [2, 3, 1, 0] rfl)

theorem wkM_won_b87 {I : HI} {J : HJ} {x1 : Int32} {x2 : Int64} {x4 : Int32} {K38 : Int64 → Int32 → Prop} {Q : Int64 → HI → Prop} (X : hX p m c s args RX11 cX11_won 5) (hr : meth.sig.returnType = (some .long)) (hlk : meth.locks = false) (hR : 6 ≤ R.frames ∧ 139 ≤ R.locals)  (hK38 : ∀ (x2 : Int64) (x4 : Int32) {ls : Array Slot} {H : Heap} {locs : List Loc}, K38 x2 x4 → hW D cA z Ev0 (I, J, T, FM, LM) A s H locs → lv_has ls 5 [(0, .ref (z + 0)), (1, .int x1), (2, .long x2), (4, .int x4)] → W p l e R s m args below meth c H locs 0 0 (MQ below (va_Ql (pI J T FM LM Q) (hB D cA z A) A) args s 0 0 A) (F0 m 38 ls [])) : ∀ {ls : Array Slot} {H : Heap} {locs : List Loc}, M_won_b87 I x1 x2 x4 K38 Q → hW D cA z Ev0 (I, J, T, FM, LM) A s H locs → lv_has ls 5 [(0, .ref (z + 0)), (1, .int x1), (2, .long x2), (4, .int x4)] → W p l e R s m args below meth c H locs 0 0 (MQ below (va_Ql (pI J T FM LM Q) (hB D cA z A) A) args s 0 0 A) (F0 m 87 ls []) := by
  have hx := X.1
  have hb := X.2.1
  intro ls H locs h hw hl
  unfold M_won_b87 at h
  refine lv_lload_n hx hb dX11_won_87 rfl (lv_at hl 2 rfl) ?_
  refine lv_iload_n hx hb dX11_won_88 rfl (lv_at hl 1 rfl) ?_
  refine lv_iconst (v := 2) hx hb dX11_won_89 (by decide) ?_
  refine lv_icmp_ge (tgt := 97) hx hb dX11_won_90 (by decide) (fun hc => ?_) (fun hc => ?_)
  · have h := Eq.mp (if_pos hc) h
    refine lv_aload_n hx hb dX11_won_97 rfl (lv_at hl 0 rfl) ?_
    refine lv_iload hx hb dX11_won_98 (lv_at hl 3 rfl) ?_
    refine hm_calll hw (hm_runV (rest := [_]) hCl_true X hw (cM_weight  h) ykM_weight kw1780 rfl LM_0 rfl hl.1 rfl rfl rfl (Nat.le_of_ble_eq_true rfl) ⟨Nat.le_trans (Nat.le_of_ble_eq_true rfl) hR.1, Nat.le_trans (Nat.le_of_ble_eq_true rfl) hR.2⟩ ⟨Nat.zero_le _, Nat.zero_le _⟩ dX11_won_100) (fun r8 u9 H locs hp hw => ?_)
    obtain ⟨rfl, h⟩ := hp
    refine lv_ladd hx hb dX11_won_103 ?_
    refine lv_lstore_n (lv' := [(2, _), (0, _), (1, _), (4, _)]) hx hb dX11_won_104 rfl hl (by decide) rfl (fun ls hl => ?_)
    refine lv_iinc (v := x4 + 1) (lv' := [(4, _), (2, _), (0, _), (1, _)]) hx hb dX11_won_105 hl (k := 3) rfl rfl (by decide) rfl (fun ls hl => ?_)
    refine lv_goto (tgt := 38) hx hb dX11_won_108 (by decide) ?_
    exact hK38 _ _ h hw (lv_sub hl [2, 3, 1, 0] rfl)
  · have h := Eq.mp (if_neg hc) h
    refine lv_lconst (v := 1) hx hb dX11_won_93 (by decide) ?_
    refine lv_goto (tgt := 103) hx hb dX11_won_94 (by decide) ?_
    refine lv_ladd hx hb dX11_won_103 ?_
    refine lv_lstore_n (lv' := [(2, _), (0, _), (1, _), (4, _)]) hx hb dX11_won_104 rfl hl (by decide) rfl (fun ls hl => ?_)
    refine lv_iinc (v := x4 + 1) (lv' := [(4, _), (2, _), (0, _), (1, _)]) hx hb dX11_won_105 hl (k := 3) rfl rfl (by decide) rfl (fun ls hl => ?_)
    refine lv_goto (tgt := 38) hx hb dX11_won_108 (by decide) ?_
    exact hK38 _ _ h hw (lv_sub hl [2, 3, 1, 0] rfl)

theorem wkM_won_l38 {I : HI} {J : HJ} {x1 : Int32} {Q : Int64 → HI → Prop} (X : hX p m c s args RX11 cX11_won 5) (hr : meth.sig.returnType = (some .long)) (hlk : meth.locks = false) (hR : 6 ≤ R.frames ∧ 139 ≤ R.locals)   : ∀ (n : Nat) (x2 : Int64) (x4 : Int32) {ls : Array Slot} {H : Heap} {locs : List Loc}, M_won_l38 I x1 Q n x2 x4 → hW D cA z Ev0 (I, J, T, FM, LM) A s H locs → lv_has ls 5 [(0, .ref (z + 0)), (1, .int x1), (2, .long x2), (4, .int x4)] → W p l e R s m args below meth c H locs 0 0 (MQ below (va_Ql (pI J T FM LM Q) (hB D cA z A) A) args s 0 0 A) (F0 m 38 ls []) := by
  have hx := X.1
  have hb := X.2.1
  intro n
  induction n with
  | zero => intro x2 x4 ls H locs h; exact False.elim h
  | succ n ih =>
    intro x2 x4 ls H locs h hw hl
    rw [M_won_l38] at h
    refine lv_iload hx hb dX11_won_38 (lv_at hl 3 rfl) ?_
    refine lv_aload_n hx hb dX11_won_40 rfl (lv_at hl 0 rfl) ?_
    refine hm_geti X hw lkM_16 LM_0 dX11_won_41 ?_
    refine lv_icmp_ge (tgt := 111) hx hb dX11_won_44 (by decide) (fun hc => ?_) (fun hc => ?_)
    · have h := Eq.mp (if_pos hc) h
      refine lv_lload_n hx hb dX11_won_111 rfl (lv_at hl 2 rfl) ?_
      exact hm_lret X hr hlk hw ⟨_, rfl, h⟩ dX11_won_112
    · have h := Eq.mp (if_neg hc) h
      refine lv_aload_n hx hb dX11_won_47 rfl (lv_at hl 0 rfl) ?_
      refine lv_iload hx hb dX11_won_48 (lv_at hl 3 rfl) ?_
      refine hm_calli hw (hm_runV (rest := []) hCl_true X hw (cM_counts  h) ykM_counts kw1764 rfl LM_0 rfl hl.1 rfl rfl rfl (Nat.le_of_ble_eq_true rfl) ⟨Nat.le_trans (Nat.le_of_ble_eq_true rfl) hR.1, Nat.le_trans (Nat.le_of_ble_eq_true rfl) hR.2⟩ ⟨Nat.zero_le _, Nat.zero_le _⟩ dX11_won_50) (fun r6 u7 H locs hp hw => ?_)
      obtain ⟨rfl, h⟩ := hp
      refine lv_if_eq (tgt := 105) hx hb dX11_won_53 (by decide) (fun hc => ?_) (fun hc => ?_)
      · have h := Eq.mp (if_pos hc) h
        refine lv_iinc (v := x4 + 1) (lv' := [(4, _), (0, _), (1, _), (2, _)]) hx hb dX11_won_105 hl (k := 3) rfl rfl (by decide) rfl (fun ls hl => ?_)
        refine lv_goto (tgt := 38) hx hb dX11_won_108 (by decide) ?_
        exact ih _ _ h hw (lv_sub hl [1, 2, 3, 0] rfl)
      · have h := Eq.mp (if_neg hc) h
        refine lv_iload_n hx hb dX11_won_56 rfl (lv_at hl 1 rfl) ?_
        refine lv_iconst (v := 2) hx hb dX11_won_57 (by decide) ?_
        refine hm_irem hx hb dX11_won_58 (by decide) ?_
        refine lv_iconst (v := 1) hx hb dX11_won_59 (by decide) ?_
        refine lv_icmp_ne (tgt := 87) hx hb dX11_won_60 (by decide) (fun hc => ?_) (fun hc => ?_)
        · have h := Eq.mp (if_neg hc) h
          exact wkM_won_b87 X hr hlk hR  ih h hw (lv_sub hl [0, 1, 2, 3] rfl)
        · have h := Eq.mp (if_pos hc) h
          refine lv_aload_n hx hb dX11_won_63 rfl (lv_at hl 0 rfl) ?_
          refine lv_aload_n hx hb dX11_won_64 rfl (lv_at hl 0 rfl) ?_
          refine hm_getr X hw lkM_84 LM_0 (b := 20) rfl dX11_won_65 ?_
          refine lv_iload hx hb dX11_won_68 (lv_at hl 3 rfl) ?_
          obtain ⟨hi, h⟩ := h
          refine hm_iald X hw LM_20 hi dX11_won_70 ?_
          refine lv_aload_n hx hb dX11_won_71 rfl (lv_at hl 0 rfl) ?_
          refine hm_getr X hw lkM_87 LM_0 (b := 21) rfl dX11_won_72 ?_
          refine lv_iload hx hb dX11_won_75 (lv_at hl 3 rfl) ?_
          obtain ⟨hi, h⟩ := h
          refine hm_iald X hw LM_21 hi dX11_won_77 ?_
          refine hm_calli hw (hm_runV (rest := []) hCl_true X hw (cM_isWon  h) ykM_isWon kw1772 rfl LM_0 rfl hl.1 rfl rfl rfl (Nat.le_of_ble_eq_true rfl) ⟨Nat.le_trans (Nat.le_of_ble_eq_true rfl) hR.1, Nat.le_trans (Nat.le_of_ble_eq_true rfl) hR.2⟩ ⟨Nat.zero_le _, Nat.zero_le _⟩ dX11_won_78) (fun r10 u11 H locs hp hw => ?_)
          obtain ⟨rfl, h⟩ := hp
          refine lv_if_ne (tgt := 87) hx hb dX11_won_81 (by decide) (fun hc => ?_) (fun hc => ?_)
          · have h := Eq.mp (if_neg hc) h
            exact wkM_won_b87 X hr hlk hR  ih h hw (lv_sub hl [0, 1, 2, 3] rfl)
          · have h := Eq.mp (if_pos hc) h
            refine lv_goto (tgt := 105) hx hb dX11_won_84 (by decide) ?_
            refine lv_iinc (v := x4 + 1) (lv' := [(4, _), (0, _), (1, _), (2, _)]) hx hb dX11_won_105 hl (k := 3) rfl rfl (by decide) rfl (fun ls hl => ?_)
            refine lv_goto (tgt := 38) hx hb dX11_won_108 (by decide) ?_
            exact ih _ _ h hw (lv_sub hl [1, 2, 3, 0] rfl)

theorem wkM_won_b20 {I : HI} {J : HJ} {x1 : Int32} {t0 : Int32} {Q : Int64 → HI → Prop} (X : hX p m c s args RX11 cX11_won 5) (hr : meth.sig.returnType = (some .long)) (hlk : meth.locks = false) (hR : 6 ≤ R.frames ∧ 139 ≤ R.locals)   : ∀ {ls : Array Slot} {H : Heap} {locs : List Loc}, M_won_b20 I x1 t0 Q → hW D cA z Ev0 (I, J, T, FM, LM) A s H locs → lv_has ls 5 [(0, .ref (z + 0)), (1, .int x1)] → W p l e R s m args below meth c H locs 0 0 (MQ below (va_Ql (pI J T FM LM Q) (hB D cA z A) A) args s 0 0 A) (F0 m 20 ls [.int t0, .ref (z + 0)]) := by
  have hx := X.1
  have hb := X.2.1
  intro ls H locs h hw hl
  unfold M_won_b20 at h
  refine lv_iconst (v := 1) hx hb dX11_won_20 (by decide) ?_
  refine hm_calli hw (hm_runV (rest := []) hCl_true X hw (cM_right  h) ykM_right kw1594 rfl LM_0 rfl hl.1 rfl rfl rfl (Nat.le_of_ble_eq_true rfl) ⟨Nat.le_trans (Nat.le_of_ble_eq_true rfl) hR.1, Nat.le_trans (Nat.le_of_ble_eq_true rfl) hR.2⟩ ⟨Nat.zero_le _, Nat.zero_le _⟩ dX11_won_21) (fun r1 u3 H locs hp hw => ?_)
  obtain ⟨I2, rfl, h⟩ := hp
  refine lv_if_ne (tgt := 29) hx hb dX11_won_24 (by decide) (fun hc => ?_) (fun hc => ?_)
  · have h := Eq.mp (if_neg hc) h
    refine lv_aload_n hx hb dX11_won_29 rfl (lv_at hl 0 rfl) ?_
    refine hm_callv hw (hm_runV (rest := []) hCl_true X hw (cM_worksAll  h) ykM_worksAll kw1725 rfl LM_0 rfl hl.1 rfl rfl rfl (Nat.le_of_ble_eq_true rfl) ⟨Nat.le_trans (Nat.le_of_ble_eq_true rfl) hR.1, Nat.le_trans (Nat.le_of_ble_eq_true rfl) hR.2⟩ ⟨Nat.zero_le _, Nat.zero_le _⟩ dX11_won_30) (fun u5 H locs hp hw => ?_)
    obtain ⟨I4, rfl, h⟩ := hp
    refine lv_lconst (v := 0) hx hb dX11_won_33 (by decide) ?_
    refine lv_lstore_n (lv' := [(2, _), (0, _), (1, _)]) hx hb dX11_won_34 rfl hl (by decide) rfl (fun ls hl => ?_)
    refine lv_iconst (v := 0) hx hb dX11_won_35 (by decide) ?_
    refine lv_istore (lv' := [(4, _), (2, _), (0, _), (1, _)]) hx hb dX11_won_36 hl (by decide) rfl (fun ls hl => ?_)
    obtain ⟨n2, h⟩ := h
    exact wkM_won_l38 X hr hlk hR   n2 _ _ h hw (lv_sub hl [2, 3, 1, 0] rfl)
  · have h := Eq.mp (if_pos hc) h
    refine lv_lconst (v := 0) hx hb dX11_won_27 (by decide) ?_
    exact hm_lret X hr hlk hw ⟨_, rfl, h⟩ dX11_won_28

theorem wkM_won_b19 {I : HI} {J : HJ} {x1 : Int32} {Q : Int64 → HI → Prop} (X : hX p m c s args RX11 cX11_won 5) (hr : meth.sig.returnType = (some .long)) (hlk : meth.locks = false) (hR : 6 ≤ R.frames ∧ 139 ≤ R.locals)   : ∀ {ls : Array Slot} {H : Heap} {locs : List Loc}, M_won_b19 I x1 Q → hW D cA z Ev0 (I, J, T, FM, LM) A s H locs → lv_has ls 5 [(0, .ref (z + 0)), (1, .int x1)] → W p l e R s m args below meth c H locs 0 0 (MQ below (va_Ql (pI J T FM LM Q) (hB D cA z A) A) args s 0 0 A) (F0 m 19 ls [.ref (z + 0)]) := by
  have hx := X.1
  have hb := X.2.1
  intro ls H locs h hw hl
  unfold M_won_b19 at h
  refine lv_iconst (v := 0) hx hb dX11_won_19 (by decide) ?_
  exact wkM_won_b20 X hr hlk hR   h hw (lv_sub hl [0, 1] rfl)

theorem cM_won {l : Launch} {D : va_G} {cA : Nat → ClassId} {z sz : Nat} {I : HI} {J : HJ} {x1 : Int32} {Q : Int64 → HI → Prop}  (h : M_won I x1 Q) : Met l yX11_won (hws0 yX11_won cX11_won 5 (some .long)) { frames := 6, cells := 0, slots := 0, locals := 139 } (hPc D cA z Ev0 (I, J, T, FM, LM) sz [.ref (z + 0), .int x1]) (va_Ql (pI J T FM LM Q) (hB D cA z (hA z LM sz)) (hA z LM sz)) 0 0 (hA z LM sz) := by
  refine hm_met (I, J, T, FM, LM) [.ref (z + 0), .int x1] rfl (by decide) (Nat.le_of_ble_eq_true rfl) ?_
  intro p e s m below meth c ls X hr hlk hnm hxt hsz hw hl
  have hl : lv_has ls 5 [(0, .ref (z + 0)), (1, .int x1)] := hl
  have hR : 6 ≤ ({ frames := 6, cells := 0, slots := 0, locals := 139 } : Room).frames ∧ 139 ≤ ({ frames := 6, cells := 0, slots := 0, locals := 139 } : Room).locals := ⟨Nat.le_refl _, Nat.le_refl _⟩
  generalize ({ frames := 6, cells := 0, slots := 0, locals := 139 } : Room) = R at hR ⊢
  clear hsz
  generalize (hA z LM sz) = A at hw ⊢
  have hx := X.1
  have hb := X.2.1
  unfold M_won at h
  refine lv_aload_n hx hb dX11_won_0 rfl (lv_at hl 0 rfl) ?_
  refine lv_iconst (v := 0) hx hb dX11_won_1 (by decide) ?_
  refine hm_puti X hw lkM_174 LM_0 rfl rfl dX11_won_2 (fun H locs hw => ?_)
  refine lv_aload_n hx hb dX11_won_5 rfl (lv_at hl 0 rfl) ?_
  refine lv_iload_n hx hb dX11_won_6 rfl (lv_at hl 1 rfl) ?_
  refine lv_if_lt (tgt := 19) hx hb dX11_won_7 (by decide) (fun hc => ?_) (fun hc => ?_)
  · have h := Eq.mp (if_pos hc) h
    exact wkM_won_b19 X hr hlk hR   h hw (lv_sub hl [0, 1] rfl)
  · have h := Eq.mp (if_neg hc) h
    refine lv_iload_n hx hb dX11_won_10 rfl (lv_at hl 1 rfl) ?_
    refine lv_iconst (v := 3) hx hb dX11_won_11 (by decide) ?_
    refine lv_icmp_gt (tgt := 19) hx hb dX11_won_12 (by decide) (fun hc => ?_) (fun hc => ?_)
    · have h := Eq.mp (if_pos hc) h
      exact wkM_won_b19 X hr hlk hR   h hw (lv_sub hl [0, 1] rfl)
    · have h := Eq.mp (if_neg hc) h
      refine lv_iconst (v := 1) hx hb dX11_won_15 (by decide) ?_
      refine lv_goto (tgt := 20) hx hb dX11_won_16 (by decide) ?_
      exact wkM_won_b20 X hr hlk hR   h hw (lv_sub hl [0, 1] rfl)

theorem wkM_beaten_l13 {I : HI} {J : HJ} {x1 : Int32} {Q : Int32 → HI → Prop} (X : hX p m c s args RX11 cX11_beaten 4) (hr : meth.sig.returnType = (some .int)) (hlk : meth.locks = false) (hR : 6 ≤ R.frames ∧ 139 ≤ R.locals)   : ∀ (n : Nat) (x2 : Int32) (x3 : Int32) {ls : Array Slot} {H : Heap} {locs : List Loc}, M_beaten_l13 I x1 Q n x2 x3 → hW D cA z Ev0 (I, J, T, FM, LM) A s H locs → lv_has ls 4 [(0, .ref (z + 0)), (1, .int x1), (2, .int x2), (3, .int x3)] → W p l e R s m args below meth c H locs 0 0 (MQ below (va_Qi (pI J T FM LM Q) (hB D cA z A) A) args s 0 0 A) (F0 m 13 ls []) := by
  have hx := X.1
  have hb := X.2.1
  intro n
  induction n with
  | zero => intro x2 x3 ls H locs h; exact False.elim h
  | succ n ih =>
    intro x2 x3 ls H locs h hw hl
    rw [M_beaten_l13] at h
    refine lv_iload_n hx hb dX11_beaten_13 rfl (lv_at hl 3 rfl) ?_
    refine lv_aload_n hx hb dX11_beaten_14 rfl (lv_at hl 0 rfl) ?_
    refine hm_geti X hw lkM_16 LM_0 dX11_beaten_15 ?_
    refine lv_icmp_ge (tgt := 71) hx hb dX11_beaten_18 (by decide) (fun hc => ?_) (fun hc => ?_)
    · have h := Eq.mp (if_pos hc) h
      refine lv_iconst (v := (-1)) hx hb dX11_beaten_71 (by decide) ?_
      exact hm_iret X hr hlk hw ⟨_, rfl, h⟩ dX11_beaten_72
    · have h := Eq.mp (if_neg hc) h
      refine lv_iload_n hx hb dX11_beaten_21 rfl (lv_at hl 1 rfl) ?_
      refine lv_if_lt (tgt := 71) hx hb dX11_beaten_22 (by decide) (fun hc => ?_) (fun hc => ?_)
      · have h := Eq.mp (if_pos hc) h
        refine lv_iconst (v := (-1)) hx hb dX11_beaten_71 (by decide) ?_
        exact hm_iret X hr hlk hw ⟨_, rfl, h⟩ dX11_beaten_72
      · have h := Eq.mp (if_neg hc) h
        refine lv_aload_n hx hb dX11_beaten_25 rfl (lv_at hl 0 rfl) ?_
        refine lv_iload_n hx hb dX11_beaten_26 rfl (lv_at hl 3 rfl) ?_
        refine hm_calli hw (hm_runV (rest := []) hCl_true X hw (cM_counts  h) ykM_counts kw1764 rfl LM_0 rfl hl.1 rfl rfl rfl (Nat.le_of_ble_eq_true rfl) ⟨Nat.le_trans (Nat.le_of_ble_eq_true rfl) hR.1, Nat.le_trans (Nat.le_of_ble_eq_true rfl) hR.2⟩ ⟨Nat.zero_le _, Nat.zero_le _⟩ dX11_beaten_27) (fun r3 u4 H locs hp hw => ?_)
        obtain ⟨rfl, h⟩ := hp
        refine lv_if_eq (tgt := 65) hx hb dX11_beaten_30 (by decide) (fun hc => ?_) (fun hc => ?_)
        · have h := Eq.mp (if_pos hc) h
          refine lv_iinc (v := x3 + 1) (lv' := [(3, _), (0, _), (1, _), (2, _)]) hx hb dX11_beaten_65 hl (k := 3) rfl rfl (by decide) rfl (fun ls hl => ?_)
          refine lv_goto (tgt := 13) hx hb dX11_beaten_68 (by decide) ?_
          exact ih _ _ h hw (lv_sub hl [1, 2, 3, 0] rfl)
        · have h := Eq.mp (if_neg hc) h
          refine lv_aload_n hx hb dX11_beaten_33 rfl (lv_at hl 0 rfl) ?_
          refine lv_aload_n hx hb dX11_beaten_34 rfl (lv_at hl 0 rfl) ?_
          refine hm_getr X hw lkM_84 LM_0 (b := 20) rfl dX11_beaten_35 ?_
          refine lv_iload_n hx hb dX11_beaten_38 rfl (lv_at hl 3 rfl) ?_
          obtain ⟨hi, h⟩ := h
          refine hm_iald X hw LM_20 hi dX11_beaten_39 ?_
          refine lv_aload_n hx hb dX11_beaten_40 rfl (lv_at hl 0 rfl) ?_
          refine hm_getr X hw lkM_87 LM_0 (b := 21) rfl dX11_beaten_41 ?_
          refine lv_iload_n hx hb dX11_beaten_44 rfl (lv_at hl 3 rfl) ?_
          obtain ⟨hi, h⟩ := h
          refine hm_iald X hw LM_21 hi dX11_beaten_45 ?_
          refine hm_calli hw (hm_runV (rest := []) hCl_true X hw (cM_isWon  h) ykM_isWon kw1772 rfl LM_0 rfl hl.1 rfl rfl rfl (Nat.le_of_ble_eq_true rfl) ⟨Nat.le_trans (Nat.le_of_ble_eq_true rfl) hR.1, Nat.le_trans (Nat.le_of_ble_eq_true rfl) hR.2⟩ ⟨Nat.zero_le _, Nat.zero_le _⟩ dX11_beaten_46) (fun r5 u6 H locs hp hw => ?_)
          obtain ⟨rfl, h⟩ := hp
          refine lv_if_eq (tgt := 55) hx hb dX11_beaten_49 (by decide) (fun hc => ?_) (fun hc => ?_)
          · have h := Eq.mp (if_pos hc) h
            refine lv_iload_n hx hb dX11_beaten_55 rfl (lv_at hl 2 rfl) ?_
            refine lv_iload_n hx hb dX11_beaten_56 rfl (lv_at hl 1 rfl) ?_
            refine lv_icmp_ne (tgt := 62) hx hb dX11_beaten_57 (by decide) (fun hc => ?_) (fun hc => ?_)
            · have h := Eq.mp (if_neg hc) h
              refine lv_iinc (v := x2 + 1) (lv' := [(2, _), (0, _), (1, _), (3, _)]) hx hb dX11_beaten_62 hl (k := 2) rfl rfl (by decide) rfl (fun ls hl => ?_)
              refine lv_iinc (v := x3 + 1) (lv' := [(3, _), (2, _), (0, _), (1, _)]) hx hb dX11_beaten_65 hl (k := 3) rfl rfl (by decide) rfl (fun ls hl => ?_)
              refine lv_goto (tgt := 13) hx hb dX11_beaten_68 (by decide) ?_
              exact ih _ _ h hw (lv_sub hl [2, 3, 1, 0] rfl)
            · have h := Eq.mp (if_pos hc) h
              refine lv_iload_n hx hb dX11_beaten_60 rfl (lv_at hl 3 rfl) ?_
              exact hm_iret X hr hlk hw ⟨_, rfl, h⟩ dX11_beaten_61
          · have h := Eq.mp (if_neg hc) h
            refine lv_goto (tgt := 65) hx hb dX11_beaten_52 (by decide) ?_
            refine lv_iinc (v := x3 + 1) (lv' := [(3, _), (0, _), (1, _), (2, _)]) hx hb dX11_beaten_65 hl (k := 3) rfl rfl (by decide) rfl (fun ls hl => ?_)
            refine lv_goto (tgt := 13) hx hb dX11_beaten_68 (by decide) ?_
            exact ih _ _ h hw (lv_sub hl [1, 2, 3, 0] rfl)

theorem cM_beaten {l : Launch} {D : va_G} {cA : Nat → ClassId} {z sz : Nat} {I : HI} {J : HJ} {x1 : Int32} {Q : Int32 → HI → Prop}  (h : M_beaten I x1 Q) : Met l yX11_beaten (hws0 yX11_beaten cX11_beaten 4 (some .int)) { frames := 6, cells := 0, slots := 0, locals := 139 } (hPc D cA z Ev0 (I, J, T, FM, LM) sz [.ref (z + 0), .int x1]) (va_Qi (pI J T FM LM Q) (hB D cA z (hA z LM sz)) (hA z LM sz)) 0 0 (hA z LM sz) := by
  refine hm_met (I, J, T, FM, LM) [.ref (z + 0), .int x1] rfl (by decide) (Nat.le_of_ble_eq_true rfl) ?_
  intro p e s m below meth c ls X hr hlk hnm hxt hsz hw hl
  have hl : lv_has ls 4 [(0, .ref (z + 0)), (1, .int x1)] := hl
  have hR : 6 ≤ ({ frames := 6, cells := 0, slots := 0, locals := 139 } : Room).frames ∧ 139 ≤ ({ frames := 6, cells := 0, slots := 0, locals := 139 } : Room).locals := ⟨Nat.le_refl _, Nat.le_refl _⟩
  generalize ({ frames := 6, cells := 0, slots := 0, locals := 139 } : Room) = R at hR ⊢
  clear hsz
  generalize (hA z LM sz) = A at hw ⊢
  have hx := X.1
  have hb := X.2.1
  unfold M_beaten at h
  refine lv_aload_n hx hb dX11_beaten_0 rfl (lv_at hl 0 rfl) ?_
  refine lv_iconst (v := 0) hx hb dX11_beaten_1 (by decide) ?_
  refine hm_puti X hw lkM_174 LM_0 rfl rfl dX11_beaten_2 (fun H locs hw => ?_)
  refine lv_aload_n hx hb dX11_beaten_5 rfl (lv_at hl 0 rfl) ?_
  refine hm_callv hw (hm_runV (rest := []) hCl_true X hw (cM_worksAll  h) ykM_worksAll kw1725 rfl LM_0 rfl hl.1 rfl rfl rfl (Nat.le_of_ble_eq_true rfl) ⟨Nat.le_trans (Nat.le_of_ble_eq_true rfl) hR.1, Nat.le_trans (Nat.le_of_ble_eq_true rfl) hR.2⟩ ⟨Nat.zero_le _, Nat.zero_le _⟩ dX11_beaten_6) (fun u2 H locs hp hw => ?_)
  obtain ⟨I1, rfl, h⟩ := hp
  refine lv_iconst (v := 0) hx hb dX11_beaten_9 (by decide) ?_
  refine lv_istore_n (lv' := [(2, _), (0, _), (1, _)]) hx hb dX11_beaten_10 rfl hl (by decide) rfl (fun ls hl => ?_)
  refine lv_iconst (v := 0) hx hb dX11_beaten_11 (by decide) ?_
  refine lv_istore_n (lv' := [(3, _), (2, _), (0, _), (1, _)]) hx hb dX11_beaten_12 rfl hl (by decide) rfl (fun ls hl => ?_)
  obtain ⟨n2, h⟩ := h
  exact wkM_beaten_l13 X hr hlk hR   n2 _ _ h hw (lv_sub hl [2, 3, 1, 0] rfl)

theorem wkM_tally_l13 {I : HI} {J : HJ} {x1 : Int32} {Q : Int32 → HI → Prop} (X : hX p m c s args RX11 cX11_tally 4) (hr : meth.sig.returnType = (some .int)) (hlk : meth.locks = false) (hR : 6 ≤ R.frames ∧ 139 ≤ R.locals)   : ∀ (n : Nat) (x2 : Int32) (x3 : Int32) {ls : Array Slot} {H : Heap} {locs : List Loc}, M_tally_l13 I x1 Q n x2 x3 → hW D cA z Ev0 (I, J, T, FM, LM) A s H locs → lv_has ls 4 [(0, .ref (z + 0)), (1, .int x1), (2, .int x2), (3, .int x3)] → W p l e R s m args below meth c H locs 0 0 (MQ below (va_Qi (pI J T FM LM Q) (hB D cA z A) A) args s 0 0 A) (F0 m 13 ls []) := by
  have hx := X.1
  have hb := X.2.1
  intro n
  induction n with
  | zero => intro x2 x3 ls H locs h; exact False.elim h
  | succ n ih =>
    intro x2 x3 ls H locs h hw hl
    rw [M_tally_l13] at h
    refine lv_iload_n hx hb dX11_tally_13 rfl (lv_at hl 3 rfl) ?_
    refine lv_aload_n hx hb dX11_tally_14 rfl (lv_at hl 0 rfl) ?_
    refine hm_geti X hw lkM_16 LM_0 dX11_tally_15 ?_
    refine lv_icmp_ge (tgt := 51) hx hb dX11_tally_18 (by decide) (fun hc => ?_) (fun hc => ?_)
    · have h := Eq.mp (if_pos hc) h
      refine lv_iload_n hx hb dX11_tally_51 rfl (lv_at hl 2 rfl) ?_
      exact hm_iret X hr hlk hw ⟨_, rfl, h⟩ dX11_tally_52
    · have h := Eq.mp (if_neg hc) h
      refine lv_aload_n hx hb dX11_tally_21 rfl (lv_at hl 0 rfl) ?_
      refine lv_iload_n hx hb dX11_tally_22 rfl (lv_at hl 3 rfl) ?_
      refine hm_calli hw (hm_runV (rest := []) hCl_true X hw (cM_counts  h) ykM_counts kw1764 rfl LM_0 rfl hl.1 rfl rfl rfl (Nat.le_of_ble_eq_true rfl) ⟨Nat.le_trans (Nat.le_of_ble_eq_true rfl) hR.1, Nat.le_trans (Nat.le_of_ble_eq_true rfl) hR.2⟩ ⟨Nat.zero_le _, Nat.zero_le _⟩ dX11_tally_23) (fun r3 u4 H locs hp hw => ?_)
      obtain ⟨rfl, h⟩ := hp
      refine lv_if_eq (tgt := 45) hx hb dX11_tally_26 (by decide) (fun hc => ?_) (fun hc => ?_)
      · have h := Eq.mp (if_pos hc) h
        refine lv_iinc (v := x3 + 1) (lv' := [(3, _), (0, _), (1, _), (2, _)]) hx hb dX11_tally_45 hl (k := 3) rfl rfl (by decide) rfl (fun ls hl => ?_)
        refine lv_goto (tgt := 13) hx hb dX11_tally_48 (by decide) ?_
        exact ih _ _ h hw (lv_sub hl [1, 2, 3, 0] rfl)
      · have h := Eq.mp (if_neg hc) h
        refine lv_aload_n hx hb dX11_tally_29 rfl (lv_at hl 0 rfl) ?_
        refine hm_getr X hw lkM_84 LM_0 (b := 20) rfl dX11_tally_30 ?_
        refine lv_iload_n hx hb dX11_tally_33 rfl (lv_at hl 3 rfl) ?_
        obtain ⟨hi, h⟩ := h
        refine hm_iald X hw LM_20 hi dX11_tally_34 ?_
        refine hm_calli hw (hm_runS (rest := []) hCl_true X hw (cM_bits  h) ykM_bits kw1342 rfl hl.1 rfl rfl rfl (Nat.le_of_ble_eq_true rfl) ⟨Nat.le_trans (Nat.le_of_ble_eq_true rfl) hR.1, Nat.le_trans (Nat.le_of_ble_eq_true rfl) hR.2⟩ ⟨Nat.zero_le _, Nat.zero_le _⟩ dX11_tally_35) (fun r5 u6 H locs hp hw => ?_)
        obtain ⟨rfl, h⟩ := hp
        refine lv_iload_n hx hb dX11_tally_38 rfl (lv_at hl 1 rfl) ?_
        refine lv_icmp_ne (tgt := 45) hx hb dX11_tally_39 (by decide) (fun hc => ?_) (fun hc => ?_)
        · have h := Eq.mp (if_neg hc) h
          refine lv_iinc (v := x3 + 1) (lv' := [(3, _), (0, _), (1, _), (2, _)]) hx hb dX11_tally_45 hl (k := 3) rfl rfl (by decide) rfl (fun ls hl => ?_)
          refine lv_goto (tgt := 13) hx hb dX11_tally_48 (by decide) ?_
          exact ih _ _ h hw (lv_sub hl [1, 2, 3, 0] rfl)
        · have h := Eq.mp (if_pos hc) h
          refine lv_iinc (v := x2 + 1) (lv' := [(2, _), (0, _), (1, _), (3, _)]) hx hb dX11_tally_42 hl (k := 2) rfl rfl (by decide) rfl (fun ls hl => ?_)
          refine lv_iinc (v := x3 + 1) (lv' := [(3, _), (2, _), (0, _), (1, _)]) hx hb dX11_tally_45 hl (k := 3) rfl rfl (by decide) rfl (fun ls hl => ?_)
          refine lv_goto (tgt := 13) hx hb dX11_tally_48 (by decide) ?_
          exact ih _ _ h hw (lv_sub hl [2, 3, 1, 0] rfl)

theorem cM_tally {l : Launch} {D : va_G} {cA : Nat → ClassId} {z sz : Nat} {I : HI} {J : HJ} {x1 : Int32} {Q : Int32 → HI → Prop}  (h : M_tally I x1 Q) : Met l yX11_tally (hws0 yX11_tally cX11_tally 4 (some .int)) { frames := 6, cells := 0, slots := 0, locals := 139 } (hPc D cA z Ev0 (I, J, T, FM, LM) sz [.ref (z + 0), .int x1]) (va_Qi (pI J T FM LM Q) (hB D cA z (hA z LM sz)) (hA z LM sz)) 0 0 (hA z LM sz) := by
  refine hm_met (I, J, T, FM, LM) [.ref (z + 0), .int x1] rfl (by decide) (Nat.le_of_ble_eq_true rfl) ?_
  intro p e s m below meth c ls X hr hlk hnm hxt hsz hw hl
  have hl : lv_has ls 4 [(0, .ref (z + 0)), (1, .int x1)] := hl
  have hR : 6 ≤ ({ frames := 6, cells := 0, slots := 0, locals := 139 } : Room).frames ∧ 139 ≤ ({ frames := 6, cells := 0, slots := 0, locals := 139 } : Room).locals := ⟨Nat.le_refl _, Nat.le_refl _⟩
  generalize ({ frames := 6, cells := 0, slots := 0, locals := 139 } : Room) = R at hR ⊢
  clear hsz
  generalize (hA z LM sz) = A at hw ⊢
  have hx := X.1
  have hb := X.2.1
  unfold M_tally at h
  refine lv_aload_n hx hb dX11_tally_0 rfl (lv_at hl 0 rfl) ?_
  refine lv_iconst (v := 0) hx hb dX11_tally_1 (by decide) ?_
  refine hm_puti X hw lkM_174 LM_0 rfl rfl dX11_tally_2 (fun H locs hw => ?_)
  refine lv_aload_n hx hb dX11_tally_5 rfl (lv_at hl 0 rfl) ?_
  refine hm_callv hw (hm_runV (rest := []) hCl_true X hw (cM_worksAll  h) ykM_worksAll kw1725 rfl LM_0 rfl hl.1 rfl rfl rfl (Nat.le_of_ble_eq_true rfl) ⟨Nat.le_trans (Nat.le_of_ble_eq_true rfl) hR.1, Nat.le_trans (Nat.le_of_ble_eq_true rfl) hR.2⟩ ⟨Nat.zero_le _, Nat.zero_le _⟩ dX11_tally_6) (fun u2 H locs hp hw => ?_)
  obtain ⟨I1, rfl, h⟩ := hp
  refine lv_iconst (v := 0) hx hb dX11_tally_9 (by decide) ?_
  refine lv_istore_n (lv' := [(2, _), (0, _), (1, _)]) hx hb dX11_tally_10 rfl hl (by decide) rfl (fun ls hl => ?_)
  refine lv_iconst (v := 0) hx hb dX11_tally_11 (by decide) ?_
  refine lv_istore_n (lv' := [(3, _), (2, _), (0, _), (1, _)]) hx hb dX11_tally_12 rfl hl (by decide) rfl (fun ls hl => ?_)
  obtain ⟨n2, h⟩ := h
  exact wkM_tally_l13 X hr hlk hR   n2 _ _ h hw (lv_sub hl [2, 3, 1, 0] rfl)

theorem wkM_rightOf_l18 {I : HI} {J : HJ} {x1 : Int32} {Q : Int32 → HI → Prop} (X : hX p m c s args RX11 cX11_rightOf 4) (hr : meth.sig.returnType = (some .int)) (hlk : meth.locks = false) (hR : 6 ≤ R.frames ∧ 139 ≤ R.locals)   : ∀ (n : Nat) (x2 : Int32) (x3 : Int32) {ls : Array Slot} {H : Heap} {locs : List Loc}, M_rightOf_l18 I x1 Q n x2 x3 → hW D cA z Ev0 (I, J, T, FM, LM) A s H locs → lv_has ls 4 [(0, .ref (z + 0)), (1, .int x1), (2, .int x2), (3, .int x3)] → W p l e R s m args below meth c H locs 0 0 (MQ below (va_Qi (pI J T FM LM Q) (hB D cA z A) A) args s 0 0 A) (F0 m 18 ls []) := by
  have hx := X.1
  have hb := X.2.1
  intro n
  induction n with
  | zero => intro x2 x3 ls H locs h; exact False.elim h
  | succ n ih =>
    intro x2 x3 ls H locs h hw hl
    rw [M_rightOf_l18] at h
    refine lv_iload_n hx hb dX11_rightOf_18 rfl (lv_at hl 3 rfl) ?_
    refine lv_aload_n hx hb dX11_rightOf_19 rfl (lv_at hl 0 rfl) ?_
    refine hm_geti X hw lkM_16 LM_0 dX11_rightOf_20 ?_
    refine lv_icmp_ge (tgt := 57) hx hb dX11_rightOf_23 (by decide) (fun hc => ?_) (fun hc => ?_)
    · have h := Eq.mp (if_pos hc) h
      refine lv_iload_n hx hb dX11_rightOf_57 rfl (lv_at hl 2 rfl) ?_
      exact hm_iret X hr hlk hw ⟨_, rfl, h⟩ dX11_rightOf_58
    · have h := Eq.mp (if_neg hc) h
      refine lv_aload_n hx hb dX11_rightOf_26 rfl (lv_at hl 0 rfl) ?_
      refine lv_iload_n hx hb dX11_rightOf_27 rfl (lv_at hl 3 rfl) ?_
      refine hm_calli hw (hm_runV (rest := []) hCl_true X hw (cM_counts  h) ykM_counts kw1764 rfl LM_0 rfl hl.1 rfl rfl rfl (Nat.le_of_ble_eq_true rfl) ⟨Nat.le_trans (Nat.le_of_ble_eq_true rfl) hR.1, Nat.le_trans (Nat.le_of_ble_eq_true rfl) hR.2⟩ ⟨Nat.zero_le _, Nat.zero_le _⟩ dX11_rightOf_28) (fun r6 u7 H locs hp hw => ?_)
      obtain ⟨rfl, h⟩ := hp
      refine lv_if_eq (tgt := 51) hx hb dX11_rightOf_31 (by decide) (fun hc => ?_) (fun hc => ?_)
      · have h := Eq.mp (if_pos hc) h
        refine lv_iinc (v := x3 + 1) (lv' := [(3, _), (0, _), (1, _), (2, _)]) hx hb dX11_rightOf_51 hl (k := 3) rfl rfl (by decide) rfl (fun ls hl => ?_)
        refine lv_goto (tgt := 18) hx hb dX11_rightOf_54 (by decide) ?_
        exact ih _ _ h hw (lv_sub hl [1, 2, 3, 0] rfl)
      · have h := Eq.mp (if_neg hc) h
        refine lv_aload_n hx hb dX11_rightOf_34 rfl (lv_at hl 0 rfl) ?_
        refine hm_getr X hw lkM_84 LM_0 (b := 20) rfl dX11_rightOf_35 ?_
        refine lv_iload_n hx hb dX11_rightOf_38 rfl (lv_at hl 3 rfl) ?_
        obtain ⟨hi, h⟩ := h
        refine hm_iald X hw LM_20 hi dX11_rightOf_39 ?_
        refine lv_iload_n hx hb dX11_rightOf_40 rfl (lv_at hl 1 rfl) ?_
        refine lv_ishr hx hb dX11_rightOf_41 ?_
        refine lv_iconst (v := 1) hx hb dX11_rightOf_42 (by decide) ?_
        refine lv_iand hx hb dX11_rightOf_43 ?_
        refine lv_iconst (v := 1) hx hb dX11_rightOf_44 (by decide) ?_
        refine lv_icmp_ne (tgt := 51) hx hb dX11_rightOf_45 (by decide) (fun hc => ?_) (fun hc => ?_)
        · have h := Eq.mp (if_neg hc) h
          refine lv_iinc (v := x3 + 1) (lv' := [(3, _), (0, _), (1, _), (2, _)]) hx hb dX11_rightOf_51 hl (k := 3) rfl rfl (by decide) rfl (fun ls hl => ?_)
          refine lv_goto (tgt := 18) hx hb dX11_rightOf_54 (by decide) ?_
          exact ih _ _ h hw (lv_sub hl [1, 2, 3, 0] rfl)
        · have h := Eq.mp (if_pos hc) h
          refine lv_iinc (v := x2 + 1) (lv' := [(2, _), (0, _), (1, _), (3, _)]) hx hb dX11_rightOf_48 hl (k := 2) rfl rfl (by decide) rfl (fun ls hl => ?_)
          refine lv_iinc (v := x3 + 1) (lv' := [(3, _), (2, _), (0, _), (1, _)]) hx hb dX11_rightOf_51 hl (k := 3) rfl rfl (by decide) rfl (fun ls hl => ?_)
          refine lv_goto (tgt := 18) hx hb dX11_rightOf_54 (by decide) ?_
          exact ih _ _ h hw (lv_sub hl [2, 3, 1, 0] rfl)

theorem cM_rightOf {l : Launch} {D : va_G} {cA : Nat → ClassId} {z sz : Nat} {I : HI} {J : HJ} {x1 : Int32} {Q : Int32 → HI → Prop}  (h : M_rightOf I x1 Q) : Met l yX11_rightOf (hws0 yX11_rightOf cX11_rightOf 4 (some .int)) { frames := 6, cells := 0, slots := 0, locals := 139 } (hPc D cA z Ev0 (I, J, T, FM, LM) sz [.ref (z + 0), .int x1]) (va_Qi (pI J T FM LM Q) (hB D cA z (hA z LM sz)) (hA z LM sz)) 0 0 (hA z LM sz) := by
  refine hm_met (I, J, T, FM, LM) [.ref (z + 0), .int x1] rfl (by decide) (Nat.le_of_ble_eq_true rfl) ?_
  intro p e s m below meth c ls X hr hlk hnm hxt hsz hw hl
  have hl : lv_has ls 4 [(0, .ref (z + 0)), (1, .int x1)] := hl
  have hR : 6 ≤ ({ frames := 6, cells := 0, slots := 0, locals := 139 } : Room).frames ∧ 139 ≤ ({ frames := 6, cells := 0, slots := 0, locals := 139 } : Room).locals := ⟨Nat.le_refl _, Nat.le_refl _⟩
  generalize ({ frames := 6, cells := 0, slots := 0, locals := 139 } : Room) = R at hR ⊢
  clear hsz
  generalize (hA z LM sz) = A at hw ⊢
  have hx := X.1
  have hb := X.2.1
  unfold M_rightOf at h
  refine lv_aload_n hx hb dX11_rightOf_0 rfl (lv_at hl 0 rfl) ?_
  refine lv_iload_n hx hb dX11_rightOf_1 rfl (lv_at hl 1 rfl) ?_
  refine hm_calli hw (hm_runV (rest := []) hCl_true X hw (cM_isWearer  h) ykM_isWearer kw1590 rfl LM_0 rfl hl.1 rfl rfl rfl (Nat.le_of_ble_eq_true rfl) ⟨Nat.le_trans (Nat.le_of_ble_eq_true rfl) hR.1, Nat.le_trans (Nat.le_of_ble_eq_true rfl) hR.2⟩ ⟨Nat.zero_le _, Nat.zero_le _⟩ dX11_rightOf_2) (fun r1 u3 H locs hp hw => ?_)
  obtain ⟨I2, rfl, h⟩ := hp
  refine lv_if_ne (tgt := 10) hx hb dX11_rightOf_5 (by decide) (fun hc => ?_) (fun hc => ?_)
  · have h := Eq.mp (if_neg hc) h
    refine lv_aload_n hx hb dX11_rightOf_10 rfl (lv_at hl 0 rfl) ?_
    refine hm_callv hw (hm_runV (rest := []) hCl_true X hw (cM_worksAll  h) ykM_worksAll kw1725 rfl LM_0 rfl hl.1 rfl rfl rfl (Nat.le_of_ble_eq_true rfl) ⟨Nat.le_trans (Nat.le_of_ble_eq_true rfl) hR.1, Nat.le_trans (Nat.le_of_ble_eq_true rfl) hR.2⟩ ⟨Nat.zero_le _, Nat.zero_le _⟩ dX11_rightOf_11) (fun u5 H locs hp hw => ?_)
    obtain ⟨I4, rfl, h⟩ := hp
    refine lv_iconst (v := 0) hx hb dX11_rightOf_14 (by decide) ?_
    refine lv_istore_n (lv' := [(2, _), (0, _), (1, _)]) hx hb dX11_rightOf_15 rfl hl (by decide) rfl (fun ls hl => ?_)
    refine lv_iconst (v := 0) hx hb dX11_rightOf_16 (by decide) ?_
    refine lv_istore_n (lv' := [(3, _), (2, _), (0, _), (1, _)]) hx hb dX11_rightOf_17 rfl hl (by decide) rfl (fun ls hl => ?_)
    obtain ⟨n2, h⟩ := h
    exact wkM_rightOf_l18 X hr hlk hR   n2 _ _ h hw (lv_sub hl [2, 3, 1, 0] rfl)
  · have h := Eq.mp (if_pos hc) h
    refine lv_iconst (v := 0) hx hb dX11_rightOf_8 (by decide) ?_
    exact hm_iret X hr hlk hw ⟨_, rfl, h⟩ dX11_rightOf_9

theorem wkM_worstRow_l8 {I : HI} {J : HJ} {Q : Int32 → HI → Prop} (X : hX p m c s args RX11 cX11_worstRow 3) (hr : meth.sig.returnType = (some .int)) (hlk : meth.locks = false) (hR : 6 ≤ R.frames ∧ 139 ≤ R.locals)   : ∀ (n : Nat) (x1 : Int32) (x2 : Int32) {ls : Array Slot} {H : Heap} {locs : List Loc}, M_worstRow_l8 I Q n x1 x2 → hW D cA z Ev0 (I, J, T, FM, LM) A s H locs → lv_has ls 3 [(0, .ref (z + 0)), (1, .int x1), (2, .int x2)] → W p l e R s m args below meth c H locs 0 0 (MQ below (va_Qi (pI J T FM LM Q) (hB D cA z A) A) args s 0 0 A) (F0 m 8 ls []) := by
  have hx := X.1
  have hb := X.2.1
  intro n
  induction n with
  | zero => intro x1 x2 ls H locs h; exact False.elim h
  | succ n ih =>
    intro x1 x2 ls H locs h hw hl
    rw [M_worstRow_l8] at h
    refine lv_iload_n hx hb dX11_worstRow_8 rfl (lv_at hl 2 rfl) ?_
    refine lv_aload_n hx hb dX11_worstRow_9 rfl (lv_at hl 0 rfl) ?_
    refine hm_geti X hw lkM_16 LM_0 dX11_worstRow_10 ?_
    refine lv_icmp_ge (tgt := 58) hx hb dX11_worstRow_13 (by decide) (fun hc => ?_) (fun hc => ?_)
    · have h := Eq.mp (if_pos hc) h
      refine lv_iload_n hx hb dX11_worstRow_58 rfl (lv_at hl 1 rfl) ?_
      exact hm_iret X hr hlk hw ⟨_, rfl, h⟩ dX11_worstRow_59
    · have h := Eq.mp (if_neg hc) h
      refine lv_aload_n hx hb dX11_worstRow_16 rfl (lv_at hl 0 rfl) ?_
      refine lv_iload_n hx hb dX11_worstRow_17 rfl (lv_at hl 2 rfl) ?_
      refine hm_calli hw (hm_runV (rest := []) hCl_true X hw (cM_counts  h) ykM_counts kw1764 rfl LM_0 rfl hl.1 rfl rfl rfl (Nat.le_of_ble_eq_true rfl) ⟨Nat.le_trans (Nat.le_of_ble_eq_true rfl) hR.1, Nat.le_trans (Nat.le_of_ble_eq_true rfl) hR.2⟩ ⟨Nat.zero_le _, Nat.zero_le _⟩ dX11_worstRow_18) (fun r3 u4 H locs hp hw => ?_)
      obtain ⟨rfl, h⟩ := hp
      refine lv_if_eq (tgt := 52) hx hb dX11_worstRow_21 (by decide) (fun hc => ?_) (fun hc => ?_)
      · have h := Eq.mp (if_pos hc) h
        refine lv_iinc (v := x2 + 1) (lv' := [(2, _), (0, _), (1, _)]) hx hb dX11_worstRow_52 hl (k := 2) rfl rfl (by decide) rfl (fun ls hl => ?_)
        refine lv_goto (tgt := 8) hx hb dX11_worstRow_55 (by decide) ?_
        exact ih _ _ h hw (lv_sub hl [1, 2, 0] rfl)
      · have h := Eq.mp (if_neg hc) h
        refine lv_iload_n hx hb dX11_worstRow_24 rfl (lv_at hl 1 rfl) ?_
        refine lv_iconst (v := (-1)) hx hb dX11_worstRow_25 (by decide) ?_
        refine lv_icmp_eq (tgt := 50) hx hb dX11_worstRow_26 (by decide) (fun hc => ?_) (fun hc => ?_)
        · have h := Eq.mp (if_pos hc) h
          refine lv_iload_n hx hb dX11_worstRow_50 rfl (lv_at hl 2 rfl) ?_
          refine lv_istore_n (lv' := [(1, _), (0, _), (2, _)]) hx hb dX11_worstRow_51 rfl hl (by decide) rfl (fun ls hl => ?_)
          refine lv_iinc (v := x2 + 1) (lv' := [(2, _), (1, _), (0, _)]) hx hb dX11_worstRow_52 hl (k := 2) rfl rfl (by decide) rfl (fun ls hl => ?_)
          refine lv_goto (tgt := 8) hx hb dX11_worstRow_55 (by decide) ?_
          exact ih _ _ h hw (lv_sub hl [2, 1, 0] rfl)
        · have h := Eq.mp (if_neg hc) h
          refine lv_aload_n hx hb dX11_worstRow_29 rfl (lv_at hl 0 rfl) ?_
          refine hm_getr X hw lkM_87 LM_0 (b := 21) rfl dX11_worstRow_30 ?_
          refine lv_iload_n hx hb dX11_worstRow_33 rfl (lv_at hl 2 rfl) ?_
          obtain ⟨hi, h⟩ := h
          refine hm_iald X hw LM_21 hi dX11_worstRow_34 ?_
          refine hm_calli hw (hm_runS (rest := []) hCl_true X hw (cM_bits  h) ykM_bits kw1342 rfl hl.1 rfl rfl rfl (Nat.le_of_ble_eq_true rfl) ⟨Nat.le_trans (Nat.le_of_ble_eq_true rfl) hR.1, Nat.le_trans (Nat.le_of_ble_eq_true rfl) hR.2⟩ ⟨Nat.zero_le _, Nat.zero_le _⟩ dX11_worstRow_35) (fun r5 u6 H locs hp hw => ?_)
          obtain ⟨rfl, h⟩ := hp
          refine lv_aload_n hx hb dX11_worstRow_38 rfl (lv_at hl 0 rfl) ?_
          refine hm_getr X hw lkM_87 LM_0 (b := 21) rfl dX11_worstRow_39 ?_
          refine lv_iload_n hx hb dX11_worstRow_42 rfl (lv_at hl 1 rfl) ?_
          obtain ⟨hi, h⟩ := h
          refine hm_iald X hw LM_21 hi dX11_worstRow_43 ?_
          refine hm_calli hw (hm_runS (rest := [_]) hCl_true X hw (cM_bits  h) ykM_bits kw1342 rfl hl.1 rfl rfl rfl (Nat.le_of_ble_eq_true rfl) ⟨Nat.le_trans (Nat.le_of_ble_eq_true rfl) hR.1, Nat.le_trans (Nat.le_of_ble_eq_true rfl) hR.2⟩ ⟨Nat.zero_le _, Nat.zero_le _⟩ dX11_worstRow_44) (fun r7 u8 H locs hp hw => ?_)
          obtain ⟨rfl, h⟩ := hp
          refine lv_icmp_le (tgt := 52) hx hb dX11_worstRow_47 (by decide) (fun hc => ?_) (fun hc => ?_)
          · have h := Eq.mp (if_pos hc) h
            refine lv_iinc (v := x2 + 1) (lv' := [(2, _), (0, _), (1, _)]) hx hb dX11_worstRow_52 hl (k := 2) rfl rfl (by decide) rfl (fun ls hl => ?_)
            refine lv_goto (tgt := 8) hx hb dX11_worstRow_55 (by decide) ?_
            exact ih _ _ h hw (lv_sub hl [1, 2, 0] rfl)
          · have h := Eq.mp (if_neg hc) h
            refine lv_iload_n hx hb dX11_worstRow_50 rfl (lv_at hl 2 rfl) ?_
            refine lv_istore_n (lv' := [(1, _), (0, _), (2, _)]) hx hb dX11_worstRow_51 rfl hl (by decide) rfl (fun ls hl => ?_)
            refine lv_iinc (v := x2 + 1) (lv' := [(2, _), (1, _), (0, _)]) hx hb dX11_worstRow_52 hl (k := 2) rfl rfl (by decide) rfl (fun ls hl => ?_)
            refine lv_goto (tgt := 8) hx hb dX11_worstRow_55 (by decide) ?_
            exact ih _ _ h hw (lv_sub hl [2, 1, 0] rfl)

theorem cM_worstRow {l : Launch} {D : va_G} {cA : Nat → ClassId} {z sz : Nat} {I : HI} {J : HJ}  {Q : Int32 → HI → Prop}  (h : M_worstRow I  Q) : Met l yX11_worstRow (hws0 yX11_worstRow cX11_worstRow 3 (some .int)) { frames := 6, cells := 0, slots := 0, locals := 139 } (hPc D cA z Ev0 (I, J, T, FM, LM) sz [.ref (z + 0)]) (va_Qi (pI J T FM LM Q) (hB D cA z (hA z LM sz)) (hA z LM sz)) 0 0 (hA z LM sz) := by
  refine hm_met (I, J, T, FM, LM) [.ref (z + 0)] rfl (by decide) (Nat.le_of_ble_eq_true rfl) ?_
  intro p e s m below meth c ls X hr hlk hnm hxt hsz hw hl
  have hl : lv_has ls 3 [(0, .ref (z + 0))] := hl
  have hR : 6 ≤ ({ frames := 6, cells := 0, slots := 0, locals := 139 } : Room).frames ∧ 139 ≤ ({ frames := 6, cells := 0, slots := 0, locals := 139 } : Room).locals := ⟨Nat.le_refl _, Nat.le_refl _⟩
  generalize ({ frames := 6, cells := 0, slots := 0, locals := 139 } : Room) = R at hR ⊢
  clear hsz
  generalize (hA z LM sz) = A at hw ⊢
  have hx := X.1
  have hb := X.2.1
  unfold M_worstRow at h
  refine lv_aload_n hx hb dX11_worstRow_0 rfl (lv_at hl 0 rfl) ?_
  refine hm_callv hw (hm_runV (rest := []) hCl_true X hw (cM_worksAll  h) ykM_worksAll kw1725 rfl LM_0 rfl hl.1 rfl rfl rfl (Nat.le_of_ble_eq_true rfl) ⟨Nat.le_trans (Nat.le_of_ble_eq_true rfl) hR.1, Nat.le_trans (Nat.le_of_ble_eq_true rfl) hR.2⟩ ⟨Nat.zero_le _, Nat.zero_le _⟩ dX11_worstRow_1) (fun u2 H locs hp hw => ?_)
  obtain ⟨I1, rfl, h⟩ := hp
  refine lv_iconst (v := (-1)) hx hb dX11_worstRow_4 (by decide) ?_
  refine lv_istore_n (lv' := [(1, _), (0, _)]) hx hb dX11_worstRow_5 rfl hl (by decide) rfl (fun ls hl => ?_)
  refine lv_iconst (v := 0) hx hb dX11_worstRow_6 (by decide) ?_
  refine lv_istore_n (lv' := [(2, _), (1, _), (0, _)]) hx hb dX11_worstRow_7 rfl hl (by decide) rfl (fun ls hl => ?_)
  obtain ⟨n2, h⟩ := h
  exact wkM_worstRow_l8 X hr hlk hR   n2 _ _ h hw (lv_sub hl [2, 1, 0] rfl)

end
