theorem dX5_countPlacings_0 : decode cX5_countPlacings 0 = .ok (.aload_n 0, 1) := by decide +kernel
theorem dX5_countPlacings_1 : decode cX5_countPlacings 1 = .ok (.getfield 44, 3) := by decide +kernel
theorem dX5_countPlacings_4 : decode cX5_countPlacings 4 = .ok (.bipush 6, 2) := by decide +kernel
theorem dX5_countPlacings_6 : decode cX5_countPlacings 6 = .ok (.if_icmp .le 7, 3) := by decide +kernel
theorem dX5_countPlacings_9 : decode cX5_countPlacings 9 = .ok (.iconst (-1), 1) := by decide +kernel
theorem dX5_countPlacings_10 : decode cX5_countPlacings 10 = .ok (.goto 9, 3) := by decide +kernel
theorem dX5_countPlacings_13 : decode cX5_countPlacings 13 = .ok (.aload_n 0, 1) := by decide +kernel
theorem dX5_countPlacings_14 : decode cX5_countPlacings 14 = .ok (.iconst 0, 1) := by decide +kernel
theorem dX5_countPlacings_15 : decode cX5_countPlacings 15 = .ok (.iconst 0, 1) := by decide +kernel
theorem dX5_countPlacings_16 : decode cX5_countPlacings 16 = .ok (.invokestatic 101, 3) := by decide +kernel
theorem dX5_countPlacings_19 : decode cX5_countPlacings 19 = .ok (.ireturn, 1) := by decide +kernel
theorem dX6_isNumber_0 : decode cX6_isNumber 0 = .ok (.aload_n 0, 1) := by decide +kernel
theorem dX6_isNumber_1 : decode cX6_isNumber 1 = .ok (.getfield 40, 3) := by decide +kernel
theorem dX6_isNumber_4 : decode cX6_isNumber 4 = .ok (.sipush 131, 3) := by decide +kernel
theorem dX6_isNumber_7 : decode cX6_isNumber 7 = .ok (.if_icmp .eq 13, 3) := by decide +kernel
theorem dX6_isNumber_10 : decode cX6_isNumber 10 = .ok (.aload_n 0, 1) := by decide +kernel
theorem dX6_isNumber_11 : decode cX6_isNumber 11 = .ok (.getfield 40, 3) := by decide +kernel
theorem dX6_isNumber_14 : decode cX6_isNumber 14 = .ok (.sipush 132, 3) := by decide +kernel
theorem dX6_isNumber_17 : decode cX6_isNumber 17 = .ok (.if_icmp .ne 7, 3) := by decide +kernel
theorem dX6_isNumber_20 : decode cX6_isNumber 20 = .ok (.iconst 1, 1) := by decide +kernel
theorem dX6_isNumber_21 : decode cX6_isNumber 21 = .ok (.goto 4, 3) := by decide +kernel
theorem dX6_isNumber_24 : decode cX6_isNumber 24 = .ok (.iconst 0, 1) := by decide +kernel
theorem dX6_isNumber_25 : decode cX6_isNumber 25 = .ok (.ireturn, 1) := by decide +kernel
theorem dX6_isWord_0 : decode cX6_isWord 0 = .ok (.aload_n 0, 1) := by decide +kernel
theorem dX6_isWord_1 : decode cX6_isWord 1 = .ok (.getfield 40, 3) := by decide +kernel
theorem dX6_isWord_4 : decode cX6_isWord 4 = .ok (.sipush 140, 3) := by decide +kernel
theorem dX6_isWord_7 : decode cX6_isWord 7 = .ok (.if_icmp .lt 7, 3) := by decide +kernel
theorem dX6_isWord_10 : decode cX6_isWord 10 = .ok (.iconst 1, 1) := by decide +kernel
theorem dX6_isWord_11 : decode cX6_isWord 11 = .ok (.goto 4, 3) := by decide +kernel
theorem dX6_isWord_14 : decode cX6_isWord 14 = .ok (.iconst 0, 1) := by decide +kernel
theorem dX6_isWord_15 : decode cX6_isWord 15 = .ok (.ireturn, 1) := by decide +kernel
theorem dX6_stop_0 : decode cX6_stop 0 = .ok (.aload_n 0, 1) := by decide +kernel
theorem dX6_stop_1 : decode cX6_stop 1 = .ok (.getfield 40, 3) := by decide +kernel
theorem dX6_stop_4 : decode cX6_stop 4 = .ok (.sipush 130, 3) := by decide +kernel
theorem dX6_stop_7 : decode cX6_stop 7 = .ok (.if_icmp .eq 23, 3) := by decide +kernel
theorem dX6_stop_10 : decode cX6_stop 10 = .ok (.aload_n 0, 1) := by decide +kernel
theorem dX6_stop_11 : decode cX6_stop 11 = .ok (.iload_n 1, 1) := by decide +kernel
theorem dX6_stop_12 : decode cX6_stop 12 = .ok (.putfield 9, 3) := by decide +kernel
theorem dX6_stop_15 : decode cX6_stop 15 = .ok (.aload_n 0, 1) := by decide +kernel
theorem dX6_stop_16 : decode cX6_stop 16 = .ok (.aload_n 0, 1) := by decide +kernel
theorem dX6_stop_17 : decode cX6_stop 17 = .ok (.getfield 37, 3) := by decide +kernel
theorem dX6_stop_20 : decode cX6_stop 20 = .ok (.putfield 15, 3) := by decide +kernel
theorem dX6_stop_23 : decode cX6_stop 23 = .ok (.aload_n 0, 1) := by decide +kernel
theorem dX6_stop_24 : decode cX6_stop 24 = .ok (.sipush 130, 3) := by decide +kernel
theorem dX6_stop_27 : decode cX6_stop 27 = .ok (.putfield 40, 3) := by decide +kernel
theorem dX6_stop_30 : decode cX6_stop 30 = .ok (.return_, 1) := by decide +kernel
theorem dX6_isLetter_0 : decode cX6_isLetter 0 = .ok (.iload_n 0, 1) := by decide +kernel
theorem dX6_isLetter_1 : decode cX6_isLetter 1 = .ok (.bipush 97, 2) := by decide +kernel
theorem dX6_isLetter_3 : decode cX6_isLetter 3 = .ok (.if_icmp .lt 13, 3) := by decide +kernel
theorem dX6_isLetter_6 : decode cX6_isLetter 6 = .ok (.iload_n 0, 1) := by decide +kernel
theorem dX6_isLetter_7 : decode cX6_isLetter 7 = .ok (.bipush 122, 2) := by decide +kernel
theorem dX6_isLetter_9 : decode cX6_isLetter 9 = .ok (.if_icmp .gt 7, 3) := by decide +kernel
theorem dX6_isLetter_12 : decode cX6_isLetter 12 = .ok (.iconst 1, 1) := by decide +kernel
theorem dX6_isLetter_13 : decode cX6_isLetter 13 = .ok (.goto 4, 3) := by decide +kernel
theorem dX6_isLetter_16 : decode cX6_isLetter 16 = .ok (.iconst 0, 1) := by decide +kernel
theorem dX6_isLetter_17 : decode cX6_isLetter 17 = .ok (.ireturn, 1) := by decide +kernel
theorem dX6_isDigit_0 : decode cX6_isDigit 0 = .ok (.iload_n 0, 1) := by decide +kernel
theorem dX6_isDigit_1 : decode cX6_isDigit 1 = .ok (.bipush 48, 2) := by decide +kernel
theorem dX6_isDigit_3 : decode cX6_isDigit 3 = .ok (.if_icmp .lt 13, 3) := by decide +kernel
theorem dX6_isDigit_6 : decode cX6_isDigit 6 = .ok (.iload_n 0, 1) := by decide +kernel
theorem dX6_isDigit_7 : decode cX6_isDigit 7 = .ok (.bipush 57, 2) := by decide +kernel
theorem dX6_isDigit_9 : decode cX6_isDigit 9 = .ok (.if_icmp .gt 7, 3) := by decide +kernel
theorem dX6_isDigit_12 : decode cX6_isDigit 12 = .ok (.iconst 1, 1) := by decide +kernel
theorem dX6_isDigit_13 : decode cX6_isDigit 13 = .ok (.goto 4, 3) := by decide +kernel
theorem dX6_isDigit_16 : decode cX6_isDigit 16 = .ok (.iconst 0, 1) := by decide +kernel
theorem dX6_isDigit_17 : decode cX6_isDigit 17 = .ok (.ireturn, 1) := by decide +kernel
theorem dX6_scanNumber_0 : decode cX6_scanNumber 0 = .ok (.aload_n 0, 1) := by decide +kernel
theorem dX6_scanNumber_1 : decode cX6_scanNumber 1 = .ok (.iconst 0, 1) := by decide +kernel
theorem dX6_scanNumber_2 : decode cX6_scanNumber 2 = .ok (.putfield 43, 3) := by decide +kernel
theorem dX6_scanNumber_5 : decode cX6_scanNumber 5 = .ok (.aload_n 0, 1) := by decide +kernel
theorem dX6_scanNumber_6 : decode cX6_scanNumber 6 = .ok (.getfield 34, 3) := by decide +kernel
theorem dX6_scanNumber_9 : decode cX6_scanNumber 9 = .ok (.aload_n 0, 1) := by decide +kernel
theorem dX6_scanNumber_10 : decode cX6_scanNumber 10 = .ok (.getfield 28, 3) := by decide +kernel
theorem dX6_scanNumber_13 : decode cX6_scanNumber 13 = .ok (.if_icmp .ge 72, 3) := by decide +kernel
theorem dX6_scanNumber_16 : decode cX6_scanNumber 16 = .ok (.aload_n 0, 1) := by decide +kernel
theorem dX6_scanNumber_17 : decode cX6_scanNumber 17 = .ok (.getfield 24, 3) := by decide +kernel
theorem dX6_scanNumber_20 : decode cX6_scanNumber 20 = .ok (.aload_n 0, 1) := by decide +kernel
theorem dX6_scanNumber_21 : decode cX6_scanNumber 21 = .ok (.getfield 34, 3) := by decide +kernel
theorem dX6_scanNumber_24 : decode cX6_scanNumber 24 = .ok (.iaload, 1) := by decide +kernel
theorem dX6_scanNumber_25 : decode cX6_scanNumber 25 = .ok (.invokestatic 123, 3) := by decide +kernel
theorem dX6_scanNumber_28 : decode cX6_scanNumber 28 = .ok (.ifCond .eq 57, 3) := by decide +kernel
theorem dX6_scanNumber_31 : decode cX6_scanNumber 31 = .ok (.aload_n 0, 1) := by decide +kernel
theorem dX6_scanNumber_32 : decode cX6_scanNumber 32 = .ok (.aload_n 0, 1) := by decide +kernel
theorem dX6_scanNumber_33 : decode cX6_scanNumber 33 = .ok (.getfield 43, 3) := by decide +kernel
theorem dX6_scanNumber_36 : decode cX6_scanNumber 36 = .ok (.sipush 1000, 3) := by decide +kernel
theorem dX6_scanNumber_39 : decode cX6_scanNumber 39 = .ok (.if_icmp .ge 26, 3) := by decide +kernel
theorem dX6_scanNumber_42 : decode cX6_scanNumber 42 = .ok (.aload_n 0, 1) := by decide +kernel
theorem dX6_scanNumber_43 : decode cX6_scanNumber 43 = .ok (.getfield 43, 3) := by decide +kernel
theorem dX6_scanNumber_46 : decode cX6_scanNumber 46 = .ok (.bipush 10, 2) := by decide +kernel
theorem dX6_scanNumber_48 : decode cX6_scanNumber 48 = .ok (.imul, 1) := by decide +kernel
theorem dX6_scanNumber_49 : decode cX6_scanNumber 49 = .ok (.aload_n 0, 1) := by decide +kernel
theorem dX6_scanNumber_50 : decode cX6_scanNumber 50 = .ok (.getfield 24, 3) := by decide +kernel
theorem dX6_scanNumber_53 : decode cX6_scanNumber 53 = .ok (.aload_n 0, 1) := by decide +kernel
theorem dX6_scanNumber_54 : decode cX6_scanNumber 54 = .ok (.getfield 34, 3) := by decide +kernel
theorem dX6_scanNumber_57 : decode cX6_scanNumber 57 = .ok (.iaload, 1) := by decide +kernel
theorem dX6_scanNumber_58 : decode cX6_scanNumber 58 = .ok (.iadd, 1) := by decide +kernel
theorem dX6_scanNumber_59 : decode cX6_scanNumber 59 = .ok (.bipush 48, 2) := by decide +kernel
theorem dX6_scanNumber_61 : decode cX6_scanNumber 61 = .ok (.isub, 1) := by decide +kernel
theorem dX6_scanNumber_62 : decode cX6_scanNumber 62 = .ok (.goto 7, 3) := by decide +kernel
theorem dX6_scanNumber_65 : decode cX6_scanNumber 65 = .ok (.aload_n 0, 1) := by decide +kernel
theorem dX6_scanNumber_66 : decode cX6_scanNumber 66 = .ok (.getfield 43, 3) := by decide +kernel
theorem dX6_scanNumber_69 : decode cX6_scanNumber 69 = .ok (.putfield 43, 3) := by decide +kernel
theorem dX6_scanNumber_72 : decode cX6_scanNumber 72 = .ok (.aload_n 0, 1) := by decide +kernel
theorem dX6_scanNumber_73 : decode cX6_scanNumber 73 = .ok (.dup, 1) := by decide +kernel
theorem dX6_scanNumber_74 : decode cX6_scanNumber 74 = .ok (.getfield 34, 3) := by decide +kernel
theorem dX6_scanNumber_77 : decode cX6_scanNumber 77 = .ok (.iconst 1, 1) := by decide +kernel
theorem dX6_scanNumber_78 : decode cX6_scanNumber 78 = .ok (.iadd, 1) := by decide +kernel
theorem dX6_scanNumber_79 : decode cX6_scanNumber 79 = .ok (.putfield 34, 3) := by decide +kernel
theorem dX6_scanNumber_82 : decode cX6_scanNumber 82 = .ok (.goto (-77), 3) := by decide +kernel
theorem dX6_scanNumber_85 : decode cX6_scanNumber 85 = .ok (.aload_n 0, 1) := by decide +kernel
theorem dX6_scanNumber_86 : decode cX6_scanNumber 86 = .ok (.aload_n 0, 1) := by decide +kernel
theorem dX6_scanNumber_87 : decode cX6_scanNumber 87 = .ok (.getfield 34, 3) := by decide +kernel
theorem dX6_scanNumber_90 : decode cX6_scanNumber 90 = .ok (.aload_n 0, 1) := by decide +kernel
theorem dX6_scanNumber_91 : decode cX6_scanNumber 91 = .ok (.getfield 37, 3) := by decide +kernel
theorem dX6_scanNumber_94 : decode cX6_scanNumber 94 = .ok (.isub, 1) := by decide +kernel
theorem dX6_scanNumber_95 : decode cX6_scanNumber 95 = .ok (.iconst 3, 1) := by decide +kernel
theorem dX6_scanNumber_96 : decode cX6_scanNumber 96 = .ok (.if_icmp .le 9, 3) := by decide +kernel
theorem dX6_scanNumber_99 : decode cX6_scanNumber 99 = .ok (.sipush 132, 3) := by decide +kernel
theorem dX6_scanNumber_102 : decode cX6_scanNumber 102 = .ok (.goto 6, 3) := by decide +kernel
theorem dX6_scanNumber_105 : decode cX6_scanNumber 105 = .ok (.sipush 131, 3) := by decide +kernel
theorem dX6_scanNumber_108 : decode cX6_scanNumber 108 = .ok (.putfield 40, 3) := by decide +kernel
theorem dX6_scanNumber_111 : decode cX6_scanNumber 111 = .ok (.return_, 1) := by decide +kernel
theorem dX6_isSign_0 : decode cX6_isSign 0 = .ok (.iload_n 0, 1) := by decide +kernel
theorem dX6_isSign_1 : decode cX6_isSign 1 = .ok (.bipush 40, 2) := by decide +kernel
theorem dX6_isSign_3 : decode cX6_isSign 3 = .ok (.if_icmp .lt 9, 3) := by decide +kernel
theorem dX6_isSign_6 : decode cX6_isSign 6 = .ok (.iload_n 0, 1) := by decide +kernel
theorem dX6_isSign_7 : decode cX6_isSign 7 = .ok (.bipush 43, 2) := by decide +kernel
theorem dX6_isSign_9 : decode cX6_isSign 9 = .ok (.if_icmp .le 27, 3) := by decide +kernel
theorem dX6_isSign_12 : decode cX6_isSign 12 = .ok (.iload_n 0, 1) := by decide +kernel
theorem dX6_isSign_13 : decode cX6_isSign 13 = .ok (.bipush 45, 2) := by decide +kernel
theorem dX6_isSign_15 : decode cX6_isSign 15 = .ok (.if_icmp .eq 21, 3) := by decide +kernel
theorem dX6_isSign_18 : decode cX6_isSign 18 = .ok (.iload_n 0, 1) := by decide +kernel
theorem dX6_isSign_19 : decode cX6_isSign 19 = .ok (.bipush 47, 2) := by decide +kernel
theorem dX6_isSign_21 : decode cX6_isSign 21 = .ok (.if_icmp .eq 15, 3) := by decide +kernel
theorem dX6_isSign_24 : decode cX6_isSign 24 = .ok (.iload_n 0, 1) := by decide +kernel
theorem dX6_isSign_25 : decode cX6_isSign 25 = .ok (.bipush 59, 2) := by decide +kernel
theorem dX6_isSign_27 : decode cX6_isSign 27 = .ok (.if_icmp .lt 13, 3) := by decide +kernel
theorem dX6_isSign_30 : decode cX6_isSign 30 = .ok (.iload_n 0, 1) := by decide +kernel
theorem dX6_isSign_31 : decode cX6_isSign 31 = .ok (.bipush 61, 2) := by decide +kernel
theorem dX6_isSign_33 : decode cX6_isSign 33 = .ok (.if_icmp .gt 7, 3) := by decide +kernel
theorem dX6_isSign_36 : decode cX6_isSign 36 = .ok (.iconst 1, 1) := by decide +kernel
theorem dX6_isSign_37 : decode cX6_isSign 37 = .ok (.goto 4, 3) := by decide +kernel
theorem dX6_isSign_40 : decode cX6_isSign 40 = .ok (.iconst 0, 1) := by decide +kernel
theorem dX6_isSign_41 : decode cX6_isSign 41 = .ok (.ireturn, 1) := by decide +kernel
theorem dX6_add_0 : decode cX6_add 0 = .ok (.aload_n 0, 1) := by decide +kernel
theorem dX6_add_1 : decode cX6_add 1 = .ok (.getfield 40, 3) := by decide +kernel
theorem dX6_add_4 : decode cX6_add 4 = .ok (.sipush 130, 3) := by decide +kernel
theorem dX6_add_7 : decode cX6_add 7 = .ok (.if_icmp .eq 13, 3) := by decide +kernel
theorem dX6_add_10 : decode cX6_add 10 = .ok (.aload_n 0, 1) := by decide +kernel
theorem dX6_add_11 : decode cX6_add 11 = .ok (.getfield 55, 3) := by decide +kernel
theorem dX6_add_14 : decode cX6_add 14 = .ok (.sipush 500, 3) := by decide +kernel
theorem dX6_add_17 : decode cX6_add 17 = .ok (.if_icmp .lt 5, 3) := by decide +kernel
theorem dX6_add_20 : decode cX6_add 20 = .ok (.iconst 0, 1) := by decide +kernel
theorem dX6_add_21 : decode cX6_add 21 = .ok (.ireturn, 1) := by decide +kernel
theorem dX6_add_22 : decode cX6_add 22 = .ok (.aload_n 0, 1) := by decide +kernel
theorem dX6_add_23 : decode cX6_add 23 = .ok (.getfield 46, 3) := by decide +kernel
theorem dX6_add_26 : decode cX6_add 26 = .ok (.aload_n 0, 1) := by decide +kernel
theorem dX6_add_27 : decode cX6_add 27 = .ok (.getfield 55, 3) := by decide +kernel
theorem dX6_add_30 : decode cX6_add 30 = .ok (.iload_n 1, 1) := by decide +kernel
theorem dX6_add_31 : decode cX6_add 31 = .ok (.iastore, 1) := by decide +kernel
theorem dX6_add_32 : decode cX6_add 32 = .ok (.aload_n 0, 1) := by decide +kernel
theorem dX6_add_33 : decode cX6_add 33 = .ok (.getfield 49, 3) := by decide +kernel
theorem dX6_add_36 : decode cX6_add 36 = .ok (.aload_n 0, 1) := by decide +kernel
theorem dX6_add_37 : decode cX6_add 37 = .ok (.getfield 55, 3) := by decide +kernel
theorem dX6_add_40 : decode cX6_add 40 = .ok (.iload_n 2, 1) := by decide +kernel
theorem dX6_add_41 : decode cX6_add 41 = .ok (.iastore, 1) := by decide +kernel
theorem dX6_add_42 : decode cX6_add 42 = .ok (.aload_n 0, 1) := by decide +kernel
theorem dX6_add_43 : decode cX6_add 43 = .ok (.getfield 52, 3) := by decide +kernel
theorem dX6_add_46 : decode cX6_add 46 = .ok (.aload_n 0, 1) := by decide +kernel
theorem dX6_add_47 : decode cX6_add 47 = .ok (.getfield 55, 3) := by decide +kernel
theorem dX6_add_50 : decode cX6_add 50 = .ok (.iload_n 3, 1) := by decide +kernel
theorem dX6_add_51 : decode cX6_add 51 = .ok (.iastore, 1) := by decide +kernel
theorem dX6_add_52 : decode cX6_add 52 = .ok (.aload_n 0, 1) := by decide +kernel
theorem dX6_add_53 : decode cX6_add 53 = .ok (.dup, 1) := by decide +kernel
theorem dX6_add_54 : decode cX6_add 54 = .ok (.getfield 55, 3) := by decide +kernel
theorem dX6_add_57 : decode cX6_add 57 = .ok (.iconst 1, 1) := by decide +kernel
theorem dX6_add_58 : decode cX6_add 58 = .ok (.iadd, 1) := by decide +kernel
theorem dX6_add_59 : decode cX6_add 59 = .ok (.putfield 55, 3) := by decide +kernel
theorem dX6_add_62 : decode cX6_add 62 = .ok (.aload_n 0, 1) := by decide +kernel
theorem dX6_add_63 : decode cX6_add 63 = .ok (.getfield 55, 3) := by decide +kernel
theorem dX6_add_66 : decode cX6_add 66 = .ok (.iconst 1, 1) := by decide +kernel
theorem dX6_add_67 : decode cX6_add 67 = .ok (.isub, 1) := by decide +kernel
theorem dX6_add_68 : decode cX6_add 68 = .ok (.ireturn, 1) := by decide +kernel
theorem dX7_dressNext_0 : decode cX7_dressNext 0 = .ok (.iconst 0, 1) := by decide +kernel
theorem dX7_dressNext_1 : decode cX7_dressNext 1 = .ok (.istore_n 2, 1) := by decide +kernel
theorem dX7_dressNext_2 : decode cX7_dressNext 2 = .ok (.iload_n 2, 1) := by decide +kernel
theorem dX7_dressNext_3 : decode cX7_dressNext 3 = .ok (.aload_n 1, 1) := by decide +kernel
theorem dX7_dressNext_4 : decode cX7_dressNext 4 = .ok (.getfield 24, 3) := by decide +kernel
theorem dX7_dressNext_7 : decode cX7_dressNext 7 = .ok (.if_icmp .ge 31, 3) := by decide +kernel
theorem dX7_dressNext_10 : decode cX7_dressNext 10 = .ok (.aload_n 0, 1) := by decide +kernel
theorem dX7_dressNext_11 : decode cX7_dressNext 11 = .ok (.getfield 9, 3) := by decide +kernel
theorem dX7_dressNext_14 : decode cX7_dressNext 14 = .ok (.iload_n 2, 1) := by decide +kernel
theorem dX7_dressNext_15 : decode cX7_dressNext 15 = .ok (.iaload, 1) := by decide +kernel
theorem dX7_dressNext_16 : decode cX7_dressNext 16 = .ok (.aload_n 1, 1) := by decide +kernel
theorem dX7_dressNext_17 : decode cX7_dressNext 17 = .ok (.getfield 30, 3) := by decide +kernel
theorem dX7_dressNext_20 : decode cX7_dressNext 20 = .ok (.iconst 1, 1) := by decide +kernel
theorem dX7_dressNext_21 : decode cX7_dressNext 21 = .ok (.isub, 1) := by decide +kernel
theorem dX7_dressNext_22 : decode cX7_dressNext 22 = .ok (.if_icmp .ne 16, 3) := by decide +kernel
theorem dX7_dressNext_25 : decode cX7_dressNext 25 = .ok (.aload_n 0, 1) := by decide +kernel
theorem dX7_dressNext_26 : decode cX7_dressNext 26 = .ok (.getfield 9, 3) := by decide +kernel
theorem dX7_dressNext_29 : decode cX7_dressNext 29 = .ok (.iload_n 2, 1) := by decide +kernel
theorem dX7_dressNext_30 : decode cX7_dressNext 30 = .ok (.iconst 0, 1) := by decide +kernel
theorem dX7_dressNext_31 : decode cX7_dressNext 31 = .ok (.iastore, 1) := by decide +kernel
theorem dX7_dressNext_32 : decode cX7_dressNext 32 = .ok (.iinc 2 1, 3) := by decide +kernel
theorem dX7_dressNext_35 : decode cX7_dressNext 35 = .ok (.goto (-33), 3) := by decide +kernel
theorem dX7_dressNext_38 : decode cX7_dressNext 38 = .ok (.iload_n 2, 1) := by decide +kernel
theorem dX7_dressNext_39 : decode cX7_dressNext 39 = .ok (.aload_n 1, 1) := by decide +kernel
theorem dX7_dressNext_40 : decode cX7_dressNext 40 = .ok (.getfield 24, 3) := by decide +kernel
theorem dX7_dressNext_43 : decode cX7_dressNext 43 = .ok (.if_icmp .ge 13, 3) := by decide +kernel
theorem dX7_dressNext_46 : decode cX7_dressNext 46 = .ok (.aload_n 0, 1) := by decide +kernel
theorem dX7_dressNext_47 : decode cX7_dressNext 47 = .ok (.getfield 9, 3) := by decide +kernel
theorem dX7_dressNext_50 : decode cX7_dressNext 50 = .ok (.iload_n 2, 1) := by decide +kernel
theorem dX7_dressNext_51 : decode cX7_dressNext 51 = .ok (.dup2, 1) := by decide +kernel
theorem dX7_dressNext_52 : decode cX7_dressNext 52 = .ok (.iaload, 1) := by decide +kernel
theorem dX7_dressNext_53 : decode cX7_dressNext 53 = .ok (.iconst 1, 1) := by decide +kernel
theorem dX7_dressNext_54 : decode cX7_dressNext 54 = .ok (.iadd, 1) := by decide +kernel
theorem dX7_dressNext_55 : decode cX7_dressNext 55 = .ok (.iastore, 1) := by decide +kernel
theorem dX7_dressNext_56 : decode cX7_dressNext 56 = .ok (.return_, 1) := by decide +kernel
theorem dX7_changesGuess_0 : decode cX7_changesGuess 0 = .ok (.aload_n 0, 1) := by decide +kernel
theorem dX7_changesGuess_1 : decode cX7_changesGuess 1 = .ok (.getfield 9, 3) := by decide +kernel
theorem dX7_changesGuess_4 : decode cX7_changesGuess 4 = .ok (.iload_n 3, 1) := by decide +kernel
theorem dX7_changesGuess_5 : decode cX7_changesGuess 5 = .ok (.iaload, 1) := by decide +kernel
theorem dX7_changesGuess_6 : decode cX7_changesGuess 6 = .ok (.istore 4, 2) := by decide +kernel
theorem dX7_changesGuess_8 : decode cX7_changesGuess 8 = .ok (.iconst 0, 1) := by decide +kernel
theorem dX7_changesGuess_9 : decode cX7_changesGuess 9 = .ok (.istore 5, 2) := by decide +kernel
theorem dX7_changesGuess_11 : decode cX7_changesGuess 11 = .ok (.iconst 0, 1) := by decide +kernel
theorem dX7_changesGuess_12 : decode cX7_changesGuess 12 = .ok (.istore 6, 2) := by decide +kernel
theorem dX7_changesGuess_14 : decode cX7_changesGuess 14 = .ok (.iload 6, 2) := by decide +kernel
theorem dX7_changesGuess_16 : decode cX7_changesGuess 16 = .ok (.aload_n 1, 1) := by decide +kernel
theorem dX7_changesGuess_17 : decode cX7_changesGuess 17 = .ok (.getfield 30, 3) := by decide +kernel
theorem dX7_changesGuess_20 : decode cX7_changesGuess 20 = .ok (.if_icmp .ge 44, 3) := by decide +kernel
theorem dX7_changesGuess_23 : decode cX7_changesGuess 23 = .ok (.iload 5, 2) := by decide +kernel
theorem dX7_changesGuess_25 : decode cX7_changesGuess 25 = .ok (.ifCond .ne 39, 3) := by decide +kernel
theorem dX7_changesGuess_28 : decode cX7_changesGuess 28 = .ok (.aload_n 0, 1) := by decide +kernel
theorem dX7_changesGuess_29 : decode cX7_changesGuess 29 = .ok (.getfield 9, 3) := by decide +kernel
theorem dX7_changesGuess_32 : decode cX7_changesGuess 32 = .ok (.iload_n 3, 1) := by decide +kernel
theorem dX7_changesGuess_33 : decode cX7_changesGuess 33 = .ok (.iload 6, 2) := by decide +kernel
theorem dX7_changesGuess_35 : decode cX7_changesGuess 35 = .ok (.iastore, 1) := by decide +kernel
theorem dX7_changesGuess_36 : decode cX7_changesGuess 36 = .ok (.aload_n 0, 1) := by decide +kernel
theorem dX7_changesGuess_37 : decode cX7_changesGuess 37 = .ok (.aload_n 1, 1) := by decide +kernel
theorem dX7_changesGuess_38 : decode cX7_changesGuess 38 = .ok (.iload_n 2, 1) := by decide +kernel
theorem dX7_changesGuess_39 : decode cX7_changesGuess 39 = .ok (.invokevirtual 36, 3) := by decide +kernel
theorem dX7_changesGuess_42 : decode cX7_changesGuess 42 = .ok (.aload_n 0, 1) := by decide +kernel
theorem dX7_changesGuess_43 : decode cX7_changesGuess 43 = .ok (.getfield 15, 3) := by decide +kernel
theorem dX7_changesGuess_46 : decode cX7_changesGuess 46 = .ok (.iload_n 2, 1) := by decide +kernel
theorem dX7_changesGuess_47 : decode cX7_changesGuess 47 = .ok (.iaload, 1) := by decide +kernel
theorem dX7_changesGuess_48 : decode cX7_changesGuess 48 = .ok (.if_icmp .eq 7, 3) := by decide +kernel
theorem dX7_changesGuess_51 : decode cX7_changesGuess 51 = .ok (.iconst 1, 1) := by decide +kernel
theorem dX7_changesGuess_52 : decode cX7_changesGuess 52 = .ok (.goto 4, 3) := by decide +kernel
theorem dX7_changesGuess_55 : decode cX7_changesGuess 55 = .ok (.iconst 0, 1) := by decide +kernel
theorem dX7_changesGuess_56 : decode cX7_changesGuess 56 = .ok (.istore 5, 2) := by decide +kernel
theorem dX7_changesGuess_58 : decode cX7_changesGuess 58 = .ok (.iinc 6 1, 3) := by decide +kernel
theorem dX7_changesGuess_61 : decode cX7_changesGuess 61 = .ok (.goto (-47), 3) := by decide +kernel
theorem dX7_changesGuess_64 : decode cX7_changesGuess 64 = .ok (.aload_n 0, 1) := by decide +kernel
theorem dX7_changesGuess_65 : decode cX7_changesGuess 65 = .ok (.getfield 9, 3) := by decide +kernel
theorem dX7_changesGuess_68 : decode cX7_changesGuess 68 = .ok (.iload_n 3, 1) := by decide +kernel
theorem dX7_changesGuess_69 : decode cX7_changesGuess 69 = .ok (.iload 4, 2) := by decide +kernel
theorem dX7_changesGuess_71 : decode cX7_changesGuess 71 = .ok (.iastore, 1) := by decide +kernel
theorem dX7_changesGuess_72 : decode cX7_changesGuess 72 = .ok (.iload 5, 2) := by decide +kernel
theorem dX7_changesGuess_74 : decode cX7_changesGuess 74 = .ok (.ireturn, 1) := by decide +kernel
theorem dX7_looksThatMatter_0 : decode cX7_looksThatMatter 0 = .ok (.iconst 0, 1) := by decide +kernel
theorem dX7_looksThatMatter_1 : decode cX7_looksThatMatter 1 = .ok (.istore 4, 2) := by decide +kernel
theorem dX7_looksThatMatter_3 : decode cX7_looksThatMatter 3 = .ok (.iconst 0, 1) := by decide +kernel
theorem dX7_looksThatMatter_4 : decode cX7_looksThatMatter 4 = .ok (.istore 5, 2) := by decide +kernel
theorem dX7_looksThatMatter_6 : decode cX7_looksThatMatter 6 = .ok (.iload 5, 2) := by decide +kernel
theorem dX7_looksThatMatter_8 : decode cX7_looksThatMatter 8 = .ok (.aload_n 1, 1) := by decide +kernel
theorem dX7_looksThatMatter_9 : decode cX7_looksThatMatter 9 = .ok (.getfield 24, 3) := by decide +kernel
theorem dX7_looksThatMatter_12 : decode cX7_looksThatMatter 12 = .ok (.if_icmp .ge 39, 3) := by decide +kernel
theorem dX7_looksThatMatter_15 : decode cX7_looksThatMatter 15 = .ok (.iload_n 3, 1) := by decide +kernel
theorem dX7_looksThatMatter_16 : decode cX7_looksThatMatter 16 = .ok (.iload 5, 2) := by decide +kernel
theorem dX7_looksThatMatter_18 : decode cX7_looksThatMatter 18 = .ok (.ishr, 1) := by decide +kernel
theorem dX7_looksThatMatter_19 : decode cX7_looksThatMatter 19 = .ok (.iconst 1, 1) := by decide +kernel
theorem dX7_looksThatMatter_20 : decode cX7_looksThatMatter 20 = .ok (.iand, 1) := by decide +kernel
theorem dX7_looksThatMatter_21 : decode cX7_looksThatMatter 21 = .ok (.iconst 1, 1) := by decide +kernel
theorem dX7_looksThatMatter_22 : decode cX7_looksThatMatter 22 = .ok (.if_icmp .ne 23, 3) := by decide +kernel
theorem dX7_looksThatMatter_25 : decode cX7_looksThatMatter 25 = .ok (.aload_n 0, 1) := by decide +kernel
theorem dX7_looksThatMatter_26 : decode cX7_looksThatMatter 26 = .ok (.aload_n 1, 1) := by decide +kernel
theorem dX7_looksThatMatter_27 : decode cX7_looksThatMatter 27 = .ok (.iload_n 2, 1) := by decide +kernel
theorem dX7_looksThatMatter_28 : decode cX7_looksThatMatter 28 = .ok (.iload 5, 2) := by decide +kernel
theorem dX7_looksThatMatter_30 : decode cX7_looksThatMatter 30 = .ok (.invokevirtual 77, 3) := by decide +kernel
theorem dX7_looksThatMatter_33 : decode cX7_looksThatMatter 33 = .ok (.ifCond .eq 12, 3) := by decide +kernel
theorem dX7_looksThatMatter_36 : decode cX7_looksThatMatter 36 = .ok (.iload 4, 2) := by decide +kernel
theorem dX7_looksThatMatter_38 : decode cX7_looksThatMatter 38 = .ok (.iconst 1, 1) := by decide +kernel
theorem dX7_looksThatMatter_39 : decode cX7_looksThatMatter 39 = .ok (.iload 5, 2) := by decide +kernel
theorem dX7_looksThatMatter_41 : decode cX7_looksThatMatter 41 = .ok (.ishl, 1) := by decide +kernel
theorem dX7_looksThatMatter_42 : decode cX7_looksThatMatter 42 = .ok (.ior, 1) := by decide +kernel
theorem dX7_looksThatMatter_43 : decode cX7_looksThatMatter 43 = .ok (.istore 4, 2) := by decide +kernel
theorem dX7_looksThatMatter_45 : decode cX7_looksThatMatter 45 = .ok (.iinc 5 1, 3) := by decide +kernel
theorem dX7_looksThatMatter_48 : decode cX7_looksThatMatter 48 = .ok (.goto (-42), 3) := by decide +kernel
theorem dX7_looksThatMatter_51 : decode cX7_looksThatMatter 51 = .ok (.iload 4, 2) := by decide +kernel
theorem dX7_looksThatMatter_53 : decode cX7_looksThatMatter 53 = .ok (.ireturn, 1) := by decide +kernel
theorem dJ7_fill_031fb_0 : decode cJ7_fill_031fb 0 = .ok (.iconst 0, 1) := by decide +kernel
theorem dJ7_fill_031fb_1 : decode cJ7_fill_031fb 1 = .ok (.istore_n 2, 1) := by decide +kernel
theorem dJ7_fill_031fb_2 : decode cJ7_fill_031fb 2 = .ok (.aload_n 0, 1) := by decide +kernel
theorem dJ7_fill_031fb_3 : decode cJ7_fill_031fb 3 = .ok (.arraylength, 1) := by decide +kernel
theorem dJ7_fill_031fb_4 : decode cJ7_fill_031fb 4 = .ok (.istore_n 3, 1) := by decide +kernel
theorem dJ7_fill_031fb_5 : decode cJ7_fill_031fb 5 = .ok (.iload_n 2, 1) := by decide +kernel
theorem dJ7_fill_031fb_6 : decode cJ7_fill_031fb 6 = .ok (.iload_n 3, 1) := by decide +kernel
theorem dJ7_fill_031fb_7 : decode cJ7_fill_031fb 7 = .ok (.if_icmp .ge 13, 3) := by decide +kernel
theorem dJ7_fill_031fb_10 : decode cJ7_fill_031fb 10 = .ok (.aload_n 0, 1) := by decide +kernel
theorem dJ7_fill_031fb_11 : decode cJ7_fill_031fb 11 = .ok (.iload_n 2, 1) := by decide +kernel
theorem dJ7_fill_031fb_12 : decode cJ7_fill_031fb 12 = .ok (.iload_n 1, 1) := by decide +kernel
theorem dJ7_fill_031fb_13 : decode cJ7_fill_031fb 13 = .ok (.bastore, 1) := by decide +kernel
theorem dJ7_fill_031fb_14 : decode cJ7_fill_031fb 14 = .ok (.iinc 2 1, 3) := by decide +kernel
theorem dJ7_fill_031fb_17 : decode cJ7_fill_031fb 17 = .ok (.goto (-12), 3) := by decide +kernel
theorem dJ7_fill_031fb_20 : decode cJ7_fill_031fb 20 = .ok (.return_, 1) := by decide +kernel
theorem dX8_cellOf_0 : decode cX8_cellOf 0 = .ok (.iload_n 3, 1) := by decide +kernel
theorem dX8_cellOf_1 : decode cX8_cellOf 1 = .ok (.sipush 1024, 3) := by decide +kernel
theorem dX8_cellOf_4 : decode cX8_cellOf 4 = .ok (.imul, 1) := by decide +kernel
theorem dX8_cellOf_5 : decode cX8_cellOf 5 = .ok (.aload_n 2, 1) := by decide +kernel
theorem dX8_cellOf_6 : decode cX8_cellOf 6 = .ok (.aload_n 1, 1) := by decide +kernel
theorem dX8_cellOf_7 : decode cX8_cellOf 7 = .ok (.iload_n 3, 1) := by decide +kernel
theorem dX8_cellOf_8 : decode cX8_cellOf 8 = .ok (.invokevirtual 68, 3) := by decide +kernel
theorem dX8_cellOf_11 : decode cX8_cellOf 11 = .ok (.iadd, 1) := by decide +kernel
theorem dX8_cellOf_12 : decode cX8_cellOf 12 = .ok (.ireturn, 1) := by decide +kernel
theorem dX8_someoneIsRight_0 : decode cX8_someoneIsRight 0 = .ok (.iconst 0, 1) := by decide +kernel
theorem dX8_someoneIsRight_1 : decode cX8_someoneIsRight 1 = .ok (.istore_n 3, 1) := by decide +kernel
theorem dX8_someoneIsRight_2 : decode cX8_someoneIsRight 2 = .ok (.iload_n 3, 1) := by decide +kernel
theorem dX8_someoneIsRight_3 : decode cX8_someoneIsRight 3 = .ok (.aload_n 1, 1) := by decide +kernel
theorem dX8_someoneIsRight_4 : decode cX8_someoneIsRight 4 = .ok (.getfield 65, 3) := by decide +kernel
theorem dX8_someoneIsRight_7 : decode cX8_someoneIsRight 7 = .ok (.if_icmp .ge 34, 3) := by decide +kernel
theorem dX8_someoneIsRight_10 : decode cX8_someoneIsRight 10 = .ok (.aload_n 0, 1) := by decide +kernel
theorem dX8_someoneIsRight_11 : decode cX8_someoneIsRight 11 = .ok (.getfield 15, 3) := by decide +kernel
theorem dX8_someoneIsRight_14 : decode cX8_someoneIsRight 14 = .ok (.aload_n 0, 1) := by decide +kernel
theorem dX8_someoneIsRight_15 : decode cX8_someoneIsRight 15 = .ok (.aload_n 1, 1) := by decide +kernel
theorem dX8_someoneIsRight_16 : decode cX8_someoneIsRight 16 = .ok (.aload_n 2, 1) := by decide +kernel
theorem dX8_someoneIsRight_17 : decode cX8_someoneIsRight 17 = .ok (.iload_n 3, 1) := by decide +kernel
theorem dX8_someoneIsRight_18 : decode cX8_someoneIsRight 18 = .ok (.invokevirtual 50, 3) := by decide +kernel
theorem dX8_someoneIsRight_21 : decode cX8_someoneIsRight 21 = .ok (.baload, 1) := by decide +kernel
theorem dX8_someoneIsRight_22 : decode cX8_someoneIsRight 22 = .ok (.aload_n 2, 1) := by decide +kernel
theorem dX8_someoneIsRight_23 : decode cX8_someoneIsRight 23 = .ok (.getfield 53, 3) := by decide +kernel
theorem dX8_someoneIsRight_26 : decode cX8_someoneIsRight 26 = .ok (.iload_n 3, 1) := by decide +kernel
theorem dX8_someoneIsRight_27 : decode cX8_someoneIsRight 27 = .ok (.iaload, 1) := by decide +kernel
theorem dX8_someoneIsRight_28 : decode cX8_someoneIsRight 28 = .ok (.iconst 1, 1) := by decide +kernel
theorem dX8_someoneIsRight_29 : decode cX8_someoneIsRight 29 = .ok (.iadd, 1) := by decide +kernel
theorem dX8_someoneIsRight_30 : decode cX8_someoneIsRight 30 = .ok (.if_icmp .ne 5, 3) := by decide +kernel
theorem dX8_someoneIsRight_33 : decode cX8_someoneIsRight 33 = .ok (.iconst 1, 1) := by decide +kernel
theorem dX8_someoneIsRight_34 : decode cX8_someoneIsRight 34 = .ok (.ireturn, 1) := by decide +kernel
theorem dX8_someoneIsRight_35 : decode cX8_someoneIsRight 35 = .ok (.iinc 3 1, 3) := by decide +kernel
theorem dX8_someoneIsRight_38 : decode cX8_someoneIsRight 38 = .ok (.goto (-36), 3) := by decide +kernel
theorem dX8_someoneIsRight_41 : decode cX8_someoneIsRight 41 = .ok (.iconst 0, 1) := by decide +kernel
theorem dX8_someoneIsRight_42 : decode cX8_someoneIsRight 42 = .ok (.ireturn, 1) := by decide +kernel
theorem dX8_rowNotRight_0 : decode cX8_rowNotRight 0 = .ok (.aload_n 2, 1) := by decide +kernel
theorem dX8_rowNotRight_1 : decode cX8_rowNotRight 1 = .ok (.aload_n 1, 1) := by decide +kernel
theorem dX8_rowNotRight_2 : decode cX8_rowNotRight 2 = .ok (.iload_n 3, 1) := by decide +kernel
theorem dX8_rowNotRight_3 : decode cX8_rowNotRight 3 = .ok (.invokevirtual 41, 3) := by decide +kernel
theorem dX8_rowNotRight_6 : decode cX8_rowNotRight 6 = .ok (.iload_n 3, 1) := by decide +kernel
theorem dX8_rowNotRight_7 : decode cX8_rowNotRight 7 = .ok (.istore 4, 2) := by decide +kernel
theorem dX8_rowNotRight_9 : decode cX8_rowNotRight 9 = .ok (.iload 4, 2) := by decide +kernel
theorem dX8_rowNotRight_11 : decode cX8_rowNotRight 11 = .ok (.aload_n 1, 1) := by decide +kernel
theorem dX8_rowNotRight_12 : decode cX8_rowNotRight 12 = .ok (.getfield 36, 3) := by decide +kernel
theorem dX8_rowNotRight_15 : decode cX8_rowNotRight 15 = .ok (.if_icmp .ge 26, 3) := by decide +kernel
theorem dX8_rowNotRight_18 : decode cX8_rowNotRight 18 = .ok (.aload_n 0, 1) := by decide +kernel
theorem dX8_rowNotRight_19 : decode cX8_rowNotRight 19 = .ok (.aload_n 1, 1) := by decide +kernel
theorem dX8_rowNotRight_20 : decode cX8_rowNotRight 20 = .ok (.aload_n 2, 1) := by decide +kernel
theorem dX8_rowNotRight_21 : decode cX8_rowNotRight 21 = .ok (.invokevirtual 57, 3) := by decide +kernel
theorem dX8_rowNotRight_24 : decode cX8_rowNotRight 24 = .ok (.ifCond .ne 6, 3) := by decide +kernel
theorem dX8_rowNotRight_27 : decode cX8_rowNotRight 27 = .ok (.iload 4, 2) := by decide +kernel
theorem dX8_rowNotRight_29 : decode cX8_rowNotRight 29 = .ok (.ireturn, 1) := by decide +kernel
theorem dX8_rowNotRight_30 : decode cX8_rowNotRight 30 = .ok (.aload_n 2, 1) := by decide +kernel
theorem dX8_rowNotRight_31 : decode cX8_rowNotRight 31 = .ok (.aload_n 1, 1) := by decide +kernel
theorem dX8_rowNotRight_32 : decode cX8_rowNotRight 32 = .ok (.invokevirtual 61, 3) := by decide +kernel
theorem dX8_rowNotRight_35 : decode cX8_rowNotRight 35 = .ok (.iinc 4 1, 3) := by decide +kernel
theorem dX8_rowNotRight_38 : decode cX8_rowNotRight 38 = .ok (.goto (-29), 3) := by decide +kernel
theorem dX8_rowNotRight_41 : decode cX8_rowNotRight 41 = .ok (.aload_n 1, 1) := by decide +kernel
theorem dX8_rowNotRight_42 : decode cX8_rowNotRight 42 = .ok (.getfield 36, 3) := by decide +kernel
theorem dX8_rowNotRight_45 : decode cX8_rowNotRight 45 = .ok (.ireturn, 1) := by decide +kernel
theorem dX8_unsettledWearer_0 : decode cX8_unsettledWearer 0 = .ok (.iload_n 3, 1) := by decide +kernel
theorem dX8_unsettledWearer_1 : decode cX8_unsettledWearer 1 = .ok (.istore 4, 2) := by decide +kernel
theorem dX8_unsettledWearer_3 : decode cX8_unsettledWearer 3 = .ok (.iload 4, 2) := by decide +kernel
theorem dX8_unsettledWearer_5 : decode cX8_unsettledWearer 5 = .ok (.aload_n 1, 1) := by decide +kernel
theorem dX8_unsettledWearer_6 : decode cX8_unsettledWearer 6 = .ok (.getfield 65, 3) := by decide +kernel
theorem dX8_unsettledWearer_9 : decode cX8_unsettledWearer 9 = .ok (.if_icmp .ge 28, 3) := by decide +kernel
theorem dX8_unsettledWearer_12 : decode cX8_unsettledWearer 12 = .ok (.aload_n 0, 1) := by decide +kernel
theorem dX8_unsettledWearer_13 : decode cX8_unsettledWearer 13 = .ok (.getfield 15, 3) := by decide +kernel
theorem dX8_unsettledWearer_16 : decode cX8_unsettledWearer 16 = .ok (.aload_n 0, 1) := by decide +kernel
theorem dX8_unsettledWearer_17 : decode cX8_unsettledWearer 17 = .ok (.aload_n 1, 1) := by decide +kernel
theorem dX8_unsettledWearer_18 : decode cX8_unsettledWearer 18 = .ok (.aload_n 2, 1) := by decide +kernel
theorem dX8_unsettledWearer_19 : decode cX8_unsettledWearer 19 = .ok (.iload 4, 2) := by decide +kernel
theorem dX8_unsettledWearer_21 : decode cX8_unsettledWearer 21 = .ok (.invokevirtual 50, 3) := by decide +kernel
theorem dX8_unsettledWearer_24 : decode cX8_unsettledWearer 24 = .ok (.baload, 1) := by decide +kernel
theorem dX8_unsettledWearer_25 : decode cX8_unsettledWearer 25 = .ok (.ifCond .ne 6, 3) := by decide +kernel
theorem dX8_unsettledWearer_28 : decode cX8_unsettledWearer 28 = .ok (.iload 4, 2) := by decide +kernel
theorem dX8_unsettledWearer_30 : decode cX8_unsettledWearer 30 = .ok (.ireturn, 1) := by decide +kernel
theorem dX8_unsettledWearer_31 : decode cX8_unsettledWearer 31 = .ok (.iinc 4 1, 3) := by decide +kernel
theorem dX8_unsettledWearer_34 : decode cX8_unsettledWearer 34 = .ok (.goto (-31), 3) := by decide +kernel
theorem dX8_unsettledWearer_37 : decode cX8_unsettledWearer 37 = .ok (.iconst (-1), 1) := by decide +kernel
theorem dX8_unsettledWearer_38 : decode cX8_unsettledWearer 38 = .ok (.ireturn, 1) := by decide +kernel
theorem dX8_seek_0 : decode cX8_seek 0 = .ok (.aload_n 0, 1) := by decide +kernel
theorem dX8_seek_1 : decode cX8_seek 1 = .ok (.getfield 15, 3) := by decide +kernel
theorem dX8_seek_4 : decode cX8_seek 4 = .ok (.iconst 0, 1) := by decide +kernel
theorem dX8_seek_5 : decode cX8_seek 5 = .ok (.invokestatic 26, 3) := by decide +kernel
theorem dX8_seek_8 : decode cX8_seek 8 = .ok (.aload_n 0, 1) := by decide +kernel
theorem dX8_seek_9 : decode cX8_seek 9 = .ok (.iconst 0, 1) := by decide +kernel
theorem dX8_seek_10 : decode cX8_seek 10 = .ok (.putfield 9, 3) := by decide +kernel
theorem dX8_seek_13 : decode cX8_seek 13 = .ok (.iconst 0, 1) := by decide +kernel
theorem dX8_seek_14 : decode cX8_seek 14 = .ok (.istore 4, 2) := by decide +kernel
theorem dX8_seek_16 : decode cX8_seek 16 = .ok (.aload_n 0, 1) := by decide +kernel
theorem dX8_seek_17 : decode cX8_seek 17 = .ok (.aload_n 1, 1) := by decide +kernel
theorem dX8_seek_18 : decode cX8_seek 18 = .ok (.aload_n 2, 1) := by decide +kernel
theorem dX8_seek_19 : decode cX8_seek 19 = .ok (.iconst 0, 1) := by decide +kernel
theorem dX8_seek_20 : decode cX8_seek 20 = .ok (.invokevirtual 32, 3) := by decide +kernel
theorem dX8_seek_23 : decode cX8_seek 23 = .ok (.istore 5, 2) := by decide +kernel
theorem dX8_seek_25 : decode cX8_seek 25 = .ok (.iconst 0, 1) := by decide +kernel
theorem dX8_seek_26 : decode cX8_seek 26 = .ok (.istore 6, 2) := by decide +kernel
theorem dX8_seek_28 : decode cX8_seek 28 = .ok (.iconst 0, 1) := by decide +kernel
theorem dX8_seek_29 : decode cX8_seek 29 = .ok (.istore 7, 2) := by decide +kernel
theorem dX8_seek_31 : decode cX8_seek 31 = .ok (.iload 7, 2) := by decide +kernel
theorem dX8_seek_33 : decode cX8_seek 33 = .ok (.iconst 2, 1) := by decide +kernel
theorem dX8_seek_34 : decode cX8_seek 34 = .ok (.iload_n 3, 1) := by decide +kernel
theorem dX8_seek_35 : decode cX8_seek 35 = .ok (.imul, 1) := by decide +kernel
theorem dX8_seek_36 : decode cX8_seek 36 = .ok (.iconst 1, 1) := by decide +kernel
theorem dX8_seek_37 : decode cX8_seek 37 = .ok (.iadd, 1) := by decide +kernel
theorem dX8_seek_38 : decode cX8_seek 38 = .ok (.if_icmp .gt 190, 3) := by decide +kernel
theorem dX8_seek_41 : decode cX8_seek 41 = .ok (.iload 5, 2) := by decide +kernel
theorem dX8_seek_43 : decode cX8_seek 43 = .ok (.aload_n 1, 1) := by decide +kernel
theorem dX8_seek_44 : decode cX8_seek 44 = .ok (.getfield 36, 3) := by decide +kernel
theorem dX8_seek_47 : decode cX8_seek 47 = .ok (.if_icmp .ge 181, 3) := by decide +kernel
theorem dX8_seek_50 : decode cX8_seek 50 = .ok (.aload_n 2, 1) := by decide +kernel
theorem dX8_seek_51 : decode cX8_seek 51 = .ok (.aload_n 1, 1) := by decide +kernel
theorem dX8_seek_52 : decode cX8_seek 52 = .ok (.iload 5, 2) := by decide +kernel
theorem dX8_seek_54 : decode cX8_seek 54 = .ok (.invokevirtual 41, 3) := by decide +kernel
theorem dX8_seek_57 : decode cX8_seek 57 = .ok (.aload_n 0, 1) := by decide +kernel
theorem dX8_seek_58 : decode cX8_seek 58 = .ok (.aload_n 1, 1) := by decide +kernel
theorem dX8_seek_59 : decode cX8_seek 59 = .ok (.aload_n 2, 1) := by decide +kernel
theorem dX8_seek_60 : decode cX8_seek 60 = .ok (.iload 6, 2) := by decide +kernel
theorem dX8_seek_62 : decode cX8_seek 62 = .ok (.invokevirtual 47, 3) := by decide +kernel
theorem dX8_seek_65 : decode cX8_seek 65 = .ok (.istore 8, 2) := by decide +kernel
theorem dX8_seek_67 : decode cX8_seek 67 = .ok (.iload 8, 2) := by decide +kernel
theorem dX8_seek_69 : decode cX8_seek 69 = .ok (.iconst (-1), 1) := by decide +kernel
theorem dX8_seek_70 : decode cX8_seek 70 = .ok (.if_icmp .eq 96, 3) := by decide +kernel
theorem dX8_seek_73 : decode cX8_seek 73 = .ok (.aload_n 0, 1) := by decide +kernel
theorem dX8_seek_74 : decode cX8_seek 74 = .ok (.getfield 9, 3) := by decide +kernel
theorem dX8_seek_77 : decode cX8_seek 77 = .ok (.iload_n 3, 1) := by decide +kernel
theorem dX8_seek_78 : decode cX8_seek 78 = .ok (.if_icmp .ge 11, 3) := by decide +kernel
theorem dX8_seek_81 : decode cX8_seek 81 = .ok (.iload 4, 2) := by decide +kernel
theorem dX8_seek_83 : decode cX8_seek 83 = .ok (.sipush 5000, 3) := by decide +kernel
theorem dX8_seek_86 : decode cX8_seek 86 = .ok (.if_icmp .lt 6, 3) := by decide +kernel
theorem dX8_seek_89 : decode cX8_seek 89 = .ok (.bipush (-2), 2) := by decide +kernel
theorem dX8_seek_91 : decode cX8_seek 91 = .ok (.ireturn, 1) := by decide +kernel
theorem dX8_seek_92 : decode cX8_seek 92 = .ok (.aload_n 0, 1) := by decide +kernel
theorem dX8_seek_93 : decode cX8_seek 93 = .ok (.getfield 15, 3) := by decide +kernel
theorem dX8_seek_96 : decode cX8_seek 96 = .ok (.aload_n 0, 1) := by decide +kernel
theorem dX8_seek_97 : decode cX8_seek 97 = .ok (.aload_n 1, 1) := by decide +kernel
theorem dX8_seek_98 : decode cX8_seek 98 = .ok (.aload_n 2, 1) := by decide +kernel
theorem dX8_seek_99 : decode cX8_seek 99 = .ok (.iload 8, 2) := by decide +kernel
theorem dX8_seek_101 : decode cX8_seek 101 = .ok (.invokevirtual 50, 3) := by decide +kernel
theorem dX8_seek_104 : decode cX8_seek 104 = .ok (.aload_n 2, 1) := by decide +kernel
theorem dX8_seek_105 : decode cX8_seek 105 = .ok (.getfield 53, 3) := by decide +kernel
theorem dX8_seek_108 : decode cX8_seek 108 = .ok (.iload 8, 2) := by decide +kernel
theorem dX8_seek_110 : decode cX8_seek 110 = .ok (.iaload, 1) := by decide +kernel
theorem dX8_seek_111 : decode cX8_seek 111 = .ok (.iconst 1, 1) := by decide +kernel
theorem dX8_seek_112 : decode cX8_seek 112 = .ok (.iadd, 1) := by decide +kernel
theorem dX8_seek_113 : decode cX8_seek 113 = .ok (.i2b, 1) := by decide +kernel
theorem dX8_seek_114 : decode cX8_seek 114 = .ok (.bastore, 1) := by decide +kernel
theorem dX8_seek_115 : decode cX8_seek 115 = .ok (.aload_n 0, 1) := by decide +kernel
theorem dX8_seek_116 : decode cX8_seek 116 = .ok (.getfield 19, 3) := by decide +kernel
theorem dX8_seek_119 : decode cX8_seek 119 = .ok (.iload 4, 2) := by decide +kernel
theorem dX8_seek_121 : decode cX8_seek 121 = .ok (.iload 5, 2) := by decide +kernel
theorem dX8_seek_123 : decode cX8_seek 123 = .ok (.i2s, 1) := by decide +kernel
theorem dX8_seek_124 : decode cX8_seek 124 = .ok (.sastore, 1) := by decide +kernel
theorem dX8_seek_125 : decode cX8_seek 125 = .ok (.aload_n 0, 1) := by decide +kernel
theorem dX8_seek_126 : decode cX8_seek 126 = .ok (.getfield 23, 3) := by decide +kernel
theorem dX8_seek_129 : decode cX8_seek 129 = .ok (.iload 4, 2) := by decide +kernel
theorem dX8_seek_131 : decode cX8_seek 131 = .ok (.iload 8, 2) := by decide +kernel
theorem dX8_seek_133 : decode cX8_seek 133 = .ok (.i2b, 1) := by decide +kernel
theorem dX8_seek_134 : decode cX8_seek 134 = .ok (.bastore, 1) := by decide +kernel
theorem dX8_seek_135 : decode cX8_seek 135 = .ok (.iinc 4 1, 3) := by decide +kernel
theorem dX8_seek_138 : decode cX8_seek 138 = .ok (.aload_n 0, 1) := by decide +kernel
theorem dX8_seek_139 : decode cX8_seek 139 = .ok (.dup, 1) := by decide +kernel
theorem dX8_seek_140 : decode cX8_seek 140 = .ok (.getfield 9, 3) := by decide +kernel
theorem dX8_seek_143 : decode cX8_seek 143 = .ok (.iconst 1, 1) := by decide +kernel
theorem dX8_seek_144 : decode cX8_seek 144 = .ok (.iadd, 1) := by decide +kernel
theorem dX8_seek_145 : decode cX8_seek 145 = .ok (.putfield 9, 3) := by decide +kernel
theorem dX8_seek_148 : decode cX8_seek 148 = .ok (.aload_n 0, 1) := by decide +kernel
theorem dX8_seek_149 : decode cX8_seek 149 = .ok (.aload_n 1, 1) := by decide +kernel
theorem dX8_seek_150 : decode cX8_seek 150 = .ok (.aload_n 2, 1) := by decide +kernel
theorem dX8_seek_151 : decode cX8_seek 151 = .ok (.iload 5, 2) := by decide +kernel
theorem dX8_seek_153 : decode cX8_seek 153 = .ok (.iconst 1, 1) := by decide +kernel
theorem dX8_seek_154 : decode cX8_seek 154 = .ok (.iadd, 1) := by decide +kernel
theorem dX8_seek_155 : decode cX8_seek 155 = .ok (.invokevirtual 32, 3) := by decide +kernel
theorem dX8_seek_158 : decode cX8_seek 158 = .ok (.istore 5, 2) := by decide +kernel
theorem dX8_seek_160 : decode cX8_seek 160 = .ok (.iconst 0, 1) := by decide +kernel
theorem dX8_seek_161 : decode cX8_seek 161 = .ok (.istore 6, 2) := by decide +kernel
theorem dX8_seek_163 : decode cX8_seek 163 = .ok (.goto 59, 3) := by decide +kernel
theorem dX8_seek_166 : decode cX8_seek 166 = .ok (.iload 4, 2) := by decide +kernel
theorem dX8_seek_168 : decode cX8_seek 168 = .ok (.ifCond .ne 5, 3) := by decide +kernel
theorem dX8_seek_171 : decode cX8_seek 171 = .ok (.iconst 0, 1) := by decide +kernel
theorem dX8_seek_172 : decode cX8_seek 172 = .ok (.ireturn, 1) := by decide +kernel
theorem dX8_seek_173 : decode cX8_seek 173 = .ok (.iinc 4 (-1), 3) := by decide +kernel
theorem dX8_seek_176 : decode cX8_seek 176 = .ok (.aload_n 0, 1) := by decide +kernel
theorem dX8_seek_177 : decode cX8_seek 177 = .ok (.getfield 19, 3) := by decide +kernel
theorem dX8_seek_180 : decode cX8_seek 180 = .ok (.iload 4, 2) := by decide +kernel
theorem dX8_seek_182 : decode cX8_seek 182 = .ok (.saload, 1) := by decide +kernel
theorem dX8_seek_183 : decode cX8_seek 183 = .ok (.istore 5, 2) := by decide +kernel
theorem dX8_seek_185 : decode cX8_seek 185 = .ok (.aload_n 2, 1) := by decide +kernel
theorem dX8_seek_186 : decode cX8_seek 186 = .ok (.aload_n 1, 1) := by decide +kernel
theorem dX8_seek_187 : decode cX8_seek 187 = .ok (.iload 5, 2) := by decide +kernel
theorem dX8_seek_189 : decode cX8_seek 189 = .ok (.invokevirtual 41, 3) := by decide +kernel
theorem dX8_seek_192 : decode cX8_seek 192 = .ok (.aload_n 0, 1) := by decide +kernel
theorem dX8_seek_193 : decode cX8_seek 193 = .ok (.getfield 15, 3) := by decide +kernel
theorem dX8_seek_196 : decode cX8_seek 196 = .ok (.aload_n 0, 1) := by decide +kernel
theorem dX8_seek_197 : decode cX8_seek 197 = .ok (.aload_n 1, 1) := by decide +kernel
theorem dX8_seek_198 : decode cX8_seek 198 = .ok (.aload_n 2, 1) := by decide +kernel
theorem dX8_seek_199 : decode cX8_seek 199 = .ok (.aload_n 0, 1) := by decide +kernel
theorem dX8_seek_200 : decode cX8_seek 200 = .ok (.getfield 23, 3) := by decide +kernel
theorem dX8_seek_203 : decode cX8_seek 203 = .ok (.iload 4, 2) := by decide +kernel
theorem dX8_seek_205 : decode cX8_seek 205 = .ok (.baload, 1) := by decide +kernel
theorem dX8_seek_206 : decode cX8_seek 206 = .ok (.invokevirtual 50, 3) := by decide +kernel
theorem dX8_seek_209 : decode cX8_seek 209 = .ok (.iconst 0, 1) := by decide +kernel
theorem dX8_seek_210 : decode cX8_seek 210 = .ok (.bastore, 1) := by decide +kernel
theorem dX8_seek_211 : decode cX8_seek 211 = .ok (.aload_n 0, 1) := by decide +kernel
theorem dX8_seek_212 : decode cX8_seek 212 = .ok (.getfield 23, 3) := by decide +kernel
theorem dX8_seek_215 : decode cX8_seek 215 = .ok (.iload 4, 2) := by decide +kernel
theorem dX8_seek_217 : decode cX8_seek 217 = .ok (.baload, 1) := by decide +kernel
theorem dX8_seek_218 : decode cX8_seek 218 = .ok (.iconst 1, 1) := by decide +kernel
theorem dX8_seek_219 : decode cX8_seek 219 = .ok (.iadd, 1) := by decide +kernel
theorem dX8_seek_220 : decode cX8_seek 220 = .ok (.istore 6, 2) := by decide +kernel
theorem dX8_seek_222 : decode cX8_seek 222 = .ok (.iinc 7 1, 3) := by decide +kernel
theorem dX8_seek_225 : decode cX8_seek 225 = .ok (.goto (-194), 3) := by decide +kernel
theorem dX8_seek_228 : decode cX8_seek 228 = .ok (.iload 5, 2) := by decide +kernel
theorem dX8_seek_230 : decode cX8_seek 230 = .ok (.aload_n 1, 1) := by decide +kernel
theorem dX8_seek_231 : decode cX8_seek 231 = .ok (.getfield 36, 3) := by decide +kernel
theorem dX8_seek_234 : decode cX8_seek 234 = .ok (.if_icmp .ge 8, 3) := by decide +kernel
theorem dX8_seek_237 : decode cX8_seek 237 = .ok (.bipush (-2), 2) := by decide +kernel
theorem dX8_seek_239 : decode cX8_seek 239 = .ok (.goto 4, 3) := by decide +kernel
theorem dX8_seek_242 : decode cX8_seek 242 = .ok (.iconst 1, 1) := by decide +kernel
theorem dX8_seek_243 : decode cX8_seek 243 = .ok (.ireturn, 1) := by decide +kernel
theorem dX8_settle_0 : decode cX8_settle 0 = .ok (.iconst 0, 1) := by decide +kernel
theorem dX8_settle_1 : decode cX8_settle 1 = .ok (.istore_n 2, 1) := by decide +kernel
theorem dX8_settle_2 : decode cX8_settle 2 = .ok (.iload_n 2, 1) := by decide +kernel
theorem dX8_settle_3 : decode cX8_settle 3 = .ok (.aload_n 1, 1) := by decide +kernel
theorem dX8_settle_4 : decode cX8_settle 4 = .ok (.getfield 65, 3) := by decide +kernel
theorem dX8_settle_7 : decode cX8_settle 7 = .ok (.if_icmp .ge 65, 3) := by decide +kernel
theorem dX8_settle_10 : decode cX8_settle 10 = .ok (.aload_n 1, 1) := by decide +kernel
theorem dX8_settle_11 : decode cX8_settle 11 = .ok (.iload_n 2, 1) := by decide +kernel
theorem dX8_settle_12 : decode cX8_settle 12 = .ok (.invokevirtual 72, 3) := by decide +kernel
theorem dX8_settle_15 : decode cX8_settle 15 = .ok (.iconst 0, 1) := by decide +kernel
theorem dX8_settle_16 : decode cX8_settle 16 = .ok (.istore_n 3, 1) := by decide +kernel
theorem dX8_settle_17 : decode cX8_settle 17 = .ok (.iload_n 3, 1) := by decide +kernel
theorem dX8_settle_18 : decode cX8_settle 18 = .ok (.aload_n 1, 1) := by decide +kernel
theorem dX8_settle_19 : decode cX8_settle 19 = .ok (.getfield 76, 3) := by decide +kernel
theorem dX8_settle_22 : decode cX8_settle 22 = .ok (.iload_n 2, 1) := by decide +kernel
theorem dX8_settle_23 : decode cX8_settle 23 = .ok (.iaload, 1) := by decide +kernel
theorem dX8_settle_24 : decode cX8_settle 24 = .ok (.if_icmp .ge 42, 3) := by decide +kernel
theorem dX8_settle_27 : decode cX8_settle 27 = .ok (.aload_n 0, 1) := by decide +kernel
theorem dX8_settle_28 : decode cX8_settle 28 = .ok (.getfield 15, 3) := by decide +kernel
theorem dX8_settle_31 : decode cX8_settle 31 = .ok (.iload_n 2, 1) := by decide +kernel
theorem dX8_settle_32 : decode cX8_settle 32 = .ok (.sipush 1024, 3) := by decide +kernel
theorem dX8_settle_35 : decode cX8_settle 35 = .ok (.imul, 1) := by decide +kernel
theorem dX8_settle_36 : decode cX8_settle 36 = .ok (.iload_n 3, 1) := by decide +kernel
theorem dX8_settle_37 : decode cX8_settle 37 = .ok (.iadd, 1) := by decide +kernel
theorem dX8_settle_38 : decode cX8_settle 38 = .ok (.baload, 1) := by decide +kernel
theorem dX8_settle_39 : decode cX8_settle 39 = .ok (.iconst 1, 1) := by decide +kernel
theorem dX8_settle_40 : decode cX8_settle 40 = .ok (.isub, 1) := by decide +kernel
theorem dX8_settle_41 : decode cX8_settle 41 = .ok (.istore 4, 2) := by decide +kernel
theorem dX8_settle_43 : decode cX8_settle 43 = .ok (.aload_n 1, 1) := by decide +kernel
theorem dX8_settle_44 : decode cX8_settle 44 = .ok (.iload_n 2, 1) := by decide +kernel
theorem dX8_settle_45 : decode cX8_settle 45 = .ok (.iload_n 3, 1) := by decide +kernel
theorem dX8_settle_46 : decode cX8_settle 46 = .ok (.iload 4, 2) := by decide +kernel
theorem dX8_settle_48 : decode cX8_settle 48 = .ok (.ifCond .ge 7, 3) := by decide +kernel
theorem dX8_settle_51 : decode cX8_settle 51 = .ok (.iconst 0, 1) := by decide +kernel
theorem dX8_settle_52 : decode cX8_settle 52 = .ok (.goto 5, 3) := by decide +kernel
theorem dX8_settle_55 : decode cX8_settle 55 = .ok (.iload 4, 2) := by decide +kernel
theorem dX8_settle_57 : decode cX8_settle 57 = .ok (.invokevirtual 79, 3) := by decide +kernel
theorem dX8_settle_60 : decode cX8_settle 60 = .ok (.iinc 3 1, 3) := by decide +kernel
theorem dX8_settle_63 : decode cX8_settle 63 = .ok (.goto (-46), 3) := by decide +kernel
theorem dX8_settle_66 : decode cX8_settle 66 = .ok (.iinc 2 1, 3) := by decide +kernel
theorem dX8_settle_69 : decode cX8_settle 69 = .ok (.goto (-67), 3) := by decide +kernel
theorem dX8_settle_72 : decode cX8_settle 72 = .ok (.return_, 1) := by decide +kernel
theorem dX9_needsOf_0 : decode cX9_needsOf 0 = .ok (.iconst 0, 1) := by decide +kernel
theorem dX9_needsOf_1 : decode cX9_needsOf 1 = .ok (.istore_n 3, 1) := by decide +kernel
theorem dX9_needsOf_2 : decode cX9_needsOf 2 = .ok (.iconst 0, 1) := by decide +kernel
theorem dX9_needsOf_3 : decode cX9_needsOf 3 = .ok (.istore 4, 2) := by decide +kernel
theorem dX9_needsOf_5 : decode cX9_needsOf 5 = .ok (.iload 4, 2) := by decide +kernel
theorem dX9_needsOf_7 : decode cX9_needsOf 7 = .ok (.aload_n 1, 1) := by decide +kernel
theorem dX9_needsOf_8 : decode cX9_needsOf 8 = .ok (.getfield 33, 3) := by decide +kernel
theorem dX9_needsOf_11 : decode cX9_needsOf 11 = .ok (.if_icmp .ge 78, 3) := by decide +kernel
theorem dX9_needsOf_14 : decode cX9_needsOf 14 = .ok (.aload_n 2, 1) := by decide +kernel
theorem dX9_needsOf_15 : decode cX9_needsOf 15 = .ok (.getfield 81, 3) := by decide +kernel
theorem dX9_needsOf_18 : decode cX9_needsOf 18 = .ok (.iload 4, 2) := by decide +kernel
theorem dX9_needsOf_20 : decode cX9_needsOf 20 = .ok (.iaload, 1) := by decide +kernel
theorem dX9_needsOf_21 : decode cX9_needsOf 21 = .ok (.istore 5, 2) := by decide +kernel
theorem dX9_needsOf_23 : decode cX9_needsOf 23 = .ok (.iconst 0, 1) := by decide +kernel
theorem dX9_needsOf_24 : decode cX9_needsOf 24 = .ok (.istore 6, 2) := by decide +kernel
theorem dX9_needsOf_26 : decode cX9_needsOf 26 = .ok (.iload 6, 2) := by decide +kernel
theorem dX9_needsOf_28 : decode cX9_needsOf 28 = .ok (.aload_n 1, 1) := by decide +kernel
theorem dX9_needsOf_29 : decode cX9_needsOf 29 = .ok (.getfield 33, 3) := by decide +kernel
theorem dX9_needsOf_32 : decode cX9_needsOf 32 = .ok (.if_icmp .ge 34, 3) := by decide +kernel
theorem dX9_needsOf_35 : decode cX9_needsOf 35 = .ok (.iload 5, 2) := by decide +kernel
theorem dX9_needsOf_37 : decode cX9_needsOf 37 = .ok (.aload_n 1, 1) := by decide +kernel
theorem dX9_needsOf_38 : decode cX9_needsOf 38 = .ok (.getfield 84, 3) := by decide +kernel
theorem dX9_needsOf_41 : decode cX9_needsOf 41 = .ok (.iload 4, 2) := by decide +kernel
theorem dX9_needsOf_43 : decode cX9_needsOf 43 = .ok (.iaload, 1) := by decide +kernel
theorem dX9_needsOf_44 : decode cX9_needsOf 44 = .ok (.iload 6, 2) := by decide +kernel
theorem dX9_needsOf_46 : decode cX9_needsOf 46 = .ok (.ishr, 1) := by decide +kernel
theorem dX9_needsOf_47 : decode cX9_needsOf 47 = .ok (.iconst 1, 1) := by decide +kernel
theorem dX9_needsOf_48 : decode cX9_needsOf 48 = .ok (.iand, 1) := by decide +kernel
theorem dX9_needsOf_49 : decode cX9_needsOf 49 = .ok (.aload_n 2, 1) := by decide +kernel
theorem dX9_needsOf_50 : decode cX9_needsOf 50 = .ok (.getfield 81, 3) := by decide +kernel
theorem dX9_needsOf_53 : decode cX9_needsOf 53 = .ok (.iload 6, 2) := by decide +kernel
theorem dX9_needsOf_55 : decode cX9_needsOf 55 = .ok (.iaload, 1) := by decide +kernel
theorem dX9_needsOf_56 : decode cX9_needsOf 56 = .ok (.imul, 1) := by decide +kernel
theorem dX9_needsOf_57 : decode cX9_needsOf 57 = .ok (.iadd, 1) := by decide +kernel
theorem dX9_needsOf_58 : decode cX9_needsOf 58 = .ok (.istore 5, 2) := by decide +kernel
theorem dX9_needsOf_60 : decode cX9_needsOf 60 = .ok (.iinc 6 1, 3) := by decide +kernel
theorem dX9_needsOf_63 : decode cX9_needsOf 63 = .ok (.goto (-37), 3) := by decide +kernel
theorem dX9_needsOf_66 : decode cX9_needsOf 66 = .ok (.iload_n 3, 1) := by decide +kernel
theorem dX9_needsOf_67 : decode cX9_needsOf 67 = .ok (.iconst 1, 1) := by decide +kernel
theorem dX9_needsOf_68 : decode cX9_needsOf 68 = .ok (.iconst 4, 1) := by decide +kernel
theorem dX9_needsOf_69 : decode cX9_needsOf 69 = .ok (.iload 4, 2) := by decide +kernel
theorem dX9_needsOf_71 : decode cX9_needsOf 71 = .ok (.imul, 1) := by decide +kernel
theorem dX9_needsOf_72 : decode cX9_needsOf 72 = .ok (.iload 5, 2) := by decide +kernel
theorem dX9_needsOf_74 : decode cX9_needsOf 74 = .ok (.aload_n 1, 1) := by decide +kernel
theorem dX9_needsOf_75 : decode cX9_needsOf 75 = .ok (.getfield 87, 3) := by decide +kernel
theorem dX9_needsOf_78 : decode cX9_needsOf 78 = .ok (.irem, 1) := by decide +kernel
theorem dX9_needsOf_79 : decode cX9_needsOf 79 = .ok (.iadd, 1) := by decide +kernel
theorem dX9_needsOf_80 : decode cX9_needsOf 80 = .ok (.ishl, 1) := by decide +kernel
theorem dX9_needsOf_81 : decode cX9_needsOf 81 = .ok (.ior, 1) := by decide +kernel
theorem dX9_needsOf_82 : decode cX9_needsOf 82 = .ok (.istore_n 3, 1) := by decide +kernel
theorem dX9_needsOf_83 : decode cX9_needsOf 83 = .ok (.iinc 4 1, 3) := by decide +kernel
theorem dX9_needsOf_86 : decode cX9_needsOf 86 = .ok (.goto (-81), 3) := by decide +kernel
theorem dX9_needsOf_89 : decode cX9_needsOf 89 = .ok (.iload_n 3, 1) := by decide +kernel
theorem dX9_needsOf_90 : decode cX9_needsOf 90 = .ok (.ireturn, 1) := by decide +kernel
theorem dX9_noteNeeds_0 : decode cX9_noteNeeds 0 = .ok (.iconst 0, 1) := by decide +kernel
theorem dX9_noteNeeds_1 : decode cX9_noteNeeds 1 = .ok (.istore 4, 2) := by decide +kernel
theorem dX9_noteNeeds_3 : decode cX9_noteNeeds 3 = .ok (.iconst 0, 1) := by decide +kernel
theorem dX9_noteNeeds_4 : decode cX9_noteNeeds 4 = .ok (.istore 5, 2) := by decide +kernel
theorem dX9_noteNeeds_6 : decode cX9_noteNeeds 6 = .ok (.iload 5, 2) := by decide +kernel
theorem dX9_noteNeeds_8 : decode cX9_noteNeeds 8 = .ok (.aload_n 1, 1) := by decide +kernel
theorem dX9_noteNeeds_9 : decode cX9_noteNeeds 9 = .ok (.getfield 50, 3) := by decide +kernel
theorem dX9_noteNeeds_12 : decode cX9_noteNeeds 12 = .ok (.if_icmp .ge 54, 3) := by decide +kernel
theorem dX9_noteNeeds_15 : decode cX9_noteNeeds 15 = .ok (.iload 4, 2) := by decide +kernel
theorem dX9_noteNeeds_17 : decode cX9_noteNeeds 17 = .ok (.sipush 256, 3) := by decide +kernel
theorem dX9_noteNeeds_20 : decode cX9_noteNeeds 20 = .ok (.if_icmp .ge 46, 3) := by decide +kernel
theorem dX9_noteNeeds_23 : decode cX9_noteNeeds 23 = .ok (.aload_n 3, 1) := by decide +kernel
theorem dX9_noteNeeds_24 : decode cX9_noteNeeds 24 = .ok (.aload_n 1, 1) := by decide +kernel
theorem dX9_noteNeeds_25 : decode cX9_noteNeeds 25 = .ok (.iload 5, 2) := by decide +kernel
theorem dX9_noteNeeds_27 : decode cX9_noteNeeds 27 = .ok (.invokevirtual 67, 3) := by decide +kernel
theorem dX9_noteNeeds_30 : decode cX9_noteNeeds 30 = .ok (.aload_n 2, 1) := by decide +kernel
theorem dX9_noteNeeds_31 : decode cX9_noteNeeds 31 = .ok (.aload_n 3, 1) := by decide +kernel
theorem dX9_noteNeeds_32 : decode cX9_noteNeeds 32 = .ok (.aload_n 1, 1) := by decide +kernel
theorem dX9_noteNeeds_33 : decode cX9_noteNeeds 33 = .ok (.getfield 33, 3) := by decide +kernel
theorem dX9_noteNeeds_36 : decode cX9_noteNeeds 36 = .ok (.invokevirtual 73, 3) := by decide +kernel
theorem dX9_noteNeeds_39 : decode cX9_noteNeeds 39 = .ok (.lconst 0, 1) := by decide +kernel
theorem dX9_noteNeeds_40 : decode cX9_noteNeeds 40 = .ok (.lcmp, 1) := by decide +kernel
theorem dX9_noteNeeds_41 : decode cX9_noteNeeds 41 = .ok (.ifCond .le 19, 3) := by decide +kernel
theorem dX9_noteNeeds_44 : decode cX9_noteNeeds 44 = .ok (.aload_n 0, 1) := by decide +kernel
theorem dX9_noteNeeds_45 : decode cX9_noteNeeds 45 = .ok (.getfield 22, 3) := by decide +kernel
theorem dX9_noteNeeds_48 : decode cX9_noteNeeds 48 = .ok (.iload 4, 2) := by decide +kernel
theorem dX9_noteNeeds_50 : decode cX9_noteNeeds 50 = .ok (.aload_n 0, 1) := by decide +kernel
theorem dX9_noteNeeds_51 : decode cX9_noteNeeds 51 = .ok (.aload_n 1, 1) := by decide +kernel
theorem dX9_noteNeeds_52 : decode cX9_noteNeeds 52 = .ok (.aload_n 3, 1) := by decide +kernel
theorem dX9_noteNeeds_53 : decode cX9_noteNeeds 53 = .ok (.invokevirtual 77, 3) := by decide +kernel
theorem dX9_noteNeeds_56 : decode cX9_noteNeeds 56 = .ok (.iastore, 1) := by decide +kernel
theorem dX9_noteNeeds_57 : decode cX9_noteNeeds 57 = .ok (.iinc 4 1, 3) := by decide +kernel
theorem dX9_noteNeeds_60 : decode cX9_noteNeeds 60 = .ok (.iinc 5 1, 3) := by decide +kernel
theorem dX9_noteNeeds_63 : decode cX9_noteNeeds 63 = .ok (.goto (-57), 3) := by decide +kernel
theorem dX9_noteNeeds_66 : decode cX9_noteNeeds 66 = .ok (.iload 4, 2) := by decide +kernel
theorem dX9_noteNeeds_68 : decode cX9_noteNeeds 68 = .ok (.ireturn, 1) := by decide +kernel
theorem dX9_rowsWonByTried_0 : decode cX9_rowsWonByTried 0 = .ok (.iconst 0, 1) := by decide +kernel
theorem dX9_rowsWonByTried_1 : decode cX9_rowsWonByTried 1 = .ok (.istore_n 3, 1) := by decide +kernel
theorem dX9_rowsWonByTried_2 : decode cX9_rowsWonByTried 2 = .ok (.iconst 0, 1) := by decide +kernel
theorem dX9_rowsWonByTried_3 : decode cX9_rowsWonByTried 3 = .ok (.istore 4, 2) := by decide +kernel
theorem dX9_rowsWonByTried_5 : decode cX9_rowsWonByTried 5 = .ok (.iload 4, 2) := by decide +kernel
theorem dX9_rowsWonByTried_7 : decode cX9_rowsWonByTried 7 = .ok (.aload_n 1, 1) := by decide +kernel
theorem dX9_rowsWonByTried_8 : decode cX9_rowsWonByTried 8 = .ok (.getfield 33, 3) := by decide +kernel
theorem dX9_rowsWonByTried_11 : decode cX9_rowsWonByTried 11 = .ok (.if_icmp .ge 26, 3) := by decide +kernel
theorem dX9_rowsWonByTried_14 : decode cX9_rowsWonByTried 14 = .ok (.iload_n 3, 1) := by decide +kernel
theorem dX9_rowsWonByTried_15 : decode cX9_rowsWonByTried 15 = .ok (.iconst 1, 1) := by decide +kernel
theorem dX9_rowsWonByTried_16 : decode cX9_rowsWonByTried 16 = .ok (.iconst 4, 1) := by decide +kernel
theorem dX9_rowsWonByTried_17 : decode cX9_rowsWonByTried 17 = .ok (.iload 4, 2) := by decide +kernel
theorem dX9_rowsWonByTried_19 : decode cX9_rowsWonByTried 19 = .ok (.imul, 1) := by decide +kernel
theorem dX9_rowsWonByTried_20 : decode cX9_rowsWonByTried 20 = .ok (.aload_n 0, 1) := by decide +kernel
theorem dX9_rowsWonByTried_21 : decode cX9_rowsWonByTried 21 = .ok (.getfield 19, 3) := by decide +kernel
theorem dX9_rowsWonByTried_24 : decode cX9_rowsWonByTried 24 = .ok (.iload 4, 2) := by decide +kernel
theorem dX9_rowsWonByTried_26 : decode cX9_rowsWonByTried 26 = .ok (.iaload, 1) := by decide +kernel
theorem dX9_rowsWonByTried_27 : decode cX9_rowsWonByTried 27 = .ok (.iadd, 1) := by decide +kernel
theorem dX9_rowsWonByTried_28 : decode cX9_rowsWonByTried 28 = .ok (.ishl, 1) := by decide +kernel
theorem dX9_rowsWonByTried_29 : decode cX9_rowsWonByTried 29 = .ok (.ior, 1) := by decide +kernel
theorem dX9_rowsWonByTried_30 : decode cX9_rowsWonByTried 30 = .ok (.istore_n 3, 1) := by decide +kernel
theorem dX9_rowsWonByTried_31 : decode cX9_rowsWonByTried 31 = .ok (.iinc 4 1, 3) := by decide +kernel
theorem dX9_rowsWonByTried_34 : decode cX9_rowsWonByTried 34 = .ok (.goto (-29), 3) := by decide +kernel
theorem dX9_rowsWonByTried_37 : decode cX9_rowsWonByTried 37 = .ok (.iconst 0, 1) := by decide +kernel
theorem dX9_rowsWonByTried_38 : decode cX9_rowsWonByTried 38 = .ok (.istore 4, 2) := by decide +kernel
theorem dX9_rowsWonByTried_40 : decode cX9_rowsWonByTried 40 = .ok (.iconst 0, 1) := by decide +kernel
theorem dX9_rowsWonByTried_41 : decode cX9_rowsWonByTried 41 = .ok (.istore 5, 2) := by decide +kernel
theorem dX9_rowsWonByTried_43 : decode cX9_rowsWonByTried 43 = .ok (.iload 5, 2) := by decide +kernel
theorem dX9_rowsWonByTried_45 : decode cX9_rowsWonByTried 45 = .ok (.iload_n 2, 1) := by decide +kernel
theorem dX9_rowsWonByTried_46 : decode cX9_rowsWonByTried 46 = .ok (.if_icmp .ge 32, 3) := by decide +kernel
theorem dX9_rowsWonByTried_49 : decode cX9_rowsWonByTried 49 = .ok (.aload_n 0, 1) := by decide +kernel
theorem dX9_rowsWonByTried_50 : decode cX9_rowsWonByTried 50 = .ok (.getfield 25, 3) := by decide +kernel
theorem dX9_rowsWonByTried_53 : decode cX9_rowsWonByTried 53 = .ok (.aload_n 0, 1) := by decide +kernel
theorem dX9_rowsWonByTried_54 : decode cX9_rowsWonByTried 54 = .ok (.getfield 22, 3) := by decide +kernel
theorem dX9_rowsWonByTried_57 : decode cX9_rowsWonByTried 57 = .ok (.iload 5, 2) := by decide +kernel
theorem dX9_rowsWonByTried_59 : decode cX9_rowsWonByTried 59 = .ok (.iaload, 1) := by decide +kernel
theorem dX9_rowsWonByTried_60 : decode cX9_rowsWonByTried 60 = .ok (.iload_n 3, 1) := by decide +kernel
theorem dX9_rowsWonByTried_61 : decode cX9_rowsWonByTried 61 = .ok (.iand, 1) := by decide +kernel
theorem dX9_rowsWonByTried_62 : decode cX9_rowsWonByTried 62 = .ok (.invokestatic 90, 3) := by decide +kernel
theorem dX9_rowsWonByTried_65 : decode cX9_rowsWonByTried 65 = .ok (.baload, 1) := by decide +kernel
theorem dX9_rowsWonByTried_66 : decode cX9_rowsWonByTried 66 = .ok (.ifCond .eq 6, 3) := by decide +kernel
theorem dX9_rowsWonByTried_69 : decode cX9_rowsWonByTried 69 = .ok (.iinc 4 1, 3) := by decide +kernel
theorem dX9_rowsWonByTried_72 : decode cX9_rowsWonByTried 72 = .ok (.iinc 5 1, 3) := by decide +kernel
theorem dX9_rowsWonByTried_75 : decode cX9_rowsWonByTried 75 = .ok (.goto (-32), 3) := by decide +kernel
theorem dX9_rowsWonByTried_78 : decode cX9_rowsWonByTried 78 = .ok (.iload 4, 2) := by decide +kernel
theorem dX9_rowsWonByTried_80 : decode cX9_rowsWonByTried 80 = .ok (.ireturn, 1) := by decide +kernel
section
variable {p : Program} {l : Launch} {e : Env} {R : Room} {s : State} {m : MethodId} {args : Array Value} {below : List Frame} {meth : Method} {c : Code} {D : va_G} {cA : Nat → ClassId} {z : Nat} {A : Nat → Prop} {J : HJ} {Ev : HE}
theorem cNet_countPlacings {l : Launch} {D : va_G} {cA : Nat → ClassId} {z sz : Nat} {I : HI} {T : HR} {F : HR} {L : HL} {r0 : Nat} {Q : Int32 → HI → Prop} (hcl : hCl Ev) (hn0 : NetSh F L r0) (h : Net_countPlacings I r0 Q) : Met l yX5_countPlacings (hws0 yX5_countPlacings cX5_countPlacings 1 (some .int)) { frames := 9, cells := 0, slots := 0, locals := 224 } (hPc D cA z Ev (I, J, T, F, L) sz [.ref (z + r0)]) (va_Qi (pI J T F L Q) (hB D cA z (hA z L sz)) (hA z L sz)) 0 0 (hA z L sz) := by
  refine hm_met (I, J, T, F, L) [.ref (z + r0)] rfl (by decide) (Nat.le_of_ble_eq_true rfl) ?_
  intro p e s m below meth c ls X hr hlk hnm hxt hsz hw hl
  have hl : lv_has ls 1 [(0, .ref (z + r0))] := hl
  have hR : 9 ≤ ({ frames := 9, cells := 0, slots := 0, locals := 224 } : Room).frames ∧ 224 ≤ ({ frames := 9, cells := 0, slots := 0, locals := 224 } : Room).locals := ⟨Nat.le_refl _, Nat.le_refl _⟩
  generalize ({ frames := 9, cells := 0, slots := 0, locals := 224 } : Room) = R at hR ⊢
  clear hsz
  generalize (hA z L sz) = A at hw ⊢
  have hx := X.1
  have hb := X.2.1
  unfold Net_countPlacings at h
  refine lv_aload_n hx hb dX5_countPlacings_0 rfl (lv_at hl 0 rfl) ?_
  refine hm_geti X hw lk_5_44 hn0.1 dX5_countPlacings_1 ?_
  refine lv_bipush (v := 6) hx hb dX5_countPlacings_4 (by decide) ?_
  refine lv_icmp_le (tgt := 13) hx hb dX5_countPlacings_6 (by decide) (fun hc => ?_) (fun hc => ?_)
  · have h := Eq.mp (if_pos hc) h
    refine lv_aload_n hx hb dX5_countPlacings_13 rfl (lv_at hl 0 rfl) ?_
    refine lv_iconst (v := 0) hx hb dX5_countPlacings_14 (by decide) ?_
    refine lv_iconst (v := 0) hx hb dX5_countPlacings_15 (by decide) ?_
    refine hm_calli hw (hm_runS (rest := []) hcl X hw (cNet_placeFrom 8 hcl hn0 h) yk_X5_placeFrom kw640 rfl hl.1 rfl rfl rfl (Nat.le_of_ble_eq_true rfl) ⟨Nat.le_trans (Nat.le_of_ble_eq_true rfl) hR.1, Nat.le_trans (Nat.le_of_ble_eq_true rfl) hR.2⟩ ⟨Nat.zero_le _, Nat.zero_le _⟩ dX5_countPlacings_16) (fun a1 u3 H locs hp hw => ?_)
    obtain ⟨I2, rfl, h⟩ := hp
    exact hm_iret X hr hlk hw ⟨_, rfl, h⟩ dX5_countPlacings_19
  · have h := Eq.mp (if_neg hc) h
    refine lv_iconst (v := (-1)) hx hb dX5_countPlacings_9 (by decide) ?_
    refine lv_goto (tgt := 19) hx hb dX5_countPlacings_10 (by decide) ?_
    exact hm_iret X hr hlk hw ⟨_, rfl, h⟩ dX5_countPlacings_19

theorem cRd_isNumber {l : Launch} {D : va_G} {cA : Nat → ClassId} {z sz : Nat} {I : HI} {T : HR} {F : HR} {L : HL}  {Q : Int32 → Prop} (hcl : hCl Ev) (hG : Geo F L) (hTx : F 28 3 = some 34) (h : Rd_isNumber I  Q) : Met l yX6_isNumber (hws0 yX6_isNumber cX6_isNumber 1 (some .boolean)) { frames := 0, cells := 0, slots := 0, locals := 0 } (hPc D cA z Ev (I, J, T, F, L) sz [.ref (z + 28)]) (va_Qi (p0 (I, J, T, F, L) Q) (hB D cA z (hA z L sz)) (hA z L sz)) 0 0 (hA z L sz) := by
  refine hm_met (I, J, T, F, L) [.ref (z + 28)] rfl (by decide) (Nat.le_of_ble_eq_true rfl) ?_
  intro p e s m below meth c ls X hr hlk hnm hxt hsz hw hl
  have hl : lv_has ls 1 [(0, .ref (z + 28))] := hl
  have hR : 0 ≤ ({ frames := 0, cells := 0, slots := 0, locals := 0 } : Room).frames ∧ 0 ≤ ({ frames := 0, cells := 0, slots := 0, locals := 0 } : Room).locals := ⟨Nat.le_refl _, Nat.le_refl _⟩
  generalize ({ frames := 0, cells := 0, slots := 0, locals := 0 } : Room) = R at hR ⊢
  clear hsz
  generalize (hA z L sz) = A at hw ⊢
  have hx := X.1
  have hb := X.2.1
  unfold Rd_isNumber at h
  refine lv_aload_n hx hb dX6_isNumber_0 rfl (lv_at hl 0 rfl) ?_
  refine hm_geti X hw lk_6_40 (gl_28 hG) dX6_isNumber_1 ?_
  refine lv_sipush (v := 131) hx hb dX6_isNumber_4 (by decide) ?_
  refine lv_icmp_eq (tgt := 20) hx hb dX6_isNumber_7 (by decide) (fun hc => ?_) (fun hc => ?_)
  · have h := Eq.mp (if_pos hc) h
    refine lv_iconst (v := 1) hx hb dX6_isNumber_20 (by decide) ?_
    refine lv_goto (tgt := 25) hx hb dX6_isNumber_21 (by decide) ?_
    exact hm_zret X hr hlk hw zb_1 ⟨rfl, h⟩ dX6_isNumber_25
  · have h := Eq.mp (if_neg hc) h
    refine lv_aload_n hx hb dX6_isNumber_10 rfl (lv_at hl 0 rfl) ?_
    refine hm_geti X hw lk_6_40 (gl_28 hG) dX6_isNumber_11 ?_
    refine lv_sipush (v := 132) hx hb dX6_isNumber_14 (by decide) ?_
    refine lv_icmp_ne (tgt := 24) hx hb dX6_isNumber_17 (by decide) (fun hc => ?_) (fun hc => ?_)
    · have h := Eq.mp (if_neg hc) h
      refine lv_iconst (v := 0) hx hb dX6_isNumber_24 (by decide) ?_
      exact hm_zret X hr hlk hw zb_0 ⟨rfl, h⟩ dX6_isNumber_25
    · have h := Eq.mp (if_pos hc) h
      refine lv_iconst (v := 1) hx hb dX6_isNumber_20 (by decide) ?_
      refine lv_goto (tgt := 25) hx hb dX6_isNumber_21 (by decide) ?_
      exact hm_zret X hr hlk hw zb_1 ⟨rfl, h⟩ dX6_isNumber_25

theorem cRd_isWord {l : Launch} {D : va_G} {cA : Nat → ClassId} {z sz : Nat} {I : HI} {T : HR} {F : HR} {L : HL}  {Q : Int32 → Prop} (hcl : hCl Ev) (hG : Geo F L) (hTx : F 28 3 = some 34) (h : Rd_isWord I  Q) : Met l yX6_isWord (hws0 yX6_isWord cX6_isWord 1 (some .boolean)) { frames := 0, cells := 0, slots := 0, locals := 0 } (hPc D cA z Ev (I, J, T, F, L) sz [.ref (z + 28)]) (va_Qi (p0 (I, J, T, F, L) Q) (hB D cA z (hA z L sz)) (hA z L sz)) 0 0 (hA z L sz) := by
  refine hm_met (I, J, T, F, L) [.ref (z + 28)] rfl (by decide) (Nat.le_of_ble_eq_true rfl) ?_
  intro p e s m below meth c ls X hr hlk hnm hxt hsz hw hl
  have hl : lv_has ls 1 [(0, .ref (z + 28))] := hl
  have hR : 0 ≤ ({ frames := 0, cells := 0, slots := 0, locals := 0 } : Room).frames ∧ 0 ≤ ({ frames := 0, cells := 0, slots := 0, locals := 0 } : Room).locals := ⟨Nat.le_refl _, Nat.le_refl _⟩
  generalize ({ frames := 0, cells := 0, slots := 0, locals := 0 } : Room) = R at hR ⊢
  clear hsz
  generalize (hA z L sz) = A at hw ⊢
  have hx := X.1
  have hb := X.2.1
  unfold Rd_isWord at h
  refine lv_aload_n hx hb dX6_isWord_0 rfl (lv_at hl 0 rfl) ?_
  refine hm_geti X hw lk_6_40 (gl_28 hG) dX6_isWord_1 ?_
  refine lv_sipush (v := 140) hx hb dX6_isWord_4 (by decide) ?_
  refine lv_icmp_lt (tgt := 14) hx hb dX6_isWord_7 (by decide) (fun hc => ?_) (fun hc => ?_)
  · have h := Eq.mp (if_pos hc) h
    refine lv_iconst (v := 0) hx hb dX6_isWord_14 (by decide) ?_
    exact hm_zret X hr hlk hw zb_0 ⟨rfl, h⟩ dX6_isWord_15
  · have h := Eq.mp (if_neg hc) h
    refine lv_iconst (v := 1) hx hb dX6_isWord_10 (by decide) ?_
    refine lv_goto (tgt := 15) hx hb dX6_isWord_11 (by decide) ?_
    exact hm_zret X hr hlk hw zb_1 ⟨rfl, h⟩ dX6_isWord_15

theorem cRd_stop {l : Launch} {D : va_G} {cA : Nat → ClassId} {z sz : Nat} {I : HI} {T : HR} {F : HR} {L : HL} {x1 : Int32} {Q : HI → Prop} (hcl : hCl Ev) (hG : Geo F L) (hTx : F 28 3 = some 34) (h : Rd_stop I x1 Q) : Met l yX6_stop (hws0 yX6_stop cX6_stop 2 none) { frames := 0, cells := 0, slots := 0, locals := 0 } (hPc D cA z Ev (I, J, T, F, L) sz [.ref (z + 28), .int x1]) (va_Qv (pIv J T F L Q) (hB D cA z (hA z L sz)) (hA z L sz)) 0 0 (hA z L sz) := by
  refine hm_met (I, J, T, F, L) [.ref (z + 28), .int x1] rfl (by decide) (Nat.le_of_ble_eq_true rfl) ?_
  intro p e s m below meth c ls X hr hlk hnm hxt hsz hw hl
  have hl : lv_has ls 2 [(0, .ref (z + 28)), (1, .int x1)] := hl
  have hR : 0 ≤ ({ frames := 0, cells := 0, slots := 0, locals := 0 } : Room).frames ∧ 0 ≤ ({ frames := 0, cells := 0, slots := 0, locals := 0 } : Room).locals := ⟨Nat.le_refl _, Nat.le_refl _⟩
  generalize ({ frames := 0, cells := 0, slots := 0, locals := 0 } : Room) = R at hR ⊢
  clear hsz
  generalize (hA z L sz) = A at hw ⊢
  have hx := X.1
  have hb := X.2.1
  unfold Rd_stop at h
  refine lv_aload_n hx hb dX6_stop_0 rfl (lv_at hl 0 rfl) ?_
  refine hm_geti X hw lk_6_40 (gl_28 hG) dX6_stop_1 ?_
  refine lv_sipush (v := 130) hx hb dX6_stop_4 (by decide) ?_
  refine lv_icmp_eq (tgt := 30) hx hb dX6_stop_7 (by decide) (fun hc => ?_) (fun hc => ?_)
  · have h := Eq.mp (if_pos hc) h
    exact hm_vret X hr hlk hw ⟨_, rfl, h⟩ dX6_stop_30
  · have h := Eq.mp (if_neg hc) h
    refine lv_aload_n hx hb dX6_stop_10 rfl (lv_at hl 0 rfl) ?_
    refine lv_iload_n hx hb dX6_stop_11 rfl (lv_at hl 1 rfl) ?_
    refine hm_puti X hw lk_6_9 (gl_28 hG) rfl rfl dX6_stop_12 (fun H locs hw => ?_)
    refine lv_aload_n hx hb dX6_stop_15 rfl (lv_at hl 0 rfl) ?_
    refine lv_aload_n hx hb dX6_stop_16 rfl (lv_at hl 0 rfl) ?_
    refine hm_geti X hw lk_6_37 (gl_28 hG) dX6_stop_17 ?_
    refine hm_puti X hw lk_6_15 (gl_28 hG) rfl rfl dX6_stop_20 (fun H locs hw => ?_)
    refine lv_aload_n hx hb dX6_stop_23 rfl (lv_at hl 0 rfl) ?_
    refine lv_sipush (v := 130) hx hb dX6_stop_24 (by decide) ?_
    refine hm_puti X hw lk_6_40 (gl_28 hG) rfl rfl dX6_stop_27 (fun H locs hw => ?_)
    exact hm_vret X hr hlk hw ⟨_, rfl, h⟩ dX6_stop_30

theorem cRd_isLetter {l : Launch} {D : va_G} {cA : Nat → ClassId} {z sz : Nat} {I : HI} {T : HR} {F : HR} {L : HL} {x0 : Int32} {Q : Int32 → Prop} (hcl : hCl Ev) (h : Rd_isLetter  x0 Q) : Met l yX6_isLetter (hws0 yX6_isLetter cX6_isLetter 1 (some .boolean)) { frames := 0, cells := 0, slots := 0, locals := 0 } (hPc D cA z Ev (I, J, T, F, L) sz [.int x0]) (va_Qi (p0 (I, J, T, F, L) Q) (hB D cA z (hA z L sz)) (hA z L sz)) 0 0 (hA z L sz) := by
  refine hm_met (I, J, T, F, L) [.int x0] rfl (by decide) (Nat.le_of_ble_eq_true rfl) ?_
  intro p e s m below meth c ls X hr hlk hnm hxt hsz hw hl
  have hl : lv_has ls 1 [(0, .int x0)] := hl
  have hR : 0 ≤ ({ frames := 0, cells := 0, slots := 0, locals := 0 } : Room).frames ∧ 0 ≤ ({ frames := 0, cells := 0, slots := 0, locals := 0 } : Room).locals := ⟨Nat.le_refl _, Nat.le_refl _⟩
  generalize ({ frames := 0, cells := 0, slots := 0, locals := 0 } : Room) = R at hR ⊢
  clear hsz
  generalize (hA z L sz) = A at hw ⊢
  have hx := X.1
  have hb := X.2.1
  unfold Rd_isLetter at h
  refine lv_iload_n hx hb dX6_isLetter_0 rfl (lv_at hl 0 rfl) ?_
  refine lv_bipush (v := 97) hx hb dX6_isLetter_1 (by decide) ?_
  refine lv_icmp_lt (tgt := 16) hx hb dX6_isLetter_3 (by decide) (fun hc => ?_) (fun hc => ?_)
  · have h := Eq.mp (if_pos hc) h
    refine lv_iconst (v := 0) hx hb dX6_isLetter_16 (by decide) ?_
    exact hm_zret X hr hlk hw zb_0 ⟨rfl, h⟩ dX6_isLetter_17
  · have h := Eq.mp (if_neg hc) h
    refine lv_iload_n hx hb dX6_isLetter_6 rfl (lv_at hl 0 rfl) ?_
    refine lv_bipush (v := 122) hx hb dX6_isLetter_7 (by decide) ?_
    refine lv_icmp_gt (tgt := 16) hx hb dX6_isLetter_9 (by decide) (fun hc => ?_) (fun hc => ?_)
    · have h := Eq.mp (if_pos hc) h
      refine lv_iconst (v := 0) hx hb dX6_isLetter_16 (by decide) ?_
      exact hm_zret X hr hlk hw zb_0 ⟨rfl, h⟩ dX6_isLetter_17
    · have h := Eq.mp (if_neg hc) h
      refine lv_iconst (v := 1) hx hb dX6_isLetter_12 (by decide) ?_
      refine lv_goto (tgt := 17) hx hb dX6_isLetter_13 (by decide) ?_
      exact hm_zret X hr hlk hw zb_1 ⟨rfl, h⟩ dX6_isLetter_17

theorem cRd_isDigit {l : Launch} {D : va_G} {cA : Nat → ClassId} {z sz : Nat} {I : HI} {T : HR} {F : HR} {L : HL} {x0 : Int32} {Q : Int32 → Prop} (hcl : hCl Ev) (h : Rd_isDigit  x0 Q) : Met l yX6_isDigit (hws0 yX6_isDigit cX6_isDigit 1 (some .boolean)) { frames := 0, cells := 0, slots := 0, locals := 0 } (hPc D cA z Ev (I, J, T, F, L) sz [.int x0]) (va_Qi (p0 (I, J, T, F, L) Q) (hB D cA z (hA z L sz)) (hA z L sz)) 0 0 (hA z L sz) := by
  refine hm_met (I, J, T, F, L) [.int x0] rfl (by decide) (Nat.le_of_ble_eq_true rfl) ?_
  intro p e s m below meth c ls X hr hlk hnm hxt hsz hw hl
  have hl : lv_has ls 1 [(0, .int x0)] := hl
  have hR : 0 ≤ ({ frames := 0, cells := 0, slots := 0, locals := 0 } : Room).frames ∧ 0 ≤ ({ frames := 0, cells := 0, slots := 0, locals := 0 } : Room).locals := ⟨Nat.le_refl _, Nat.le_refl _⟩
  generalize ({ frames := 0, cells := 0, slots := 0, locals := 0 } : Room) = R at hR ⊢
  clear hsz
  generalize (hA z L sz) = A at hw ⊢
  have hx := X.1
  have hb := X.2.1
  unfold Rd_isDigit at h
  refine lv_iload_n hx hb dX6_isDigit_0 rfl (lv_at hl 0 rfl) ?_
  refine lv_bipush (v := 48) hx hb dX6_isDigit_1 (by decide) ?_
  refine lv_icmp_lt (tgt := 16) hx hb dX6_isDigit_3 (by decide) (fun hc => ?_) (fun hc => ?_)
  · have h := Eq.mp (if_pos hc) h
    refine lv_iconst (v := 0) hx hb dX6_isDigit_16 (by decide) ?_
    exact hm_zret X hr hlk hw zb_0 ⟨rfl, h⟩ dX6_isDigit_17
  · have h := Eq.mp (if_neg hc) h
    refine lv_iload_n hx hb dX6_isDigit_6 rfl (lv_at hl 0 rfl) ?_
    refine lv_bipush (v := 57) hx hb dX6_isDigit_7 (by decide) ?_
    refine lv_icmp_gt (tgt := 16) hx hb dX6_isDigit_9 (by decide) (fun hc => ?_) (fun hc => ?_)
    · have h := Eq.mp (if_pos hc) h
      refine lv_iconst (v := 0) hx hb dX6_isDigit_16 (by decide) ?_
      exact hm_zret X hr hlk hw zb_0 ⟨rfl, h⟩ dX6_isDigit_17
    · have h := Eq.mp (if_neg hc) h
      refine lv_iconst (v := 1) hx hb dX6_isDigit_12 (by decide) ?_
      refine lv_goto (tgt := 17) hx hb dX6_isDigit_13 (by decide) ?_
      exact hm_zret X hr hlk hw zb_1 ⟨rfl, h⟩ dX6_isDigit_17

theorem wkRd_scanNumber_b85 {I : HI} {T : HR} {F : HR} {L : HL} {Q : HI → Prop} (X : hX p m c s args RX6 cX6_scanNumber 1) (hr : meth.sig.returnType = none) (hlk : meth.locks = false) (hR : 1 ≤ R.frames ∧ 20 ≤ R.locals) (hcl : hCl Ev) (hG : Geo F L) (hTx : F 28 3 = some 34)  : ∀ {ls : Array Slot} {H : Heap} {locs : List Loc}, Rd_scanNumber_b85 I Q → hW D cA z Ev (I, J, T, F, L) A s H locs → lv_has ls 1 [(0, .ref (z + 28))] → W p l e R s m args below meth c H locs 0 0 (MQ below (va_Qv (pIv J T F L Q) (hB D cA z A) A) args s 0 0 A) (F0 m 85 ls []) := by
  have hx := X.1
  have hb := X.2.1
  intro ls H locs h hw hl
  unfold Rd_scanNumber_b85 at h
  refine lv_aload_n hx hb dX6_scanNumber_85 rfl (lv_at hl 0 rfl) ?_
  refine lv_aload_n hx hb dX6_scanNumber_86 rfl (lv_at hl 0 rfl) ?_
  refine hm_geti X hw lk_6_34 (gl_28 hG) dX6_scanNumber_87 ?_
  refine lv_aload_n hx hb dX6_scanNumber_90 rfl (lv_at hl 0 rfl) ?_
  refine hm_geti X hw lk_6_37 (gl_28 hG) dX6_scanNumber_91 ?_
  refine lv_isub hx hb dX6_scanNumber_94 ?_
  refine lv_iconst (v := 3) hx hb dX6_scanNumber_95 (by decide) ?_
  refine lv_icmp_le (tgt := 105) hx hb dX6_scanNumber_96 (by decide) (fun hc => ?_) (fun hc => ?_)
  · have h := Eq.mp (if_pos hc) h
    refine lv_sipush (v := 131) hx hb dX6_scanNumber_105 (by decide) ?_
    refine hm_puti X hw lk_6_40 (gl_28 hG) rfl rfl dX6_scanNumber_108 (fun H locs hw => ?_)
    exact hm_vret X hr hlk hw ⟨_, rfl, h⟩ dX6_scanNumber_111
  · have h := Eq.mp (if_neg hc) h
    refine lv_sipush (v := 132) hx hb dX6_scanNumber_99 (by decide) ?_
    refine lv_goto (tgt := 108) hx hb dX6_scanNumber_102 (by decide) ?_
    refine hm_puti X hw lk_6_40 (gl_28 hG) rfl rfl dX6_scanNumber_108 (fun H locs hw => ?_)
    exact hm_vret X hr hlk hw ⟨_, rfl, h⟩ dX6_scanNumber_111

theorem wkRd_scanNumber_b69 {I : HI} {T : HR} {F : HR} {L : HL} {t0 : Int32} {K5 : HI → Prop} {Q : HI → Prop} (X : hX p m c s args RX6 cX6_scanNumber 1) (hr : meth.sig.returnType = none) (hlk : meth.locks = false) (hR : 1 ≤ R.frames ∧ 20 ≤ R.locals) (hcl : hCl Ev) (hG : Geo F L) (hTx : F 28 3 = some 34) (hK5 : ∀ (I : HI) {ls : Array Slot} {H : Heap} {locs : List Loc}, K5 I → hW D cA z Ev (I, J, T, F, L) A s H locs → lv_has ls 1 [(0, .ref (z + 28))] → W p l e R s m args below meth c H locs 0 0 (MQ below (va_Qv (pIv J T F L Q) (hB D cA z A) A) args s 0 0 A) (F0 m 5 ls [])) : ∀ {ls : Array Slot} {H : Heap} {locs : List Loc}, Rd_scanNumber_b69 I t0 K5 Q → hW D cA z Ev (I, J, T, F, L) A s H locs → lv_has ls 1 [(0, .ref (z + 28))] → W p l e R s m args below meth c H locs 0 0 (MQ below (va_Qv (pIv J T F L Q) (hB D cA z A) A) args s 0 0 A) (F0 m 69 ls [.int t0, .ref (z + 28)]) := by
  have hx := X.1
  have hb := X.2.1
  intro ls H locs h hw hl
  unfold Rd_scanNumber_b69 at h
  refine hm_puti X hw lk_6_43 (gl_28 hG) rfl rfl dX6_scanNumber_69 (fun H locs hw => ?_)
  refine lv_aload_n hx hb dX6_scanNumber_72 rfl (lv_at hl 0 rfl) ?_
  refine lv_dup hx hb dX6_scanNumber_73 rfl ?_
  refine hm_geti X hw lk_6_34 (gl_28 hG) dX6_scanNumber_74 ?_
  refine lv_iconst (v := 1) hx hb dX6_scanNumber_77 (by decide) ?_
  refine lv_iadd hx hb dX6_scanNumber_78 ?_
  refine hm_puti X hw lk_6_34 (gl_28 hG) rfl rfl dX6_scanNumber_79 (fun H locs hw => ?_)
  refine lv_goto (tgt := 5) hx hb dX6_scanNumber_82 (by decide) ?_
  exact hK5 _ h hw (lv_sub hl [0] rfl)

theorem wkRd_scanNumber_l5 {T : HR} {F : HR} {L : HL} {Q : HI → Prop} (X : hX p m c s args RX6 cX6_scanNumber 1) (hr : meth.sig.returnType = none) (hlk : meth.locks = false) (hR : 1 ≤ R.frames ∧ 20 ≤ R.locals) (hcl : hCl Ev) (hG : Geo F L) (hTx : F 28 3 = some 34)  : ∀ (n : Nat) (I : HI) {ls : Array Slot} {H : Heap} {locs : List Loc}, Rd_scanNumber_l5 Q n I → hW D cA z Ev (I, J, T, F, L) A s H locs → lv_has ls 1 [(0, .ref (z + 28))] → W p l e R s m args below meth c H locs 0 0 (MQ below (va_Qv (pIv J T F L Q) (hB D cA z A) A) args s 0 0 A) (F0 m 5 ls []) := by
  have hx := X.1
  have hb := X.2.1
  intro n
  induction n with
  | zero => intro I ls H locs h; exact False.elim h
  | succ n ih =>
    intro I ls H locs h hw hl
    rw [Rd_scanNumber_l5] at h
    refine lv_aload_n hx hb dX6_scanNumber_5 rfl (lv_at hl 0 rfl) ?_
    refine hm_geti X hw lk_6_34 (gl_28 hG) dX6_scanNumber_6 ?_
    refine lv_aload_n hx hb dX6_scanNumber_9 rfl (lv_at hl 0 rfl) ?_
    refine hm_geti X hw lk_6_28 (gl_28 hG) dX6_scanNumber_10 ?_
    refine lv_icmp_ge (tgt := 85) hx hb dX6_scanNumber_13 (by decide) (fun hc => ?_) (fun hc => ?_)
    · have h := Eq.mp (if_pos hc) h
      exact wkRd_scanNumber_b85 X hr hlk hR hcl hG hTx  h hw (lv_sub hl [0] rfl)
    · have h := Eq.mp (if_neg hc) h
      refine lv_aload_n hx hb dX6_scanNumber_16 rfl (lv_at hl 0 rfl) ?_
      refine hm_getr X hw lk_6_24 (gl_28 hG) hTx dX6_scanNumber_17 ?_
      refine lv_aload_n hx hb dX6_scanNumber_20 rfl (lv_at hl 0 rfl) ?_
      refine hm_geti X hw lk_6_34 (gl_28 hG) dX6_scanNumber_21 ?_
      obtain ⟨hi, h⟩ := h
      refine hm_iald X hw (gl_34 hG) hi dX6_scanNumber_24 ?_
      refine hm_calli hw (hm_runS (rest := []) hcl X hw (cRd_isDigit hcl h) yk_X6_isDigit kw950 rfl hl.1 rfl rfl rfl (Nat.le_of_ble_eq_true rfl) ⟨Nat.le_trans (Nat.le_of_ble_eq_true rfl) hR.1, Nat.le_trans (Nat.le_of_ble_eq_true rfl) hR.2⟩ ⟨Nat.zero_le _, Nat.zero_le _⟩ dX6_scanNumber_25) (fun a1 u2 H locs hp hw => ?_)
      obtain ⟨rfl, h⟩ := hp
      refine lv_if_eq (tgt := 85) hx hb dX6_scanNumber_28 (by decide) (fun hc => ?_) (fun hc => ?_)
      · have h := Eq.mp (if_pos hc) h
        exact wkRd_scanNumber_b85 X hr hlk hR hcl hG hTx  h hw (lv_sub hl [0] rfl)
      · have h := Eq.mp (if_neg hc) h
        refine lv_aload_n hx hb dX6_scanNumber_31 rfl (lv_at hl 0 rfl) ?_
        refine lv_aload_n hx hb dX6_scanNumber_32 rfl (lv_at hl 0 rfl) ?_
        refine hm_geti X hw lk_6_43 (gl_28 hG) dX6_scanNumber_33 ?_
        refine lv_sipush (v := 1000) hx hb dX6_scanNumber_36 (by decide) ?_
        refine lv_icmp_ge (tgt := 65) hx hb dX6_scanNumber_39 (by decide) (fun hc => ?_) (fun hc => ?_)
        · have h := Eq.mp (if_pos hc) h
          refine lv_aload_n hx hb dX6_scanNumber_65 rfl (lv_at hl 0 rfl) ?_
          refine hm_geti X hw lk_6_43 (gl_28 hG) dX6_scanNumber_66 ?_
          exact wkRd_scanNumber_b69 X hr hlk hR hcl hG hTx ih h hw (lv_sub hl [0] rfl)
        · have h := Eq.mp (if_neg hc) h
          refine lv_aload_n hx hb dX6_scanNumber_42 rfl (lv_at hl 0 rfl) ?_
          refine hm_geti X hw lk_6_43 (gl_28 hG) dX6_scanNumber_43 ?_
          refine lv_bipush (v := 10) hx hb dX6_scanNumber_46 (by decide) ?_
          refine lv_imul hx hb dX6_scanNumber_48 ?_
          refine lv_aload_n hx hb dX6_scanNumber_49 rfl (lv_at hl 0 rfl) ?_
          refine hm_getr X hw lk_6_24 (gl_28 hG) hTx dX6_scanNumber_50 ?_
          refine lv_aload_n hx hb dX6_scanNumber_53 rfl (lv_at hl 0 rfl) ?_
          refine hm_geti X hw lk_6_34 (gl_28 hG) dX6_scanNumber_54 ?_
          obtain ⟨hi, h⟩ := h
          refine hm_iald X hw (gl_34 hG) hi dX6_scanNumber_57 ?_
          refine lv_iadd hx hb dX6_scanNumber_58 ?_
          refine lv_bipush (v := 48) hx hb dX6_scanNumber_59 (by decide) ?_
          refine lv_isub hx hb dX6_scanNumber_61 ?_
          refine lv_goto (tgt := 69) hx hb dX6_scanNumber_62 (by decide) ?_
          exact wkRd_scanNumber_b69 X hr hlk hR hcl hG hTx ih h hw (lv_sub hl [0] rfl)

theorem cRd_scanNumber {l : Launch} {D : va_G} {cA : Nat → ClassId} {z sz : Nat} {I : HI} {T : HR} {F : HR} {L : HL}  {Q : HI → Prop} (hcl : hCl Ev) (hG : Geo F L) (hTx : F 28 3 = some 34) (h : Rd_scanNumber I  Q) : Met l yX6_scanNumber (hws0 yX6_scanNumber cX6_scanNumber 1 none) { frames := 1, cells := 0, slots := 0, locals := 20 } (hPc D cA z Ev (I, J, T, F, L) sz [.ref (z + 28)]) (va_Qv (pIv J T F L Q) (hB D cA z (hA z L sz)) (hA z L sz)) 0 0 (hA z L sz) := by
  refine hm_met (I, J, T, F, L) [.ref (z + 28)] rfl (by decide) (Nat.le_of_ble_eq_true rfl) ?_
  intro p e s m below meth c ls X hr hlk hnm hxt hsz hw hl
  have hl : lv_has ls 1 [(0, .ref (z + 28))] := hl
  have hR : 1 ≤ ({ frames := 1, cells := 0, slots := 0, locals := 20 } : Room).frames ∧ 20 ≤ ({ frames := 1, cells := 0, slots := 0, locals := 20 } : Room).locals := ⟨Nat.le_refl _, Nat.le_refl _⟩
  generalize ({ frames := 1, cells := 0, slots := 0, locals := 20 } : Room) = R at hR ⊢
  clear hsz
  generalize (hA z L sz) = A at hw ⊢
  have hx := X.1
  have hb := X.2.1
  unfold Rd_scanNumber at h
  refine lv_aload_n hx hb dX6_scanNumber_0 rfl (lv_at hl 0 rfl) ?_
  refine lv_iconst (v := 0) hx hb dX6_scanNumber_1 (by decide) ?_
  refine hm_puti X hw lk_6_43 (gl_28 hG) rfl rfl dX6_scanNumber_2 (fun H locs hw => ?_)
  obtain ⟨n2, h⟩ := h
  exact wkRd_scanNumber_l5 X hr hlk hR hcl hG hTx  n2 _ h hw (lv_sub hl [0] rfl)

theorem wkRd_isSign_b12 {I : HI} {T : HR} {F : HR} {L : HL} {x0 : Int32} {Q : Int32 → Prop} (X : hX p m c s args RX6 cX6_isSign 1) (hr : meth.sig.returnType = (some .boolean)) (hlk : meth.locks = false) (hR : 0 ≤ R.frames ∧ 0 ≤ R.locals) (hcl : hCl Ev)  : ∀ {ls : Array Slot} {H : Heap} {locs : List Loc}, Rd_isSign_b12 x0 Q → hW D cA z Ev (I, J, T, F, L) A s H locs → lv_has ls 1 [(0, .int x0)] → W p l e R s m args below meth c H locs 0 0 (MQ below (va_Qi (p0 (I, J, T, F, L) Q) (hB D cA z A) A) args s 0 0 A) (F0 m 12 ls []) := by
  have hx := X.1
  have hb := X.2.1
  intro ls H locs h hw hl
  unfold Rd_isSign_b12 at h
  refine lv_iload_n hx hb dX6_isSign_12 rfl (lv_at hl 0 rfl) ?_
  refine lv_bipush (v := 45) hx hb dX6_isSign_13 (by decide) ?_
  refine lv_icmp_eq (tgt := 36) hx hb dX6_isSign_15 (by decide) (fun hc => ?_) (fun hc => ?_)
  · have h := Eq.mp (if_pos hc) h
    refine lv_iconst (v := 1) hx hb dX6_isSign_36 (by decide) ?_
    refine lv_goto (tgt := 41) hx hb dX6_isSign_37 (by decide) ?_
    exact hm_zret X hr hlk hw zb_1 ⟨rfl, h⟩ dX6_isSign_41
  · have h := Eq.mp (if_neg hc) h
    refine lv_iload_n hx hb dX6_isSign_18 rfl (lv_at hl 0 rfl) ?_
    refine lv_bipush (v := 47) hx hb dX6_isSign_19 (by decide) ?_
    refine lv_icmp_eq (tgt := 36) hx hb dX6_isSign_21 (by decide) (fun hc => ?_) (fun hc => ?_)
    · have h := Eq.mp (if_pos hc) h
      refine lv_iconst (v := 1) hx hb dX6_isSign_36 (by decide) ?_
      refine lv_goto (tgt := 41) hx hb dX6_isSign_37 (by decide) ?_
      exact hm_zret X hr hlk hw zb_1 ⟨rfl, h⟩ dX6_isSign_41
    · have h := Eq.mp (if_neg hc) h
      refine lv_iload_n hx hb dX6_isSign_24 rfl (lv_at hl 0 rfl) ?_
      refine lv_bipush (v := 59) hx hb dX6_isSign_25 (by decide) ?_
      refine lv_icmp_lt (tgt := 40) hx hb dX6_isSign_27 (by decide) (fun hc => ?_) (fun hc => ?_)
      · have h := Eq.mp (if_pos hc) h
        refine lv_iconst (v := 0) hx hb dX6_isSign_40 (by decide) ?_
        exact hm_zret X hr hlk hw zb_0 ⟨rfl, h⟩ dX6_isSign_41
      · have h := Eq.mp (if_neg hc) h
        refine lv_iload_n hx hb dX6_isSign_30 rfl (lv_at hl 0 rfl) ?_
        refine lv_bipush (v := 61) hx hb dX6_isSign_31 (by decide) ?_
        refine lv_icmp_gt (tgt := 40) hx hb dX6_isSign_33 (by decide) (fun hc => ?_) (fun hc => ?_)
        · have h := Eq.mp (if_pos hc) h
          refine lv_iconst (v := 0) hx hb dX6_isSign_40 (by decide) ?_
          exact hm_zret X hr hlk hw zb_0 ⟨rfl, h⟩ dX6_isSign_41
        · have h := Eq.mp (if_neg hc) h
          refine lv_iconst (v := 1) hx hb dX6_isSign_36 (by decide) ?_
          refine lv_goto (tgt := 41) hx hb dX6_isSign_37 (by decide) ?_
          exact hm_zret X hr hlk hw zb_1 ⟨rfl, h⟩ dX6_isSign_41

theorem cRd_isSign {l : Launch} {D : va_G} {cA : Nat → ClassId} {z sz : Nat} {I : HI} {T : HR} {F : HR} {L : HL} {x0 : Int32} {Q : Int32 → Prop} (hcl : hCl Ev) (h : Rd_isSign  x0 Q) : Met l yX6_isSign (hws0 yX6_isSign cX6_isSign 1 (some .boolean)) { frames := 0, cells := 0, slots := 0, locals := 0 } (hPc D cA z Ev (I, J, T, F, L) sz [.int x0]) (va_Qi (p0 (I, J, T, F, L) Q) (hB D cA z (hA z L sz)) (hA z L sz)) 0 0 (hA z L sz) := by
  refine hm_met (I, J, T, F, L) [.int x0] rfl (by decide) (Nat.le_of_ble_eq_true rfl) ?_
  intro p e s m below meth c ls X hr hlk hnm hxt hsz hw hl
  have hl : lv_has ls 1 [(0, .int x0)] := hl
  have hR : 0 ≤ ({ frames := 0, cells := 0, slots := 0, locals := 0 } : Room).frames ∧ 0 ≤ ({ frames := 0, cells := 0, slots := 0, locals := 0 } : Room).locals := ⟨Nat.le_refl _, Nat.le_refl _⟩
  generalize ({ frames := 0, cells := 0, slots := 0, locals := 0 } : Room) = R at hR ⊢
  clear hsz
  generalize (hA z L sz) = A at hw ⊢
  have hx := X.1
  have hb := X.2.1
  unfold Rd_isSign at h
  refine lv_iload_n hx hb dX6_isSign_0 rfl (lv_at hl 0 rfl) ?_
  refine lv_bipush (v := 40) hx hb dX6_isSign_1 (by decide) ?_
  refine lv_icmp_lt (tgt := 12) hx hb dX6_isSign_3 (by decide) (fun hc => ?_) (fun hc => ?_)
  · have h := Eq.mp (if_pos hc) h
    exact wkRd_isSign_b12 X hr hlk hR hcl  h hw (lv_sub hl [0] rfl)
  · have h := Eq.mp (if_neg hc) h
    refine lv_iload_n hx hb dX6_isSign_6 rfl (lv_at hl 0 rfl) ?_
    refine lv_bipush (v := 43) hx hb dX6_isSign_7 (by decide) ?_
    refine lv_icmp_le (tgt := 36) hx hb dX6_isSign_9 (by decide) (fun hc => ?_) (fun hc => ?_)
    · have h := Eq.mp (if_pos hc) h
      refine lv_iconst (v := 1) hx hb dX6_isSign_36 (by decide) ?_
      refine lv_goto (tgt := 41) hx hb dX6_isSign_37 (by decide) ?_
      exact hm_zret X hr hlk hw zb_1 ⟨rfl, h⟩ dX6_isSign_41
    · have h := Eq.mp (if_neg hc) h
      exact wkRd_isSign_b12 X hr hlk hR hcl  h hw (lv_sub hl [0] rfl)

theorem cRd_add {l : Launch} {D : va_G} {cA : Nat → ClassId} {z sz : Nat} {I : HI} {T : HR} {F : HR} {L : HL} {x1 : Int32} {x2 : Int32} {x3 : Int32} {Q : Int32 → HI → Prop} (hcl : hCl Ev) (hG : Geo F L) (hTx : F 28 3 = some 34) (h : Rd_add I x1 x2 x3 Q) : Met l yX6_add (hws0 yX6_add cX6_add 4 (some .int)) { frames := 0, cells := 0, slots := 0, locals := 0 } (hPc D cA z Ev (I, J, T, F, L) sz [.ref (z + 28), .int x1, .int x2, .int x3]) (va_Qi (pI J T F L Q) (hB D cA z (hA z L sz)) (hA z L sz)) 0 0 (hA z L sz) := by
  refine hm_met (I, J, T, F, L) [.ref (z + 28), .int x1, .int x2, .int x3] rfl (by decide) (Nat.le_of_ble_eq_true rfl) ?_
  intro p e s m below meth c ls X hr hlk hnm hxt hsz hw hl
  have hl : lv_has ls 4 [(0, .ref (z + 28)), (1, .int x1), (2, .int x2), (3, .int x3)] := hl
  have hR : 0 ≤ ({ frames := 0, cells := 0, slots := 0, locals := 0 } : Room).frames ∧ 0 ≤ ({ frames := 0, cells := 0, slots := 0, locals := 0 } : Room).locals := ⟨Nat.le_refl _, Nat.le_refl _⟩
  generalize ({ frames := 0, cells := 0, slots := 0, locals := 0 } : Room) = R at hR ⊢
  clear hsz
  generalize (hA z L sz) = A at hw ⊢
  have hx := X.1
  have hb := X.2.1
  unfold Rd_add at h
  refine lv_aload_n hx hb dX6_add_0 rfl (lv_at hl 0 rfl) ?_
  refine hm_geti X hw lk_6_40 (gl_28 hG) dX6_add_1 ?_
  refine lv_sipush (v := 130) hx hb dX6_add_4 (by decide) ?_
  refine lv_icmp_eq (tgt := 20) hx hb dX6_add_7 (by decide) (fun hc => ?_) (fun hc => ?_)
  · have h := Eq.mp (if_pos hc) h
    refine lv_iconst (v := 0) hx hb dX6_add_20 (by decide) ?_
    exact hm_iret X hr hlk hw ⟨_, rfl, h⟩ dX6_add_21
  · have h := Eq.mp (if_neg hc) h
    refine lv_aload_n hx hb dX6_add_10 rfl (lv_at hl 0 rfl) ?_
    refine hm_geti X hw lk_6_55 (gl_28 hG) dX6_add_11 ?_
    refine lv_sipush (v := 500) hx hb dX6_add_14 (by decide) ?_
    refine lv_icmp_lt (tgt := 22) hx hb dX6_add_17 (by decide) (fun hc => ?_) (fun hc => ?_)
    · have h := Eq.mp (if_pos hc) h
      refine lv_aload_n hx hb dX6_add_22 rfl (lv_at hl 0 rfl) ?_
      refine hm_getr X hw lk_6_46 (gl_28 hG) (gf_28_10 hG) dX6_add_23 ?_
      refine lv_aload_n hx hb dX6_add_26 rfl (lv_at hl 0 rfl) ?_
      refine hm_geti X hw lk_6_55 (gl_28 hG) dX6_add_27 ?_
      refine lv_iload_n hx hb dX6_add_30 rfl (lv_at hl 1 rfl) ?_
      obtain ⟨hi, h⟩ := h
      refine hm_iast X hw (gl_31 hG) hi dX6_add_31 (fun H locs hw => ?_)
      refine lv_aload_n hx hb dX6_add_32 rfl (lv_at hl 0 rfl) ?_
      refine hm_getr X hw lk_6_49 (gl_28 hG) (gf_28_11 hG) dX6_add_33 ?_
      refine lv_aload_n hx hb dX6_add_36 rfl (lv_at hl 0 rfl) ?_
      refine hm_geti X hw lk_6_55 (gl_28 hG) dX6_add_37 ?_
      refine lv_iload_n hx hb dX6_add_40 rfl (lv_at hl 2 rfl) ?_
      obtain ⟨hi, h⟩ := h
      refine hm_iast X hw (gl_32 hG) hi dX6_add_41 (fun H locs hw => ?_)
      refine lv_aload_n hx hb dX6_add_42 rfl (lv_at hl 0 rfl) ?_
      refine hm_getr X hw lk_6_52 (gl_28 hG) (gf_28_12 hG) dX6_add_43 ?_
      refine lv_aload_n hx hb dX6_add_46 rfl (lv_at hl 0 rfl) ?_
      refine hm_geti X hw lk_6_55 (gl_28 hG) dX6_add_47 ?_
      refine lv_iload_n hx hb dX6_add_50 rfl (lv_at hl 3 rfl) ?_
      obtain ⟨hi, h⟩ := h
      refine hm_iast X hw (gl_33 hG) hi dX6_add_51 (fun H locs hw => ?_)
      refine lv_aload_n hx hb dX6_add_52 rfl (lv_at hl 0 rfl) ?_
      refine lv_dup hx hb dX6_add_53 rfl ?_
      refine hm_geti X hw lk_6_55 (gl_28 hG) dX6_add_54 ?_
      refine lv_iconst (v := 1) hx hb dX6_add_57 (by decide) ?_
      refine lv_iadd hx hb dX6_add_58 ?_
      refine hm_puti X hw lk_6_55 (gl_28 hG) rfl rfl dX6_add_59 (fun H locs hw => ?_)
      refine lv_aload_n hx hb dX6_add_62 rfl (lv_at hl 0 rfl) ?_
      refine hm_geti X hw lk_6_55 (gl_28 hG) dX6_add_63 ?_
      refine lv_iconst (v := 1) hx hb dX6_add_66 (by decide) ?_
      refine lv_isub hx hb dX6_add_67 ?_
      exact hm_iret X hr hlk hw ⟨_, rfl, h⟩ dX6_add_68
    · have h := Eq.mp (if_neg hc) h
      refine lv_iconst (v := 0) hx hb dX6_add_20 (by decide) ?_
      exact hm_iret X hr hlk hw ⟨_, rfl, h⟩ dX6_add_21

theorem wkSc_dressNext_b38 {I : HI} {T : HR} {F : HR} {L : HL} {r0 : Nat} {r1 : Nat} {x2 : Int32} {Q : HI → Prop} (X : hX p m c s args RX7 cX7_dressNext 3) (hr : meth.sig.returnType = none) (hlk : meth.locks = false) (hR : 0 ≤ R.frames ∧ 0 ≤ R.locals) (hcl : hCl Ev) (hc0 : SceSh F L r0) (hn1 : NetSh F L r1)  : ∀ {ls : Array Slot} {H : Heap} {locs : List Loc}, Sc_dressNext_b38 I r0 r1 x2 Q → hW D cA z Ev (I, J, T, F, L) A s H locs → lv_has ls 3 [(0, .ref (z + r0)), (1, .ref (z + r1)), (2, .int x2)] → W p l e R s m args below meth c H locs 0 0 (MQ below (va_Qv (pIv J T F L Q) (hB D cA z A) A) args s 0 0 A) (F0 m 38 ls []) := by
  have hx := X.1
  have hb := X.2.1
  intro ls H locs h hw hl
  unfold Sc_dressNext_b38 at h
  refine lv_iload_n hx hb dX7_dressNext_38 rfl (lv_at hl 2 rfl) ?_
  refine lv_aload_n hx hb dX7_dressNext_39 rfl (lv_at hl 1 rfl) ?_
  refine hm_geti X hw lk_7_24 hn1.1 dX7_dressNext_40 ?_
  refine lv_icmp_ge (tgt := 56) hx hb dX7_dressNext_43 (by decide) (fun hc => ?_) (fun hc => ?_)
  · have h := Eq.mp (if_pos hc) h
    exact hm_vret X hr hlk hw ⟨_, rfl, h⟩ dX7_dressNext_56
  · have h := Eq.mp (if_neg hc) h
    refine lv_aload_n hx hb dX7_dressNext_46 rfl (lv_at hl 0 rfl) ?_
    refine hm_getr X hw lk_7_9 hc0.1 (ssf_0 hc0) dX7_dressNext_47 ?_
    refine lv_iload_n hx hb dX7_dressNext_50 rfl (lv_at hl 2 rfl) ?_
    refine lv_dup2_11 hx hb dX7_dressNext_51 rfl rfl ?_
    obtain ⟨hi, h⟩ := h
    refine hm_iald X hw (ssm_0 hc0) hi dX7_dressNext_52 ?_
    refine lv_iconst (v := 1) hx hb dX7_dressNext_53 (by decide) ?_
    refine lv_iadd hx hb dX7_dressNext_54 ?_
    obtain ⟨hi, h⟩ := h
    refine hm_iast X hw (ssm_0 hc0) hi dX7_dressNext_55 (fun H locs hw => ?_)
    exact hm_vret X hr hlk hw ⟨_, rfl, h⟩ dX7_dressNext_56

theorem wkSc_dressNext_l2 {T : HR} {F : HR} {L : HL} {r0 : Nat} {r1 : Nat} {Q : HI → Prop} (X : hX p m c s args RX7 cX7_dressNext 3) (hr : meth.sig.returnType = none) (hlk : meth.locks = false) (hR : 0 ≤ R.frames ∧ 0 ≤ R.locals) (hcl : hCl Ev) (hc0 : SceSh F L r0) (hn1 : NetSh F L r1)  : ∀ (n : Nat) (I : HI) (x2 : Int32) {ls : Array Slot} {H : Heap} {locs : List Loc}, Sc_dressNext_l2 r0 r1 Q n I x2 → hW D cA z Ev (I, J, T, F, L) A s H locs → lv_has ls 3 [(0, .ref (z + r0)), (1, .ref (z + r1)), (2, .int x2)] → W p l e R s m args below meth c H locs 0 0 (MQ below (va_Qv (pIv J T F L Q) (hB D cA z A) A) args s 0 0 A) (F0 m 2 ls []) := by
  have hx := X.1
  have hb := X.2.1
  intro n
  induction n with
  | zero => intro I x2 ls H locs h; exact False.elim h
  | succ n ih =>
    intro I x2 ls H locs h hw hl
    rw [Sc_dressNext_l2] at h
    refine lv_iload_n hx hb dX7_dressNext_2 rfl (lv_at hl 2 rfl) ?_
    refine lv_aload_n hx hb dX7_dressNext_3 rfl (lv_at hl 1 rfl) ?_
    refine hm_geti X hw lk_7_24 hn1.1 dX7_dressNext_4 ?_
    refine lv_icmp_ge (tgt := 38) hx hb dX7_dressNext_7 (by decide) (fun hc => ?_) (fun hc => ?_)
    · have h := Eq.mp (if_pos hc) h
      exact wkSc_dressNext_b38 X hr hlk hR hcl hc0 hn1  h hw (lv_sub hl [0, 1, 2] rfl)
    · have h := Eq.mp (if_neg hc) h
      refine lv_aload_n hx hb dX7_dressNext_10 rfl (lv_at hl 0 rfl) ?_
      refine hm_getr X hw lk_7_9 hc0.1 (ssf_0 hc0) dX7_dressNext_11 ?_
      refine lv_iload_n hx hb dX7_dressNext_14 rfl (lv_at hl 2 rfl) ?_
      obtain ⟨hi, h⟩ := h
      refine hm_iald X hw (ssm_0 hc0) hi dX7_dressNext_15 ?_
      refine lv_aload_n hx hb dX7_dressNext_16 rfl (lv_at hl 1 rfl) ?_
      refine hm_geti X hw lk_7_30 hn1.1 dX7_dressNext_17 ?_
      refine lv_iconst (v := 1) hx hb dX7_dressNext_20 (by decide) ?_
      refine lv_isub hx hb dX7_dressNext_21 ?_
      refine lv_icmp_ne (tgt := 38) hx hb dX7_dressNext_22 (by decide) (fun hc => ?_) (fun hc => ?_)
      · have h := Eq.mp (if_neg hc) h
        exact wkSc_dressNext_b38 X hr hlk hR hcl hc0 hn1  h hw (lv_sub hl [0, 1, 2] rfl)
      · have h := Eq.mp (if_pos hc) h
        refine lv_aload_n hx hb dX7_dressNext_25 rfl (lv_at hl 0 rfl) ?_
        refine hm_getr X hw lk_7_9 hc0.1 (ssf_0 hc0) dX7_dressNext_26 ?_
        refine lv_iload_n hx hb dX7_dressNext_29 rfl (lv_at hl 2 rfl) ?_
        refine lv_iconst (v := 0) hx hb dX7_dressNext_30 (by decide) ?_
        obtain ⟨hi, h⟩ := h
        refine hm_iast X hw (ssm_0 hc0) hi dX7_dressNext_31 (fun H locs hw => ?_)
        refine lv_iinc (v := x2 + 1) (lv' := [(2, _), (0, _), (1, _)]) hx hb dX7_dressNext_32 hl (k := 2) rfl rfl (by decide) rfl (fun ls hl => ?_)
        refine lv_goto (tgt := 2) hx hb dX7_dressNext_35 (by decide) ?_
        exact ih _ _ h hw (lv_sub hl [1, 2, 0] rfl)

theorem cSc_dressNext {l : Launch} {D : va_G} {cA : Nat → ClassId} {z sz : Nat} {I : HI} {T : HR} {F : HR} {L : HL} {r0 : Nat} {r1 : Nat} {Q : HI → Prop} (hcl : hCl Ev) (hc0 : SceSh F L r0) (hn1 : NetSh F L r1) (h : Sc_dressNext I r0 r1 Q) : Met l yX7_dressNext (hws0 yX7_dressNext cX7_dressNext 3 none) { frames := 0, cells := 0, slots := 0, locals := 0 } (hPc D cA z Ev (I, J, T, F, L) sz [.ref (z + r0), .ref (z + r1)]) (va_Qv (pIv J T F L Q) (hB D cA z (hA z L sz)) (hA z L sz)) 0 0 (hA z L sz) := by
  refine hm_met (I, J, T, F, L) [.ref (z + r0), .ref (z + r1)] rfl (by decide) (Nat.le_of_ble_eq_true rfl) ?_
  intro p e s m below meth c ls X hr hlk hnm hxt hsz hw hl
  have hl : lv_has ls 3 [(0, .ref (z + r0)), (1, .ref (z + r1))] := hl
  have hR : 0 ≤ ({ frames := 0, cells := 0, slots := 0, locals := 0 } : Room).frames ∧ 0 ≤ ({ frames := 0, cells := 0, slots := 0, locals := 0 } : Room).locals := ⟨Nat.le_refl _, Nat.le_refl _⟩
  generalize ({ frames := 0, cells := 0, slots := 0, locals := 0 } : Room) = R at hR ⊢
  clear hsz
  generalize (hA z L sz) = A at hw ⊢
  have hx := X.1
  have hb := X.2.1
  unfold Sc_dressNext at h
  refine lv_iconst (v := 0) hx hb dX7_dressNext_0 (by decide) ?_
  refine lv_istore_n (lv' := [(2, _), (0, _), (1, _)]) hx hb dX7_dressNext_1 rfl hl (by decide) rfl (fun ls hl => ?_)
  obtain ⟨n2, h⟩ := h
  exact wkSc_dressNext_l2 X hr hlk hR hcl hc0 hn1  n2 _ _ h hw (lv_sub hl [1, 2, 0] rfl)

theorem wkSc_changesGuess_b64 {I : HI} {T : HR} {F : HR} {L : HL} {r0 : Nat} {r1 : Nat} {x3 : Int32} {x4 : Int32} {x5 : Int32} {Q : Int32 → HI → Prop} (X : hX p m c s args RX7 cX7_changesGuess 7) (hr : meth.sig.returnType = (some .boolean)) (hlk : meth.locks = false) (hR : 4 ≤ R.frames ∧ 97 ≤ R.locals) (hcl : hCl Ev) (hc0 : SceSh F L r0) (hn1 : NetSh F L r1)  : ∀ {ls : Array Slot} {H : Heap} {locs : List Loc}, Sc_changesGuess_b64 I T F L r0 r1 x3 x4 x5 Q → hW D cA z Ev (I, J, T, F, L) A s H locs → lv_has ls 7 [(0, .ref (z + r0)), (3, .int x3), (4, .int x4), (5, .int x5)] → W p l e R s m args below meth c H locs 0 0 (MQ below (va_Qi (pI J T F L Q) (hB D cA z A) A) args s 0 0 A) (F0 m 64 ls []) := by
  have hx := X.1
  have hb := X.2.1
  intro ls H locs h hw hl
  unfold Sc_changesGuess_b64 at h
  refine lv_aload_n hx hb dX7_changesGuess_64 rfl (lv_at hl 0 rfl) ?_
  refine hm_getr X hw lk_7_9 hc0.1 (ssf_0 hc0) dX7_changesGuess_65 ?_
  refine lv_iload_n hx hb dX7_changesGuess_68 rfl (lv_at hl 1 rfl) ?_
  refine lv_iload hx hb dX7_changesGuess_69 (lv_at hl 2 rfl) ?_
  obtain ⟨hi, h⟩ := h
  refine hm_iast X hw (ssm_0 hc0) hi dX7_changesGuess_71 (fun H locs hw => ?_)
  refine lv_iload hx hb dX7_changesGuess_72 (lv_at hl 3 rfl) ?_
  obtain ⟨hz, h⟩ := h
  exact hm_zret X hr hlk hw hz ⟨_, rfl, h⟩ dX7_changesGuess_74

theorem wkSc_changesGuess_l14 {T : HR} {F : HR} {L : HL} {r0 : Nat} {r1 : Nat} {x2 : Int32} {x3 : Int32} {x4 : Int32} {Q : Int32 → HI → Prop} (X : hX p m c s args RX7 cX7_changesGuess 7) (hr : meth.sig.returnType = (some .boolean)) (hlk : meth.locks = false) (hR : 4 ≤ R.frames ∧ 97 ≤ R.locals) (hcl : hCl Ev) (hc0 : SceSh F L r0) (hn1 : NetSh F L r1)  : ∀ (n : Nat) (I : HI) (x5 : Int32) (x6 : Int32) {ls : Array Slot} {H : Heap} {locs : List Loc}, Sc_changesGuess_l14 T F L r0 r1 x2 x3 x4 Q n I x5 x6 → hW D cA z Ev (I, J, T, F, L) A s H locs → lv_has ls 7 [(0, .ref (z + r0)), (1, .ref (z + r1)), (2, .int x2), (3, .int x3), (4, .int x4), (5, .int x5), (6, .int x6)] → W p l e R s m args below meth c H locs 0 0 (MQ below (va_Qi (pI J T F L Q) (hB D cA z A) A) args s 0 0 A) (F0 m 14 ls []) := by
  have hx := X.1
  have hb := X.2.1
  intro n
  induction n with
  | zero => intro I x5 x6 ls H locs h; exact False.elim h
  | succ n ih =>
    intro I x5 x6 ls H locs h hw hl
    rw [Sc_changesGuess_l14] at h
    refine lv_iload hx hb dX7_changesGuess_14 (lv_at hl 6 rfl) ?_
    refine lv_aload_n hx hb dX7_changesGuess_16 rfl (lv_at hl 1 rfl) ?_
    refine hm_geti X hw lk_7_30 hn1.1 dX7_changesGuess_17 ?_
    refine lv_icmp_ge (tgt := 64) hx hb dX7_changesGuess_20 (by decide) (fun hc => ?_) (fun hc => ?_)
    · have h := Eq.mp (if_pos hc) h
      exact wkSc_changesGuess_b64 X hr hlk hR hcl hc0 hn1  h hw (lv_sub hl [0, 3, 4, 5] rfl)
    · have h := Eq.mp (if_neg hc) h
      refine lv_iload hx hb dX7_changesGuess_23 (lv_at hl 5 rfl) ?_
      refine lv_if_ne (tgt := 64) hx hb dX7_changesGuess_25 (by decide) (fun hc => ?_) (fun hc => ?_)
      · have h := Eq.mp (if_neg hc) h
        exact wkSc_changesGuess_b64 X hr hlk hR hcl hc0 hn1  h hw (lv_sub hl [0, 3, 4, 5] rfl)
      · have h := Eq.mp (if_pos hc) h
        refine lv_aload_n hx hb dX7_changesGuess_28 rfl (lv_at hl 0 rfl) ?_
        refine hm_getr X hw lk_7_9 hc0.1 (ssf_0 hc0) dX7_changesGuess_29 ?_
        refine lv_iload_n hx hb dX7_changesGuess_32 rfl (lv_at hl 3 rfl) ?_
        refine lv_iload hx hb dX7_changesGuess_33 (lv_at hl 6 rfl) ?_
        obtain ⟨hi, h⟩ := h
        refine hm_iast X hw (ssm_0 hc0) hi dX7_changesGuess_35 (fun H locs hw => ?_)
        refine lv_aload_n hx hb dX7_changesGuess_36 rfl (lv_at hl 0 rfl) ?_
        refine lv_aload_n hx hb dX7_changesGuess_37 rfl (lv_at hl 1 rfl) ?_
        refine lv_iload_n hx hb dX7_changesGuess_38 rfl (lv_at hl 2 rfl) ?_
        refine hm_calli hw (hm_runV (rest := []) hcl X hw (cSc_guessOf hcl hc0 hn1 h) yk_X7_guessOf kw555 rfl hc0.1 rfl hl.1 rfl rfl rfl (Nat.le_of_ble_eq_true rfl) ⟨Nat.le_trans (Nat.le_of_ble_eq_true rfl) hR.1, Nat.le_trans (Nat.le_of_ble_eq_true rfl) hR.2⟩ ⟨Nat.zero_le _, Nat.zero_le _⟩ dX7_changesGuess_39) (fun a1 u3 H locs hp hw => ?_)
        obtain ⟨I2, rfl, h⟩ := hp
        refine lv_aload_n hx hb dX7_changesGuess_42 rfl (lv_at hl 0 rfl) ?_
        refine hm_getr X hw lk_7_15 hc0.1 (ssf_1 hc0) dX7_changesGuess_43 ?_
        refine lv_iload_n hx hb dX7_changesGuess_46 rfl (lv_at hl 2 rfl) ?_
        obtain ⟨hi, h⟩ := h
        refine hm_iald X hw (ssm_1 hc0) hi dX7_changesGuess_47 ?_
        refine lv_icmp_eq (tgt := 55) hx hb dX7_changesGuess_48 (by decide) (fun hc => ?_) (fun hc => ?_)
        · have h := Eq.mp (if_pos hc) h
          refine lv_iconst (v := 0) hx hb dX7_changesGuess_55 (by decide) ?_
          refine lv_istore (lv' := [(5, _), (0, _), (1, _), (2, _), (3, _), (4, _), (6, _)]) hx hb dX7_changesGuess_56 hl (by decide) rfl (fun ls hl => ?_)
          refine lv_iinc (v := x6 + 1) (lv' := [(6, _), (5, _), (0, _), (1, _), (2, _), (3, _), (4, _)]) hx hb dX7_changesGuess_58 hl (k := 6) rfl rfl (by decide) rfl (fun ls hl => ?_)
          refine lv_goto (tgt := 14) hx hb dX7_changesGuess_61 (by decide) ?_
          exact ih _ _ _ h hw (lv_sub hl [2, 3, 4, 5, 6, 1, 0] rfl)
        · have h := Eq.mp (if_neg hc) h
          refine lv_iconst (v := 1) hx hb dX7_changesGuess_51 (by decide) ?_
          refine lv_goto (tgt := 56) hx hb dX7_changesGuess_52 (by decide) ?_
          refine lv_istore (lv' := [(5, _), (0, _), (1, _), (2, _), (3, _), (4, _), (6, _)]) hx hb dX7_changesGuess_56 hl (by decide) rfl (fun ls hl => ?_)
          refine lv_iinc (v := x6 + 1) (lv' := [(6, _), (5, _), (0, _), (1, _), (2, _), (3, _), (4, _)]) hx hb dX7_changesGuess_58 hl (k := 6) rfl rfl (by decide) rfl (fun ls hl => ?_)
          refine lv_goto (tgt := 14) hx hb dX7_changesGuess_61 (by decide) ?_
          exact ih _ _ _ h hw (lv_sub hl [2, 3, 4, 5, 6, 1, 0] rfl)

theorem cSc_changesGuess {l : Launch} {D : va_G} {cA : Nat → ClassId} {z sz : Nat} {I : HI} {T : HR} {F : HR} {L : HL} {r0 : Nat} {r1 : Nat} {x2 : Int32} {x3 : Int32} {Q : Int32 → HI → Prop} (hcl : hCl Ev) (hc0 : SceSh F L r0) (hn1 : NetSh F L r1) (h : Sc_changesGuess I T F L r0 r1 x2 x3 Q) : Met l yX7_changesGuess (hws0 yX7_changesGuess cX7_changesGuess 7 (some .boolean)) { frames := 4, cells := 0, slots := 0, locals := 97 } (hPc D cA z Ev (I, J, T, F, L) sz [.ref (z + r0), .ref (z + r1), .int x2, .int x3]) (va_Qi (pI J T F L Q) (hB D cA z (hA z L sz)) (hA z L sz)) 0 0 (hA z L sz) := by
  refine hm_met (I, J, T, F, L) [.ref (z + r0), .ref (z + r1), .int x2, .int x3] rfl (by decide) (Nat.le_of_ble_eq_true rfl) ?_
  intro p e s m below meth c ls X hr hlk hnm hxt hsz hw hl
  have hl : lv_has ls 7 [(0, .ref (z + r0)), (1, .ref (z + r1)), (2, .int x2), (3, .int x3)] := hl
  have hR : 4 ≤ ({ frames := 4, cells := 0, slots := 0, locals := 97 } : Room).frames ∧ 97 ≤ ({ frames := 4, cells := 0, slots := 0, locals := 97 } : Room).locals := ⟨Nat.le_refl _, Nat.le_refl _⟩
  generalize ({ frames := 4, cells := 0, slots := 0, locals := 97 } : Room) = R at hR ⊢
  clear hsz
  generalize (hA z L sz) = A at hw ⊢
  have hx := X.1
  have hb := X.2.1
  unfold Sc_changesGuess at h
  refine lv_aload_n hx hb dX7_changesGuess_0 rfl (lv_at hl 0 rfl) ?_
  refine hm_getr X hw lk_7_9 hc0.1 (ssf_0 hc0) dX7_changesGuess_1 ?_
  refine lv_iload_n hx hb dX7_changesGuess_4 rfl (lv_at hl 3 rfl) ?_
  obtain ⟨hi, h⟩ := h
  refine hm_iald X hw (ssm_0 hc0) hi dX7_changesGuess_5 ?_
  refine lv_istore (lv' := [(4, _), (0, _), (1, _), (2, _), (3, _)]) hx hb dX7_changesGuess_6 hl (by decide) rfl (fun ls hl => ?_)
  refine lv_iconst (v := 0) hx hb dX7_changesGuess_8 (by decide) ?_
  refine lv_istore (lv' := [(5, _), (4, _), (0, _), (1, _), (2, _), (3, _)]) hx hb dX7_changesGuess_9 hl (by decide) rfl (fun ls hl => ?_)
  refine lv_iconst (v := 0) hx hb dX7_changesGuess_11 (by decide) ?_
  refine lv_istore (lv' := [(6, _), (5, _), (4, _), (0, _), (1, _), (2, _), (3, _)]) hx hb dX7_changesGuess_12 hl (by decide) rfl (fun ls hl => ?_)
  obtain ⟨n2, h⟩ := h
  exact wkSc_changesGuess_l14 X hr hlk hR hcl hc0 hn1  n2 _ _ _ h hw (lv_sub hl [3, 4, 5, 6, 2, 1, 0] rfl)

theorem wkSc_looksThatMatter_l6 {T : HR} {F : HR} {L : HL} {r0 : Nat} {r1 : Nat} {x2 : Int32} {x3 : Int32} {Q : Int32 → HI → Prop} (X : hX p m c s args RX7 cX7_looksThatMatter 6) (hr : meth.sig.returnType = (some .int)) (hlk : meth.locks = false) (hR : 5 ≤ R.frames ∧ 123 ≤ R.locals) (hcl : hCl Ev) (hc0 : SceSh F L r0) (hn1 : NetSh F L r1)  : ∀ (n : Nat) (I : HI) (x4 : Int32) (x5 : Int32) {ls : Array Slot} {H : Heap} {locs : List Loc}, Sc_looksThatMatter_l6 T F L r0 r1 x2 x3 Q n I x4 x5 → hW D cA z Ev (I, J, T, F, L) A s H locs → lv_has ls 6 [(0, .ref (z + r0)), (1, .ref (z + r1)), (2, .int x2), (3, .int x3), (4, .int x4), (5, .int x5)] → W p l e R s m args below meth c H locs 0 0 (MQ below (va_Qi (pI J T F L Q) (hB D cA z A) A) args s 0 0 A) (F0 m 6 ls []) := by
  have hx := X.1
  have hb := X.2.1
  intro n
  induction n with
  | zero => intro I x4 x5 ls H locs h; exact False.elim h
  | succ n ih =>
    intro I x4 x5 ls H locs h hw hl
    rw [Sc_looksThatMatter_l6] at h
    refine lv_iload hx hb dX7_looksThatMatter_6 (lv_at hl 5 rfl) ?_
    refine lv_aload_n hx hb dX7_looksThatMatter_8 rfl (lv_at hl 1 rfl) ?_
    refine hm_geti X hw lk_7_24 hn1.1 dX7_looksThatMatter_9 ?_
    refine lv_icmp_ge (tgt := 51) hx hb dX7_looksThatMatter_12 (by decide) (fun hc => ?_) (fun hc => ?_)
    · have h := Eq.mp (if_pos hc) h
      refine lv_iload hx hb dX7_looksThatMatter_51 (lv_at hl 4 rfl) ?_
      exact hm_iret X hr hlk hw ⟨_, rfl, h⟩ dX7_looksThatMatter_53
    · have h := Eq.mp (if_neg hc) h
      refine lv_iload_n hx hb dX7_looksThatMatter_15 rfl (lv_at hl 3 rfl) ?_
      refine lv_iload hx hb dX7_looksThatMatter_16 (lv_at hl 5 rfl) ?_
      refine lv_ishr hx hb dX7_looksThatMatter_18 ?_
      refine lv_iconst (v := 1) hx hb dX7_looksThatMatter_19 (by decide) ?_
      refine lv_iand hx hb dX7_looksThatMatter_20 ?_
      refine lv_iconst (v := 1) hx hb dX7_looksThatMatter_21 (by decide) ?_
      refine lv_icmp_ne (tgt := 45) hx hb dX7_looksThatMatter_22 (by decide) (fun hc => ?_) (fun hc => ?_)
      · have h := Eq.mp (if_neg hc) h
        refine lv_iinc (v := x5 + 1) (lv' := [(5, _), (0, _), (1, _), (2, _), (3, _), (4, _)]) hx hb dX7_looksThatMatter_45 hl (k := 5) rfl rfl (by decide) rfl (fun ls hl => ?_)
        refine lv_goto (tgt := 6) hx hb dX7_looksThatMatter_48 (by decide) ?_
        exact ih _ _ _ h hw (lv_sub hl [1, 2, 3, 4, 5, 0] rfl)
      · have h := Eq.mp (if_pos hc) h
        refine lv_aload_n hx hb dX7_looksThatMatter_25 rfl (lv_at hl 0 rfl) ?_
        refine lv_aload_n hx hb dX7_looksThatMatter_26 rfl (lv_at hl 1 rfl) ?_
        refine lv_iload_n hx hb dX7_looksThatMatter_27 rfl (lv_at hl 2 rfl) ?_
        refine lv_iload hx hb dX7_looksThatMatter_28 (lv_at hl 5 rfl) ?_
        refine hm_calli hw (hm_runV (rest := []) hcl X hw (cSc_changesGuess hcl hc0 hn1 h) yk_X7_changesGuess kw1138 rfl hc0.1 rfl hl.1 rfl rfl rfl (Nat.le_of_ble_eq_true rfl) ⟨Nat.le_trans (Nat.le_of_ble_eq_true rfl) hR.1, Nat.le_trans (Nat.le_of_ble_eq_true rfl) hR.2⟩ ⟨Nat.zero_le _, Nat.zero_le _⟩ dX7_looksThatMatter_30) (fun a1 u3 H locs hp hw => ?_)
        obtain ⟨I2, rfl, h⟩ := hp
        refine lv_if_eq (tgt := 45) hx hb dX7_looksThatMatter_33 (by decide) (fun hc => ?_) (fun hc => ?_)
        · have h := Eq.mp (if_pos hc) h
          refine lv_iinc (v := x5 + 1) (lv' := [(5, _), (0, _), (1, _), (2, _), (3, _), (4, _)]) hx hb dX7_looksThatMatter_45 hl (k := 5) rfl rfl (by decide) rfl (fun ls hl => ?_)
          refine lv_goto (tgt := 6) hx hb dX7_looksThatMatter_48 (by decide) ?_
          exact ih _ _ _ h hw (lv_sub hl [1, 2, 3, 4, 5, 0] rfl)
        · have h := Eq.mp (if_neg hc) h
          refine lv_iload hx hb dX7_looksThatMatter_36 (lv_at hl 4 rfl) ?_
          refine lv_iconst (v := 1) hx hb dX7_looksThatMatter_38 (by decide) ?_
          refine lv_iload hx hb dX7_looksThatMatter_39 (lv_at hl 5 rfl) ?_
          refine lv_ishl hx hb dX7_looksThatMatter_41 ?_
          refine lv_ior hx hb dX7_looksThatMatter_42 ?_
          refine lv_istore (lv' := [(4, _), (0, _), (1, _), (2, _), (3, _), (5, _)]) hx hb dX7_looksThatMatter_43 hl (by decide) rfl (fun ls hl => ?_)
          refine lv_iinc (v := x5 + 1) (lv' := [(5, _), (4, _), (0, _), (1, _), (2, _), (3, _)]) hx hb dX7_looksThatMatter_45 hl (k := 5) rfl rfl (by decide) rfl (fun ls hl => ?_)
          refine lv_goto (tgt := 6) hx hb dX7_looksThatMatter_48 (by decide) ?_
          exact ih _ _ _ h hw (lv_sub hl [2, 3, 4, 5, 1, 0] rfl)

theorem cSc_looksThatMatter {l : Launch} {D : va_G} {cA : Nat → ClassId} {z sz : Nat} {I : HI} {T : HR} {F : HR} {L : HL} {r0 : Nat} {r1 : Nat} {x2 : Int32} {x3 : Int32} {Q : Int32 → HI → Prop} (hcl : hCl Ev) (hc0 : SceSh F L r0) (hn1 : NetSh F L r1) (h : Sc_looksThatMatter I T F L r0 r1 x2 x3 Q) : Met l yX7_looksThatMatter (hws0 yX7_looksThatMatter cX7_looksThatMatter 6 (some .int)) { frames := 5, cells := 0, slots := 0, locals := 123 } (hPc D cA z Ev (I, J, T, F, L) sz [.ref (z + r0), .ref (z + r1), .int x2, .int x3]) (va_Qi (pI J T F L Q) (hB D cA z (hA z L sz)) (hA z L sz)) 0 0 (hA z L sz) := by
  refine hm_met (I, J, T, F, L) [.ref (z + r0), .ref (z + r1), .int x2, .int x3] rfl (by decide) (Nat.le_of_ble_eq_true rfl) ?_
  intro p e s m below meth c ls X hr hlk hnm hxt hsz hw hl
  have hl : lv_has ls 6 [(0, .ref (z + r0)), (1, .ref (z + r1)), (2, .int x2), (3, .int x3)] := hl
  have hR : 5 ≤ ({ frames := 5, cells := 0, slots := 0, locals := 123 } : Room).frames ∧ 123 ≤ ({ frames := 5, cells := 0, slots := 0, locals := 123 } : Room).locals := ⟨Nat.le_refl _, Nat.le_refl _⟩
  generalize ({ frames := 5, cells := 0, slots := 0, locals := 123 } : Room) = R at hR ⊢
  clear hsz
  generalize (hA z L sz) = A at hw ⊢
  have hx := X.1
  have hb := X.2.1
  unfold Sc_looksThatMatter at h
  refine lv_iconst (v := 0) hx hb dX7_looksThatMatter_0 (by decide) ?_
  refine lv_istore (lv' := [(4, _), (0, _), (1, _), (2, _), (3, _)]) hx hb dX7_looksThatMatter_1 hl (by decide) rfl (fun ls hl => ?_)
  refine lv_iconst (v := 0) hx hb dX7_looksThatMatter_3 (by decide) ?_
  refine lv_istore (lv' := [(5, _), (4, _), (0, _), (1, _), (2, _), (3, _)]) hx hb dX7_looksThatMatter_4 hl (by decide) rfl (fun ls hl => ?_)
  obtain ⟨n2, h⟩ := h
  exact wkSc_looksThatMatter_l6 X hr hlk hR hcl hc0 hn1  n2 _ _ _ h hw (lv_sub hl [2, 3, 4, 5, 1, 0] rfl)

theorem wkJd_fillB_l5 {T : HR} {F : HR} {L : HL} {r0 : Nat} {n0 : Nat} {x1 : Int32} {x3 : Int32} {Q : HI → Prop} (X : hX p m c s args RJ7 cJ7_fill_031fb 4) (hr : meth.sig.returnType = none) (hlk : meth.locks = false) (hR : 0 ≤ R.frames ∧ 0 ≤ R.locals) (hcl : hCl Ev) (hs0 : (r0, 1, n0) ∈ L)  : ∀ (n : Nat) (I : HI) (x2 : Int32) {ls : Array Slot} {H : Heap} {locs : List Loc}, Jd_fillB_l5 r0 n0 x1 x3 Q n I x2 → hW D cA z Ev (I, J, T, F, L) A s H locs → lv_has ls 4 [(0, .ref (z + r0)), (1, .int x1), (2, .int x2), (3, .int x3)] → W p l e R s m args below meth c H locs 0 0 (MQ below (va_Qv (pIv J T F L Q) (hB D cA z A) A) args s 0 0 A) (F0 m 5 ls []) := by
  have hx := X.1
  have hb := X.2.1
  intro n
  induction n with
  | zero => intro I x2 ls H locs h; exact False.elim h
  | succ n ih =>
    intro I x2 ls H locs h hw hl
    rw [Jd_fillB_l5] at h
    refine lv_iload_n hx hb dJ7_fill_031fb_5 rfl (lv_at hl 2 rfl) ?_
    refine lv_iload_n hx hb dJ7_fill_031fb_6 rfl (lv_at hl 3 rfl) ?_
    refine lv_icmp_ge (tgt := 20) hx hb dJ7_fill_031fb_7 (by decide) (fun hc => ?_) (fun hc => ?_)
    · have h := Eq.mp (if_pos hc) h
      exact hm_vret X hr hlk hw ⟨_, rfl, h⟩ dJ7_fill_031fb_20
    · have h := Eq.mp (if_neg hc) h
      refine lv_aload_n hx hb dJ7_fill_031fb_10 rfl (lv_at hl 0 rfl) ?_
      refine lv_iload_n hx hb dJ7_fill_031fb_11 rfl (lv_at hl 2 rfl) ?_
      refine lv_iload_n hx hb dJ7_fill_031fb_12 rfl (lv_at hl 1 rfl) ?_
      obtain ⟨hi, h⟩ := h
      refine hm_bast X hw hs0 hi dJ7_fill_031fb_13 (fun H locs hw => ?_)
      refine lv_iinc (v := x2 + 1) (lv' := [(2, _), (0, _), (1, _), (3, _)]) hx hb dJ7_fill_031fb_14 hl (k := 2) rfl rfl (by decide) rfl (fun ls hl => ?_)
      refine lv_goto (tgt := 5) hx hb dJ7_fill_031fb_17 (by decide) ?_
      exact ih _ _ h hw (lv_sub hl [1, 2, 0, 3] rfl)

theorem cJd_fillB {l : Launch} {D : va_G} {cA : Nat → ClassId} {z sz : Nat} {I : HI} {T : HR} {F : HR} {L : HL} {r0 : Nat} {n0 : Nat} {x1 : Int32} {Q : HI → Prop} (hcl : hCl Ev) (hs0 : (r0, 1, n0) ∈ L) (h : Jd_fillB I r0 n0 x1 Q) : Met l yJ7_fill_031fb (hws0 yJ7_fill_031fb cJ7_fill_031fb 4 none) { frames := 0, cells := 0, slots := 0, locals := 0 } (hPc D cA z Ev (I, J, T, F, L) sz [.ref (z + r0), .int x1]) (va_Qv (pIv J T F L Q) (hB D cA z (hA z L sz)) (hA z L sz)) 0 0 (hA z L sz) := by
  refine hm_metF (I, J, T, F, L) [.ref (z + r0), .int x1] rfl (by decide +kernel) (Nat.le_of_ble_eq_true rfl) ?_
  intro p e s m below meth c ls X hr hlk hnm hxt hsz hw hl
  have hl : lv_has ls 4 [(0, .ref (z + r0)), (1, .int x1)] := hl
  have hR : 0 ≤ ({ frames := 0, cells := 0, slots := 0, locals := 0 } : Room).frames ∧ 0 ≤ ({ frames := 0, cells := 0, slots := 0, locals := 0 } : Room).locals := ⟨Nat.le_refl _, Nat.le_refl _⟩
  generalize ({ frames := 0, cells := 0, slots := 0, locals := 0 } : Room) = R at hR ⊢
  clear hsz
  generalize (hA z L sz) = A at hw ⊢
  have hx := X.1
  have hb := X.2.1
  unfold Jd_fillB at h
  refine lv_iconst (v := 0) hx hb dJ7_fill_031fb_0 (by decide) ?_
  refine lv_istore_n (lv' := [(2, _), (0, _), (1, _)]) hx hb dJ7_fill_031fb_1 rfl hl (by decide) rfl (fun ls hl => ?_)
  refine lv_aload_n hx hb dJ7_fill_031fb_2 rfl (lv_at hl 1 rfl) ?_
  refine hm_alen1 X hw hs0 dJ7_fill_031fb_3 ?_
  refine lv_istore_n (lv' := [(3, _), (2, _), (0, _), (1, _)]) hx hb dJ7_fill_031fb_4 rfl hl (by decide) rfl (fun ls hl => ?_)
  obtain ⟨n2, h⟩ := h
  exact wkJd_fillB_l5 X hr hlk hR hcl hs0  n2 _ _ h hw (lv_sub hl [2, 3, 1, 0] rfl)

theorem cSe_cellOf {l : Launch} {D : va_G} {cA : Nat → ClassId} {z sz : Nat} {I : HI} {T : HR} {F : HR} {L : HL} {r1 : Nat} {r2 : Nat} {x3 : Int32} {Q : Int32 → Prop} (hcl : hCl Ev) (hG : Geo F L) (hn1 : NetSh F L r1) (hc2 : SceSh F L r2) (h : Se_cellOf I r1 r2 x3 Q) : Met l yX8_cellOf (hws0 yX8_cellOf cX8_cellOf 4 (some .int)) { frames := 1, cells := 0, slots := 0, locals := 26 } (hPc D cA z Ev (I, J, T, F, L) sz [.ref (z + 35), .ref (z + r1), .ref (z + r2), .int x3]) (va_Qi (p0 (I, J, T, F, L) Q) (hB D cA z (hA z L sz)) (hA z L sz)) 0 0 (hA z L sz) := by
  refine hm_met (I, J, T, F, L) [.ref (z + 35), .ref (z + r1), .ref (z + r2), .int x3] rfl (by decide) (Nat.le_of_ble_eq_true rfl) ?_
  intro p e s m below meth c ls X hr hlk hnm hxt hsz hw hl
  have hl : lv_has ls 4 [(0, .ref (z + 35)), (1, .ref (z + r1)), (2, .ref (z + r2)), (3, .int x3)] := hl
  have hR : 1 ≤ ({ frames := 1, cells := 0, slots := 0, locals := 26 } : Room).frames ∧ 26 ≤ ({ frames := 1, cells := 0, slots := 0, locals := 26 } : Room).locals := ⟨Nat.le_refl _, Nat.le_refl _⟩
  generalize ({ frames := 1, cells := 0, slots := 0, locals := 26 } : Room) = R at hR ⊢
  clear hsz
  generalize (hA z L sz) = A at hw ⊢
  have hx := X.1
  have hb := X.2.1
  unfold Se_cellOf at h
  refine lv_iload_n hx hb dX8_cellOf_0 rfl (lv_at hl 3 rfl) ?_
  refine lv_sipush (v := 1024) hx hb dX8_cellOf_1 (by decide) ?_
  refine lv_imul hx hb dX8_cellOf_4 ?_
  refine lv_aload_n hx hb dX8_cellOf_5 rfl (lv_at hl 2 rfl) ?_
  refine lv_aload_n hx hb dX8_cellOf_6 rfl (lv_at hl 1 rfl) ?_
  refine lv_iload_n hx hb dX8_cellOf_7 rfl (lv_at hl 3 rfl) ?_
  refine hm_calli hw (hm_runV (rest := [_]) hcl X hw (cSc_viewOf hcl hc2 hn1 h) yk_X7_viewOf kw1184 rfl hc2.1 rfl hl.1 rfl rfl rfl (Nat.le_of_ble_eq_true rfl) ⟨Nat.le_trans (Nat.le_of_ble_eq_true rfl) hR.1, Nat.le_trans (Nat.le_of_ble_eq_true rfl) hR.2⟩ ⟨Nat.zero_le _, Nat.zero_le _⟩ dX8_cellOf_8) (fun a1 u2 H locs hp hw => ?_)
  obtain ⟨rfl, h⟩ := hp
  refine lv_iadd hx hb dX8_cellOf_11 ?_
  exact hm_iret X hr hlk hw ⟨rfl, h⟩ dX8_cellOf_12

theorem wkSe_someoneIsRight_l2 {I : HI} {T : HR} {F : HR} {L : HL} {r1 : Nat} {r2 : Nat} {Q : Int32 → Prop} (X : hX p m c s args RX8 cX8_someoneIsRight 4) (hr : meth.sig.returnType = (some .boolean)) (hlk : meth.locks = false) (hR : 2 ≤ R.frames ∧ 49 ≤ R.locals) (hcl : hCl Ev) (hG : Geo F L) (hn1 : NetSh F L r1) (hc2 : SceSh F L r2)  : ∀ (n : Nat) (x3 : Int32) {ls : Array Slot} {H : Heap} {locs : List Loc}, Se_someoneIsRight_l2 I r1 r2 Q n x3 → hW D cA z Ev (I, J, T, F, L) A s H locs → lv_has ls 4 [(0, .ref (z + 35)), (1, .ref (z + r1)), (2, .ref (z + r2)), (3, .int x3)] → W p l e R s m args below meth c H locs 0 0 (MQ below (va_Qi (p0 (I, J, T, F, L) Q) (hB D cA z A) A) args s 0 0 A) (F0 m 2 ls []) := by
  have hx := X.1
  have hb := X.2.1
  intro n
  induction n with
  | zero => intro x3 ls H locs h; exact False.elim h
  | succ n ih =>
    intro x3 ls H locs h hw hl
    rw [Se_someoneIsRight_l2] at h
    refine lv_iload_n hx hb dX8_someoneIsRight_2 rfl (lv_at hl 3 rfl) ?_
    refine lv_aload_n hx hb dX8_someoneIsRight_3 rfl (lv_at hl 1 rfl) ?_
    refine hm_geti X hw lk_8_65 hn1.1 dX8_someoneIsRight_4 ?_
    refine lv_icmp_ge (tgt := 41) hx hb dX8_someoneIsRight_7 (by decide) (fun hc => ?_) (fun hc => ?_)
    · have h := Eq.mp (if_pos hc) h
      refine lv_iconst (v := 0) hx hb dX8_someoneIsRight_41 (by decide) ?_
      exact hm_zret X hr hlk hw zb_0 ⟨rfl, h⟩ dX8_someoneIsRight_42
    · have h := Eq.mp (if_neg hc) h
      refine lv_aload_n hx hb dX8_someoneIsRight_10 rfl (lv_at hl 0 rfl) ?_
      refine hm_getr X hw lk_8_15 (gl_35 hG) (gf_35_1 hG) dX8_someoneIsRight_11 ?_
      refine lv_aload_n hx hb dX8_someoneIsRight_14 rfl (lv_at hl 0 rfl) ?_
      refine lv_aload_n hx hb dX8_someoneIsRight_15 rfl (lv_at hl 1 rfl) ?_
      refine lv_aload_n hx hb dX8_someoneIsRight_16 rfl (lv_at hl 2 rfl) ?_
      refine lv_iload_n hx hb dX8_someoneIsRight_17 rfl (lv_at hl 3 rfl) ?_
      refine hm_calli hw (hm_runV (rest := [_]) hcl X hw (cSe_cellOf hcl hG hn1 hc2 h) yk_X8_cellOf kw1180 rfl (gl_35 hG) rfl hl.1 rfl rfl rfl (Nat.le_of_ble_eq_true rfl) ⟨Nat.le_trans (Nat.le_of_ble_eq_true rfl) hR.1, Nat.le_trans (Nat.le_of_ble_eq_true rfl) hR.2⟩ ⟨Nat.zero_le _, Nat.zero_le _⟩ dX8_someoneIsRight_18) (fun a1 u2 H locs hp hw => ?_)
      obtain ⟨rfl, h⟩ := hp
      obtain ⟨hi, h⟩ := h
      refine hm_bald X hw (gl_36 hG) hi dX8_someoneIsRight_21 ?_
      refine lv_aload_n hx hb dX8_someoneIsRight_22 rfl (lv_at hl 2 rfl) ?_
      refine hm_getr X hw lk_8_53 hc2.1 (ssf_0 hc2) dX8_someoneIsRight_23 ?_
      refine lv_iload_n hx hb dX8_someoneIsRight_26 rfl (lv_at hl 3 rfl) ?_
      obtain ⟨hi, h⟩ := h
      refine hm_iald X hw (ssm_0 hc2) hi dX8_someoneIsRight_27 ?_
      refine lv_iconst (v := 1) hx hb dX8_someoneIsRight_28 (by decide) ?_
      refine lv_iadd hx hb dX8_someoneIsRight_29 ?_
      refine lv_icmp_ne (tgt := 35) hx hb dX8_someoneIsRight_30 (by decide) (fun hc => ?_) (fun hc => ?_)
      · have h := Eq.mp (if_neg hc) h
        refine lv_iinc (v := x3 + 1) (lv' := [(3, _), (0, _), (1, _), (2, _)]) hx hb dX8_someoneIsRight_35 hl (k := 3) rfl rfl (by decide) rfl (fun ls hl => ?_)
        refine lv_goto (tgt := 2) hx hb dX8_someoneIsRight_38 (by decide) ?_
        exact ih _ h hw (lv_sub hl [1, 2, 3, 0] rfl)
      · have h := Eq.mp (if_pos hc) h
        refine lv_iconst (v := 1) hx hb dX8_someoneIsRight_33 (by decide) ?_
        exact hm_zret X hr hlk hw zb_1 ⟨rfl, h⟩ dX8_someoneIsRight_34

theorem cSe_someoneIsRight {l : Launch} {D : va_G} {cA : Nat → ClassId} {z sz : Nat} {I : HI} {T : HR} {F : HR} {L : HL} {r1 : Nat} {r2 : Nat} {Q : Int32 → Prop} (hcl : hCl Ev) (hG : Geo F L) (hn1 : NetSh F L r1) (hc2 : SceSh F L r2) (h : Se_someoneIsRight I r1 r2 Q) : Met l yX8_someoneIsRight (hws0 yX8_someoneIsRight cX8_someoneIsRight 4 (some .boolean)) { frames := 2, cells := 0, slots := 0, locals := 49 } (hPc D cA z Ev (I, J, T, F, L) sz [.ref (z + 35), .ref (z + r1), .ref (z + r2)]) (va_Qi (p0 (I, J, T, F, L) Q) (hB D cA z (hA z L sz)) (hA z L sz)) 0 0 (hA z L sz) := by
  refine hm_met (I, J, T, F, L) [.ref (z + 35), .ref (z + r1), .ref (z + r2)] rfl (by decide) (Nat.le_of_ble_eq_true rfl) ?_
  intro p e s m below meth c ls X hr hlk hnm hxt hsz hw hl
  have hl : lv_has ls 4 [(0, .ref (z + 35)), (1, .ref (z + r1)), (2, .ref (z + r2))] := hl
  have hR : 2 ≤ ({ frames := 2, cells := 0, slots := 0, locals := 49 } : Room).frames ∧ 49 ≤ ({ frames := 2, cells := 0, slots := 0, locals := 49 } : Room).locals := ⟨Nat.le_refl _, Nat.le_refl _⟩
  generalize ({ frames := 2, cells := 0, slots := 0, locals := 49 } : Room) = R at hR ⊢
  clear hsz
  generalize (hA z L sz) = A at hw ⊢
  have hx := X.1
  have hb := X.2.1
  unfold Se_someoneIsRight at h
  refine lv_iconst (v := 0) hx hb dX8_someoneIsRight_0 (by decide) ?_
  refine lv_istore_n (lv' := [(3, _), (0, _), (1, _), (2, _)]) hx hb dX8_someoneIsRight_1 rfl hl (by decide) rfl (fun ls hl => ?_)
  obtain ⟨n2, h⟩ := h
  exact wkSe_someoneIsRight_l2 X hr hlk hR hcl hG hn1 hc2  n2 _ h hw (lv_sub hl [1, 2, 3, 0] rfl)

theorem wkSe_rowNotRight_l9 {T : HR} {F : HR} {L : HL} {r1 : Nat} {r2 : Nat} {Q : Int32 → HI → Prop} (X : hX p m c s args RX8 cX8_rowNotRight 5) (hr : meth.sig.returnType = (some .int)) (hlk : meth.locks = false) (hR : 3 ≤ R.frames ∧ 72 ≤ R.locals) (hcl : hCl Ev) (hG : Geo F L) (hn1 : NetSh F L r1) (hc2 : SceSh F L r2)  : ∀ (n : Nat) (I : HI) (x4 : Int32) {ls : Array Slot} {H : Heap} {locs : List Loc}, Se_rowNotRight_l9 r1 r2 Q n I x4 → hW D cA z Ev (I, J, T, F, L) A s H locs → lv_has ls 5 [(0, .ref (z + 35)), (1, .ref (z + r1)), (2, .ref (z + r2)), (4, .int x4)] → W p l e R s m args below meth c H locs 0 0 (MQ below (va_Qi (pI J T F L Q) (hB D cA z A) A) args s 0 0 A) (F0 m 9 ls []) := by
  have hx := X.1
  have hb := X.2.1
  intro n
  induction n with
  | zero => intro I x4 ls H locs h; exact False.elim h
  | succ n ih =>
    intro I x4 ls H locs h hw hl
    rw [Se_rowNotRight_l9] at h
    refine lv_iload hx hb dX8_rowNotRight_9 (lv_at hl 3 rfl) ?_
    refine lv_aload_n hx hb dX8_rowNotRight_11 rfl (lv_at hl 1 rfl) ?_
    refine hm_geti X hw lk_8_36 hn1.1 dX8_rowNotRight_12 ?_
    refine lv_icmp_ge (tgt := 41) hx hb dX8_rowNotRight_15 (by decide) (fun hc => ?_) (fun hc => ?_)
    · have h := Eq.mp (if_pos hc) h
      refine lv_aload_n hx hb dX8_rowNotRight_41 rfl (lv_at hl 1 rfl) ?_
      refine hm_geti X hw lk_8_36 hn1.1 dX8_rowNotRight_42 ?_
      exact hm_iret X hr hlk hw ⟨_, rfl, h⟩ dX8_rowNotRight_45
    · have h := Eq.mp (if_neg hc) h
      refine lv_aload_n hx hb dX8_rowNotRight_18 rfl (lv_at hl 0 rfl) ?_
      refine lv_aload_n hx hb dX8_rowNotRight_19 rfl (lv_at hl 1 rfl) ?_
      refine lv_aload_n hx hb dX8_rowNotRight_20 rfl (lv_at hl 2 rfl) ?_
      refine hm_calli hw (hm_runV (rest := []) hcl X hw (cSe_someoneIsRight hcl hG hn1 hc2 h) yk_X8_someoneIsRight kw1176 rfl (gl_35 hG) rfl hl.1 rfl rfl rfl (Nat.le_of_ble_eq_true rfl) ⟨Nat.le_trans (Nat.le_of_ble_eq_true rfl) hR.1, Nat.le_trans (Nat.le_of_ble_eq_true rfl) hR.2⟩ ⟨Nat.zero_le _, Nat.zero_le _⟩ dX8_rowNotRight_21) (fun a3 u4 H locs hp hw => ?_)
      obtain ⟨rfl, h⟩ := hp
      refine lv_if_ne (tgt := 30) hx hb dX8_rowNotRight_24 (by decide) (fun hc => ?_) (fun hc => ?_)
      · have h := Eq.mp (if_neg hc) h
        refine lv_aload_n hx hb dX8_rowNotRight_30 rfl (lv_at hl 2 rfl) ?_
        refine lv_aload_n hx hb dX8_rowNotRight_31 rfl (lv_at hl 1 rfl) ?_
        refine hm_callv hw (hm_runV (rest := []) hcl X hw (cSc_dressNext hcl hc2 hn1 h) yk_X7_dressNext kw1185 rfl hc2.1 rfl hl.1 rfl rfl rfl (Nat.le_of_ble_eq_true rfl) ⟨Nat.le_trans (Nat.le_of_ble_eq_true rfl) hR.1, Nat.le_trans (Nat.le_of_ble_eq_true rfl) hR.2⟩ ⟨Nat.zero_le _, Nat.zero_le _⟩ dX8_rowNotRight_32) (fun u6 H locs hp hw => ?_)
        obtain ⟨I5, rfl, h⟩ := hp
        refine lv_iinc (v := x4 + 1) (lv' := [(4, _), (0, _), (1, _), (2, _)]) hx hb dX8_rowNotRight_35 hl (k := 3) rfl rfl (by decide) rfl (fun ls hl => ?_)
        refine lv_goto (tgt := 9) hx hb dX8_rowNotRight_38 (by decide) ?_
        exact ih _ _ h hw (lv_sub hl [1, 2, 3, 0] rfl)
      · have h := Eq.mp (if_pos hc) h
        refine lv_iload hx hb dX8_rowNotRight_27 (lv_at hl 3 rfl) ?_
        exact hm_iret X hr hlk hw ⟨_, rfl, h⟩ dX8_rowNotRight_29

theorem cSe_rowNotRight {l : Launch} {D : va_G} {cA : Nat → ClassId} {z sz : Nat} {I : HI} {T : HR} {F : HR} {L : HL} {r1 : Nat} {r2 : Nat} {x3 : Int32} {Q : Int32 → HI → Prop} (hcl : hCl Ev) (hG : Geo F L) (hn1 : NetSh F L r1) (hc2 : SceSh F L r2) (h : Se_rowNotRight I r1 r2 x3 Q) : Met l yX8_rowNotRight (hws0 yX8_rowNotRight cX8_rowNotRight 5 (some .int)) { frames := 3, cells := 0, slots := 0, locals := 72 } (hPc D cA z Ev (I, J, T, F, L) sz [.ref (z + 35), .ref (z + r1), .ref (z + r2), .int x3]) (va_Qi (pI J T F L Q) (hB D cA z (hA z L sz)) (hA z L sz)) 0 0 (hA z L sz) := by
  refine hm_met (I, J, T, F, L) [.ref (z + 35), .ref (z + r1), .ref (z + r2), .int x3] rfl (by decide) (Nat.le_of_ble_eq_true rfl) ?_
  intro p e s m below meth c ls X hr hlk hnm hxt hsz hw hl
  have hl : lv_has ls 5 [(0, .ref (z + 35)), (1, .ref (z + r1)), (2, .ref (z + r2)), (3, .int x3)] := hl
  have hR : 3 ≤ ({ frames := 3, cells := 0, slots := 0, locals := 72 } : Room).frames ∧ 72 ≤ ({ frames := 3, cells := 0, slots := 0, locals := 72 } : Room).locals := ⟨Nat.le_refl _, Nat.le_refl _⟩
  generalize ({ frames := 3, cells := 0, slots := 0, locals := 72 } : Room) = R at hR ⊢
  clear hsz
  generalize (hA z L sz) = A at hw ⊢
  have hx := X.1
  have hb := X.2.1
  unfold Se_rowNotRight at h
  refine lv_aload_n hx hb dX8_rowNotRight_0 rfl (lv_at hl 2 rfl) ?_
  refine lv_aload_n hx hb dX8_rowNotRight_1 rfl (lv_at hl 1 rfl) ?_
  refine lv_iload_n hx hb dX8_rowNotRight_2 rfl (lv_at hl 3 rfl) ?_
  refine hm_callv hw (hm_runV (rest := []) hcl X hw (cSc_dress hcl hc2 hn1 h) yk_X7_dress kw1175 rfl hc2.1 rfl hl.1 rfl rfl rfl (Nat.le_of_ble_eq_true rfl) ⟨Nat.le_trans (Nat.le_of_ble_eq_true rfl) hR.1, Nat.le_trans (Nat.le_of_ble_eq_true rfl) hR.2⟩ ⟨Nat.zero_le _, Nat.zero_le _⟩ dX8_rowNotRight_3) (fun u2 H locs hp hw => ?_)
  obtain ⟨I1, rfl, h⟩ := hp
  refine lv_iload_n hx hb dX8_rowNotRight_6 rfl (lv_at hl 3 rfl) ?_
  refine lv_istore (lv' := [(4, _), (0, _), (1, _), (2, _), (3, _)]) hx hb dX8_rowNotRight_7 hl (by decide) rfl (fun ls hl => ?_)
  obtain ⟨n2, h⟩ := h
  exact wkSe_rowNotRight_l9 X hr hlk hR hcl hG hn1 hc2  n2 _ _ h hw (lv_sub hl [1, 2, 3, 0] rfl)

theorem wkSe_unsettledWearer_l3 {I : HI} {T : HR} {F : HR} {L : HL} {r1 : Nat} {r2 : Nat} {Q : Int32 → Prop} (X : hX p m c s args RX8 cX8_unsettledWearer 5) (hr : meth.sig.returnType = (some .int)) (hlk : meth.locks = false) (hR : 2 ≤ R.frames ∧ 49 ≤ R.locals) (hcl : hCl Ev) (hG : Geo F L) (hn1 : NetSh F L r1) (hc2 : SceSh F L r2)  : ∀ (n : Nat) (x4 : Int32) {ls : Array Slot} {H : Heap} {locs : List Loc}, Se_unsettledWearer_l3 I r1 r2 Q n x4 → hW D cA z Ev (I, J, T, F, L) A s H locs → lv_has ls 5 [(0, .ref (z + 35)), (1, .ref (z + r1)), (2, .ref (z + r2)), (4, .int x4)] → W p l e R s m args below meth c H locs 0 0 (MQ below (va_Qi (p0 (I, J, T, F, L) Q) (hB D cA z A) A) args s 0 0 A) (F0 m 3 ls []) := by
  have hx := X.1
  have hb := X.2.1
  intro n
  induction n with
  | zero => intro x4 ls H locs h; exact False.elim h
  | succ n ih =>
    intro x4 ls H locs h hw hl
    rw [Se_unsettledWearer_l3] at h
    refine lv_iload hx hb dX8_unsettledWearer_3 (lv_at hl 3 rfl) ?_
    refine lv_aload_n hx hb dX8_unsettledWearer_5 rfl (lv_at hl 1 rfl) ?_
    refine hm_geti X hw lk_8_65 hn1.1 dX8_unsettledWearer_6 ?_
    refine lv_icmp_ge (tgt := 37) hx hb dX8_unsettledWearer_9 (by decide) (fun hc => ?_) (fun hc => ?_)
    · have h := Eq.mp (if_pos hc) h
      refine lv_iconst (v := (-1)) hx hb dX8_unsettledWearer_37 (by decide) ?_
      exact hm_iret X hr hlk hw ⟨rfl, h⟩ dX8_unsettledWearer_38
    · have h := Eq.mp (if_neg hc) h
      refine lv_aload_n hx hb dX8_unsettledWearer_12 rfl (lv_at hl 0 rfl) ?_
      refine hm_getr X hw lk_8_15 (gl_35 hG) (gf_35_1 hG) dX8_unsettledWearer_13 ?_
      refine lv_aload_n hx hb dX8_unsettledWearer_16 rfl (lv_at hl 0 rfl) ?_
      refine lv_aload_n hx hb dX8_unsettledWearer_17 rfl (lv_at hl 1 rfl) ?_
      refine lv_aload_n hx hb dX8_unsettledWearer_18 rfl (lv_at hl 2 rfl) ?_
      refine lv_iload hx hb dX8_unsettledWearer_19 (lv_at hl 3 rfl) ?_
      refine hm_calli hw (hm_runV (rest := [_]) hcl X hw (cSe_cellOf hcl hG hn1 hc2 h) yk_X8_cellOf kw1180 rfl (gl_35 hG) rfl hl.1 rfl rfl rfl (Nat.le_of_ble_eq_true rfl) ⟨Nat.le_trans (Nat.le_of_ble_eq_true rfl) hR.1, Nat.le_trans (Nat.le_of_ble_eq_true rfl) hR.2⟩ ⟨Nat.zero_le _, Nat.zero_le _⟩ dX8_unsettledWearer_21) (fun a1 u2 H locs hp hw => ?_)
      obtain ⟨rfl, h⟩ := hp
      obtain ⟨hi, h⟩ := h
      refine hm_bald X hw (gl_36 hG) hi dX8_unsettledWearer_24 ?_
      refine lv_if_ne (tgt := 31) hx hb dX8_unsettledWearer_25 (by decide) (fun hc => ?_) (fun hc => ?_)
      · have h := Eq.mp (if_neg hc) h
        refine lv_iinc (v := x4 + 1) (lv' := [(4, _), (0, _), (1, _), (2, _)]) hx hb dX8_unsettledWearer_31 hl (k := 3) rfl rfl (by decide) rfl (fun ls hl => ?_)
        refine lv_goto (tgt := 3) hx hb dX8_unsettledWearer_34 (by decide) ?_
        exact ih _ h hw (lv_sub hl [1, 2, 3, 0] rfl)
      · have h := Eq.mp (if_pos hc) h
        refine lv_iload hx hb dX8_unsettledWearer_28 (lv_at hl 3 rfl) ?_
        exact hm_iret X hr hlk hw ⟨rfl, h⟩ dX8_unsettledWearer_30

theorem cSe_unsettledWearer {l : Launch} {D : va_G} {cA : Nat → ClassId} {z sz : Nat} {I : HI} {T : HR} {F : HR} {L : HL} {r1 : Nat} {r2 : Nat} {x3 : Int32} {Q : Int32 → Prop} (hcl : hCl Ev) (hG : Geo F L) (hn1 : NetSh F L r1) (hc2 : SceSh F L r2) (h : Se_unsettledWearer I r1 r2 x3 Q) : Met l yX8_unsettledWearer (hws0 yX8_unsettledWearer cX8_unsettledWearer 5 (some .int)) { frames := 2, cells := 0, slots := 0, locals := 49 } (hPc D cA z Ev (I, J, T, F, L) sz [.ref (z + 35), .ref (z + r1), .ref (z + r2), .int x3]) (va_Qi (p0 (I, J, T, F, L) Q) (hB D cA z (hA z L sz)) (hA z L sz)) 0 0 (hA z L sz) := by
  refine hm_met (I, J, T, F, L) [.ref (z + 35), .ref (z + r1), .ref (z + r2), .int x3] rfl (by decide) (Nat.le_of_ble_eq_true rfl) ?_
  intro p e s m below meth c ls X hr hlk hnm hxt hsz hw hl
  have hl : lv_has ls 5 [(0, .ref (z + 35)), (1, .ref (z + r1)), (2, .ref (z + r2)), (3, .int x3)] := hl
  have hR : 2 ≤ ({ frames := 2, cells := 0, slots := 0, locals := 49 } : Room).frames ∧ 49 ≤ ({ frames := 2, cells := 0, slots := 0, locals := 49 } : Room).locals := ⟨Nat.le_refl _, Nat.le_refl _⟩
  generalize ({ frames := 2, cells := 0, slots := 0, locals := 49 } : Room) = R at hR ⊢
  clear hsz
  generalize (hA z L sz) = A at hw ⊢
  have hx := X.1
  have hb := X.2.1
  unfold Se_unsettledWearer at h
  refine lv_iload_n hx hb dX8_unsettledWearer_0 rfl (lv_at hl 3 rfl) ?_
  refine lv_istore (lv' := [(4, _), (0, _), (1, _), (2, _), (3, _)]) hx hb dX8_unsettledWearer_1 hl (by decide) rfl (fun ls hl => ?_)
  obtain ⟨n2, h⟩ := h
  exact wkSe_unsettledWearer_l3 X hr hlk hR hcl hG hn1 hc2  n2 _ h hw (lv_sub hl [1, 2, 3, 0] rfl)

theorem wkSe_seek_b228 {I : HI} {T : HR} {F : HR} {L : HL} {r1 : Nat} {r2 : Nat} {x5 : Int32} {Q : Int32 → HI → Prop} (X : hX p m c s args RX8 cX8_seek 9) (hr : meth.sig.returnType = (some .int)) (hlk : meth.locks = false) (hR : 4 ≤ R.frames ∧ 96 ≤ R.locals) (hcl : hCl Ev) (hG : Geo F L) (hn1 : NetSh F L r1) (hc2 : SceSh F L r2)  : ∀ {ls : Array Slot} {H : Heap} {locs : List Loc}, Se_seek_b228 I r1 r2 x5 Q → hW D cA z Ev (I, J, T, F, L) A s H locs → lv_has ls 9 [(1, .ref (z + r1)), (5, .int x5)] → W p l e R s m args below meth c H locs 0 0 (MQ below (va_Qi (pI J T F L Q) (hB D cA z A) A) args s 0 0 A) (F0 m 228 ls []) := by
  have hx := X.1
  have hb := X.2.1
  intro ls H locs h hw hl
  unfold Se_seek_b228 at h
  refine lv_iload hx hb dX8_seek_228 (lv_at hl 1 rfl) ?_
  refine lv_aload_n hx hb dX8_seek_230 rfl (lv_at hl 0 rfl) ?_
  refine hm_geti X hw lk_8_36 hn1.1 dX8_seek_231 ?_
  refine lv_icmp_ge (tgt := 242) hx hb dX8_seek_234 (by decide) (fun hc => ?_) (fun hc => ?_)
  · have h := Eq.mp (if_pos hc) h
    refine lv_iconst (v := 1) hx hb dX8_seek_242 (by decide) ?_
    exact hm_iret X hr hlk hw ⟨_, rfl, h⟩ dX8_seek_243
  · have h := Eq.mp (if_neg hc) h
    refine lv_bipush (v := (-2)) hx hb dX8_seek_237 (by decide) ?_
    refine lv_goto (tgt := 243) hx hb dX8_seek_239 (by decide) ?_
    exact hm_iret X hr hlk hw ⟨_, rfl, h⟩ dX8_seek_243

theorem wkSe_seek_l31 {T : HR} {F : HR} {L : HL} {r1 : Nat} {r2 : Nat} {x3 : Int32} {Q : Int32 → HI → Prop} (X : hX p m c s args RX8 cX8_seek 9) (hr : meth.sig.returnType = (some .int)) (hlk : meth.locks = false) (hR : 4 ≤ R.frames ∧ 96 ≤ R.locals) (hcl : hCl Ev) (hG : Geo F L) (hn1 : NetSh F L r1) (hc2 : SceSh F L r2)  : ∀ (n : Nat) (I : HI) (x4 : Int32) (x5 : Int32) (x6 : Int32) (x7 : Int32) {ls : Array Slot} {H : Heap} {locs : List Loc}, Se_seek_l31 r1 r2 x3 Q n I x4 x5 x6 x7 → hW D cA z Ev (I, J, T, F, L) A s H locs → lv_has ls 9 [(0, .ref (z + 35)), (1, .ref (z + r1)), (2, .ref (z + r2)), (3, .int x3), (4, .int x4), (5, .int x5), (6, .int x6), (7, .int x7)] → W p l e R s m args below meth c H locs 0 0 (MQ below (va_Qi (pI J T F L Q) (hB D cA z A) A) args s 0 0 A) (F0 m 31 ls []) := by
  have hx := X.1
  have hb := X.2.1
  intro n
  induction n with
  | zero => intro I x4 x5 x6 x7 ls H locs h; exact False.elim h
  | succ n ih =>
    intro I x4 x5 x6 x7 ls H locs h hw hl
    rw [Se_seek_l31] at h
    refine lv_iload hx hb dX8_seek_31 (lv_at hl 7 rfl) ?_
    refine lv_iconst (v := 2) hx hb dX8_seek_33 (by decide) ?_
    refine lv_iload_n hx hb dX8_seek_34 rfl (lv_at hl 3 rfl) ?_
    refine lv_imul hx hb dX8_seek_35 ?_
    refine lv_iconst (v := 1) hx hb dX8_seek_36 (by decide) ?_
    refine lv_iadd hx hb dX8_seek_37 ?_
    refine lv_icmp_gt (tgt := 228) hx hb dX8_seek_38 (by decide) (fun hc => ?_) (fun hc => ?_)
    · have h := Eq.mp (if_pos hc) h
      exact wkSe_seek_b228 X hr hlk hR hcl hG hn1 hc2  h hw (lv_sub hl [1, 5] rfl)
    · have h := Eq.mp (if_neg hc) h
      refine lv_iload hx hb dX8_seek_41 (lv_at hl 5 rfl) ?_
      refine lv_aload_n hx hb dX8_seek_43 rfl (lv_at hl 1 rfl) ?_
      refine hm_geti X hw lk_8_36 hn1.1 dX8_seek_44 ?_
      refine lv_icmp_ge (tgt := 228) hx hb dX8_seek_47 (by decide) (fun hc => ?_) (fun hc => ?_)
      · have h := Eq.mp (if_pos hc) h
        exact wkSe_seek_b228 X hr hlk hR hcl hG hn1 hc2  h hw (lv_sub hl [1, 5] rfl)
      · have h := Eq.mp (if_neg hc) h
        refine lv_aload_n hx hb dX8_seek_50 rfl (lv_at hl 2 rfl) ?_
        refine lv_aload_n hx hb dX8_seek_51 rfl (lv_at hl 1 rfl) ?_
        refine lv_iload hx hb dX8_seek_52 (lv_at hl 5 rfl) ?_
        refine hm_callv hw (hm_runV (rest := []) hcl X hw (cSc_dress hcl hc2 hn1 h) yk_X7_dress kw1175 rfl hc2.1 rfl hl.1 rfl rfl rfl (Nat.le_of_ble_eq_true rfl) ⟨Nat.le_trans (Nat.le_of_ble_eq_true rfl) hR.1, Nat.le_trans (Nat.le_of_ble_eq_true rfl) hR.2⟩ ⟨Nat.zero_le _, Nat.zero_le _⟩ dX8_seek_54) (fun u7 H locs hp hw => ?_)
        obtain ⟨I6, rfl, h⟩ := hp
        refine lv_aload_n hx hb dX8_seek_57 rfl (lv_at hl 0 rfl) ?_
        refine lv_aload_n hx hb dX8_seek_58 rfl (lv_at hl 1 rfl) ?_
        refine lv_aload_n hx hb dX8_seek_59 rfl (lv_at hl 2 rfl) ?_
        refine lv_iload hx hb dX8_seek_60 (lv_at hl 6 rfl) ?_
        refine hm_calli hw (hm_runV (rest := []) hcl X hw (cSe_unsettledWearer hcl hG hn1 hc2 h) yk_X8_unsettledWearer kw1189 rfl (gl_35 hG) rfl hl.1 rfl rfl rfl (Nat.le_of_ble_eq_true rfl) ⟨Nat.le_trans (Nat.le_of_ble_eq_true rfl) hR.1, Nat.le_trans (Nat.le_of_ble_eq_true rfl) hR.2⟩ ⟨Nat.zero_le _, Nat.zero_le _⟩ dX8_seek_62) (fun a8 u9 H locs hp hw => ?_)
        obtain ⟨rfl, h⟩ := hp
        refine lv_istore (lv' := [(8, _), (0, _), (1, _), (2, _), (3, _), (4, _), (5, _), (6, _), (7, _)]) hx hb dX8_seek_65 hl (by decide) rfl (fun ls hl => ?_)
        refine lv_iload hx hb dX8_seek_67 (lv_at hl 0 rfl) ?_
        refine lv_iconst (v := (-1)) hx hb dX8_seek_69 (by decide) ?_
        refine lv_icmp_eq (tgt := 166) hx hb dX8_seek_70 (by decide) (fun hc => ?_) (fun hc => ?_)
        · have h := Eq.mp (if_pos hc) h
          refine lv_iload hx hb dX8_seek_166 (lv_at hl 5 rfl) ?_
          refine lv_if_ne (tgt := 173) hx hb dX8_seek_168 (by decide) (fun hc => ?_) (fun hc => ?_)
          · have h := Eq.mp (if_neg hc) h
            refine lv_iinc (v := x4 + (-1)) (lv' := [(4, _), (8, _), (0, _), (1, _), (2, _), (3, _), (5, _), (6, _), (7, _)]) hx hb dX8_seek_173 hl (k := 5) rfl rfl (by decide) rfl (fun ls hl => ?_)
            refine lv_aload_n hx hb dX8_seek_176 rfl (lv_at hl 2 rfl) ?_
            refine hm_getr X hw lk_8_19 (gl_35 hG) (gf_35_2 hG) dX8_seek_177 ?_
            refine lv_iload hx hb dX8_seek_180 (lv_at hl 0 rfl) ?_
            obtain ⟨hi, h⟩ := h
            refine hm_sald X hw (gl_37 hG) hi dX8_seek_182 ?_
            refine lv_istore (lv' := [(5, _), (4, _), (8, _), (0, _), (1, _), (2, _), (3, _), (6, _), (7, _)]) hx hb dX8_seek_183 hl (by decide) rfl (fun ls hl => ?_)
            refine lv_aload_n hx hb dX8_seek_185 rfl (lv_at hl 5 rfl) ?_
            refine lv_aload_n hx hb dX8_seek_186 rfl (lv_at hl 4 rfl) ?_
            refine lv_iload hx hb dX8_seek_187 (lv_at hl 0 rfl) ?_
            refine hm_callv hw (hm_runV (rest := []) hcl X hw (cSc_dress hcl hc2 hn1 h) yk_X7_dress kw1175 rfl hc2.1 rfl hl.1 rfl rfl rfl (Nat.le_of_ble_eq_true rfl) ⟨Nat.le_trans (Nat.le_of_ble_eq_true rfl) hR.1, Nat.le_trans (Nat.le_of_ble_eq_true rfl) hR.2⟩ ⟨Nat.zero_le _, Nat.zero_le _⟩ dX8_seek_189) (fun u11 H locs hp hw => ?_)
            obtain ⟨I10, rfl, h⟩ := hp
            refine lv_aload_n hx hb dX8_seek_192 rfl (lv_at hl 3 rfl) ?_
            refine hm_getr X hw lk_8_15 (gl_35 hG) (gf_35_1 hG) dX8_seek_193 ?_
            refine lv_aload_n hx hb dX8_seek_196 rfl (lv_at hl 3 rfl) ?_
            refine lv_aload_n hx hb dX8_seek_197 rfl (lv_at hl 4 rfl) ?_
            refine lv_aload_n hx hb dX8_seek_198 rfl (lv_at hl 5 rfl) ?_
            refine lv_aload_n hx hb dX8_seek_199 rfl (lv_at hl 3 rfl) ?_
            refine hm_getr X hw lk_8_23 (gl_35 hG) (gf_35_3 hG) dX8_seek_200 ?_
            refine lv_iload hx hb dX8_seek_203 (lv_at hl 1 rfl) ?_
            obtain ⟨hi, h⟩ := h
            refine hm_bald X hw (gl_38 hG) hi dX8_seek_205 ?_
            refine hm_calli hw (hm_runV (rest := [_]) hcl X hw (cSe_cellOf hcl hG hn1 hc2 h) yk_X8_cellOf kw1180 rfl (gl_35 hG) rfl hl.1 rfl rfl rfl (Nat.le_of_ble_eq_true rfl) ⟨Nat.le_trans (Nat.le_of_ble_eq_true rfl) hR.1, Nat.le_trans (Nat.le_of_ble_eq_true rfl) hR.2⟩ ⟨Nat.zero_le _, Nat.zero_le _⟩ dX8_seek_206) (fun a12 u13 H locs hp hw => ?_)
            obtain ⟨rfl, h⟩ := hp
            refine lv_iconst (v := 0) hx hb dX8_seek_209 (by decide) ?_
            obtain ⟨hi, h⟩ := h
            refine hm_bast X hw (gl_36 hG) hi dX8_seek_210 (fun H locs hw => ?_)
            refine lv_aload_n hx hb dX8_seek_211 rfl (lv_at hl 3 rfl) ?_
            refine hm_getr X hw lk_8_23 (gl_35 hG) (gf_35_3 hG) dX8_seek_212 ?_
            refine lv_iload hx hb dX8_seek_215 (lv_at hl 1 rfl) ?_
            obtain ⟨hi, h⟩ := h
            refine hm_bald X hw (gl_38 hG) hi dX8_seek_217 ?_
            refine lv_iconst (v := 1) hx hb dX8_seek_218 (by decide) ?_
            refine lv_iadd hx hb dX8_seek_219 ?_
            refine lv_istore (lv' := [(6, _), (5, _), (4, _), (8, _), (0, _), (1, _), (2, _), (3, _), (7, _)]) hx hb dX8_seek_220 hl (by decide) rfl (fun ls hl => ?_)
            refine lv_iinc (v := x7 + 1) (lv' := [(7, _), (6, _), (5, _), (4, _), (8, _), (0, _), (1, _), (2, _), (3, _)]) hx hb dX8_seek_222 hl (k := 8) rfl rfl (by decide) rfl (fun ls hl => ?_)
            refine lv_goto (tgt := 31) hx hb dX8_seek_225 (by decide) ?_
            exact ih _ _ _ _ _ h hw (lv_sub hl [5, 6, 7, 8, 3, 2, 1, 0] rfl)
          · have h := Eq.mp (if_pos hc) h
            refine lv_iconst (v := 0) hx hb dX8_seek_171 (by decide) ?_
            exact hm_iret X hr hlk hw ⟨_, rfl, h⟩ dX8_seek_172
        · have h := Eq.mp (if_neg hc) h
          refine lv_aload_n hx hb dX8_seek_73 rfl (lv_at hl 1 rfl) ?_
          refine hm_geti X hw lk_8_9 (gl_35 hG) dX8_seek_74 ?_
          refine lv_iload_n hx hb dX8_seek_77 rfl (lv_at hl 4 rfl) ?_
          refine lv_icmp_ge (tgt := 89) hx hb dX8_seek_78 (by decide) (fun hc => ?_) (fun hc => ?_)
          · have h := Eq.mp (if_pos hc) h
            refine lv_bipush (v := (-2)) hx hb dX8_seek_89 (by decide) ?_
            exact hm_iret X hr hlk hw ⟨_, rfl, h⟩ dX8_seek_91
          · have h := Eq.mp (if_neg hc) h
            refine lv_iload hx hb dX8_seek_81 (lv_at hl 5 rfl) ?_
            refine lv_sipush (v := 5000) hx hb dX8_seek_83 (by decide) ?_
            refine lv_icmp_lt (tgt := 92) hx hb dX8_seek_86 (by decide) (fun hc => ?_) (fun hc => ?_)
            · have h := Eq.mp (if_pos hc) h
              refine lv_aload_n hx hb dX8_seek_92 rfl (lv_at hl 1 rfl) ?_
              refine hm_getr X hw lk_8_15 (gl_35 hG) (gf_35_1 hG) dX8_seek_93 ?_
              refine lv_aload_n hx hb dX8_seek_96 rfl (lv_at hl 1 rfl) ?_
              refine lv_aload_n hx hb dX8_seek_97 rfl (lv_at hl 2 rfl) ?_
              refine lv_aload_n hx hb dX8_seek_98 rfl (lv_at hl 3 rfl) ?_
              refine lv_iload hx hb dX8_seek_99 (lv_at hl 0 rfl) ?_
              refine hm_calli hw (hm_runV (rest := [_]) hcl X hw (cSe_cellOf hcl hG hn1 hc2 h) yk_X8_cellOf kw1180 rfl (gl_35 hG) rfl hl.1 rfl rfl rfl (Nat.le_of_ble_eq_true rfl) ⟨Nat.le_trans (Nat.le_of_ble_eq_true rfl) hR.1, Nat.le_trans (Nat.le_of_ble_eq_true rfl) hR.2⟩ ⟨Nat.zero_le _, Nat.zero_le _⟩ dX8_seek_101) (fun a14 u15 H locs hp hw => ?_)
              obtain ⟨rfl, h⟩ := hp
              refine lv_aload_n hx hb dX8_seek_104 rfl (lv_at hl 3 rfl) ?_
              refine hm_getr X hw lk_8_53 hc2.1 (ssf_0 hc2) dX8_seek_105 ?_
              refine lv_iload hx hb dX8_seek_108 (lv_at hl 0 rfl) ?_
              obtain ⟨hi, h⟩ := h
              refine hm_iald X hw (ssm_0 hc2) hi dX8_seek_110 ?_
              refine lv_iconst (v := 1) hx hb dX8_seek_111 (by decide) ?_
              refine lv_iadd hx hb dX8_seek_112 ?_
              refine lv_i2b (v := ib ((I6 (r2 + 1) (nx a8)) + 1)) hx hb dX8_seek_113 rfl ?_
              obtain ⟨hi, h⟩ := h
              refine hm_bast X hw (gl_36 hG) hi dX8_seek_114 (fun H locs hw => ?_)
              refine lv_aload_n hx hb dX8_seek_115 rfl (lv_at hl 1 rfl) ?_
              refine hm_getr X hw lk_8_19 (gl_35 hG) (gf_35_2 hG) dX8_seek_116 ?_
              refine lv_iload hx hb dX8_seek_119 (lv_at hl 5 rfl) ?_
              refine lv_iload hx hb dX8_seek_121 (lv_at hl 6 rfl) ?_
              refine lv_i2s (v := ihs x5) hx hb dX8_seek_123 rfl ?_
              obtain ⟨hi, h⟩ := h
              refine hm_sast X hw (gl_37 hG) hi dX8_seek_124 (fun H locs hw => ?_)
              refine lv_aload_n hx hb dX8_seek_125 rfl (lv_at hl 1 rfl) ?_
              refine hm_getr X hw lk_8_23 (gl_35 hG) (gf_35_3 hG) dX8_seek_126 ?_
              refine lv_iload hx hb dX8_seek_129 (lv_at hl 5 rfl) ?_
              refine lv_iload hx hb dX8_seek_131 (lv_at hl 0 rfl) ?_
              refine lv_i2b (v := ib a8) hx hb dX8_seek_133 rfl ?_
              obtain ⟨hi, h⟩ := h
              refine hm_bast X hw (gl_38 hG) hi dX8_seek_134 (fun H locs hw => ?_)
              refine lv_iinc (v := x4 + 1) (lv' := [(4, _), (8, _), (0, _), (1, _), (2, _), (3, _), (5, _), (6, _), (7, _)]) hx hb dX8_seek_135 hl (k := 5) rfl rfl (by decide) rfl (fun ls hl => ?_)
              refine lv_aload_n hx hb dX8_seek_138 rfl (lv_at hl 2 rfl) ?_
              refine lv_dup hx hb dX8_seek_139 rfl ?_
              refine hm_geti X hw lk_8_9 (gl_35 hG) dX8_seek_140 ?_
              refine lv_iconst (v := 1) hx hb dX8_seek_143 (by decide) ?_
              refine lv_iadd hx hb dX8_seek_144 ?_
              refine hm_puti X hw lk_8_9 (gl_35 hG) rfl rfl dX8_seek_145 (fun H locs hw => ?_)
              refine lv_aload_n hx hb dX8_seek_148 rfl (lv_at hl 2 rfl) ?_
              refine lv_aload_n hx hb dX8_seek_149 rfl (lv_at hl 3 rfl) ?_
              refine lv_aload_n hx hb dX8_seek_150 rfl (lv_at hl 4 rfl) ?_
              refine lv_iload hx hb dX8_seek_151 (lv_at hl 6 rfl) ?_
              refine lv_iconst (v := 1) hx hb dX8_seek_153 (by decide) ?_
              refine lv_iadd hx hb dX8_seek_154 ?_
              refine hm_calli hw (hm_runV (rest := []) hcl X hw (cSe_rowNotRight hcl hG hn1 hc2 h) yk_X8_rowNotRight kw1171 rfl (gl_35 hG) rfl hl.1 rfl rfl rfl (Nat.le_of_ble_eq_true rfl) ⟨Nat.le_trans (Nat.le_of_ble_eq_true rfl) hR.1, Nat.le_trans (Nat.le_of_ble_eq_true rfl) hR.2⟩ ⟨Nat.zero_le _, Nat.zero_le _⟩ dX8_seek_155) (fun a16 u18 H locs hp hw => ?_)
              obtain ⟨I17, rfl, h⟩ := hp
              refine lv_istore (lv' := [(5, _), (4, _), (8, _), (0, _), (1, _), (2, _), (3, _), (6, _), (7, _)]) hx hb dX8_seek_158 hl (by decide) rfl (fun ls hl => ?_)
              refine lv_iconst (v := 0) hx hb dX8_seek_160 (by decide) ?_
              refine lv_istore (lv' := [(6, _), (5, _), (4, _), (8, _), (0, _), (1, _), (2, _), (3, _), (7, _)]) hx hb dX8_seek_161 hl (by decide) rfl (fun ls hl => ?_)
              refine lv_goto (tgt := 222) hx hb dX8_seek_163 (by decide) ?_
              refine lv_iinc (v := x7 + 1) (lv' := [(7, _), (6, _), (5, _), (4, _), (8, _), (0, _), (1, _), (2, _), (3, _)]) hx hb dX8_seek_222 hl (k := 8) rfl rfl (by decide) rfl (fun ls hl => ?_)
              refine lv_goto (tgt := 31) hx hb dX8_seek_225 (by decide) ?_
              exact ih _ _ _ _ _ h hw (lv_sub hl [5, 6, 7, 8, 3, 2, 1, 0] rfl)
            · have h := Eq.mp (if_neg hc) h
              refine lv_bipush (v := (-2)) hx hb dX8_seek_89 (by decide) ?_
              exact hm_iret X hr hlk hw ⟨_, rfl, h⟩ dX8_seek_91

theorem cSe_seek {l : Launch} {D : va_G} {cA : Nat → ClassId} {z sz : Nat} {I : HI} {T : HR} {F : HR} {L : HL} {r1 : Nat} {r2 : Nat} {x3 : Int32} {Q : Int32 → HI → Prop} (hcl : hCl Ev) (hG : Geo F L) (hn1 : NetSh F L r1) (hc2 : SceSh F L r2) (h : Se_seek I r1 r2 x3 Q) : Met l yX8_seek (hws0 yX8_seek cX8_seek 9 (some .int)) { frames := 4, cells := 0, slots := 0, locals := 96 } (hPc D cA z Ev (I, J, T, F, L) sz [.ref (z + 35), .ref (z + r1), .ref (z + r2), .int x3]) (va_Qi (pI J T F L Q) (hB D cA z (hA z L sz)) (hA z L sz)) 0 0 (hA z L sz) := by
  refine hm_met (I, J, T, F, L) [.ref (z + 35), .ref (z + r1), .ref (z + r2), .int x3] rfl (by decide) (Nat.le_of_ble_eq_true rfl) ?_
  intro p e s m below meth c ls X hr hlk hnm hxt hsz hw hl
  have hl : lv_has ls 9 [(0, .ref (z + 35)), (1, .ref (z + r1)), (2, .ref (z + r2)), (3, .int x3)] := hl
  have hR : 4 ≤ ({ frames := 4, cells := 0, slots := 0, locals := 96 } : Room).frames ∧ 96 ≤ ({ frames := 4, cells := 0, slots := 0, locals := 96 } : Room).locals := ⟨Nat.le_refl _, Nat.le_refl _⟩
  generalize ({ frames := 4, cells := 0, slots := 0, locals := 96 } : Room) = R at hR ⊢
  clear hsz
  generalize (hA z L sz) = A at hw ⊢
  have hx := X.1
  have hb := X.2.1
  unfold Se_seek at h
  refine lv_aload_n hx hb dX8_seek_0 rfl (lv_at hl 0 rfl) ?_
  refine hm_getr X hw lk_8_15 (gl_35 hG) (gf_35_1 hG) dX8_seek_1 ?_
  refine lv_iconst (v := 0) hx hb dX8_seek_4 (by decide) ?_
  refine hm_callv hw (hm_runS (rest := []) hcl X hw (cJd_fillB hcl (gl_36 hG) h) yk_J7_fill_031fb kw1168 rfl hl.1 rfl rfl rfl (Nat.le_of_ble_eq_true rfl) ⟨Nat.le_trans (Nat.le_of_ble_eq_true rfl) hR.1, Nat.le_trans (Nat.le_of_ble_eq_true rfl) hR.2⟩ ⟨Nat.zero_le _, Nat.zero_le _⟩ dX8_seek_5) (fun u2 H locs hp hw => ?_)
  obtain ⟨I1, rfl, h⟩ := hp
  refine lv_aload_n hx hb dX8_seek_8 rfl (lv_at hl 0 rfl) ?_
  refine lv_iconst (v := 0) hx hb dX8_seek_9 (by decide) ?_
  refine hm_puti X hw lk_8_9 (gl_35 hG) rfl rfl dX8_seek_10 (fun H locs hw => ?_)
  refine lv_iconst (v := 0) hx hb dX8_seek_13 (by decide) ?_
  refine lv_istore (lv' := [(4, _), (0, _), (1, _), (2, _), (3, _)]) hx hb dX8_seek_14 hl (by decide) rfl (fun ls hl => ?_)
  refine lv_aload_n hx hb dX8_seek_16 rfl (lv_at hl 1 rfl) ?_
  refine lv_aload_n hx hb dX8_seek_17 rfl (lv_at hl 2 rfl) ?_
  refine lv_aload_n hx hb dX8_seek_18 rfl (lv_at hl 3 rfl) ?_
  refine lv_iconst (v := 0) hx hb dX8_seek_19 (by decide) ?_
  refine hm_calli hw (hm_runV (rest := []) hcl X hw (cSe_rowNotRight hcl hG hn1 hc2 h) yk_X8_rowNotRight kw1171 rfl (gl_35 hG) rfl hl.1 rfl rfl rfl (Nat.le_of_ble_eq_true rfl) ⟨Nat.le_trans (Nat.le_of_ble_eq_true rfl) hR.1, Nat.le_trans (Nat.le_of_ble_eq_true rfl) hR.2⟩ ⟨Nat.zero_le _, Nat.zero_le _⟩ dX8_seek_20) (fun a3 u5 H locs hp hw => ?_)
  obtain ⟨I4, rfl, h⟩ := hp
  refine lv_istore (lv' := [(5, _), (4, _), (0, _), (1, _), (2, _), (3, _)]) hx hb dX8_seek_23 hl (by decide) rfl (fun ls hl => ?_)
  refine lv_iconst (v := 0) hx hb dX8_seek_25 (by decide) ?_
  refine lv_istore (lv' := [(6, _), (5, _), (4, _), (0, _), (1, _), (2, _), (3, _)]) hx hb dX8_seek_26 hl (by decide) rfl (fun ls hl => ?_)
  refine lv_iconst (v := 0) hx hb dX8_seek_28 (by decide) ?_
  refine lv_istore (lv' := [(7, _), (6, _), (5, _), (4, _), (0, _), (1, _), (2, _), (3, _)]) hx hb dX8_seek_29 hl (by decide) rfl (fun ls hl => ?_)
  obtain ⟨n2, h⟩ := h
  exact wkSe_seek_l31 X hr hlk hR hcl hG hn1 hc2  n2 _ _ _ _ _ h hw (lv_sub hl [4, 5, 6, 7, 3, 2, 1, 0] rfl)

theorem wkSe_settle_l17 {T : HR} {F : HR} {L : HL} {r1 : Nat} {x2 : Int32} {K2 : HI → HR → Int32 → Prop} {Q : HI → HR → Prop} (X : hX p m c s args RX8 cX8_settle 5) (hr : meth.sig.returnType = none) (hlk : meth.locks = false) (hR : 3 ≤ R.frames ∧ 66 ≤ R.locals) (hcl : hCl Ev) (hG : Geo F L) (hn1 : NetSh F L r1) (hK2 : ∀ (I : HI) (T : HR) (x2 : Int32) {ls : Array Slot} {H : Heap} {locs : List Loc}, K2 I T x2 → hW D cA z Ev (I, J, T, F, L) A s H locs → lv_has ls 5 [(0, .ref (z + 35)), (1, .ref (z + r1)), (2, .int x2)] → W p l e R s m args below meth c H locs 0 0 (MQ below (va_Qv (pITv J F L Q) (hB D cA z A) A) args s 0 0 A) (F0 m 2 ls [])) : ∀ (n : Nat) (I : HI) (x3 : Int32) {ls : Array Slot} {H : Heap} {locs : List Loc}, Se_settle_l17 T L r1 x2 K2 Q n I x3 → hW D cA z Ev (I, J, T, F, L) A s H locs → lv_has ls 5 [(0, .ref (z + 35)), (1, .ref (z + r1)), (2, .int x2), (3, .int x3)] → W p l e R s m args below meth c H locs 0 0 (MQ below (va_Qv (pITv J F L Q) (hB D cA z A) A) args s 0 0 A) (F0 m 17 ls []) := by
  have hx := X.1
  have hb := X.2.1
  intro n
  induction n with
  | zero => intro I x3 ls H locs h; exact False.elim h
  | succ n ih =>
    intro I x3 ls H locs h hw hl
    rw [Se_settle_l17] at h
    refine lv_iload_n hx hb dX8_settle_17 rfl (lv_at hl 3 rfl) ?_
    refine lv_aload_n hx hb dX8_settle_18 rfl (lv_at hl 1 rfl) ?_
    refine hm_getr X hw lk_8_76 hn1.1 (nsf_6 hn1) dX8_settle_19 ?_
    refine lv_iload_n hx hb dX8_settle_22 rfl (lv_at hl 2 rfl) ?_
    obtain ⟨hi, h⟩ := h
    refine hm_iald X hw (nsm_6 hn1) hi dX8_settle_23 ?_
    refine lv_icmp_ge (tgt := 66) hx hb dX8_settle_24 (by decide) (fun hc => ?_) (fun hc => ?_)
    · have h := Eq.mp (if_pos hc) h
      refine lv_iinc (v := x2 + 1) (lv' := [(2, _), (0, _), (1, _), (3, _)]) hx hb dX8_settle_66 hl (k := 2) rfl rfl (by decide) rfl (fun ls hl => ?_)
      refine lv_goto (tgt := 2) hx hb dX8_settle_69 (by decide) ?_
      exact hK2 _ _ _ h hw (lv_sub hl [1, 2, 0] rfl)
    · have h := Eq.mp (if_neg hc) h
      refine lv_aload_n hx hb dX8_settle_27 rfl (lv_at hl 0 rfl) ?_
      refine hm_getr X hw lk_8_15 (gl_35 hG) (gf_35_1 hG) dX8_settle_28 ?_
      refine lv_iload_n hx hb dX8_settle_31 rfl (lv_at hl 2 rfl) ?_
      refine lv_sipush (v := 1024) hx hb dX8_settle_32 (by decide) ?_
      refine lv_imul hx hb dX8_settle_35 ?_
      refine lv_iload_n hx hb dX8_settle_36 rfl (lv_at hl 3 rfl) ?_
      refine lv_iadd hx hb dX8_settle_37 ?_
      obtain ⟨hi, h⟩ := h
      refine hm_bald X hw (gl_36 hG) hi dX8_settle_38 ?_
      refine lv_iconst (v := 1) hx hb dX8_settle_39 (by decide) ?_
      refine lv_isub hx hb dX8_settle_40 ?_
      refine lv_istore (lv' := [(4, _), (0, _), (1, _), (2, _), (3, _)]) hx hb dX8_settle_41 hl (by decide) rfl (fun ls hl => ?_)
      refine lv_aload_n hx hb dX8_settle_43 rfl (lv_at hl 2 rfl) ?_
      refine lv_iload_n hx hb dX8_settle_44 rfl (lv_at hl 3 rfl) ?_
      refine lv_iload_n hx hb dX8_settle_45 rfl (lv_at hl 4 rfl) ?_
      refine lv_iload hx hb dX8_settle_46 (lv_at hl 0 rfl) ?_
      refine lv_if_ge (tgt := 55) hx hb dX8_settle_48 (by decide) (fun hc => ?_) (fun hc => ?_)
      · have h := Eq.mp (if_pos hc) h
        refine lv_iload hx hb dX8_settle_55 (lv_at hl 0 rfl) ?_
        refine hm_callv hw (hm_runV (rest := []) hcl X hw (cNet_setGuess hcl hn1 h) yk_X5_setGuess kw1198 rfl hn1.1 rfl hl.1 rfl rfl rfl (Nat.le_of_ble_eq_true rfl) ⟨Nat.le_trans (Nat.le_of_ble_eq_true rfl) hR.1, Nat.le_trans (Nat.le_of_ble_eq_true rfl) hR.2⟩ ⟨Nat.zero_le _, Nat.zero_le _⟩ dX8_settle_57) (fun u5 H locs hp hw => ?_)
        obtain ⟨I4, rfl, h⟩ := hp
        refine lv_iinc (v := x3 + 1) (lv' := [(3, _), (4, _), (0, _), (1, _), (2, _)]) hx hb dX8_settle_60 hl (k := 4) rfl rfl (by decide) rfl (fun ls hl => ?_)
        refine lv_goto (tgt := 17) hx hb dX8_settle_63 (by decide) ?_
        exact ih _ _ h hw (lv_sub hl [2, 3, 4, 0] rfl)
      · have h := Eq.mp (if_neg hc) h
        refine lv_iconst (v := 0) hx hb dX8_settle_51 (by decide) ?_
        refine lv_goto (tgt := 57) hx hb dX8_settle_52 (by decide) ?_
        refine hm_callv hw (hm_runV (rest := []) hcl X hw (cNet_setGuess hcl hn1 h) yk_X5_setGuess kw1198 rfl hn1.1 rfl hl.1 rfl rfl rfl (Nat.le_of_ble_eq_true rfl) ⟨Nat.le_trans (Nat.le_of_ble_eq_true rfl) hR.1, Nat.le_trans (Nat.le_of_ble_eq_true rfl) hR.2⟩ ⟨Nat.zero_le _, Nat.zero_le _⟩ dX8_settle_57) (fun u7 H locs hp hw => ?_)
        obtain ⟨I6, rfl, h⟩ := hp
        refine lv_iinc (v := x3 + 1) (lv' := [(3, _), (4, _), (0, _), (1, _), (2, _)]) hx hb dX8_settle_60 hl (k := 4) rfl rfl (by decide) rfl (fun ls hl => ?_)
        refine lv_goto (tgt := 17) hx hb dX8_settle_63 (by decide) ?_
        exact ih _ _ h hw (lv_sub hl [2, 3, 4, 0] rfl)

theorem wkSe_settle_l2 {F : HR} {L : HL} {r1 : Nat} {Q : HI → HR → Prop} (X : hX p m c s args RX8 cX8_settle 5) (hr : meth.sig.returnType = none) (hlk : meth.locks = false) (hR : 3 ≤ R.frames ∧ 66 ≤ R.locals) (hcl : hCl Ev) (hG : Geo F L) (hn1 : NetSh F L r1)  : ∀ (n : Nat) (I : HI) (T : HR) (x2 : Int32) {ls : Array Slot} {H : Heap} {locs : List Loc}, Se_settle_l2 L r1 Q n I T x2 → hW D cA z Ev (I, J, T, F, L) A s H locs → lv_has ls 5 [(0, .ref (z + 35)), (1, .ref (z + r1)), (2, .int x2)] → W p l e R s m args below meth c H locs 0 0 (MQ below (va_Qv (pITv J F L Q) (hB D cA z A) A) args s 0 0 A) (F0 m 2 ls []) := by
  have hx := X.1
  have hb := X.2.1
  intro n
  induction n with
  | zero => intro I T x2 ls H locs h; exact False.elim h
  | succ n ih =>
    intro I T x2 ls H locs h hw hl
    rw [Se_settle_l2] at h
    refine lv_iload_n hx hb dX8_settle_2 rfl (lv_at hl 2 rfl) ?_
    refine lv_aload_n hx hb dX8_settle_3 rfl (lv_at hl 1 rfl) ?_
    refine hm_geti X hw lk_8_65 hn1.1 dX8_settle_4 ?_
    refine lv_icmp_ge (tgt := 72) hx hb dX8_settle_7 (by decide) (fun hc => ?_) (fun hc => ?_)
    · have h := Eq.mp (if_pos hc) h
      exact hm_vret X hr hlk hw ⟨_, _, rfl, h⟩ dX8_settle_72
    · have h := Eq.mp (if_neg hc) h
      refine lv_aload_n hx hb dX8_settle_10 rfl (lv_at hl 1 rfl) ?_
      refine lv_iload_n hx hb dX8_settle_11 rfl (lv_at hl 2 rfl) ?_
      refine hm_callv hw (hm_runV (rest := []) hcl X hw (cNet_startTable hcl hn1 h) yk_X5_startTable kw1197 rfl hn1.1 rfl hl.1 rfl rfl rfl (Nat.le_of_ble_eq_true rfl) ⟨Nat.le_trans (Nat.le_of_ble_eq_true rfl) hR.1, Nat.le_trans (Nat.le_of_ble_eq_true rfl) hR.2⟩ ⟨Nat.zero_le _, Nat.zero_le _⟩ dX8_settle_12) (fun u3 H locs hp hw => ?_)
      obtain ⟨I1, T2, rfl, h⟩ := hp
      refine lv_iconst (v := 0) hx hb dX8_settle_15 (by decide) ?_
      refine lv_istore_n (lv' := [(3, _), (0, _), (1, _), (2, _)]) hx hb dX8_settle_16 rfl hl (by decide) rfl (fun ls hl => ?_)
      obtain ⟨n2, h⟩ := h
      exact wkSe_settle_l17 X hr hlk hR hcl hG hn1 ih n2 _ _ h hw (lv_sub hl [1, 2, 3, 0] rfl)

theorem cSe_settle {l : Launch} {D : va_G} {cA : Nat → ClassId} {z sz : Nat} {I : HI} {T : HR} {F : HR} {L : HL} {r1 : Nat} {Q : HI → HR → Prop} (hcl : hCl Ev) (hG : Geo F L) (hn1 : NetSh F L r1) (h : Se_settle I T L r1 Q) : Met l yX8_settle (hws0 yX8_settle cX8_settle 5 none) { frames := 3, cells := 0, slots := 0, locals := 66 } (hPc D cA z Ev (I, J, T, F, L) sz [.ref (z + 35), .ref (z + r1)]) (va_Qv (pITv J F L Q) (hB D cA z (hA z L sz)) (hA z L sz)) 0 0 (hA z L sz) := by
  refine hm_met (I, J, T, F, L) [.ref (z + 35), .ref (z + r1)] rfl (by decide) (Nat.le_of_ble_eq_true rfl) ?_
  intro p e s m below meth c ls X hr hlk hnm hxt hsz hw hl
  have hl : lv_has ls 5 [(0, .ref (z + 35)), (1, .ref (z + r1))] := hl
  have hR : 3 ≤ ({ frames := 3, cells := 0, slots := 0, locals := 66 } : Room).frames ∧ 66 ≤ ({ frames := 3, cells := 0, slots := 0, locals := 66 } : Room).locals := ⟨Nat.le_refl _, Nat.le_refl _⟩
  generalize ({ frames := 3, cells := 0, slots := 0, locals := 66 } : Room) = R at hR ⊢
  clear hsz
  generalize (hA z L sz) = A at hw ⊢
  have hx := X.1
  have hb := X.2.1
  unfold Se_settle at h
  refine lv_iconst (v := 0) hx hb dX8_settle_0 (by decide) ?_
  refine lv_istore_n (lv' := [(2, _), (0, _), (1, _)]) hx hb dX8_settle_1 rfl hl (by decide) rfl (fun ls hl => ?_)
  obtain ⟨n2, h⟩ := h
  exact wkSe_settle_l2 X hr hlk hR hcl hG hn1  n2 _ _ _ h hw (lv_sub hl [1, 2, 0] rfl)

theorem wkSu_needsOf_l26 {I : HI} {T : HR} {F : HR} {L : HL} {r1 : Nat} {r2 : Nat} {x3 : Int32} {x4 : Int32} {K5 : Int32 → Int32 → Prop} {Q : Int32 → Prop} (X : hX p m c s args RX9 cX9_needsOf 7) (hr : meth.sig.returnType = (some .int)) (hlk : meth.locks = false) (hR : 0 ≤ R.frames ∧ 0 ≤ R.locals) (hcl : hCl Ev) (hG : Geo F L) (hn1 : NetSh F L r1) (hc2 : SceSh F L r2) (hK5 : ∀ (x3 : Int32) (x4 : Int32) {ls : Array Slot} {H : Heap} {locs : List Loc}, K5 x3 x4 → hW D cA z Ev (I, J, T, F, L) A s H locs → lv_has ls 7 [(1, .ref (z + r1)), (2, .ref (z + r2)), (3, .int x3), (4, .int x4)] → W p l e R s m args below meth c H locs 0 0 (MQ below (va_Qi (p0 (I, J, T, F, L) Q) (hB D cA z A) A) args s 0 0 A) (F0 m 5 ls [])) : ∀ (n : Nat) (x5 : Int32) (x6 : Int32) {ls : Array Slot} {H : Heap} {locs : List Loc}, Su_needsOf_l26 I r1 r2 x3 x4 K5 Q n x5 x6 → hW D cA z Ev (I, J, T, F, L) A s H locs → lv_has ls 7 [(1, .ref (z + r1)), (2, .ref (z + r2)), (3, .int x3), (4, .int x4), (5, .int x5), (6, .int x6)] → W p l e R s m args below meth c H locs 0 0 (MQ below (va_Qi (p0 (I, J, T, F, L) Q) (hB D cA z A) A) args s 0 0 A) (F0 m 26 ls []) := by
  have hx := X.1
  have hb := X.2.1
  intro n
  induction n with
  | zero => intro x5 x6 ls H locs h; exact False.elim h
  | succ n ih =>
    intro x5 x6 ls H locs h hw hl
    rw [Su_needsOf_l26] at h
    refine lv_iload hx hb dX9_needsOf_26 (lv_at hl 5 rfl) ?_
    refine lv_aload_n hx hb dX9_needsOf_28 rfl (lv_at hl 0 rfl) ?_
    refine hm_geti X hw lk_9_33 hn1.1 dX9_needsOf_29 ?_
    refine lv_icmp_ge (tgt := 66) hx hb dX9_needsOf_32 (by decide) (fun hc => ?_) (fun hc => ?_)
    · have h := Eq.mp (if_pos hc) h
      refine lv_iload_n hx hb dX9_needsOf_66 rfl (lv_at hl 2 rfl) ?_
      refine lv_iconst (v := 1) hx hb dX9_needsOf_67 (by decide) ?_
      refine lv_iconst (v := 4) hx hb dX9_needsOf_68 (by decide) ?_
      refine lv_iload hx hb dX9_needsOf_69 (lv_at hl 3 rfl) ?_
      refine lv_imul hx hb dX9_needsOf_71 ?_
      refine lv_iload hx hb dX9_needsOf_72 (lv_at hl 4 rfl) ?_
      refine lv_aload_n hx hb dX9_needsOf_74 rfl (lv_at hl 0 rfl) ?_
      refine hm_geti X hw lk_9_87 hn1.1 dX9_needsOf_75 ?_
      obtain ⟨hi, h⟩ := h
      refine hm_irem hx hb dX9_needsOf_78 hi ?_
      refine lv_iadd hx hb dX9_needsOf_79 ?_
      refine lv_ishl hx hb dX9_needsOf_80 ?_
      refine lv_ior hx hb dX9_needsOf_81 ?_
      refine lv_istore_n (lv' := [(3, _), (1, _), (2, _), (4, _), (5, _), (6, _)]) hx hb dX9_needsOf_82 rfl hl (by decide) rfl (fun ls hl => ?_)
      refine lv_iinc (v := x4 + 1) (lv' := [(4, _), (3, _), (1, _), (2, _), (5, _), (6, _)]) hx hb dX9_needsOf_83 hl (k := 3) rfl rfl (by decide) rfl (fun ls hl => ?_)
      refine lv_goto (tgt := 5) hx hb dX9_needsOf_86 (by decide) ?_
      exact hK5 _ _ h hw (lv_sub hl [2, 3, 1, 0] rfl)
    · have h := Eq.mp (if_neg hc) h
      refine lv_iload hx hb dX9_needsOf_35 (lv_at hl 4 rfl) ?_
      refine lv_aload_n hx hb dX9_needsOf_37 rfl (lv_at hl 0 rfl) ?_
      refine hm_getr X hw lk_9_84 hn1.1 (nsf_3 hn1) dX9_needsOf_38 ?_
      refine lv_iload hx hb dX9_needsOf_41 (lv_at hl 3 rfl) ?_
      obtain ⟨hi, h⟩ := h
      refine hm_iald X hw (nsm_3 hn1) hi dX9_needsOf_43 ?_
      refine lv_iload hx hb dX9_needsOf_44 (lv_at hl 5 rfl) ?_
      refine lv_ishr hx hb dX9_needsOf_46 ?_
      refine lv_iconst (v := 1) hx hb dX9_needsOf_47 (by decide) ?_
      refine lv_iand hx hb dX9_needsOf_48 ?_
      refine lv_aload_n hx hb dX9_needsOf_49 rfl (lv_at hl 1 rfl) ?_
      refine hm_getr X hw lk_9_81 hc2.1 (ssf_0 hc2) dX9_needsOf_50 ?_
      refine lv_iload hx hb dX9_needsOf_53 (lv_at hl 5 rfl) ?_
      obtain ⟨hi, h⟩ := h
      refine hm_iald X hw (ssm_0 hc2) hi dX9_needsOf_55 ?_
      refine lv_imul hx hb dX9_needsOf_56 ?_
      refine lv_iadd hx hb dX9_needsOf_57 ?_
      refine lv_istore (lv' := [(5, _), (1, _), (2, _), (3, _), (4, _), (6, _)]) hx hb dX9_needsOf_58 hl (by decide) rfl (fun ls hl => ?_)
      refine lv_iinc (v := x6 + 1) (lv' := [(6, _), (5, _), (1, _), (2, _), (3, _), (4, _)]) hx hb dX9_needsOf_60 hl (k := 5) rfl rfl (by decide) rfl (fun ls hl => ?_)
      refine lv_goto (tgt := 26) hx hb dX9_needsOf_63 (by decide) ?_
      exact ih _ _ h hw (lv_sub hl [2, 3, 4, 5, 1, 0] rfl)

theorem wkSu_needsOf_l5 {I : HI} {T : HR} {F : HR} {L : HL} {r1 : Nat} {r2 : Nat} {Q : Int32 → Prop} (X : hX p m c s args RX9 cX9_needsOf 7) (hr : meth.sig.returnType = (some .int)) (hlk : meth.locks = false) (hR : 0 ≤ R.frames ∧ 0 ≤ R.locals) (hcl : hCl Ev) (hG : Geo F L) (hn1 : NetSh F L r1) (hc2 : SceSh F L r2)  : ∀ (n : Nat) (x3 : Int32) (x4 : Int32) {ls : Array Slot} {H : Heap} {locs : List Loc}, Su_needsOf_l5 I r1 r2 Q n x3 x4 → hW D cA z Ev (I, J, T, F, L) A s H locs → lv_has ls 7 [(1, .ref (z + r1)), (2, .ref (z + r2)), (3, .int x3), (4, .int x4)] → W p l e R s m args below meth c H locs 0 0 (MQ below (va_Qi (p0 (I, J, T, F, L) Q) (hB D cA z A) A) args s 0 0 A) (F0 m 5 ls []) := by
  have hx := X.1
  have hb := X.2.1
  intro n
  induction n with
  | zero => intro x3 x4 ls H locs h; exact False.elim h
  | succ n ih =>
    intro x3 x4 ls H locs h hw hl
    rw [Su_needsOf_l5] at h
    refine lv_iload hx hb dX9_needsOf_5 (lv_at hl 3 rfl) ?_
    refine lv_aload_n hx hb dX9_needsOf_7 rfl (lv_at hl 0 rfl) ?_
    refine hm_geti X hw lk_9_33 hn1.1 dX9_needsOf_8 ?_
    refine lv_icmp_ge (tgt := 89) hx hb dX9_needsOf_11 (by decide) (fun hc => ?_) (fun hc => ?_)
    · have h := Eq.mp (if_pos hc) h
      refine lv_iload_n hx hb dX9_needsOf_89 rfl (lv_at hl 2 rfl) ?_
      exact hm_iret X hr hlk hw ⟨rfl, h⟩ dX9_needsOf_90
    · have h := Eq.mp (if_neg hc) h
      refine lv_aload_n hx hb dX9_needsOf_14 rfl (lv_at hl 1 rfl) ?_
      refine hm_getr X hw lk_9_81 hc2.1 (ssf_0 hc2) dX9_needsOf_15 ?_
      refine lv_iload hx hb dX9_needsOf_18 (lv_at hl 3 rfl) ?_
      obtain ⟨hi, h⟩ := h
      refine hm_iald X hw (ssm_0 hc2) hi dX9_needsOf_20 ?_
      refine lv_istore (lv' := [(5, _), (1, _), (2, _), (3, _), (4, _)]) hx hb dX9_needsOf_21 hl (by decide) rfl (fun ls hl => ?_)
      refine lv_iconst (v := 0) hx hb dX9_needsOf_23 (by decide) ?_
      refine lv_istore (lv' := [(6, _), (5, _), (1, _), (2, _), (3, _), (4, _)]) hx hb dX9_needsOf_24 hl (by decide) rfl (fun ls hl => ?_)
      obtain ⟨n2, h⟩ := h
      exact wkSu_needsOf_l26 X hr hlk hR hcl hG hn1 hc2 ih n2 _ _ h hw (lv_sub hl [2, 3, 4, 5, 1, 0] rfl)

theorem cSu_needsOf {l : Launch} {D : va_G} {cA : Nat → ClassId} {z sz : Nat} {I : HI} {T : HR} {F : HR} {L : HL} {r1 : Nat} {r2 : Nat} {Q : Int32 → Prop} (hcl : hCl Ev) (hG : Geo F L) (hn1 : NetSh F L r1) (hc2 : SceSh F L r2) (h : Su_needsOf I r1 r2 Q) : Met l yX9_needsOf (hws0 yX9_needsOf cX9_needsOf 7 (some .int)) { frames := 0, cells := 0, slots := 0, locals := 0 } (hPc D cA z Ev (I, J, T, F, L) sz [.ref (z + 39), .ref (z + r1), .ref (z + r2)]) (va_Qi (p0 (I, J, T, F, L) Q) (hB D cA z (hA z L sz)) (hA z L sz)) 0 0 (hA z L sz) := by
  refine hm_met (I, J, T, F, L) [.ref (z + 39), .ref (z + r1), .ref (z + r2)] rfl (by decide) (Nat.le_of_ble_eq_true rfl) ?_
  intro p e s m below meth c ls X hr hlk hnm hxt hsz hw hl
  have hl : lv_has ls 7 [(0, .ref (z + 39)), (1, .ref (z + r1)), (2, .ref (z + r2))] := hl
  have hR : 0 ≤ ({ frames := 0, cells := 0, slots := 0, locals := 0 } : Room).frames ∧ 0 ≤ ({ frames := 0, cells := 0, slots := 0, locals := 0 } : Room).locals := ⟨Nat.le_refl _, Nat.le_refl _⟩
  generalize ({ frames := 0, cells := 0, slots := 0, locals := 0 } : Room) = R at hR ⊢
  clear hsz
  generalize (hA z L sz) = A at hw ⊢
  have hx := X.1
  have hb := X.2.1
  unfold Su_needsOf at h
  refine lv_iconst (v := 0) hx hb dX9_needsOf_0 (by decide) ?_
  refine lv_istore_n (lv' := [(3, _), (0, _), (1, _), (2, _)]) hx hb dX9_needsOf_1 rfl hl (by decide) rfl (fun ls hl => ?_)
  refine lv_iconst (v := 0) hx hb dX9_needsOf_2 (by decide) ?_
  refine lv_istore (lv' := [(4, _), (3, _), (0, _), (1, _), (2, _)]) hx hb dX9_needsOf_3 hl (by decide) rfl (fun ls hl => ?_)
  obtain ⟨n2, h⟩ := h
  exact wkSu_needsOf_l5 X hr hlk hR hcl hG hn1 hc2  n2 _ _ h hw (lv_sub hl [3, 4, 1, 0] rfl)

theorem wkSu_noteNeeds_l6 {T : HR} {F : HR} {L : HL} {r1 : Nat} {r3 : Nat} {Q : Int32 → HI → Prop} (X : hX p m c s args RX9 cX9_noteNeeds 6) (hr : meth.sig.returnType = (some .int)) (hlk : meth.locks = false) (hR : 2 ≤ R.frames ∧ 126 ≤ R.locals) (hcl : hCl Ev) (hG : Geo F L) (hn1 : NetSh F L r1) (hc3 : SceSh F L r3)  : ∀ (n : Nat) (I : HI) (x4 : Int32) (x5 : Int32) {ls : Array Slot} {H : Heap} {locs : List Loc}, Su_noteNeeds_l6 r1 r3 Q n I x4 x5 → hW D cA z Ev (I, J, T, F, L) A s H locs → lv_has ls 6 [(0, .ref (z + 39)), (1, .ref (z + r1)), (2, .ref (z + 23)), (3, .ref (z + r3)), (4, .int x4), (5, .int x5)] → W p l e R s m args below meth c H locs 0 0 (MQ below (va_Qi (pI J T F L Q) (hB D cA z A) A) args s 0 0 A) (F0 m 6 ls []) := by
  have hx := X.1
  have hb := X.2.1
  intro n
  induction n with
  | zero => intro I x4 x5 ls H locs h; exact False.elim h
  | succ n ih =>
    intro I x4 x5 ls H locs h hw hl
    rw [Su_noteNeeds_l6] at h
    refine lv_iload hx hb dX9_noteNeeds_6 (lv_at hl 5 rfl) ?_
    refine lv_aload_n hx hb dX9_noteNeeds_8 rfl (lv_at hl 1 rfl) ?_
    refine hm_geti X hw lk_9_50 hn1.1 dX9_noteNeeds_9 ?_
    refine lv_icmp_ge (tgt := 66) hx hb dX9_noteNeeds_12 (by decide) (fun hc => ?_) (fun hc => ?_)
    · have h := Eq.mp (if_pos hc) h
      refine lv_iload hx hb dX9_noteNeeds_66 (lv_at hl 4 rfl) ?_
      exact hm_iret X hr hlk hw ⟨_, rfl, h⟩ dX9_noteNeeds_68
    · have h := Eq.mp (if_neg hc) h
      refine lv_iload hx hb dX9_noteNeeds_15 (lv_at hl 4 rfl) ?_
      refine lv_sipush (v := 256) hx hb dX9_noteNeeds_17 (by decide) ?_
      refine lv_icmp_ge (tgt := 66) hx hb dX9_noteNeeds_20 (by decide) (fun hc => ?_) (fun hc => ?_)
      · have h := Eq.mp (if_pos hc) h
        refine lv_iload hx hb dX9_noteNeeds_66 (lv_at hl 4 rfl) ?_
        exact hm_iret X hr hlk hw ⟨_, rfl, h⟩ dX9_noteNeeds_68
      · have h := Eq.mp (if_neg hc) h
        refine lv_aload_n hx hb dX9_noteNeeds_23 rfl (lv_at hl 3 rfl) ?_
        refine lv_aload_n hx hb dX9_noteNeeds_24 rfl (lv_at hl 1 rfl) ?_
        refine lv_iload hx hb dX9_noteNeeds_25 (lv_at hl 5 rfl) ?_
        refine hm_callv hw (hm_runV (rest := []) hcl X hw (cSc_dress hcl hc3 hn1 h) yk_X7_dress kw1215 rfl hc3.1 rfl hl.1 rfl rfl rfl (Nat.le_of_ble_eq_true rfl) ⟨Nat.le_trans (Nat.le_of_ble_eq_true rfl) hR.1, Nat.le_trans (Nat.le_of_ble_eq_true rfl) hR.2⟩ ⟨Nat.zero_le _, Nat.zero_le _⟩ dX9_noteNeeds_27) (fun u2 H locs hp hw => ?_)
        obtain ⟨I1, rfl, h⟩ := hp
        refine lv_aload_n hx hb dX9_noteNeeds_30 rfl (lv_at hl 2 rfl) ?_
        refine lv_aload_n hx hb dX9_noteNeeds_31 rfl (lv_at hl 3 rfl) ?_
        refine lv_aload_n hx hb dX9_noteNeeds_32 rfl (lv_at hl 1 rfl) ?_
        refine hm_geti X hw lk_9_33 hn1.1 dX9_noteNeeds_33 ?_
        refine hm_calll hw (hm_runV (rest := []) hcl X hw (cJud_weigh hcl hG hc3 h) yk_X2_weigh kw1216 rfl (gl_23 hG) rfl hl.1 rfl rfl rfl (Nat.le_of_ble_eq_true rfl) ⟨Nat.le_trans (Nat.le_of_ble_eq_true rfl) hR.1, Nat.le_trans (Nat.le_of_ble_eq_true rfl) hR.2⟩ ⟨Nat.zero_le _, Nat.zero_le _⟩ dX9_noteNeeds_36) (fun a3 u5 H locs hp hw => ?_)
        obtain ⟨I4, rfl, h⟩ := hp
        refine lv_lconst (v := 0) hx hb dX9_noteNeeds_39 (by decide) ?_
        refine W.lcmp hx hb dX9_noteNeeds_40 ?_
        refine lv_if_le (tgt := 60) hx hb dX9_noteNeeds_41 (by decide) (fun hc => ?_) (fun hc => ?_)
        · have h := Eq.mp (if_pos hc) h
          refine lv_iinc (v := x5 + 1) (lv' := [(5, _), (0, _), (1, _), (2, _), (3, _), (4, _)]) hx hb dX9_noteNeeds_60 hl (k := 5) rfl rfl (by decide) rfl (fun ls hl => ?_)
          refine lv_goto (tgt := 6) hx hb dX9_noteNeeds_63 (by decide) ?_
          exact ih _ _ _ h hw (lv_sub hl [1, 2, 3, 4, 5, 0] rfl)
        · have h := Eq.mp (if_neg hc) h
          refine lv_aload_n hx hb dX9_noteNeeds_44 rfl (lv_at hl 0 rfl) ?_
          refine hm_getr X hw lk_9_22 (gl_39 hG) (gf_39_3 hG) dX9_noteNeeds_45 ?_
          refine lv_iload hx hb dX9_noteNeeds_48 (lv_at hl 4 rfl) ?_
          refine lv_aload_n hx hb dX9_noteNeeds_50 rfl (lv_at hl 0 rfl) ?_
          refine lv_aload_n hx hb dX9_noteNeeds_51 rfl (lv_at hl 1 rfl) ?_
          refine lv_aload_n hx hb dX9_noteNeeds_52 rfl (lv_at hl 3 rfl) ?_
          refine hm_calli hw (hm_runV (rest := [_, _]) hcl X hw (cSu_needsOf hcl hG hn1 hc3 h) yk_X9_needsOf kw1217 rfl (gl_39 hG) rfl hl.1 rfl rfl rfl (Nat.le_of_ble_eq_true rfl) ⟨Nat.le_trans (Nat.le_of_ble_eq_true rfl) hR.1, Nat.le_trans (Nat.le_of_ble_eq_true rfl) hR.2⟩ ⟨Nat.zero_le _, Nat.zero_le _⟩ dX9_noteNeeds_53) (fun a6 u7 H locs hp hw => ?_)
          obtain ⟨rfl, h⟩ := hp
          obtain ⟨hi, h⟩ := h
          refine hm_iast X hw (gl_42 hG) hi dX9_noteNeeds_56 (fun H locs hw => ?_)
          refine lv_iinc (v := x4 + 1) (lv' := [(4, _), (0, _), (1, _), (2, _), (3, _), (5, _)]) hx hb dX9_noteNeeds_57 hl (k := 4) rfl rfl (by decide) rfl (fun ls hl => ?_)
          refine lv_iinc (v := x5 + 1) (lv' := [(5, _), (4, _), (0, _), (1, _), (2, _), (3, _)]) hx hb dX9_noteNeeds_60 hl (k := 5) rfl rfl (by decide) rfl (fun ls hl => ?_)
          refine lv_goto (tgt := 6) hx hb dX9_noteNeeds_63 (by decide) ?_
          exact ih _ _ _ h hw (lv_sub hl [2, 3, 4, 5, 1, 0] rfl)

theorem cSu_noteNeeds {l : Launch} {D : va_G} {cA : Nat → ClassId} {z sz : Nat} {I : HI} {T : HR} {F : HR} {L : HL} {r1 : Nat} {r3 : Nat} {Q : Int32 → HI → Prop} (hcl : hCl Ev) (hG : Geo F L) (hn1 : NetSh F L r1) (hc3 : SceSh F L r3) (h : Su_noteNeeds I r1 r3 Q) : Met l yX9_noteNeeds (hws0 yX9_noteNeeds cX9_noteNeeds 6 (some .int)) { frames := 2, cells := 0, slots := 0, locals := 126 } (hPc D cA z Ev (I, J, T, F, L) sz [.ref (z + 39), .ref (z + r1), .ref (z + 23), .ref (z + r3)]) (va_Qi (pI J T F L Q) (hB D cA z (hA z L sz)) (hA z L sz)) 0 0 (hA z L sz) := by
  refine hm_met (I, J, T, F, L) [.ref (z + 39), .ref (z + r1), .ref (z + 23), .ref (z + r3)] rfl (by decide) (Nat.le_of_ble_eq_true rfl) ?_
  intro p e s m below meth c ls X hr hlk hnm hxt hsz hw hl
  have hl : lv_has ls 6 [(0, .ref (z + 39)), (1, .ref (z + r1)), (2, .ref (z + 23)), (3, .ref (z + r3))] := hl
  have hR : 2 ≤ ({ frames := 2, cells := 0, slots := 0, locals := 126 } : Room).frames ∧ 126 ≤ ({ frames := 2, cells := 0, slots := 0, locals := 126 } : Room).locals := ⟨Nat.le_refl _, Nat.le_refl _⟩
  generalize ({ frames := 2, cells := 0, slots := 0, locals := 126 } : Room) = R at hR ⊢
  clear hsz
  generalize (hA z L sz) = A at hw ⊢
  have hx := X.1
  have hb := X.2.1
  unfold Su_noteNeeds at h
  refine lv_iconst (v := 0) hx hb dX9_noteNeeds_0 (by decide) ?_
  refine lv_istore (lv' := [(4, _), (0, _), (1, _), (2, _), (3, _)]) hx hb dX9_noteNeeds_1 hl (by decide) rfl (fun ls hl => ?_)
  refine lv_iconst (v := 0) hx hb dX9_noteNeeds_3 (by decide) ?_
  refine lv_istore (lv' := [(5, _), (4, _), (0, _), (1, _), (2, _), (3, _)]) hx hb dX9_noteNeeds_4 hl (by decide) rfl (fun ls hl => ?_)
  obtain ⟨n2, h⟩ := h
  exact wkSu_noteNeeds_l6 X hr hlk hR hcl hG hn1 hc3  n2 _ _ _ h hw (lv_sub hl [2, 3, 4, 5, 1, 0] rfl)

theorem wkSu_rowsWonByTried_l43 {I : HI} {T : HR} {F : HR} {L : HL} {r1 : Nat} {x2 : Int32} {x3 : Int32} {Q : Int32 → Prop} (X : hX p m c s args RX9 cX9_rowsWonByTried 6) (hr : meth.sig.returnType = (some .int)) (hlk : meth.locks = false) (hR : 1 ≤ R.frames ∧ 20 ≤ R.locals) (hcl : hCl Ev) (hG : Geo F L) (hn1 : NetSh F L r1)  : ∀ (n : Nat) (x4 : Int32) (x5 : Int32) {ls : Array Slot} {H : Heap} {locs : List Loc}, Su_rowsWonByTried_l43 I r1 x2 x3 Q n x4 x5 → hW D cA z Ev (I, J, T, F, L) A s H locs → lv_has ls 6 [(0, .ref (z + 39)), (2, .int x2), (3, .int x3), (4, .int x4), (5, .int x5)] → W p l e R s m args below meth c H locs 0 0 (MQ below (va_Qi (p0 (I, J, T, F, L) Q) (hB D cA z A) A) args s 0 0 A) (F0 m 43 ls []) := by
  have hx := X.1
  have hb := X.2.1
  intro n
  induction n with
  | zero => intro x4 x5 ls H locs h; exact False.elim h
  | succ n ih =>
    intro x4 x5 ls H locs h hw hl
    rw [Su_rowsWonByTried_l43] at h
    refine lv_iload hx hb dX9_rowsWonByTried_43 (lv_at hl 4 rfl) ?_
    refine lv_iload_n hx hb dX9_rowsWonByTried_45 rfl (lv_at hl 1 rfl) ?_
    refine lv_icmp_ge (tgt := 78) hx hb dX9_rowsWonByTried_46 (by decide) (fun hc => ?_) (fun hc => ?_)
    · have h := Eq.mp (if_pos hc) h
      refine lv_iload hx hb dX9_rowsWonByTried_78 (lv_at hl 3 rfl) ?_
      exact hm_iret X hr hlk hw ⟨rfl, h⟩ dX9_rowsWonByTried_80
    · have h := Eq.mp (if_neg hc) h
      refine lv_aload_n hx hb dX9_rowsWonByTried_49 rfl (lv_at hl 0 rfl) ?_
      refine hm_getr X hw lk_9_25 (gl_39 hG) (gf_39_4 hG) dX9_rowsWonByTried_50 ?_
      refine lv_aload_n hx hb dX9_rowsWonByTried_53 rfl (lv_at hl 0 rfl) ?_
      refine hm_getr X hw lk_9_22 (gl_39 hG) (gf_39_3 hG) dX9_rowsWonByTried_54 ?_
      refine lv_iload hx hb dX9_rowsWonByTried_57 (lv_at hl 4 rfl) ?_
      obtain ⟨hi, h⟩ := h
      refine hm_iald X hw (gl_42 hG) hi dX9_rowsWonByTried_59 ?_
      refine lv_iload_n hx hb dX9_rowsWonByTried_60 rfl (lv_at hl 2 rfl) ?_
      refine lv_iand hx hb dX9_rowsWonByTried_61 ?_
      refine hm_calli hw (hm_runS (rest := [_]) hcl X hw (cJd_bitCount hcl h) yk_J6_bitCount_0f7a4 kw1229 rfl hl.1 rfl rfl rfl (Nat.le_of_ble_eq_true rfl) ⟨Nat.le_trans (Nat.le_of_ble_eq_true rfl) hR.1, Nat.le_trans (Nat.le_of_ble_eq_true rfl) hR.2⟩ ⟨Nat.zero_le _, Nat.zero_le _⟩ dX9_rowsWonByTried_62) (fun a1 u2 H locs hp hw => ?_)
      obtain ⟨rfl, h⟩ := hp
      obtain ⟨hi, h⟩ := h
      refine hm_zald X hw (gl_43 hG) hi dX9_rowsWonByTried_65 ?_
      refine lv_if_eq (tgt := 72) hx hb dX9_rowsWonByTried_66 (by decide) (fun hc => ?_) (fun hc => ?_)
      · have h := Eq.mp (if_pos hc) h
        refine lv_iinc (v := x5 + 1) (lv' := [(5, _), (0, _), (2, _), (3, _), (4, _)]) hx hb dX9_rowsWonByTried_72 hl (k := 4) rfl rfl (by decide) rfl (fun ls hl => ?_)
        refine lv_goto (tgt := 43) hx hb dX9_rowsWonByTried_75 (by decide) ?_
        exact ih _ _ h hw (lv_sub hl [1, 2, 3, 4, 0] rfl)
      · have h := Eq.mp (if_neg hc) h
        refine lv_iinc (v := x4 + 1) (lv' := [(4, _), (0, _), (2, _), (3, _), (5, _)]) hx hb dX9_rowsWonByTried_69 hl (k := 3) rfl rfl (by decide) rfl (fun ls hl => ?_)
        refine lv_iinc (v := x5 + 1) (lv' := [(5, _), (4, _), (0, _), (2, _), (3, _)]) hx hb dX9_rowsWonByTried_72 hl (k := 4) rfl rfl (by decide) rfl (fun ls hl => ?_)
        refine lv_goto (tgt := 43) hx hb dX9_rowsWonByTried_75 (by decide) ?_
        exact ih _ _ h hw (lv_sub hl [2, 3, 4, 1, 0] rfl)

theorem wkSu_rowsWonByTried_l5 {I : HI} {T : HR} {F : HR} {L : HL} {r1 : Nat} {x2 : Int32} {Q : Int32 → Prop} (X : hX p m c s args RX9 cX9_rowsWonByTried 6) (hr : meth.sig.returnType = (some .int)) (hlk : meth.locks = false) (hR : 1 ≤ R.frames ∧ 20 ≤ R.locals) (hcl : hCl Ev) (hG : Geo F L) (hn1 : NetSh F L r1)  : ∀ (n : Nat) (x3 : Int32) (x4 : Int32) {ls : Array Slot} {H : Heap} {locs : List Loc}, Su_rowsWonByTried_l5 I r1 x2 Q n x3 x4 → hW D cA z Ev (I, J, T, F, L) A s H locs → lv_has ls 6 [(0, .ref (z + 39)), (1, .ref (z + r1)), (2, .int x2), (3, .int x3), (4, .int x4)] → W p l e R s m args below meth c H locs 0 0 (MQ below (va_Qi (p0 (I, J, T, F, L) Q) (hB D cA z A) A) args s 0 0 A) (F0 m 5 ls []) := by
  have hx := X.1
  have hb := X.2.1
  intro n
  induction n with
  | zero => intro x3 x4 ls H locs h; exact False.elim h
  | succ n ih =>
    intro x3 x4 ls H locs h hw hl
    rw [Su_rowsWonByTried_l5] at h
    refine lv_iload hx hb dX9_rowsWonByTried_5 (lv_at hl 4 rfl) ?_
    refine lv_aload_n hx hb dX9_rowsWonByTried_7 rfl (lv_at hl 1 rfl) ?_
    refine hm_geti X hw lk_9_33 hn1.1 dX9_rowsWonByTried_8 ?_
    refine lv_icmp_ge (tgt := 37) hx hb dX9_rowsWonByTried_11 (by decide) (fun hc => ?_) (fun hc => ?_)
    · have h := Eq.mp (if_pos hc) h
      refine lv_iconst (v := 0) hx hb dX9_rowsWonByTried_37 (by decide) ?_
      refine lv_istore (lv' := [(4, _), (0, _), (1, _), (2, _), (3, _)]) hx hb dX9_rowsWonByTried_38 hl (by decide) rfl (fun ls hl => ?_)
      refine lv_iconst (v := 0) hx hb dX9_rowsWonByTried_40 (by decide) ?_
      refine lv_istore (lv' := [(5, _), (4, _), (0, _), (1, _), (2, _), (3, _)]) hx hb dX9_rowsWonByTried_41 hl (by decide) rfl (fun ls hl => ?_)
      obtain ⟨n2, h⟩ := h
      exact wkSu_rowsWonByTried_l43 X hr hlk hR hcl hG hn1  n2 _ _ h hw (lv_sub hl [2, 4, 5, 1, 0] rfl)
    · have h := Eq.mp (if_neg hc) h
      refine lv_iload_n hx hb dX9_rowsWonByTried_14 rfl (lv_at hl 3 rfl) ?_
      refine lv_iconst (v := 1) hx hb dX9_rowsWonByTried_15 (by decide) ?_
      refine lv_iconst (v := 4) hx hb dX9_rowsWonByTried_16 (by decide) ?_
      refine lv_iload hx hb dX9_rowsWonByTried_17 (lv_at hl 4 rfl) ?_
      refine lv_imul hx hb dX9_rowsWonByTried_19 ?_
      refine lv_aload_n hx hb dX9_rowsWonByTried_20 rfl (lv_at hl 0 rfl) ?_
      refine hm_getr X hw lk_9_19 (gl_39 hG) (gf_39_2 hG) dX9_rowsWonByTried_21 ?_
      refine lv_iload hx hb dX9_rowsWonByTried_24 (lv_at hl 4 rfl) ?_
      obtain ⟨hi, h⟩ := h
      refine hm_iald X hw (gl_41 hG) hi dX9_rowsWonByTried_26 ?_
      refine lv_iadd hx hb dX9_rowsWonByTried_27 ?_
      refine lv_ishl hx hb dX9_rowsWonByTried_28 ?_
      refine lv_ior hx hb dX9_rowsWonByTried_29 ?_
      refine lv_istore_n (lv' := [(3, _), (0, _), (1, _), (2, _), (4, _)]) hx hb dX9_rowsWonByTried_30 rfl hl (by decide) rfl (fun ls hl => ?_)
      refine lv_iinc (v := x4 + 1) (lv' := [(4, _), (3, _), (0, _), (1, _), (2, _)]) hx hb dX9_rowsWonByTried_31 hl (k := 4) rfl rfl (by decide) rfl (fun ls hl => ?_)
      refine lv_goto (tgt := 5) hx hb dX9_rowsWonByTried_34 (by decide) ?_
      exact ih _ _ h hw (lv_sub hl [2, 3, 4, 1, 0] rfl)

theorem cSu_rowsWonByTried {l : Launch} {D : va_G} {cA : Nat → ClassId} {z sz : Nat} {I : HI} {T : HR} {F : HR} {L : HL} {r1 : Nat} {x2 : Int32} {Q : Int32 → Prop} (hcl : hCl Ev) (hG : Geo F L) (hn1 : NetSh F L r1) (h : Su_rowsWonByTried I r1 x2 Q) : Met l yX9_rowsWonByTried (hws0 yX9_rowsWonByTried cX9_rowsWonByTried 6 (some .int)) { frames := 1, cells := 0, slots := 0, locals := 20 } (hPc D cA z Ev (I, J, T, F, L) sz [.ref (z + 39), .ref (z + r1), .int x2]) (va_Qi (p0 (I, J, T, F, L) Q) (hB D cA z (hA z L sz)) (hA z L sz)) 0 0 (hA z L sz) := by
  refine hm_met (I, J, T, F, L) [.ref (z + 39), .ref (z + r1), .int x2] rfl (by decide) (Nat.le_of_ble_eq_true rfl) ?_
  intro p e s m below meth c ls X hr hlk hnm hxt hsz hw hl
  have hl : lv_has ls 6 [(0, .ref (z + 39)), (1, .ref (z + r1)), (2, .int x2)] := hl
  have hR : 1 ≤ ({ frames := 1, cells := 0, slots := 0, locals := 20 } : Room).frames ∧ 20 ≤ ({ frames := 1, cells := 0, slots := 0, locals := 20 } : Room).locals := ⟨Nat.le_refl _, Nat.le_refl _⟩
  generalize ({ frames := 1, cells := 0, slots := 0, locals := 20 } : Room) = R at hR ⊢
  clear hsz
  generalize (hA z L sz) = A at hw ⊢
  have hx := X.1
  have hb := X.2.1
  unfold Su_rowsWonByTried at h
  refine lv_iconst (v := 0) hx hb dX9_rowsWonByTried_0 (by decide) ?_
  refine lv_istore_n (lv' := [(3, _), (0, _), (1, _), (2, _)]) hx hb dX9_rowsWonByTried_1 rfl hl (by decide) rfl (fun ls hl => ?_)
  refine lv_iconst (v := 0) hx hb dX9_rowsWonByTried_2 (by decide) ?_
  refine lv_istore (lv' := [(4, _), (3, _), (0, _), (1, _), (2, _)]) hx hb dX9_rowsWonByTried_3 hl (by decide) rfl (fun ls hl => ?_)
  obtain ⟨n2, h⟩ := h
  exact wkSu_rowsWonByTried_l5 X hr hlk hR hcl hG hn1  n2 _ _ h hw (lv_sub hl [2, 3, 4, 1, 0] rfl)

end
