theorem dX11_thrown_0 : decode cX11_thrown 0 = .ok (.aload_n 0, 1) := by decide +kernel
theorem dX11_thrown_1 : decode cX11_thrown 1 = .ok (.getfield 174, 3) := by decide +kernel
theorem dX11_thrown_4 : decode cX11_thrown 4 = .ok (.ireturn, 1) := by decide +kernel
theorem dX11_right_0 : decode cX11_right 0 = .ok (.aload_n 0, 1) := by decide +kernel
theorem dX11_right_1 : decode cX11_right 1 = .ok (.getfield 174, 3) := by decide +kernel
theorem dX11_right_4 : decode cX11_right 4 = .ok (.ifCond .ne 12, 3) := by decide +kernel
theorem dX11_right_7 : decode cX11_right 7 = .ok (.iload_n 1, 1) := by decide +kernel
theorem dX11_right_8 : decode cX11_right 8 = .ok (.ifCond .ne 8, 3) := by decide +kernel
theorem dX11_right_11 : decode cX11_right 11 = .ok (.aload_n 0, 1) := by decide +kernel
theorem dX11_right_12 : decode cX11_right 12 = .ok (.iload_n 2, 1) := by decide +kernel
theorem dX11_right_13 : decode cX11_right 13 = .ok (.putfield 174, 3) := by decide +kernel
theorem dX11_right_16 : decode cX11_right 16 = .ok (.aload_n 0, 1) := by decide +kernel
theorem dX11_right_17 : decode cX11_right 17 = .ok (.getfield 174, 3) := by decide +kernel
theorem dX11_right_20 : decode cX11_right 20 = .ok (.ifCond .ne 7, 3) := by decide +kernel
theorem dX11_right_23 : decode cX11_right 23 = .ok (.iconst 1, 1) := by decide +kernel
theorem dX11_right_24 : decode cX11_right 24 = .ok (.goto 4, 3) := by decide +kernel
theorem dX11_right_27 : decode cX11_right 27 = .ok (.iconst 0, 1) := by decide +kernel
theorem dX11_right_28 : decode cX11_right 28 = .ok (.ireturn, 1) := by decide +kernel
theorem dX11_within_0 : decode cX11_within 0 = .ok (.iload_n 0, 1) := by decide +kernel
theorem dX11_within_1 : decode cX11_within 1 = .ok (.iload_n 1, 1) := by decide +kernel
theorem dX11_within_2 : decode cX11_within 2 = .ok (.if_icmp .lt 12, 3) := by decide +kernel
theorem dX11_within_5 : decode cX11_within 5 = .ok (.iload_n 0, 1) := by decide +kernel
theorem dX11_within_6 : decode cX11_within 6 = .ok (.iload_n 2, 1) := by decide +kernel
theorem dX11_within_7 : decode cX11_within 7 = .ok (.if_icmp .gt 7, 3) := by decide +kernel
theorem dX11_within_10 : decode cX11_within 10 = .ok (.iconst 1, 1) := by decide +kernel
theorem dX11_within_11 : decode cX11_within 11 = .ok (.goto 4, 3) := by decide +kernel
theorem dX11_within_14 : decode cX11_within 14 = .ok (.iconst 0, 1) := by decide +kernel
theorem dX11_within_15 : decode cX11_within 15 = .ok (.ireturn, 1) := by decide +kernel
theorem dX11_bits_0 : decode cX11_bits 0 = .ok (.iconst 0, 1) := by decide +kernel
theorem dX11_bits_1 : decode cX11_bits 1 = .ok (.istore_n 1, 1) := by decide +kernel
theorem dX11_bits_2 : decode cX11_bits 2 = .ok (.iload_n 0, 1) := by decide +kernel
theorem dX11_bits_3 : decode cX11_bits 3 = .ok (.istore_n 2, 1) := by decide +kernel
theorem dX11_bits_4 : decode cX11_bits 4 = .ok (.iload_n 2, 1) := by decide +kernel
theorem dX11_bits_5 : decode cX11_bits 5 = .ok (.ifCond .eq 15, 3) := by decide +kernel
theorem dX11_bits_8 : decode cX11_bits 8 = .ok (.iinc 1 1, 3) := by decide +kernel
theorem dX11_bits_11 : decode cX11_bits 11 = .ok (.iload_n 2, 1) := by decide +kernel
theorem dX11_bits_12 : decode cX11_bits 12 = .ok (.iload_n 2, 1) := by decide +kernel
theorem dX11_bits_13 : decode cX11_bits 13 = .ok (.iconst 1, 1) := by decide +kernel
theorem dX11_bits_14 : decode cX11_bits 14 = .ok (.isub, 1) := by decide +kernel
theorem dX11_bits_15 : decode cX11_bits 15 = .ok (.iand, 1) := by decide +kernel
theorem dX11_bits_16 : decode cX11_bits 16 = .ok (.istore_n 2, 1) := by decide +kernel
theorem dX11_bits_17 : decode cX11_bits 17 = .ok (.goto (-13), 3) := by decide +kernel
theorem dX11_bits_20 : decode cX11_bits 20 = .ok (.iload_n 1, 1) := by decide +kernel
theorem dX11_bits_21 : decode cX11_bits 21 = .ok (.ireturn, 1) := by decide +kernel
theorem dX11_all_0 : decode cX11_all 0 = .ok (.iconst 1, 1) := by decide +kernel
theorem dX11_all_1 : decode cX11_all 1 = .ok (.aload_n 0, 1) := by decide +kernel
theorem dX11_all_2 : decode cX11_all 2 = .ok (.getfield 7, 3) := by decide +kernel
theorem dX11_all_5 : decode cX11_all 5 = .ok (.ishl, 1) := by decide +kernel
theorem dX11_all_6 : decode cX11_all 6 = .ok (.iconst 1, 1) := by decide +kernel
theorem dX11_all_7 : decode cX11_all 7 = .ok (.isub, 1) := by decide +kernel
theorem dX11_all_8 : decode cX11_all 8 = .ok (.ireturn, 1) := by decide +kernel
theorem dX11_hears_0 : decode cX11_hears 0 = .ok (.iconst 0, 1) := by decide +kernel
theorem dX11_hears_1 : decode cX11_hears 1 = .ok (.istore_n 2, 1) := by decide +kernel
theorem dX11_hears_2 : decode cX11_hears 2 = .ok (.iconst 0, 1) := by decide +kernel
theorem dX11_hears_3 : decode cX11_hears 3 = .ok (.istore_n 3, 1) := by decide +kernel
theorem dX11_hears_4 : decode cX11_hears 4 = .ok (.iload_n 3, 1) := by decide +kernel
theorem dX11_hears_5 : decode cX11_hears 5 = .ok (.aload_n 0, 1) := by decide +kernel
theorem dX11_hears_6 : decode cX11_hears 6 = .ok (.getfield 7, 3) := by decide +kernel
theorem dX11_hears_9 : decode cX11_hears 9 = .ok (.if_icmp .ge 30, 3) := by decide +kernel
theorem dX11_hears_12 : decode cX11_hears 12 = .ok (.aload_n 0, 1) := by decide +kernel
theorem dX11_hears_13 : decode cX11_hears 13 = .ok (.getfield 29, 3) := by decide +kernel
theorem dX11_hears_16 : decode cX11_hears 16 = .ok (.iload_n 3, 1) := by decide +kernel
theorem dX11_hears_17 : decode cX11_hears 17 = .ok (.iaload, 1) := by decide +kernel
theorem dX11_hears_18 : decode cX11_hears 18 = .ok (.aload_n 0, 1) := by decide +kernel
theorem dX11_hears_19 : decode cX11_hears 19 = .ok (.getfield 29, 3) := by decide +kernel
theorem dX11_hears_22 : decode cX11_hears 22 = .ok (.iload_n 1, 1) := by decide +kernel
theorem dX11_hears_23 : decode cX11_hears 23 = .ok (.iaload, 1) := by decide +kernel
theorem dX11_hears_24 : decode cX11_hears 24 = .ok (.if_icmp .ge 9, 3) := by decide +kernel
theorem dX11_hears_27 : decode cX11_hears 27 = .ok (.iload_n 2, 1) := by decide +kernel
theorem dX11_hears_28 : decode cX11_hears 28 = .ok (.iconst 1, 1) := by decide +kernel
theorem dX11_hears_29 : decode cX11_hears 29 = .ok (.iload_n 3, 1) := by decide +kernel
theorem dX11_hears_30 : decode cX11_hears 30 = .ok (.ishl, 1) := by decide +kernel
theorem dX11_hears_31 : decode cX11_hears 31 = .ok (.ior, 1) := by decide +kernel
theorem dX11_hears_32 : decode cX11_hears 32 = .ok (.istore_n 2, 1) := by decide +kernel
theorem dX11_hears_33 : decode cX11_hears 33 = .ok (.iinc 3 1, 3) := by decide +kernel
theorem dX11_hears_36 : decode cX11_hears 36 = .ok (.goto (-32), 3) := by decide +kernel
theorem dX11_hears_39 : decode cX11_hears 39 = .ok (.iload_n 2, 1) := by decide +kernel
theorem dX11_hears_40 : decode cX11_hears 40 = .ok (.ireturn, 1) := by decide +kernel
theorem dX11_viewsOf_0 : decode cX11_viewsOf 0 = .ok (.iconst 1, 1) := by decide +kernel
theorem dX11_viewsOf_1 : decode cX11_viewsOf 1 = .ok (.istore_n 2, 1) := by decide +kernel
theorem dX11_viewsOf_2 : decode cX11_viewsOf 2 = .ok (.iconst 0, 1) := by decide +kernel
theorem dX11_viewsOf_3 : decode cX11_viewsOf 3 = .ok (.istore_n 3, 1) := by decide +kernel
theorem dX11_viewsOf_4 : decode cX11_viewsOf 4 = .ok (.iload_n 3, 1) := by decide +kernel
theorem dX11_viewsOf_5 : decode cX11_viewsOf 5 = .ok (.aload_n 0, 1) := by decide +kernel
theorem dX11_viewsOf_6 : decode cX11_viewsOf 6 = .ok (.getfield 26, 3) := by decide +kernel
theorem dX11_viewsOf_9 : decode cX11_viewsOf 9 = .ok (.iload_n 1, 1) := by decide +kernel
theorem dX11_viewsOf_10 : decode cX11_viewsOf 10 = .ok (.iaload, 1) := by decide +kernel
theorem dX11_viewsOf_11 : decode cX11_viewsOf 11 = .ok (.invokestatic 177, 3) := by decide +kernel
theorem dX11_viewsOf_14 : decode cX11_viewsOf 14 = .ok (.if_icmp .ge 23, 3) := by decide +kernel
theorem dX11_viewsOf_17 : decode cX11_viewsOf 17 = .ok (.iload_n 2, 1) := by decide +kernel
theorem dX11_viewsOf_18 : decode cX11_viewsOf 18 = .ok (.sipush 1024, 3) := by decide +kernel
theorem dX11_viewsOf_21 : decode cX11_viewsOf 21 = .ok (.if_icmp .gt 16, 3) := by decide +kernel
theorem dX11_viewsOf_24 : decode cX11_viewsOf 24 = .ok (.iload_n 2, 1) := by decide +kernel
theorem dX11_viewsOf_25 : decode cX11_viewsOf 25 = .ok (.aload_n 0, 1) := by decide +kernel
theorem dX11_viewsOf_26 : decode cX11_viewsOf 26 = .ok (.getfield 13, 3) := by decide +kernel
theorem dX11_viewsOf_29 : decode cX11_viewsOf 29 = .ok (.imul, 1) := by decide +kernel
theorem dX11_viewsOf_30 : decode cX11_viewsOf 30 = .ok (.istore_n 2, 1) := by decide +kernel
theorem dX11_viewsOf_31 : decode cX11_viewsOf 31 = .ok (.iinc 3 1, 3) := by decide +kernel
theorem dX11_viewsOf_34 : decode cX11_viewsOf 34 = .ok (.goto (-30), 3) := by decide +kernel
theorem dX11_viewsOf_37 : decode cX11_viewsOf 37 = .ok (.iconst 0, 1) := by decide +kernel
theorem dX11_viewsOf_38 : decode cX11_viewsOf 38 = .ok (.istore_n 3, 1) := by decide +kernel
theorem dX11_viewsOf_39 : decode cX11_viewsOf 39 = .ok (.iload_n 3, 1) := by decide +kernel
theorem dX11_viewsOf_40 : decode cX11_viewsOf 40 = .ok (.aload_n 0, 1) := by decide +kernel
theorem dX11_viewsOf_41 : decode cX11_viewsOf 41 = .ok (.iload_n 1, 1) := by decide +kernel
theorem dX11_viewsOf_42 : decode cX11_viewsOf 42 = .ok (.invokevirtual 181, 3) := by decide +kernel
theorem dX11_viewsOf_45 : decode cX11_viewsOf 45 = .ok (.invokestatic 177, 3) := by decide +kernel
theorem dX11_viewsOf_48 : decode cX11_viewsOf 48 = .ok (.if_icmp .ge 25, 3) := by decide +kernel
theorem dX11_viewsOf_51 : decode cX11_viewsOf 51 = .ok (.iload_n 2, 1) := by decide +kernel
theorem dX11_viewsOf_52 : decode cX11_viewsOf 52 = .ok (.sipush 1024, 3) := by decide +kernel
theorem dX11_viewsOf_55 : decode cX11_viewsOf 55 = .ok (.if_icmp .gt 18, 3) := by decide +kernel
theorem dX11_viewsOf_58 : decode cX11_viewsOf 58 = .ok (.iload_n 2, 1) := by decide +kernel
theorem dX11_viewsOf_59 : decode cX11_viewsOf 59 = .ok (.aload_n 0, 1) := by decide +kernel
theorem dX11_viewsOf_60 : decode cX11_viewsOf 60 = .ok (.getfield 13, 3) := by decide +kernel
theorem dX11_viewsOf_63 : decode cX11_viewsOf 63 = .ok (.iconst 1, 1) := by decide +kernel
theorem dX11_viewsOf_64 : decode cX11_viewsOf 64 = .ok (.iadd, 1) := by decide +kernel
theorem dX11_viewsOf_65 : decode cX11_viewsOf 65 = .ok (.imul, 1) := by decide +kernel
theorem dX11_viewsOf_66 : decode cX11_viewsOf 66 = .ok (.istore_n 2, 1) := by decide +kernel
theorem dX11_viewsOf_67 : decode cX11_viewsOf 67 = .ok (.iinc 3 1, 3) := by decide +kernel
theorem dX11_viewsOf_70 : decode cX11_viewsOf 70 = .ok (.goto (-31), 3) := by decide +kernel
theorem dX11_viewsOf_73 : decode cX11_viewsOf 73 = .ok (.iload_n 2, 1) := by decide +kernel
theorem dX11_viewsOf_74 : decode cX11_viewsOf 74 = .ok (.sipush 1024, 3) := by decide +kernel
theorem dX11_viewsOf_77 : decode cX11_viewsOf 77 = .ok (.if_icmp .le 9, 3) := by decide +kernel
theorem dX11_viewsOf_80 : decode cX11_viewsOf 80 = .ok (.sipush 1025, 3) := by decide +kernel
theorem dX11_viewsOf_83 : decode cX11_viewsOf 83 = .ok (.goto 4, 3) := by decide +kernel
theorem dX11_viewsOf_86 : decode cX11_viewsOf 86 = .ok (.iload_n 2, 1) := by decide +kernel
theorem dX11_viewsOf_87 : decode cX11_viewsOf 87 = .ok (.ireturn, 1) := by decide +kernel
theorem dX11_blank_0 : decode cX11_blank 0 = .ok (.aload_n 0, 1) := by decide +kernel
theorem dX11_blank_1 : decode cX11_blank 1 = .ok (.getfield 32, 3) := by decide +kernel
theorem dX11_blank_4 : decode cX11_blank 4 = .ok (.iload_n 1, 1) := by decide +kernel
theorem dX11_blank_5 : decode cX11_blank 5 = .ok (.aload_n 0, 1) := by decide +kernel
theorem dX11_blank_6 : decode cX11_blank 6 = .ok (.iload_n 1, 1) := by decide +kernel
theorem dX11_blank_7 : decode cX11_blank 7 = .ok (.invokevirtual 184, 3) := by decide +kernel
theorem dX11_blank_10 : decode cX11_blank 10 = .ok (.sipush 1024, 3) := by decide +kernel
theorem dX11_blank_13 : decode cX11_blank 13 = .ok (.if_icmp .le 7, 3) := by decide +kernel
theorem dX11_blank_16 : decode cX11_blank 16 = .ok (.iconst 2, 1) := by decide +kernel
theorem dX11_blank_17 : decode cX11_blank 17 = .ok (.goto 4, 3) := by decide +kernel
theorem dX11_blank_20 : decode cX11_blank 20 = .ok (.iconst 0, 1) := by decide +kernel
theorem dX11_blank_21 : decode cX11_blank 21 = .ok (.iastore, 1) := by decide +kernel
theorem dX11_blank_22 : decode cX11_blank 22 = .ok (.iconst 0, 1) := by decide +kernel
theorem dX11_blank_23 : decode cX11_blank 23 = .ok (.istore_n 2, 1) := by decide +kernel
theorem dX11_blank_24 : decode cX11_blank 24 = .ok (.iload_n 2, 1) := by decide +kernel
theorem dX11_blank_25 : decode cX11_blank 25 = .ok (.sipush 1024, 3) := by decide +kernel
theorem dX11_blank_28 : decode cX11_blank 28 = .ok (.if_icmp .ge 22, 3) := by decide +kernel
theorem dX11_blank_31 : decode cX11_blank 31 = .ok (.aload_n 0, 1) := by decide +kernel
theorem dX11_blank_32 : decode cX11_blank 32 = .ok (.getfield 35, 3) := by decide +kernel
theorem dX11_blank_35 : decode cX11_blank 35 = .ok (.sipush 1024, 3) := by decide +kernel
theorem dX11_blank_38 : decode cX11_blank 38 = .ok (.iload_n 1, 1) := by decide +kernel
theorem dX11_blank_39 : decode cX11_blank 39 = .ok (.imul, 1) := by decide +kernel
theorem dX11_blank_40 : decode cX11_blank 40 = .ok (.iload_n 2, 1) := by decide +kernel
theorem dX11_blank_41 : decode cX11_blank 41 = .ok (.iadd, 1) := by decide +kernel
theorem dX11_blank_42 : decode cX11_blank 42 = .ok (.iconst 0, 1) := by decide +kernel
theorem dX11_blank_43 : decode cX11_blank 43 = .ok (.iastore, 1) := by decide +kernel
theorem dX11_blank_44 : decode cX11_blank 44 = .ok (.iinc 2 1, 3) := by decide +kernel
theorem dX11_blank_47 : decode cX11_blank 47 = .ok (.goto (-23), 3) := by decide +kernel
theorem dX11_blank_50 : decode cX11_blank 50 = .ok (.return_, 1) := by decide +kernel
theorem dX11_anew_0 : decode cX11_anew 0 = .ok (.aload_n 0, 1) := by decide +kernel
theorem dX11_anew_1 : decode cX11_anew 1 = .ok (.iload_n 1, 1) := by decide +kernel
theorem dX11_anew_2 : decode cX11_anew 2 = .ok (.putfield 7, 3) := by decide +kernel
theorem dX11_anew_5 : decode cX11_anew 5 = .ok (.aload_n 0, 1) := by decide +kernel
theorem dX11_anew_6 : decode cX11_anew 6 = .ok (.iload_n 2, 1) := by decide +kernel
theorem dX11_anew_7 : decode cX11_anew 7 = .ok (.putfield 13, 3) := by decide +kernel
theorem dX11_anew_10 : decode cX11_anew 10 = .ok (.aload_n 0, 1) := by decide +kernel
theorem dX11_anew_11 : decode cX11_anew 11 = .ok (.iconst 1, 1) := by decide +kernel
theorem dX11_anew_12 : decode cX11_anew 12 = .ok (.putfield 16, 3) := by decide +kernel
theorem dX11_anew_15 : decode cX11_anew 15 = .ok (.iconst 0, 1) := by decide +kernel
theorem dX11_anew_16 : decode cX11_anew 16 = .ok (.istore_n 3, 1) := by decide +kernel
theorem dX11_anew_17 : decode cX11_anew 17 = .ok (.iload_n 3, 1) := by decide +kernel
theorem dX11_anew_18 : decode cX11_anew 18 = .ok (.aload_n 0, 1) := by decide +kernel
theorem dX11_anew_19 : decode cX11_anew 19 = .ok (.getfield 7, 3) := by decide +kernel
theorem dX11_anew_22 : decode cX11_anew 22 = .ok (.if_icmp .ge 22, 3) := by decide +kernel
theorem dX11_anew_25 : decode cX11_anew 25 = .ok (.aload_n 0, 1) := by decide +kernel
theorem dX11_anew_26 : decode cX11_anew 26 = .ok (.dup, 1) := by decide +kernel
theorem dX11_anew_27 : decode cX11_anew 27 = .ok (.getfield 16, 3) := by decide +kernel
theorem dX11_anew_30 : decode cX11_anew 30 = .ok (.aload_n 0, 1) := by decide +kernel
theorem dX11_anew_31 : decode cX11_anew 31 = .ok (.getfield 13, 3) := by decide +kernel
theorem dX11_anew_34 : decode cX11_anew 34 = .ok (.imul, 1) := by decide +kernel
theorem dX11_anew_35 : decode cX11_anew 35 = .ok (.putfield 16, 3) := by decide +kernel
theorem dX11_anew_38 : decode cX11_anew 38 = .ok (.iinc 3 1, 3) := by decide +kernel
theorem dX11_anew_41 : decode cX11_anew 41 = .ok (.goto (-24), 3) := by decide +kernel
theorem dX11_anew_44 : decode cX11_anew 44 = .ok (.iconst 0, 1) := by decide +kernel
theorem dX11_anew_45 : decode cX11_anew 45 = .ok (.istore_n 3, 1) := by decide +kernel
theorem dX11_anew_46 : decode cX11_anew 46 = .ok (.iload_n 3, 1) := by decide +kernel
theorem dX11_anew_47 : decode cX11_anew 47 = .ok (.bipush 8, 2) := by decide +kernel
theorem dX11_anew_49 : decode cX11_anew 49 = .ok (.if_icmp .ge 44, 3) := by decide +kernel
theorem dX11_anew_52 : decode cX11_anew 52 = .ok (.aload_n 0, 1) := by decide +kernel
theorem dX11_anew_53 : decode cX11_anew 53 = .ok (.getfield 29, 3) := by decide +kernel
theorem dX11_anew_56 : decode cX11_anew 56 = .ok (.iload_n 3, 1) := by decide +kernel
theorem dX11_anew_57 : decode cX11_anew 57 = .ok (.iconst 0, 1) := by decide +kernel
theorem dX11_anew_58 : decode cX11_anew 58 = .ok (.iastore, 1) := by decide +kernel
theorem dX11_anew_59 : decode cX11_anew 59 = .ok (.aload_n 0, 1) := by decide +kernel
theorem dX11_anew_60 : decode cX11_anew 60 = .ok (.getfield 26, 3) := by decide +kernel
theorem dX11_anew_63 : decode cX11_anew 63 = .ok (.iload_n 3, 1) := by decide +kernel
theorem dX11_anew_64 : decode cX11_anew 64 = .ok (.iload_n 3, 1) := by decide +kernel
theorem dX11_anew_65 : decode cX11_anew 65 = .ok (.aload_n 0, 1) := by decide +kernel
theorem dX11_anew_66 : decode cX11_anew 66 = .ok (.getfield 7, 3) := by decide +kernel
theorem dX11_anew_69 : decode cX11_anew 69 = .ok (.if_icmp .ge 16, 3) := by decide +kernel
theorem dX11_anew_72 : decode cX11_anew 72 = .ok (.aload_n 0, 1) := by decide +kernel
theorem dX11_anew_73 : decode cX11_anew 73 = .ok (.invokevirtual 187, 3) := by decide +kernel
theorem dX11_anew_76 : decode cX11_anew 76 = .ok (.iconst 1, 1) := by decide +kernel
theorem dX11_anew_77 : decode cX11_anew 77 = .ok (.iload_n 3, 1) := by decide +kernel
theorem dX11_anew_78 : decode cX11_anew 78 = .ok (.ishl, 1) := by decide +kernel
theorem dX11_anew_79 : decode cX11_anew 79 = .ok (.iconst (-1), 1) := by decide +kernel
theorem dX11_anew_80 : decode cX11_anew 80 = .ok (.ixor, 1) := by decide +kernel
theorem dX11_anew_81 : decode cX11_anew 81 = .ok (.iand, 1) := by decide +kernel
theorem dX11_anew_82 : decode cX11_anew 82 = .ok (.goto 4, 3) := by decide +kernel
theorem dX11_anew_85 : decode cX11_anew 85 = .ok (.iconst 0, 1) := by decide +kernel
theorem dX11_anew_86 : decode cX11_anew 86 = .ok (.iastore, 1) := by decide +kernel
theorem dX11_anew_87 : decode cX11_anew 87 = .ok (.iinc 3 1, 3) := by decide +kernel
theorem dX11_anew_90 : decode cX11_anew 90 = .ok (.goto (-44), 3) := by decide +kernel
theorem dX11_anew_93 : decode cX11_anew 93 = .ok (.iconst 0, 1) := by decide +kernel
theorem dX11_anew_94 : decode cX11_anew 94 = .ok (.istore_n 3, 1) := by decide +kernel
theorem dX11_anew_95 : decode cX11_anew 95 = .ok (.iload_n 3, 1) := by decide +kernel
theorem dX11_anew_96 : decode cX11_anew 96 = .ok (.aload_n 0, 1) := by decide +kernel
theorem dX11_anew_97 : decode cX11_anew 97 = .ok (.getfield 7, 3) := by decide +kernel
theorem dX11_anew_100 : decode cX11_anew 100 = .ok (.if_icmp .ge 14, 3) := by decide +kernel
theorem dX11_anew_103 : decode cX11_anew 103 = .ok (.aload_n 0, 1) := by decide +kernel
theorem dX11_anew_104 : decode cX11_anew 104 = .ok (.iload_n 3, 1) := by decide +kernel
theorem dX11_anew_105 : decode cX11_anew 105 = .ok (.invokevirtual 191, 3) := by decide +kernel
theorem dX11_anew_108 : decode cX11_anew 108 = .ok (.iinc 3 1, 3) := by decide +kernel
theorem dX11_anew_111 : decode cX11_anew 111 = .ok (.goto (-16), 3) := by decide +kernel
theorem dX11_anew_114 : decode cX11_anew 114 = .ok (.aload_n 0, 1) := by decide +kernel
theorem dX11_anew_115 : decode cX11_anew 115 = .ok (.iconst 0, 1) := by decide +kernel
theorem dX11_anew_116 : decode cX11_anew 116 = .ok (.putfield 195, 3) := by decide +kernel
theorem dX11_anew_119 : decode cX11_anew 119 = .ok (.return_, 1) := by decide +kernel
theorem dX11_hall_0 : decode cX11_hall 0 = .ok (.aload_n 0, 1) := by decide +kernel
theorem dX11_hall_1 : decode cX11_hall 1 = .ok (.iconst 0, 1) := by decide +kernel
theorem dX11_hall_2 : decode cX11_hall 2 = .ok (.putfield 174, 3) := by decide +kernel
theorem dX11_hall_5 : decode cX11_hall 5 = .ok (.iload_n 1, 1) := by decide +kernel
theorem dX11_hall_6 : decode cX11_hall 6 = .ok (.iconst 1, 1) := by decide +kernel
theorem dX11_hall_7 : decode cX11_hall 7 = .ok (.bipush 8, 2) := by decide +kernel
theorem dX11_hall_9 : decode cX11_hall 9 = .ok (.invokestatic 199, 3) := by decide +kernel
theorem dX11_hall_12 : decode cX11_hall 12 = .ok (.ifCond .eq 12, 3) := by decide +kernel
theorem dX11_hall_15 : decode cX11_hall 15 = .ok (.iload_n 2, 1) := by decide +kernel
theorem dX11_hall_16 : decode cX11_hall 16 = .ok (.iconst 2, 1) := by decide +kernel
theorem dX11_hall_17 : decode cX11_hall 17 = .ok (.iconst 4, 1) := by decide +kernel
theorem dX11_hall_18 : decode cX11_hall 18 = .ok (.invokestatic 199, 3) := by decide +kernel
theorem dX11_hall_21 : decode cX11_hall 21 = .ok (.ifCond .ne 5, 3) := by decide +kernel
theorem dX11_hall_24 : decode cX11_hall 24 = .ok (.iconst 0, 1) := by decide +kernel
theorem dX11_hall_25 : decode cX11_hall 25 = .ok (.ireturn, 1) := by decide +kernel
theorem dX11_hall_26 : decode cX11_hall 26 = .ok (.iconst 1, 1) := by decide +kernel
theorem dX11_hall_27 : decode cX11_hall 27 = .ok (.istore_n 3, 1) := by decide +kernel
theorem dX11_hall_28 : decode cX11_hall 28 = .ok (.iconst 0, 1) := by decide +kernel
theorem dX11_hall_29 : decode cX11_hall 29 = .ok (.istore 4, 2) := by decide +kernel
theorem dX11_hall_31 : decode cX11_hall 31 = .ok (.iload 4, 2) := by decide +kernel
theorem dX11_hall_33 : decode cX11_hall 33 = .ok (.iload_n 1, 1) := by decide +kernel
theorem dX11_hall_34 : decode cX11_hall 34 = .ok (.if_icmp .ge 13, 3) := by decide +kernel
theorem dX11_hall_37 : decode cX11_hall 37 = .ok (.iload_n 3, 1) := by decide +kernel
theorem dX11_hall_38 : decode cX11_hall 38 = .ok (.iload_n 2, 1) := by decide +kernel
theorem dX11_hall_39 : decode cX11_hall 39 = .ok (.imul, 1) := by decide +kernel
theorem dX11_hall_40 : decode cX11_hall 40 = .ok (.istore_n 3, 1) := by decide +kernel
theorem dX11_hall_41 : decode cX11_hall 41 = .ok (.iinc 4 1, 3) := by decide +kernel
theorem dX11_hall_44 : decode cX11_hall 44 = .ok (.goto (-13), 3) := by decide +kernel
theorem dX11_hall_47 : decode cX11_hall 47 = .ok (.iload_n 3, 1) := by decide +kernel
theorem dX11_hall_48 : decode cX11_hall 48 = .ok (.sipush 6561, 3) := by decide +kernel
theorem dX11_hall_51 : decode cX11_hall 51 = .ok (.if_icmp .le 5, 3) := by decide +kernel
theorem dX11_hall_54 : decode cX11_hall 54 = .ok (.iconst 0, 1) := by decide +kernel
theorem dX11_hall_55 : decode cX11_hall 55 = .ok (.ireturn, 1) := by decide +kernel
theorem dX11_hall_56 : decode cX11_hall 56 = .ok (.aload_n 0, 1) := by decide +kernel
theorem dX11_hall_57 : decode cX11_hall 57 = .ok (.iload_n 1, 1) := by decide +kernel
theorem dX11_hall_58 : decode cX11_hall 58 = .ok (.iload_n 2, 1) := by decide +kernel
theorem dX11_hall_59 : decode cX11_hall 59 = .ok (.invokevirtual 170, 3) := by decide +kernel
theorem dX11_hall_62 : decode cX11_hall 62 = .ok (.iconst 1, 1) := by decide +kernel
theorem dX11_hall_63 : decode cX11_hall 63 = .ok (.ireturn, 1) := by decide +kernel
theorem dX11_isWearer_0 : decode cX11_isWearer 0 = .ok (.aload_n 0, 1) := by decide +kernel
theorem dX11_isWearer_1 : decode cX11_isWearer 1 = .ok (.iconst 0, 1) := by decide +kernel
theorem dX11_isWearer_2 : decode cX11_isWearer 2 = .ok (.putfield 174, 3) := by decide +kernel
theorem dX11_isWearer_5 : decode cX11_isWearer 5 = .ok (.aload_n 0, 1) := by decide +kernel
theorem dX11_isWearer_6 : decode cX11_isWearer 6 = .ok (.iload_n 1, 1) := by decide +kernel
theorem dX11_isWearer_7 : decode cX11_isWearer 7 = .ok (.ifCond .lt 15, 3) := by decide +kernel
theorem dX11_isWearer_10 : decode cX11_isWearer 10 = .ok (.iload_n 1, 1) := by decide +kernel
theorem dX11_isWearer_11 : decode cX11_isWearer 11 = .ok (.aload_n 0, 1) := by decide +kernel
theorem dX11_isWearer_12 : decode cX11_isWearer 12 = .ok (.getfield 7, 3) := by decide +kernel
theorem dX11_isWearer_15 : decode cX11_isWearer 15 = .ok (.if_icmp .ge 7, 3) := by decide +kernel
theorem dX11_isWearer_18 : decode cX11_isWearer 18 = .ok (.iconst 1, 1) := by decide +kernel
theorem dX11_isWearer_19 : decode cX11_isWearer 19 = .ok (.goto 4, 3) := by decide +kernel
theorem dX11_isWearer_22 : decode cX11_isWearer 22 = .ok (.iconst 0, 1) := by decide +kernel
theorem dX11_isWearer_23 : decode cX11_isWearer 23 = .ok (.iconst 1, 1) := by decide +kernel
theorem dX11_isWearer_24 : decode cX11_isWearer 24 = .ok (.invokevirtual 203, 3) := by decide +kernel
theorem dX11_isWearer_27 : decode cX11_isWearer 27 = .ok (.ireturn, 1) := by decide +kernel
theorem dX11_looks_0 : decode cX11_looks 0 = .ok (.aload_n 0, 1) := by decide +kernel
theorem dX11_looks_1 : decode cX11_looks 1 = .ok (.iload_n 1, 1) := by decide +kernel
theorem dX11_looks_2 : decode cX11_looks 2 = .ok (.invokevirtual 207, 3) := by decide +kernel
theorem dX11_looks_5 : decode cX11_looks 5 = .ok (.ifCond .ne 5, 3) := by decide +kernel
theorem dX11_looks_8 : decode cX11_looks 8 = .ok (.iconst 0, 1) := by decide +kernel
theorem dX11_looks_9 : decode cX11_looks 9 = .ok (.ireturn, 1) := by decide +kernel
theorem dX11_looks_10 : decode cX11_looks 10 = .ok (.iload_n 2, 1) := by decide +kernel
theorem dX11_looks_11 : decode cX11_looks 11 = .ok (.aload_n 0, 1) := by decide +kernel
theorem dX11_looks_12 : decode cX11_looks 12 = .ok (.invokevirtual 187, 3) := by decide +kernel
theorem dX11_looks_15 : decode cX11_looks 15 = .ok (.iconst 1, 1) := by decide +kernel
theorem dX11_looks_16 : decode cX11_looks 16 = .ok (.iload_n 1, 1) := by decide +kernel
theorem dX11_looks_17 : decode cX11_looks 17 = .ok (.ishl, 1) := by decide +kernel
theorem dX11_looks_18 : decode cX11_looks 18 = .ok (.iconst (-1), 1) := by decide +kernel
theorem dX11_looks_19 : decode cX11_looks 19 = .ok (.ixor, 1) := by decide +kernel
theorem dX11_looks_20 : decode cX11_looks 20 = .ok (.iand, 1) := by decide +kernel
theorem dX11_looks_21 : decode cX11_looks 21 = .ok (.iconst (-1), 1) := by decide +kernel
theorem dX11_looks_22 : decode cX11_looks 22 = .ok (.ixor, 1) := by decide +kernel
theorem dX11_looks_23 : decode cX11_looks 23 = .ok (.iand, 1) := by decide +kernel
theorem dX11_looks_24 : decode cX11_looks 24 = .ok (.ifCond .eq 5, 3) := by decide +kernel
theorem dX11_looks_27 : decode cX11_looks 27 = .ok (.iconst 0, 1) := by decide +kernel
theorem dX11_looks_28 : decode cX11_looks 28 = .ok (.ireturn, 1) := by decide +kernel
theorem dX11_looks_29 : decode cX11_looks 29 = .ok (.aload_n 0, 1) := by decide +kernel
theorem dX11_looks_30 : decode cX11_looks 30 = .ok (.getfield 26, 3) := by decide +kernel
theorem dX11_looks_33 : decode cX11_looks 33 = .ok (.iload_n 1, 1) := by decide +kernel
theorem dX11_looks_34 : decode cX11_looks 34 = .ok (.iaload, 1) := by decide +kernel
theorem dX11_looks_35 : decode cX11_looks 35 = .ok (.iload_n 2, 1) := by decide +kernel
theorem dX11_looks_36 : decode cX11_looks 36 = .ok (.if_icmp .eq 7, 3) := by decide +kernel
theorem dX11_looks_39 : decode cX11_looks 39 = .ok (.iconst 1, 1) := by decide +kernel
theorem dX11_looks_40 : decode cX11_looks 40 = .ok (.goto 4, 3) := by decide +kernel
theorem dX11_looks_43 : decode cX11_looks 43 = .ok (.iconst 0, 1) := by decide +kernel
theorem dX11_looks_44 : decode cX11_looks 44 = .ok (.istore_n 3, 1) := by decide +kernel
theorem dX11_looks_45 : decode cX11_looks 45 = .ok (.aload_n 0, 1) := by decide +kernel
theorem dX11_looks_46 : decode cX11_looks 46 = .ok (.getfield 26, 3) := by decide +kernel
theorem dX11_looks_49 : decode cX11_looks 49 = .ok (.iload_n 1, 1) := by decide +kernel
theorem dX11_looks_50 : decode cX11_looks 50 = .ok (.iload_n 2, 1) := by decide +kernel
theorem dX11_looks_51 : decode cX11_looks 51 = .ok (.iastore, 1) := by decide +kernel
theorem dX11_looks_52 : decode cX11_looks 52 = .ok (.iload_n 3, 1) := by decide +kernel
theorem dX11_looks_53 : decode cX11_looks 53 = .ok (.ifCond .eq 18, 3) := by decide +kernel
theorem dX11_looks_56 : decode cX11_looks 56 = .ok (.aload_n 0, 1) := by decide +kernel
theorem dX11_looks_57 : decode cX11_looks 57 = .ok (.getfield 32, 3) := by decide +kernel
theorem dX11_looks_60 : decode cX11_looks 60 = .ok (.iload_n 1, 1) := by decide +kernel
theorem dX11_looks_61 : decode cX11_looks 61 = .ok (.iaload, 1) := by decide +kernel
theorem dX11_looks_62 : decode cX11_looks 62 = .ok (.iconst 1, 1) := by decide +kernel
theorem dX11_looks_63 : decode cX11_looks 63 = .ok (.if_icmp .eq 8, 3) := by decide +kernel
theorem dX11_looks_66 : decode cX11_looks 66 = .ok (.aload_n 0, 1) := by decide +kernel
theorem dX11_looks_67 : decode cX11_looks 67 = .ok (.iload_n 1, 1) := by decide +kernel
theorem dX11_looks_68 : decode cX11_looks 68 = .ok (.invokevirtual 191, 3) := by decide +kernel
theorem dX11_looks_71 : decode cX11_looks 71 = .ok (.aload_n 0, 1) := by decide +kernel
theorem dX11_looks_72 : decode cX11_looks 72 = .ok (.iconst 0, 1) := by decide +kernel
theorem dX11_looks_73 : decode cX11_looks 73 = .ok (.putfield 195, 3) := by decide +kernel
theorem dX11_looks_76 : decode cX11_looks 76 = .ok (.iconst 1, 1) := by decide +kernel
theorem dX11_looks_77 : decode cX11_looks 77 = .ok (.ireturn, 1) := by decide +kernel
theorem dX11_round_0 : decode cX11_round 0 = .ok (.aload_n 0, 1) := by decide +kernel
theorem dX11_round_1 : decode cX11_round 1 = .ok (.iload_n 1, 1) := by decide +kernel
theorem dX11_round_2 : decode cX11_round 2 = .ok (.invokevirtual 207, 3) := by decide +kernel
theorem dX11_round_5 : decode cX11_round 5 = .ok (.ifCond .ne 5, 3) := by decide +kernel
theorem dX11_round_8 : decode cX11_round 8 = .ok (.iconst 0, 1) := by decide +kernel
theorem dX11_round_9 : decode cX11_round 9 = .ok (.ireturn, 1) := by decide +kernel
theorem dX11_round_10 : decode cX11_round 10 = .ok (.iload_n 2, 1) := by decide +kernel
theorem dX11_round_11 : decode cX11_round 11 = .ok (.iconst 0, 1) := by decide +kernel
theorem dX11_round_12 : decode cX11_round 12 = .ok (.bipush 7, 2) := by decide +kernel
theorem dX11_round_14 : decode cX11_round 14 = .ok (.invokestatic 199, 3) := by decide +kernel
theorem dX11_round_17 : decode cX11_round 17 = .ok (.ifCond .ne 5, 3) := by decide +kernel
theorem dX11_round_20 : decode cX11_round 20 = .ok (.iconst 0, 1) := by decide +kernel
theorem dX11_round_21 : decode cX11_round 21 = .ok (.ireturn, 1) := by decide +kernel
theorem dX11_round_22 : decode cX11_round 22 = .ok (.iconst 0, 1) := by decide +kernel
theorem dX11_round_23 : decode cX11_round 23 = .ok (.istore_n 3, 1) := by decide +kernel
theorem dX11_round_24 : decode cX11_round 24 = .ok (.iload_n 3, 1) := by decide +kernel
theorem dX11_round_25 : decode cX11_round 25 = .ok (.aload_n 0, 1) := by decide +kernel
theorem dX11_round_26 : decode cX11_round 26 = .ok (.getfield 7, 3) := by decide +kernel
theorem dX11_round_29 : decode cX11_round 29 = .ok (.if_icmp .ge 20, 3) := by decide +kernel
theorem dX11_round_32 : decode cX11_round 32 = .ok (.aload_n 0, 1) := by decide +kernel
theorem dX11_round_33 : decode cX11_round 33 = .ok (.getfield 47, 3) := by decide +kernel
theorem dX11_round_36 : decode cX11_round 36 = .ok (.iload_n 3, 1) := by decide +kernel
theorem dX11_round_37 : decode cX11_round 37 = .ok (.aload_n 0, 1) := by decide +kernel
theorem dX11_round_38 : decode cX11_round 38 = .ok (.iload_n 3, 1) := by decide +kernel
theorem dX11_round_39 : decode cX11_round 39 = .ok (.invokevirtual 181, 3) := by decide +kernel
theorem dX11_round_42 : decode cX11_round 42 = .ok (.iastore, 1) := by decide +kernel
theorem dX11_round_43 : decode cX11_round 43 = .ok (.iinc 3 1, 3) := by decide +kernel
theorem dX11_round_46 : decode cX11_round 46 = .ok (.goto (-22), 3) := by decide +kernel
theorem dX11_round_49 : decode cX11_round 49 = .ok (.aload_n 0, 1) := by decide +kernel
theorem dX11_round_50 : decode cX11_round 50 = .ok (.getfield 29, 3) := by decide +kernel
theorem dX11_round_53 : decode cX11_round 53 = .ok (.iload_n 1, 1) := by decide +kernel
theorem dX11_round_54 : decode cX11_round 54 = .ok (.iload_n 2, 1) := by decide +kernel
theorem dX11_round_55 : decode cX11_round 55 = .ok (.iastore, 1) := by decide +kernel
theorem dX11_round_56 : decode cX11_round 56 = .ok (.iconst 0, 1) := by decide +kernel
theorem dX11_round_57 : decode cX11_round 57 = .ok (.istore_n 3, 1) := by decide +kernel
theorem dX11_round_58 : decode cX11_round 58 = .ok (.iload_n 3, 1) := by decide +kernel
theorem dX11_round_59 : decode cX11_round 59 = .ok (.aload_n 0, 1) := by decide +kernel
theorem dX11_round_60 : decode cX11_round 60 = .ok (.getfield 7, 3) := by decide +kernel
theorem dX11_round_63 : decode cX11_round 63 = .ok (.if_icmp .ge 38, 3) := by decide +kernel
theorem dX11_round_66 : decode cX11_round 66 = .ok (.aload_n 0, 1) := by decide +kernel
theorem dX11_round_67 : decode cX11_round 67 = .ok (.getfield 32, 3) := by decide +kernel
theorem dX11_round_70 : decode cX11_round 70 = .ok (.iload_n 3, 1) := by decide +kernel
theorem dX11_round_71 : decode cX11_round 71 = .ok (.iaload, 1) := by decide +kernel
theorem dX11_round_72 : decode cX11_round 72 = .ok (.iconst 1, 1) := by decide +kernel
theorem dX11_round_73 : decode cX11_round 73 = .ok (.if_icmp .eq 22, 3) := by decide +kernel
theorem dX11_round_76 : decode cX11_round 76 = .ok (.aload_n 0, 1) := by decide +kernel
theorem dX11_round_77 : decode cX11_round 77 = .ok (.getfield 47, 3) := by decide +kernel
theorem dX11_round_80 : decode cX11_round 80 = .ok (.iload_n 3, 1) := by decide +kernel
theorem dX11_round_81 : decode cX11_round 81 = .ok (.iaload, 1) := by decide +kernel
theorem dX11_round_82 : decode cX11_round 82 = .ok (.aload_n 0, 1) := by decide +kernel
theorem dX11_round_83 : decode cX11_round 83 = .ok (.iload_n 3, 1) := by decide +kernel
theorem dX11_round_84 : decode cX11_round 84 = .ok (.invokevirtual 181, 3) := by decide +kernel
theorem dX11_round_87 : decode cX11_round 87 = .ok (.if_icmp .eq 8, 3) := by decide +kernel
theorem dX11_round_90 : decode cX11_round 90 = .ok (.aload_n 0, 1) := by decide +kernel
theorem dX11_round_91 : decode cX11_round 91 = .ok (.iload_n 3, 1) := by decide +kernel
theorem dX11_round_92 : decode cX11_round 92 = .ok (.invokevirtual 191, 3) := by decide +kernel
theorem dX11_round_95 : decode cX11_round 95 = .ok (.iinc 3 1, 3) := by decide +kernel
theorem dX11_round_98 : decode cX11_round 98 = .ok (.goto (-40), 3) := by decide +kernel
theorem dX11_round_101 : decode cX11_round 101 = .ok (.aload_n 0, 1) := by decide +kernel
theorem dX11_round_102 : decode cX11_round 102 = .ok (.iconst 0, 1) := by decide +kernel
theorem dX11_round_103 : decode cX11_round 103 = .ok (.putfield 195, 3) := by decide +kernel
theorem dX11_round_106 : decode cX11_round 106 = .ok (.iconst 1, 1) := by decide +kernel
theorem dX11_round_107 : decode cX11_round 107 = .ok (.ireturn, 1) := by decide +kernel
theorem dX11_heap_0 : decode cX11_heap 0 = .ok (.aload_n 0, 1) := by decide +kernel
theorem dX11_heap_1 : decode cX11_heap 1 = .ok (.iconst 0, 1) := by decide +kernel
theorem dX11_heap_2 : decode cX11_heap 2 = .ok (.putfield 174, 3) := by decide +kernel
theorem dX11_heap_5 : decode cX11_heap 5 = .ok (.iload_n 1, 1) := by decide +kernel
theorem dX11_heap_6 : decode cX11_heap 6 = .ok (.iconst 0, 1) := by decide +kernel
theorem dX11_heap_7 : decode cX11_heap 7 = .ok (.aload_n 0, 1) := by decide +kernel
theorem dX11_heap_8 : decode cX11_heap 8 = .ok (.getfield 13, 3) := by decide +kernel
theorem dX11_heap_11 : decode cX11_heap 11 = .ok (.iconst 1, 1) := by decide +kernel
theorem dX11_heap_12 : decode cX11_heap 12 = .ok (.isub, 1) := by decide +kernel
theorem dX11_heap_13 : decode cX11_heap 13 = .ok (.invokestatic 199, 3) := by decide +kernel
theorem dX11_heap_16 : decode cX11_heap 16 = .ok (.ifCond .eq 13, 3) := by decide +kernel
theorem dX11_heap_19 : decode cX11_heap 19 = .ok (.iload_n 2, 1) := by decide +kernel
theorem dX11_heap_20 : decode cX11_heap 20 = .ok (.iconst 0, 1) := by decide +kernel
theorem dX11_heap_21 : decode cX11_heap 21 = .ok (.bipush 9, 2) := by decide +kernel
theorem dX11_heap_23 : decode cX11_heap 23 = .ok (.invokestatic 199, 3) := by decide +kernel
theorem dX11_heap_26 : decode cX11_heap 26 = .ok (.ifCond .ne 5, 3) := by decide +kernel
theorem dX11_heap_29 : decode cX11_heap 29 = .ok (.iconst 0, 1) := by decide +kernel
theorem dX11_heap_30 : decode cX11_heap 30 = .ok (.ireturn, 1) := by decide +kernel
theorem dX11_heap_31 : decode cX11_heap 31 = .ok (.aload_n 0, 1) := by decide +kernel
theorem dX11_heap_32 : decode cX11_heap 32 = .ok (.getfield 22, 3) := by decide +kernel
theorem dX11_heap_35 : decode cX11_heap 35 = .ok (.iload_n 1, 1) := by decide +kernel
theorem dX11_heap_36 : decode cX11_heap 36 = .ok (.iload_n 2, 1) := by decide +kernel
theorem dX11_heap_37 : decode cX11_heap 37 = .ok (.iastore, 1) := by decide +kernel
theorem dX11_heap_38 : decode cX11_heap 38 = .ok (.iconst 1, 1) := by decide +kernel
theorem dX11_heap_39 : decode cX11_heap 39 = .ok (.ireturn, 1) := by decide +kernel
theorem dX11_law_0 : decode cX11_law 0 = .ok (.aload_n 0, 1) := by decide +kernel
theorem dX11_law_1 : decode cX11_law 1 = .ok (.iconst 0, 1) := by decide +kernel
theorem dX11_law_2 : decode cX11_law 2 = .ok (.putfield 174, 3) := by decide +kernel
theorem dX11_law_5 : decode cX11_law 5 = .ok (.iload_n 1, 1) := by decide +kernel
theorem dX11_law_6 : decode cX11_law 6 = .ok (.iconst 0, 1) := by decide +kernel
theorem dX11_law_7 : decode cX11_law 7 = .ok (.iconst 3, 1) := by decide +kernel
theorem dX11_law_8 : decode cX11_law 8 = .ok (.invokestatic 199, 3) := by decide +kernel
theorem dX11_law_11 : decode cX11_law 11 = .ok (.ifCond .eq 13, 3) := by decide +kernel
theorem dX11_law_14 : decode cX11_law 14 = .ok (.iload_n 2, 1) := by decide +kernel
theorem dX11_law_15 : decode cX11_law 15 = .ok (.iconst 0, 1) := by decide +kernel
theorem dX11_law_16 : decode cX11_law 16 = .ok (.bipush 8, 2) := by decide +kernel
theorem dX11_law_18 : decode cX11_law 18 = .ok (.invokestatic 199, 3) := by decide +kernel
theorem dX11_law_21 : decode cX11_law 21 = .ok (.ifCond .ne 5, 3) := by decide +kernel
theorem dX11_law_24 : decode cX11_law 24 = .ok (.iconst 0, 1) := by decide +kernel
theorem dX11_law_25 : decode cX11_law 25 = .ok (.ireturn, 1) := by decide +kernel
theorem dX11_law_26 : decode cX11_law 26 = .ok (.aload_n 0, 1) := by decide +kernel
theorem dX11_law_27 : decode cX11_law 27 = .ok (.iload_n 1, 1) := by decide +kernel
theorem dX11_law_28 : decode cX11_law 28 = .ok (.putfield 211, 3) := by decide +kernel
theorem dX11_law_31 : decode cX11_law 31 = .ok (.aload_n 0, 1) := by decide +kernel
theorem dX11_law_32 : decode cX11_law 32 = .ok (.iload_n 2, 1) := by decide +kernel
theorem dX11_law_33 : decode cX11_law 33 = .ok (.putfield 19, 3) := by decide +kernel
theorem dX11_law_36 : decode cX11_law 36 = .ok (.iconst 1, 1) := by decide +kernel
theorem dX11_law_37 : decode cX11_law 37 = .ok (.ireturn, 1) := by decide +kernel
theorem dX11_lays_0 : decode cX11_lays 0 = .ok (.bipush 24, 2) := by decide +kernel
theorem dX11_lays_2 : decode cX11_lays 2 = .ok (.istore_n 2, 1) := by decide +kernel
theorem dX11_lays_3 : decode cX11_lays 3 = .ok (.iload_n 2, 1) := by decide +kernel
theorem dX11_lays_4 : decode cX11_lays 4 = .ok (.ifCond .lt 35, 3) := by decide +kernel
theorem dX11_lays_7 : decode cX11_lays 7 = .ok (.aload_n 0, 1) := by decide +kernel
theorem dX11_lays_8 : decode cX11_lays 8 = .ok (.getfield 50, 3) := by decide +kernel
theorem dX11_lays_11 : decode cX11_lays 11 = .ok (.aload_n 0, 1) := by decide +kernel
theorem dX11_lays_12 : decode cX11_lays 12 = .ok (.getfield 214, 3) := by decide +kernel
theorem dX11_lays_15 : decode cX11_lays 15 = .ok (.iload_n 1, 1) := by decide +kernel
theorem dX11_lays_16 : decode cX11_lays 16 = .ok (.iload_n 2, 1) := by decide +kernel
theorem dX11_lays_17 : decode cX11_lays 17 = .ok (.ishr, 1) := by decide +kernel
theorem dX11_lays_18 : decode cX11_lays 18 = .ok (.sipush 255, 3) := by decide +kernel
theorem dX11_lays_21 : decode cX11_lays 21 = .ok (.iand, 1) := by decide +kernel
theorem dX11_lays_22 : decode cX11_lays 22 = .ok (.iastore, 1) := by decide +kernel
theorem dX11_lays_23 : decode cX11_lays 23 = .ok (.aload_n 0, 1) := by decide +kernel
theorem dX11_lays_24 : decode cX11_lays 24 = .ok (.dup, 1) := by decide +kernel
theorem dX11_lays_25 : decode cX11_lays 25 = .ok (.getfield 214, 3) := by decide +kernel
theorem dX11_lays_28 : decode cX11_lays 28 = .ok (.iconst 1, 1) := by decide +kernel
theorem dX11_lays_29 : decode cX11_lays 29 = .ok (.iadd, 1) := by decide +kernel
theorem dX11_lays_30 : decode cX11_lays 30 = .ok (.putfield 214, 3) := by decide +kernel
theorem dX11_lays_33 : decode cX11_lays 33 = .ok (.iinc 2 (-8), 3) := by decide +kernel
theorem dX11_lays_36 : decode cX11_lays 36 = .ok (.goto (-33), 3) := by decide +kernel
theorem dX11_lays_39 : decode cX11_lays 39 = .ok (.return_, 1) := by decide +kernel
theorem dX11_feed_0 : decode cX11_feed 0 = .ok (.aload_n 0, 1) := by decide +kernel
theorem dX11_feed_1 : decode cX11_feed 1 = .ok (.iconst 0, 1) := by decide +kernel
theorem dX11_feed_2 : decode cX11_feed 2 = .ok (.putfield 174, 3) := by decide +kernel
theorem dX11_feed_5 : decode cX11_feed 5 = .ok (.aload_n 0, 1) := by decide +kernel
theorem dX11_feed_6 : decode cX11_feed 6 = .ok (.getfield 214, 3) := by decide +kernel
theorem dX11_feed_9 : decode cX11_feed 9 = .ok (.bipush 20, 2) := by decide +kernel
theorem dX11_feed_11 : decode cX11_feed 11 = .ok (.iadd, 1) := by decide +kernel
theorem dX11_feed_12 : decode cX11_feed 12 = .ok (.sipush 500, 3) := by decide +kernel
theorem dX11_feed_15 : decode cX11_feed 15 = .ok (.if_icmp .le 5, 3) := by decide +kernel
theorem dX11_feed_18 : decode cX11_feed 18 = .ok (.iconst (-1), 1) := by decide +kernel
theorem dX11_feed_19 : decode cX11_feed 19 = .ok (.ireturn, 1) := by decide +kernel
theorem dX11_feed_20 : decode cX11_feed 20 = .ok (.aload_n 0, 1) := by decide +kernel
theorem dX11_feed_21 : decode cX11_feed 21 = .ok (.iload_n 1, 1) := by decide +kernel
theorem dX11_feed_22 : decode cX11_feed 22 = .ok (.invokevirtual 217, 3) := by decide +kernel
theorem dX11_feed_25 : decode cX11_feed 25 = .ok (.aload_n 0, 1) := by decide +kernel
theorem dX11_feed_26 : decode cX11_feed 26 = .ok (.iload_n 2, 1) := by decide +kernel
theorem dX11_feed_27 : decode cX11_feed 27 = .ok (.invokevirtual 217, 3) := by decide +kernel
theorem dX11_feed_30 : decode cX11_feed 30 = .ok (.aload_n 0, 1) := by decide +kernel
theorem dX11_feed_31 : decode cX11_feed 31 = .ok (.iload_n 3, 1) := by decide +kernel
theorem dX11_feed_32 : decode cX11_feed 32 = .ok (.invokevirtual 217, 3) := by decide +kernel
theorem dX11_feed_35 : decode cX11_feed 35 = .ok (.aload_n 0, 1) := by decide +kernel
theorem dX11_feed_36 : decode cX11_feed 36 = .ok (.iload 4, 2) := by decide +kernel
theorem dX11_feed_38 : decode cX11_feed 38 = .ok (.invokevirtual 217, 3) := by decide +kernel
theorem dX11_feed_41 : decode cX11_feed 41 = .ok (.aload_n 0, 1) := by decide +kernel
theorem dX11_feed_42 : decode cX11_feed 42 = .ok (.iload 5, 2) := by decide +kernel
theorem dX11_feed_44 : decode cX11_feed 44 = .ok (.invokevirtual 217, 3) := by decide +kernel
theorem dX11_feed_47 : decode cX11_feed 47 = .ok (.aload_n 0, 1) := by decide +kernel
theorem dX11_feed_48 : decode cX11_feed 48 = .ok (.getfield 214, 3) := by decide +kernel
theorem dX11_feed_51 : decode cX11_feed 51 = .ok (.ireturn, 1) := by decide +kernel
theorem dX11_byteAt_0 : decode cX11_byteAt 0 = .ok (.iload_n 1, 1) := by decide +kernel
theorem dX11_byteAt_1 : decode cX11_byteAt 1 = .ok (.aload_n 0, 1) := by decide +kernel
theorem dX11_byteAt_2 : decode cX11_byteAt 2 = .ok (.getfield 220, 3) := by decide +kernel
theorem dX11_byteAt_5 : decode cX11_byteAt 5 = .ok (.if_icmp .ge 12, 3) := by decide +kernel
theorem dX11_byteAt_8 : decode cX11_byteAt 8 = .ok (.aload_n 0, 1) := by decide +kernel
theorem dX11_byteAt_9 : decode cX11_byteAt 9 = .ok (.getfield 50, 3) := by decide +kernel
theorem dX11_byteAt_12 : decode cX11_byteAt 12 = .ok (.iload_n 1, 1) := by decide +kernel
theorem dX11_byteAt_13 : decode cX11_byteAt 13 = .ok (.iaload, 1) := by decide +kernel
theorem dX11_byteAt_14 : decode cX11_byteAt 14 = .ok (.goto 4, 3) := by decide +kernel
theorem dX11_byteAt_17 : decode cX11_byteAt 17 = .ok (.iconst 0, 1) := by decide +kernel
theorem dX11_byteAt_18 : decode cX11_byteAt 18 = .ok (.ireturn, 1) := by decide +kernel
theorem dX11_isLetter_0 : decode cX11_isLetter 0 = .ok (.iload_n 0, 1) := by decide +kernel
theorem dX11_isLetter_1 : decode cX11_isLetter 1 = .ok (.bipush 97, 2) := by decide +kernel
theorem dX11_isLetter_3 : decode cX11_isLetter 3 = .ok (.if_icmp .lt 13, 3) := by decide +kernel
theorem dX11_isLetter_6 : decode cX11_isLetter 6 = .ok (.iload_n 0, 1) := by decide +kernel
theorem dX11_isLetter_7 : decode cX11_isLetter 7 = .ok (.bipush 122, 2) := by decide +kernel
theorem dX11_isLetter_9 : decode cX11_isLetter 9 = .ok (.if_icmp .gt 7, 3) := by decide +kernel
theorem dX11_isLetter_12 : decode cX11_isLetter 12 = .ok (.iconst 1, 1) := by decide +kernel
theorem dX11_isLetter_13 : decode cX11_isLetter 13 = .ok (.goto 4, 3) := by decide +kernel
theorem dX11_isLetter_16 : decode cX11_isLetter 16 = .ok (.iconst 0, 1) := by decide +kernel
theorem dX11_isLetter_17 : decode cX11_isLetter 17 = .ok (.ireturn, 1) := by decide +kernel
theorem dX11_isDigit_0 : decode cX11_isDigit 0 = .ok (.iload_n 0, 1) := by decide +kernel
theorem dX11_isDigit_1 : decode cX11_isDigit 1 = .ok (.bipush 48, 2) := by decide +kernel
theorem dX11_isDigit_3 : decode cX11_isDigit 3 = .ok (.if_icmp .lt 13, 3) := by decide +kernel
theorem dX11_isDigit_6 : decode cX11_isDigit 6 = .ok (.iload_n 0, 1) := by decide +kernel
theorem dX11_isDigit_7 : decode cX11_isDigit 7 = .ok (.bipush 57, 2) := by decide +kernel
theorem dX11_isDigit_9 : decode cX11_isDigit 9 = .ok (.if_icmp .gt 7, 3) := by decide +kernel
theorem dX11_isDigit_12 : decode cX11_isDigit 12 = .ok (.iconst 1, 1) := by decide +kernel
theorem dX11_isDigit_13 : decode cX11_isDigit 13 = .ok (.goto 4, 3) := by decide +kernel
theorem dX11_isDigit_16 : decode cX11_isDigit 16 = .ok (.iconst 0, 1) := by decide +kernel
theorem dX11_isDigit_17 : decode cX11_isDigit 17 = .ok (.ireturn, 1) := by decide +kernel
theorem dX11_goes_0 : decode cX11_goes 0 = .ok (.aload_n 0, 1) := by decide +kernel
theorem dX11_goes_1 : decode cX11_goes 1 = .ok (.getfield 223, 3) := by decide +kernel
theorem dX11_goes_4 : decode cX11_goes 4 = .ok (.aload_n 0, 1) := by decide +kernel
theorem dX11_goes_5 : decode cX11_goes 5 = .ok (.getfield 220, 3) := by decide +kernel
theorem dX11_goes_8 : decode cX11_goes 8 = .ok (.if_icmp .ge 42, 3) := by decide +kernel
theorem dX11_goes_11 : decode cX11_goes 11 = .ok (.aload_n 0, 1) := by decide +kernel
theorem dX11_goes_12 : decode cX11_goes 12 = .ok (.aload_n 0, 1) := by decide +kernel
theorem dX11_goes_13 : decode cX11_goes 13 = .ok (.getfield 223, 3) := by decide +kernel
theorem dX11_goes_16 : decode cX11_goes 16 = .ok (.invokevirtual 226, 3) := by decide +kernel
theorem dX11_goes_19 : decode cX11_goes 19 = .ok (.bipush 32, 2) := by decide +kernel
theorem dX11_goes_21 : decode cX11_goes 21 = .ok (.if_icmp .eq 16, 3) := by decide +kernel
theorem dX11_goes_24 : decode cX11_goes 24 = .ok (.aload_n 0, 1) := by decide +kernel
theorem dX11_goes_25 : decode cX11_goes 25 = .ok (.aload_n 0, 1) := by decide +kernel
theorem dX11_goes_26 : decode cX11_goes 26 = .ok (.getfield 223, 3) := by decide +kernel
theorem dX11_goes_29 : decode cX11_goes 29 = .ok (.invokevirtual 226, 3) := by decide +kernel
theorem dX11_goes_32 : decode cX11_goes 32 = .ok (.bipush 10, 2) := by decide +kernel
theorem dX11_goes_34 : decode cX11_goes 34 = .ok (.if_icmp .ne 16, 3) := by decide +kernel
theorem dX11_goes_37 : decode cX11_goes 37 = .ok (.aload_n 0, 1) := by decide +kernel
theorem dX11_goes_38 : decode cX11_goes 38 = .ok (.dup, 1) := by decide +kernel
theorem dX11_goes_39 : decode cX11_goes 39 = .ok (.getfield 223, 3) := by decide +kernel
theorem dX11_goes_42 : decode cX11_goes 42 = .ok (.iconst 1, 1) := by decide +kernel
theorem dX11_goes_43 : decode cX11_goes 43 = .ok (.iadd, 1) := by decide +kernel
theorem dX11_goes_44 : decode cX11_goes 44 = .ok (.putfield 223, 3) := by decide +kernel
theorem dX11_goes_47 : decode cX11_goes 47 = .ok (.goto (-47), 3) := by decide +kernel
theorem dX11_goes_50 : decode cX11_goes 50 = .ok (.aload_n 0, 1) := by decide +kernel
theorem dX11_goes_51 : decode cX11_goes 51 = .ok (.aload_n 0, 1) := by decide +kernel
theorem dX11_goes_52 : decode cX11_goes 52 = .ok (.getfield 223, 3) := by decide +kernel
theorem dX11_goes_55 : decode cX11_goes 55 = .ok (.putfield 229, 3) := by decide +kernel
theorem dX11_goes_58 : decode cX11_goes 58 = .ok (.aload_n 0, 1) := by decide +kernel
theorem dX11_goes_59 : decode cX11_goes 59 = .ok (.lconst 0, 1) := by decide +kernel
theorem dX11_goes_60 : decode cX11_goes 60 = .ok (.putfield 232, 3) := by decide +kernel
theorem dX11_goes_63 : decode cX11_goes 63 = .ok (.aload_n 0, 1) := by decide +kernel
theorem dX11_goes_64 : decode cX11_goes 64 = .ok (.iconst 0, 1) := by decide +kernel
theorem dX11_goes_65 : decode cX11_goes 65 = .ok (.putfield 236, 3) := by decide +kernel
theorem dX11_goes_68 : decode cX11_goes 68 = .ok (.aload_n 0, 1) := by decide +kernel
theorem dX11_goes_69 : decode cX11_goes 69 = .ok (.aload_n 0, 1) := by decide +kernel
theorem dX11_goes_70 : decode cX11_goes 70 = .ok (.getfield 223, 3) := by decide +kernel
theorem dX11_goes_73 : decode cX11_goes 73 = .ok (.invokevirtual 226, 3) := by decide +kernel
theorem dX11_goes_76 : decode cX11_goes 76 = .ok (.istore_n 1, 1) := by decide +kernel
theorem dX11_goes_77 : decode cX11_goes 77 = .ok (.aload_n 0, 1) := by decide +kernel
theorem dX11_goes_78 : decode cX11_goes 78 = .ok (.iload_n 1, 1) := by decide +kernel
theorem dX11_goes_79 : decode cX11_goes 79 = .ok (.putfield 239, 3) := by decide +kernel
theorem dX11_goes_82 : decode cX11_goes 82 = .ok (.aload_n 0, 1) := by decide +kernel
theorem dX11_goes_83 : decode cX11_goes 83 = .ok (.getfield 223, 3) := by decide +kernel
theorem dX11_goes_86 : decode cX11_goes 86 = .ok (.aload_n 0, 1) := by decide +kernel
theorem dX11_goes_87 : decode cX11_goes 87 = .ok (.getfield 220, 3) := by decide +kernel
theorem dX11_goes_90 : decode cX11_goes 90 = .ok (.if_icmp .lt 11, 3) := by decide +kernel
theorem dX11_goes_93 : decode cX11_goes 93 = .ok (.aload_n 0, 1) := by decide +kernel
theorem dX11_goes_94 : decode cX11_goes 94 = .ok (.iconst 0, 1) := by decide +kernel
theorem dX11_goes_95 : decode cX11_goes 95 = .ok (.putfield 242, 3) := by decide +kernel
theorem dX11_goes_98 : decode cX11_goes 98 = .ok (.goto 233, 3) := by decide +kernel
theorem dX11_goes_101 : decode cX11_goes 101 = .ok (.iload_n 1, 1) := by decide +kernel
theorem dX11_goes_102 : decode cX11_goes 102 = .ok (.invokestatic 245, 3) := by decide +kernel
theorem dX11_goes_105 : decode cX11_goes 105 = .ok (.ifCond .eq 75, 3) := by decide +kernel
theorem dX11_goes_108 : decode cX11_goes 108 = .ok (.aload_n 0, 1) := by decide +kernel
theorem dX11_goes_109 : decode cX11_goes 109 = .ok (.aload_n 0, 1) := by decide +kernel
theorem dX11_goes_110 : decode cX11_goes 110 = .ok (.getfield 223, 3) := by decide +kernel
theorem dX11_goes_113 : decode cX11_goes 113 = .ok (.invokevirtual 226, 3) := by decide +kernel
theorem dX11_goes_116 : decode cX11_goes 116 = .ok (.invokestatic 245, 3) := by decide +kernel
theorem dX11_goes_119 : decode cX11_goes 119 = .ok (.ifCond .eq 53, 3) := by decide +kernel
theorem dX11_goes_122 : decode cX11_goes 122 = .ok (.aload_n 0, 1) := by decide +kernel
theorem dX11_goes_123 : decode cX11_goes 123 = .ok (.getfield 223, 3) := by decide +kernel
theorem dX11_goes_126 : decode cX11_goes 126 = .ok (.aload_n 0, 1) := by decide +kernel
theorem dX11_goes_127 : decode cX11_goes 127 = .ok (.getfield 229, 3) := by decide +kernel
theorem dX11_goes_130 : decode cX11_goes 130 = .ok (.isub, 1) := by decide +kernel
theorem dX11_goes_131 : decode cX11_goes 131 = .ok (.bipush 7, 2) := by decide +kernel
theorem dX11_goes_133 : decode cX11_goes 133 = .ok (.if_icmp .ge 26, 3) := by decide +kernel
theorem dX11_goes_136 : decode cX11_goes 136 = .ok (.aload_n 0, 1) := by decide +kernel
theorem dX11_goes_137 : decode cX11_goes 137 = .ok (.aload_n 0, 1) := by decide +kernel
theorem dX11_goes_138 : decode cX11_goes 138 = .ok (.getfield 232, 3) := by decide +kernel
theorem dX11_goes_141 : decode cX11_goes 141 = .ok (.iconst 5, 1) := by decide +kernel
theorem dX11_goes_142 : decode cX11_goes 142 = .ok (.lshl, 1) := by decide +kernel
theorem dX11_goes_143 : decode cX11_goes 143 = .ok (.aload_n 0, 1) := by decide +kernel
theorem dX11_goes_144 : decode cX11_goes 144 = .ok (.aload_n 0, 1) := by decide +kernel
theorem dX11_goes_145 : decode cX11_goes 145 = .ok (.getfield 223, 3) := by decide +kernel
theorem dX11_goes_148 : decode cX11_goes 148 = .ok (.invokevirtual 226, 3) := by decide +kernel
theorem dX11_goes_151 : decode cX11_goes 151 = .ok (.bipush 96, 2) := by decide +kernel
theorem dX11_goes_153 : decode cX11_goes 153 = .ok (.isub, 1) := by decide +kernel
theorem dX11_goes_154 : decode cX11_goes 154 = .ok (.i2l, 1) := by decide +kernel
theorem dX11_goes_155 : decode cX11_goes 155 = .ok (.lor, 1) := by decide +kernel
theorem dX11_goes_156 : decode cX11_goes 156 = .ok (.putfield 232, 3) := by decide +kernel
theorem dX11_goes_159 : decode cX11_goes 159 = .ok (.aload_n 0, 1) := by decide +kernel
theorem dX11_goes_160 : decode cX11_goes 160 = .ok (.dup, 1) := by decide +kernel
theorem dX11_goes_161 : decode cX11_goes 161 = .ok (.getfield 223, 3) := by decide +kernel
theorem dX11_goes_164 : decode cX11_goes 164 = .ok (.iconst 1, 1) := by decide +kernel
theorem dX11_goes_165 : decode cX11_goes 165 = .ok (.iadd, 1) := by decide +kernel
theorem dX11_goes_166 : decode cX11_goes 166 = .ok (.putfield 223, 3) := by decide +kernel
theorem dX11_goes_169 : decode cX11_goes 169 = .ok (.goto (-61), 3) := by decide +kernel
theorem dX11_goes_172 : decode cX11_goes 172 = .ok (.aload_n 0, 1) := by decide +kernel
theorem dX11_goes_173 : decode cX11_goes 173 = .ok (.iconst 1, 1) := by decide +kernel
theorem dX11_goes_174 : decode cX11_goes 174 = .ok (.putfield 242, 3) := by decide +kernel
theorem dX11_goes_177 : decode cX11_goes 177 = .ok (.goto 154, 3) := by decide +kernel
theorem dX11_goes_180 : decode cX11_goes 180 = .ok (.iload_n 1, 1) := by decide +kernel
theorem dX11_goes_181 : decode cX11_goes 181 = .ok (.invokestatic 248, 3) := by decide +kernel
theorem dX11_goes_184 : decode cX11_goes 184 = .ok (.ifCond .eq 74, 3) := by decide +kernel
theorem dX11_goes_187 : decode cX11_goes 187 = .ok (.aload_n 0, 1) := by decide +kernel
theorem dX11_goes_188 : decode cX11_goes 188 = .ok (.aload_n 0, 1) := by decide +kernel
theorem dX11_goes_189 : decode cX11_goes 189 = .ok (.getfield 223, 3) := by decide +kernel
theorem dX11_goes_192 : decode cX11_goes 192 = .ok (.invokevirtual 226, 3) := by decide +kernel
theorem dX11_goes_195 : decode cX11_goes 195 = .ok (.invokestatic 248, 3) := by decide +kernel
theorem dX11_goes_198 : decode cX11_goes 198 = .ok (.ifCond .eq 52, 3) := by decide +kernel
theorem dX11_goes_201 : decode cX11_goes 201 = .ok (.aload_n 0, 1) := by decide +kernel
theorem dX11_goes_202 : decode cX11_goes 202 = .ok (.getfield 223, 3) := by decide +kernel
theorem dX11_goes_205 : decode cX11_goes 205 = .ok (.aload_n 0, 1) := by decide +kernel
theorem dX11_goes_206 : decode cX11_goes 206 = .ok (.getfield 229, 3) := by decide +kernel
theorem dX11_goes_209 : decode cX11_goes 209 = .ok (.isub, 1) := by decide +kernel
theorem dX11_goes_210 : decode cX11_goes 210 = .ok (.iconst 3, 1) := by decide +kernel
theorem dX11_goes_211 : decode cX11_goes 211 = .ok (.if_icmp .ge 26, 3) := by decide +kernel
theorem dX11_goes_214 : decode cX11_goes 214 = .ok (.aload_n 0, 1) := by decide +kernel
theorem dX11_goes_215 : decode cX11_goes 215 = .ok (.bipush 10, 2) := by decide +kernel
theorem dX11_goes_217 : decode cX11_goes 217 = .ok (.aload_n 0, 1) := by decide +kernel
theorem dX11_goes_218 : decode cX11_goes 218 = .ok (.getfield 236, 3) := by decide +kernel
theorem dX11_goes_221 : decode cX11_goes 221 = .ok (.imul, 1) := by decide +kernel
theorem dX11_goes_222 : decode cX11_goes 222 = .ok (.aload_n 0, 1) := by decide +kernel
theorem dX11_goes_223 : decode cX11_goes 223 = .ok (.aload_n 0, 1) := by decide +kernel
theorem dX11_goes_224 : decode cX11_goes 224 = .ok (.getfield 223, 3) := by decide +kernel
theorem dX11_goes_227 : decode cX11_goes 227 = .ok (.invokevirtual 226, 3) := by decide +kernel
theorem dX11_goes_230 : decode cX11_goes 230 = .ok (.iadd, 1) := by decide +kernel
theorem dX11_goes_231 : decode cX11_goes 231 = .ok (.bipush 48, 2) := by decide +kernel
theorem dX11_goes_233 : decode cX11_goes 233 = .ok (.isub, 1) := by decide +kernel
theorem dX11_goes_234 : decode cX11_goes 234 = .ok (.putfield 236, 3) := by decide +kernel
theorem dX11_goes_237 : decode cX11_goes 237 = .ok (.aload_n 0, 1) := by decide +kernel
theorem dX11_goes_238 : decode cX11_goes 238 = .ok (.dup, 1) := by decide +kernel
theorem dX11_goes_239 : decode cX11_goes 239 = .ok (.getfield 223, 3) := by decide +kernel
theorem dX11_goes_242 : decode cX11_goes 242 = .ok (.iconst 1, 1) := by decide +kernel
theorem dX11_goes_243 : decode cX11_goes 243 = .ok (.iadd, 1) := by decide +kernel
theorem dX11_goes_244 : decode cX11_goes 244 = .ok (.putfield 223, 3) := by decide +kernel
theorem dX11_goes_247 : decode cX11_goes 247 = .ok (.goto (-60), 3) := by decide +kernel
theorem dX11_goes_250 : decode cX11_goes 250 = .ok (.aload_n 0, 1) := by decide +kernel
theorem dX11_goes_251 : decode cX11_goes 251 = .ok (.iconst 2, 1) := by decide +kernel
theorem dX11_goes_252 : decode cX11_goes 252 = .ok (.putfield 242, 3) := by decide +kernel
theorem dX11_goes_255 : decode cX11_goes 255 = .ok (.goto 76, 3) := by decide +kernel
theorem dX11_goes_258 : decode cX11_goes 258 = .ok (.aload_n 0, 1) := by decide +kernel
theorem dX11_goes_259 : decode cX11_goes 259 = .ok (.dup, 1) := by decide +kernel
theorem dX11_goes_260 : decode cX11_goes 260 = .ok (.getfield 223, 3) := by decide +kernel
theorem dX11_goes_263 : decode cX11_goes 263 = .ok (.iconst 1, 1) := by decide +kernel
theorem dX11_goes_264 : decode cX11_goes 264 = .ok (.iadd, 1) := by decide +kernel
theorem dX11_goes_265 : decode cX11_goes 265 = .ok (.putfield 223, 3) := by decide +kernel
theorem dX11_goes_268 : decode cX11_goes 268 = .ok (.aload_n 0, 1) := by decide +kernel
theorem dX11_goes_269 : decode cX11_goes 269 = .ok (.iload_n 1, 1) := by decide +kernel
theorem dX11_goes_270 : decode cX11_goes 270 = .ok (.bipush 59, 2) := by decide +kernel
theorem dX11_goes_272 : decode cX11_goes 272 = .ok (.if_icmp .eq 51, 3) := by decide +kernel
theorem dX11_goes_275 : decode cX11_goes 275 = .ok (.iload_n 1, 1) := by decide +kernel
theorem dX11_goes_276 : decode cX11_goes 276 = .ok (.bipush 40, 2) := by decide +kernel
theorem dX11_goes_278 : decode cX11_goes 278 = .ok (.if_icmp .eq 45, 3) := by decide +kernel
theorem dX11_goes_281 : decode cX11_goes 281 = .ok (.iload_n 1, 1) := by decide +kernel
theorem dX11_goes_282 : decode cX11_goes 282 = .ok (.bipush 41, 2) := by decide +kernel
theorem dX11_goes_284 : decode cX11_goes 284 = .ok (.if_icmp .eq 39, 3) := by decide +kernel
theorem dX11_goes_287 : decode cX11_goes 287 = .ok (.iload_n 1, 1) := by decide +kernel
theorem dX11_goes_288 : decode cX11_goes 288 = .ok (.bipush 43, 2) := by decide +kernel
theorem dX11_goes_290 : decode cX11_goes 290 = .ok (.if_icmp .eq 33, 3) := by decide +kernel
theorem dX11_goes_293 : decode cX11_goes 293 = .ok (.iload_n 1, 1) := by decide +kernel
theorem dX11_goes_294 : decode cX11_goes 294 = .ok (.bipush 45, 2) := by decide +kernel
theorem dX11_goes_296 : decode cX11_goes 296 = .ok (.if_icmp .eq 27, 3) := by decide +kernel
theorem dX11_goes_299 : decode cX11_goes 299 = .ok (.iload_n 1, 1) := by decide +kernel
theorem dX11_goes_300 : decode cX11_goes 300 = .ok (.bipush 42, 2) := by decide +kernel
theorem dX11_goes_302 : decode cX11_goes 302 = .ok (.if_icmp .eq 21, 3) := by decide +kernel
theorem dX11_goes_305 : decode cX11_goes 305 = .ok (.iload_n 1, 1) := by decide +kernel
theorem dX11_goes_306 : decode cX11_goes 306 = .ok (.bipush 47, 2) := by decide +kernel
theorem dX11_goes_308 : decode cX11_goes 308 = .ok (.if_icmp .eq 15, 3) := by decide +kernel
theorem dX11_goes_311 : decode cX11_goes 311 = .ok (.iload_n 1, 1) := by decide +kernel
theorem dX11_goes_312 : decode cX11_goes 312 = .ok (.bipush 60, 2) := by decide +kernel
theorem dX11_goes_314 : decode cX11_goes 314 = .ok (.if_icmp .eq 9, 3) := by decide +kernel
theorem dX11_goes_317 : decode cX11_goes 317 = .ok (.iload_n 1, 1) := by decide +kernel
theorem dX11_goes_318 : decode cX11_goes 318 = .ok (.bipush 61, 2) := by decide +kernel
theorem dX11_goes_320 : decode cX11_goes 320 = .ok (.if_icmp .ne 7, 3) := by decide +kernel
theorem dX11_goes_323 : decode cX11_goes 323 = .ok (.iconst 3, 1) := by decide +kernel
theorem dX11_goes_324 : decode cX11_goes 324 = .ok (.goto 4, 3) := by decide +kernel
theorem dX11_goes_327 : decode cX11_goes 327 = .ok (.iconst 4, 1) := by decide +kernel
theorem dX11_goes_328 : decode cX11_goes 328 = .ok (.putfield 242, 3) := by decide +kernel
theorem dX11_goes_331 : decode cX11_goes 331 = .ok (.aload_n 0, 1) := by decide +kernel
theorem dX11_goes_332 : decode cX11_goes 332 = .ok (.aload_n 0, 1) := by decide +kernel
theorem dX11_goes_333 : decode cX11_goes 333 = .ok (.getfield 223, 3) := by decide +kernel
theorem dX11_goes_336 : decode cX11_goes 336 = .ok (.aload_n 0, 1) := by decide +kernel
theorem dX11_goes_337 : decode cX11_goes 337 = .ok (.getfield 229, 3) := by decide +kernel
theorem dX11_goes_340 : decode cX11_goes 340 = .ok (.isub, 1) := by decide +kernel
theorem dX11_goes_341 : decode cX11_goes 341 = .ok (.putfield 251, 3) := by decide +kernel
theorem dX11_goes_344 : decode cX11_goes 344 = .ok (.return_, 1) := by decide +kernel
section
variable {p : Program} {l : Launch} {e : Env} {R : Room} {s : State} {m : MethodId} {args : Array Value} {below : List Frame} {meth : Method} {c : Code} {D : va_G} {cA : Nat → ClassId} {z : Nat} {A : Nat → Prop} {T : HR}
theorem cM_thrown {l : Launch} {D : va_G} {cA : Nat → ClassId} {z sz : Nat} {I : HI} {J : HJ}  {Q : Int32 → Prop}  (h : M_thrown I  Q) : Met l yX11_thrown (hws0 yX11_thrown cX11_thrown 1 (some .int)) { frames := 0, cells := 0, slots := 0, locals := 0 } (hPc D cA z Ev0 (I, J, T, FM, LM) sz [.ref (z + 0)]) (va_Qi (p0 (I, J, T, FM, LM) Q) (hB D cA z (hA z LM sz)) (hA z LM sz)) 0 0 (hA z LM sz) := by
  refine hm_met (I, J, T, FM, LM) [.ref (z + 0)] rfl (by decide) (Nat.le_of_ble_eq_true rfl) ?_
  intro p e s m below meth c ls X hr hlk hnm hxt hsz hw hl
  have hl : lv_has ls 1 [(0, .ref (z + 0))] := hl
  have hR : 0 ≤ ({ frames := 0, cells := 0, slots := 0, locals := 0 } : Room).frames ∧ 0 ≤ ({ frames := 0, cells := 0, slots := 0, locals := 0 } : Room).locals := ⟨Nat.le_refl _, Nat.le_refl _⟩
  generalize ({ frames := 0, cells := 0, slots := 0, locals := 0 } : Room) = R at hR ⊢
  clear hsz
  generalize (hA z LM sz) = A at hw ⊢
  have hx := X.1
  have hb := X.2.1
  unfold M_thrown at h
  refine lv_aload_n hx hb dX11_thrown_0 rfl (lv_at hl 0 rfl) ?_
  refine hm_geti X hw lkM_174 LM_0 dX11_thrown_1 ?_
  exact hm_iret X hr hlk hw ⟨rfl, h⟩ dX11_thrown_4

theorem wkM_right_b16 {I : HI} {J : HJ} {Q : Int32 → HI → Prop} (X : hX p m c s args RX11 cX11_right 3) (hr : meth.sig.returnType = (some .boolean)) (hlk : meth.locks = false) (hR : 0 ≤ R.frames ∧ 0 ≤ R.locals)   : ∀ {ls : Array Slot} {H : Heap} {locs : List Loc}, M_right_b16 I Q → hW D cA z Ev0 (I, J, T, FM, LM) A s H locs → lv_has ls 3 [(0, .ref (z + 0))] → W p l e R s m args below meth c H locs 0 0 (MQ below (va_Qi (pI J T FM LM Q) (hB D cA z A) A) args s 0 0 A) (F0 m 16 ls []) := by
  have hx := X.1
  have hb := X.2.1
  intro ls H locs h hw hl
  unfold M_right_b16 at h
  refine lv_aload_n hx hb dX11_right_16 rfl (lv_at hl 0 rfl) ?_
  refine hm_geti X hw lkM_174 LM_0 dX11_right_17 ?_
  refine lv_if_ne (tgt := 27) hx hb dX11_right_20 (by decide) (fun hc => ?_) (fun hc => ?_)
  · have h := Eq.mp (if_neg hc) h
    refine lv_iconst (v := 0) hx hb dX11_right_27 (by decide) ?_
    exact hm_zret X hr hlk hw zb_0 ⟨_, rfl, h⟩ dX11_right_28
  · have h := Eq.mp (if_pos hc) h
    refine lv_iconst (v := 1) hx hb dX11_right_23 (by decide) ?_
    refine lv_goto (tgt := 28) hx hb dX11_right_24 (by decide) ?_
    exact hm_zret X hr hlk hw zb_1 ⟨_, rfl, h⟩ dX11_right_28

theorem cM_right {l : Launch} {D : va_G} {cA : Nat → ClassId} {z sz : Nat} {I : HI} {J : HJ} {x1 : Int32} {x2 : Int32} {Q : Int32 → HI → Prop}  (h : M_right I x1 x2 Q) : Met l yX11_right (hws0 yX11_right cX11_right 3 (some .boolean)) { frames := 0, cells := 0, slots := 0, locals := 0 } (hPc D cA z Ev0 (I, J, T, FM, LM) sz [.ref (z + 0), .int x1, .int x2]) (va_Qi (pI J T FM LM Q) (hB D cA z (hA z LM sz)) (hA z LM sz)) 0 0 (hA z LM sz) := by
  refine hm_met (I, J, T, FM, LM) [.ref (z + 0), .int x1, .int x2] rfl (by decide) (Nat.le_of_ble_eq_true rfl) ?_
  intro p e s m below meth c ls X hr hlk hnm hxt hsz hw hl
  have hl : lv_has ls 3 [(0, .ref (z + 0)), (1, .int x1), (2, .int x2)] := hl
  have hR : 0 ≤ ({ frames := 0, cells := 0, slots := 0, locals := 0 } : Room).frames ∧ 0 ≤ ({ frames := 0, cells := 0, slots := 0, locals := 0 } : Room).locals := ⟨Nat.le_refl _, Nat.le_refl _⟩
  generalize ({ frames := 0, cells := 0, slots := 0, locals := 0 } : Room) = R at hR ⊢
  clear hsz
  generalize (hA z LM sz) = A at hw ⊢
  have hx := X.1
  have hb := X.2.1
  unfold M_right at h
  refine lv_aload_n hx hb dX11_right_0 rfl (lv_at hl 0 rfl) ?_
  refine hm_geti X hw lkM_174 LM_0 dX11_right_1 ?_
  refine lv_if_ne (tgt := 16) hx hb dX11_right_4 (by decide) (fun hc => ?_) (fun hc => ?_)
  · have h := Eq.mp (if_neg hc) h
    exact wkM_right_b16 X hr hlk hR   h hw (lv_sub hl [0] rfl)
  · have h := Eq.mp (if_pos hc) h
    refine lv_iload_n hx hb dX11_right_7 rfl (lv_at hl 1 rfl) ?_
    refine lv_if_ne (tgt := 16) hx hb dX11_right_8 (by decide) (fun hc => ?_) (fun hc => ?_)
    · have h := Eq.mp (if_neg hc) h
      exact wkM_right_b16 X hr hlk hR   h hw (lv_sub hl [0] rfl)
    · have h := Eq.mp (if_pos hc) h
      refine lv_aload_n hx hb dX11_right_11 rfl (lv_at hl 0 rfl) ?_
      refine lv_iload_n hx hb dX11_right_12 rfl (lv_at hl 2 rfl) ?_
      refine hm_puti X hw lkM_174 LM_0 rfl rfl dX11_right_13 (fun H locs hw => ?_)
      exact wkM_right_b16 X hr hlk hR   h hw (lv_sub hl [0] rfl)

theorem cM_within {l : Launch} {D : va_G} {cA : Nat → ClassId} {z sz : Nat} {I : HI} {J : HJ} {x0 : Int32} {x1 : Int32} {x2 : Int32} {Q : Int32 → Prop}  (h : M_within  x0 x1 x2 Q) : Met l yX11_within (hws0 yX11_within cX11_within 3 (some .boolean)) { frames := 0, cells := 0, slots := 0, locals := 0 } (hPc D cA z Ev0 (I, J, T, FM, LM) sz [.int x0, .int x1, .int x2]) (va_Qi (p0 (I, J, T, FM, LM) Q) (hB D cA z (hA z LM sz)) (hA z LM sz)) 0 0 (hA z LM sz) := by
  refine hm_met (I, J, T, FM, LM) [.int x0, .int x1, .int x2] rfl (by decide) (Nat.le_of_ble_eq_true rfl) ?_
  intro p e s m below meth c ls X hr hlk hnm hxt hsz hw hl
  have hl : lv_has ls 3 [(0, .int x0), (1, .int x1), (2, .int x2)] := hl
  have hR : 0 ≤ ({ frames := 0, cells := 0, slots := 0, locals := 0 } : Room).frames ∧ 0 ≤ ({ frames := 0, cells := 0, slots := 0, locals := 0 } : Room).locals := ⟨Nat.le_refl _, Nat.le_refl _⟩
  generalize ({ frames := 0, cells := 0, slots := 0, locals := 0 } : Room) = R at hR ⊢
  clear hsz
  generalize (hA z LM sz) = A at hw ⊢
  have hx := X.1
  have hb := X.2.1
  unfold M_within at h
  refine lv_iload_n hx hb dX11_within_0 rfl (lv_at hl 0 rfl) ?_
  refine lv_iload_n hx hb dX11_within_1 rfl (lv_at hl 1 rfl) ?_
  refine lv_icmp_lt (tgt := 14) hx hb dX11_within_2 (by decide) (fun hc => ?_) (fun hc => ?_)
  · have h := Eq.mp (if_pos hc) h
    refine lv_iconst (v := 0) hx hb dX11_within_14 (by decide) ?_
    exact hm_zret X hr hlk hw zb_0 ⟨rfl, h⟩ dX11_within_15
  · have h := Eq.mp (if_neg hc) h
    refine lv_iload_n hx hb dX11_within_5 rfl (lv_at hl 0 rfl) ?_
    refine lv_iload_n hx hb dX11_within_6 rfl (lv_at hl 2 rfl) ?_
    refine lv_icmp_gt (tgt := 14) hx hb dX11_within_7 (by decide) (fun hc => ?_) (fun hc => ?_)
    · have h := Eq.mp (if_pos hc) h
      refine lv_iconst (v := 0) hx hb dX11_within_14 (by decide) ?_
      exact hm_zret X hr hlk hw zb_0 ⟨rfl, h⟩ dX11_within_15
    · have h := Eq.mp (if_neg hc) h
      refine lv_iconst (v := 1) hx hb dX11_within_10 (by decide) ?_
      refine lv_goto (tgt := 15) hx hb dX11_within_11 (by decide) ?_
      exact hm_zret X hr hlk hw zb_1 ⟨rfl, h⟩ dX11_within_15

theorem wkM_bits_l4 {I : HI} {J : HJ} {Q : Int32 → Prop} (X : hX p m c s args RX11 cX11_bits 3) (hr : meth.sig.returnType = (some .int)) (hlk : meth.locks = false) (hR : 0 ≤ R.frames ∧ 0 ≤ R.locals)   : ∀ (n : Nat) (x1 : Int32) (x2 : Int32) {ls : Array Slot} {H : Heap} {locs : List Loc}, M_bits_l4 Q n x1 x2 → hW D cA z Ev0 (I, J, T, FM, LM) A s H locs → lv_has ls 3 [(1, .int x1), (2, .int x2)] → W p l e R s m args below meth c H locs 0 0 (MQ below (va_Qi (p0 (I, J, T, FM, LM) Q) (hB D cA z A) A) args s 0 0 A) (F0 m 4 ls []) := by
  have hx := X.1
  have hb := X.2.1
  intro n
  induction n with
  | zero => intro x1 x2 ls H locs h; exact False.elim h
  | succ n ih =>
    intro x1 x2 ls H locs h hw hl
    rw [M_bits_l4] at h
    refine lv_iload_n hx hb dX11_bits_4 rfl (lv_at hl 1 rfl) ?_
    refine lv_if_eq (tgt := 20) hx hb dX11_bits_5 (by decide) (fun hc => ?_) (fun hc => ?_)
    · have h := Eq.mp (if_pos hc) h
      refine lv_iload_n hx hb dX11_bits_20 rfl (lv_at hl 0 rfl) ?_
      exact hm_iret X hr hlk hw ⟨rfl, h⟩ dX11_bits_21
    · have h := Eq.mp (if_neg hc) h
      refine lv_iinc (v := x1 + 1) (lv' := [(1, _), (2, _)]) hx hb dX11_bits_8 hl (k := 0) rfl rfl (by decide) rfl (fun ls hl => ?_)
      refine lv_iload_n hx hb dX11_bits_11 rfl (lv_at hl 1 rfl) ?_
      refine lv_iload_n hx hb dX11_bits_12 rfl (lv_at hl 1 rfl) ?_
      refine lv_iconst (v := 1) hx hb dX11_bits_13 (by decide) ?_
      refine lv_isub hx hb dX11_bits_14 ?_
      refine lv_iand hx hb dX11_bits_15 ?_
      refine lv_istore_n (lv' := [(2, _), (1, _)]) hx hb dX11_bits_16 rfl hl (by decide) rfl (fun ls hl => ?_)
      refine lv_goto (tgt := 4) hx hb dX11_bits_17 (by decide) ?_
      exact ih _ _ h hw (lv_sub hl [1, 0] rfl)

theorem cM_bits {l : Launch} {D : va_G} {cA : Nat → ClassId} {z sz : Nat} {I : HI} {J : HJ} {x0 : Int32} {Q : Int32 → Prop}  (h : M_bits  x0 Q) : Met l yX11_bits (hws0 yX11_bits cX11_bits 3 (some .int)) { frames := 0, cells := 0, slots := 0, locals := 0 } (hPc D cA z Ev0 (I, J, T, FM, LM) sz [.int x0]) (va_Qi (p0 (I, J, T, FM, LM) Q) (hB D cA z (hA z LM sz)) (hA z LM sz)) 0 0 (hA z LM sz) := by
  refine hm_met (I, J, T, FM, LM) [.int x0] rfl (by decide) (Nat.le_of_ble_eq_true rfl) ?_
  intro p e s m below meth c ls X hr hlk hnm hxt hsz hw hl
  have hl : lv_has ls 3 [(0, .int x0)] := hl
  have hR : 0 ≤ ({ frames := 0, cells := 0, slots := 0, locals := 0 } : Room).frames ∧ 0 ≤ ({ frames := 0, cells := 0, slots := 0, locals := 0 } : Room).locals := ⟨Nat.le_refl _, Nat.le_refl _⟩
  generalize ({ frames := 0, cells := 0, slots := 0, locals := 0 } : Room) = R at hR ⊢
  clear hsz
  generalize (hA z LM sz) = A at hw ⊢
  have hx := X.1
  have hb := X.2.1
  unfold M_bits at h
  refine lv_iconst (v := 0) hx hb dX11_bits_0 (by decide) ?_
  refine lv_istore_n (lv' := [(1, _), (0, _)]) hx hb dX11_bits_1 rfl hl (by decide) rfl (fun ls hl => ?_)
  refine lv_iload_n hx hb dX11_bits_2 rfl (lv_at hl 1 rfl) ?_
  refine lv_istore_n (lv' := [(2, _), (1, _), (0, _)]) hx hb dX11_bits_3 rfl hl (by decide) rfl (fun ls hl => ?_)
  obtain ⟨n2, h⟩ := h
  exact wkM_bits_l4 X hr hlk hR   n2 _ _ h hw (lv_sub hl [1, 0] rfl)

theorem cM_all {l : Launch} {D : va_G} {cA : Nat → ClassId} {z sz : Nat} {I : HI} {J : HJ}  {Q : Int32 → Prop}  (h : M_all I  Q) : Met l yX11_all (hws0 yX11_all cX11_all 1 (some .int)) { frames := 0, cells := 0, slots := 0, locals := 0 } (hPc D cA z Ev0 (I, J, T, FM, LM) sz [.ref (z + 0)]) (va_Qi (p0 (I, J, T, FM, LM) Q) (hB D cA z (hA z LM sz)) (hA z LM sz)) 0 0 (hA z LM sz) := by
  refine hm_met (I, J, T, FM, LM) [.ref (z + 0)] rfl (by decide) (Nat.le_of_ble_eq_true rfl) ?_
  intro p e s m below meth c ls X hr hlk hnm hxt hsz hw hl
  have hl : lv_has ls 1 [(0, .ref (z + 0))] := hl
  have hR : 0 ≤ ({ frames := 0, cells := 0, slots := 0, locals := 0 } : Room).frames ∧ 0 ≤ ({ frames := 0, cells := 0, slots := 0, locals := 0 } : Room).locals := ⟨Nat.le_refl _, Nat.le_refl _⟩
  generalize ({ frames := 0, cells := 0, slots := 0, locals := 0 } : Room) = R at hR ⊢
  clear hsz
  generalize (hA z LM sz) = A at hw ⊢
  have hx := X.1
  have hb := X.2.1
  unfold M_all at h
  refine lv_iconst (v := 1) hx hb dX11_all_0 (by decide) ?_
  refine lv_aload_n hx hb dX11_all_1 rfl (lv_at hl 0 rfl) ?_
  refine hm_geti X hw lkM_7 LM_0 dX11_all_2 ?_
  refine lv_ishl hx hb dX11_all_5 ?_
  refine lv_iconst (v := 1) hx hb dX11_all_6 (by decide) ?_
  refine lv_isub hx hb dX11_all_7 ?_
  exact hm_iret X hr hlk hw ⟨rfl, h⟩ dX11_all_8

theorem wkM_hears_l4 {I : HI} {J : HJ} {x1 : Int32} {Q : Int32 → Prop} (X : hX p m c s args RX11 cX11_hears 4) (hr : meth.sig.returnType = (some .int)) (hlk : meth.locks = false) (hR : 0 ≤ R.frames ∧ 0 ≤ R.locals)   : ∀ (n : Nat) (x2 : Int32) (x3 : Int32) {ls : Array Slot} {H : Heap} {locs : List Loc}, M_hears_l4 I x1 Q n x2 x3 → hW D cA z Ev0 (I, J, T, FM, LM) A s H locs → lv_has ls 4 [(0, .ref (z + 0)), (1, .int x1), (2, .int x2), (3, .int x3)] → W p l e R s m args below meth c H locs 0 0 (MQ below (va_Qi (p0 (I, J, T, FM, LM) Q) (hB D cA z A) A) args s 0 0 A) (F0 m 4 ls []) := by
  have hx := X.1
  have hb := X.2.1
  intro n
  induction n with
  | zero => intro x2 x3 ls H locs h; exact False.elim h
  | succ n ih =>
    intro x2 x3 ls H locs h hw hl
    rw [M_hears_l4] at h
    refine lv_iload_n hx hb dX11_hears_4 rfl (lv_at hl 3 rfl) ?_
    refine lv_aload_n hx hb dX11_hears_5 rfl (lv_at hl 0 rfl) ?_
    refine hm_geti X hw lkM_7 LM_0 dX11_hears_6 ?_
    refine lv_icmp_ge (tgt := 39) hx hb dX11_hears_9 (by decide) (fun hc => ?_) (fun hc => ?_)
    · have h := Eq.mp (if_pos hc) h
      refine lv_iload_n hx hb dX11_hears_39 rfl (lv_at hl 2 rfl) ?_
      exact hm_iret X hr hlk hw ⟨rfl, h⟩ dX11_hears_40
    · have h := Eq.mp (if_neg hc) h
      refine lv_aload_n hx hb dX11_hears_12 rfl (lv_at hl 0 rfl) ?_
      refine hm_getr X hw lkM_29 LM_0 (b := 3) rfl dX11_hears_13 ?_
      refine lv_iload_n hx hb dX11_hears_16 rfl (lv_at hl 3 rfl) ?_
      obtain ⟨hi, h⟩ := h
      refine hm_iald X hw LM_3 hi dX11_hears_17 ?_
      refine lv_aload_n hx hb dX11_hears_18 rfl (lv_at hl 0 rfl) ?_
      refine hm_getr X hw lkM_29 LM_0 (b := 3) rfl dX11_hears_19 ?_
      refine lv_iload_n hx hb dX11_hears_22 rfl (lv_at hl 1 rfl) ?_
      obtain ⟨hi, h⟩ := h
      refine hm_iald X hw LM_3 hi dX11_hears_23 ?_
      refine lv_icmp_ge (tgt := 33) hx hb dX11_hears_24 (by decide) (fun hc => ?_) (fun hc => ?_)
      · have h := Eq.mp (if_pos hc) h
        refine lv_iinc (v := x3 + 1) (lv' := [(3, _), (0, _), (1, _), (2, _)]) hx hb dX11_hears_33 hl (k := 3) rfl rfl (by decide) rfl (fun ls hl => ?_)
        refine lv_goto (tgt := 4) hx hb dX11_hears_36 (by decide) ?_
        exact ih _ _ h hw (lv_sub hl [1, 2, 3, 0] rfl)
      · have h := Eq.mp (if_neg hc) h
        refine lv_iload_n hx hb dX11_hears_27 rfl (lv_at hl 2 rfl) ?_
        refine lv_iconst (v := 1) hx hb dX11_hears_28 (by decide) ?_
        refine lv_iload_n hx hb dX11_hears_29 rfl (lv_at hl 3 rfl) ?_
        refine lv_ishl hx hb dX11_hears_30 ?_
        refine lv_ior hx hb dX11_hears_31 ?_
        refine lv_istore_n (lv' := [(2, _), (0, _), (1, _), (3, _)]) hx hb dX11_hears_32 rfl hl (by decide) rfl (fun ls hl => ?_)
        refine lv_iinc (v := x3 + 1) (lv' := [(3, _), (2, _), (0, _), (1, _)]) hx hb dX11_hears_33 hl (k := 3) rfl rfl (by decide) rfl (fun ls hl => ?_)
        refine lv_goto (tgt := 4) hx hb dX11_hears_36 (by decide) ?_
        exact ih _ _ h hw (lv_sub hl [2, 3, 1, 0] rfl)

theorem cM_hears {l : Launch} {D : va_G} {cA : Nat → ClassId} {z sz : Nat} {I : HI} {J : HJ} {x1 : Int32} {Q : Int32 → Prop}  (h : M_hears I x1 Q) : Met l yX11_hears (hws0 yX11_hears cX11_hears 4 (some .int)) { frames := 0, cells := 0, slots := 0, locals := 0 } (hPc D cA z Ev0 (I, J, T, FM, LM) sz [.ref (z + 0), .int x1]) (va_Qi (p0 (I, J, T, FM, LM) Q) (hB D cA z (hA z LM sz)) (hA z LM sz)) 0 0 (hA z LM sz) := by
  refine hm_met (I, J, T, FM, LM) [.ref (z + 0), .int x1] rfl (by decide) (Nat.le_of_ble_eq_true rfl) ?_
  intro p e s m below meth c ls X hr hlk hnm hxt hsz hw hl
  have hl : lv_has ls 4 [(0, .ref (z + 0)), (1, .int x1)] := hl
  have hR : 0 ≤ ({ frames := 0, cells := 0, slots := 0, locals := 0 } : Room).frames ∧ 0 ≤ ({ frames := 0, cells := 0, slots := 0, locals := 0 } : Room).locals := ⟨Nat.le_refl _, Nat.le_refl _⟩
  generalize ({ frames := 0, cells := 0, slots := 0, locals := 0 } : Room) = R at hR ⊢
  clear hsz
  generalize (hA z LM sz) = A at hw ⊢
  have hx := X.1
  have hb := X.2.1
  unfold M_hears at h
  refine lv_iconst (v := 0) hx hb dX11_hears_0 (by decide) ?_
  refine lv_istore_n (lv' := [(2, _), (0, _), (1, _)]) hx hb dX11_hears_1 rfl hl (by decide) rfl (fun ls hl => ?_)
  refine lv_iconst (v := 0) hx hb dX11_hears_2 (by decide) ?_
  refine lv_istore_n (lv' := [(3, _), (2, _), (0, _), (1, _)]) hx hb dX11_hears_3 rfl hl (by decide) rfl (fun ls hl => ?_)
  obtain ⟨n2, h⟩ := h
  exact wkM_hears_l4 X hr hlk hR   n2 _ _ h hw (lv_sub hl [2, 3, 1, 0] rfl)

theorem wkM_viewsOf_b73 {I : HI} {J : HJ} {x2 : Int32} {Q : Int32 → Prop} (X : hX p m c s args RX11 cX11_viewsOf 4) (hr : meth.sig.returnType = (some .int)) (hlk : meth.locks = false) (hR : 1 ≤ R.frames ∧ 23 ≤ R.locals)   : ∀ {ls : Array Slot} {H : Heap} {locs : List Loc}, M_viewsOf_b73 I x2 Q → hW D cA z Ev0 (I, J, T, FM, LM) A s H locs → lv_has ls 4 [(2, .int x2)] → W p l e R s m args below meth c H locs 0 0 (MQ below (va_Qi (p0 (I, J, T, FM, LM) Q) (hB D cA z A) A) args s 0 0 A) (F0 m 73 ls []) := by
  have hx := X.1
  have hb := X.2.1
  intro ls H locs h hw hl
  unfold M_viewsOf_b73 at h
  refine lv_iload_n hx hb dX11_viewsOf_73 rfl (lv_at hl 0 rfl) ?_
  refine lv_sipush (v := 1024) hx hb dX11_viewsOf_74 (by decide) ?_
  refine lv_icmp_le (tgt := 86) hx hb dX11_viewsOf_77 (by decide) (fun hc => ?_) (fun hc => ?_)
  · have h := Eq.mp (if_pos hc) h
    refine lv_iload_n hx hb dX11_viewsOf_86 rfl (lv_at hl 0 rfl) ?_
    exact hm_iret X hr hlk hw ⟨rfl, h⟩ dX11_viewsOf_87
  · have h := Eq.mp (if_neg hc) h
    refine lv_sipush (v := 1025) hx hb dX11_viewsOf_80 (by decide) ?_
    refine lv_goto (tgt := 87) hx hb dX11_viewsOf_83 (by decide) ?_
    exact hm_iret X hr hlk hw ⟨rfl, h⟩ dX11_viewsOf_87

theorem wkM_viewsOf_l39 {I : HI} {J : HJ} {x1 : Int32} {Q : Int32 → Prop} (X : hX p m c s args RX11 cX11_viewsOf 4) (hr : meth.sig.returnType = (some .int)) (hlk : meth.locks = false) (hR : 1 ≤ R.frames ∧ 23 ≤ R.locals)   : ∀ (n : Nat) (x2 : Int32) (x3 : Int32) {ls : Array Slot} {H : Heap} {locs : List Loc}, M_viewsOf_l39 I x1 Q n x2 x3 → hW D cA z Ev0 (I, J, T, FM, LM) A s H locs → lv_has ls 4 [(0, .ref (z + 0)), (1, .int x1), (2, .int x2), (3, .int x3)] → W p l e R s m args below meth c H locs 0 0 (MQ below (va_Qi (p0 (I, J, T, FM, LM) Q) (hB D cA z A) A) args s 0 0 A) (F0 m 39 ls []) := by
  have hx := X.1
  have hb := X.2.1
  intro n
  induction n with
  | zero => intro x2 x3 ls H locs h; exact False.elim h
  | succ n ih =>
    intro x2 x3 ls H locs h hw hl
    rw [M_viewsOf_l39] at h
    refine lv_iload_n hx hb dX11_viewsOf_39 rfl (lv_at hl 3 rfl) ?_
    refine lv_aload_n hx hb dX11_viewsOf_40 rfl (lv_at hl 0 rfl) ?_
    refine lv_iload_n hx hb dX11_viewsOf_41 rfl (lv_at hl 1 rfl) ?_
    refine hm_calli hw (hm_runV (rest := [_]) hCl_true X hw (cM_hears  h) ykM_hears kw1345 rfl LM_0 rfl hl.1 rfl rfl rfl (Nat.le_of_ble_eq_true rfl) ⟨Nat.le_trans (Nat.le_of_ble_eq_true rfl) hR.1, Nat.le_trans (Nat.le_of_ble_eq_true rfl) hR.2⟩ ⟨Nat.zero_le _, Nat.zero_le _⟩ dX11_viewsOf_42) (fun r3 u4 H locs hp hw => ?_)
    obtain ⟨rfl, h⟩ := hp
    refine hm_calli hw (hm_runS (rest := [_]) hCl_true X hw (cM_bits  h) ykM_bits kw1342 rfl hl.1 rfl rfl rfl (Nat.le_of_ble_eq_true rfl) ⟨Nat.le_trans (Nat.le_of_ble_eq_true rfl) hR.1, Nat.le_trans (Nat.le_of_ble_eq_true rfl) hR.2⟩ ⟨Nat.zero_le _, Nat.zero_le _⟩ dX11_viewsOf_45) (fun r5 u6 H locs hp hw => ?_)
    obtain ⟨rfl, h⟩ := hp
    refine lv_icmp_ge (tgt := 73) hx hb dX11_viewsOf_48 (by decide) (fun hc => ?_) (fun hc => ?_)
    · have h := Eq.mp (if_pos hc) h
      exact wkM_viewsOf_b73 X hr hlk hR   h hw (lv_sub hl [2] rfl)
    · have h := Eq.mp (if_neg hc) h
      refine lv_iload_n hx hb dX11_viewsOf_51 rfl (lv_at hl 2 rfl) ?_
      refine lv_sipush (v := 1024) hx hb dX11_viewsOf_52 (by decide) ?_
      refine lv_icmp_gt (tgt := 73) hx hb dX11_viewsOf_55 (by decide) (fun hc => ?_) (fun hc => ?_)
      · have h := Eq.mp (if_pos hc) h
        exact wkM_viewsOf_b73 X hr hlk hR   h hw (lv_sub hl [2] rfl)
      · have h := Eq.mp (if_neg hc) h
        refine lv_iload_n hx hb dX11_viewsOf_58 rfl (lv_at hl 2 rfl) ?_
        refine lv_aload_n hx hb dX11_viewsOf_59 rfl (lv_at hl 0 rfl) ?_
        refine hm_geti X hw lkM_13 LM_0 dX11_viewsOf_60 ?_
        refine lv_iconst (v := 1) hx hb dX11_viewsOf_63 (by decide) ?_
        refine lv_iadd hx hb dX11_viewsOf_64 ?_
        refine lv_imul hx hb dX11_viewsOf_65 ?_
        refine lv_istore_n (lv' := [(2, _), (0, _), (1, _), (3, _)]) hx hb dX11_viewsOf_66 rfl hl (by decide) rfl (fun ls hl => ?_)
        refine lv_iinc (v := x3 + 1) (lv' := [(3, _), (2, _), (0, _), (1, _)]) hx hb dX11_viewsOf_67 hl (k := 3) rfl rfl (by decide) rfl (fun ls hl => ?_)
        refine lv_goto (tgt := 39) hx hb dX11_viewsOf_70 (by decide) ?_
        exact ih _ _ h hw (lv_sub hl [2, 3, 1, 0] rfl)

theorem wkM_viewsOf_l4 {I : HI} {J : HJ} {x1 : Int32} {Q : Int32 → Prop} (X : hX p m c s args RX11 cX11_viewsOf 4) (hr : meth.sig.returnType = (some .int)) (hlk : meth.locks = false) (hR : 1 ≤ R.frames ∧ 23 ≤ R.locals)   : ∀ (n : Nat) (x2 : Int32) (x3 : Int32) {ls : Array Slot} {H : Heap} {locs : List Loc}, M_viewsOf_l4 I x1 Q n x2 x3 → hW D cA z Ev0 (I, J, T, FM, LM) A s H locs → lv_has ls 4 [(0, .ref (z + 0)), (1, .int x1), (2, .int x2), (3, .int x3)] → W p l e R s m args below meth c H locs 0 0 (MQ below (va_Qi (p0 (I, J, T, FM, LM) Q) (hB D cA z A) A) args s 0 0 A) (F0 m 4 ls []) := by
  have hx := X.1
  have hb := X.2.1
  intro n
  induction n with
  | zero => intro x2 x3 ls H locs h; exact False.elim h
  | succ n ih =>
    intro x2 x3 ls H locs h hw hl
    rw [M_viewsOf_l4] at h
    refine lv_iload_n hx hb dX11_viewsOf_4 rfl (lv_at hl 3 rfl) ?_
    refine lv_aload_n hx hb dX11_viewsOf_5 rfl (lv_at hl 0 rfl) ?_
    refine hm_getr X hw lkM_26 LM_0 (b := 2) rfl dX11_viewsOf_6 ?_
    refine lv_iload_n hx hb dX11_viewsOf_9 rfl (lv_at hl 1 rfl) ?_
    obtain ⟨hi, h⟩ := h
    refine hm_iald X hw LM_2 hi dX11_viewsOf_10 ?_
    refine hm_calli hw (hm_runS (rest := [_]) hCl_true X hw (cM_bits  h) ykM_bits kw1342 rfl hl.1 rfl rfl rfl (Nat.le_of_ble_eq_true rfl) ⟨Nat.le_trans (Nat.le_of_ble_eq_true rfl) hR.1, Nat.le_trans (Nat.le_of_ble_eq_true rfl) hR.2⟩ ⟨Nat.zero_le _, Nat.zero_le _⟩ dX11_viewsOf_11) (fun r1 u2 H locs hp hw => ?_)
    obtain ⟨rfl, h⟩ := hp
    refine lv_icmp_ge (tgt := 37) hx hb dX11_viewsOf_14 (by decide) (fun hc => ?_) (fun hc => ?_)
    · have h := Eq.mp (if_pos hc) h
      refine lv_iconst (v := 0) hx hb dX11_viewsOf_37 (by decide) ?_
      refine lv_istore_n (lv' := [(3, _), (0, _), (1, _), (2, _)]) hx hb dX11_viewsOf_38 rfl hl (by decide) rfl (fun ls hl => ?_)
      obtain ⟨n2, h⟩ := h
      exact wkM_viewsOf_l39 X hr hlk hR   n2 _ _ h hw (lv_sub hl [1, 2, 3, 0] rfl)
    · have h := Eq.mp (if_neg hc) h
      refine lv_iload_n hx hb dX11_viewsOf_17 rfl (lv_at hl 2 rfl) ?_
      refine lv_sipush (v := 1024) hx hb dX11_viewsOf_18 (by decide) ?_
      refine lv_icmp_gt (tgt := 37) hx hb dX11_viewsOf_21 (by decide) (fun hc => ?_) (fun hc => ?_)
      · have h := Eq.mp (if_pos hc) h
        refine lv_iconst (v := 0) hx hb dX11_viewsOf_37 (by decide) ?_
        refine lv_istore_n (lv' := [(3, _), (0, _), (1, _), (2, _)]) hx hb dX11_viewsOf_38 rfl hl (by decide) rfl (fun ls hl => ?_)
        obtain ⟨n2, h⟩ := h
        exact wkM_viewsOf_l39 X hr hlk hR   n2 _ _ h hw (lv_sub hl [1, 2, 3, 0] rfl)
      · have h := Eq.mp (if_neg hc) h
        refine lv_iload_n hx hb dX11_viewsOf_24 rfl (lv_at hl 2 rfl) ?_
        refine lv_aload_n hx hb dX11_viewsOf_25 rfl (lv_at hl 0 rfl) ?_
        refine hm_geti X hw lkM_13 LM_0 dX11_viewsOf_26 ?_
        refine lv_imul hx hb dX11_viewsOf_29 ?_
        refine lv_istore_n (lv' := [(2, _), (0, _), (1, _), (3, _)]) hx hb dX11_viewsOf_30 rfl hl (by decide) rfl (fun ls hl => ?_)
        refine lv_iinc (v := x3 + 1) (lv' := [(3, _), (2, _), (0, _), (1, _)]) hx hb dX11_viewsOf_31 hl (k := 3) rfl rfl (by decide) rfl (fun ls hl => ?_)
        refine lv_goto (tgt := 4) hx hb dX11_viewsOf_34 (by decide) ?_
        exact ih _ _ h hw (lv_sub hl [2, 3, 1, 0] rfl)

theorem cM_viewsOf {l : Launch} {D : va_G} {cA : Nat → ClassId} {z sz : Nat} {I : HI} {J : HJ} {x1 : Int32} {Q : Int32 → Prop}  (h : M_viewsOf I x1 Q) : Met l yX11_viewsOf (hws0 yX11_viewsOf cX11_viewsOf 4 (some .int)) { frames := 1, cells := 0, slots := 0, locals := 23 } (hPc D cA z Ev0 (I, J, T, FM, LM) sz [.ref (z + 0), .int x1]) (va_Qi (p0 (I, J, T, FM, LM) Q) (hB D cA z (hA z LM sz)) (hA z LM sz)) 0 0 (hA z LM sz) := by
  refine hm_met (I, J, T, FM, LM) [.ref (z + 0), .int x1] rfl (by decide) (Nat.le_of_ble_eq_true rfl) ?_
  intro p e s m below meth c ls X hr hlk hnm hxt hsz hw hl
  have hl : lv_has ls 4 [(0, .ref (z + 0)), (1, .int x1)] := hl
  have hR : 1 ≤ ({ frames := 1, cells := 0, slots := 0, locals := 23 } : Room).frames ∧ 23 ≤ ({ frames := 1, cells := 0, slots := 0, locals := 23 } : Room).locals := ⟨Nat.le_refl _, Nat.le_refl _⟩
  generalize ({ frames := 1, cells := 0, slots := 0, locals := 23 } : Room) = R at hR ⊢
  clear hsz
  generalize (hA z LM sz) = A at hw ⊢
  have hx := X.1
  have hb := X.2.1
  unfold M_viewsOf at h
  refine lv_iconst (v := 1) hx hb dX11_viewsOf_0 (by decide) ?_
  refine lv_istore_n (lv' := [(2, _), (0, _), (1, _)]) hx hb dX11_viewsOf_1 rfl hl (by decide) rfl (fun ls hl => ?_)
  refine lv_iconst (v := 0) hx hb dX11_viewsOf_2 (by decide) ?_
  refine lv_istore_n (lv' := [(3, _), (2, _), (0, _), (1, _)]) hx hb dX11_viewsOf_3 rfl hl (by decide) rfl (fun ls hl => ?_)
  obtain ⟨n2, h⟩ := h
  exact wkM_viewsOf_l4 X hr hlk hR   n2 _ _ h hw (lv_sub hl [2, 3, 1, 0] rfl)

theorem wkM_blank_l24 {J : HJ} {x1 : Int32} {Q : HI → Prop} (X : hX p m c s args RX11 cX11_blank 3) (hr : meth.sig.returnType = none) (hlk : meth.locks = false) (hR : 2 ≤ R.frames ∧ 46 ≤ R.locals)   : ∀ (n : Nat) (I : HI) (x2 : Int32) {ls : Array Slot} {H : Heap} {locs : List Loc}, M_blank_l24 x1 Q n I x2 → hW D cA z Ev0 (I, J, T, FM, LM) A s H locs → lv_has ls 3 [(0, .ref (z + 0)), (1, .int x1), (2, .int x2)] → W p l e R s m args below meth c H locs 0 0 (MQ below (va_Qv (pIv J T FM LM Q) (hB D cA z A) A) args s 0 0 A) (F0 m 24 ls []) := by
  have hx := X.1
  have hb := X.2.1
  intro n
  induction n with
  | zero => intro I x2 ls H locs h; exact False.elim h
  | succ n ih =>
    intro I x2 ls H locs h hw hl
    rw [M_blank_l24] at h
    refine lv_iload_n hx hb dX11_blank_24 rfl (lv_at hl 2 rfl) ?_
    refine lv_sipush (v := 1024) hx hb dX11_blank_25 (by decide) ?_
    refine lv_icmp_ge (tgt := 50) hx hb dX11_blank_28 (by decide) (fun hc => ?_) (fun hc => ?_)
    · have h := Eq.mp (if_pos hc) h
      exact hm_vret X hr hlk hw ⟨_, rfl, h⟩ dX11_blank_50
    · have h := Eq.mp (if_neg hc) h
      refine lv_aload_n hx hb dX11_blank_31 rfl (lv_at hl 0 rfl) ?_
      refine hm_getr X hw lkM_35 LM_0 (b := 5) rfl dX11_blank_32 ?_
      refine lv_sipush (v := 1024) hx hb dX11_blank_35 (by decide) ?_
      refine lv_iload_n hx hb dX11_blank_38 rfl (lv_at hl 1 rfl) ?_
      refine lv_imul hx hb dX11_blank_39 ?_
      refine lv_iload_n hx hb dX11_blank_40 rfl (lv_at hl 2 rfl) ?_
      refine lv_iadd hx hb dX11_blank_41 ?_
      refine lv_iconst (v := 0) hx hb dX11_blank_42 (by decide) ?_
      obtain ⟨hi, h⟩ := h
      refine hm_iast X hw LM_5 hi dX11_blank_43 (fun H locs hw => ?_)
      refine lv_iinc (v := x2 + 1) (lv' := [(2, _), (0, _), (1, _)]) hx hb dX11_blank_44 hl (k := 2) rfl rfl (by decide) rfl (fun ls hl => ?_)
      refine lv_goto (tgt := 24) hx hb dX11_blank_47 (by decide) ?_
      exact ih _ _ h hw (lv_sub hl [1, 2, 0] rfl)

theorem cM_blank {l : Launch} {D : va_G} {cA : Nat → ClassId} {z sz : Nat} {I : HI} {J : HJ} {x1 : Int32} {Q : HI → Prop}  (h : M_blank I x1 Q) : Met l yX11_blank (hws0 yX11_blank cX11_blank 3 none) { frames := 2, cells := 0, slots := 0, locals := 46 } (hPc D cA z Ev0 (I, J, T, FM, LM) sz [.ref (z + 0), .int x1]) (va_Qv (pIv J T FM LM Q) (hB D cA z (hA z LM sz)) (hA z LM sz)) 0 0 (hA z LM sz) := by
  refine hm_met (I, J, T, FM, LM) [.ref (z + 0), .int x1] rfl (by decide) (Nat.le_of_ble_eq_true rfl) ?_
  intro p e s m below meth c ls X hr hlk hnm hxt hsz hw hl
  have hl : lv_has ls 3 [(0, .ref (z + 0)), (1, .int x1)] := hl
  have hR : 2 ≤ ({ frames := 2, cells := 0, slots := 0, locals := 46 } : Room).frames ∧ 46 ≤ ({ frames := 2, cells := 0, slots := 0, locals := 46 } : Room).locals := ⟨Nat.le_refl _, Nat.le_refl _⟩
  generalize ({ frames := 2, cells := 0, slots := 0, locals := 46 } : Room) = R at hR ⊢
  clear hsz
  generalize (hA z LM sz) = A at hw ⊢
  have hx := X.1
  have hb := X.2.1
  unfold M_blank at h
  refine lv_aload_n hx hb dX11_blank_0 rfl (lv_at hl 0 rfl) ?_
  refine hm_getr X hw lkM_32 LM_0 (b := 4) rfl dX11_blank_1 ?_
  refine lv_iload_n hx hb dX11_blank_4 rfl (lv_at hl 1 rfl) ?_
  refine lv_aload_n hx hb dX11_blank_5 rfl (lv_at hl 0 rfl) ?_
  refine lv_iload_n hx hb dX11_blank_6 rfl (lv_at hl 1 rfl) ?_
  refine hm_calli hw (hm_runV (rest := [_, _]) hCl_true X hw (cM_viewsOf  h) ykM_viewsOf kw1338 rfl LM_0 rfl hl.1 rfl rfl rfl (Nat.le_of_ble_eq_true rfl) ⟨Nat.le_trans (Nat.le_of_ble_eq_true rfl) hR.1, Nat.le_trans (Nat.le_of_ble_eq_true rfl) hR.2⟩ ⟨Nat.zero_le _, Nat.zero_le _⟩ dX11_blank_7) (fun r1 u2 H locs hp hw => ?_)
  obtain ⟨rfl, h⟩ := hp
  refine lv_sipush (v := 1024) hx hb dX11_blank_10 (by decide) ?_
  refine lv_icmp_le (tgt := 20) hx hb dX11_blank_13 (by decide) (fun hc => ?_) (fun hc => ?_)
  · have h := Eq.mp (if_pos hc) h
    refine lv_iconst (v := 0) hx hb dX11_blank_20 (by decide) ?_
    obtain ⟨hi, h⟩ := h
    refine hm_iast X hw LM_4 hi dX11_blank_21 (fun H locs hw => ?_)
    refine lv_iconst (v := 0) hx hb dX11_blank_22 (by decide) ?_
    refine lv_istore_n (lv' := [(2, _), (0, _), (1, _)]) hx hb dX11_blank_23 rfl hl (by decide) rfl (fun ls hl => ?_)
    obtain ⟨n2, h⟩ := h
    exact wkM_blank_l24 X hr hlk hR   n2 _ _ h hw (lv_sub hl [1, 2, 0] rfl)
  · have h := Eq.mp (if_neg hc) h
    refine lv_iconst (v := 2) hx hb dX11_blank_16 (by decide) ?_
    refine lv_goto (tgt := 21) hx hb dX11_blank_17 (by decide) ?_
    obtain ⟨hi, h⟩ := h
    refine hm_iast X hw LM_4 hi dX11_blank_21 (fun H locs hw => ?_)
    refine lv_iconst (v := 0) hx hb dX11_blank_22 (by decide) ?_
    refine lv_istore_n (lv' := [(2, _), (0, _), (1, _)]) hx hb dX11_blank_23 rfl hl (by decide) rfl (fun ls hl => ?_)
    obtain ⟨n2, h⟩ := h
    exact wkM_blank_l24 X hr hlk hR   n2 _ _ h hw (lv_sub hl [1, 2, 0] rfl)

theorem wkM_anew_l95 {J : HJ} {Q : HI → Prop} (X : hX p m c s args RX11 cX11_anew 4) (hr : meth.sig.returnType = none) (hlk : meth.locks = false) (hR : 3 ≤ R.frames ∧ 68 ≤ R.locals)   : ∀ (n : Nat) (I : HI) (x3 : Int32) {ls : Array Slot} {H : Heap} {locs : List Loc}, M_anew_l95 Q n I x3 → hW D cA z Ev0 (I, J, T, FM, LM) A s H locs → lv_has ls 4 [(0, .ref (z + 0)), (3, .int x3)] → W p l e R s m args below meth c H locs 0 0 (MQ below (va_Qv (pIv J T FM LM Q) (hB D cA z A) A) args s 0 0 A) (F0 m 95 ls []) := by
  have hx := X.1
  have hb := X.2.1
  intro n
  induction n with
  | zero => intro I x3 ls H locs h; exact False.elim h
  | succ n ih =>
    intro I x3 ls H locs h hw hl
    rw [M_anew_l95] at h
    refine lv_iload_n hx hb dX11_anew_95 rfl (lv_at hl 1 rfl) ?_
    refine lv_aload_n hx hb dX11_anew_96 rfl (lv_at hl 0 rfl) ?_
    refine hm_geti X hw lkM_7 LM_0 dX11_anew_97 ?_
    refine lv_icmp_ge (tgt := 114) hx hb dX11_anew_100 (by decide) (fun hc => ?_) (fun hc => ?_)
    · have h := Eq.mp (if_pos hc) h
      refine lv_aload_n hx hb dX11_anew_114 rfl (lv_at hl 0 rfl) ?_
      refine lv_iconst (v := 0) hx hb dX11_anew_115 (by decide) ?_
      refine hm_puti X hw lkM_195 LM_0 rfl rfl dX11_anew_116 (fun H locs hw => ?_)
      exact hm_vret X hr hlk hw ⟨_, rfl, h⟩ dX11_anew_119
    · have h := Eq.mp (if_neg hc) h
      refine lv_aload_n hx hb dX11_anew_103 rfl (lv_at hl 0 rfl) ?_
      refine lv_iload_n hx hb dX11_anew_104 rfl (lv_at hl 1 rfl) ?_
      refine hm_callv hw (hm_runV (rest := []) hCl_true X hw (cM_blank  h) ykM_blank kw1334 rfl LM_0 rfl hl.1 rfl rfl rfl (Nat.le_of_ble_eq_true rfl) ⟨Nat.le_trans (Nat.le_of_ble_eq_true rfl) hR.1, Nat.le_trans (Nat.le_of_ble_eq_true rfl) hR.2⟩ ⟨Nat.zero_le _, Nat.zero_le _⟩ dX11_anew_105) (fun u2 H locs hp hw => ?_)
      obtain ⟨I1, rfl, h⟩ := hp
      refine lv_iinc (v := x3 + 1) (lv' := [(3, _), (0, _)]) hx hb dX11_anew_108 hl (k := 1) rfl rfl (by decide) rfl (fun ls hl => ?_)
      refine lv_goto (tgt := 95) hx hb dX11_anew_111 (by decide) ?_
      exact ih _ _ h hw (lv_sub hl [1, 0] rfl)

theorem wkM_anew_l46 {J : HJ} {Q : HI → Prop} (X : hX p m c s args RX11 cX11_anew 4) (hr : meth.sig.returnType = none) (hlk : meth.locks = false) (hR : 3 ≤ R.frames ∧ 68 ≤ R.locals)   : ∀ (n : Nat) (I : HI) (x3 : Int32) {ls : Array Slot} {H : Heap} {locs : List Loc}, M_anew_l46 Q n I x3 → hW D cA z Ev0 (I, J, T, FM, LM) A s H locs → lv_has ls 4 [(0, .ref (z + 0)), (3, .int x3)] → W p l e R s m args below meth c H locs 0 0 (MQ below (va_Qv (pIv J T FM LM Q) (hB D cA z A) A) args s 0 0 A) (F0 m 46 ls []) := by
  have hx := X.1
  have hb := X.2.1
  intro n
  induction n with
  | zero => intro I x3 ls H locs h; exact False.elim h
  | succ n ih =>
    intro I x3 ls H locs h hw hl
    rw [M_anew_l46] at h
    refine lv_iload_n hx hb dX11_anew_46 rfl (lv_at hl 1 rfl) ?_
    refine lv_bipush (v := 8) hx hb dX11_anew_47 (by decide) ?_
    refine lv_icmp_ge (tgt := 93) hx hb dX11_anew_49 (by decide) (fun hc => ?_) (fun hc => ?_)
    · have h := Eq.mp (if_pos hc) h
      refine lv_iconst (v := 0) hx hb dX11_anew_93 (by decide) ?_
      refine lv_istore_n (lv' := [(3, _), (0, _)]) hx hb dX11_anew_94 rfl hl (by decide) rfl (fun ls hl => ?_)
      obtain ⟨n2, h⟩ := h
      exact wkM_anew_l95 X hr hlk hR   n2 _ _ h hw (lv_sub hl [1, 0] rfl)
    · have h := Eq.mp (if_neg hc) h
      refine lv_aload_n hx hb dX11_anew_52 rfl (lv_at hl 0 rfl) ?_
      refine hm_getr X hw lkM_29 LM_0 (b := 3) rfl dX11_anew_53 ?_
      refine lv_iload_n hx hb dX11_anew_56 rfl (lv_at hl 1 rfl) ?_
      refine lv_iconst (v := 0) hx hb dX11_anew_57 (by decide) ?_
      obtain ⟨hi, h⟩ := h
      refine hm_iast X hw LM_3 hi dX11_anew_58 (fun H locs hw => ?_)
      refine lv_aload_n hx hb dX11_anew_59 rfl (lv_at hl 0 rfl) ?_
      refine hm_getr X hw lkM_26 LM_0 (b := 2) rfl dX11_anew_60 ?_
      refine lv_iload_n hx hb dX11_anew_63 rfl (lv_at hl 1 rfl) ?_
      refine lv_iload_n hx hb dX11_anew_64 rfl (lv_at hl 1 rfl) ?_
      refine lv_aload_n hx hb dX11_anew_65 rfl (lv_at hl 0 rfl) ?_
      refine hm_geti X hw lkM_7 LM_0 dX11_anew_66 ?_
      refine lv_icmp_ge (tgt := 85) hx hb dX11_anew_69 (by decide) (fun hc => ?_) (fun hc => ?_)
      · have h := Eq.mp (if_pos hc) h
        refine lv_iconst (v := 0) hx hb dX11_anew_85 (by decide) ?_
        obtain ⟨hi, h⟩ := h
        refine hm_iast X hw LM_2 hi dX11_anew_86 (fun H locs hw => ?_)
        refine lv_iinc (v := x3 + 1) (lv' := [(3, _), (0, _)]) hx hb dX11_anew_87 hl (k := 1) rfl rfl (by decide) rfl (fun ls hl => ?_)
        refine lv_goto (tgt := 46) hx hb dX11_anew_90 (by decide) ?_
        exact ih _ _ h hw (lv_sub hl [1, 0] rfl)
      · have h := Eq.mp (if_neg hc) h
        refine lv_aload_n hx hb dX11_anew_72 rfl (lv_at hl 0 rfl) ?_
        refine hm_calli hw (hm_runV (rest := [_, _]) hCl_true X hw (cM_all  h) ykM_all kw1330 rfl LM_0 rfl hl.1 rfl rfl rfl (Nat.le_of_ble_eq_true rfl) ⟨Nat.le_trans (Nat.le_of_ble_eq_true rfl) hR.1, Nat.le_trans (Nat.le_of_ble_eq_true rfl) hR.2⟩ ⟨Nat.zero_le _, Nat.zero_le _⟩ dX11_anew_73) (fun r3 u4 H locs hp hw => ?_)
        obtain ⟨rfl, h⟩ := hp
        refine lv_iconst (v := 1) hx hb dX11_anew_76 (by decide) ?_
        refine lv_iload_n hx hb dX11_anew_77 rfl (lv_at hl 1 rfl) ?_
        refine lv_ishl hx hb dX11_anew_78 ?_
        refine lv_iconst (v := (-1)) hx hb dX11_anew_79 (by decide) ?_
        refine lv_ixor hx hb dX11_anew_80 ?_
        refine lv_iand hx hb dX11_anew_81 ?_
        refine lv_goto (tgt := 86) hx hb dX11_anew_82 (by decide) ?_
        obtain ⟨hi, h⟩ := h
        refine hm_iast X hw LM_2 hi dX11_anew_86 (fun H locs hw => ?_)
        refine lv_iinc (v := x3 + 1) (lv' := [(3, _), (0, _)]) hx hb dX11_anew_87 hl (k := 1) rfl rfl (by decide) rfl (fun ls hl => ?_)
        refine lv_goto (tgt := 46) hx hb dX11_anew_90 (by decide) ?_
        exact ih _ _ h hw (lv_sub hl [1, 0] rfl)

theorem wkM_anew_l17 {J : HJ} {Q : HI → Prop} (X : hX p m c s args RX11 cX11_anew 4) (hr : meth.sig.returnType = none) (hlk : meth.locks = false) (hR : 3 ≤ R.frames ∧ 68 ≤ R.locals)   : ∀ (n : Nat) (I : HI) (x3 : Int32) {ls : Array Slot} {H : Heap} {locs : List Loc}, M_anew_l17 Q n I x3 → hW D cA z Ev0 (I, J, T, FM, LM) A s H locs → lv_has ls 4 [(0, .ref (z + 0)), (3, .int x3)] → W p l e R s m args below meth c H locs 0 0 (MQ below (va_Qv (pIv J T FM LM Q) (hB D cA z A) A) args s 0 0 A) (F0 m 17 ls []) := by
  have hx := X.1
  have hb := X.2.1
  intro n
  induction n with
  | zero => intro I x3 ls H locs h; exact False.elim h
  | succ n ih =>
    intro I x3 ls H locs h hw hl
    rw [M_anew_l17] at h
    refine lv_iload_n hx hb dX11_anew_17 rfl (lv_at hl 1 rfl) ?_
    refine lv_aload_n hx hb dX11_anew_18 rfl (lv_at hl 0 rfl) ?_
    refine hm_geti X hw lkM_7 LM_0 dX11_anew_19 ?_
    refine lv_icmp_ge (tgt := 44) hx hb dX11_anew_22 (by decide) (fun hc => ?_) (fun hc => ?_)
    · have h := Eq.mp (if_pos hc) h
      refine lv_iconst (v := 0) hx hb dX11_anew_44 (by decide) ?_
      refine lv_istore_n (lv' := [(3, _), (0, _)]) hx hb dX11_anew_45 rfl hl (by decide) rfl (fun ls hl => ?_)
      obtain ⟨n2, h⟩ := h
      exact wkM_anew_l46 X hr hlk hR   n2 _ _ h hw (lv_sub hl [1, 0] rfl)
    · have h := Eq.mp (if_neg hc) h
      refine lv_aload_n hx hb dX11_anew_25 rfl (lv_at hl 0 rfl) ?_
      refine lv_dup hx hb dX11_anew_26 rfl ?_
      refine hm_geti X hw lkM_16 LM_0 dX11_anew_27 ?_
      refine lv_aload_n hx hb dX11_anew_30 rfl (lv_at hl 0 rfl) ?_
      refine hm_geti X hw lkM_13 LM_0 dX11_anew_31 ?_
      refine lv_imul hx hb dX11_anew_34 ?_
      refine hm_puti X hw lkM_16 LM_0 rfl rfl dX11_anew_35 (fun H locs hw => ?_)
      refine lv_iinc (v := x3 + 1) (lv' := [(3, _), (0, _)]) hx hb dX11_anew_38 hl (k := 1) rfl rfl (by decide) rfl (fun ls hl => ?_)
      refine lv_goto (tgt := 17) hx hb dX11_anew_41 (by decide) ?_
      exact ih _ _ h hw (lv_sub hl [1, 0] rfl)

theorem cM_anew {l : Launch} {D : va_G} {cA : Nat → ClassId} {z sz : Nat} {I : HI} {J : HJ} {x1 : Int32} {x2 : Int32} {Q : HI → Prop}  (h : M_anew I x1 x2 Q) : Met l yX11_anew (hws0 yX11_anew cX11_anew 4 none) { frames := 3, cells := 0, slots := 0, locals := 68 } (hPc D cA z Ev0 (I, J, T, FM, LM) sz [.ref (z + 0), .int x1, .int x2]) (va_Qv (pIv J T FM LM Q) (hB D cA z (hA z LM sz)) (hA z LM sz)) 0 0 (hA z LM sz) := by
  refine hm_met (I, J, T, FM, LM) [.ref (z + 0), .int x1, .int x2] rfl (by decide) (Nat.le_of_ble_eq_true rfl) ?_
  intro p e s m below meth c ls X hr hlk hnm hxt hsz hw hl
  have hl : lv_has ls 4 [(0, .ref (z + 0)), (1, .int x1), (2, .int x2)] := hl
  have hR : 3 ≤ ({ frames := 3, cells := 0, slots := 0, locals := 68 } : Room).frames ∧ 68 ≤ ({ frames := 3, cells := 0, slots := 0, locals := 68 } : Room).locals := ⟨Nat.le_refl _, Nat.le_refl _⟩
  generalize ({ frames := 3, cells := 0, slots := 0, locals := 68 } : Room) = R at hR ⊢
  clear hsz
  generalize (hA z LM sz) = A at hw ⊢
  have hx := X.1
  have hb := X.2.1
  unfold M_anew at h
  refine lv_aload_n hx hb dX11_anew_0 rfl (lv_at hl 0 rfl) ?_
  refine lv_iload_n hx hb dX11_anew_1 rfl (lv_at hl 1 rfl) ?_
  refine hm_puti X hw lkM_7 LM_0 rfl rfl dX11_anew_2 (fun H locs hw => ?_)
  refine lv_aload_n hx hb dX11_anew_5 rfl (lv_at hl 0 rfl) ?_
  refine lv_iload_n hx hb dX11_anew_6 rfl (lv_at hl 2 rfl) ?_
  refine hm_puti X hw lkM_13 LM_0 rfl rfl dX11_anew_7 (fun H locs hw => ?_)
  refine lv_aload_n hx hb dX11_anew_10 rfl (lv_at hl 0 rfl) ?_
  refine lv_iconst (v := 1) hx hb dX11_anew_11 (by decide) ?_
  refine hm_puti X hw lkM_16 LM_0 rfl rfl dX11_anew_12 (fun H locs hw => ?_)
  refine lv_iconst (v := 0) hx hb dX11_anew_15 (by decide) ?_
  refine lv_istore_n (lv' := [(3, _), (0, _), (1, _), (2, _)]) hx hb dX11_anew_16 rfl hl (by decide) rfl (fun ls hl => ?_)
  obtain ⟨n2, h⟩ := h
  exact wkM_anew_l17 X hr hlk hR   n2 _ _ h hw (lv_sub hl [1, 0] rfl)

theorem wkM_hall_l31 {I : HI} {J : HJ} {x1 : Int32} {x2 : Int32} {Q : Int32 → HI → Prop} (X : hX p m c s args RX11 cX11_hall 5) (hr : meth.sig.returnType = (some .boolean)) (hlk : meth.locks = false) (hR : 4 ≤ R.frames ∧ 91 ≤ R.locals)   : ∀ (n : Nat) (x3 : Int32) (x4 : Int32) {ls : Array Slot} {H : Heap} {locs : List Loc}, M_hall_l31 I x1 x2 Q n x3 x4 → hW D cA z Ev0 (I, J, T, FM, LM) A s H locs → lv_has ls 5 [(0, .ref (z + 0)), (1, .int x1), (2, .int x2), (3, .int x3), (4, .int x4)] → W p l e R s m args below meth c H locs 0 0 (MQ below (va_Qi (pI J T FM LM Q) (hB D cA z A) A) args s 0 0 A) (F0 m 31 ls []) := by
  have hx := X.1
  have hb := X.2.1
  intro n
  induction n with
  | zero => intro x3 x4 ls H locs h; exact False.elim h
  | succ n ih =>
    intro x3 x4 ls H locs h hw hl
    rw [M_hall_l31] at h
    refine lv_iload hx hb dX11_hall_31 (lv_at hl 4 rfl) ?_
    refine lv_iload_n hx hb dX11_hall_33 rfl (lv_at hl 1 rfl) ?_
    refine lv_icmp_ge (tgt := 47) hx hb dX11_hall_34 (by decide) (fun hc => ?_) (fun hc => ?_)
    · have h := Eq.mp (if_pos hc) h
      refine lv_iload_n hx hb dX11_hall_47 rfl (lv_at hl 3 rfl) ?_
      refine lv_sipush (v := 6561) hx hb dX11_hall_48 (by decide) ?_
      refine lv_icmp_le (tgt := 56) hx hb dX11_hall_51 (by decide) (fun hc => ?_) (fun hc => ?_)
      · have h := Eq.mp (if_pos hc) h
        refine lv_aload_n hx hb dX11_hall_56 rfl (lv_at hl 0 rfl) ?_
        refine lv_iload_n hx hb dX11_hall_57 rfl (lv_at hl 1 rfl) ?_
        refine lv_iload_n hx hb dX11_hall_58 rfl (lv_at hl 2 rfl) ?_
        refine hm_callv hw (hm_runV (rest := []) hCl_true X hw (cM_anew  h) ykM_anew kw1326 rfl LM_0 rfl hl.1 rfl rfl rfl (Nat.le_of_ble_eq_true rfl) ⟨Nat.le_trans (Nat.le_of_ble_eq_true rfl) hR.1, Nat.le_trans (Nat.le_of_ble_eq_true rfl) hR.2⟩ ⟨Nat.zero_le _, Nat.zero_le _⟩ dX11_hall_59) (fun u6 H locs hp hw => ?_)
        obtain ⟨I5, rfl, h⟩ := hp
        refine lv_iconst (v := 1) hx hb dX11_hall_62 (by decide) ?_
        exact hm_zret X hr hlk hw zb_1 ⟨_, rfl, h⟩ dX11_hall_63
      · have h := Eq.mp (if_neg hc) h
        refine lv_iconst (v := 0) hx hb dX11_hall_54 (by decide) ?_
        exact hm_zret X hr hlk hw zb_0 ⟨_, rfl, h⟩ dX11_hall_55
    · have h := Eq.mp (if_neg hc) h
      refine lv_iload_n hx hb dX11_hall_37 rfl (lv_at hl 3 rfl) ?_
      refine lv_iload_n hx hb dX11_hall_38 rfl (lv_at hl 2 rfl) ?_
      refine lv_imul hx hb dX11_hall_39 ?_
      refine lv_istore_n (lv' := [(3, _), (0, _), (1, _), (2, _), (4, _)]) hx hb dX11_hall_40 rfl hl (by decide) rfl (fun ls hl => ?_)
      refine lv_iinc (v := x4 + 1) (lv' := [(4, _), (3, _), (0, _), (1, _), (2, _)]) hx hb dX11_hall_41 hl (k := 4) rfl rfl (by decide) rfl (fun ls hl => ?_)
      refine lv_goto (tgt := 31) hx hb dX11_hall_44 (by decide) ?_
      exact ih _ _ h hw (lv_sub hl [2, 3, 4, 1, 0] rfl)

theorem cM_hall {l : Launch} {D : va_G} {cA : Nat → ClassId} {z sz : Nat} {I : HI} {J : HJ} {x1 : Int32} {x2 : Int32} {Q : Int32 → HI → Prop}  (h : M_hall I x1 x2 Q) : Met l yX11_hall (hws0 yX11_hall cX11_hall 5 (some .boolean)) { frames := 4, cells := 0, slots := 0, locals := 91 } (hPc D cA z Ev0 (I, J, T, FM, LM) sz [.ref (z + 0), .int x1, .int x2]) (va_Qi (pI J T FM LM Q) (hB D cA z (hA z LM sz)) (hA z LM sz)) 0 0 (hA z LM sz) := by
  refine hm_met (I, J, T, FM, LM) [.ref (z + 0), .int x1, .int x2] rfl (by decide) (Nat.le_of_ble_eq_true rfl) ?_
  intro p e s m below meth c ls X hr hlk hnm hxt hsz hw hl
  have hl : lv_has ls 5 [(0, .ref (z + 0)), (1, .int x1), (2, .int x2)] := hl
  have hR : 4 ≤ ({ frames := 4, cells := 0, slots := 0, locals := 91 } : Room).frames ∧ 91 ≤ ({ frames := 4, cells := 0, slots := 0, locals := 91 } : Room).locals := ⟨Nat.le_refl _, Nat.le_refl _⟩
  generalize ({ frames := 4, cells := 0, slots := 0, locals := 91 } : Room) = R at hR ⊢
  clear hsz
  generalize (hA z LM sz) = A at hw ⊢
  have hx := X.1
  have hb := X.2.1
  unfold M_hall at h
  refine lv_aload_n hx hb dX11_hall_0 rfl (lv_at hl 0 rfl) ?_
  refine lv_iconst (v := 0) hx hb dX11_hall_1 (by decide) ?_
  refine hm_puti X hw lkM_174 LM_0 rfl rfl dX11_hall_2 (fun H locs hw => ?_)
  refine lv_iload_n hx hb dX11_hall_5 rfl (lv_at hl 1 rfl) ?_
  refine lv_iconst (v := 1) hx hb dX11_hall_6 (by decide) ?_
  refine lv_bipush (v := 8) hx hb dX11_hall_7 (by decide) ?_
  refine hm_calli hw (hm_runS (rest := []) hCl_true X hw (cM_within  h) ykM_within kw1583 rfl hl.1 rfl rfl rfl (Nat.le_of_ble_eq_true rfl) ⟨Nat.le_trans (Nat.le_of_ble_eq_true rfl) hR.1, Nat.le_trans (Nat.le_of_ble_eq_true rfl) hR.2⟩ ⟨Nat.zero_le _, Nat.zero_le _⟩ dX11_hall_9) (fun r1 u2 H locs hp hw => ?_)
  obtain ⟨rfl, h⟩ := hp
  refine lv_if_eq (tgt := 24) hx hb dX11_hall_12 (by decide) (fun hc => ?_) (fun hc => ?_)
  · have h := Eq.mp (if_pos hc) h
    refine lv_iconst (v := 0) hx hb dX11_hall_24 (by decide) ?_
    exact hm_zret X hr hlk hw zb_0 ⟨_, rfl, h⟩ dX11_hall_25
  · have h := Eq.mp (if_neg hc) h
    refine lv_iload_n hx hb dX11_hall_15 rfl (lv_at hl 2 rfl) ?_
    refine lv_iconst (v := 2) hx hb dX11_hall_16 (by decide) ?_
    refine lv_iconst (v := 4) hx hb dX11_hall_17 (by decide) ?_
    refine hm_calli hw (hm_runS (rest := []) hCl_true X hw (cM_within  h) ykM_within kw1583 rfl hl.1 rfl rfl rfl (Nat.le_of_ble_eq_true rfl) ⟨Nat.le_trans (Nat.le_of_ble_eq_true rfl) hR.1, Nat.le_trans (Nat.le_of_ble_eq_true rfl) hR.2⟩ ⟨Nat.zero_le _, Nat.zero_le _⟩ dX11_hall_18) (fun r3 u4 H locs hp hw => ?_)
    obtain ⟨rfl, h⟩ := hp
    refine lv_if_ne (tgt := 26) hx hb dX11_hall_21 (by decide) (fun hc => ?_) (fun hc => ?_)
    · have h := Eq.mp (if_neg hc) h
      refine lv_iconst (v := 1) hx hb dX11_hall_26 (by decide) ?_
      refine lv_istore_n (lv' := [(3, _), (0, _), (1, _), (2, _)]) hx hb dX11_hall_27 rfl hl (by decide) rfl (fun ls hl => ?_)
      refine lv_iconst (v := 0) hx hb dX11_hall_28 (by decide) ?_
      refine lv_istore (lv' := [(4, _), (3, _), (0, _), (1, _), (2, _)]) hx hb dX11_hall_29 hl (by decide) rfl (fun ls hl => ?_)
      obtain ⟨n2, h⟩ := h
      exact wkM_hall_l31 X hr hlk hR   n2 _ _ h hw (lv_sub hl [2, 3, 4, 1, 0] rfl)
    · have h := Eq.mp (if_pos hc) h
      refine lv_iconst (v := 0) hx hb dX11_hall_24 (by decide) ?_
      exact hm_zret X hr hlk hw zb_0 ⟨_, rfl, h⟩ dX11_hall_25

theorem cM_isWearer {l : Launch} {D : va_G} {cA : Nat → ClassId} {z sz : Nat} {I : HI} {J : HJ} {x1 : Int32} {Q : Int32 → HI → Prop}  (h : M_isWearer I x1 Q) : Met l yX11_isWearer (hws0 yX11_isWearer cX11_isWearer 2 (some .boolean)) { frames := 1, cells := 0, slots := 0, locals := 22 } (hPc D cA z Ev0 (I, J, T, FM, LM) sz [.ref (z + 0), .int x1]) (va_Qi (pI J T FM LM Q) (hB D cA z (hA z LM sz)) (hA z LM sz)) 0 0 (hA z LM sz) := by
  refine hm_met (I, J, T, FM, LM) [.ref (z + 0), .int x1] rfl (by decide) (Nat.le_of_ble_eq_true rfl) ?_
  intro p e s m below meth c ls X hr hlk hnm hxt hsz hw hl
  have hl : lv_has ls 2 [(0, .ref (z + 0)), (1, .int x1)] := hl
  have hR : 1 ≤ ({ frames := 1, cells := 0, slots := 0, locals := 22 } : Room).frames ∧ 22 ≤ ({ frames := 1, cells := 0, slots := 0, locals := 22 } : Room).locals := ⟨Nat.le_refl _, Nat.le_refl _⟩
  generalize ({ frames := 1, cells := 0, slots := 0, locals := 22 } : Room) = R at hR ⊢
  clear hsz
  generalize (hA z LM sz) = A at hw ⊢
  have hx := X.1
  have hb := X.2.1
  unfold M_isWearer at h
  refine lv_aload_n hx hb dX11_isWearer_0 rfl (lv_at hl 0 rfl) ?_
  refine lv_iconst (v := 0) hx hb dX11_isWearer_1 (by decide) ?_
  refine hm_puti X hw lkM_174 LM_0 rfl rfl dX11_isWearer_2 (fun H locs hw => ?_)
  refine lv_aload_n hx hb dX11_isWearer_5 rfl (lv_at hl 0 rfl) ?_
  refine lv_iload_n hx hb dX11_isWearer_6 rfl (lv_at hl 1 rfl) ?_
  refine lv_if_lt (tgt := 22) hx hb dX11_isWearer_7 (by decide) (fun hc => ?_) (fun hc => ?_)
  · have h := Eq.mp (if_pos hc) h
    refine lv_iconst (v := 0) hx hb dX11_isWearer_22 (by decide) ?_
    refine lv_iconst (v := 1) hx hb dX11_isWearer_23 (by decide) ?_
    refine hm_calli hw (hm_runV (rest := []) hCl_true X hw (cM_right  h) ykM_right kw1594 rfl LM_0 rfl hl.1 rfl rfl rfl (Nat.le_of_ble_eq_true rfl) ⟨Nat.le_trans (Nat.le_of_ble_eq_true rfl) hR.1, Nat.le_trans (Nat.le_of_ble_eq_true rfl) hR.2⟩ ⟨Nat.zero_le _, Nat.zero_le _⟩ dX11_isWearer_24) (fun r1 u3 H locs hp hw => ?_)
    obtain ⟨I2, rfl, h⟩ := hp
    obtain ⟨hz, h⟩ := h
    exact hm_zret X hr hlk hw hz ⟨_, rfl, h⟩ dX11_isWearer_27
  · have h := Eq.mp (if_neg hc) h
    refine lv_iload_n hx hb dX11_isWearer_10 rfl (lv_at hl 1 rfl) ?_
    refine lv_aload_n hx hb dX11_isWearer_11 rfl (lv_at hl 0 rfl) ?_
    refine hm_geti X hw lkM_7 LM_0 dX11_isWearer_12 ?_
    refine lv_icmp_ge (tgt := 22) hx hb dX11_isWearer_15 (by decide) (fun hc => ?_) (fun hc => ?_)
    · have h := Eq.mp (if_pos hc) h
      refine lv_iconst (v := 0) hx hb dX11_isWearer_22 (by decide) ?_
      refine lv_iconst (v := 1) hx hb dX11_isWearer_23 (by decide) ?_
      refine hm_calli hw (hm_runV (rest := []) hCl_true X hw (cM_right  h) ykM_right kw1594 rfl LM_0 rfl hl.1 rfl rfl rfl (Nat.le_of_ble_eq_true rfl) ⟨Nat.le_trans (Nat.le_of_ble_eq_true rfl) hR.1, Nat.le_trans (Nat.le_of_ble_eq_true rfl) hR.2⟩ ⟨Nat.zero_le _, Nat.zero_le _⟩ dX11_isWearer_24) (fun r4 u6 H locs hp hw => ?_)
      obtain ⟨I5, rfl, h⟩ := hp
      obtain ⟨hz, h⟩ := h
      exact hm_zret X hr hlk hw hz ⟨_, rfl, h⟩ dX11_isWearer_27
    · have h := Eq.mp (if_neg hc) h
      refine lv_iconst (v := 1) hx hb dX11_isWearer_18 (by decide) ?_
      refine lv_goto (tgt := 23) hx hb dX11_isWearer_19 (by decide) ?_
      refine lv_iconst (v := 1) hx hb dX11_isWearer_23 (by decide) ?_
      refine hm_calli hw (hm_runV (rest := []) hCl_true X hw (cM_right  h) ykM_right kw1594 rfl LM_0 rfl hl.1 rfl rfl rfl (Nat.le_of_ble_eq_true rfl) ⟨Nat.le_trans (Nat.le_of_ble_eq_true rfl) hR.1, Nat.le_trans (Nat.le_of_ble_eq_true rfl) hR.2⟩ ⟨Nat.zero_le _, Nat.zero_le _⟩ dX11_isWearer_24) (fun r7 u9 H locs hp hw => ?_)
      obtain ⟨I8, rfl, h⟩ := hp
      obtain ⟨hz, h⟩ := h
      exact hm_zret X hr hlk hw hz ⟨_, rfl, h⟩ dX11_isWearer_27

theorem wkM_looks_b44 {I : HI} {J : HJ} {x1 : Int32} {x2 : Int32} {t0 : Int32} {Q : Int32 → HI → Prop} (X : hX p m c s args RX11 cX11_looks 4) (hr : meth.sig.returnType = (some .boolean)) (hlk : meth.locks = false) (hR : 3 ≤ R.frames ∧ 68 ≤ R.locals)   : ∀ {ls : Array Slot} {H : Heap} {locs : List Loc}, M_looks_b44 I x1 x2 t0 Q → hW D cA z Ev0 (I, J, T, FM, LM) A s H locs → lv_has ls 4 [(0, .ref (z + 0)), (1, .int x1), (2, .int x2)] → W p l e R s m args below meth c H locs 0 0 (MQ below (va_Qi (pI J T FM LM Q) (hB D cA z A) A) args s 0 0 A) (F0 m 44 ls [.int t0]) := by
  have hx := X.1
  have hb := X.2.1
  intro ls H locs h hw hl
  unfold M_looks_b44 at h
  refine lv_istore_n (lv' := [(3, _), (0, _), (1, _), (2, _)]) hx hb dX11_looks_44 rfl hl (by decide) rfl (fun ls hl => ?_)
  refine lv_aload_n hx hb dX11_looks_45 rfl (lv_at hl 1 rfl) ?_
  refine hm_getr X hw lkM_26 LM_0 (b := 2) rfl dX11_looks_46 ?_
  refine lv_iload_n hx hb dX11_looks_49 rfl (lv_at hl 2 rfl) ?_
  refine lv_iload_n hx hb dX11_looks_50 rfl (lv_at hl 3 rfl) ?_
  obtain ⟨hi, h⟩ := h
  refine hm_iast X hw LM_2 hi dX11_looks_51 (fun H locs hw => ?_)
  refine lv_iload_n hx hb dX11_looks_52 rfl (lv_at hl 0 rfl) ?_
  refine lv_if_eq (tgt := 71) hx hb dX11_looks_53 (by decide) (fun hc => ?_) (fun hc => ?_)
  · have h := Eq.mp (if_pos hc) h
    refine lv_aload_n hx hb dX11_looks_71 rfl (lv_at hl 1 rfl) ?_
    refine lv_iconst (v := 0) hx hb dX11_looks_72 (by decide) ?_
    refine hm_puti X hw lkM_195 LM_0 rfl rfl dX11_looks_73 (fun H locs hw => ?_)
    refine lv_iconst (v := 1) hx hb dX11_looks_76 (by decide) ?_
    exact hm_zret X hr hlk hw zb_1 ⟨_, rfl, h⟩ dX11_looks_77
  · have h := Eq.mp (if_neg hc) h
    refine lv_aload_n hx hb dX11_looks_56 rfl (lv_at hl 1 rfl) ?_
    refine hm_getr X hw lkM_32 LM_0 (b := 4) rfl dX11_looks_57 ?_
    refine lv_iload_n hx hb dX11_looks_60 rfl (lv_at hl 2 rfl) ?_
    obtain ⟨hi, h⟩ := h
    refine hm_iald X hw LM_4 hi dX11_looks_61 ?_
    refine lv_iconst (v := 1) hx hb dX11_looks_62 (by decide) ?_
    refine lv_icmp_eq (tgt := 71) hx hb dX11_looks_63 (by decide) (fun hc => ?_) (fun hc => ?_)
    · have h := Eq.mp (if_pos hc) h
      refine lv_aload_n hx hb dX11_looks_71 rfl (lv_at hl 1 rfl) ?_
      refine lv_iconst (v := 0) hx hb dX11_looks_72 (by decide) ?_
      refine hm_puti X hw lkM_195 LM_0 rfl rfl dX11_looks_73 (fun H locs hw => ?_)
      refine lv_iconst (v := 1) hx hb dX11_looks_76 (by decide) ?_
      exact hm_zret X hr hlk hw zb_1 ⟨_, rfl, h⟩ dX11_looks_77
    · have h := Eq.mp (if_neg hc) h
      refine lv_aload_n hx hb dX11_looks_66 rfl (lv_at hl 1 rfl) ?_
      refine lv_iload_n hx hb dX11_looks_67 rfl (lv_at hl 2 rfl) ?_
      refine hm_callv hw (hm_runV (rest := []) hCl_true X hw (cM_blank  h) ykM_blank kw1334 rfl LM_0 rfl hl.1 rfl rfl rfl (Nat.le_of_ble_eq_true rfl) ⟨Nat.le_trans (Nat.le_of_ble_eq_true rfl) hR.1, Nat.le_trans (Nat.le_of_ble_eq_true rfl) hR.2⟩ ⟨Nat.zero_le _, Nat.zero_le _⟩ dX11_looks_68) (fun u7 H locs hp hw => ?_)
      obtain ⟨I6, rfl, h⟩ := hp
      refine lv_aload_n hx hb dX11_looks_71 rfl (lv_at hl 1 rfl) ?_
      refine lv_iconst (v := 0) hx hb dX11_looks_72 (by decide) ?_
      refine hm_puti X hw lkM_195 LM_0 rfl rfl dX11_looks_73 (fun H locs hw => ?_)
      refine lv_iconst (v := 1) hx hb dX11_looks_76 (by decide) ?_
      exact hm_zret X hr hlk hw zb_1 ⟨_, rfl, h⟩ dX11_looks_77

theorem cM_looks {l : Launch} {D : va_G} {cA : Nat → ClassId} {z sz : Nat} {I : HI} {J : HJ} {x1 : Int32} {x2 : Int32} {Q : Int32 → HI → Prop}  (h : M_looks I x1 x2 Q) : Met l yX11_looks (hws0 yX11_looks cX11_looks 4 (some .boolean)) { frames := 3, cells := 0, slots := 0, locals := 68 } (hPc D cA z Ev0 (I, J, T, FM, LM) sz [.ref (z + 0), .int x1, .int x2]) (va_Qi (pI J T FM LM Q) (hB D cA z (hA z LM sz)) (hA z LM sz)) 0 0 (hA z LM sz) := by
  refine hm_met (I, J, T, FM, LM) [.ref (z + 0), .int x1, .int x2] rfl (by decide) (Nat.le_of_ble_eq_true rfl) ?_
  intro p e s m below meth c ls X hr hlk hnm hxt hsz hw hl
  have hl : lv_has ls 4 [(0, .ref (z + 0)), (1, .int x1), (2, .int x2)] := hl
  have hR : 3 ≤ ({ frames := 3, cells := 0, slots := 0, locals := 68 } : Room).frames ∧ 68 ≤ ({ frames := 3, cells := 0, slots := 0, locals := 68 } : Room).locals := ⟨Nat.le_refl _, Nat.le_refl _⟩
  generalize ({ frames := 3, cells := 0, slots := 0, locals := 68 } : Room) = R at hR ⊢
  clear hsz
  generalize (hA z LM sz) = A at hw ⊢
  have hx := X.1
  have hb := X.2.1
  unfold M_looks at h
  refine lv_aload_n hx hb dX11_looks_0 rfl (lv_at hl 0 rfl) ?_
  refine lv_iload_n hx hb dX11_looks_1 rfl (lv_at hl 1 rfl) ?_
  refine hm_calli hw (hm_runV (rest := []) hCl_true X hw (cM_isWearer  h) ykM_isWearer kw1590 rfl LM_0 rfl hl.1 rfl rfl rfl (Nat.le_of_ble_eq_true rfl) ⟨Nat.le_trans (Nat.le_of_ble_eq_true rfl) hR.1, Nat.le_trans (Nat.le_of_ble_eq_true rfl) hR.2⟩ ⟨Nat.zero_le _, Nat.zero_le _⟩ dX11_looks_2) (fun r1 u3 H locs hp hw => ?_)
  obtain ⟨I2, rfl, h⟩ := hp
  refine lv_if_ne (tgt := 10) hx hb dX11_looks_5 (by decide) (fun hc => ?_) (fun hc => ?_)
  · have h := Eq.mp (if_neg hc) h
    refine lv_iload_n hx hb dX11_looks_10 rfl (lv_at hl 2 rfl) ?_
    refine lv_aload_n hx hb dX11_looks_11 rfl (lv_at hl 0 rfl) ?_
    refine hm_calli hw (hm_runV (rest := [_]) hCl_true X hw (cM_all  h) ykM_all kw1330 rfl LM_0 rfl hl.1 rfl rfl rfl (Nat.le_of_ble_eq_true rfl) ⟨Nat.le_trans (Nat.le_of_ble_eq_true rfl) hR.1, Nat.le_trans (Nat.le_of_ble_eq_true rfl) hR.2⟩ ⟨Nat.zero_le _, Nat.zero_le _⟩ dX11_looks_12) (fun r4 u5 H locs hp hw => ?_)
    obtain ⟨rfl, h⟩ := hp
    refine lv_iconst (v := 1) hx hb dX11_looks_15 (by decide) ?_
    refine lv_iload_n hx hb dX11_looks_16 rfl (lv_at hl 1 rfl) ?_
    refine lv_ishl hx hb dX11_looks_17 ?_
    refine lv_iconst (v := (-1)) hx hb dX11_looks_18 (by decide) ?_
    refine lv_ixor hx hb dX11_looks_19 ?_
    refine lv_iand hx hb dX11_looks_20 ?_
    refine lv_iconst (v := (-1)) hx hb dX11_looks_21 (by decide) ?_
    refine lv_ixor hx hb dX11_looks_22 ?_
    refine lv_iand hx hb dX11_looks_23 ?_
    refine lv_if_eq (tgt := 29) hx hb dX11_looks_24 (by decide) (fun hc => ?_) (fun hc => ?_)
    · have h := Eq.mp (if_pos hc) h
      refine lv_aload_n hx hb dX11_looks_29 rfl (lv_at hl 0 rfl) ?_
      refine hm_getr X hw lkM_26 LM_0 (b := 2) rfl dX11_looks_30 ?_
      refine lv_iload_n hx hb dX11_looks_33 rfl (lv_at hl 1 rfl) ?_
      obtain ⟨hi, h⟩ := h
      refine hm_iald X hw LM_2 hi dX11_looks_34 ?_
      refine lv_iload_n hx hb dX11_looks_35 rfl (lv_at hl 2 rfl) ?_
      refine lv_icmp_eq (tgt := 43) hx hb dX11_looks_36 (by decide) (fun hc => ?_) (fun hc => ?_)
      · have h := Eq.mp (if_pos hc) h
        refine lv_iconst (v := 0) hx hb dX11_looks_43 (by decide) ?_
        exact wkM_looks_b44 X hr hlk hR   h hw (lv_sub hl [0, 1, 2] rfl)
      · have h := Eq.mp (if_neg hc) h
        refine lv_iconst (v := 1) hx hb dX11_looks_39 (by decide) ?_
        refine lv_goto (tgt := 44) hx hb dX11_looks_40 (by decide) ?_
        exact wkM_looks_b44 X hr hlk hR   h hw (lv_sub hl [0, 1, 2] rfl)
    · have h := Eq.mp (if_neg hc) h
      refine lv_iconst (v := 0) hx hb dX11_looks_27 (by decide) ?_
      exact hm_zret X hr hlk hw zb_0 ⟨_, rfl, h⟩ dX11_looks_28
  · have h := Eq.mp (if_pos hc) h
    refine lv_iconst (v := 0) hx hb dX11_looks_8 (by decide) ?_
    exact hm_zret X hr hlk hw zb_0 ⟨_, rfl, h⟩ dX11_looks_9

theorem wkM_round_l58 {J : HJ} {Q : Int32 → HI → Prop} (X : hX p m c s args RX11 cX11_round 4) (hr : meth.sig.returnType = (some .boolean)) (hlk : meth.locks = false) (hR : 3 ≤ R.frames ∧ 68 ≤ R.locals)   : ∀ (n : Nat) (I : HI) (x3 : Int32) {ls : Array Slot} {H : Heap} {locs : List Loc}, M_round_l58 Q n I x3 → hW D cA z Ev0 (I, J, T, FM, LM) A s H locs → lv_has ls 4 [(0, .ref (z + 0)), (3, .int x3)] → W p l e R s m args below meth c H locs 0 0 (MQ below (va_Qi (pI J T FM LM Q) (hB D cA z A) A) args s 0 0 A) (F0 m 58 ls []) := by
  have hx := X.1
  have hb := X.2.1
  intro n
  induction n with
  | zero => intro I x3 ls H locs h; exact False.elim h
  | succ n ih =>
    intro I x3 ls H locs h hw hl
    rw [M_round_l58] at h
    refine lv_iload_n hx hb dX11_round_58 rfl (lv_at hl 1 rfl) ?_
    refine lv_aload_n hx hb dX11_round_59 rfl (lv_at hl 0 rfl) ?_
    refine hm_geti X hw lkM_7 LM_0 dX11_round_60 ?_
    refine lv_icmp_ge (tgt := 101) hx hb dX11_round_63 (by decide) (fun hc => ?_) (fun hc => ?_)
    · have h := Eq.mp (if_pos hc) h
      refine lv_aload_n hx hb dX11_round_101 rfl (lv_at hl 0 rfl) ?_
      refine lv_iconst (v := 0) hx hb dX11_round_102 (by decide) ?_
      refine hm_puti X hw lkM_195 LM_0 rfl rfl dX11_round_103 (fun H locs hw => ?_)
      refine lv_iconst (v := 1) hx hb dX11_round_106 (by decide) ?_
      exact hm_zret X hr hlk hw zb_1 ⟨_, rfl, h⟩ dX11_round_107
    · have h := Eq.mp (if_neg hc) h
      refine lv_aload_n hx hb dX11_round_66 rfl (lv_at hl 0 rfl) ?_
      refine hm_getr X hw lkM_32 LM_0 (b := 4) rfl dX11_round_67 ?_
      refine lv_iload_n hx hb dX11_round_70 rfl (lv_at hl 1 rfl) ?_
      obtain ⟨hi, h⟩ := h
      refine hm_iald X hw LM_4 hi dX11_round_71 ?_
      refine lv_iconst (v := 1) hx hb dX11_round_72 (by decide) ?_
      refine lv_icmp_eq (tgt := 95) hx hb dX11_round_73 (by decide) (fun hc => ?_) (fun hc => ?_)
      · have h := Eq.mp (if_pos hc) h
        refine lv_iinc (v := x3 + 1) (lv' := [(3, _), (0, _)]) hx hb dX11_round_95 hl (k := 1) rfl rfl (by decide) rfl (fun ls hl => ?_)
        refine lv_goto (tgt := 58) hx hb dX11_round_98 (by decide) ?_
        exact ih _ _ h hw (lv_sub hl [1, 0] rfl)
      · have h := Eq.mp (if_neg hc) h
        refine lv_aload_n hx hb dX11_round_76 rfl (lv_at hl 0 rfl) ?_
        refine hm_getr X hw lkM_47 LM_0 (b := 9) rfl dX11_round_77 ?_
        refine lv_iload_n hx hb dX11_round_80 rfl (lv_at hl 1 rfl) ?_
        obtain ⟨hi, h⟩ := h
        refine hm_iald X hw LM_9 hi dX11_round_81 ?_
        refine lv_aload_n hx hb dX11_round_82 rfl (lv_at hl 0 rfl) ?_
        refine lv_iload_n hx hb dX11_round_83 rfl (lv_at hl 1 rfl) ?_
        refine hm_calli hw (hm_runV (rest := [_]) hCl_true X hw (cM_hears  h) ykM_hears kw1345 rfl LM_0 rfl hl.1 rfl rfl rfl (Nat.le_of_ble_eq_true rfl) ⟨Nat.le_trans (Nat.le_of_ble_eq_true rfl) hR.1, Nat.le_trans (Nat.le_of_ble_eq_true rfl) hR.2⟩ ⟨Nat.zero_le _, Nat.zero_le _⟩ dX11_round_84) (fun r6 u7 H locs hp hw => ?_)
        obtain ⟨rfl, h⟩ := hp
        refine lv_icmp_eq (tgt := 95) hx hb dX11_round_87 (by decide) (fun hc => ?_) (fun hc => ?_)
        · have h := Eq.mp (if_pos hc) h
          refine lv_iinc (v := x3 + 1) (lv' := [(3, _), (0, _)]) hx hb dX11_round_95 hl (k := 1) rfl rfl (by decide) rfl (fun ls hl => ?_)
          refine lv_goto (tgt := 58) hx hb dX11_round_98 (by decide) ?_
          exact ih _ _ h hw (lv_sub hl [1, 0] rfl)
        · have h := Eq.mp (if_neg hc) h
          refine lv_aload_n hx hb dX11_round_90 rfl (lv_at hl 0 rfl) ?_
          refine lv_iload_n hx hb dX11_round_91 rfl (lv_at hl 1 rfl) ?_
          refine hm_callv hw (hm_runV (rest := []) hCl_true X hw (cM_blank  h) ykM_blank kw1334 rfl LM_0 rfl hl.1 rfl rfl rfl (Nat.le_of_ble_eq_true rfl) ⟨Nat.le_trans (Nat.le_of_ble_eq_true rfl) hR.1, Nat.le_trans (Nat.le_of_ble_eq_true rfl) hR.2⟩ ⟨Nat.zero_le _, Nat.zero_le _⟩ dX11_round_92) (fun u9 H locs hp hw => ?_)
          obtain ⟨I8, rfl, h⟩ := hp
          refine lv_iinc (v := x3 + 1) (lv' := [(3, _), (0, _)]) hx hb dX11_round_95 hl (k := 1) rfl rfl (by decide) rfl (fun ls hl => ?_)
          refine lv_goto (tgt := 58) hx hb dX11_round_98 (by decide) ?_
          exact ih _ _ h hw (lv_sub hl [1, 0] rfl)

theorem wkM_round_l24 {J : HJ} {x1 : Int32} {x2 : Int32} {Q : Int32 → HI → Prop} (X : hX p m c s args RX11 cX11_round 4) (hr : meth.sig.returnType = (some .boolean)) (hlk : meth.locks = false) (hR : 3 ≤ R.frames ∧ 68 ≤ R.locals)   : ∀ (n : Nat) (I : HI) (x3 : Int32) {ls : Array Slot} {H : Heap} {locs : List Loc}, M_round_l24 x1 x2 Q n I x3 → hW D cA z Ev0 (I, J, T, FM, LM) A s H locs → lv_has ls 4 [(0, .ref (z + 0)), (1, .int x1), (2, .int x2), (3, .int x3)] → W p l e R s m args below meth c H locs 0 0 (MQ below (va_Qi (pI J T FM LM Q) (hB D cA z A) A) args s 0 0 A) (F0 m 24 ls []) := by
  have hx := X.1
  have hb := X.2.1
  intro n
  induction n with
  | zero => intro I x3 ls H locs h; exact False.elim h
  | succ n ih =>
    intro I x3 ls H locs h hw hl
    rw [M_round_l24] at h
    refine lv_iload_n hx hb dX11_round_24 rfl (lv_at hl 3 rfl) ?_
    refine lv_aload_n hx hb dX11_round_25 rfl (lv_at hl 0 rfl) ?_
    refine hm_geti X hw lkM_7 LM_0 dX11_round_26 ?_
    refine lv_icmp_ge (tgt := 49) hx hb dX11_round_29 (by decide) (fun hc => ?_) (fun hc => ?_)
    · have h := Eq.mp (if_pos hc) h
      refine lv_aload_n hx hb dX11_round_49 rfl (lv_at hl 0 rfl) ?_
      refine hm_getr X hw lkM_29 LM_0 (b := 3) rfl dX11_round_50 ?_
      refine lv_iload_n hx hb dX11_round_53 rfl (lv_at hl 1 rfl) ?_
      refine lv_iload_n hx hb dX11_round_54 rfl (lv_at hl 2 rfl) ?_
      obtain ⟨hi, h⟩ := h
      refine hm_iast X hw LM_3 hi dX11_round_55 (fun H locs hw => ?_)
      refine lv_iconst (v := 0) hx hb dX11_round_56 (by decide) ?_
      refine lv_istore_n (lv' := [(3, _), (0, _), (1, _), (2, _)]) hx hb dX11_round_57 rfl hl (by decide) rfl (fun ls hl => ?_)
      obtain ⟨n2, h⟩ := h
      exact wkM_round_l58 X hr hlk hR   n2 _ _ h hw (lv_sub hl [1, 0] rfl)
    · have h := Eq.mp (if_neg hc) h
      refine lv_aload_n hx hb dX11_round_32 rfl (lv_at hl 0 rfl) ?_
      refine hm_getr X hw lkM_47 LM_0 (b := 9) rfl dX11_round_33 ?_
      refine lv_iload_n hx hb dX11_round_36 rfl (lv_at hl 3 rfl) ?_
      refine lv_aload_n hx hb dX11_round_37 rfl (lv_at hl 0 rfl) ?_
      refine lv_iload_n hx hb dX11_round_38 rfl (lv_at hl 3 rfl) ?_
      refine hm_calli hw (hm_runV (rest := [_, _]) hCl_true X hw (cM_hears  h) ykM_hears kw1345 rfl LM_0 rfl hl.1 rfl rfl rfl (Nat.le_of_ble_eq_true rfl) ⟨Nat.le_trans (Nat.le_of_ble_eq_true rfl) hR.1, Nat.le_trans (Nat.le_of_ble_eq_true rfl) hR.2⟩ ⟨Nat.zero_le _, Nat.zero_le _⟩ dX11_round_39) (fun r10 u11 H locs hp hw => ?_)
      obtain ⟨rfl, h⟩ := hp
      obtain ⟨hi, h⟩ := h
      refine hm_iast X hw LM_9 hi dX11_round_42 (fun H locs hw => ?_)
      refine lv_iinc (v := x3 + 1) (lv' := [(3, _), (0, _), (1, _), (2, _)]) hx hb dX11_round_43 hl (k := 3) rfl rfl (by decide) rfl (fun ls hl => ?_)
      refine lv_goto (tgt := 24) hx hb dX11_round_46 (by decide) ?_
      exact ih _ _ h hw (lv_sub hl [1, 2, 3, 0] rfl)

theorem cM_round {l : Launch} {D : va_G} {cA : Nat → ClassId} {z sz : Nat} {I : HI} {J : HJ} {x1 : Int32} {x2 : Int32} {Q : Int32 → HI → Prop}  (h : M_round I x1 x2 Q) : Met l yX11_round (hws0 yX11_round cX11_round 4 (some .boolean)) { frames := 3, cells := 0, slots := 0, locals := 68 } (hPc D cA z Ev0 (I, J, T, FM, LM) sz [.ref (z + 0), .int x1, .int x2]) (va_Qi (pI J T FM LM Q) (hB D cA z (hA z LM sz)) (hA z LM sz)) 0 0 (hA z LM sz) := by
  refine hm_met (I, J, T, FM, LM) [.ref (z + 0), .int x1, .int x2] rfl (by decide) (Nat.le_of_ble_eq_true rfl) ?_
  intro p e s m below meth c ls X hr hlk hnm hxt hsz hw hl
  have hl : lv_has ls 4 [(0, .ref (z + 0)), (1, .int x1), (2, .int x2)] := hl
  have hR : 3 ≤ ({ frames := 3, cells := 0, slots := 0, locals := 68 } : Room).frames ∧ 68 ≤ ({ frames := 3, cells := 0, slots := 0, locals := 68 } : Room).locals := ⟨Nat.le_refl _, Nat.le_refl _⟩
  generalize ({ frames := 3, cells := 0, slots := 0, locals := 68 } : Room) = R at hR ⊢
  clear hsz
  generalize (hA z LM sz) = A at hw ⊢
  have hx := X.1
  have hb := X.2.1
  unfold M_round at h
  refine lv_aload_n hx hb dX11_round_0 rfl (lv_at hl 0 rfl) ?_
  refine lv_iload_n hx hb dX11_round_1 rfl (lv_at hl 1 rfl) ?_
  refine hm_calli hw (hm_runV (rest := []) hCl_true X hw (cM_isWearer  h) ykM_isWearer kw1590 rfl LM_0 rfl hl.1 rfl rfl rfl (Nat.le_of_ble_eq_true rfl) ⟨Nat.le_trans (Nat.le_of_ble_eq_true rfl) hR.1, Nat.le_trans (Nat.le_of_ble_eq_true rfl) hR.2⟩ ⟨Nat.zero_le _, Nat.zero_le _⟩ dX11_round_2) (fun r1 u3 H locs hp hw => ?_)
  obtain ⟨I2, rfl, h⟩ := hp
  refine lv_if_ne (tgt := 10) hx hb dX11_round_5 (by decide) (fun hc => ?_) (fun hc => ?_)
  · have h := Eq.mp (if_neg hc) h
    refine lv_iload_n hx hb dX11_round_10 rfl (lv_at hl 2 rfl) ?_
    refine lv_iconst (v := 0) hx hb dX11_round_11 (by decide) ?_
    refine lv_bipush (v := 7) hx hb dX11_round_12 (by decide) ?_
    refine hm_calli hw (hm_runS (rest := []) hCl_true X hw (cM_within  h) ykM_within kw1583 rfl hl.1 rfl rfl rfl (Nat.le_of_ble_eq_true rfl) ⟨Nat.le_trans (Nat.le_of_ble_eq_true rfl) hR.1, Nat.le_trans (Nat.le_of_ble_eq_true rfl) hR.2⟩ ⟨Nat.zero_le _, Nat.zero_le _⟩ dX11_round_14) (fun r4 u5 H locs hp hw => ?_)
    obtain ⟨rfl, h⟩ := hp
    refine lv_if_ne (tgt := 22) hx hb dX11_round_17 (by decide) (fun hc => ?_) (fun hc => ?_)
    · have h := Eq.mp (if_neg hc) h
      refine lv_iconst (v := 0) hx hb dX11_round_22 (by decide) ?_
      refine lv_istore_n (lv' := [(3, _), (0, _), (1, _), (2, _)]) hx hb dX11_round_23 rfl hl (by decide) rfl (fun ls hl => ?_)
      obtain ⟨n2, h⟩ := h
      exact wkM_round_l24 X hr hlk hR   n2 _ _ h hw (lv_sub hl [1, 2, 3, 0] rfl)
    · have h := Eq.mp (if_pos hc) h
      refine lv_iconst (v := 0) hx hb dX11_round_20 (by decide) ?_
      exact hm_zret X hr hlk hw zb_0 ⟨_, rfl, h⟩ dX11_round_21
  · have h := Eq.mp (if_pos hc) h
    refine lv_iconst (v := 0) hx hb dX11_round_8 (by decide) ?_
    exact hm_zret X hr hlk hw zb_0 ⟨_, rfl, h⟩ dX11_round_9

theorem cM_heap {l : Launch} {D : va_G} {cA : Nat → ClassId} {z sz : Nat} {I : HI} {J : HJ} {x1 : Int32} {x2 : Int32} {Q : Int32 → HI → Prop}  (h : M_heap I x1 x2 Q) : Met l yX11_heap (hws0 yX11_heap cX11_heap 3 (some .boolean)) { frames := 1, cells := 0, slots := 0, locals := 22 } (hPc D cA z Ev0 (I, J, T, FM, LM) sz [.ref (z + 0), .int x1, .int x2]) (va_Qi (pI J T FM LM Q) (hB D cA z (hA z LM sz)) (hA z LM sz)) 0 0 (hA z LM sz) := by
  refine hm_met (I, J, T, FM, LM) [.ref (z + 0), .int x1, .int x2] rfl (by decide) (Nat.le_of_ble_eq_true rfl) ?_
  intro p e s m below meth c ls X hr hlk hnm hxt hsz hw hl
  have hl : lv_has ls 3 [(0, .ref (z + 0)), (1, .int x1), (2, .int x2)] := hl
  have hR : 1 ≤ ({ frames := 1, cells := 0, slots := 0, locals := 22 } : Room).frames ∧ 22 ≤ ({ frames := 1, cells := 0, slots := 0, locals := 22 } : Room).locals := ⟨Nat.le_refl _, Nat.le_refl _⟩
  generalize ({ frames := 1, cells := 0, slots := 0, locals := 22 } : Room) = R at hR ⊢
  clear hsz
  generalize (hA z LM sz) = A at hw ⊢
  have hx := X.1
  have hb := X.2.1
  unfold M_heap at h
  refine lv_aload_n hx hb dX11_heap_0 rfl (lv_at hl 0 rfl) ?_
  refine lv_iconst (v := 0) hx hb dX11_heap_1 (by decide) ?_
  refine hm_puti X hw lkM_174 LM_0 rfl rfl dX11_heap_2 (fun H locs hw => ?_)
  refine lv_iload_n hx hb dX11_heap_5 rfl (lv_at hl 1 rfl) ?_
  refine lv_iconst (v := 0) hx hb dX11_heap_6 (by decide) ?_
  refine lv_aload_n hx hb dX11_heap_7 rfl (lv_at hl 0 rfl) ?_
  refine hm_geti X hw lkM_13 LM_0 dX11_heap_8 ?_
  refine lv_iconst (v := 1) hx hb dX11_heap_11 (by decide) ?_
  refine lv_isub hx hb dX11_heap_12 ?_
  refine hm_calli hw (hm_runS (rest := []) hCl_true X hw (cM_within  h) ykM_within kw1583 rfl hl.1 rfl rfl rfl (Nat.le_of_ble_eq_true rfl) ⟨Nat.le_trans (Nat.le_of_ble_eq_true rfl) hR.1, Nat.le_trans (Nat.le_of_ble_eq_true rfl) hR.2⟩ ⟨Nat.zero_le _, Nat.zero_le _⟩ dX11_heap_13) (fun r1 u2 H locs hp hw => ?_)
  obtain ⟨rfl, h⟩ := hp
  refine lv_if_eq (tgt := 29) hx hb dX11_heap_16 (by decide) (fun hc => ?_) (fun hc => ?_)
  · have h := Eq.mp (if_pos hc) h
    refine lv_iconst (v := 0) hx hb dX11_heap_29 (by decide) ?_
    exact hm_zret X hr hlk hw zb_0 ⟨_, rfl, h⟩ dX11_heap_30
  · have h := Eq.mp (if_neg hc) h
    refine lv_iload_n hx hb dX11_heap_19 rfl (lv_at hl 2 rfl) ?_
    refine lv_iconst (v := 0) hx hb dX11_heap_20 (by decide) ?_
    refine lv_bipush (v := 9) hx hb dX11_heap_21 (by decide) ?_
    refine hm_calli hw (hm_runS (rest := []) hCl_true X hw (cM_within  h) ykM_within kw1583 rfl hl.1 rfl rfl rfl (Nat.le_of_ble_eq_true rfl) ⟨Nat.le_trans (Nat.le_of_ble_eq_true rfl) hR.1, Nat.le_trans (Nat.le_of_ble_eq_true rfl) hR.2⟩ ⟨Nat.zero_le _, Nat.zero_le _⟩ dX11_heap_23) (fun r3 u4 H locs hp hw => ?_)
    obtain ⟨rfl, h⟩ := hp
    refine lv_if_ne (tgt := 31) hx hb dX11_heap_26 (by decide) (fun hc => ?_) (fun hc => ?_)
    · have h := Eq.mp (if_neg hc) h
      refine lv_aload_n hx hb dX11_heap_31 rfl (lv_at hl 0 rfl) ?_
      refine hm_getr X hw lkM_22 LM_0 (b := 1) rfl dX11_heap_32 ?_
      refine lv_iload_n hx hb dX11_heap_35 rfl (lv_at hl 1 rfl) ?_
      refine lv_iload_n hx hb dX11_heap_36 rfl (lv_at hl 2 rfl) ?_
      obtain ⟨hi, h⟩ := h
      refine hm_iast X hw LM_1 hi dX11_heap_37 (fun H locs hw => ?_)
      refine lv_iconst (v := 1) hx hb dX11_heap_38 (by decide) ?_
      exact hm_zret X hr hlk hw zb_1 ⟨_, rfl, h⟩ dX11_heap_39
    · have h := Eq.mp (if_pos hc) h
      refine lv_iconst (v := 0) hx hb dX11_heap_29 (by decide) ?_
      exact hm_zret X hr hlk hw zb_0 ⟨_, rfl, h⟩ dX11_heap_30

theorem cM_law {l : Launch} {D : va_G} {cA : Nat → ClassId} {z sz : Nat} {I : HI} {J : HJ} {x1 : Int32} {x2 : Int32} {Q : Int32 → HI → Prop}  (h : M_law I x1 x2 Q) : Met l yX11_law (hws0 yX11_law cX11_law 3 (some .boolean)) { frames := 1, cells := 0, slots := 0, locals := 22 } (hPc D cA z Ev0 (I, J, T, FM, LM) sz [.ref (z + 0), .int x1, .int x2]) (va_Qi (pI J T FM LM Q) (hB D cA z (hA z LM sz)) (hA z LM sz)) 0 0 (hA z LM sz) := by
  refine hm_met (I, J, T, FM, LM) [.ref (z + 0), .int x1, .int x2] rfl (by decide) (Nat.le_of_ble_eq_true rfl) ?_
  intro p e s m below meth c ls X hr hlk hnm hxt hsz hw hl
  have hl : lv_has ls 3 [(0, .ref (z + 0)), (1, .int x1), (2, .int x2)] := hl
  have hR : 1 ≤ ({ frames := 1, cells := 0, slots := 0, locals := 22 } : Room).frames ∧ 22 ≤ ({ frames := 1, cells := 0, slots := 0, locals := 22 } : Room).locals := ⟨Nat.le_refl _, Nat.le_refl _⟩
  generalize ({ frames := 1, cells := 0, slots := 0, locals := 22 } : Room) = R at hR ⊢
  clear hsz
  generalize (hA z LM sz) = A at hw ⊢
  have hx := X.1
  have hb := X.2.1
  unfold M_law at h
  refine lv_aload_n hx hb dX11_law_0 rfl (lv_at hl 0 rfl) ?_
  refine lv_iconst (v := 0) hx hb dX11_law_1 (by decide) ?_
  refine hm_puti X hw lkM_174 LM_0 rfl rfl dX11_law_2 (fun H locs hw => ?_)
  refine lv_iload_n hx hb dX11_law_5 rfl (lv_at hl 1 rfl) ?_
  refine lv_iconst (v := 0) hx hb dX11_law_6 (by decide) ?_
  refine lv_iconst (v := 3) hx hb dX11_law_7 (by decide) ?_
  refine hm_calli hw (hm_runS (rest := []) hCl_true X hw (cM_within  h) ykM_within kw1583 rfl hl.1 rfl rfl rfl (Nat.le_of_ble_eq_true rfl) ⟨Nat.le_trans (Nat.le_of_ble_eq_true rfl) hR.1, Nat.le_trans (Nat.le_of_ble_eq_true rfl) hR.2⟩ ⟨Nat.zero_le _, Nat.zero_le _⟩ dX11_law_8) (fun r1 u2 H locs hp hw => ?_)
  obtain ⟨rfl, h⟩ := hp
  refine lv_if_eq (tgt := 24) hx hb dX11_law_11 (by decide) (fun hc => ?_) (fun hc => ?_)
  · have h := Eq.mp (if_pos hc) h
    refine lv_iconst (v := 0) hx hb dX11_law_24 (by decide) ?_
    exact hm_zret X hr hlk hw zb_0 ⟨_, rfl, h⟩ dX11_law_25
  · have h := Eq.mp (if_neg hc) h
    refine lv_iload_n hx hb dX11_law_14 rfl (lv_at hl 2 rfl) ?_
    refine lv_iconst (v := 0) hx hb dX11_law_15 (by decide) ?_
    refine lv_bipush (v := 8) hx hb dX11_law_16 (by decide) ?_
    refine hm_calli hw (hm_runS (rest := []) hCl_true X hw (cM_within  h) ykM_within kw1583 rfl hl.1 rfl rfl rfl (Nat.le_of_ble_eq_true rfl) ⟨Nat.le_trans (Nat.le_of_ble_eq_true rfl) hR.1, Nat.le_trans (Nat.le_of_ble_eq_true rfl) hR.2⟩ ⟨Nat.zero_le _, Nat.zero_le _⟩ dX11_law_18) (fun r3 u4 H locs hp hw => ?_)
    obtain ⟨rfl, h⟩ := hp
    refine lv_if_ne (tgt := 26) hx hb dX11_law_21 (by decide) (fun hc => ?_) (fun hc => ?_)
    · have h := Eq.mp (if_neg hc) h
      refine lv_aload_n hx hb dX11_law_26 rfl (lv_at hl 0 rfl) ?_
      refine lv_iload_n hx hb dX11_law_27 rfl (lv_at hl 1 rfl) ?_
      refine hm_puti X hw lkM_211 LM_0 rfl rfl dX11_law_28 (fun H locs hw => ?_)
      refine lv_aload_n hx hb dX11_law_31 rfl (lv_at hl 0 rfl) ?_
      refine lv_iload_n hx hb dX11_law_32 rfl (lv_at hl 2 rfl) ?_
      refine hm_puti X hw lkM_19 LM_0 rfl rfl dX11_law_33 (fun H locs hw => ?_)
      refine lv_iconst (v := 1) hx hb dX11_law_36 (by decide) ?_
      exact hm_zret X hr hlk hw zb_1 ⟨_, rfl, h⟩ dX11_law_37
    · have h := Eq.mp (if_pos hc) h
      refine lv_iconst (v := 0) hx hb dX11_law_24 (by decide) ?_
      exact hm_zret X hr hlk hw zb_0 ⟨_, rfl, h⟩ dX11_law_25

theorem wkM_lays_l3 {J : HJ} {x1 : Int32} {Q : HI → Prop} (X : hX p m c s args RX11 cX11_lays 3) (hr : meth.sig.returnType = none) (hlk : meth.locks = false) (hR : 0 ≤ R.frames ∧ 0 ≤ R.locals)   : ∀ (n : Nat) (I : HI) (x2 : Int32) {ls : Array Slot} {H : Heap} {locs : List Loc}, M_lays_l3 x1 Q n I x2 → hW D cA z Ev0 (I, J, T, FM, LM) A s H locs → lv_has ls 3 [(0, .ref (z + 0)), (1, .int x1), (2, .int x2)] → W p l e R s m args below meth c H locs 0 0 (MQ below (va_Qv (pIv J T FM LM Q) (hB D cA z A) A) args s 0 0 A) (F0 m 3 ls []) := by
  have hx := X.1
  have hb := X.2.1
  intro n
  induction n with
  | zero => intro I x2 ls H locs h; exact False.elim h
  | succ n ih =>
    intro I x2 ls H locs h hw hl
    rw [M_lays_l3] at h
    refine lv_iload_n hx hb dX11_lays_3 rfl (lv_at hl 2 rfl) ?_
    refine lv_if_lt (tgt := 39) hx hb dX11_lays_4 (by decide) (fun hc => ?_) (fun hc => ?_)
    · have h := Eq.mp (if_pos hc) h
      exact hm_vret X hr hlk hw ⟨_, rfl, h⟩ dX11_lays_39
    · have h := Eq.mp (if_neg hc) h
      refine lv_aload_n hx hb dX11_lays_7 rfl (lv_at hl 0 rfl) ?_
      refine hm_getr X hw lkM_50 LM_0 (b := 10) rfl dX11_lays_8 ?_
      refine lv_aload_n hx hb dX11_lays_11 rfl (lv_at hl 0 rfl) ?_
      refine hm_geti X hw lkM_214 LM_0 dX11_lays_12 ?_
      refine lv_iload_n hx hb dX11_lays_15 rfl (lv_at hl 1 rfl) ?_
      refine lv_iload_n hx hb dX11_lays_16 rfl (lv_at hl 2 rfl) ?_
      refine lv_ishr hx hb dX11_lays_17 ?_
      refine lv_sipush (v := 255) hx hb dX11_lays_18 (by decide) ?_
      refine lv_iand hx hb dX11_lays_21 ?_
      obtain ⟨hi, h⟩ := h
      refine hm_iast X hw LM_10 hi dX11_lays_22 (fun H locs hw => ?_)
      refine lv_aload_n hx hb dX11_lays_23 rfl (lv_at hl 0 rfl) ?_
      refine lv_dup hx hb dX11_lays_24 rfl ?_
      refine hm_geti X hw lkM_214 LM_0 dX11_lays_25 ?_
      refine lv_iconst (v := 1) hx hb dX11_lays_28 (by decide) ?_
      refine lv_iadd hx hb dX11_lays_29 ?_
      refine hm_puti X hw lkM_214 LM_0 rfl rfl dX11_lays_30 (fun H locs hw => ?_)
      refine lv_iinc (v := x2 + (-8)) (lv' := [(2, _), (0, _), (1, _)]) hx hb dX11_lays_33 hl (k := 2) rfl rfl (by decide) rfl (fun ls hl => ?_)
      refine lv_goto (tgt := 3) hx hb dX11_lays_36 (by decide) ?_
      exact ih _ _ h hw (lv_sub hl [1, 2, 0] rfl)

theorem cM_lays {l : Launch} {D : va_G} {cA : Nat → ClassId} {z sz : Nat} {I : HI} {J : HJ} {x1 : Int32} {Q : HI → Prop}  (h : M_lays I x1 Q) : Met l yX11_lays (hws0 yX11_lays cX11_lays 3 none) { frames := 0, cells := 0, slots := 0, locals := 0 } (hPc D cA z Ev0 (I, J, T, FM, LM) sz [.ref (z + 0), .int x1]) (va_Qv (pIv J T FM LM Q) (hB D cA z (hA z LM sz)) (hA z LM sz)) 0 0 (hA z LM sz) := by
  refine hm_met (I, J, T, FM, LM) [.ref (z + 0), .int x1] rfl (by decide) (Nat.le_of_ble_eq_true rfl) ?_
  intro p e s m below meth c ls X hr hlk hnm hxt hsz hw hl
  have hl : lv_has ls 3 [(0, .ref (z + 0)), (1, .int x1)] := hl
  have hR : 0 ≤ ({ frames := 0, cells := 0, slots := 0, locals := 0 } : Room).frames ∧ 0 ≤ ({ frames := 0, cells := 0, slots := 0, locals := 0 } : Room).locals := ⟨Nat.le_refl _, Nat.le_refl _⟩
  generalize ({ frames := 0, cells := 0, slots := 0, locals := 0 } : Room) = R at hR ⊢
  clear hsz
  generalize (hA z LM sz) = A at hw ⊢
  have hx := X.1
  have hb := X.2.1
  unfold M_lays at h
  refine lv_bipush (v := 24) hx hb dX11_lays_0 (by decide) ?_
  refine lv_istore_n (lv' := [(2, _), (0, _), (1, _)]) hx hb dX11_lays_2 rfl hl (by decide) rfl (fun ls hl => ?_)
  obtain ⟨n2, h⟩ := h
  exact wkM_lays_l3 X hr hlk hR   n2 _ _ h hw (lv_sub hl [1, 2, 0] rfl)

theorem cM_feed {l : Launch} {D : va_G} {cA : Nat → ClassId} {z sz : Nat} {I : HI} {J : HJ} {x1 : Int32} {x2 : Int32} {x3 : Int32} {x4 : Int32} {x5 : Int32} {Q : Int32 → HI → Prop}  (h : M_feed I x1 x2 x3 x4 x5 Q) : Met l yX11_feed (hws0 yX11_feed cX11_feed 6 (some .int)) { frames := 1, cells := 0, slots := 0, locals := 22 } (hPc D cA z Ev0 (I, J, T, FM, LM) sz [.ref (z + 0), .int x1, .int x2, .int x3, .int x4, .int x5]) (va_Qi (pI J T FM LM Q) (hB D cA z (hA z LM sz)) (hA z LM sz)) 0 0 (hA z LM sz) := by
  refine hm_met (I, J, T, FM, LM) [.ref (z + 0), .int x1, .int x2, .int x3, .int x4, .int x5] rfl (by decide) (Nat.le_of_ble_eq_true rfl) ?_
  intro p e s m below meth c ls X hr hlk hnm hxt hsz hw hl
  have hl : lv_has ls 6 [(0, .ref (z + 0)), (1, .int x1), (2, .int x2), (3, .int x3), (4, .int x4), (5, .int x5)] := hl
  have hR : 1 ≤ ({ frames := 1, cells := 0, slots := 0, locals := 22 } : Room).frames ∧ 22 ≤ ({ frames := 1, cells := 0, slots := 0, locals := 22 } : Room).locals := ⟨Nat.le_refl _, Nat.le_refl _⟩
  generalize ({ frames := 1, cells := 0, slots := 0, locals := 22 } : Room) = R at hR ⊢
  clear hsz
  generalize (hA z LM sz) = A at hw ⊢
  have hx := X.1
  have hb := X.2.1
  unfold M_feed at h
  refine lv_aload_n hx hb dX11_feed_0 rfl (lv_at hl 0 rfl) ?_
  refine lv_iconst (v := 0) hx hb dX11_feed_1 (by decide) ?_
  refine hm_puti X hw lkM_174 LM_0 rfl rfl dX11_feed_2 (fun H locs hw => ?_)
  refine lv_aload_n hx hb dX11_feed_5 rfl (lv_at hl 0 rfl) ?_
  refine hm_geti X hw lkM_214 LM_0 dX11_feed_6 ?_
  refine lv_bipush (v := 20) hx hb dX11_feed_9 (by decide) ?_
  refine lv_iadd hx hb dX11_feed_11 ?_
  refine lv_sipush (v := 500) hx hb dX11_feed_12 (by decide) ?_
  refine lv_icmp_le (tgt := 20) hx hb dX11_feed_15 (by decide) (fun hc => ?_) (fun hc => ?_)
  · have h := Eq.mp (if_pos hc) h
    refine lv_aload_n hx hb dX11_feed_20 rfl (lv_at hl 0 rfl) ?_
    refine lv_iload_n hx hb dX11_feed_21 rfl (lv_at hl 1 rfl) ?_
    refine hm_callv hw (hm_runV (rest := []) hCl_true X hw (cM_lays  h) ykM_lays kw1614 rfl LM_0 rfl hl.1 rfl rfl rfl (Nat.le_of_ble_eq_true rfl) ⟨Nat.le_trans (Nat.le_of_ble_eq_true rfl) hR.1, Nat.le_trans (Nat.le_of_ble_eq_true rfl) hR.2⟩ ⟨Nat.zero_le _, Nat.zero_le _⟩ dX11_feed_22) (fun u2 H locs hp hw => ?_)
    obtain ⟨I1, rfl, h⟩ := hp
    refine lv_aload_n hx hb dX11_feed_25 rfl (lv_at hl 0 rfl) ?_
    refine lv_iload_n hx hb dX11_feed_26 rfl (lv_at hl 2 rfl) ?_
    refine hm_callv hw (hm_runV (rest := []) hCl_true X hw (cM_lays  h) ykM_lays kw1614 rfl LM_0 rfl hl.1 rfl rfl rfl (Nat.le_of_ble_eq_true rfl) ⟨Nat.le_trans (Nat.le_of_ble_eq_true rfl) hR.1, Nat.le_trans (Nat.le_of_ble_eq_true rfl) hR.2⟩ ⟨Nat.zero_le _, Nat.zero_le _⟩ dX11_feed_27) (fun u4 H locs hp hw => ?_)
    obtain ⟨I3, rfl, h⟩ := hp
    refine lv_aload_n hx hb dX11_feed_30 rfl (lv_at hl 0 rfl) ?_
    refine lv_iload_n hx hb dX11_feed_31 rfl (lv_at hl 3 rfl) ?_
    refine hm_callv hw (hm_runV (rest := []) hCl_true X hw (cM_lays  h) ykM_lays kw1614 rfl LM_0 rfl hl.1 rfl rfl rfl (Nat.le_of_ble_eq_true rfl) ⟨Nat.le_trans (Nat.le_of_ble_eq_true rfl) hR.1, Nat.le_trans (Nat.le_of_ble_eq_true rfl) hR.2⟩ ⟨Nat.zero_le _, Nat.zero_le _⟩ dX11_feed_32) (fun u6 H locs hp hw => ?_)
    obtain ⟨I5, rfl, h⟩ := hp
    refine lv_aload_n hx hb dX11_feed_35 rfl (lv_at hl 0 rfl) ?_
    refine lv_iload hx hb dX11_feed_36 (lv_at hl 4 rfl) ?_
    refine hm_callv hw (hm_runV (rest := []) hCl_true X hw (cM_lays  h) ykM_lays kw1614 rfl LM_0 rfl hl.1 rfl rfl rfl (Nat.le_of_ble_eq_true rfl) ⟨Nat.le_trans (Nat.le_of_ble_eq_true rfl) hR.1, Nat.le_trans (Nat.le_of_ble_eq_true rfl) hR.2⟩ ⟨Nat.zero_le _, Nat.zero_le _⟩ dX11_feed_38) (fun u8 H locs hp hw => ?_)
    obtain ⟨I7, rfl, h⟩ := hp
    refine lv_aload_n hx hb dX11_feed_41 rfl (lv_at hl 0 rfl) ?_
    refine lv_iload hx hb dX11_feed_42 (lv_at hl 5 rfl) ?_
    refine hm_callv hw (hm_runV (rest := []) hCl_true X hw (cM_lays  h) ykM_lays kw1614 rfl LM_0 rfl hl.1 rfl rfl rfl (Nat.le_of_ble_eq_true rfl) ⟨Nat.le_trans (Nat.le_of_ble_eq_true rfl) hR.1, Nat.le_trans (Nat.le_of_ble_eq_true rfl) hR.2⟩ ⟨Nat.zero_le _, Nat.zero_le _⟩ dX11_feed_44) (fun u10 H locs hp hw => ?_)
    obtain ⟨I9, rfl, h⟩ := hp
    refine lv_aload_n hx hb dX11_feed_47 rfl (lv_at hl 0 rfl) ?_
    refine hm_geti X hw lkM_214 LM_0 dX11_feed_48 ?_
    exact hm_iret X hr hlk hw ⟨_, rfl, h⟩ dX11_feed_51
  · have h := Eq.mp (if_neg hc) h
    refine lv_iconst (v := (-1)) hx hb dX11_feed_18 (by decide) ?_
    exact hm_iret X hr hlk hw ⟨_, rfl, h⟩ dX11_feed_19

theorem cM_byteAt {l : Launch} {D : va_G} {cA : Nat → ClassId} {z sz : Nat} {I : HI} {J : HJ} {x1 : Int32} {Q : Int32 → Prop}  (h : M_byteAt I x1 Q) : Met l yX11_byteAt (hws0 yX11_byteAt cX11_byteAt 2 (some .int)) { frames := 0, cells := 0, slots := 0, locals := 0 } (hPc D cA z Ev0 (I, J, T, FM, LM) sz [.ref (z + 0), .int x1]) (va_Qi (p0 (I, J, T, FM, LM) Q) (hB D cA z (hA z LM sz)) (hA z LM sz)) 0 0 (hA z LM sz) := by
  refine hm_met (I, J, T, FM, LM) [.ref (z + 0), .int x1] rfl (by decide) (Nat.le_of_ble_eq_true rfl) ?_
  intro p e s m below meth c ls X hr hlk hnm hxt hsz hw hl
  have hl : lv_has ls 2 [(0, .ref (z + 0)), (1, .int x1)] := hl
  have hR : 0 ≤ ({ frames := 0, cells := 0, slots := 0, locals := 0 } : Room).frames ∧ 0 ≤ ({ frames := 0, cells := 0, slots := 0, locals := 0 } : Room).locals := ⟨Nat.le_refl _, Nat.le_refl _⟩
  generalize ({ frames := 0, cells := 0, slots := 0, locals := 0 } : Room) = R at hR ⊢
  clear hsz
  generalize (hA z LM sz) = A at hw ⊢
  have hx := X.1
  have hb := X.2.1
  unfold M_byteAt at h
  refine lv_iload_n hx hb dX11_byteAt_0 rfl (lv_at hl 1 rfl) ?_
  refine lv_aload_n hx hb dX11_byteAt_1 rfl (lv_at hl 0 rfl) ?_
  refine hm_geti X hw lkM_220 LM_0 dX11_byteAt_2 ?_
  refine lv_icmp_ge (tgt := 17) hx hb dX11_byteAt_5 (by decide) (fun hc => ?_) (fun hc => ?_)
  · have h := Eq.mp (if_pos hc) h
    refine lv_iconst (v := 0) hx hb dX11_byteAt_17 (by decide) ?_
    exact hm_iret X hr hlk hw ⟨rfl, h⟩ dX11_byteAt_18
  · have h := Eq.mp (if_neg hc) h
    refine lv_aload_n hx hb dX11_byteAt_8 rfl (lv_at hl 0 rfl) ?_
    refine hm_getr X hw lkM_50 LM_0 (b := 10) rfl dX11_byteAt_9 ?_
    refine lv_iload_n hx hb dX11_byteAt_12 rfl (lv_at hl 1 rfl) ?_
    obtain ⟨hi, h⟩ := h
    refine hm_iald X hw LM_10 hi dX11_byteAt_13 ?_
    refine lv_goto (tgt := 18) hx hb dX11_byteAt_14 (by decide) ?_
    exact hm_iret X hr hlk hw ⟨rfl, h⟩ dX11_byteAt_18

theorem cM_isLetter {l : Launch} {D : va_G} {cA : Nat → ClassId} {z sz : Nat} {I : HI} {J : HJ} {x0 : Int32} {Q : Int32 → Prop}  (h : M_isLetter  x0 Q) : Met l yX11_isLetter (hws0 yX11_isLetter cX11_isLetter 1 (some .boolean)) { frames := 0, cells := 0, slots := 0, locals := 0 } (hPc D cA z Ev0 (I, J, T, FM, LM) sz [.int x0]) (va_Qi (p0 (I, J, T, FM, LM) Q) (hB D cA z (hA z LM sz)) (hA z LM sz)) 0 0 (hA z LM sz) := by
  refine hm_met (I, J, T, FM, LM) [.int x0] rfl (by decide) (Nat.le_of_ble_eq_true rfl) ?_
  intro p e s m below meth c ls X hr hlk hnm hxt hsz hw hl
  have hl : lv_has ls 1 [(0, .int x0)] := hl
  have hR : 0 ≤ ({ frames := 0, cells := 0, slots := 0, locals := 0 } : Room).frames ∧ 0 ≤ ({ frames := 0, cells := 0, slots := 0, locals := 0 } : Room).locals := ⟨Nat.le_refl _, Nat.le_refl _⟩
  generalize ({ frames := 0, cells := 0, slots := 0, locals := 0 } : Room) = R at hR ⊢
  clear hsz
  generalize (hA z LM sz) = A at hw ⊢
  have hx := X.1
  have hb := X.2.1
  unfold M_isLetter at h
  refine lv_iload_n hx hb dX11_isLetter_0 rfl (lv_at hl 0 rfl) ?_
  refine lv_bipush (v := 97) hx hb dX11_isLetter_1 (by decide) ?_
  refine lv_icmp_lt (tgt := 16) hx hb dX11_isLetter_3 (by decide) (fun hc => ?_) (fun hc => ?_)
  · have h := Eq.mp (if_pos hc) h
    refine lv_iconst (v := 0) hx hb dX11_isLetter_16 (by decide) ?_
    exact hm_zret X hr hlk hw zb_0 ⟨rfl, h⟩ dX11_isLetter_17
  · have h := Eq.mp (if_neg hc) h
    refine lv_iload_n hx hb dX11_isLetter_6 rfl (lv_at hl 0 rfl) ?_
    refine lv_bipush (v := 122) hx hb dX11_isLetter_7 (by decide) ?_
    refine lv_icmp_gt (tgt := 16) hx hb dX11_isLetter_9 (by decide) (fun hc => ?_) (fun hc => ?_)
    · have h := Eq.mp (if_pos hc) h
      refine lv_iconst (v := 0) hx hb dX11_isLetter_16 (by decide) ?_
      exact hm_zret X hr hlk hw zb_0 ⟨rfl, h⟩ dX11_isLetter_17
    · have h := Eq.mp (if_neg hc) h
      refine lv_iconst (v := 1) hx hb dX11_isLetter_12 (by decide) ?_
      refine lv_goto (tgt := 17) hx hb dX11_isLetter_13 (by decide) ?_
      exact hm_zret X hr hlk hw zb_1 ⟨rfl, h⟩ dX11_isLetter_17

theorem cM_isDigit {l : Launch} {D : va_G} {cA : Nat → ClassId} {z sz : Nat} {I : HI} {J : HJ} {x0 : Int32} {Q : Int32 → Prop}  (h : M_isDigit  x0 Q) : Met l yX11_isDigit (hws0 yX11_isDigit cX11_isDigit 1 (some .boolean)) { frames := 0, cells := 0, slots := 0, locals := 0 } (hPc D cA z Ev0 (I, J, T, FM, LM) sz [.int x0]) (va_Qi (p0 (I, J, T, FM, LM) Q) (hB D cA z (hA z LM sz)) (hA z LM sz)) 0 0 (hA z LM sz) := by
  refine hm_met (I, J, T, FM, LM) [.int x0] rfl (by decide) (Nat.le_of_ble_eq_true rfl) ?_
  intro p e s m below meth c ls X hr hlk hnm hxt hsz hw hl
  have hl : lv_has ls 1 [(0, .int x0)] := hl
  have hR : 0 ≤ ({ frames := 0, cells := 0, slots := 0, locals := 0 } : Room).frames ∧ 0 ≤ ({ frames := 0, cells := 0, slots := 0, locals := 0 } : Room).locals := ⟨Nat.le_refl _, Nat.le_refl _⟩
  generalize ({ frames := 0, cells := 0, slots := 0, locals := 0 } : Room) = R at hR ⊢
  clear hsz
  generalize (hA z LM sz) = A at hw ⊢
  have hx := X.1
  have hb := X.2.1
  unfold M_isDigit at h
  refine lv_iload_n hx hb dX11_isDigit_0 rfl (lv_at hl 0 rfl) ?_
  refine lv_bipush (v := 48) hx hb dX11_isDigit_1 (by decide) ?_
  refine lv_icmp_lt (tgt := 16) hx hb dX11_isDigit_3 (by decide) (fun hc => ?_) (fun hc => ?_)
  · have h := Eq.mp (if_pos hc) h
    refine lv_iconst (v := 0) hx hb dX11_isDigit_16 (by decide) ?_
    exact hm_zret X hr hlk hw zb_0 ⟨rfl, h⟩ dX11_isDigit_17
  · have h := Eq.mp (if_neg hc) h
    refine lv_iload_n hx hb dX11_isDigit_6 rfl (lv_at hl 0 rfl) ?_
    refine lv_bipush (v := 57) hx hb dX11_isDigit_7 (by decide) ?_
    refine lv_icmp_gt (tgt := 16) hx hb dX11_isDigit_9 (by decide) (fun hc => ?_) (fun hc => ?_)
    · have h := Eq.mp (if_pos hc) h
      refine lv_iconst (v := 0) hx hb dX11_isDigit_16 (by decide) ?_
      exact hm_zret X hr hlk hw zb_0 ⟨rfl, h⟩ dX11_isDigit_17
    · have h := Eq.mp (if_neg hc) h
      refine lv_iconst (v := 1) hx hb dX11_isDigit_12 (by decide) ?_
      refine lv_goto (tgt := 17) hx hb dX11_isDigit_13 (by decide) ?_
      exact hm_zret X hr hlk hw zb_1 ⟨rfl, h⟩ dX11_isDigit_17

theorem wkM_goes_b331 {I : HI} {J : HJ} {Q : HI → HJ → Prop} (X : hX p m c s args RX11 cX11_goes 2) (hr : meth.sig.returnType = none) (hlk : meth.locks = false) (hR : 1 ≤ R.frames ∧ 21 ≤ R.locals)   : ∀ {ls : Array Slot} {H : Heap} {locs : List Loc}, M_goes_b331 I J Q → hW D cA z Ev0 (I, J, T, FM, LM) A s H locs → lv_has ls 2 [(0, .ref (z + 0))] → W p l e R s m args below meth c H locs 0 0 (MQ below (va_Qv (pIJv T FM LM Q) (hB D cA z A) A) args s 0 0 A) (F0 m 331 ls []) := by
  have hx := X.1
  have hb := X.2.1
  intro ls H locs h hw hl
  unfold M_goes_b331 at h
  refine lv_aload_n hx hb dX11_goes_331 rfl (lv_at hl 0 rfl) ?_
  refine lv_aload_n hx hb dX11_goes_332 rfl (lv_at hl 0 rfl) ?_
  refine hm_geti X hw lkM_223 LM_0 dX11_goes_333 ?_
  refine lv_aload_n hx hb dX11_goes_336 rfl (lv_at hl 0 rfl) ?_
  refine hm_geti X hw lkM_229 LM_0 dX11_goes_337 ?_
  refine lv_isub hx hb dX11_goes_340 ?_
  refine hm_puti X hw lkM_251 LM_0 rfl rfl dX11_goes_341 (fun H locs hw => ?_)
  exact hm_vret X hr hlk hw ⟨_, _, rfl, h⟩ dX11_goes_344

theorem wkM_goes_b328 {I : HI} {J : HJ} {t0 : Int32} {Q : HI → HJ → Prop} (X : hX p m c s args RX11 cX11_goes 2) (hr : meth.sig.returnType = none) (hlk : meth.locks = false) (hR : 1 ≤ R.frames ∧ 21 ≤ R.locals)   : ∀ {ls : Array Slot} {H : Heap} {locs : List Loc}, M_goes_b328 I J t0 Q → hW D cA z Ev0 (I, J, T, FM, LM) A s H locs → lv_has ls 2 [(0, .ref (z + 0))] → W p l e R s m args below meth c H locs 0 0 (MQ below (va_Qv (pIJv T FM LM Q) (hB D cA z A) A) args s 0 0 A) (F0 m 328 ls [.int t0, .ref (z + 0)]) := by
  have hx := X.1
  have hb := X.2.1
  intro ls H locs h hw hl
  unfold M_goes_b328 at h
  refine hm_puti X hw lkM_242 LM_0 rfl rfl dX11_goes_328 (fun H locs hw => ?_)
  exact wkM_goes_b331 X hr hlk hR   h hw (lv_sub hl [0] rfl)

theorem wkM_goes_b237 {I : HI} {J : HJ} {K187 : HI → Prop} {Q : HI → HJ → Prop} (X : hX p m c s args RX11 cX11_goes 2) (hr : meth.sig.returnType = none) (hlk : meth.locks = false) (hR : 1 ≤ R.frames ∧ 21 ≤ R.locals)  (hK187 : ∀ (I : HI) {ls : Array Slot} {H : Heap} {locs : List Loc}, K187 I → hW D cA z Ev0 (I, J, T, FM, LM) A s H locs → lv_has ls 2 [(0, .ref (z + 0))] → W p l e R s m args below meth c H locs 0 0 (MQ below (va_Qv (pIJv T FM LM Q) (hB D cA z A) A) args s 0 0 A) (F0 m 187 ls [])) : ∀ {ls : Array Slot} {H : Heap} {locs : List Loc}, M_goes_b237 I J K187 Q → hW D cA z Ev0 (I, J, T, FM, LM) A s H locs → lv_has ls 2 [(0, .ref (z + 0))] → W p l e R s m args below meth c H locs 0 0 (MQ below (va_Qv (pIJv T FM LM Q) (hB D cA z A) A) args s 0 0 A) (F0 m 237 ls []) := by
  have hx := X.1
  have hb := X.2.1
  intro ls H locs h hw hl
  unfold M_goes_b237 at h
  refine lv_aload_n hx hb dX11_goes_237 rfl (lv_at hl 0 rfl) ?_
  refine lv_dup hx hb dX11_goes_238 rfl ?_
  refine hm_geti X hw lkM_223 LM_0 dX11_goes_239 ?_
  refine lv_iconst (v := 1) hx hb dX11_goes_242 (by decide) ?_
  refine lv_iadd hx hb dX11_goes_243 ?_
  refine hm_puti X hw lkM_223 LM_0 rfl rfl dX11_goes_244 (fun H locs hw => ?_)
  refine lv_goto (tgt := 187) hx hb dX11_goes_247 (by decide) ?_
  exact hK187 _ h hw (lv_sub hl [0] rfl)

theorem wkM_goes_l187 {J : HJ} {Q : HI → HJ → Prop} (X : hX p m c s args RX11 cX11_goes 2) (hr : meth.sig.returnType = none) (hlk : meth.locks = false) (hR : 1 ≤ R.frames ∧ 21 ≤ R.locals)   : ∀ (n : Nat) (I : HI) {ls : Array Slot} {H : Heap} {locs : List Loc}, M_goes_l187 J Q n I → hW D cA z Ev0 (I, J, T, FM, LM) A s H locs → lv_has ls 2 [(0, .ref (z + 0))] → W p l e R s m args below meth c H locs 0 0 (MQ below (va_Qv (pIJv T FM LM Q) (hB D cA z A) A) args s 0 0 A) (F0 m 187 ls []) := by
  have hx := X.1
  have hb := X.2.1
  intro n
  induction n with
  | zero => intro I ls H locs h; exact False.elim h
  | succ n ih =>
    intro I ls H locs h hw hl
    rw [M_goes_l187] at h
    refine lv_aload_n hx hb dX11_goes_187 rfl (lv_at hl 0 rfl) ?_
    refine lv_aload_n hx hb dX11_goes_188 rfl (lv_at hl 0 rfl) ?_
    refine hm_geti X hw lkM_223 LM_0 dX11_goes_189 ?_
    refine hm_calli hw (hm_runV (rest := []) hCl_true X hw (cM_byteAt  h) ykM_byteAt kw1626 rfl LM_0 rfl hl.1 rfl rfl rfl (Nat.le_of_ble_eq_true rfl) ⟨Nat.le_trans (Nat.le_of_ble_eq_true rfl) hR.1, Nat.le_trans (Nat.le_of_ble_eq_true rfl) hR.2⟩ ⟨Nat.zero_le _, Nat.zero_le _⟩ dX11_goes_192) (fun r7 u8 H locs hp hw => ?_)
    obtain ⟨rfl, h⟩ := hp
    refine hm_calli hw (hm_runS (rest := []) hCl_true X hw (cM_isDigit  h) ykM_isDigit kw1633 rfl hl.1 rfl rfl rfl (Nat.le_of_ble_eq_true rfl) ⟨Nat.le_trans (Nat.le_of_ble_eq_true rfl) hR.1, Nat.le_trans (Nat.le_of_ble_eq_true rfl) hR.2⟩ ⟨Nat.zero_le _, Nat.zero_le _⟩ dX11_goes_195) (fun r9 u10 H locs hp hw => ?_)
    obtain ⟨rfl, h⟩ := hp
    refine lv_if_eq (tgt := 250) hx hb dX11_goes_198 (by decide) (fun hc => ?_) (fun hc => ?_)
    · have h := Eq.mp (if_pos hc) h
      refine lv_aload_n hx hb dX11_goes_250 rfl (lv_at hl 0 rfl) ?_
      refine lv_iconst (v := 2) hx hb dX11_goes_251 (by decide) ?_
      refine hm_puti X hw lkM_242 LM_0 rfl rfl dX11_goes_252 (fun H locs hw => ?_)
      refine lv_goto (tgt := 331) hx hb dX11_goes_255 (by decide) ?_
      exact wkM_goes_b331 X hr hlk hR   h hw (lv_sub hl [0] rfl)
    · have h := Eq.mp (if_neg hc) h
      refine lv_aload_n hx hb dX11_goes_201 rfl (lv_at hl 0 rfl) ?_
      refine hm_geti X hw lkM_223 LM_0 dX11_goes_202 ?_
      refine lv_aload_n hx hb dX11_goes_205 rfl (lv_at hl 0 rfl) ?_
      refine hm_geti X hw lkM_229 LM_0 dX11_goes_206 ?_
      refine lv_isub hx hb dX11_goes_209 ?_
      refine lv_iconst (v := 3) hx hb dX11_goes_210 (by decide) ?_
      refine lv_icmp_ge (tgt := 237) hx hb dX11_goes_211 (by decide) (fun hc => ?_) (fun hc => ?_)
      · have h := Eq.mp (if_pos hc) h
        exact wkM_goes_b237 X hr hlk hR  ih h hw (lv_sub hl [0] rfl)
      · have h := Eq.mp (if_neg hc) h
        refine lv_aload_n hx hb dX11_goes_214 rfl (lv_at hl 0 rfl) ?_
        refine lv_bipush (v := 10) hx hb dX11_goes_215 (by decide) ?_
        refine lv_aload_n hx hb dX11_goes_217 rfl (lv_at hl 0 rfl) ?_
        refine hm_geti X hw lkM_236 LM_0 dX11_goes_218 ?_
        refine lv_imul hx hb dX11_goes_221 ?_
        refine lv_aload_n hx hb dX11_goes_222 rfl (lv_at hl 0 rfl) ?_
        refine lv_aload_n hx hb dX11_goes_223 rfl (lv_at hl 0 rfl) ?_
        refine hm_geti X hw lkM_223 LM_0 dX11_goes_224 ?_
        refine hm_calli hw (hm_runV (rest := [_, _]) hCl_true X hw (cM_byteAt  h) ykM_byteAt kw1626 rfl LM_0 rfl hl.1 rfl rfl rfl (Nat.le_of_ble_eq_true rfl) ⟨Nat.le_trans (Nat.le_of_ble_eq_true rfl) hR.1, Nat.le_trans (Nat.le_of_ble_eq_true rfl) hR.2⟩ ⟨Nat.zero_le _, Nat.zero_le _⟩ dX11_goes_227) (fun r11 u12 H locs hp hw => ?_)
        obtain ⟨rfl, h⟩ := hp
        refine lv_iadd hx hb dX11_goes_230 ?_
        refine lv_bipush (v := 48) hx hb dX11_goes_231 (by decide) ?_
        refine lv_isub hx hb dX11_goes_233 ?_
        refine hm_puti X hw lkM_236 LM_0 rfl rfl dX11_goes_234 (fun H locs hw => ?_)
        exact wkM_goes_b237 X hr hlk hR  ih h hw (lv_sub hl [0] rfl)

theorem wkM_goes_b159 {I : HI} {J : HJ} {K108 : HI → HJ → Prop} {Q : HI → HJ → Prop} (X : hX p m c s args RX11 cX11_goes 2) (hr : meth.sig.returnType = none) (hlk : meth.locks = false) (hR : 1 ≤ R.frames ∧ 21 ≤ R.locals)  (hK108 : ∀ (I : HI) (J : HJ) {ls : Array Slot} {H : Heap} {locs : List Loc}, K108 I J → hW D cA z Ev0 (I, J, T, FM, LM) A s H locs → lv_has ls 2 [(0, .ref (z + 0))] → W p l e R s m args below meth c H locs 0 0 (MQ below (va_Qv (pIJv T FM LM Q) (hB D cA z A) A) args s 0 0 A) (F0 m 108 ls [])) : ∀ {ls : Array Slot} {H : Heap} {locs : List Loc}, M_goes_b159 I J K108 Q → hW D cA z Ev0 (I, J, T, FM, LM) A s H locs → lv_has ls 2 [(0, .ref (z + 0))] → W p l e R s m args below meth c H locs 0 0 (MQ below (va_Qv (pIJv T FM LM Q) (hB D cA z A) A) args s 0 0 A) (F0 m 159 ls []) := by
  have hx := X.1
  have hb := X.2.1
  intro ls H locs h hw hl
  unfold M_goes_b159 at h
  refine lv_aload_n hx hb dX11_goes_159 rfl (lv_at hl 0 rfl) ?_
  refine lv_dup hx hb dX11_goes_160 rfl ?_
  refine hm_geti X hw lkM_223 LM_0 dX11_goes_161 ?_
  refine lv_iconst (v := 1) hx hb dX11_goes_164 (by decide) ?_
  refine lv_iadd hx hb dX11_goes_165 ?_
  refine hm_puti X hw lkM_223 LM_0 rfl rfl dX11_goes_166 (fun H locs hw => ?_)
  refine lv_goto (tgt := 108) hx hb dX11_goes_169 (by decide) ?_
  exact hK108 _ _ h hw (lv_sub hl [0] rfl)

theorem wkM_goes_l108  {Q : HI → HJ → Prop} (X : hX p m c s args RX11 cX11_goes 2) (hr : meth.sig.returnType = none) (hlk : meth.locks = false) (hR : 1 ≤ R.frames ∧ 21 ≤ R.locals)   : ∀ (n : Nat) (I : HI) (J : HJ) {ls : Array Slot} {H : Heap} {locs : List Loc}, M_goes_l108 Q n I J → hW D cA z Ev0 (I, J, T, FM, LM) A s H locs → lv_has ls 2 [(0, .ref (z + 0))] → W p l e R s m args below meth c H locs 0 0 (MQ below (va_Qv (pIJv T FM LM Q) (hB D cA z A) A) args s 0 0 A) (F0 m 108 ls []) := by
  have hx := X.1
  have hb := X.2.1
  intro n
  induction n with
  | zero => intro I J ls H locs h; exact False.elim h
  | succ n ih =>
    intro I J ls H locs h hw hl
    rw [M_goes_l108] at h
    refine lv_aload_n hx hb dX11_goes_108 rfl (lv_at hl 0 rfl) ?_
    refine lv_aload_n hx hb dX11_goes_109 rfl (lv_at hl 0 rfl) ?_
    refine hm_geti X hw lkM_223 LM_0 dX11_goes_110 ?_
    refine hm_calli hw (hm_runV (rest := []) hCl_true X hw (cM_byteAt  h) ykM_byteAt kw1626 rfl LM_0 rfl hl.1 rfl rfl rfl (Nat.le_of_ble_eq_true rfl) ⟨Nat.le_trans (Nat.le_of_ble_eq_true rfl) hR.1, Nat.le_trans (Nat.le_of_ble_eq_true rfl) hR.2⟩ ⟨Nat.zero_le _, Nat.zero_le _⟩ dX11_goes_113) (fun r13 u14 H locs hp hw => ?_)
    obtain ⟨rfl, h⟩ := hp
    refine hm_calli hw (hm_runS (rest := []) hCl_true X hw (cM_isLetter  h) ykM_isLetter kw1630 rfl hl.1 rfl rfl rfl (Nat.le_of_ble_eq_true rfl) ⟨Nat.le_trans (Nat.le_of_ble_eq_true rfl) hR.1, Nat.le_trans (Nat.le_of_ble_eq_true rfl) hR.2⟩ ⟨Nat.zero_le _, Nat.zero_le _⟩ dX11_goes_116) (fun r15 u16 H locs hp hw => ?_)
    obtain ⟨rfl, h⟩ := hp
    refine lv_if_eq (tgt := 172) hx hb dX11_goes_119 (by decide) (fun hc => ?_) (fun hc => ?_)
    · have h := Eq.mp (if_pos hc) h
      refine lv_aload_n hx hb dX11_goes_172 rfl (lv_at hl 0 rfl) ?_
      refine lv_iconst (v := 1) hx hb dX11_goes_173 (by decide) ?_
      refine hm_puti X hw lkM_242 LM_0 rfl rfl dX11_goes_174 (fun H locs hw => ?_)
      refine lv_goto (tgt := 331) hx hb dX11_goes_177 (by decide) ?_
      exact wkM_goes_b331 X hr hlk hR   h hw (lv_sub hl [0] rfl)
    · have h := Eq.mp (if_neg hc) h
      refine lv_aload_n hx hb dX11_goes_122 rfl (lv_at hl 0 rfl) ?_
      refine hm_geti X hw lkM_223 LM_0 dX11_goes_123 ?_
      refine lv_aload_n hx hb dX11_goes_126 rfl (lv_at hl 0 rfl) ?_
      refine hm_geti X hw lkM_229 LM_0 dX11_goes_127 ?_
      refine lv_isub hx hb dX11_goes_130 ?_
      refine lv_bipush (v := 7) hx hb dX11_goes_131 (by decide) ?_
      refine lv_icmp_ge (tgt := 159) hx hb dX11_goes_133 (by decide) (fun hc => ?_) (fun hc => ?_)
      · have h := Eq.mp (if_pos hc) h
        exact wkM_goes_b159 X hr hlk hR  ih h hw (lv_sub hl [0] rfl)
      · have h := Eq.mp (if_neg hc) h
        refine lv_aload_n hx hb dX11_goes_136 rfl (lv_at hl 0 rfl) ?_
        refine lv_aload_n hx hb dX11_goes_137 rfl (lv_at hl 0 rfl) ?_
        refine hm_getl X hw lkM_232 LM_0 dX11_goes_138 ?_
        refine lv_iconst (v := 5) hx hb dX11_goes_141 (by decide) ?_
        refine lv_lshl (v := (J 0 26) <<< (Int32.toInt64 (5 : Int32) &&& 63)) hx hb dX11_goes_142 rfl ?_
        refine lv_aload_n hx hb dX11_goes_143 rfl (lv_at hl 0 rfl) ?_
        refine lv_aload_n hx hb dX11_goes_144 rfl (lv_at hl 0 rfl) ?_
        refine hm_geti X hw lkM_223 LM_0 dX11_goes_145 ?_
        refine hm_calli hw (hm_runV (rest := [_, _]) hCl_true X hw (cM_byteAt  h) ykM_byteAt kw1626 rfl LM_0 rfl hl.1 rfl rfl rfl (Nat.le_of_ble_eq_true rfl) ⟨Nat.le_trans (Nat.le_of_ble_eq_true rfl) hR.1, Nat.le_trans (Nat.le_of_ble_eq_true rfl) hR.2⟩ ⟨Nat.zero_le _, Nat.zero_le _⟩ dX11_goes_148) (fun r17 u18 H locs hp hw => ?_)
        obtain ⟨rfl, h⟩ := hp
        refine lv_bipush (v := 96) hx hb dX11_goes_151 (by decide) ?_
        refine lv_isub hx hb dX11_goes_153 ?_
        refine lv_i2l (v := Int32.toInt64 (r17 - 96)) hx hb dX11_goes_154 rfl ?_
        refine lv_lor hx hb dX11_goes_155 ?_
        refine hm_putl X hw lkM_232 LM_0 dX11_goes_156 (fun H locs hw => ?_)
        exact wkM_goes_b159 X hr hlk hR  ih h hw (lv_sub hl [0] rfl)

theorem wkM_goes_b50 {I : HI} {J : HJ} {Q : HI → HJ → Prop} (X : hX p m c s args RX11 cX11_goes 2) (hr : meth.sig.returnType = none) (hlk : meth.locks = false) (hR : 1 ≤ R.frames ∧ 21 ≤ R.locals)   : ∀ {ls : Array Slot} {H : Heap} {locs : List Loc}, M_goes_b50 I J Q → hW D cA z Ev0 (I, J, T, FM, LM) A s H locs → lv_has ls 2 [(0, .ref (z + 0))] → W p l e R s m args below meth c H locs 0 0 (MQ below (va_Qv (pIJv T FM LM Q) (hB D cA z A) A) args s 0 0 A) (F0 m 50 ls []) := by
  have hx := X.1
  have hb := X.2.1
  intro ls H locs h hw hl
  unfold M_goes_b50 at h
  refine lv_aload_n hx hb dX11_goes_50 rfl (lv_at hl 0 rfl) ?_
  refine lv_aload_n hx hb dX11_goes_51 rfl (lv_at hl 0 rfl) ?_
  refine hm_geti X hw lkM_223 LM_0 dX11_goes_52 ?_
  refine hm_puti X hw lkM_229 LM_0 rfl rfl dX11_goes_55 (fun H locs hw => ?_)
  refine lv_aload_n hx hb dX11_goes_58 rfl (lv_at hl 0 rfl) ?_
  refine lv_lconst (v := 0) hx hb dX11_goes_59 (by decide) ?_
  refine hm_putl X hw lkM_232 LM_0 dX11_goes_60 (fun H locs hw => ?_)
  refine lv_aload_n hx hb dX11_goes_63 rfl (lv_at hl 0 rfl) ?_
  refine lv_iconst (v := 0) hx hb dX11_goes_64 (by decide) ?_
  refine hm_puti X hw lkM_236 LM_0 rfl rfl dX11_goes_65 (fun H locs hw => ?_)
  refine lv_aload_n hx hb dX11_goes_68 rfl (lv_at hl 0 rfl) ?_
  refine lv_aload_n hx hb dX11_goes_69 rfl (lv_at hl 0 rfl) ?_
  refine hm_geti X hw lkM_223 LM_0 dX11_goes_70 ?_
  refine hm_calli hw (hm_runV (rest := []) hCl_true X hw (cM_byteAt  h) ykM_byteAt kw1626 rfl LM_0 rfl hl.1 rfl rfl rfl (Nat.le_of_ble_eq_true rfl) ⟨Nat.le_trans (Nat.le_of_ble_eq_true rfl) hR.1, Nat.le_trans (Nat.le_of_ble_eq_true rfl) hR.2⟩ ⟨Nat.zero_le _, Nat.zero_le _⟩ dX11_goes_73) (fun r1 u2 H locs hp hw => ?_)
  obtain ⟨rfl, h⟩ := hp
  refine lv_istore_n (lv' := [(1, _), (0, _)]) hx hb dX11_goes_76 rfl hl (by decide) rfl (fun ls hl => ?_)
  refine lv_aload_n hx hb dX11_goes_77 rfl (lv_at hl 1 rfl) ?_
  refine lv_iload_n hx hb dX11_goes_78 rfl (lv_at hl 0 rfl) ?_
  refine hm_puti X hw lkM_239 LM_0 rfl rfl dX11_goes_79 (fun H locs hw => ?_)
  refine lv_aload_n hx hb dX11_goes_82 rfl (lv_at hl 1 rfl) ?_
  refine hm_geti X hw lkM_223 LM_0 dX11_goes_83 ?_
  refine lv_aload_n hx hb dX11_goes_86 rfl (lv_at hl 1 rfl) ?_
  refine hm_geti X hw lkM_220 LM_0 dX11_goes_87 ?_
  refine lv_icmp_lt (tgt := 101) hx hb dX11_goes_90 (by decide) (fun hc => ?_) (fun hc => ?_)
  · have h := Eq.mp (if_pos hc) h
    refine lv_iload_n hx hb dX11_goes_101 rfl (lv_at hl 0 rfl) ?_
    refine hm_calli hw (hm_runS (rest := []) hCl_true X hw (cM_isLetter  h) ykM_isLetter kw1630 rfl hl.1 rfl rfl rfl (Nat.le_of_ble_eq_true rfl) ⟨Nat.le_trans (Nat.le_of_ble_eq_true rfl) hR.1, Nat.le_trans (Nat.le_of_ble_eq_true rfl) hR.2⟩ ⟨Nat.zero_le _, Nat.zero_le _⟩ dX11_goes_102) (fun r3 u4 H locs hp hw => ?_)
    obtain ⟨rfl, h⟩ := hp
    refine lv_if_eq (tgt := 180) hx hb dX11_goes_105 (by decide) (fun hc => ?_) (fun hc => ?_)
    · have h := Eq.mp (if_pos hc) h
      refine lv_iload_n hx hb dX11_goes_180 rfl (lv_at hl 0 rfl) ?_
      refine hm_calli hw (hm_runS (rest := []) hCl_true X hw (cM_isDigit  h) ykM_isDigit kw1633 rfl hl.1 rfl rfl rfl (Nat.le_of_ble_eq_true rfl) ⟨Nat.le_trans (Nat.le_of_ble_eq_true rfl) hR.1, Nat.le_trans (Nat.le_of_ble_eq_true rfl) hR.2⟩ ⟨Nat.zero_le _, Nat.zero_le _⟩ dX11_goes_181) (fun r5 u6 H locs hp hw => ?_)
      obtain ⟨rfl, h⟩ := hp
      refine lv_if_eq (tgt := 258) hx hb dX11_goes_184 (by decide) (fun hc => ?_) (fun hc => ?_)
      · have h := Eq.mp (if_pos hc) h
        refine lv_aload_n hx hb dX11_goes_258 rfl (lv_at hl 1 rfl) ?_
        refine lv_dup hx hb dX11_goes_259 rfl ?_
        refine hm_geti X hw lkM_223 LM_0 dX11_goes_260 ?_
        refine lv_iconst (v := 1) hx hb dX11_goes_263 (by decide) ?_
        refine lv_iadd hx hb dX11_goes_264 ?_
        refine hm_puti X hw lkM_223 LM_0 rfl rfl dX11_goes_265 (fun H locs hw => ?_)
        refine lv_aload_n hx hb dX11_goes_268 rfl (lv_at hl 1 rfl) ?_
        refine lv_iload_n hx hb dX11_goes_269 rfl (lv_at hl 0 rfl) ?_
        refine lv_bipush (v := 59) hx hb dX11_goes_270 (by decide) ?_
        refine lv_icmp_eq (tgt := 323) hx hb dX11_goes_272 (by decide) (fun hc => ?_) (fun hc => ?_)
        · have h := Eq.mp (if_pos hc) h
          refine lv_iconst (v := 3) hx hb dX11_goes_323 (by decide) ?_
          refine lv_goto (tgt := 328) hx hb dX11_goes_324 (by decide) ?_
          exact wkM_goes_b328 X hr hlk hR   h hw (lv_sub hl [1] rfl)
        · have h := Eq.mp (if_neg hc) h
          refine lv_iload_n hx hb dX11_goes_275 rfl (lv_at hl 0 rfl) ?_
          refine lv_bipush (v := 40) hx hb dX11_goes_276 (by decide) ?_
          refine lv_icmp_eq (tgt := 323) hx hb dX11_goes_278 (by decide) (fun hc => ?_) (fun hc => ?_)
          · have h := Eq.mp (if_pos hc) h
            refine lv_iconst (v := 3) hx hb dX11_goes_323 (by decide) ?_
            refine lv_goto (tgt := 328) hx hb dX11_goes_324 (by decide) ?_
            exact wkM_goes_b328 X hr hlk hR   h hw (lv_sub hl [1] rfl)
          · have h := Eq.mp (if_neg hc) h
            refine lv_iload_n hx hb dX11_goes_281 rfl (lv_at hl 0 rfl) ?_
            refine lv_bipush (v := 41) hx hb dX11_goes_282 (by decide) ?_
            refine lv_icmp_eq (tgt := 323) hx hb dX11_goes_284 (by decide) (fun hc => ?_) (fun hc => ?_)
            · have h := Eq.mp (if_pos hc) h
              refine lv_iconst (v := 3) hx hb dX11_goes_323 (by decide) ?_
              refine lv_goto (tgt := 328) hx hb dX11_goes_324 (by decide) ?_
              exact wkM_goes_b328 X hr hlk hR   h hw (lv_sub hl [1] rfl)
            · have h := Eq.mp (if_neg hc) h
              refine lv_iload_n hx hb dX11_goes_287 rfl (lv_at hl 0 rfl) ?_
              refine lv_bipush (v := 43) hx hb dX11_goes_288 (by decide) ?_
              refine lv_icmp_eq (tgt := 323) hx hb dX11_goes_290 (by decide) (fun hc => ?_) (fun hc => ?_)
              · have h := Eq.mp (if_pos hc) h
                refine lv_iconst (v := 3) hx hb dX11_goes_323 (by decide) ?_
                refine lv_goto (tgt := 328) hx hb dX11_goes_324 (by decide) ?_
                exact wkM_goes_b328 X hr hlk hR   h hw (lv_sub hl [1] rfl)
              · have h := Eq.mp (if_neg hc) h
                refine lv_iload_n hx hb dX11_goes_293 rfl (lv_at hl 0 rfl) ?_
                refine lv_bipush (v := 45) hx hb dX11_goes_294 (by decide) ?_
                refine lv_icmp_eq (tgt := 323) hx hb dX11_goes_296 (by decide) (fun hc => ?_) (fun hc => ?_)
                · have h := Eq.mp (if_pos hc) h
                  refine lv_iconst (v := 3) hx hb dX11_goes_323 (by decide) ?_
                  refine lv_goto (tgt := 328) hx hb dX11_goes_324 (by decide) ?_
                  exact wkM_goes_b328 X hr hlk hR   h hw (lv_sub hl [1] rfl)
                · have h := Eq.mp (if_neg hc) h
                  refine lv_iload_n hx hb dX11_goes_299 rfl (lv_at hl 0 rfl) ?_
                  refine lv_bipush (v := 42) hx hb dX11_goes_300 (by decide) ?_
                  refine lv_icmp_eq (tgt := 323) hx hb dX11_goes_302 (by decide) (fun hc => ?_) (fun hc => ?_)
                  · have h := Eq.mp (if_pos hc) h
                    refine lv_iconst (v := 3) hx hb dX11_goes_323 (by decide) ?_
                    refine lv_goto (tgt := 328) hx hb dX11_goes_324 (by decide) ?_
                    exact wkM_goes_b328 X hr hlk hR   h hw (lv_sub hl [1] rfl)
                  · have h := Eq.mp (if_neg hc) h
                    refine lv_iload_n hx hb dX11_goes_305 rfl (lv_at hl 0 rfl) ?_
                    refine lv_bipush (v := 47) hx hb dX11_goes_306 (by decide) ?_
                    refine lv_icmp_eq (tgt := 323) hx hb dX11_goes_308 (by decide) (fun hc => ?_) (fun hc => ?_)
                    · have h := Eq.mp (if_pos hc) h
                      refine lv_iconst (v := 3) hx hb dX11_goes_323 (by decide) ?_
                      refine lv_goto (tgt := 328) hx hb dX11_goes_324 (by decide) ?_
                      exact wkM_goes_b328 X hr hlk hR   h hw (lv_sub hl [1] rfl)
                    · have h := Eq.mp (if_neg hc) h
                      refine lv_iload_n hx hb dX11_goes_311 rfl (lv_at hl 0 rfl) ?_
                      refine lv_bipush (v := 60) hx hb dX11_goes_312 (by decide) ?_
                      refine lv_icmp_eq (tgt := 323) hx hb dX11_goes_314 (by decide) (fun hc => ?_) (fun hc => ?_)
                      · have h := Eq.mp (if_pos hc) h
                        refine lv_iconst (v := 3) hx hb dX11_goes_323 (by decide) ?_
                        refine lv_goto (tgt := 328) hx hb dX11_goes_324 (by decide) ?_
                        exact wkM_goes_b328 X hr hlk hR   h hw (lv_sub hl [1] rfl)
                      · have h := Eq.mp (if_neg hc) h
                        refine lv_iload_n hx hb dX11_goes_317 rfl (lv_at hl 0 rfl) ?_
                        refine lv_bipush (v := 61) hx hb dX11_goes_318 (by decide) ?_
                        refine lv_icmp_ne (tgt := 327) hx hb dX11_goes_320 (by decide) (fun hc => ?_) (fun hc => ?_)
                        · have h := Eq.mp (if_neg hc) h
                          refine lv_iconst (v := 4) hx hb dX11_goes_327 (by decide) ?_
                          exact wkM_goes_b328 X hr hlk hR   h hw (lv_sub hl [1] rfl)
                        · have h := Eq.mp (if_pos hc) h
                          refine lv_iconst (v := 3) hx hb dX11_goes_323 (by decide) ?_
                          refine lv_goto (tgt := 328) hx hb dX11_goes_324 (by decide) ?_
                          exact wkM_goes_b328 X hr hlk hR   h hw (lv_sub hl [1] rfl)
      · have h := Eq.mp (if_neg hc) h
        obtain ⟨n2, h⟩ := h
        exact wkM_goes_l187 X hr hlk hR   n2 _ h hw (lv_sub hl [1] rfl)
    · have h := Eq.mp (if_neg hc) h
      obtain ⟨n2, h⟩ := h
      exact wkM_goes_l108 X hr hlk hR   n2 _ _ h hw (lv_sub hl [1] rfl)
  · have h := Eq.mp (if_neg hc) h
    refine lv_aload_n hx hb dX11_goes_93 rfl (lv_at hl 1 rfl) ?_
    refine lv_iconst (v := 0) hx hb dX11_goes_94 (by decide) ?_
    refine hm_puti X hw lkM_242 LM_0 rfl rfl dX11_goes_95 (fun H locs hw => ?_)
    refine lv_goto (tgt := 331) hx hb dX11_goes_98 (by decide) ?_
    exact wkM_goes_b331 X hr hlk hR   h hw (lv_sub hl [1] rfl)

theorem wkM_goes_b37 {I : HI} {J : HJ} {K0 : HI → Prop} {Q : HI → HJ → Prop} (X : hX p m c s args RX11 cX11_goes 2) (hr : meth.sig.returnType = none) (hlk : meth.locks = false) (hR : 1 ≤ R.frames ∧ 21 ≤ R.locals)  (hK0 : ∀ (I : HI) {ls : Array Slot} {H : Heap} {locs : List Loc}, K0 I → hW D cA z Ev0 (I, J, T, FM, LM) A s H locs → lv_has ls 2 [(0, .ref (z + 0))] → W p l e R s m args below meth c H locs 0 0 (MQ below (va_Qv (pIJv T FM LM Q) (hB D cA z A) A) args s 0 0 A) (F0 m 0 ls [])) : ∀ {ls : Array Slot} {H : Heap} {locs : List Loc}, M_goes_b37 I J K0 Q → hW D cA z Ev0 (I, J, T, FM, LM) A s H locs → lv_has ls 2 [(0, .ref (z + 0))] → W p l e R s m args below meth c H locs 0 0 (MQ below (va_Qv (pIJv T FM LM Q) (hB D cA z A) A) args s 0 0 A) (F0 m 37 ls []) := by
  have hx := X.1
  have hb := X.2.1
  intro ls H locs h hw hl
  unfold M_goes_b37 at h
  refine lv_aload_n hx hb dX11_goes_37 rfl (lv_at hl 0 rfl) ?_
  refine lv_dup hx hb dX11_goes_38 rfl ?_
  refine hm_geti X hw lkM_223 LM_0 dX11_goes_39 ?_
  refine lv_iconst (v := 1) hx hb dX11_goes_42 (by decide) ?_
  refine lv_iadd hx hb dX11_goes_43 ?_
  refine hm_puti X hw lkM_223 LM_0 rfl rfl dX11_goes_44 (fun H locs hw => ?_)
  refine lv_goto (tgt := 0) hx hb dX11_goes_47 (by decide) ?_
  exact hK0 _ h hw (lv_sub hl [0] rfl)

theorem wkM_goes_l0 {J : HJ} {Q : HI → HJ → Prop} (X : hX p m c s args RX11 cX11_goes 2) (hr : meth.sig.returnType = none) (hlk : meth.locks = false) (hR : 1 ≤ R.frames ∧ 21 ≤ R.locals)   : ∀ (n : Nat) (I : HI) {ls : Array Slot} {H : Heap} {locs : List Loc}, M_goes_l0 J Q n I → hW D cA z Ev0 (I, J, T, FM, LM) A s H locs → lv_has ls 2 [(0, .ref (z + 0))] → W p l e R s m args below meth c H locs 0 0 (MQ below (va_Qv (pIJv T FM LM Q) (hB D cA z A) A) args s 0 0 A) (F0 m 0 ls []) := by
  have hx := X.1
  have hb := X.2.1
  intro n
  induction n with
  | zero => intro I ls H locs h; exact False.elim h
  | succ n ih =>
    intro I ls H locs h hw hl
    rw [M_goes_l0] at h
    refine lv_aload_n hx hb dX11_goes_0 rfl (lv_at hl 0 rfl) ?_
    refine hm_geti X hw lkM_223 LM_0 dX11_goes_1 ?_
    refine lv_aload_n hx hb dX11_goes_4 rfl (lv_at hl 0 rfl) ?_
    refine hm_geti X hw lkM_220 LM_0 dX11_goes_5 ?_
    refine lv_icmp_ge (tgt := 50) hx hb dX11_goes_8 (by decide) (fun hc => ?_) (fun hc => ?_)
    · have h := Eq.mp (if_pos hc) h
      exact wkM_goes_b50 X hr hlk hR   h hw (lv_sub hl [0] rfl)
    · have h := Eq.mp (if_neg hc) h
      refine lv_aload_n hx hb dX11_goes_11 rfl (lv_at hl 0 rfl) ?_
      refine lv_aload_n hx hb dX11_goes_12 rfl (lv_at hl 0 rfl) ?_
      refine hm_geti X hw lkM_223 LM_0 dX11_goes_13 ?_
      refine hm_calli hw (hm_runV (rest := []) hCl_true X hw (cM_byteAt  h) ykM_byteAt kw1626 rfl LM_0 rfl hl.1 rfl rfl rfl (Nat.le_of_ble_eq_true rfl) ⟨Nat.le_trans (Nat.le_of_ble_eq_true rfl) hR.1, Nat.le_trans (Nat.le_of_ble_eq_true rfl) hR.2⟩ ⟨Nat.zero_le _, Nat.zero_le _⟩ dX11_goes_16) (fun r19 u20 H locs hp hw => ?_)
      obtain ⟨rfl, h⟩ := hp
      refine lv_bipush (v := 32) hx hb dX11_goes_19 (by decide) ?_
      refine lv_icmp_eq (tgt := 37) hx hb dX11_goes_21 (by decide) (fun hc => ?_) (fun hc => ?_)
      · have h := Eq.mp (if_pos hc) h
        exact wkM_goes_b37 X hr hlk hR  ih h hw (lv_sub hl [0] rfl)
      · have h := Eq.mp (if_neg hc) h
        refine lv_aload_n hx hb dX11_goes_24 rfl (lv_at hl 0 rfl) ?_
        refine lv_aload_n hx hb dX11_goes_25 rfl (lv_at hl 0 rfl) ?_
        refine hm_geti X hw lkM_223 LM_0 dX11_goes_26 ?_
        refine hm_calli hw (hm_runV (rest := []) hCl_true X hw (cM_byteAt  h) ykM_byteAt kw1626 rfl LM_0 rfl hl.1 rfl rfl rfl (Nat.le_of_ble_eq_true rfl) ⟨Nat.le_trans (Nat.le_of_ble_eq_true rfl) hR.1, Nat.le_trans (Nat.le_of_ble_eq_true rfl) hR.2⟩ ⟨Nat.zero_le _, Nat.zero_le _⟩ dX11_goes_29) (fun r21 u22 H locs hp hw => ?_)
        obtain ⟨rfl, h⟩ := hp
        refine lv_bipush (v := 10) hx hb dX11_goes_32 (by decide) ?_
        refine lv_icmp_ne (tgt := 50) hx hb dX11_goes_34 (by decide) (fun hc => ?_) (fun hc => ?_)
        · have h := Eq.mp (if_neg hc) h
          exact wkM_goes_b50 X hr hlk hR   h hw (lv_sub hl [0] rfl)
        · have h := Eq.mp (if_pos hc) h
          exact wkM_goes_b37 X hr hlk hR  ih h hw (lv_sub hl [0] rfl)

theorem cM_goes {l : Launch} {D : va_G} {cA : Nat → ClassId} {z sz : Nat} {I : HI} {J : HJ}  {Q : HI → HJ → Prop}  (h : M_goes I J  Q) : Met l yX11_goes (hws0 yX11_goes cX11_goes 2 none) { frames := 1, cells := 0, slots := 0, locals := 21 } (hPc D cA z Ev0 (I, J, T, FM, LM) sz [.ref (z + 0)]) (va_Qv (pIJv T FM LM Q) (hB D cA z (hA z LM sz)) (hA z LM sz)) 0 0 (hA z LM sz) := by
  refine hm_met (I, J, T, FM, LM) [.ref (z + 0)] rfl (by decide) (Nat.le_of_ble_eq_true rfl) ?_
  intro p e s m below meth c ls X hr hlk hnm hxt hsz hw hl
  have hl : lv_has ls 2 [(0, .ref (z + 0))] := hl
  have hR : 1 ≤ ({ frames := 1, cells := 0, slots := 0, locals := 21 } : Room).frames ∧ 21 ≤ ({ frames := 1, cells := 0, slots := 0, locals := 21 } : Room).locals := ⟨Nat.le_refl _, Nat.le_refl _⟩
  generalize ({ frames := 1, cells := 0, slots := 0, locals := 21 } : Room) = R at hR ⊢
  clear hsz
  generalize (hA z LM sz) = A at hw ⊢
  have hx := X.1
  have hb := X.2.1
  unfold M_goes at h
  obtain ⟨n2, h⟩ := h
  exact wkM_goes_l0 X hr hlk hR   n2 _ h hw (lv_sub hl [0] rfl)

end
