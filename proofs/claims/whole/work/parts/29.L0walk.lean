theorem dL_looks_0 : decode cL_looks 0 = .ok (.aload_n 3, 1) := by decide +kernel
theorem dL_looks_1 : decode cL_looks 1 = .ok (.iconst 0, 1) := by decide +kernel
theorem dL_looks_2 : decode cL_looks 2 = .ok (.aload_n 0, 1) := by decide +kernel
theorem dL_looks_3 : decode cL_looks 3 = .ok (.iload_n 1, 1) := by decide +kernel
theorem dL_looks_4 : decode cL_looks 4 = .ok (.iload_n 2, 1) := by decide +kernel
theorem dL_looks_5 : decode cL_looks 5 = .ok (.invokevirtual 7, 3) := by decide +kernel
theorem dL_looks_8 : decode cL_looks 8 = .ok (.ifCond .eq 7, 3) := by decide +kernel
theorem dL_looks_11 : decode cL_looks 11 = .ok (.lconst 1, 1) := by decide +kernel
theorem dL_looks_12 : decode cL_looks 12 = .ok (.goto 4, 3) := by decide +kernel
theorem dL_looks_15 : decode cL_looks 15 = .ok (.lconst 0, 1) := by decide +kernel
theorem dL_looks_16 : decode cL_looks 16 = .ok (.lastore, 1) := by decide +kernel
theorem dL_looks_17 : decode cL_looks 17 = .ok (.goto 7, 3) := by decide +kernel
theorem dL_looks_20 : decode cL_looks 20 = .ok (.astore 4, 2) := by decide +kernel
theorem dL_looks_22 : decode cL_looks 22 = .ok (.iconst 1, 1) := by decide +kernel
theorem dL_looks_23 : decode cL_looks 23 = .ok (.ireturn, 1) := by decide +kernel
theorem dL_looks_24 : decode cL_looks 24 = .ok (.iconst 0, 1) := by decide +kernel
theorem dL_looks_25 : decode cL_looks 25 = .ok (.ireturn, 1) := by decide +kernel
theorem dL_round_0 : decode cL_round 0 = .ok (.aload_n 3, 1) := by decide +kernel
theorem dL_round_1 : decode cL_round 1 = .ok (.iconst 0, 1) := by decide +kernel
theorem dL_round_2 : decode cL_round 2 = .ok (.aload_n 0, 1) := by decide +kernel
theorem dL_round_3 : decode cL_round 3 = .ok (.iload_n 1, 1) := by decide +kernel
theorem dL_round_4 : decode cL_round 4 = .ok (.iload_n 2, 1) := by decide +kernel
theorem dL_round_5 : decode cL_round 5 = .ok (.invokevirtual 15, 3) := by decide +kernel
theorem dL_round_8 : decode cL_round 8 = .ok (.ifCond .eq 7, 3) := by decide +kernel
theorem dL_round_11 : decode cL_round 11 = .ok (.lconst 1, 1) := by decide +kernel
theorem dL_round_12 : decode cL_round 12 = .ok (.goto 4, 3) := by decide +kernel
theorem dL_round_15 : decode cL_round 15 = .ok (.lconst 0, 1) := by decide +kernel
theorem dL_round_16 : decode cL_round 16 = .ok (.lastore, 1) := by decide +kernel
theorem dL_round_17 : decode cL_round 17 = .ok (.goto 7, 3) := by decide +kernel
theorem dL_round_20 : decode cL_round 20 = .ok (.astore 4, 2) := by decide +kernel
theorem dL_round_22 : decode cL_round 22 = .ok (.iconst 1, 1) := by decide +kernel
theorem dL_round_23 : decode cL_round 23 = .ok (.ireturn, 1) := by decide +kernel
theorem dL_round_24 : decode cL_round 24 = .ok (.iconst 0, 1) := by decide +kernel
theorem dL_round_25 : decode cL_round 25 = .ok (.ireturn, 1) := by decide +kernel
theorem dL_rules_0 : decode cL_rules 0 = .ok (.aload_n 2, 1) := by decide +kernel
theorem dL_rules_1 : decode cL_rules 1 = .ok (.iconst 0, 1) := by decide +kernel
theorem dL_rules_2 : decode cL_rules 2 = .ok (.aload_n 0, 1) := by decide +kernel
theorem dL_rules_3 : decode cL_rules 3 = .ok (.iload_n 1, 1) := by decide +kernel
theorem dL_rules_4 : decode cL_rules 4 = .ok (.invokevirtual 18, 3) := by decide +kernel
theorem dL_rules_7 : decode cL_rules 7 = .ok (.i2l, 1) := by decide +kernel
theorem dL_rules_8 : decode cL_rules 8 = .ok (.lastore, 1) := by decide +kernel
theorem dL_rules_9 : decode cL_rules 9 = .ok (.goto 6, 3) := by decide +kernel
theorem dL_rules_12 : decode cL_rules 12 = .ok (.astore_n 3, 1) := by decide +kernel
theorem dL_rules_13 : decode cL_rules 13 = .ok (.iconst 1, 1) := by decide +kernel
theorem dL_rules_14 : decode cL_rules 14 = .ok (.ireturn, 1) := by decide +kernel
theorem dL_rules_15 : decode cL_rules 15 = .ok (.iconst 0, 1) := by decide +kernel
theorem dL_rules_16 : decode cL_rules 16 = .ok (.ireturn, 1) := by decide +kernel
theorem dL_about_0 : decode cL_about 0 = .ok (.aload_n 3, 1) := by decide +kernel
theorem dL_about_1 : decode cL_about 1 = .ok (.iconst 0, 1) := by decide +kernel
theorem dL_about_2 : decode cL_about 2 = .ok (.aload_n 0, 1) := by decide +kernel
theorem dL_about_3 : decode cL_about 3 = .ok (.iload_n 1, 1) := by decide +kernel
theorem dL_about_4 : decode cL_about 4 = .ok (.iload_n 2, 1) := by decide +kernel
theorem dL_about_5 : decode cL_about 5 = .ok (.invokevirtual 24, 3) := by decide +kernel
theorem dL_about_8 : decode cL_about 8 = .ok (.i2l, 1) := by decide +kernel
theorem dL_about_9 : decode cL_about 9 = .ok (.lastore, 1) := by decide +kernel
theorem dL_about_10 : decode cL_about 10 = .ok (.goto 7, 3) := by decide +kernel
theorem dL_about_13 : decode cL_about 13 = .ok (.astore 4, 2) := by decide +kernel
theorem dL_about_15 : decode cL_about 15 = .ok (.iconst 1, 1) := by decide +kernel
theorem dL_about_16 : decode cL_about 16 = .ok (.ireturn, 1) := by decide +kernel
theorem dL_about_17 : decode cL_about 17 = .ok (.iconst 0, 1) := by decide +kernel
theorem dL_about_18 : decode cL_about 18 = .ok (.ireturn, 1) := by decide +kernel
theorem dL_tell_0 : decode cL_tell 0 = .ok (.aload 4, 2) := by decide +kernel
theorem dL_tell_2 : decode cL_tell 2 = .ok (.iconst 0, 1) := by decide +kernel
theorem dL_tell_3 : decode cL_tell 3 = .ok (.aload_n 0, 1) := by decide +kernel
theorem dL_tell_4 : decode cL_tell 4 = .ok (.iload_n 1, 1) := by decide +kernel
theorem dL_tell_5 : decode cL_tell 5 = .ok (.iload_n 2, 1) := by decide +kernel
theorem dL_tell_6 : decode cL_tell 6 = .ok (.iload_n 3, 1) := by decide +kernel
theorem dL_tell_7 : decode cL_tell 7 = .ok (.invokevirtual 28, 3) := by decide +kernel
theorem dL_tell_10 : decode cL_tell 10 = .ok (.ifCond .eq 7, 3) := by decide +kernel
theorem dL_tell_13 : decode cL_tell 13 = .ok (.lconst 1, 1) := by decide +kernel
theorem dL_tell_14 : decode cL_tell 14 = .ok (.goto 4, 3) := by decide +kernel
theorem dL_tell_17 : decode cL_tell 17 = .ok (.lconst 0, 1) := by decide +kernel
theorem dL_tell_18 : decode cL_tell 18 = .ok (.lastore, 1) := by decide +kernel
theorem dL_tell_19 : decode cL_tell 19 = .ok (.goto 7, 3) := by decide +kernel
theorem dL_tell_22 : decode cL_tell 22 = .ok (.astore 5, 2) := by decide +kernel
theorem dL_tell_24 : decode cL_tell 24 = .ok (.iconst 1, 1) := by decide +kernel
theorem dL_tell_25 : decode cL_tell 25 = .ok (.ireturn, 1) := by decide +kernel
theorem dL_tell_26 : decode cL_tell 26 = .ok (.iconst 0, 1) := by decide +kernel
theorem dL_tell_27 : decode cL_tell 27 = .ok (.ireturn, 1) := by decide +kernel
theorem dL_cell_0 : decode cL_cell 0 = .ok (.aload_n 3, 1) := by decide +kernel
theorem dL_cell_1 : decode cL_cell 1 = .ok (.iconst 0, 1) := by decide +kernel
theorem dL_cell_2 : decode cL_cell 2 = .ok (.aload_n 0, 1) := by decide +kernel
theorem dL_cell_3 : decode cL_cell 3 = .ok (.iload_n 1, 1) := by decide +kernel
theorem dL_cell_4 : decode cL_cell 4 = .ok (.iload_n 2, 1) := by decide +kernel
theorem dL_cell_5 : decode cL_cell 5 = .ok (.invokevirtual 32, 3) := by decide +kernel
theorem dL_cell_8 : decode cL_cell 8 = .ok (.i2l, 1) := by decide +kernel
theorem dL_cell_9 : decode cL_cell 9 = .ok (.lastore, 1) := by decide +kernel
theorem dL_cell_10 : decode cL_cell 10 = .ok (.goto 7, 3) := by decide +kernel
theorem dL_cell_13 : decode cL_cell 13 = .ok (.astore 4, 2) := by decide +kernel
theorem dL_cell_15 : decode cL_cell 15 = .ok (.iconst 1, 1) := by decide +kernel
theorem dL_cell_16 : decode cL_cell 16 = .ok (.ireturn, 1) := by decide +kernel
theorem dL_cell_17 : decode cL_cell 17 = .ok (.iconst 0, 1) := by decide +kernel
theorem dL_cell_18 : decode cL_cell 18 = .ok (.ireturn, 1) := by decide +kernel
theorem dL_in_0 : decode cL_in 0 = .ok (.aload 4, 2) := by decide +kernel
theorem dL_in_2 : decode cL_in 2 = .ok (.iconst 0, 1) := by decide +kernel
theorem dL_in_3 : decode cL_in 3 = .ok (.aload_n 0, 1) := by decide +kernel
theorem dL_in_4 : decode cL_in 4 = .ok (.iload_n 1, 1) := by decide +kernel
theorem dL_in_5 : decode cL_in 5 = .ok (.iload_n 2, 1) := by decide +kernel
theorem dL_in_6 : decode cL_in 6 = .ok (.iload_n 3, 1) := by decide +kernel
theorem dL_in_7 : decode cL_in 7 = .ok (.invokevirtual 35, 3) := by decide +kernel
theorem dL_in_10 : decode cL_in 10 = .ok (.i2l, 1) := by decide +kernel
theorem dL_in_11 : decode cL_in 11 = .ok (.lastore, 1) := by decide +kernel
theorem dL_in_12 : decode cL_in 12 = .ok (.goto 7, 3) := by decide +kernel
theorem dL_in_15 : decode cL_in 15 = .ok (.astore 5, 2) := by decide +kernel
theorem dL_in_17 : decode cL_in 17 = .ok (.iconst 1, 1) := by decide +kernel
theorem dL_in_18 : decode cL_in 18 = .ok (.ireturn, 1) := by decide +kernel
theorem dL_in_19 : decode cL_in 19 = .ok (.iconst 0, 1) := by decide +kernel
theorem dL_in_20 : decode cL_in 20 = .ok (.ireturn, 1) := by decide +kernel
theorem dL_row_0 : decode cL_row 0 = .ok (.aload_n 3, 1) := by decide +kernel
theorem dL_row_1 : decode cL_row 1 = .ok (.iconst 0, 1) := by decide +kernel
theorem dL_row_2 : decode cL_row 2 = .ok (.aload_n 0, 1) := by decide +kernel
theorem dL_row_3 : decode cL_row 3 = .ok (.iload_n 1, 1) := by decide +kernel
theorem dL_row_4 : decode cL_row 4 = .ok (.iload_n 2, 1) := by decide +kernel
theorem dL_row_5 : decode cL_row 5 = .ok (.invokevirtual 39, 3) := by decide +kernel
theorem dL_row_8 : decode cL_row 8 = .ok (.i2l, 1) := by decide +kernel
theorem dL_row_9 : decode cL_row 9 = .ok (.lastore, 1) := by decide +kernel
theorem dL_row_10 : decode cL_row 10 = .ok (.goto 7, 3) := by decide +kernel
theorem dL_row_13 : decode cL_row 13 = .ok (.astore 4, 2) := by decide +kernel
theorem dL_row_15 : decode cL_row 15 = .ok (.iconst 1, 1) := by decide +kernel
theorem dL_row_16 : decode cL_row 16 = .ok (.ireturn, 1) := by decide +kernel
theorem dL_row_17 : decode cL_row 17 = .ok (.iconst 0, 1) := by decide +kernel
theorem dL_row_18 : decode cL_row 18 = .ok (.ireturn, 1) := by decide +kernel
theorem dL_won_0 : decode cL_won 0 = .ok (.aload_n 2, 1) := by decide +kernel
theorem dL_won_1 : decode cL_won 1 = .ok (.iconst 0, 1) := by decide +kernel
theorem dL_won_2 : decode cL_won 2 = .ok (.aload_n 0, 1) := by decide +kernel
theorem dL_won_3 : decode cL_won 3 = .ok (.iload_n 1, 1) := by decide +kernel
theorem dL_won_4 : decode cL_won 4 = .ok (.invokevirtual 42, 3) := by decide +kernel
theorem dL_won_7 : decode cL_won 7 = .ok (.lastore, 1) := by decide +kernel
theorem dL_won_8 : decode cL_won 8 = .ok (.goto 6, 3) := by decide +kernel
theorem dL_won_11 : decode cL_won 11 = .ok (.astore_n 3, 1) := by decide +kernel
theorem dL_won_12 : decode cL_won 12 = .ok (.iconst 1, 1) := by decide +kernel
theorem dL_won_13 : decode cL_won 13 = .ok (.ireturn, 1) := by decide +kernel
theorem dL_won_14 : decode cL_won 14 = .ok (.iconst 0, 1) := by decide +kernel
theorem dL_won_15 : decode cL_won 15 = .ok (.ireturn, 1) := by decide +kernel
theorem dL_rightOf_0 : decode cL_rightOf 0 = .ok (.aload_n 2, 1) := by decide +kernel
theorem dL_rightOf_1 : decode cL_rightOf 1 = .ok (.iconst 0, 1) := by decide +kernel
theorem dL_rightOf_2 : decode cL_rightOf 2 = .ok (.aload_n 0, 1) := by decide +kernel
theorem dL_rightOf_3 : decode cL_rightOf 3 = .ok (.iload_n 1, 1) := by decide +kernel
theorem dL_rightOf_4 : decode cL_rightOf 4 = .ok (.invokevirtual 46, 3) := by decide +kernel
theorem dL_rightOf_7 : decode cL_rightOf 7 = .ok (.i2l, 1) := by decide +kernel
theorem dL_rightOf_8 : decode cL_rightOf 8 = .ok (.lastore, 1) := by decide +kernel
theorem dL_rightOf_9 : decode cL_rightOf 9 = .ok (.goto 6, 3) := by decide +kernel
theorem dL_rightOf_12 : decode cL_rightOf 12 = .ok (.astore_n 3, 1) := by decide +kernel
theorem dL_rightOf_13 : decode cL_rightOf 13 = .ok (.iconst 1, 1) := by decide +kernel
theorem dL_rightOf_14 : decode cL_rightOf 14 = .ok (.ireturn, 1) := by decide +kernel
theorem dL_rightOf_15 : decode cL_rightOf 15 = .ok (.iconst 0, 1) := by decide +kernel
theorem dL_rightOf_16 : decode cL_rightOf 16 = .ok (.ireturn, 1) := by decide +kernel
theorem dL_worst_0 : decode cL_worst 0 = .ok (.aload_n 2, 1) := by decide +kernel
theorem dL_worst_1 : decode cL_worst 1 = .ok (.iconst 0, 1) := by decide +kernel
theorem dL_worst_2 : decode cL_worst 2 = .ok (.aload_n 0, 1) := by decide +kernel
theorem dL_worst_3 : decode cL_worst 3 = .ok (.iload_n 1, 1) := by decide +kernel
theorem dL_worst_4 : decode cL_worst 4 = .ok (.invokevirtual 49, 3) := by decide +kernel
theorem dL_worst_7 : decode cL_worst 7 = .ok (.i2l, 1) := by decide +kernel
theorem dL_worst_8 : decode cL_worst 8 = .ok (.lastore, 1) := by decide +kernel
theorem dL_worst_9 : decode cL_worst 9 = .ok (.goto 6, 3) := by decide +kernel
theorem dL_worst_12 : decode cL_worst 12 = .ok (.astore_n 3, 1) := by decide +kernel
theorem dL_worst_13 : decode cL_worst 13 = .ok (.iconst 1, 1) := by decide +kernel
theorem dL_worst_14 : decode cL_worst 14 = .ok (.ireturn, 1) := by decide +kernel
theorem dL_worst_15 : decode cL_worst 15 = .ok (.iconst 0, 1) := by decide +kernel
theorem dL_worst_16 : decode cL_worst 16 = .ok (.ireturn, 1) := by decide +kernel
theorem dL_idle_0 : decode cL_idle 0 = .ok (.aload_n 2, 1) := by decide +kernel
theorem dL_idle_1 : decode cL_idle 1 = .ok (.iconst 0, 1) := by decide +kernel
theorem dL_idle_2 : decode cL_idle 2 = .ok (.aload_n 0, 1) := by decide +kernel
theorem dL_idle_3 : decode cL_idle 3 = .ok (.iload_n 1, 1) := by decide +kernel
theorem dL_idle_4 : decode cL_idle 4 = .ok (.invokevirtual 52, 3) := by decide +kernel
theorem dL_idle_7 : decode cL_idle 7 = .ok (.i2l, 1) := by decide +kernel
theorem dL_idle_8 : decode cL_idle 8 = .ok (.lastore, 1) := by decide +kernel
theorem dL_idle_9 : decode cL_idle 9 = .ok (.goto 6, 3) := by decide +kernel
theorem dL_idle_12 : decode cL_idle 12 = .ok (.astore_n 3, 1) := by decide +kernel
theorem dL_idle_13 : decode cL_idle 13 = .ok (.iconst 1, 1) := by decide +kernel
theorem dL_idle_14 : decode cL_idle 14 = .ok (.ireturn, 1) := by decide +kernel
theorem dL_idle_15 : decode cL_idle 15 = .ok (.iconst 0, 1) := by decide +kernel
theorem dL_idle_16 : decode cL_idle 16 = .ok (.ireturn, 1) := by decide +kernel
theorem dL_otherwise_0 : decode cL_otherwise 0 = .ok (.aload_n 3, 1) := by decide +kernel
theorem dL_otherwise_1 : decode cL_otherwise 1 = .ok (.iconst 0, 1) := by decide +kernel
theorem dL_otherwise_2 : decode cL_otherwise 2 = .ok (.aload_n 0, 1) := by decide +kernel
theorem dL_otherwise_3 : decode cL_otherwise 3 = .ok (.iload_n 1, 1) := by decide +kernel
theorem dL_otherwise_4 : decode cL_otherwise 4 = .ok (.iload_n 2, 1) := by decide +kernel
theorem dL_otherwise_5 : decode cL_otherwise 5 = .ok (.invokevirtual 55, 3) := by decide +kernel
theorem dL_otherwise_8 : decode cL_otherwise 8 = .ok (.i2l, 1) := by decide +kernel
theorem dL_otherwise_9 : decode cL_otherwise 9 = .ok (.lastore, 1) := by decide +kernel
theorem dL_otherwise_10 : decode cL_otherwise 10 = .ok (.goto 7, 3) := by decide +kernel
theorem dL_otherwise_13 : decode cL_otherwise 13 = .ok (.astore 4, 2) := by decide +kernel
theorem dL_otherwise_15 : decode cL_otherwise 15 = .ok (.iconst 1, 1) := by decide +kernel
theorem dL_otherwise_16 : decode cL_otherwise 16 = .ok (.ireturn, 1) := by decide +kernel
theorem dL_otherwise_17 : decode cL_otherwise 17 = .ok (.iconst 0, 1) := by decide +kernel
theorem dL_otherwise_18 : decode cL_otherwise 18 = .ok (.ireturn, 1) := by decide +kernel
theorem dL_search_0 : decode cL_search 0 = .ok (.aload_n 2, 1) := by decide +kernel
theorem dL_search_1 : decode cL_search 1 = .ok (.iconst 0, 1) := by decide +kernel
theorem dL_search_2 : decode cL_search 2 = .ok (.aload_n 0, 1) := by decide +kernel
theorem dL_search_3 : decode cL_search 3 = .ok (.iload_n 1, 1) := by decide +kernel
theorem dL_search_4 : decode cL_search 4 = .ok (.invokevirtual 58, 3) := by decide +kernel
theorem dL_search_7 : decode cL_search 7 = .ok (.i2l, 1) := by decide +kernel
theorem dL_search_8 : decode cL_search 8 = .ok (.lastore, 1) := by decide +kernel
theorem dL_search_9 : decode cL_search 9 = .ok (.goto 6, 3) := by decide +kernel
theorem dL_search_12 : decode cL_search 12 = .ok (.astore_n 3, 1) := by decide +kernel
theorem dL_search_13 : decode cL_search 13 = .ok (.iconst 1, 1) := by decide +kernel
theorem dL_search_14 : decode cL_search 14 = .ok (.ireturn, 1) := by decide +kernel
theorem dL_search_15 : decode cL_search 15 = .ok (.iconst 0, 1) := by decide +kernel
theorem dL_search_16 : decode cL_search 16 = .ok (.ireturn, 1) := by decide +kernel
theorem dL_sums_0 : decode cL_sums 0 = .ok (.aload_n 1, 1) := by decide +kernel
theorem dL_sums_1 : decode cL_sums 1 = .ok (.iconst 0, 1) := by decide +kernel
theorem dL_sums_2 : decode cL_sums 2 = .ok (.aload_n 0, 1) := by decide +kernel
theorem dL_sums_3 : decode cL_sums 3 = .ok (.invokevirtual 61, 3) := by decide +kernel
theorem dL_sums_6 : decode cL_sums 6 = .ok (.i2l, 1) := by decide +kernel
theorem dL_sums_7 : decode cL_sums 7 = .ok (.lastore, 1) := by decide +kernel
theorem dL_sums_8 : decode cL_sums 8 = .ok (.goto 6, 3) := by decide +kernel
theorem dL_sums_11 : decode cL_sums 11 = .ok (.astore_n 2, 1) := by decide +kernel
theorem dL_sums_12 : decode cL_sums 12 = .ok (.iconst 1, 1) := by decide +kernel
theorem dL_sums_13 : decode cL_sums 13 = .ok (.ireturn, 1) := by decide +kernel
theorem dL_sums_14 : decode cL_sums 14 = .ok (.iconst 0, 1) := by decide +kernel
theorem dL_sums_15 : decode cL_sums 15 = .ok (.ireturn, 1) := by decide +kernel
theorem dL_constant_0 : decode cL_constant 0 = .ok (.aload_n 2, 1) := by decide +kernel
theorem dL_constant_1 : decode cL_constant 1 = .ok (.iconst 0, 1) := by decide +kernel
theorem dL_constant_2 : decode cL_constant 2 = .ok (.aload_n 0, 1) := by decide +kernel
theorem dL_constant_3 : decode cL_constant 3 = .ok (.iload_n 1, 1) := by decide +kernel
theorem dL_constant_4 : decode cL_constant 4 = .ok (.invokevirtual 65, 3) := by decide +kernel
theorem dL_constant_7 : decode cL_constant 7 = .ok (.i2l, 1) := by decide +kernel
theorem dL_constant_8 : decode cL_constant 8 = .ok (.lastore, 1) := by decide +kernel
theorem dL_constant_9 : decode cL_constant 9 = .ok (.goto 6, 3) := by decide +kernel
theorem dL_constant_12 : decode cL_constant 12 = .ok (.astore_n 3, 1) := by decide +kernel
theorem dL_constant_13 : decode cL_constant 13 = .ok (.iconst 1, 1) := by decide +kernel
theorem dL_constant_14 : decode cL_constant 14 = .ok (.ireturn, 1) := by decide +kernel
theorem dL_constant_15 : decode cL_constant 15 = .ok (.iconst 0, 1) := by decide +kernel
theorem dL_constant_16 : decode cL_constant 16 = .ok (.ireturn, 1) := by decide +kernel
theorem dL_given_0 : decode cL_given 0 = .ok (.aload_n 2, 1) := by decide +kernel
theorem dL_given_1 : decode cL_given 1 = .ok (.iconst 0, 1) := by decide +kernel
theorem dL_given_2 : decode cL_given 2 = .ok (.aload_n 0, 1) := by decide +kernel
theorem dL_given_3 : decode cL_given 3 = .ok (.iload_n 1, 1) := by decide +kernel
theorem dL_given_4 : decode cL_given 4 = .ok (.invokevirtual 68, 3) := by decide +kernel
theorem dL_given_7 : decode cL_given 7 = .ok (.i2l, 1) := by decide +kernel
theorem dL_given_8 : decode cL_given 8 = .ok (.lastore, 1) := by decide +kernel
theorem dL_given_9 : decode cL_given 9 = .ok (.goto 6, 3) := by decide +kernel
theorem dL_given_12 : decode cL_given 12 = .ok (.astore_n 3, 1) := by decide +kernel
theorem dL_given_13 : decode cL_given 13 = .ok (.iconst 1, 1) := by decide +kernel
theorem dL_given_14 : decode cL_given 14 = .ok (.ireturn, 1) := by decide +kernel
theorem dL_given_15 : decode cL_given 15 = .ok (.iconst 0, 1) := by decide +kernel
theorem dL_given_16 : decode cL_given 16 = .ok (.ireturn, 1) := by decide +kernel
theorem dL_mend_0 : decode cL_mend 0 = .ok (.aload_n 2, 1) := by decide +kernel
theorem dL_mend_1 : decode cL_mend 1 = .ok (.iconst 0, 1) := by decide +kernel
theorem dL_mend_2 : decode cL_mend 2 = .ok (.aload_n 0, 1) := by decide +kernel
theorem dL_mend_3 : decode cL_mend 3 = .ok (.iload_n 1, 1) := by decide +kernel
theorem dL_mend_4 : decode cL_mend 4 = .ok (.invokevirtual 71, 3) := by decide +kernel
theorem dL_mend_7 : decode cL_mend 7 = .ok (.i2l, 1) := by decide +kernel
theorem dL_mend_8 : decode cL_mend 8 = .ok (.lastore, 1) := by decide +kernel
theorem dL_mend_9 : decode cL_mend 9 = .ok (.goto 6, 3) := by decide +kernel
theorem dL_mend_12 : decode cL_mend 12 = .ok (.astore_n 3, 1) := by decide +kernel
theorem dL_mend_13 : decode cL_mend 13 = .ok (.iconst 1, 1) := by decide +kernel
theorem dL_mend_14 : decode cL_mend 14 = .ok (.ireturn, 1) := by decide +kernel
theorem dL_mend_15 : decode cL_mend 15 = .ok (.iconst 0, 1) := by decide +kernel
theorem dL_mend_16 : decode cL_mend 16 = .ok (.ireturn, 1) := by decide +kernel
theorem dL_count_0 : decode cL_count 0 = .ok (.aload_n 2, 1) := by decide +kernel
theorem dL_count_1 : decode cL_count 1 = .ok (.iconst 0, 1) := by decide +kernel
theorem dL_count_2 : decode cL_count 2 = .ok (.aload_n 0, 1) := by decide +kernel
theorem dL_count_3 : decode cL_count 3 = .ok (.iload_n 1, 1) := by decide +kernel
theorem dL_count_4 : decode cL_count 4 = .ok (.invokevirtual 74, 3) := by decide +kernel
theorem dL_count_7 : decode cL_count 7 = .ok (.i2l, 1) := by decide +kernel
theorem dL_count_8 : decode cL_count 8 = .ok (.lastore, 1) := by decide +kernel
theorem dL_count_9 : decode cL_count 9 = .ok (.goto 6, 3) := by decide +kernel
theorem dL_count_12 : decode cL_count 12 = .ok (.astore_n 3, 1) := by decide +kernel
theorem dL_count_13 : decode cL_count 13 = .ok (.iconst 1, 1) := by decide +kernel
theorem dL_count_14 : decode cL_count 14 = .ok (.ireturn, 1) := by decide +kernel
theorem dL_count_15 : decode cL_count 15 = .ok (.iconst 0, 1) := by decide +kernel
theorem dL_count_16 : decode cL_count 16 = .ok (.ireturn, 1) := by decide +kernel
theorem kL_looks {l : Launch} {D : va_G} {cA : Nat → ClassId} {z sz : Nat} {I : HI} {J : HJ} {T F : HR} {L : HL} {x1 : Int32} {x2 : Int32} {ro : Nat} {Q : Int32 → HS → Prop} (hlt : l.stackTraces = false) (hG : Geo F L) (ho : (ro, 4, 1) ∈ L) (h : L_looks I J T F L x1 x2 ro Q) : Met l yL_looks (hwsW yL_looks cL_looks 5 (some .int) [(0, 17, 20, 13)]) { frames := 9, cells := 1, slots := 6, locals := 163 } (hPc D cA z EvC (I, J, T, F, L) sz [.ref (z + 0), .int x1, .int x2, .ref (z + ro)]) (va_Qi Q (hB D cA z (hA z L sz)) (hA z L sz)) 1 (6) (hA z L sz) := by
  refine hm_metW (I, J, T, F, L) [.ref (z + 0), .int x1, .int x2, .ref (z + ro)] rfl (by decide) (Nat.le_of_ble_eq_true rfl) ?_
  intro p e s m below meth c ls X hr hlk hxt hw hl
  have hl : lv_has ls 5 [(0, .ref (z + 0)), (1, .int x1), (2, .int x2), (3, .ref (z + ro))] := hl
  generalize hA z L sz = A at hw ⊢
  have hx := X.1
  have hb := X.2.1
  unfold L_looks at h
  refine lv_aload_n hx hb dL_looks_0 rfl (lv_at hl 3 rfl) ?_
  refine lv_iconst (v := 0) hx hb dL_looks_1 (by decide) ?_
  refine lv_aload_n hx hb dL_looks_2 rfl (lv_at hl 0 rfl) ?_
  refine lv_iload_n hx hb dL_looks_3 rfl (lv_at hl 1 rfl) ?_
  refine lv_iload_n hx hb dL_looks_4 rfl (lv_at hl 2 rfl) ?_
  refine hm_xcalli hw (hm_xrunV (rest := [_, _]) EvC_cl X hw (cH_looks hlt hG h) yk_X10_looks kw839 rfl (gl_0 hG) rfl hl.1 rfl rfl rfl (Nat.le_of_ble_eq_true rfl) ⟨Nat.le_refl _, Nat.le_refl _⟩ ⟨Nat.le_of_eq (Nat.zero_add _), Nat.le_of_eq (Nat.zero_add _)⟩ dL_looks_5) (fun ce q9 u H locs hp hw hq hv hcl => ?_) (fun r u H locs hp hw => ?_)
  · obtain ⟨I2, rfl, h⟩ := hp
    refine hx_catch X.2.2.2.1 ⟨0, 17, 20, 13⟩ hxt (by decide) (by decide) (X.2.2.2.2 _ kw838) (hx_cast hcl) hq hv hcl ?_
    refine lv_astore (lv' := [(4, _), (0, _), (1, _), (2, _), (3, _)]) hx hb dL_looks_20 hl (by decide) rfl (fun ls hl => ?_)
    refine lv_iconst (v := 1) hx hb dL_looks_22 (by decide) ?_
    refine W.widen (k := 1) (n := 6) (Nat.le_of_eq (Nat.zero_add _)) (Nat.le_of_eq (Nat.zero_add _)) ?_
    exact hm_iret X hr hlk hw h dL_looks_23
  obtain ⟨I2, rfl, h⟩ := hp
  refine lv_if_eq (tgt := 15) hx hb dL_looks_8 (by decide) (fun hc => ?_) (fun hc => ?_)
  · have h := Eq.mp (if_pos hc) h
    refine lv_lconst (v := 0) hx hb dL_looks_15 (by decide) ?_
    refine hm_last X hw ho (by unfold vp_in; decide) dL_looks_16 (fun H locs hw => ?_)
    refine lv_goto (tgt := 24) hx hb dL_looks_17 (by decide) ?_
    refine lv_iconst (v := 0) hx hb dL_looks_24 (by decide) ?_
    refine W.widen (k := 1) (n := 6) (Nat.le_of_eq (Nat.zero_add _)) (Nat.le_of_eq (Nat.zero_add _)) ?_
    exact hm_iret X hr hlk hw h dL_looks_25
  · have h := Eq.mp (if_neg hc) h
    refine lv_lconst (v := 1) hx hb dL_looks_11 (by decide) ?_
    refine lv_goto (tgt := 16) hx hb dL_looks_12 (by decide) ?_
    refine hm_last X hw ho (by unfold vp_in; decide) dL_looks_16 (fun H locs hw => ?_)
    refine lv_goto (tgt := 24) hx hb dL_looks_17 (by decide) ?_
    refine lv_iconst (v := 0) hx hb dL_looks_24 (by decide) ?_
    refine W.widen (k := 1) (n := 6) (Nat.le_of_eq (Nat.zero_add _)) (Nat.le_of_eq (Nat.zero_add _)) ?_
    exact hm_iret X hr hlk hw h dL_looks_25

theorem kL_round {l : Launch} {D : va_G} {cA : Nat → ClassId} {z sz : Nat} {I : HI} {J : HJ} {T F : HR} {L : HL} {x1 : Int32} {x2 : Int32} {ro : Nat} {Q : Int32 → HS → Prop} (hlt : l.stackTraces = false) (hG : Geo F L) (ho : (ro, 4, 1) ∈ L) (h : L_round I J T F L x1 x2 ro Q) : Met l yL_round (hwsW yL_round cL_round 5 (some .int) [(0, 17, 20, 13)]) { frames := 9, cells := 1, slots := 6, locals := 163 } (hPc D cA z EvC (I, J, T, F, L) sz [.ref (z + 0), .int x1, .int x2, .ref (z + ro)]) (va_Qi Q (hB D cA z (hA z L sz)) (hA z L sz)) 1 (6) (hA z L sz) := by
  refine hm_metW (I, J, T, F, L) [.ref (z + 0), .int x1, .int x2, .ref (z + ro)] rfl (by decide) (Nat.le_of_ble_eq_true rfl) ?_
  intro p e s m below meth c ls X hr hlk hxt hw hl
  have hl : lv_has ls 5 [(0, .ref (z + 0)), (1, .int x1), (2, .int x2), (3, .ref (z + ro))] := hl
  generalize hA z L sz = A at hw ⊢
  have hx := X.1
  have hb := X.2.1
  unfold L_round at h
  refine lv_aload_n hx hb dL_round_0 rfl (lv_at hl 3 rfl) ?_
  refine lv_iconst (v := 0) hx hb dL_round_1 (by decide) ?_
  refine lv_aload_n hx hb dL_round_2 rfl (lv_at hl 0 rfl) ?_
  refine lv_iload_n hx hb dL_round_3 rfl (lv_at hl 1 rfl) ?_
  refine lv_iload_n hx hb dL_round_4 rfl (lv_at hl 2 rfl) ?_
  refine hm_xcalli hw (hm_xrunV (rest := [_, _]) EvC_cl X hw (cH_round hlt hG h) yk_X10_round kw853 rfl (gl_0 hG) rfl hl.1 rfl rfl rfl (Nat.le_of_ble_eq_true rfl) ⟨Nat.le_refl _, Nat.le_refl _⟩ ⟨Nat.le_of_eq (Nat.zero_add _), Nat.le_of_eq (Nat.zero_add _)⟩ dL_round_5) (fun ce q9 u H locs hp hw hq hv hcl => ?_) (fun r u H locs hp hw => ?_)
  · obtain ⟨I2, rfl, h⟩ := hp
    refine hx_catch X.2.2.2.1 ⟨0, 17, 20, 13⟩ hxt (by decide) (by decide) (X.2.2.2.2 _ kw838) (hx_cast hcl) hq hv hcl ?_
    refine lv_astore (lv' := [(4, _), (0, _), (1, _), (2, _), (3, _)]) hx hb dL_round_20 hl (by decide) rfl (fun ls hl => ?_)
    refine lv_iconst (v := 1) hx hb dL_round_22 (by decide) ?_
    refine W.widen (k := 1) (n := 6) (Nat.le_of_eq (Nat.zero_add _)) (Nat.le_of_eq (Nat.zero_add _)) ?_
    exact hm_iret X hr hlk hw h dL_round_23
  obtain ⟨I2, rfl, h⟩ := hp
  refine lv_if_eq (tgt := 15) hx hb dL_round_8 (by decide) (fun hc => ?_) (fun hc => ?_)
  · have h := Eq.mp (if_pos hc) h
    refine lv_lconst (v := 0) hx hb dL_round_15 (by decide) ?_
    refine hm_last X hw ho (by unfold vp_in; decide) dL_round_16 (fun H locs hw => ?_)
    refine lv_goto (tgt := 24) hx hb dL_round_17 (by decide) ?_
    refine lv_iconst (v := 0) hx hb dL_round_24 (by decide) ?_
    refine W.widen (k := 1) (n := 6) (Nat.le_of_eq (Nat.zero_add _)) (Nat.le_of_eq (Nat.zero_add _)) ?_
    exact hm_iret X hr hlk hw h dL_round_25
  · have h := Eq.mp (if_neg hc) h
    refine lv_lconst (v := 1) hx hb dL_round_11 (by decide) ?_
    refine lv_goto (tgt := 16) hx hb dL_round_12 (by decide) ?_
    refine hm_last X hw ho (by unfold vp_in; decide) dL_round_16 (fun H locs hw => ?_)
    refine lv_goto (tgt := 24) hx hb dL_round_17 (by decide) ?_
    refine lv_iconst (v := 0) hx hb dL_round_24 (by decide) ?_
    refine W.widen (k := 1) (n := 6) (Nat.le_of_eq (Nat.zero_add _)) (Nat.le_of_eq (Nat.zero_add _)) ?_
    exact hm_iret X hr hlk hw h dL_round_25

theorem kL_rules {l : Launch} {D : va_G} {cA : Nat → ClassId} {z sz : Nat} {I : HI} {J : HJ} {T F : HR} {L : HL} {x1 : Int32} {ro b : Nat} {Q : Int32 → HS → Prop} (hlt : l.stackTraces = false) (hG : Geo F L) (ho : (ro, 4, 1) ∈ L) (h : L_rules I J T F L x1 ro b Q) : Met l yL_rules (hwsW yL_rules cL_rules 4 (some .int) [(0, 9, 12, 22)]) { frames := 132, cells := 86, slots := b + 6, locals := 3514 } (hPc D cA z EvC (I, J, T, F, L) sz [.ref (z + 0), .int x1, .ref (z + ro)]) (va_Qi Q (hB D cA z (hA z L sz)) (hA z L sz)) 86 (b + 6) (hA z L sz) := by
  refine hm_metW (I, J, T, F, L) [.ref (z + 0), .int x1, .ref (z + ro)] rfl (by decide) (Nat.le_of_ble_eq_true rfl) ?_
  intro p e s m below meth c ls X hr hlk hxt hw hl
  have hl : lv_has ls 4 [(0, .ref (z + 0)), (1, .int x1), (2, .ref (z + ro))] := hl
  generalize hA z L sz = A at hw ⊢
  have hx := X.1
  have hb := X.2.1
  unfold L_rules at h
  refine lv_aload_n hx hb dL_rules_0 rfl (lv_at hl 2 rfl) ?_
  refine lv_iconst (v := 0) hx hb dL_rules_1 (by decide) ?_
  refine lv_aload_n hx hb dL_rules_2 rfl (lv_at hl 0 rfl) ?_
  refine lv_iload_n hx hb dL_rules_3 rfl (lv_at hl 1 rfl) ?_
  refine hm_xcalli hw (hm_xrunV (rest := [_, _]) EvC_cl X hw (cH_rules hlt hG h) yk_X10_rules kw862 rfl (gl_0 hG) rfl hl.1 rfl rfl rfl (Nat.le_of_ble_eq_true rfl) ⟨Nat.le_refl _, Nat.le_refl _⟩ ⟨Nat.le_of_eq (Nat.zero_add _), Nat.le_of_eq (Nat.zero_add _)⟩ dL_rules_4) (fun ce q9 u H locs hp hw hq hv hcl => ?_) (fun r u H locs hp hw => ?_)
  · obtain ⟨I2, T2, F2, L2, rfl, h⟩ := hp
    refine hx_catch X.2.2.2.1 ⟨0, 9, 12, 22⟩ hxt (by decide) (by decide) (X.2.2.2.2 _ kw861) (hx_cast hcl) hq hv hcl ?_
    refine lv_astore_n (lv' := [(3, _), (0, _), (1, _), (2, _)]) hx hb dL_rules_12 rfl hl (by decide) rfl (fun ls hl => ?_)
    refine lv_iconst (v := 1) hx hb dL_rules_13 (by decide) ?_
    refine W.widen (k := 86) (n := b + 6) (Nat.le_of_eq (Nat.zero_add _)) (Nat.le_of_eq (Nat.zero_add _)) ?_
    exact hm_iret X hr hlk hw h dL_rules_14
  obtain ⟨I2, T2, F2, L2, rfl, h⟩ := hp
  obtain ⟨ho, h⟩ := h
  refine lv_i2l (v := Int32.toInt64 r) hx hb dL_rules_7 rfl ?_
  refine hm_last X hw ho (by unfold vp_in; decide) dL_rules_8 (fun H locs hw => ?_)
  refine lv_goto (tgt := 15) hx hb dL_rules_9 (by decide) ?_
  refine lv_iconst (v := 0) hx hb dL_rules_15 (by decide) ?_
  refine W.widen (k := 86) (n := b + 6) (Nat.le_of_eq (Nat.zero_add _)) (Nat.le_of_eq (Nat.zero_add _)) ?_
  exact hm_iret X hr hlk hw h dL_rules_16

theorem kL_about {l : Launch} {D : va_G} {cA : Nat → ClassId} {z sz : Nat} {I : HI} {J : HJ} {T F : HR} {L : HL} {x1 : Int32} {x2 : Int32} {ro : Nat} {Q : Int32 → HS → Prop} (hlt : l.stackTraces = false) (hG : Geo F L) (ho : (ro, 4, 1) ∈ L) (h : L_about I J T F L x1 x2 ro Q) : Met l yL_about (hwsW yL_about cL_about 5 (some .int) [(0, 10, 13, 13)]) { frames := 9, cells := 2, slots := 12, locals := 163 } (hPc D cA z EvC (I, J, T, F, L) sz [.ref (z + 0), .int x1, .int x2, .ref (z + ro)]) (va_Qi Q (hB D cA z (hA z L sz)) (hA z L sz)) 2 (12) (hA z L sz) := by
  refine hm_metW (I, J, T, F, L) [.ref (z + 0), .int x1, .int x2, .ref (z + ro)] rfl (by decide) (Nat.le_of_ble_eq_true rfl) ?_
  intro p e s m below meth c ls X hr hlk hxt hw hl
  have hl : lv_has ls 5 [(0, .ref (z + 0)), (1, .int x1), (2, .int x2), (3, .ref (z + ro))] := hl
  generalize hA z L sz = A at hw ⊢
  have hx := X.1
  have hb := X.2.1
  unfold L_about at h
  refine lv_aload_n hx hb dL_about_0 rfl (lv_at hl 3 rfl) ?_
  refine lv_iconst (v := 0) hx hb dL_about_1 (by decide) ?_
  refine lv_aload_n hx hb dL_about_2 rfl (lv_at hl 0 rfl) ?_
  refine lv_iload_n hx hb dL_about_3 rfl (lv_at hl 1 rfl) ?_
  refine lv_iload_n hx hb dL_about_4 rfl (lv_at hl 2 rfl) ?_
  refine hm_xcalli hw (hm_xrunV (rest := [_, _]) EvC_cl X hw (cH_about hlt hG h) yk_X10_about kw1036 rfl (gl_0 hG) rfl hl.1 rfl rfl rfl (Nat.le_of_ble_eq_true rfl) ⟨Nat.le_refl _, Nat.le_refl _⟩ ⟨Nat.le_of_eq (Nat.zero_add _), Nat.le_of_eq (Nat.zero_add _)⟩ dL_about_5) (fun ce q9 u H locs hp hw hq hv hcl => ?_) (fun r u H locs hp hw => ?_)
  · obtain ⟨rfl, h⟩ := hp
    refine hx_catch X.2.2.2.1 ⟨0, 10, 13, 13⟩ hxt (by decide) (by decide) (X.2.2.2.2 _ kw838) (hx_cast hcl) hq hv hcl ?_
    refine lv_astore (lv' := [(4, _), (0, _), (1, _), (2, _), (3, _)]) hx hb dL_about_13 hl (by decide) rfl (fun ls hl => ?_)
    refine lv_iconst (v := 1) hx hb dL_about_15 (by decide) ?_
    refine W.widen (k := 2) (n := 12) (Nat.le_of_eq (Nat.zero_add _)) (Nat.le_of_eq (Nat.zero_add _)) ?_
    exact hm_iret X hr hlk hw h dL_about_16
  obtain ⟨rfl, h⟩ := hp
  refine lv_i2l (v := Int32.toInt64 r) hx hb dL_about_8 rfl ?_
  refine hm_last X hw ho (by unfold vp_in; decide) dL_about_9 (fun H locs hw => ?_)
  refine lv_goto (tgt := 17) hx hb dL_about_10 (by decide) ?_
  refine lv_iconst (v := 0) hx hb dL_about_17 (by decide) ?_
  refine W.widen (k := 2) (n := 12) (Nat.le_of_eq (Nat.zero_add _)) (Nat.le_of_eq (Nat.zero_add _)) ?_
  exact hm_iret X hr hlk hw h dL_about_18

theorem kL_tell {l : Launch} {D : va_G} {cA : Nat → ClassId} {z sz : Nat} {I : HI} {J : HJ} {T F : HR} {L : HL} {x1 : Int32} {x2 : Int32} {x3 : Int32} {ro : Nat} {Q : Int32 → HS → Prop} (hlt : l.stackTraces = false) (hG : Geo F L) (ho : (ro, 4, 1) ∈ L) (h : L_tell I J T F L x1 x2 x3 ro Q) : Met l yL_tell (hwsW yL_tell cL_tell 6 (some .int) [(0, 19, 22, 13)]) { frames := 9, cells := 1, slots := 6, locals := 164 } (hPc D cA z EvC (I, J, T, F, L) sz [.ref (z + 0), .int x1, .int x2, .int x3, .ref (z + ro)]) (va_Qi Q (hB D cA z (hA z L sz)) (hA z L sz)) 1 (6) (hA z L sz) := by
  refine hm_metW (I, J, T, F, L) [.ref (z + 0), .int x1, .int x2, .int x3, .ref (z + ro)] rfl (by decide) (Nat.le_of_ble_eq_true rfl) ?_
  intro p e s m below meth c ls X hr hlk hxt hw hl
  have hl : lv_has ls 6 [(0, .ref (z + 0)), (1, .int x1), (2, .int x2), (3, .int x3), (4, .ref (z + ro))] := hl
  generalize hA z L sz = A at hw ⊢
  have hx := X.1
  have hb := X.2.1
  unfold L_tell at h
  refine lv_aload hx hb dL_tell_0 (lv_at hl 4 rfl) ?_
  refine lv_iconst (v := 0) hx hb dL_tell_2 (by decide) ?_
  refine lv_aload_n hx hb dL_tell_3 rfl (lv_at hl 0 rfl) ?_
  refine lv_iload_n hx hb dL_tell_4 rfl (lv_at hl 1 rfl) ?_
  refine lv_iload_n hx hb dL_tell_5 rfl (lv_at hl 2 rfl) ?_
  refine lv_iload_n hx hb dL_tell_6 rfl (lv_at hl 3 rfl) ?_
  refine hm_xcalli hw (hm_xrunV (rest := [_, _]) EvC_cl X hw (cH_tell hlt hG h) yk_X10_tell kw1048 rfl (gl_0 hG) rfl hl.1 rfl rfl rfl (Nat.le_of_ble_eq_true rfl) ⟨Nat.le_refl _, Nat.le_refl _⟩ ⟨Nat.le_of_eq (Nat.zero_add _), Nat.le_of_eq (Nat.zero_add _)⟩ dL_tell_7) (fun ce q9 u H locs hp hw hq hv hcl => ?_) (fun r u H locs hp hw => ?_)
  · obtain ⟨I2, T2, rfl, h⟩ := hp
    refine hx_catch X.2.2.2.1 ⟨0, 19, 22, 13⟩ hxt (by decide) (by decide) (X.2.2.2.2 _ kw838) (hx_cast hcl) hq hv hcl ?_
    refine lv_astore (lv' := [(5, _), (0, _), (1, _), (2, _), (3, _), (4, _)]) hx hb dL_tell_22 hl (by decide) rfl (fun ls hl => ?_)
    refine lv_iconst (v := 1) hx hb dL_tell_24 (by decide) ?_
    refine W.widen (k := 1) (n := 6) (Nat.le_of_eq (Nat.zero_add _)) (Nat.le_of_eq (Nat.zero_add _)) ?_
    exact hm_iret X hr hlk hw h dL_tell_25
  obtain ⟨I2, T2, rfl, h⟩ := hp
  refine lv_if_eq (tgt := 17) hx hb dL_tell_10 (by decide) (fun hc => ?_) (fun hc => ?_)
  · have h := Eq.mp (if_pos hc) h
    refine lv_lconst (v := 0) hx hb dL_tell_17 (by decide) ?_
    refine hm_last X hw ho (by unfold vp_in; decide) dL_tell_18 (fun H locs hw => ?_)
    refine lv_goto (tgt := 26) hx hb dL_tell_19 (by decide) ?_
    refine lv_iconst (v := 0) hx hb dL_tell_26 (by decide) ?_
    refine W.widen (k := 1) (n := 6) (Nat.le_of_eq (Nat.zero_add _)) (Nat.le_of_eq (Nat.zero_add _)) ?_
    exact hm_iret X hr hlk hw h dL_tell_27
  · have h := Eq.mp (if_neg hc) h
    refine lv_lconst (v := 1) hx hb dL_tell_13 (by decide) ?_
    refine lv_goto (tgt := 18) hx hb dL_tell_14 (by decide) ?_
    refine hm_last X hw ho (by unfold vp_in; decide) dL_tell_18 (fun H locs hw => ?_)
    refine lv_goto (tgt := 26) hx hb dL_tell_19 (by decide) ?_
    refine lv_iconst (v := 0) hx hb dL_tell_26 (by decide) ?_
    refine W.widen (k := 1) (n := 6) (Nat.le_of_eq (Nat.zero_add _)) (Nat.le_of_eq (Nat.zero_add _)) ?_
    exact hm_iret X hr hlk hw h dL_tell_27

theorem kL_cell {l : Launch} {D : va_G} {cA : Nat → ClassId} {z sz : Nat} {I : HI} {J : HJ} {T F : HR} {L : HL} {x1 : Int32} {x2 : Int32} {ro : Nat} {Q : Int32 → HS → Prop} (hlt : l.stackTraces = false) (hG : Geo F L) (ho : (ro, 4, 1) ∈ L) (h : L_cell I J T F L x1 x2 ro Q) : Met l yL_cell (hwsW yL_cell cL_cell 5 (some .int) [(0, 10, 13, 13)]) { frames := 9, cells := 2, slots := 12, locals := 163 } (hPc D cA z EvC (I, J, T, F, L) sz [.ref (z + 0), .int x1, .int x2, .ref (z + ro)]) (va_Qi Q (hB D cA z (hA z L sz)) (hA z L sz)) 2 (12) (hA z L sz) := by
  refine hm_metW (I, J, T, F, L) [.ref (z + 0), .int x1, .int x2, .ref (z + ro)] rfl (by decide) (Nat.le_of_ble_eq_true rfl) ?_
  intro p e s m below meth c ls X hr hlk hxt hw hl
  have hl : lv_has ls 5 [(0, .ref (z + 0)), (1, .int x1), (2, .int x2), (3, .ref (z + ro))] := hl
  generalize hA z L sz = A at hw ⊢
  have hx := X.1
  have hb := X.2.1
  unfold L_cell at h
  refine lv_aload_n hx hb dL_cell_0 rfl (lv_at hl 3 rfl) ?_
  refine lv_iconst (v := 0) hx hb dL_cell_1 (by decide) ?_
  refine lv_aload_n hx hb dL_cell_2 rfl (lv_at hl 0 rfl) ?_
  refine lv_iload_n hx hb dL_cell_3 rfl (lv_at hl 1 rfl) ?_
  refine lv_iload_n hx hb dL_cell_4 rfl (lv_at hl 2 rfl) ?_
  refine hm_xcalli hw (hm_xrunV (rest := [_, _]) EvC_cl X hw (cH_cell hlt hG h) yk_X10_cell kw1057 rfl (gl_0 hG) rfl hl.1 rfl rfl rfl (Nat.le_of_ble_eq_true rfl) ⟨Nat.le_refl _, Nat.le_refl _⟩ ⟨Nat.le_of_eq (Nat.zero_add _), Nat.le_of_eq (Nat.zero_add _)⟩ dL_cell_5) (fun ce q9 u H locs hp hw hq hv hcl => ?_) (fun r u H locs hp hw => ?_)
  · obtain ⟨rfl, h⟩ := hp
    refine hx_catch X.2.2.2.1 ⟨0, 10, 13, 13⟩ hxt (by decide) (by decide) (X.2.2.2.2 _ kw838) (hx_cast hcl) hq hv hcl ?_
    refine lv_astore (lv' := [(4, _), (0, _), (1, _), (2, _), (3, _)]) hx hb dL_cell_13 hl (by decide) rfl (fun ls hl => ?_)
    refine lv_iconst (v := 1) hx hb dL_cell_15 (by decide) ?_
    refine W.widen (k := 2) (n := 12) (Nat.le_of_eq (Nat.zero_add _)) (Nat.le_of_eq (Nat.zero_add _)) ?_
    exact hm_iret X hr hlk hw h dL_cell_16
  obtain ⟨rfl, h⟩ := hp
  refine lv_i2l (v := Int32.toInt64 r) hx hb dL_cell_8 rfl ?_
  refine hm_last X hw ho (by unfold vp_in; decide) dL_cell_9 (fun H locs hw => ?_)
  refine lv_goto (tgt := 17) hx hb dL_cell_10 (by decide) ?_
  refine lv_iconst (v := 0) hx hb dL_cell_17 (by decide) ?_
  refine W.widen (k := 2) (n := 12) (Nat.le_of_eq (Nat.zero_add _)) (Nat.le_of_eq (Nat.zero_add _)) ?_
  exact hm_iret X hr hlk hw h dL_cell_18

theorem kL_in {l : Launch} {D : va_G} {cA : Nat → ClassId} {z sz : Nat} {I : HI} {J : HJ} {T F : HR} {L : HL} {x1 : Int32} {x2 : Int32} {x3 : Int32} {ro : Nat} {Q : Int32 → HS → Prop} (hlt : l.stackTraces = false) (hG : Geo F L) (ho : (ro, 4, 1) ∈ L) (h : L_in I J T F L x1 x2 x3 ro Q) : Met l yL_in (hwsW yL_in cL_in 6 (some .int) [(0, 12, 15, 13)]) { frames := 9, cells := 3, slots := 18, locals := 165 } (hPc D cA z EvC (I, J, T, F, L) sz [.ref (z + 0), .int x1, .int x2, .int x3, .ref (z + ro)]) (va_Qi Q (hB D cA z (hA z L sz)) (hA z L sz)) 3 (18) (hA z L sz) := by
  refine hm_metW (I, J, T, F, L) [.ref (z + 0), .int x1, .int x2, .int x3, .ref (z + ro)] rfl (by decide) (Nat.le_of_ble_eq_true rfl) ?_
  intro p e s m below meth c ls X hr hlk hxt hw hl
  have hl : lv_has ls 6 [(0, .ref (z + 0)), (1, .int x1), (2, .int x2), (3, .int x3), (4, .ref (z + ro))] := hl
  generalize hA z L sz = A at hw ⊢
  have hx := X.1
  have hb := X.2.1
  unfold L_in at h
  refine lv_aload hx hb dL_in_0 (lv_at hl 4 rfl) ?_
  refine lv_iconst (v := 0) hx hb dL_in_2 (by decide) ?_
  refine lv_aload_n hx hb dL_in_3 rfl (lv_at hl 0 rfl) ?_
  refine lv_iload_n hx hb dL_in_4 rfl (lv_at hl 1 rfl) ?_
  refine lv_iload_n hx hb dL_in_5 rfl (lv_at hl 2 rfl) ?_
  refine lv_iload_n hx hb dL_in_6 rfl (lv_at hl 3 rfl) ?_
  refine hm_xcalli hw (hm_xrunV (rest := [_, _]) EvC_cl X hw (cH_in hlt hG h) yk_X10_in kw1067 rfl (gl_0 hG) rfl hl.1 rfl rfl rfl (Nat.le_of_ble_eq_true rfl) ⟨Nat.le_refl _, Nat.le_refl _⟩ ⟨Nat.le_of_eq (Nat.zero_add _), Nat.le_of_eq (Nat.zero_add _)⟩ dL_in_7) (fun ce q9 u H locs hp hw hq hv hcl => ?_) (fun r u H locs hp hw => ?_)
  · obtain ⟨I2, rfl, h⟩ := hp
    refine hx_catch X.2.2.2.1 ⟨0, 12, 15, 13⟩ hxt (by decide) (by decide) (X.2.2.2.2 _ kw838) (hx_cast hcl) hq hv hcl ?_
    refine lv_astore (lv' := [(5, _), (0, _), (1, _), (2, _), (3, _), (4, _)]) hx hb dL_in_15 hl (by decide) rfl (fun ls hl => ?_)
    refine lv_iconst (v := 1) hx hb dL_in_17 (by decide) ?_
    refine W.widen (k := 3) (n := 18) (Nat.le_of_eq (Nat.zero_add _)) (Nat.le_of_eq (Nat.zero_add _)) ?_
    exact hm_iret X hr hlk hw h dL_in_18
  obtain ⟨I2, rfl, h⟩ := hp
  refine lv_i2l (v := Int32.toInt64 r) hx hb dL_in_10 rfl ?_
  refine hm_last X hw ho (by unfold vp_in; decide) dL_in_11 (fun H locs hw => ?_)
  refine lv_goto (tgt := 19) hx hb dL_in_12 (by decide) ?_
  refine lv_iconst (v := 0) hx hb dL_in_19 (by decide) ?_
  refine W.widen (k := 3) (n := 18) (Nat.le_of_eq (Nat.zero_add _)) (Nat.le_of_eq (Nat.zero_add _)) ?_
  exact hm_iret X hr hlk hw h dL_in_20

theorem kL_row {l : Launch} {D : va_G} {cA : Nat → ClassId} {z sz : Nat} {I : HI} {J : HJ} {T F : HR} {L : HL} {x1 : Int32} {x2 : Int32} {ro : Nat} {Q : Int32 → HS → Prop} (hlt : l.stackTraces = false) (hG : Geo F L) (ho : (ro, 4, 1) ∈ L) (h : L_row I J T F L x1 x2 ro Q) : Met l yL_row (hwsW yL_row cL_row 5 (some .int) [(0, 10, 13, 13)]) { frames := 9, cells := 2, slots := 12, locals := 164 } (hPc D cA z EvC (I, J, T, F, L) sz [.ref (z + 0), .int x1, .int x2, .ref (z + ro)]) (va_Qi Q (hB D cA z (hA z L sz)) (hA z L sz)) 2 (12) (hA z L sz) := by
  refine hm_metW (I, J, T, F, L) [.ref (z + 0), .int x1, .int x2, .ref (z + ro)] rfl (by decide) (Nat.le_of_ble_eq_true rfl) ?_
  intro p e s m below meth c ls X hr hlk hxt hw hl
  have hl : lv_has ls 5 [(0, .ref (z + 0)), (1, .int x1), (2, .int x2), (3, .ref (z + ro))] := hl
  generalize hA z L sz = A at hw ⊢
  have hx := X.1
  have hb := X.2.1
  unfold L_row at h
  refine lv_aload_n hx hb dL_row_0 rfl (lv_at hl 3 rfl) ?_
  refine lv_iconst (v := 0) hx hb dL_row_1 (by decide) ?_
  refine lv_aload_n hx hb dL_row_2 rfl (lv_at hl 0 rfl) ?_
  refine lv_iload_n hx hb dL_row_3 rfl (lv_at hl 1 rfl) ?_
  refine lv_iload_n hx hb dL_row_4 rfl (lv_at hl 2 rfl) ?_
  refine hm_xcalli hw (hm_xrunV (rest := [_, _]) EvC_cl X hw (cH_row hlt hG h) yk_X10_row kw1087 rfl (gl_0 hG) rfl hl.1 rfl rfl rfl (Nat.le_of_ble_eq_true rfl) ⟨Nat.le_refl _, Nat.le_refl _⟩ ⟨Nat.le_of_eq (Nat.zero_add _), Nat.le_of_eq (Nat.zero_add _)⟩ dL_row_5) (fun ce q9 u H locs hp hw hq hv hcl => ?_) (fun r u H locs hp hw => ?_)
  · obtain ⟨I2, rfl, h⟩ := hp
    refine hx_catch X.2.2.2.1 ⟨0, 10, 13, 13⟩ hxt (by decide) (by decide) (X.2.2.2.2 _ kw838) (hx_cast hcl) hq hv hcl ?_
    refine lv_astore (lv' := [(4, _), (0, _), (1, _), (2, _), (3, _)]) hx hb dL_row_13 hl (by decide) rfl (fun ls hl => ?_)
    refine lv_iconst (v := 1) hx hb dL_row_15 (by decide) ?_
    refine W.widen (k := 2) (n := 12) (Nat.le_of_eq (Nat.zero_add _)) (Nat.le_of_eq (Nat.zero_add _)) ?_
    exact hm_iret X hr hlk hw h dL_row_16
  obtain ⟨I2, rfl, h⟩ := hp
  refine lv_i2l (v := Int32.toInt64 r) hx hb dL_row_8 rfl ?_
  refine hm_last X hw ho (by unfold vp_in; decide) dL_row_9 (fun H locs hw => ?_)
  refine lv_goto (tgt := 17) hx hb dL_row_10 (by decide) ?_
  refine lv_iconst (v := 0) hx hb dL_row_17 (by decide) ?_
  refine W.widen (k := 2) (n := 12) (Nat.le_of_eq (Nat.zero_add _)) (Nat.le_of_eq (Nat.zero_add _)) ?_
  exact hm_iret X hr hlk hw h dL_row_18

theorem kL_won {l : Launch} {D : va_G} {cA : Nat → ClassId} {z sz : Nat} {I : HI} {J : HJ} {T F : HR} {L : HL} {x1 : Int32} {ro : Nat} {Q : Int32 → HS → Prop} (hlt : l.stackTraces = false) (hG : Geo F L) (ho : (ro, 4, 1) ∈ L) (h : L_won I J T F L x1 ro Q) : Met l yL_won (hwsW yL_won cL_won 4 (some .int) [(0, 8, 11, 13)]) { frames := 8, cells := 1, slots := 6, locals := 175 } (hPc D cA z EvC (I, J, T, F, L) sz [.ref (z + 0), .int x1, .ref (z + ro)]) (va_Qi Q (hB D cA z (hA z L sz)) (hA z L sz)) 1 (6) (hA z L sz) := by
  refine hm_metW (I, J, T, F, L) [.ref (z + 0), .int x1, .ref (z + ro)] rfl (by decide) (Nat.le_of_ble_eq_true rfl) ?_
  intro p e s m below meth c ls X hr hlk hxt hw hl
  have hl : lv_has ls 4 [(0, .ref (z + 0)), (1, .int x1), (2, .ref (z + ro))] := hl
  generalize hA z L sz = A at hw ⊢
  have hx := X.1
  have hb := X.2.1
  unfold L_won at h
  refine lv_aload_n hx hb dL_won_0 rfl (lv_at hl 2 rfl) ?_
  refine lv_iconst (v := 0) hx hb dL_won_1 (by decide) ?_
  refine lv_aload_n hx hb dL_won_2 rfl (lv_at hl 0 rfl) ?_
  refine lv_iload_n hx hb dL_won_3 rfl (lv_at hl 1 rfl) ?_
  refine hm_xcalll hw (hm_xrunV (rest := [_, _]) EvC_cl X hw (cH_won hlt hG h) yk_X10_won kw1099 rfl (gl_0 hG) rfl hl.1 rfl rfl rfl (Nat.le_of_ble_eq_true rfl) ⟨Nat.le_refl _, Nat.le_refl _⟩ ⟨Nat.le_of_eq (Nat.zero_add _), Nat.le_of_eq (Nat.zero_add _)⟩ dL_won_4) (fun ce q9 u H locs hp hw hq hv hcl => ?_) (fun r u H locs hp hw => ?_)
  · obtain ⟨I2, rfl, h⟩ := hp
    refine hx_catch X.2.2.2.1 ⟨0, 8, 11, 13⟩ hxt (by decide) (by decide) (X.2.2.2.2 _ kw838) (hx_cast hcl) hq hv hcl ?_
    refine lv_astore_n (lv' := [(3, _), (0, _), (1, _), (2, _)]) hx hb dL_won_11 rfl hl (by decide) rfl (fun ls hl => ?_)
    refine lv_iconst (v := 1) hx hb dL_won_12 (by decide) ?_
    refine W.widen (k := 1) (n := 6) (Nat.le_of_eq (Nat.zero_add _)) (Nat.le_of_eq (Nat.zero_add _)) ?_
    exact hm_iret X hr hlk hw h dL_won_13
  obtain ⟨I2, rfl, h⟩ := hp
  refine hm_last X hw ho (by unfold vp_in; decide) dL_won_7 (fun H locs hw => ?_)
  refine lv_goto (tgt := 14) hx hb dL_won_8 (by decide) ?_
  refine lv_iconst (v := 0) hx hb dL_won_14 (by decide) ?_
  refine W.widen (k := 1) (n := 6) (Nat.le_of_eq (Nat.zero_add _)) (Nat.le_of_eq (Nat.zero_add _)) ?_
  exact hm_iret X hr hlk hw h dL_won_15

theorem kL_rightOf {l : Launch} {D : va_G} {cA : Nat → ClassId} {z sz : Nat} {I : HI} {J : HJ} {T F : HR} {L : HL} {x1 : Int32} {ro : Nat} {Q : Int32 → HS → Prop} (hlt : l.stackTraces = false) (hG : Geo F L) (ho : (ro, 4, 1) ∈ L) (h : L_rightOf I J T F L x1 ro Q) : Met l yL_rightOf (hwsW yL_rightOf cL_rightOf 4 (some .int) [(0, 9, 12, 13)]) { frames := 9, cells := 1, slots := 6, locals := 172 } (hPc D cA z EvC (I, J, T, F, L) sz [.ref (z + 0), .int x1, .ref (z + ro)]) (va_Qi Q (hB D cA z (hA z L sz)) (hA z L sz)) 1 (6) (hA z L sz) := by
  refine hm_metW (I, J, T, F, L) [.ref (z + 0), .int x1, .ref (z + ro)] rfl (by decide) (Nat.le_of_ble_eq_true rfl) ?_
  intro p e s m below meth c ls X hr hlk hxt hw hl
  have hl : lv_has ls 4 [(0, .ref (z + 0)), (1, .int x1), (2, .ref (z + ro))] := hl
  generalize hA z L sz = A at hw ⊢
  have hx := X.1
  have hb := X.2.1
  unfold L_rightOf at h
  refine lv_aload_n hx hb dL_rightOf_0 rfl (lv_at hl 2 rfl) ?_
  refine lv_iconst (v := 0) hx hb dL_rightOf_1 (by decide) ?_
  refine lv_aload_n hx hb dL_rightOf_2 rfl (lv_at hl 0 rfl) ?_
  refine lv_iload_n hx hb dL_rightOf_3 rfl (lv_at hl 1 rfl) ?_
  refine hm_xcalli hw (hm_xrunV (rest := [_, _]) EvC_cl X hw (cH_rightOf hlt hG h) yk_X10_rightOf kw1115 rfl (gl_0 hG) rfl hl.1 rfl rfl rfl (Nat.le_of_ble_eq_true rfl) ⟨Nat.le_refl _, Nat.le_refl _⟩ ⟨Nat.le_of_eq (Nat.zero_add _), Nat.le_of_eq (Nat.zero_add _)⟩ dL_rightOf_4) (fun ce q9 u H locs hp hw hq hv hcl => ?_) (fun r u H locs hp hw => ?_)
  · obtain ⟨I2, rfl, h⟩ := hp
    refine hx_catch X.2.2.2.1 ⟨0, 9, 12, 13⟩ hxt (by decide) (by decide) (X.2.2.2.2 _ kw838) (hx_cast hcl) hq hv hcl ?_
    refine lv_astore_n (lv' := [(3, _), (0, _), (1, _), (2, _)]) hx hb dL_rightOf_12 rfl hl (by decide) rfl (fun ls hl => ?_)
    refine lv_iconst (v := 1) hx hb dL_rightOf_13 (by decide) ?_
    refine W.widen (k := 1) (n := 6) (Nat.le_of_eq (Nat.zero_add _)) (Nat.le_of_eq (Nat.zero_add _)) ?_
    exact hm_iret X hr hlk hw h dL_rightOf_14
  obtain ⟨I2, rfl, h⟩ := hp
  refine lv_i2l (v := Int32.toInt64 r) hx hb dL_rightOf_7 rfl ?_
  refine hm_last X hw ho (by unfold vp_in; decide) dL_rightOf_8 (fun H locs hw => ?_)
  refine lv_goto (tgt := 15) hx hb dL_rightOf_9 (by decide) ?_
  refine lv_iconst (v := 0) hx hb dL_rightOf_15 (by decide) ?_
  refine W.widen (k := 1) (n := 6) (Nat.le_of_eq (Nat.zero_add _)) (Nat.le_of_eq (Nat.zero_add _)) ?_
  exact hm_iret X hr hlk hw h dL_rightOf_16

theorem kL_worst {l : Launch} {D : va_G} {cA : Nat → ClassId} {z sz : Nat} {I : HI} {J : HJ} {T F : HR} {L : HL} {x1 : Int32} {ro : Nat} {Q : Int32 → HS → Prop} (hlt : l.stackTraces = false) (hG : Geo F L) (ho : (ro, 4, 1) ∈ L) (h : L_worst I J T F L x1 ro Q) : Met l yL_worst (hwsW yL_worst cL_worst 4 (some .int) [(0, 9, 12, 13)]) { frames := 8, cells := 1, slots := 6, locals := 173 } (hPc D cA z EvC (I, J, T, F, L) sz [.ref (z + 0), .int x1, .ref (z + ro)]) (va_Qi Q (hB D cA z (hA z L sz)) (hA z L sz)) 1 (6) (hA z L sz) := by
  refine hm_metW (I, J, T, F, L) [.ref (z + 0), .int x1, .ref (z + ro)] rfl (by decide) (Nat.le_of_ble_eq_true rfl) ?_
  intro p e s m below meth c ls X hr hlk hxt hw hl
  have hl : lv_has ls 4 [(0, .ref (z + 0)), (1, .int x1), (2, .ref (z + ro))] := hl
  generalize hA z L sz = A at hw ⊢
  have hx := X.1
  have hb := X.2.1
  unfold L_worst at h
  refine lv_aload_n hx hb dL_worst_0 rfl (lv_at hl 2 rfl) ?_
  refine lv_iconst (v := 0) hx hb dL_worst_1 (by decide) ?_
  refine lv_aload_n hx hb dL_worst_2 rfl (lv_at hl 0 rfl) ?_
  refine lv_iload_n hx hb dL_worst_3 rfl (lv_at hl 1 rfl) ?_
  refine hm_xcalli hw (hm_xrunV (rest := [_, _]) EvC_cl X hw (cH_worst hlt hG h) yk_X10_worst kw1126 rfl (gl_0 hG) rfl hl.1 rfl rfl rfl (Nat.le_of_ble_eq_true rfl) ⟨Nat.le_refl _, Nat.le_refl _⟩ ⟨Nat.le_of_eq (Nat.zero_add _), Nat.le_of_eq (Nat.zero_add _)⟩ dL_worst_4) (fun ce q9 u H locs hp hw hq hv hcl => ?_) (fun r u H locs hp hw => ?_)
  · obtain ⟨I2, rfl, h⟩ := hp
    refine hx_catch X.2.2.2.1 ⟨0, 9, 12, 13⟩ hxt (by decide) (by decide) (X.2.2.2.2 _ kw838) (hx_cast hcl) hq hv hcl ?_
    refine lv_astore_n (lv' := [(3, _), (0, _), (1, _), (2, _)]) hx hb dL_worst_12 rfl hl (by decide) rfl (fun ls hl => ?_)
    refine lv_iconst (v := 1) hx hb dL_worst_13 (by decide) ?_
    refine W.widen (k := 1) (n := 6) (Nat.le_of_eq (Nat.zero_add _)) (Nat.le_of_eq (Nat.zero_add _)) ?_
    exact hm_iret X hr hlk hw h dL_worst_14
  obtain ⟨I2, rfl, h⟩ := hp
  refine lv_i2l (v := Int32.toInt64 r) hx hb dL_worst_7 rfl ?_
  refine hm_last X hw ho (by unfold vp_in; decide) dL_worst_8 (fun H locs hw => ?_)
  refine lv_goto (tgt := 15) hx hb dL_worst_9 (by decide) ?_
  refine lv_iconst (v := 0) hx hb dL_worst_15 (by decide) ?_
  refine W.widen (k := 1) (n := 6) (Nat.le_of_eq (Nat.zero_add _)) (Nat.le_of_eq (Nat.zero_add _)) ?_
  exact hm_iret X hr hlk hw h dL_worst_16

theorem kL_idle {l : Launch} {D : va_G} {cA : Nat → ClassId} {z sz : Nat} {I : HI} {J : HJ} {T F : HR} {L : HL} {x1 : Int32} {ro : Nat} {Q : Int32 → HS → Prop} (hlt : l.stackTraces = false) (hG : Geo F L) (ho : (ro, 4, 1) ∈ L) (h : L_idle I J T F L x1 ro Q) : Met l yL_idle (hwsW yL_idle cL_idle 4 (some .int) [(0, 9, 12, 13)]) { frames := 9, cells := 1, slots := 6, locals := 171 } (hPc D cA z EvC (I, J, T, F, L) sz [.ref (z + 0), .int x1, .ref (z + ro)]) (va_Qi Q (hB D cA z (hA z L sz)) (hA z L sz)) 1 (6) (hA z L sz) := by
  refine hm_metW (I, J, T, F, L) [.ref (z + 0), .int x1, .ref (z + ro)] rfl (by decide) (Nat.le_of_ble_eq_true rfl) ?_
  intro p e s m below meth c ls X hr hlk hxt hw hl
  have hl : lv_has ls 4 [(0, .ref (z + 0)), (1, .int x1), (2, .ref (z + ro))] := hl
  generalize hA z L sz = A at hw ⊢
  have hx := X.1
  have hb := X.2.1
  unfold L_idle at h
  refine lv_aload_n hx hb dL_idle_0 rfl (lv_at hl 2 rfl) ?_
  refine lv_iconst (v := 0) hx hb dL_idle_1 (by decide) ?_
  refine lv_aload_n hx hb dL_idle_2 rfl (lv_at hl 0 rfl) ?_
  refine lv_iload_n hx hb dL_idle_3 rfl (lv_at hl 1 rfl) ?_
  refine hm_xcalli hw (hm_xrunV (rest := [_, _]) EvC_cl X hw (cH_idle hlt hG h) yk_X10_idle kw1130 rfl (gl_0 hG) rfl hl.1 rfl rfl rfl (Nat.le_of_ble_eq_true rfl) ⟨Nat.le_refl _, Nat.le_refl _⟩ ⟨Nat.le_of_eq (Nat.zero_add _), Nat.le_of_eq (Nat.zero_add _)⟩ dL_idle_4) (fun ce q9 u H locs hp hw hq hv hcl => ?_) (fun r u H locs hp hw => ?_)
  · obtain ⟨I2, rfl, h⟩ := hp
    refine hx_catch X.2.2.2.1 ⟨0, 9, 12, 13⟩ hxt (by decide) (by decide) (X.2.2.2.2 _ kw838) (hx_cast hcl) hq hv hcl ?_
    refine lv_astore_n (lv' := [(3, _), (0, _), (1, _), (2, _)]) hx hb dL_idle_12 rfl hl (by decide) rfl (fun ls hl => ?_)
    refine lv_iconst (v := 1) hx hb dL_idle_13 (by decide) ?_
    refine W.widen (k := 1) (n := 6) (Nat.le_of_eq (Nat.zero_add _)) (Nat.le_of_eq (Nat.zero_add _)) ?_
    exact hm_iret X hr hlk hw h dL_idle_14
  obtain ⟨I2, rfl, h⟩ := hp
  refine lv_i2l (v := Int32.toInt64 r) hx hb dL_idle_7 rfl ?_
  refine hm_last X hw ho (by unfold vp_in; decide) dL_idle_8 (fun H locs hw => ?_)
  refine lv_goto (tgt := 15) hx hb dL_idle_9 (by decide) ?_
  refine lv_iconst (v := 0) hx hb dL_idle_15 (by decide) ?_
  refine W.widen (k := 1) (n := 6) (Nat.le_of_eq (Nat.zero_add _)) (Nat.le_of_eq (Nat.zero_add _)) ?_
  exact hm_iret X hr hlk hw h dL_idle_16

theorem kL_otherwise {l : Launch} {D : va_G} {cA : Nat → ClassId} {z sz : Nat} {I : HI} {J : HJ} {T F : HR} {L : HL} {x1 : Int32} {x2 : Int32} {ro : Nat} {Q : Int32 → HS → Prop} (hlt : l.stackTraces = false) (hG : Geo F L) (ho : (ro, 4, 1) ∈ L) (h : L_otherwise I J T F L x1 x2 ro Q) : Met l yL_otherwise (hwsW yL_otherwise cL_otherwise 5 (some .int) [(0, 10, 13, 13)]) { frames := 9, cells := 2, slots := 12, locals := 165 } (hPc D cA z EvC (I, J, T, F, L) sz [.ref (z + 0), .int x1, .int x2, .ref (z + ro)]) (va_Qi Q (hB D cA z (hA z L sz)) (hA z L sz)) 2 (12) (hA z L sz) := by
  refine hm_metW (I, J, T, F, L) [.ref (z + 0), .int x1, .int x2, .ref (z + ro)] rfl (by decide) (Nat.le_of_ble_eq_true rfl) ?_
  intro p e s m below meth c ls X hr hlk hxt hw hl
  have hl : lv_has ls 5 [(0, .ref (z + 0)), (1, .int x1), (2, .int x2), (3, .ref (z + ro))] := hl
  generalize hA z L sz = A at hw ⊢
  have hx := X.1
  have hb := X.2.1
  unfold L_otherwise at h
  refine lv_aload_n hx hb dL_otherwise_0 rfl (lv_at hl 3 rfl) ?_
  refine lv_iconst (v := 0) hx hb dL_otherwise_1 (by decide) ?_
  refine lv_aload_n hx hb dL_otherwise_2 rfl (lv_at hl 0 rfl) ?_
  refine lv_iload_n hx hb dL_otherwise_3 rfl (lv_at hl 1 rfl) ?_
  refine lv_iload_n hx hb dL_otherwise_4 rfl (lv_at hl 2 rfl) ?_
  refine hm_xcalli hw (hm_xrunV (rest := [_, _]) EvC_cl X hw (cH_otherwise hlt hG h) yk_X10_otherwise kw1145 rfl (gl_0 hG) rfl hl.1 rfl rfl rfl (Nat.le_of_ble_eq_true rfl) ⟨Nat.le_refl _, Nat.le_refl _⟩ ⟨Nat.le_of_eq (Nat.zero_add _), Nat.le_of_eq (Nat.zero_add _)⟩ dL_otherwise_5) (fun ce q9 u H locs hp hw hq hv hcl => ?_) (fun r u H locs hp hw => ?_)
  · obtain ⟨I2, T2, rfl, h⟩ := hp
    refine hx_catch X.2.2.2.1 ⟨0, 10, 13, 13⟩ hxt (by decide) (by decide) (X.2.2.2.2 _ kw838) (hx_cast hcl) hq hv hcl ?_
    refine lv_astore (lv' := [(4, _), (0, _), (1, _), (2, _), (3, _)]) hx hb dL_otherwise_13 hl (by decide) rfl (fun ls hl => ?_)
    refine lv_iconst (v := 1) hx hb dL_otherwise_15 (by decide) ?_
    refine W.widen (k := 2) (n := 12) (Nat.le_of_eq (Nat.zero_add _)) (Nat.le_of_eq (Nat.zero_add _)) ?_
    exact hm_iret X hr hlk hw h dL_otherwise_16
  obtain ⟨I2, T2, rfl, h⟩ := hp
  refine lv_i2l (v := Int32.toInt64 r) hx hb dL_otherwise_8 rfl ?_
  refine hm_last X hw ho (by unfold vp_in; decide) dL_otherwise_9 (fun H locs hw => ?_)
  refine lv_goto (tgt := 17) hx hb dL_otherwise_10 (by decide) ?_
  refine lv_iconst (v := 0) hx hb dL_otherwise_17 (by decide) ?_
  refine W.widen (k := 2) (n := 12) (Nat.le_of_eq (Nat.zero_add _)) (Nat.le_of_eq (Nat.zero_add _)) ?_
  exact hm_iret X hr hlk hw h dL_otherwise_18

theorem kL_search {l : Launch} {D : va_G} {cA : Nat → ClassId} {z sz : Nat} {I : HI} {J : HJ} {T F : HR} {L : HL} {x1 : Int32} {ro : Nat} {Q : Int32 → HS → Prop} (hlt : l.stackTraces = false) (hG : Geo F L) (ho : (ro, 4, 1) ∈ L) (h : L_search I J T F L x1 ro Q) : Met l yL_search (hwsW yL_search cL_search 4 (some .int) [(0, 9, 12, 22)]) { frames := 9, cells := 1, slots := 6, locals := 163 } (hPc D cA z EvC (I, J, T, F, L) sz [.ref (z + 0), .int x1, .ref (z + ro)]) (va_Qi Q (hB D cA z (hA z L sz)) (hA z L sz)) 1 (6) (hA z L sz) := by
  refine hm_metW (I, J, T, F, L) [.ref (z + 0), .int x1, .ref (z + ro)] rfl (by decide) (Nat.le_of_ble_eq_true rfl) ?_
  intro p e s m below meth c ls X hr hlk hxt hw hl
  have hl : lv_has ls 4 [(0, .ref (z + 0)), (1, .int x1), (2, .ref (z + ro))] := hl
  generalize hA z L sz = A at hw ⊢
  have hx := X.1
  have hb := X.2.1
  unfold L_search at h
  refine lv_aload_n hx hb dL_search_0 rfl (lv_at hl 2 rfl) ?_
  refine lv_iconst (v := 0) hx hb dL_search_1 (by decide) ?_
  refine lv_aload_n hx hb dL_search_2 rfl (lv_at hl 0 rfl) ?_
  refine lv_iload_n hx hb dL_search_3 rfl (lv_at hl 1 rfl) ?_
  refine hm_xcalli hw (hm_xrunV (rest := [_, _]) EvC_cl X hw (cH_search hlt hG h) yk_X10_search kw1154 rfl (gl_0 hG) rfl hl.1 rfl rfl rfl (Nat.le_of_ble_eq_true rfl) ⟨Nat.le_refl _, Nat.le_refl _⟩ ⟨Nat.le_of_eq (Nat.zero_add _), Nat.le_of_eq (Nat.zero_add _)⟩ dL_search_4) (fun ce q9 u H locs hp hw hq hv hcl => ?_) (fun r u H locs hp hw => ?_)
  · obtain ⟨I2, T2, rfl, h⟩ := hp
    refine hx_catch X.2.2.2.1 ⟨0, 9, 12, 22⟩ hxt (by decide) (by decide) (X.2.2.2.2 _ kw861) (hx_cast hcl) hq hv hcl ?_
    refine lv_astore_n (lv' := [(3, _), (0, _), (1, _), (2, _)]) hx hb dL_search_12 rfl hl (by decide) rfl (fun ls hl => ?_)
    refine lv_iconst (v := 1) hx hb dL_search_13 (by decide) ?_
    refine W.widen (k := 1) (n := 6) (Nat.le_of_eq (Nat.zero_add _)) (Nat.le_of_eq (Nat.zero_add _)) ?_
    exact hm_iret X hr hlk hw h dL_search_14
  obtain ⟨I2, T2, rfl, h⟩ := hp
  refine lv_i2l (v := Int32.toInt64 r) hx hb dL_search_7 rfl ?_
  refine hm_last X hw ho (by unfold vp_in; decide) dL_search_8 (fun H locs hw => ?_)
  refine lv_goto (tgt := 15) hx hb dL_search_9 (by decide) ?_
  refine lv_iconst (v := 0) hx hb dL_search_15 (by decide) ?_
  refine W.widen (k := 1) (n := 6) (Nat.le_of_eq (Nat.zero_add _)) (Nat.le_of_eq (Nat.zero_add _)) ?_
  exact hm_iret X hr hlk hw h dL_search_16

theorem kL_sums {l : Launch} {D : va_G} {cA : Nat → ClassId} {z sz : Nat} {I : HI} {J : HJ} {T F : HR} {L : HL} {ro : Nat} {Q : Int32 → HS → Prop} (hlt : l.stackTraces = false) (hG : Geo F L) (ho : (ro, 4, 1) ∈ L) (h : L_sums I J T F L ro Q) : Met l yL_sums (hwsW yL_sums cL_sums 3 (some .int) [(0, 8, 11, 22)]) { frames := 9, cells := 2, slots := 12, locals := 199 } (hPc D cA z EvC (I, J, T, F, L) sz [.ref (z + 0), .ref (z + ro)]) (va_Qi Q (hB D cA z (hA z L sz)) (hA z L sz)) 2 (12) (hA z L sz) := by
  refine hm_metW (I, J, T, F, L) [.ref (z + 0), .ref (z + ro)] rfl (by decide) (Nat.le_of_ble_eq_true rfl) ?_
  intro p e s m below meth c ls X hr hlk hxt hw hl
  have hl : lv_has ls 3 [(0, .ref (z + 0)), (1, .ref (z + ro))] := hl
  generalize hA z L sz = A at hw ⊢
  have hx := X.1
  have hb := X.2.1
  unfold L_sums at h
  refine lv_aload_n hx hb dL_sums_0 rfl (lv_at hl 1 rfl) ?_
  refine lv_iconst (v := 0) hx hb dL_sums_1 (by decide) ?_
  refine lv_aload_n hx hb dL_sums_2 rfl (lv_at hl 0 rfl) ?_
  refine hm_xcalli hw (hm_xrunV (rest := [_, _]) EvC_cl X hw (cH_sums hlt hG h) yk_X10_sums kw1202 rfl (gl_0 hG) rfl hl.1 rfl rfl rfl (Nat.le_of_ble_eq_true rfl) ⟨Nat.le_refl _, Nat.le_refl _⟩ ⟨Nat.le_of_eq (Nat.zero_add _), Nat.le_of_eq (Nat.zero_add _)⟩ dL_sums_3) (fun ce q9 u H locs hp hw hq hv hcl => ?_) (fun r u H locs hp hw => ?_)
  · obtain ⟨I2, T2, rfl, h⟩ := hp
    refine hx_catch X.2.2.2.1 ⟨0, 8, 11, 22⟩ hxt (by decide) (by decide) (X.2.2.2.2 _ kw861) (hx_cast hcl) hq hv hcl ?_
    refine lv_astore_n (lv' := [(2, _), (0, _), (1, _)]) hx hb dL_sums_11 rfl hl (by decide) rfl (fun ls hl => ?_)
    refine lv_iconst (v := 1) hx hb dL_sums_12 (by decide) ?_
    refine W.widen (k := 2) (n := 12) (Nat.le_of_eq (Nat.zero_add _)) (Nat.le_of_eq (Nat.zero_add _)) ?_
    exact hm_iret X hr hlk hw h dL_sums_13
  obtain ⟨I2, T2, rfl, h⟩ := hp
  refine lv_i2l (v := Int32.toInt64 r) hx hb dL_sums_6 rfl ?_
  refine hm_last X hw ho (by unfold vp_in; decide) dL_sums_7 (fun H locs hw => ?_)
  refine lv_goto (tgt := 14) hx hb dL_sums_8 (by decide) ?_
  refine lv_iconst (v := 0) hx hb dL_sums_14 (by decide) ?_
  refine W.widen (k := 2) (n := 12) (Nat.le_of_eq (Nat.zero_add _)) (Nat.le_of_eq (Nat.zero_add _)) ?_
  exact hm_iret X hr hlk hw h dL_sums_15

theorem kL_constant {l : Launch} {D : va_G} {cA : Nat → ClassId} {z sz : Nat} {I : HI} {J : HJ} {T F : HR} {L : HL} {x1 : Int32} {ro : Nat} {Q : Int32 → HS → Prop} (hlt : l.stackTraces = false) (hG : Geo F L) (ho : (ro, 4, 1) ∈ L) (h : L_constant I J T F L x1 ro Q) : Met l yL_constant (hwsW yL_constant cL_constant 4 (some .int) [(0, 9, 12, 13)]) { frames := 9, cells := 2, slots := 12, locals := 162 } (hPc D cA z EvC (I, J, T, F, L) sz [.ref (z + 0), .int x1, .ref (z + ro)]) (va_Qi Q (hB D cA z (hA z L sz)) (hA z L sz)) 2 (12) (hA z L sz) := by
  refine hm_metW (I, J, T, F, L) [.ref (z + 0), .int x1, .ref (z + ro)] rfl (by decide) (Nat.le_of_ble_eq_true rfl) ?_
  intro p e s m below meth c ls X hr hlk hxt hw hl
  have hl : lv_has ls 4 [(0, .ref (z + 0)), (1, .int x1), (2, .ref (z + ro))] := hl
  generalize hA z L sz = A at hw ⊢
  have hx := X.1
  have hb := X.2.1
  unfold L_constant at h
  refine lv_aload_n hx hb dL_constant_0 rfl (lv_at hl 2 rfl) ?_
  refine lv_iconst (v := 0) hx hb dL_constant_1 (by decide) ?_
  refine lv_aload_n hx hb dL_constant_2 rfl (lv_at hl 0 rfl) ?_
  refine lv_iload_n hx hb dL_constant_3 rfl (lv_at hl 1 rfl) ?_
  refine hm_xcalli hw (hm_xrunV (rest := [_, _]) EvC_cl X hw (cH_constant hlt hG h) yk_X10_constant kw1248 rfl (gl_0 hG) rfl hl.1 rfl rfl rfl (Nat.le_of_ble_eq_true rfl) ⟨Nat.le_refl _, Nat.le_refl _⟩ ⟨Nat.le_of_eq (Nat.zero_add _), Nat.le_of_eq (Nat.zero_add _)⟩ dL_constant_4) (fun ce q9 u H locs hp hw hq hv hcl => ?_) (fun r u H locs hp hw => ?_)
  · obtain ⟨rfl, h⟩ := hp
    refine hx_catch X.2.2.2.1 ⟨0, 9, 12, 13⟩ hxt (by decide) (by decide) (X.2.2.2.2 _ kw838) (hx_cast hcl) hq hv hcl ?_
    refine lv_astore_n (lv' := [(3, _), (0, _), (1, _), (2, _)]) hx hb dL_constant_12 rfl hl (by decide) rfl (fun ls hl => ?_)
    refine lv_iconst (v := 1) hx hb dL_constant_13 (by decide) ?_
    refine W.widen (k := 2) (n := 12) (Nat.le_of_eq (Nat.zero_add _)) (Nat.le_of_eq (Nat.zero_add _)) ?_
    exact hm_iret X hr hlk hw h dL_constant_14
  obtain ⟨rfl, h⟩ := hp
  refine lv_i2l (v := Int32.toInt64 r) hx hb dL_constant_7 rfl ?_
  refine hm_last X hw ho (by unfold vp_in; decide) dL_constant_8 (fun H locs hw => ?_)
  refine lv_goto (tgt := 15) hx hb dL_constant_9 (by decide) ?_
  refine lv_iconst (v := 0) hx hb dL_constant_15 (by decide) ?_
  refine W.widen (k := 2) (n := 12) (Nat.le_of_eq (Nat.zero_add _)) (Nat.le_of_eq (Nat.zero_add _)) ?_
  exact hm_iret X hr hlk hw h dL_constant_16

theorem kL_given {l : Launch} {D : va_G} {cA : Nat → ClassId} {z sz : Nat} {I : HI} {J : HJ} {T F : HR} {L : HL} {x1 : Int32} {ro : Nat} {Q : Int32 → HS → Prop} (hlt : l.stackTraces = false) (hG : Geo F L) (ho : (ro, 4, 1) ∈ L) (h : L_given I J T F L x1 ro Q) : Met l yL_given (hwsW yL_given cL_given 4 (some .int) [(0, 9, 12, 13)]) { frames := 8, cells := 1, slots := 6, locals := 141 } (hPc D cA z EvC (I, J, T, F, L) sz [.ref (z + 0), .int x1, .ref (z + ro)]) (va_Qi Q (hB D cA z (hA z L sz)) (hA z L sz)) 1 (6) (hA z L sz) := by
  refine hm_metW (I, J, T, F, L) [.ref (z + 0), .int x1, .ref (z + ro)] rfl (by decide) (Nat.le_of_ble_eq_true rfl) ?_
  intro p e s m below meth c ls X hr hlk hxt hw hl
  have hl : lv_has ls 4 [(0, .ref (z + 0)), (1, .int x1), (2, .ref (z + ro))] := hl
  generalize hA z L sz = A at hw ⊢
  have hx := X.1
  have hb := X.2.1
  unfold L_given at h
  refine lv_aload_n hx hb dL_given_0 rfl (lv_at hl 2 rfl) ?_
  refine lv_iconst (v := 0) hx hb dL_given_1 (by decide) ?_
  refine lv_aload_n hx hb dL_given_2 rfl (lv_at hl 0 rfl) ?_
  refine lv_iload_n hx hb dL_given_3 rfl (lv_at hl 1 rfl) ?_
  refine hm_xcalli hw (hm_xrunV (rest := [_, _]) EvC_cl X hw (cH_given hlt hG h) yk_X10_given kw1256 rfl (gl_0 hG) rfl hl.1 rfl rfl rfl (Nat.le_of_ble_eq_true rfl) ⟨Nat.le_refl _, Nat.le_refl _⟩ ⟨Nat.le_of_eq (Nat.zero_add _), Nat.le_of_eq (Nat.zero_add _)⟩ dL_given_4) (fun ce q9 u H locs hp hw hq hv hcl => ?_) (fun r u H locs hp hw => ?_)
  · obtain ⟨rfl, h⟩ := hp
    refine hx_catch X.2.2.2.1 ⟨0, 9, 12, 13⟩ hxt (by decide) (by decide) (X.2.2.2.2 _ kw838) (hx_cast hcl) hq hv hcl ?_
    refine lv_astore_n (lv' := [(3, _), (0, _), (1, _), (2, _)]) hx hb dL_given_12 rfl hl (by decide) rfl (fun ls hl => ?_)
    refine lv_iconst (v := 1) hx hb dL_given_13 (by decide) ?_
    refine W.widen (k := 1) (n := 6) (Nat.le_of_eq (Nat.zero_add _)) (Nat.le_of_eq (Nat.zero_add _)) ?_
    exact hm_iret X hr hlk hw h dL_given_14
  obtain ⟨rfl, h⟩ := hp
  refine lv_i2l (v := Int32.toInt64 r) hx hb dL_given_7 rfl ?_
  refine hm_last X hw ho (by unfold vp_in; decide) dL_given_8 (fun H locs hw => ?_)
  refine lv_goto (tgt := 15) hx hb dL_given_9 (by decide) ?_
  refine lv_iconst (v := 0) hx hb dL_given_15 (by decide) ?_
  refine W.widen (k := 1) (n := 6) (Nat.le_of_eq (Nat.zero_add _)) (Nat.le_of_eq (Nat.zero_add _)) ?_
  exact hm_iret X hr hlk hw h dL_given_16

theorem kL_mend {l : Launch} {D : va_G} {cA : Nat → ClassId} {z sz : Nat} {I : HI} {J : HJ} {T F : HR} {L : HL} {x1 : Int32} {ro : Nat} {Q : Int32 → HS → Prop} (hlt : l.stackTraces = false) (hG : Geo F L) (ho : (ro, 4, 1) ∈ L) (h : L_mend I J T F L x1 ro Q) : Met l yL_mend (hwsW yL_mend cL_mend 4 (some .int) [(0, 9, 12, 22)]) { frames := 8, cells := 1, slots := 6, locals := 194 } (hPc D cA z EvC (I, J, T, F, L) sz [.ref (z + 0), .int x1, .ref (z + ro)]) (va_Qi Q (hB D cA z (hA z L sz)) (hA z L sz)) 1 (6) (hA z L sz) := by
  refine hm_metW (I, J, T, F, L) [.ref (z + 0), .int x1, .ref (z + ro)] rfl (by decide) (Nat.le_of_ble_eq_true rfl) ?_
  intro p e s m below meth c ls X hr hlk hxt hw hl
  have hl : lv_has ls 4 [(0, .ref (z + 0)), (1, .int x1), (2, .ref (z + ro))] := hl
  generalize hA z L sz = A at hw ⊢
  have hx := X.1
  have hb := X.2.1
  unfold L_mend at h
  refine lv_aload_n hx hb dL_mend_0 rfl (lv_at hl 2 rfl) ?_
  refine lv_iconst (v := 0) hx hb dL_mend_1 (by decide) ?_
  refine lv_aload_n hx hb dL_mend_2 rfl (lv_at hl 0 rfl) ?_
  refine lv_iload_n hx hb dL_mend_3 rfl (lv_at hl 1 rfl) ?_
  refine hm_xcalli hw (hm_xrunV (rest := [_, _]) EvC_cl X hw (cH_mend hlt hG h) yk_X10_mend kw1264 rfl (gl_0 hG) rfl hl.1 rfl rfl rfl (Nat.le_of_ble_eq_true rfl) ⟨Nat.le_refl _, Nat.le_refl _⟩ ⟨Nat.le_of_eq (Nat.zero_add _), Nat.le_of_eq (Nat.zero_add _)⟩ dL_mend_4) (fun ce q9 u H locs hp hw hq hv hcl => ?_) (fun r u H locs hp hw => ?_)
  · obtain ⟨I2, rfl, h⟩ := hp
    refine hx_catch X.2.2.2.1 ⟨0, 9, 12, 22⟩ hxt (by decide) (by decide) (X.2.2.2.2 _ kw861) (hx_cast hcl) hq hv hcl ?_
    refine lv_astore_n (lv' := [(3, _), (0, _), (1, _), (2, _)]) hx hb dL_mend_12 rfl hl (by decide) rfl (fun ls hl => ?_)
    refine lv_iconst (v := 1) hx hb dL_mend_13 (by decide) ?_
    refine W.widen (k := 1) (n := 6) (Nat.le_of_eq (Nat.zero_add _)) (Nat.le_of_eq (Nat.zero_add _)) ?_
    exact hm_iret X hr hlk hw h dL_mend_14
  obtain ⟨I2, rfl, h⟩ := hp
  refine lv_i2l (v := Int32.toInt64 r) hx hb dL_mend_7 rfl ?_
  refine hm_last X hw ho (by unfold vp_in; decide) dL_mend_8 (fun H locs hw => ?_)
  refine lv_goto (tgt := 15) hx hb dL_mend_9 (by decide) ?_
  refine lv_iconst (v := 0) hx hb dL_mend_15 (by decide) ?_
  refine W.widen (k := 1) (n := 6) (Nat.le_of_eq (Nat.zero_add _)) (Nat.le_of_eq (Nat.zero_add _)) ?_
  exact hm_iret X hr hlk hw h dL_mend_16

theorem kL_count {l : Launch} {D : va_G} {cA : Nat → ClassId} {z sz : Nat} {I : HI} {J : HJ} {T F : HR} {L : HL} {x1 : Int32} {ro : Nat} {Q : Int32 → HS → Prop} (hlt : l.stackTraces = false) (hG : Geo F L) (ho : (ro, 4, 1) ∈ L) (h : L_count I J T F L x1 ro Q) : Met l yL_count (hwsW yL_count cL_count 4 (some .int) [(0, 9, 12, 13)]) { frames := 8, cells := 1, slots := 6, locals := 141 } (hPc D cA z EvC (I, J, T, F, L) sz [.ref (z + 0), .int x1, .ref (z + ro)]) (va_Qi Q (hB D cA z (hA z L sz)) (hA z L sz)) 1 (6) (hA z L sz) := by
  refine hm_metW (I, J, T, F, L) [.ref (z + 0), .int x1, .ref (z + ro)] rfl (by decide) (Nat.le_of_ble_eq_true rfl) ?_
  intro p e s m below meth c ls X hr hlk hxt hw hl
  have hl : lv_has ls 4 [(0, .ref (z + 0)), (1, .int x1), (2, .ref (z + ro))] := hl
  generalize hA z L sz = A at hw ⊢
  have hx := X.1
  have hb := X.2.1
  unfold L_count at h
  refine lv_aload_n hx hb dL_count_0 rfl (lv_at hl 2 rfl) ?_
  refine lv_iconst (v := 0) hx hb dL_count_1 (by decide) ?_
  refine lv_aload_n hx hb dL_count_2 rfl (lv_at hl 0 rfl) ?_
  refine lv_iload_n hx hb dL_count_3 rfl (lv_at hl 1 rfl) ?_
  refine hm_xcalli hw (hm_xrunV (rest := [_, _]) EvC_cl X hw (cH_count hlt hG h) yk_X10_count kw1309 rfl (gl_0 hG) rfl hl.1 rfl rfl rfl (Nat.le_of_ble_eq_true rfl) ⟨Nat.le_refl _, Nat.le_refl _⟩ ⟨Nat.le_of_eq (Nat.zero_add _), Nat.le_of_eq (Nat.zero_add _)⟩ dL_count_4) (fun ce q9 u H locs hp hw hq hv hcl => ?_) (fun r u H locs hp hw => ?_)
  · obtain ⟨rfl, h⟩ := hp
    refine hx_catch X.2.2.2.1 ⟨0, 9, 12, 13⟩ hxt (by decide) (by decide) (X.2.2.2.2 _ kw838) (hx_cast hcl) hq hv hcl ?_
    refine lv_astore_n (lv' := [(3, _), (0, _), (1, _), (2, _)]) hx hb dL_count_12 rfl hl (by decide) rfl (fun ls hl => ?_)
    refine lv_iconst (v := 1) hx hb dL_count_13 (by decide) ?_
    refine W.widen (k := 1) (n := 6) (Nat.le_of_eq (Nat.zero_add _)) (Nat.le_of_eq (Nat.zero_add _)) ?_
    exact hm_iret X hr hlk hw h dL_count_14
  obtain ⟨rfl, h⟩ := hp
  refine lv_i2l (v := Int32.toInt64 r) hx hb dL_count_7 rfl ?_
  refine hm_last X hw ho (by unfold vp_in; decide) dL_count_8 (fun H locs hw => ?_)
  refine lv_goto (tgt := 15) hx hb dL_count_9 (by decide) ?_
  refine lv_iconst (v := 0) hx hb dL_count_15 (by decide) ?_
  refine W.widen (k := 1) (n := 6) (Nat.le_of_eq (Nat.zero_add _)) (Nat.le_of_eq (Nat.zero_add _)) ?_
  exact hm_iret X hr hlk hw h dL_count_16
