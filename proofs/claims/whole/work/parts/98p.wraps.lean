/-! the wrappers -/
theorem dL_hall_0 : decode cL_hall 0 = .ok (.aload_n 2, 1) := by decide +kernel
theorem dL_hall_1 : decode cL_hall 1 = .ok (.iconst 0, 1) := by decide +kernel
theorem dL_hall_2 : decode cL_hall 2 = .ok (.aload_n 0, 1) := by decide +kernel
theorem dL_hall_3 : decode cL_hall 3 = .ok (.iload_n 1, 1) := by decide +kernel
theorem dL_hall_4 : decode cL_hall 4 = .ok (.invokevirtual 7, 3) := by decide +kernel
theorem dL_hall_7 : decode cL_hall 7 = .ok (.i2l, 1) := by decide +kernel
theorem dL_hall_8 : decode cL_hall 8 = .ok (.lastore, 1) := by decide +kernel
theorem dL_hall_9 : decode cL_hall 9 = .ok (.goto 6, 3) := by decide +kernel
theorem dL_hall_12 : decode cL_hall 12 = .ok (.astore_n 3, 1) := by decide +kernel
theorem dL_hall_13 : decode cL_hall 13 = .ok (.iconst 1, 1) := by decide +kernel
theorem dL_hall_14 : decode cL_hall 14 = .ok (.ireturn, 1) := by decide +kernel
theorem dL_hall_15 : decode cL_hall 15 = .ok (.iconst 0, 1) := by decide +kernel
theorem dL_hall_16 : decode cL_hall 16 = .ok (.ireturn, 1) := by decide +kernel
theorem dL_count_0 : decode cL_count 0 = .ok (.aload_n 2, 1) := by decide +kernel
theorem dL_count_1 : decode cL_count 1 = .ok (.iconst 0, 1) := by decide +kernel
theorem dL_count_2 : decode cL_count 2 = .ok (.aload_n 0, 1) := by decide +kernel
theorem dL_count_3 : decode cL_count 3 = .ok (.iload_n 1, 1) := by decide +kernel
theorem dL_count_4 : decode cL_count 4 = .ok (.invokevirtual 15, 3) := by decide +kernel
theorem dL_count_7 : decode cL_count 7 = .ok (.i2l, 1) := by decide +kernel
theorem dL_count_8 : decode cL_count 8 = .ok (.lastore, 1) := by decide +kernel
theorem dL_count_9 : decode cL_count 9 = .ok (.goto 6, 3) := by decide +kernel
theorem dL_count_12 : decode cL_count 12 = .ok (.astore_n 3, 1) := by decide +kernel
theorem dL_count_13 : decode cL_count 13 = .ok (.iconst 1, 1) := by decide +kernel
theorem dL_count_14 : decode cL_count 14 = .ok (.ireturn, 1) := by decide +kernel
theorem dL_count_15 : decode cL_count 15 = .ok (.iconst 0, 1) := by decide +kernel
theorem dL_count_16 : decode cL_count 16 = .ok (.ireturn, 1) := by decide +kernel
theorem dL_amount_0 : decode cL_amount 0 = .ok (.aload_n 3, 1) := by decide +kernel
theorem dL_amount_1 : decode cL_amount 1 = .ok (.iconst 0, 1) := by decide +kernel
theorem dL_amount_2 : decode cL_amount 2 = .ok (.aload_n 0, 1) := by decide +kernel
theorem dL_amount_3 : decode cL_amount 3 = .ok (.iload_n 1, 1) := by decide +kernel
theorem dL_amount_4 : decode cL_amount 4 = .ok (.iload_n 2, 1) := by decide +kernel
theorem dL_amount_5 : decode cL_amount 5 = .ok (.invokevirtual 20, 3) := by decide +kernel
theorem dL_amount_8 : decode cL_amount 8 = .ok (.i2l, 1) := by decide +kernel
theorem dL_amount_9 : decode cL_amount 9 = .ok (.lastore, 1) := by decide +kernel
theorem dL_amount_10 : decode cL_amount 10 = .ok (.goto 7, 3) := by decide +kernel
theorem dL_amount_13 : decode cL_amount 13 = .ok (.astore 4, 2) := by decide +kernel
theorem dL_amount_15 : decode cL_amount 15 = .ok (.iconst 1, 1) := by decide +kernel
theorem dL_amount_16 : decode cL_amount 16 = .ok (.ireturn, 1) := by decide +kernel
theorem dL_amount_17 : decode cL_amount 17 = .ok (.iconst 0, 1) := by decide +kernel
theorem dL_amount_18 : decode cL_amount 18 = .ok (.ireturn, 1) := by decide +kernel
theorem dL_colour_0 : decode cL_colour 0 = .ok (.aload_n 3, 1) := by decide +kernel
theorem dL_colour_1 : decode cL_colour 1 = .ok (.iconst 0, 1) := by decide +kernel
theorem dL_colour_2 : decode cL_colour 2 = .ok (.aload_n 0, 1) := by decide +kernel
theorem dL_colour_3 : decode cL_colour 3 = .ok (.iload_n 1, 1) := by decide +kernel
theorem dL_colour_4 : decode cL_colour 4 = .ok (.iload_n 2, 1) := by decide +kernel
theorem dL_colour_5 : decode cL_colour 5 = .ok (.invokevirtual 24, 3) := by decide +kernel
theorem dL_colour_8 : decode cL_colour 8 = .ok (.i2l, 1) := by decide +kernel
theorem dL_colour_9 : decode cL_colour 9 = .ok (.lastore, 1) := by decide +kernel
theorem dL_colour_10 : decode cL_colour 10 = .ok (.goto 7, 3) := by decide +kernel
theorem dL_colour_13 : decode cL_colour 13 = .ok (.astore 4, 2) := by decide +kernel
theorem dL_colour_15 : decode cL_colour 15 = .ok (.iconst 1, 1) := by decide +kernel
theorem dL_colour_16 : decode cL_colour 16 = .ok (.ireturn, 1) := by decide +kernel
theorem dL_colour_17 : decode cL_colour 17 = .ok (.iconst 0, 1) := by decide +kernel
theorem dL_colour_18 : decode cL_colour 18 = .ok (.ireturn, 1) := by decide +kernel
theorem dL_set_0 : decode cL_set 0 = .ok (.aload 4, 2) := by decide +kernel
theorem dL_set_2 : decode cL_set 2 = .ok (.iconst 0, 1) := by decide +kernel
theorem dL_set_3 : decode cL_set 3 = .ok (.aload_n 0, 1) := by decide +kernel
theorem dL_set_4 : decode cL_set 4 = .ok (.iload_n 1, 1) := by decide +kernel
theorem dL_set_5 : decode cL_set 5 = .ok (.iload_n 2, 1) := by decide +kernel
theorem dL_set_6 : decode cL_set 6 = .ok (.iload_n 3, 1) := by decide +kernel
theorem dL_set_7 : decode cL_set 7 = .ok (.invokevirtual 27, 3) := by decide +kernel
theorem dL_set_10 : decode cL_set 10 = .ok (.ifCond .eq 7, 3) := by decide +kernel
theorem dL_set_13 : decode cL_set 13 = .ok (.lconst 1, 1) := by decide +kernel
theorem dL_set_14 : decode cL_set 14 = .ok (.goto 4, 3) := by decide +kernel
theorem dL_set_17 : decode cL_set 17 = .ok (.lconst 0, 1) := by decide +kernel
theorem dL_set_18 : decode cL_set 18 = .ok (.lastore, 1) := by decide +kernel
theorem dL_set_19 : decode cL_set 19 = .ok (.goto 7, 3) := by decide +kernel
theorem dL_set_22 : decode cL_set 22 = .ok (.astore 5, 2) := by decide +kernel
theorem dL_set_24 : decode cL_set 24 = .ok (.iconst 1, 1) := by decide +kernel
theorem dL_set_25 : decode cL_set 25 = .ok (.ireturn, 1) := by decide +kernel
theorem dL_set_26 : decode cL_set 26 = .ok (.iconst 0, 1) := by decide +kernel
theorem dL_set_27 : decode cL_set 27 = .ok (.ireturn, 1) := by decide +kernel
theorem dL_fill_0 : decode cL_fill 0 = .ok (.aload_n 3, 1) := by decide +kernel
theorem dL_fill_1 : decode cL_fill 1 = .ok (.iconst 0, 1) := by decide +kernel
theorem dL_fill_2 : decode cL_fill 2 = .ok (.aload_n 0, 1) := by decide +kernel
theorem dL_fill_3 : decode cL_fill 3 = .ok (.iload_n 1, 1) := by decide +kernel
theorem dL_fill_4 : decode cL_fill 4 = .ok (.iload_n 2, 1) := by decide +kernel
theorem dL_fill_5 : decode cL_fill 5 = .ok (.invokevirtual 31, 3) := by decide +kernel
theorem dL_fill_8 : decode cL_fill 8 = .ok (.ifCond .eq 7, 3) := by decide +kernel
theorem dL_fill_11 : decode cL_fill 11 = .ok (.lconst 1, 1) := by decide +kernel
theorem dL_fill_12 : decode cL_fill 12 = .ok (.goto 4, 3) := by decide +kernel
theorem dL_fill_15 : decode cL_fill 15 = .ok (.lconst 0, 1) := by decide +kernel
theorem dL_fill_16 : decode cL_fill 16 = .ok (.lastore, 1) := by decide +kernel
theorem dL_fill_17 : decode cL_fill 17 = .ok (.goto 7, 3) := by decide +kernel
theorem dL_fill_20 : decode cL_fill 20 = .ok (.astore 4, 2) := by decide +kernel
theorem dL_fill_22 : decode cL_fill 22 = .ok (.iconst 1, 1) := by decide +kernel
theorem dL_fill_23 : decode cL_fill 23 = .ok (.ireturn, 1) := by decide +kernel
theorem dL_fill_24 : decode cL_fill 24 = .ok (.iconst 0, 1) := by decide +kernel
theorem dL_fill_25 : decode cL_fill 25 = .ok (.ireturn, 1) := by decide +kernel
theorem dL_jam_0 : decode cL_jam 0 = .ok (.aload_n 3, 1) := by decide +kernel
theorem dL_jam_1 : decode cL_jam 1 = .ok (.iconst 0, 1) := by decide +kernel
theorem dL_jam_2 : decode cL_jam 2 = .ok (.aload_n 0, 1) := by decide +kernel
theorem dL_jam_3 : decode cL_jam 3 = .ok (.iload_n 1, 1) := by decide +kernel
theorem dL_jam_4 : decode cL_jam 4 = .ok (.iload_n 2, 1) := by decide +kernel
theorem dL_jam_5 : decode cL_jam 5 = .ok (.invokevirtual 35, 3) := by decide +kernel
theorem dL_jam_8 : decode cL_jam 8 = .ok (.ifCond .eq 7, 3) := by decide +kernel
theorem dL_jam_11 : decode cL_jam 11 = .ok (.lconst 1, 1) := by decide +kernel
theorem dL_jam_12 : decode cL_jam 12 = .ok (.goto 4, 3) := by decide +kernel
theorem dL_jam_15 : decode cL_jam 15 = .ok (.lconst 0, 1) := by decide +kernel
theorem dL_jam_16 : decode cL_jam 16 = .ok (.lastore, 1) := by decide +kernel
theorem dL_jam_17 : decode cL_jam 17 = .ok (.goto 7, 3) := by decide +kernel
theorem dL_jam_20 : decode cL_jam 20 = .ok (.astore 4, 2) := by decide +kernel
theorem dL_jam_22 : decode cL_jam 22 = .ok (.iconst 1, 1) := by decide +kernel
theorem dL_jam_23 : decode cL_jam 23 = .ok (.ireturn, 1) := by decide +kernel
theorem dL_jam_24 : decode cL_jam 24 = .ok (.iconst 0, 1) := by decide +kernel
theorem dL_jam_25 : decode cL_jam 25 = .ok (.ireturn, 1) := by decide +kernel
theorem dL_press_0 : decode cL_press 0 = .ok (.aload_n 2, 1) := by decide +kernel
theorem dL_press_1 : decode cL_press 1 = .ok (.iconst 0, 1) := by decide +kernel
theorem dL_press_2 : decode cL_press 2 = .ok (.aload_n 0, 1) := by decide +kernel
theorem dL_press_3 : decode cL_press 3 = .ok (.iload_n 1, 1) := by decide +kernel
theorem dL_press_4 : decode cL_press 4 = .ok (.invokevirtual 39, 3) := by decide +kernel
theorem dL_press_7 : decode cL_press 7 = .ok (.ifCond .eq 7, 3) := by decide +kernel
theorem dL_press_10 : decode cL_press 10 = .ok (.lconst 1, 1) := by decide +kernel
theorem dL_press_11 : decode cL_press 11 = .ok (.goto 4, 3) := by decide +kernel
theorem dL_press_14 : decode cL_press 14 = .ok (.lconst 0, 1) := by decide +kernel
theorem dL_press_15 : decode cL_press 15 = .ok (.lastore, 1) := by decide +kernel
theorem dL_press_16 : decode cL_press 16 = .ok (.goto 6, 3) := by decide +kernel
theorem dL_press_19 : decode cL_press 19 = .ok (.astore_n 3, 1) := by decide +kernel
theorem dL_press_20 : decode cL_press 20 = .ok (.iconst 1, 1) := by decide +kernel
theorem dL_press_21 : decode cL_press 21 = .ok (.ireturn, 1) := by decide +kernel
theorem dL_press_22 : decode cL_press 22 = .ok (.iconst 0, 1) := by decide +kernel
theorem dL_press_23 : decode cL_press 23 = .ok (.ireturn, 1) := by decide +kernel
theorem dL_bound_0 : decode cL_bound 0 = .ok (.aload_n 3, 1) := by decide +kernel
theorem dL_bound_1 : decode cL_bound 1 = .ok (.iconst 0, 1) := by decide +kernel
theorem dL_bound_2 : decode cL_bound 2 = .ok (.aload_n 0, 1) := by decide +kernel
theorem dL_bound_3 : decode cL_bound 3 = .ok (.iload_n 1, 1) := by decide +kernel
theorem dL_bound_4 : decode cL_bound 4 = .ok (.iload_n 2, 1) := by decide +kernel
theorem dL_bound_5 : decode cL_bound 5 = .ok (.invokevirtual 43, 3) := by decide +kernel
theorem dL_bound_8 : decode cL_bound 8 = .ok (.i2l, 1) := by decide +kernel
theorem dL_bound_9 : decode cL_bound 9 = .ok (.lastore, 1) := by decide +kernel
theorem dL_bound_10 : decode cL_bound 10 = .ok (.goto 7, 3) := by decide +kernel
theorem dL_bound_13 : decode cL_bound 13 = .ok (.astore 4, 2) := by decide +kernel
theorem dL_bound_15 : decode cL_bound 15 = .ok (.iconst 1, 1) := by decide +kernel
theorem dL_bound_16 : decode cL_bound 16 = .ok (.ireturn, 1) := by decide +kernel
theorem dL_bound_17 : decode cL_bound 17 = .ok (.iconst 0, 1) := by decide +kernel
theorem dL_bound_18 : decode cL_bound 18 = .ok (.ireturn, 1) := by decide +kernel
theorem dL_quiet_0 : decode cL_quiet 0 = .ok (.aload_n 3, 1) := by decide +kernel
theorem dL_quiet_1 : decode cL_quiet 1 = .ok (.iconst 0, 1) := by decide +kernel
theorem dL_quiet_2 : decode cL_quiet 2 = .ok (.aload_n 0, 1) := by decide +kernel
theorem dL_quiet_3 : decode cL_quiet 3 = .ok (.iload_n 1, 1) := by decide +kernel
theorem dL_quiet_4 : decode cL_quiet 4 = .ok (.iload_n 2, 1) := by decide +kernel
theorem dL_quiet_5 : decode cL_quiet 5 = .ok (.invokevirtual 46, 3) := by decide +kernel
theorem dL_quiet_8 : decode cL_quiet 8 = .ok (.i2l, 1) := by decide +kernel
theorem dL_quiet_9 : decode cL_quiet 9 = .ok (.lastore, 1) := by decide +kernel
theorem dL_quiet_10 : decode cL_quiet 10 = .ok (.goto 7, 3) := by decide +kernel
theorem dL_quiet_13 : decode cL_quiet 13 = .ok (.astore 4, 2) := by decide +kernel
theorem dL_quiet_15 : decode cL_quiet 15 = .ok (.iconst 1, 1) := by decide +kernel
theorem dL_quiet_16 : decode cL_quiet 16 = .ok (.ireturn, 1) := by decide +kernel
theorem dL_quiet_17 : decode cL_quiet 17 = .ok (.iconst 0, 1) := by decide +kernel
theorem dL_quiet_18 : decode cL_quiet 18 = .ok (.ireturn, 1) := by decide +kernel
theorem dL_sum_0 : decode cL_sum 0 = .ok (.aload_n 3, 1) := by decide +kernel
theorem dL_sum_1 : decode cL_sum 1 = .ok (.iconst 0, 1) := by decide +kernel
theorem dL_sum_2 : decode cL_sum 2 = .ok (.aload_n 0, 1) := by decide +kernel
theorem dL_sum_3 : decode cL_sum 3 = .ok (.iload_n 1, 1) := by decide +kernel
theorem dL_sum_4 : decode cL_sum 4 = .ok (.iload_n 2, 1) := by decide +kernel
theorem dL_sum_5 : decode cL_sum 5 = .ok (.invokevirtual 49, 3) := by decide +kernel
theorem dL_sum_8 : decode cL_sum 8 = .ok (.i2l, 1) := by decide +kernel
theorem dL_sum_9 : decode cL_sum 9 = .ok (.lastore, 1) := by decide +kernel
theorem dL_sum_10 : decode cL_sum 10 = .ok (.goto 7, 3) := by decide +kernel
theorem dL_sum_13 : decode cL_sum 13 = .ok (.astore 4, 2) := by decide +kernel
theorem dL_sum_15 : decode cL_sum 15 = .ok (.iconst 1, 1) := by decide +kernel
theorem dL_sum_16 : decode cL_sum 16 = .ok (.ireturn, 1) := by decide +kernel
theorem dL_sum_17 : decode cL_sum 17 = .ok (.iconst 0, 1) := by decide +kernel
theorem dL_sum_18 : decode cL_sum 18 = .ok (.ireturn, 1) := by decide +kernel
theorem dL_solve_0 : decode cL_solve 0 = .ok (.aload_n 2, 1) := by decide +kernel
theorem dL_solve_1 : decode cL_solve 1 = .ok (.iconst 0, 1) := by decide +kernel
theorem dL_solve_2 : decode cL_solve 2 = .ok (.aload_n 0, 1) := by decide +kernel
theorem dL_solve_3 : decode cL_solve 3 = .ok (.iload_n 1, 1) := by decide +kernel
theorem dL_solve_4 : decode cL_solve 4 = .ok (.invokevirtual 52, 3) := by decide +kernel
theorem dL_solve_7 : decode cL_solve 7 = .ok (.i2l, 1) := by decide +kernel
theorem dL_solve_8 : decode cL_solve 8 = .ok (.lastore, 1) := by decide +kernel
theorem dL_solve_9 : decode cL_solve 9 = .ok (.goto 6, 3) := by decide +kernel
theorem dL_solve_12 : decode cL_solve 12 = .ok (.astore_n 3, 1) := by decide +kernel
theorem dL_solve_13 : decode cL_solve 13 = .ok (.iconst 1, 1) := by decide +kernel
theorem dL_solve_14 : decode cL_solve 14 = .ok (.ireturn, 1) := by decide +kernel
theorem dL_solve_15 : decode cL_solve 15 = .ok (.iconst 0, 1) := by decide +kernel
theorem dL_solve_16 : decode cL_solve 16 = .ok (.ireturn, 1) := by decide +kernel
theorem dL_times_0 : decode cL_times 0 = .ok (.aload_n 2, 1) := by decide +kernel
theorem dL_times_1 : decode cL_times 1 = .ok (.iconst 0, 1) := by decide +kernel
theorem dL_times_2 : decode cL_times 2 = .ok (.aload_n 0, 1) := by decide +kernel
theorem dL_times_3 : decode cL_times 3 = .ok (.iload_n 1, 1) := by decide +kernel
theorem dL_times_4 : decode cL_times 4 = .ok (.invokevirtual 55, 3) := by decide +kernel
theorem dL_times_7 : decode cL_times 7 = .ok (.i2l, 1) := by decide +kernel
theorem dL_times_8 : decode cL_times 8 = .ok (.lastore, 1) := by decide +kernel
theorem dL_times_9 : decode cL_times 9 = .ok (.goto 6, 3) := by decide +kernel
theorem dL_times_12 : decode cL_times 12 = .ok (.astore_n 3, 1) := by decide +kernel
theorem dL_times_13 : decode cL_times 13 = .ok (.iconst 1, 1) := by decide +kernel
theorem dL_times_14 : decode cL_times 14 = .ok (.ireturn, 1) := by decide +kernel
theorem dL_times_15 : decode cL_times 15 = .ok (.iconst 0, 1) := by decide +kernel
theorem dL_times_16 : decode cL_times 16 = .ok (.ireturn, 1) := by decide +kernel
theorem dL_needed_0 : decode cL_needed 0 = .ok (.aload_n 2, 1) := by decide +kernel
theorem dL_needed_1 : decode cL_needed 1 = .ok (.iconst 0, 1) := by decide +kernel
theorem dL_needed_2 : decode cL_needed 2 = .ok (.aload_n 0, 1) := by decide +kernel
theorem dL_needed_3 : decode cL_needed 3 = .ok (.iload_n 1, 1) := by decide +kernel
theorem dL_needed_4 : decode cL_needed 4 = .ok (.invokevirtual 58, 3) := by decide +kernel
theorem dL_needed_7 : decode cL_needed 7 = .ok (.i2l, 1) := by decide +kernel
theorem dL_needed_8 : decode cL_needed 8 = .ok (.lastore, 1) := by decide +kernel
theorem dL_needed_9 : decode cL_needed 9 = .ok (.goto 6, 3) := by decide +kernel
theorem dL_needed_12 : decode cL_needed 12 = .ok (.astore_n 3, 1) := by decide +kernel
theorem dL_needed_13 : decode cL_needed 13 = .ok (.iconst 1, 1) := by decide +kernel
theorem dL_needed_14 : decode cL_needed 14 = .ok (.ireturn, 1) := by decide +kernel
theorem dL_needed_15 : decode cL_needed 15 = .ok (.iconst 0, 1) := by decide +kernel
theorem dL_needed_16 : decode cL_needed 16 = .ok (.ireturn, 1) := by decide +kernel
theorem dL_near_0 : decode cL_near 0 = .ok (.aload_n 2, 1) := by decide +kernel
theorem dL_near_1 : decode cL_near 1 = .ok (.iconst 0, 1) := by decide +kernel
theorem dL_near_2 : decode cL_near 2 = .ok (.aload_n 0, 1) := by decide +kernel
theorem dL_near_3 : decode cL_near 3 = .ok (.iload_n 1, 1) := by decide +kernel
theorem dL_near_4 : decode cL_near 4 = .ok (.invokevirtual 61, 3) := by decide +kernel
theorem dL_near_7 : decode cL_near 7 = .ok (.i2l, 1) := by decide +kernel
theorem dL_near_8 : decode cL_near 8 = .ok (.lastore, 1) := by decide +kernel
theorem dL_near_9 : decode cL_near 9 = .ok (.goto 6, 3) := by decide +kernel
theorem dL_near_12 : decode cL_near 12 = .ok (.astore_n 3, 1) := by decide +kernel
theorem dL_near_13 : decode cL_near 13 = .ok (.iconst 1, 1) := by decide +kernel
theorem dL_near_14 : decode cL_near 14 = .ok (.ireturn, 1) := by decide +kernel
theorem dL_near_15 : decode cL_near 15 = .ok (.iconst 0, 1) := by decide +kernel
theorem dL_near_16 : decode cL_near 16 = .ok (.ireturn, 1) := by decide +kernel
theorem dL_lit_0 : decode cL_lit 0 = .ok (.aload_n 2, 1) := by decide +kernel
theorem dL_lit_1 : decode cL_lit 1 = .ok (.iconst 0, 1) := by decide +kernel
theorem dL_lit_2 : decode cL_lit 2 = .ok (.aload_n 0, 1) := by decide +kernel
theorem dL_lit_3 : decode cL_lit 3 = .ok (.iload_n 1, 1) := by decide +kernel
theorem dL_lit_4 : decode cL_lit 4 = .ok (.invokevirtual 64, 3) := by decide +kernel
theorem dL_lit_7 : decode cL_lit 7 = .ok (.i2l, 1) := by decide +kernel
theorem dL_lit_8 : decode cL_lit 8 = .ok (.lastore, 1) := by decide +kernel
theorem dL_lit_9 : decode cL_lit 9 = .ok (.goto 6, 3) := by decide +kernel
theorem dL_lit_12 : decode cL_lit 12 = .ok (.astore_n 3, 1) := by decide +kernel
theorem dL_lit_13 : decode cL_lit 13 = .ok (.iconst 1, 1) := by decide +kernel
theorem dL_lit_14 : decode cL_lit 14 = .ok (.ireturn, 1) := by decide +kernel
theorem dL_lit_15 : decode cL_lit 15 = .ok (.iconst 0, 1) := by decide +kernel
theorem dL_lit_16 : decode cL_lit 16 = .ok (.ireturn, 1) := by decide +kernel
theorem dL_round_0 : decode cL_round 0 = .ok (.aload_n 2, 1) := by decide +kernel
theorem dL_round_1 : decode cL_round 1 = .ok (.iconst 0, 1) := by decide +kernel
theorem dL_round_2 : decode cL_round 2 = .ok (.aload_n 0, 1) := by decide +kernel
theorem dL_round_3 : decode cL_round 3 = .ok (.iload_n 1, 1) := by decide +kernel
theorem dL_round_4 : decode cL_round 4 = .ok (.invokevirtual 67, 3) := by decide +kernel
theorem dL_round_7 : decode cL_round 7 = .ok (.i2l, 1) := by decide +kernel
theorem dL_round_8 : decode cL_round 8 = .ok (.lastore, 1) := by decide +kernel
theorem dL_round_9 : decode cL_round 9 = .ok (.goto 6, 3) := by decide +kernel
theorem dL_round_12 : decode cL_round 12 = .ok (.astore_n 3, 1) := by decide +kernel
theorem dL_round_13 : decode cL_round 13 = .ok (.iconst 1, 1) := by decide +kernel
theorem dL_round_14 : decode cL_round 14 = .ok (.ireturn, 1) := by decide +kernel
theorem dL_round_15 : decode cL_round 15 = .ok (.iconst 0, 1) := by decide +kernel
theorem dL_round_16 : decode cL_round 16 = .ok (.ireturn, 1) := by decide +kernel
theorem dL_twin_0 : decode cL_twin 0 = .ok (.aload_n 2, 1) := by decide +kernel
theorem dL_twin_1 : decode cL_twin 1 = .ok (.iconst 0, 1) := by decide +kernel
theorem dL_twin_2 : decode cL_twin 2 = .ok (.aload_n 0, 1) := by decide +kernel
theorem dL_twin_3 : decode cL_twin 3 = .ok (.iload_n 1, 1) := by decide +kernel
theorem dL_twin_4 : decode cL_twin 4 = .ok (.invokevirtual 70, 3) := by decide +kernel
theorem dL_twin_7 : decode cL_twin 7 = .ok (.i2l, 1) := by decide +kernel
theorem dL_twin_8 : decode cL_twin 8 = .ok (.lastore, 1) := by decide +kernel
theorem dL_twin_9 : decode cL_twin 9 = .ok (.goto 6, 3) := by decide +kernel
theorem dL_twin_12 : decode cL_twin 12 = .ok (.astore_n 3, 1) := by decide +kernel
theorem dL_twin_13 : decode cL_twin 13 = .ok (.iconst 1, 1) := by decide +kernel
theorem dL_twin_14 : decode cL_twin 14 = .ok (.ireturn, 1) := by decide +kernel
theorem dL_twin_15 : decode cL_twin 15 = .ok (.iconst 0, 1) := by decide +kernel
theorem dL_twin_16 : decode cL_twin 16 = .ok (.ireturn, 1) := by decide +kernel
theorem dL_take_0 : decode cL_take 0 = .ok (.aload_n 3, 1) := by decide +kernel
theorem dL_take_1 : decode cL_take 1 = .ok (.iconst 0, 1) := by decide +kernel
theorem dL_take_2 : decode cL_take 2 = .ok (.aload_n 0, 1) := by decide +kernel
theorem dL_take_3 : decode cL_take 3 = .ok (.iload_n 1, 1) := by decide +kernel
theorem dL_take_4 : decode cL_take 4 = .ok (.iload_n 2, 1) := by decide +kernel
theorem dL_take_5 : decode cL_take 5 = .ok (.invokevirtual 73, 3) := by decide +kernel
theorem dL_take_8 : decode cL_take 8 = .ok (.ifCond .eq 7, 3) := by decide +kernel
theorem dL_take_11 : decode cL_take 11 = .ok (.lconst 1, 1) := by decide +kernel
theorem dL_take_12 : decode cL_take 12 = .ok (.goto 4, 3) := by decide +kernel
theorem dL_take_15 : decode cL_take 15 = .ok (.lconst 0, 1) := by decide +kernel
theorem dL_take_16 : decode cL_take 16 = .ok (.lastore, 1) := by decide +kernel
theorem dL_take_17 : decode cL_take 17 = .ok (.goto 7, 3) := by decide +kernel
theorem dL_take_20 : decode cL_take 20 = .ok (.astore 4, 2) := by decide +kernel
theorem dL_take_22 : decode cL_take 22 = .ok (.iconst 1, 1) := by decide +kernel
theorem dL_take_23 : decode cL_take 23 = .ok (.ireturn, 1) := by decide +kernel
theorem dL_take_24 : decode cL_take 24 = .ok (.iconst 0, 1) := by decide +kernel
theorem dL_take_25 : decode cL_take 25 = .ok (.ireturn, 1) := by decide +kernel
theorem n_1070 : Cond.codeWith yL_count cL_count 4 (some .int) [(0, 9, 12, 18)] ∈ TB := TB_5 16 (by decide +kernel) rfl
theorem n_1071 : Cond.classLink RL 18 NSE ∈ TB := TB_5 17 (by decide +kernel) rfl
theorem n_1072 : Cond.methodLink RL 15 yX8_count ∈ TB := TB_5 18 (by decide +kernel) rfl
theorem n_1073 : Cond.instanceMethod yX8_count ∈ TB := TB_5 19 (by decide +kernel) rfl
theorem n_1074 : Cond.selects RX8 yX8_count yX8_count ∈ TB := TB_5 20 (by decide +kernel) rfl
theorem n_1075 : Cond.code yX8_count cX8_count 2 (some .int) ∈ TB := TB_5 21 (by decide +kernel) rfl
theorem n_1098 : Cond.codeWith yL_amount cL_amount 5 (some .int) [(0, 10, 13, 18)] ∈ TB := TB_5 44 (by decide +kernel) rfl
theorem n_1099 : Cond.methodLink RL 20 yX8_amount ∈ TB := TB_5 45 (by decide +kernel) rfl
theorem n_1100 : Cond.instanceMethod yX8_amount ∈ TB := TB_5 46 (by decide +kernel) rfl
theorem n_1101 : Cond.selects RX8 yX8_amount yX8_amount ∈ TB := TB_5 47 (by decide +kernel) rfl
theorem n_1102 : Cond.code yX8_amount cX8_amount 3 (some .int) ∈ TB := TB_5 48 (by decide +kernel) rfl
theorem n_1110 : Cond.codeWith yL_colour cL_colour 5 (some .int) [(0, 10, 13, 18)] ∈ TB := TB_5 56 (by decide +kernel) rfl
theorem n_1111 : Cond.methodLink RL 24 yX8_colour ∈ TB := TB_5 57 (by decide +kernel) rfl
theorem n_1112 : Cond.instanceMethod yX8_colour ∈ TB := TB_5 58 (by decide +kernel) rfl
theorem n_1113 : Cond.selects RX8 yX8_colour yX8_colour ∈ TB := TB_5 59 (by decide +kernel) rfl
theorem n_1114 : Cond.code yX8_colour cX8_colour 3 (some .int) ∈ TB := TB_5 60 (by decide +kernel) rfl
theorem n_1121 : Cond.codeWith yL_set cL_set 6 (some .int) [(0, 19, 22, 18)] ∈ TB := TB_5 67 (by decide +kernel) rfl
theorem n_1122 : Cond.methodLink RL 27 yX8_set ∈ TB := TB_5 68 (by decide +kernel) rfl
theorem n_1123 : Cond.instanceMethod yX8_set ∈ TB := TB_5 69 (by decide +kernel) rfl
theorem n_1124 : Cond.selects RX8 yX8_set yX8_set ∈ TB := TB_5 70 (by decide +kernel) rfl
theorem n_1125 : Cond.code yX8_set cX8_set 4 (some .boolean) ∈ TB := TB_5 71 (by decide +kernel) rfl
theorem n_1132 : Cond.codeWith yL_fill cL_fill 5 (some .int) [(0, 17, 20, 18)] ∈ TB := TB_5 78 (by decide +kernel) rfl
theorem n_1133 : Cond.methodLink RL 31 yX8_fill ∈ TB := TB_5 79 (by decide +kernel) rfl
theorem n_1134 : Cond.instanceMethod yX8_fill ∈ TB := TB_5 80 (by decide +kernel) rfl
theorem n_1135 : Cond.selects RX8 yX8_fill yX8_fill ∈ TB := TB_5 81 (by decide +kernel) rfl
theorem n_1136 : Cond.code yX8_fill cX8_fill 5 (some .boolean) ∈ TB := TB_5 82 (by decide +kernel) rfl
theorem n_1139 : Cond.codeWith yL_jam cL_jam 5 (some .int) [(0, 17, 20, 18)] ∈ TB := TB_5 85 (by decide +kernel) rfl
theorem n_1140 : Cond.methodLink RL 35 yX8_jam ∈ TB := TB_5 86 (by decide +kernel) rfl
theorem n_1141 : Cond.instanceMethod yX8_jam ∈ TB := TB_5 87 (by decide +kernel) rfl
theorem n_1142 : Cond.selects RX8 yX8_jam yX8_jam ∈ TB := TB_5 88 (by decide +kernel) rfl
theorem n_1143 : Cond.code yX8_jam cX8_jam 4 (some .boolean) ∈ TB := TB_5 89 (by decide +kernel) rfl
theorem n_1146 : Cond.codeWith yL_press cL_press 4 (some .int) [(0, 16, 19, 18)] ∈ TB := TB_5 92 (by decide +kernel) rfl
theorem n_1147 : Cond.methodLink RL 39 yX8_press ∈ TB := TB_5 93 (by decide +kernel) rfl
theorem n_1148 : Cond.instanceMethod yX8_press ∈ TB := TB_5 94 (by decide +kernel) rfl
theorem n_1149 : Cond.selects RX8 yX8_press yX8_press ∈ TB := TB_5 95 (by decide +kernel) rfl
theorem n_1150 : Cond.code yX8_press cX8_press 2 (some .boolean) ∈ TB := TB_5 96 (by decide +kernel) rfl
theorem n_1153 : Cond.codeWith yL_bound cL_bound 5 (some .int) [(0, 10, 13, 18)] ∈ TB := TB_5 99 (by decide +kernel) rfl
theorem n_1154 : Cond.methodLink RL 43 yX8_bound ∈ TB := TB_5 100 (by decide +kernel) rfl
theorem n_1155 : Cond.instanceMethod yX8_bound ∈ TB := TB_5 101 (by decide +kernel) rfl
theorem n_1156 : Cond.selects RX8 yX8_bound yX8_bound ∈ TB := TB_5 102 (by decide +kernel) rfl
theorem n_1157 : Cond.code yX8_bound cX8_bound 4 (some .int) ∈ TB := TB_5 103 (by decide +kernel) rfl
theorem n_1164 : Cond.codeWith yL_quiet cL_quiet 5 (some .int) [(0, 10, 13, 18)] ∈ TB := TB_5 110 (by decide +kernel) rfl
theorem n_1165 : Cond.methodLink RL 46 yX8_quiet ∈ TB := TB_5 111 (by decide +kernel) rfl
theorem n_1166 : Cond.instanceMethod yX8_quiet ∈ TB := TB_5 112 (by decide +kernel) rfl
theorem n_1167 : Cond.selects RX8 yX8_quiet yX8_quiet ∈ TB := TB_5 113 (by decide +kernel) rfl
theorem n_1168 : Cond.code yX8_quiet cX8_quiet 4 (some .int) ∈ TB := TB_5 114 (by decide +kernel) rfl
theorem n_1171 : Cond.codeWith yL_sum cL_sum 5 (some .int) [(0, 10, 13, 18)] ∈ TB := TB_5 117 (by decide +kernel) rfl
theorem n_1172 : Cond.methodLink RL 49 yX8_sum ∈ TB := TB_5 118 (by decide +kernel) rfl
theorem n_1173 : Cond.instanceMethod yX8_sum ∈ TB := TB_5 119 (by decide +kernel) rfl
theorem n_1174 : Cond.selects RX8 yX8_sum yX8_sum ∈ TB := TB_5 120 (by decide +kernel) rfl
theorem n_1175 : Cond.code yX8_sum cX8_sum 4 (some .int) ∈ TB := TB_5 121 (by decide +kernel) rfl
theorem n_1178 : Cond.codeWith yL_solve cL_solve 4 (some .int) [(0, 9, 12, 18)] ∈ TB := TB_5 124 (by decide +kernel) rfl
theorem n_1179 : Cond.methodLink RL 52 yX8_solve ∈ TB := TB_5 125 (by decide +kernel) rfl
theorem n_1180 : Cond.instanceMethod yX8_solve ∈ TB := TB_5 126 (by decide +kernel) rfl
theorem n_1181 : Cond.selects RX8 yX8_solve yX8_solve ∈ TB := TB_5 127 (by decide +kernel) rfl
theorem n_1182 : Cond.code yX8_solve cX8_solve 4 (some .int) ∈ TB := TB_5 128 (by decide +kernel) rfl
theorem n_1195 : Cond.codeWith yL_times cL_times 4 (some .int) [(0, 9, 12, 18)] ∈ TB := TB_5 141 (by decide +kernel) rfl
theorem n_1196 : Cond.methodLink RL 55 yX8_times ∈ TB := TB_5 142 (by decide +kernel) rfl
theorem n_1197 : Cond.instanceMethod yX8_times ∈ TB := TB_5 143 (by decide +kernel) rfl
theorem n_1198 : Cond.selects RX8 yX8_times yX8_times ∈ TB := TB_5 144 (by decide +kernel) rfl
theorem n_1199 : Cond.code yX8_times cX8_times 2 (some .int) ∈ TB := TB_5 145 (by decide +kernel) rfl
theorem n_1203 : Cond.codeWith yL_needed cL_needed 4 (some .int) [(0, 9, 12, 18)] ∈ TB := TB_5 149 (by decide +kernel) rfl
theorem n_1204 : Cond.methodLink RL 58 yX8_needed ∈ TB := TB_5 150 (by decide +kernel) rfl
theorem n_1205 : Cond.instanceMethod yX8_needed ∈ TB := TB_5 151 (by decide +kernel) rfl
theorem n_1206 : Cond.selects RX8 yX8_needed yX8_needed ∈ TB := TB_5 152 (by decide +kernel) rfl
theorem n_1207 : Cond.code yX8_needed cX8_needed 6 (some .int) ∈ TB := TB_5 153 (by decide +kernel) rfl
theorem n_1214 : Cond.codeWith yL_near cL_near 4 (some .int) [(0, 9, 12, 18)] ∈ TB := TB_5 160 (by decide +kernel) rfl
theorem n_1215 : Cond.methodLink RL 61 yX8_near ∈ TB := TB_5 161 (by decide +kernel) rfl
theorem n_1216 : Cond.instanceMethod yX8_near ∈ TB := TB_5 162 (by decide +kernel) rfl
theorem n_1217 : Cond.selects RX8 yX8_near yX8_near ∈ TB := TB_5 163 (by decide +kernel) rfl
theorem n_1218 : Cond.code yX8_near cX8_near 2 (some .int) ∈ TB := TB_5 164 (by decide +kernel) rfl
theorem n_1222 : Cond.codeWith yL_lit cL_lit 4 (some .int) [(0, 9, 12, 18)] ∈ TB := TB_5 168 (by decide +kernel) rfl
theorem n_1223 : Cond.methodLink RL 64 yX8_lit ∈ TB := TB_5 169 (by decide +kernel) rfl
theorem n_1224 : Cond.instanceMethod yX8_lit ∈ TB := TB_5 170 (by decide +kernel) rfl
theorem n_1225 : Cond.selects RX8 yX8_lit yX8_lit ∈ TB := TB_5 171 (by decide +kernel) rfl
theorem n_1226 : Cond.code yX8_lit cX8_lit 2 (some .int) ∈ TB := TB_5 172 (by decide +kernel) rfl
theorem n_1240 : Cond.codeWith yL_round cL_round 4 (some .int) [(0, 9, 12, 18)] ∈ TB := TB_5 186 (by decide +kernel) rfl
theorem n_1241 : Cond.methodLink RL 67 yX8_round ∈ TB := TB_5 187 (by decide +kernel) rfl
theorem n_1242 : Cond.instanceMethod yX8_round ∈ TB := TB_5 188 (by decide +kernel) rfl
theorem n_1243 : Cond.selects RX8 yX8_round yX8_round ∈ TB := TB_5 189 (by decide +kernel) rfl
theorem n_1244 : Cond.code yX8_round cX8_round 2 (some .int) ∈ TB := TB_5 190 (by decide +kernel) rfl
theorem n_1262 : Cond.codeWith yL_twin cL_twin 4 (some .int) [(0, 9, 12, 18)] ∈ TB := TB_5 208 (by decide +kernel) rfl
theorem n_1263 : Cond.methodLink RL 70 yX8_twin ∈ TB := TB_5 209 (by decide +kernel) rfl
theorem n_1264 : Cond.instanceMethod yX8_twin ∈ TB := TB_5 210 (by decide +kernel) rfl
theorem n_1265 : Cond.selects RX8 yX8_twin yX8_twin ∈ TB := TB_5 211 (by decide +kernel) rfl
theorem n_1266 : Cond.code yX8_twin cX8_twin 3 (some .int) ∈ TB := TB_5 212 (by decide +kernel) rfl
theorem n_1273 : Cond.codeWith yL_take cL_take 5 (some .int) [(0, 17, 20, 18)] ∈ TB := TB_5 219 (by decide +kernel) rfl
theorem n_1274 : Cond.methodLink RL 73 yX8_take ∈ TB := TB_5 220 (by decide +kernel) rfl
theorem n_1275 : Cond.instanceMethod yX8_take ∈ TB := TB_5 221 (by decide +kernel) rfl
theorem n_1276 : Cond.selects RX8 yX8_take yX8_take ∈ TB := TB_5 222 (by decide +kernel) rfl
theorem n_1277 : Cond.code yX8_take cX8_take 3 (some .boolean) ∈ TB := TB_5 223 (by decide +kernel) rfl
theorem n_781 : Cond.codeWith yL_hall cL_hall 4 (some .int) [(0, 9, 12, 13)] ∈ TB := TB_3 207 (by decide +kernel) rfl
theorem n_782 : Cond.classLink RL 13 IAE ∈ TB := TB_3 208 (by decide +kernel) rfl
theorem n_783 : Cond.methodLink RL 7 yX8_hall ∈ TB := TB_3 209 (by decide +kernel) rfl
theorem n_784 : Cond.instanceMethod yX8_hall ∈ TB := TB_3 210 (by decide +kernel) rfl
theorem n_785 : Cond.selects RX8 yX8_hall yX8_hall ∈ TB := TB_3 211 (by decide +kernel) rfl
theorem n_786 : Cond.code yX8_hall cX8_hall 3 (some .int) ∈ TB := TB_3 212 (by decide +kernel) rfl
theorem g_RL_7 : GoodIn TB (wsV RL 7 RX8 yX8_hall (wsY yX8_hall cX8_hall 3 (some .int))) := gV n_783 n_784 n_785 m_95 n_786
theorem g_RL_15 : GoodIn TB (wsV RL 15 RX8 yX8_count (wsY yX8_count cX8_count 2 (some .int))) := gV n_1072 n_1073 n_1074 m_95 n_1075
theorem g_RL_20 : GoodIn TB (wsV RL 20 RX8 yX8_amount (wsY yX8_amount cX8_amount 3 (some .int))) := gV n_1099 n_1100 n_1101 m_95 n_1102
theorem g_RL_24 : GoodIn TB (wsV RL 24 RX8 yX8_colour (wsY yX8_colour cX8_colour 3 (some .int))) := gV n_1111 n_1112 n_1113 m_95 n_1114
theorem g_RL_27 : GoodIn TB (wsV RL 27 RX8 yX8_set (wsY yX8_set cX8_set 4 (some .boolean))) := gV n_1122 n_1123 n_1124 m_95 n_1125
theorem g_RL_31 : GoodIn TB (wsV RL 31 RX8 yX8_fill (wsY yX8_fill cX8_fill 5 (some .boolean))) := gV n_1133 n_1134 n_1135 m_95 n_1136
theorem g_RL_35 : GoodIn TB (wsV RL 35 RX8 yX8_jam (wsY yX8_jam cX8_jam 4 (some .boolean))) := gV n_1140 n_1141 n_1142 m_95 n_1143
theorem g_RL_39 : GoodIn TB (wsV RL 39 RX8 yX8_press (wsY yX8_press cX8_press 2 (some .boolean))) := gV n_1147 n_1148 n_1149 m_95 n_1150
theorem g_RL_43 : GoodIn TB (wsV RL 43 RX8 yX8_bound (wsY yX8_bound cX8_bound 4 (some .int))) := gV n_1154 n_1155 n_1156 m_95 n_1157
theorem g_RL_46 : GoodIn TB (wsV RL 46 RX8 yX8_quiet (wsY yX8_quiet cX8_quiet 4 (some .int))) := gV n_1165 n_1166 n_1167 m_95 n_1168
theorem g_RL_49 : GoodIn TB (wsV RL 49 RX8 yX8_sum (wsY yX8_sum cX8_sum 4 (some .int))) := gV n_1172 n_1173 n_1174 m_95 n_1175
theorem g_RL_52 : GoodIn TB (wsV RL 52 RX8 yX8_solve (wsY yX8_solve cX8_solve 4 (some .int))) := gV n_1179 n_1180 n_1181 m_95 n_1182
theorem g_RL_55 : GoodIn TB (wsV RL 55 RX8 yX8_times (wsY yX8_times cX8_times 2 (some .int))) := gV n_1196 n_1197 n_1198 m_95 n_1199
theorem g_RL_58 : GoodIn TB (wsV RL 58 RX8 yX8_needed (wsY yX8_needed cX8_needed 6 (some .int))) := gV n_1204 n_1205 n_1206 m_95 n_1207
theorem g_RL_61 : GoodIn TB (wsV RL 61 RX8 yX8_near (wsY yX8_near cX8_near 2 (some .int))) := gV n_1215 n_1216 n_1217 m_95 n_1218
theorem g_RL_64 : GoodIn TB (wsV RL 64 RX8 yX8_lit (wsY yX8_lit cX8_lit 2 (some .int))) := gV n_1223 n_1224 n_1225 m_95 n_1226
theorem g_RL_67 : GoodIn TB (wsV RL 67 RX8 yX8_round (wsY yX8_round cX8_round 2 (some .int))) := gV n_1241 n_1242 n_1243 m_95 n_1244
theorem g_RL_70 : GoodIn TB (wsV RL 70 RX8 yX8_twin (wsY yX8_twin cX8_twin 3 (some .int))) := gV n_1263 n_1264 n_1265 m_95 n_1266
theorem g_RL_73 : GoodIn TB (wsV RL 73 RX8 yX8_take (wsY yX8_take cX8_take 3 (some .boolean))) := gV n_1274 n_1275 n_1276 m_95 n_1277
set_option maxRecDepth 100000 in
theorem w_hall {l : Launch} {G : Gx} {γ μ : Mu} (hl : l.stackTraces = false) (d d' k' : Nat) (hdd : d' < d) {x o a0 : Int} (hx : shO G x 8 20) (ho : shO G o 12 1) {P9 : Option AV → Mu → Mu → Prop} {X9 : String → Mu → Mu → Prop} (hcn : Cnx l G yX8_hall cX8_hall 3 (some .int) d' k' [aR x, aI a0] γ μ P9 X9) (hE : ∀ E γ' μ', X9 E γ' μ' → E = IAE) (hP9 : ∀ r γ' μ', P9 r γ' μ' → ∃ z, r = some (aI z)) : CnW l G yL_hall cL_hall 4 [(0, 9, 12, 13)] d k' [aR x, aI a0, aR o] γ μ (fun r γ' μ' => (r = some (aI 0) ∧ ∃ z m, P9 (some (aI z)) γ' m ∧ μ' = up m o 0 z) ∨ (r = some (aI 1) ∧ ∃ E, X9 E γ' μ')) := by
  refine CnW.of hl (by decide) (noLc nlR (noLc nlI (noL1 nlR))) rfl (fun o1 o3 X hX hC hxt => ?_)
  subst hX
  refine (V_aload_n hC dL_hall_0 rfl rfl (V_iconst hC dL_hall_1 (by decide) (V_aload_n hC dL_hall_2 rfl rfl (V_iload_n hC dL_hall_3 rfl rfl (V_callVc hC (n := 1) hxt (by decide) n_782 (by decide) (Or.inl ⟨_, dL_hall_12, rfl, rfl⟩) (Nat.le_of_ble_eq_true rfl) rfl rfl rfl g_RL_7 ⟨rfl, by decide⟩ dL_hall_4 (by decide) (by decide) hx rfl (Nat.le_of_ble_eq_true rfl) rfl hdd (by omega) hcn hE (fun r γ' m hp => ?_) (fun E γ' m hp => ?_))))))
  · obtain ⟨z, rfl⟩ := hP9 _ _ _ hp
    exact (V_i2l hC dL_hall_7 (V_last hC dL_hall_8 ho (by decide) (V_goto (tgt := 15) hC dL_hall_9 (by decide) (V_iconst hC dL_hall_15 (by decide) (V_ireturn hC dL_hall_16 (by omega) (Or.inl ⟨rfl, _, m, hp, rfl⟩))))))
  · exact (V_iconst hC dL_hall_13 (by decide) (V_ireturn hC dL_hall_14 (by omega) (Or.inr ⟨rfl, E, hp⟩)))
set_option maxRecDepth 100000 in
theorem w_count {l : Launch} {G : Gx} {γ μ : Mu} (hl : l.stackTraces = false) (d d' k' : Nat) (hdd : d' < d) {x o a0 : Int} (hx : shO G x 8 20) (ho : shO G o 12 1) {P9 : Option AV → Mu → Mu → Prop} {X9 : String → Mu → Mu → Prop} (hcn : Cnx l G yX8_count cX8_count 2 (some .int) d' k' [aR x, aI a0] γ μ P9 X9) (hE : ∀ E γ' μ', X9 E γ' μ' → E = NSE) (hP9 : ∀ r γ' μ', P9 r γ' μ' → ∃ z, r = some (aI z)) : CnW l G yL_count cL_count 4 [(0, 9, 12, 18)] d k' [aR x, aI a0, aR o] γ μ (fun r γ' μ' => (r = some (aI 0) ∧ ∃ z m, P9 (some (aI z)) γ' m ∧ μ' = up m o 0 z) ∨ (r = some (aI 1) ∧ ∃ E, X9 E γ' μ')) := by
  refine CnW.of hl (by decide) (noLc nlR (noLc nlI (noL1 nlR))) rfl (fun o1 o3 X hX hC hxt => ?_)
  subst hX
  refine (V_aload_n hC dL_count_0 rfl rfl (V_iconst hC dL_count_1 (by decide) (V_aload_n hC dL_count_2 rfl rfl (V_iload_n hC dL_count_3 rfl rfl (V_callVc hC (n := 1) hxt (by decide) n_1071 (by decide) (Or.inl ⟨_, dL_count_12, rfl, rfl⟩) (Nat.le_of_ble_eq_true rfl) rfl rfl rfl g_RL_15 ⟨rfl, by decide⟩ dL_count_4 (by decide) (by decide) hx rfl (Nat.le_of_ble_eq_true rfl) rfl hdd (by omega) hcn hE (fun r γ' m hp => ?_) (fun E γ' m hp => ?_))))))
  · obtain ⟨z, rfl⟩ := hP9 _ _ _ hp
    exact (V_i2l hC dL_count_7 (V_last hC dL_count_8 ho (by decide) (V_goto (tgt := 15) hC dL_count_9 (by decide) (V_iconst hC dL_count_15 (by decide) (V_ireturn hC dL_count_16 (by omega) (Or.inl ⟨rfl, _, m, hp, rfl⟩))))))
  · exact (V_iconst hC dL_count_13 (by decide) (V_ireturn hC dL_count_14 (by omega) (Or.inr ⟨rfl, E, hp⟩)))
set_option maxRecDepth 100000 in
theorem w_amount {l : Launch} {G : Gx} {γ μ : Mu} (hl : l.stackTraces = false) (d d' k' : Nat) (hdd : d' < d) {x o a0 a1 : Int} (hx : shO G x 8 20) (ho : shO G o 12 1) {P9 : Option AV → Mu → Mu → Prop} {X9 : String → Mu → Mu → Prop} (hcn : Cnx l G yX8_amount cX8_amount 3 (some .int) d' k' [aR x, aI a0, aI a1] γ μ P9 X9) (hE : ∀ E γ' μ', X9 E γ' μ' → E = NSE) (hP9 : ∀ r γ' μ', P9 r γ' μ' → ∃ z, r = some (aI z)) : CnW l G yL_amount cL_amount 5 [(0, 10, 13, 18)] d k' [aR x, aI a0, aI a1, aR o] γ μ (fun r γ' μ' => (r = some (aI 0) ∧ ∃ z m, P9 (some (aI z)) γ' m ∧ μ' = up m o 0 z) ∨ (r = some (aI 1) ∧ ∃ E, X9 E γ' μ')) := by
  refine CnW.of hl (by decide) (noLc nlR (noLc nlI (noLc nlI (noL1 nlR)))) rfl (fun o1 o3 X hX hC hxt => ?_)
  subst hX
  refine (V_aload_n hC dL_amount_0 rfl rfl (V_iconst hC dL_amount_1 (by decide) (V_aload_n hC dL_amount_2 rfl rfl (V_iload_n hC dL_amount_3 rfl rfl (V_iload_n hC dL_amount_4 rfl rfl (V_callVc hC (n := 2) hxt (by decide) n_1071 (by decide) (Or.inr ⟨dL_amount_13, rfl⟩) (Nat.le_of_ble_eq_true rfl) rfl rfl rfl g_RL_20 ⟨rfl, by decide⟩ dL_amount_5 (by decide) (by decide) hx rfl (Nat.le_of_ble_eq_true rfl) rfl hdd (by omega) hcn hE (fun r γ' m hp => ?_) (fun E γ' m hp => ?_)))))))
  · obtain ⟨z, rfl⟩ := hP9 _ _ _ hp
    exact (V_i2l hC dL_amount_8 (V_last hC dL_amount_9 ho (by decide) (V_goto (tgt := 17) hC dL_amount_10 (by decide) (V_iconst hC dL_amount_17 (by decide) (V_ireturn hC dL_amount_18 (by omega) (Or.inl ⟨rfl, _, m, hp, rfl⟩))))))
  · exact (V_iconst hC dL_amount_15 (by decide) (V_ireturn hC dL_amount_16 (by omega) (Or.inr ⟨rfl, E, hp⟩)))
set_option maxRecDepth 100000 in
theorem w_colour {l : Launch} {G : Gx} {γ μ : Mu} (hl : l.stackTraces = false) (d d' k' : Nat) (hdd : d' < d) {x o a0 a1 : Int} (hx : shO G x 8 20) (ho : shO G o 12 1) {P9 : Option AV → Mu → Mu → Prop} {X9 : String → Mu → Mu → Prop} (hcn : Cnx l G yX8_colour cX8_colour 3 (some .int) d' k' [aR x, aI a0, aI a1] γ μ P9 X9) (hE : ∀ E γ' μ', X9 E γ' μ' → E = NSE) (hP9 : ∀ r γ' μ', P9 r γ' μ' → ∃ z, r = some (aI z)) : CnW l G yL_colour cL_colour 5 [(0, 10, 13, 18)] d k' [aR x, aI a0, aI a1, aR o] γ μ (fun r γ' μ' => (r = some (aI 0) ∧ ∃ z m, P9 (some (aI z)) γ' m ∧ μ' = up m o 0 z) ∨ (r = some (aI 1) ∧ ∃ E, X9 E γ' μ')) := by
  refine CnW.of hl (by decide) (noLc nlR (noLc nlI (noLc nlI (noL1 nlR)))) rfl (fun o1 o3 X hX hC hxt => ?_)
  subst hX
  refine (V_aload_n hC dL_colour_0 rfl rfl (V_iconst hC dL_colour_1 (by decide) (V_aload_n hC dL_colour_2 rfl rfl (V_iload_n hC dL_colour_3 rfl rfl (V_iload_n hC dL_colour_4 rfl rfl (V_callVc hC (n := 2) hxt (by decide) n_1071 (by decide) (Or.inr ⟨dL_colour_13, rfl⟩) (Nat.le_of_ble_eq_true rfl) rfl rfl rfl g_RL_24 ⟨rfl, by decide⟩ dL_colour_5 (by decide) (by decide) hx rfl (Nat.le_of_ble_eq_true rfl) rfl hdd (by omega) hcn hE (fun r γ' m hp => ?_) (fun E γ' m hp => ?_)))))))
  · obtain ⟨z, rfl⟩ := hP9 _ _ _ hp
    exact (V_i2l hC dL_colour_8 (V_last hC dL_colour_9 ho (by decide) (V_goto (tgt := 17) hC dL_colour_10 (by decide) (V_iconst hC dL_colour_17 (by decide) (V_ireturn hC dL_colour_18 (by omega) (Or.inl ⟨rfl, _, m, hp, rfl⟩))))))
  · exact (V_iconst hC dL_colour_15 (by decide) (V_ireturn hC dL_colour_16 (by omega) (Or.inr ⟨rfl, E, hp⟩)))
set_option maxRecDepth 100000 in
theorem w_set {l : Launch} {G : Gx} {γ μ : Mu} (hl : l.stackTraces = false) (d d' k' : Nat) (hdd : d' < d) {x o a0 a1 a2 : Int} (hx : shO G x 8 20) (ho : shO G o 12 1) {P9 : Option AV → Mu → Mu → Prop} {X9 : String → Mu → Mu → Prop} (hcn : Cnx l G yX8_set cX8_set 4 (some .boolean) d' k' [aR x, aI a0, aI a1, aI a2] γ μ P9 X9) (hE : ∀ E γ' μ', X9 E γ' μ' → E = NSE) (hP9 : ∀ r γ' μ', P9 r γ' μ' → (∃ z, r = some (aI z) ∧ (z = 0 ∨ z = 1))) : CnW l G yL_set cL_set 6 [(0, 19, 22, 18)] d k' [aR x, aI a0, aI a1, aI a2, aR o] γ μ (fun r γ' μ' => (r = some (aI 0) ∧ ∃ z m, P9 (some (aI z)) γ' m ∧ μ' = up m o 0 z) ∨ (r = some (aI 1) ∧ ∃ E, X9 E γ' μ')) := by
  refine CnW.of hl (by decide) (noLc nlR (noLc nlI (noLc nlI (noLc nlI (noL1 nlR))))) rfl (fun o1 o3 X hX hC hxt => ?_)
  subst hX
  refine (V_aload hC dL_set_0 rfl (V_iconst hC dL_set_2 (by decide) (V_aload_n hC dL_set_3 rfl rfl (V_iload_n hC dL_set_4 rfl rfl (V_iload_n hC dL_set_5 rfl rfl (V_iload_n hC dL_set_6 rfl rfl (V_callVc hC (n := 3) hxt (by decide) n_1071 (by decide) (Or.inr ⟨dL_set_22, rfl⟩) (Nat.le_of_ble_eq_true rfl) rfl rfl rfl g_RL_27 ⟨rfl, by decide⟩ dL_set_7 (by decide) (by decide) hx rfl (Nat.le_of_ble_eq_true rfl) rfl hdd (by omega) hcn hE (fun r γ' m hp => ?_) (fun E γ' m hp => ?_))))))))
  · obtain ⟨z, rfl, hz⟩ := hP9 _ _ _ hp
    refine V_if_eq (tgt := 17) hC dL_set_10 (by decide) (fun h0 => ?_) (fun h0 => ?_)
    · subst h0
      exact (V_lconst0 hC dL_set_17 (V_last hC dL_set_18 ho (by decide) (V_goto (tgt := 26) hC dL_set_19 (by decide) (V_iconst hC dL_set_26 (by decide) (V_ireturn hC dL_set_27 (by omega) (Or.inl ⟨rfl, _, m, hp, rfl⟩))))))
    · have h1 : z = 1 := by omega
      subst h1
      exact (V_lconst1 hC dL_set_13 (V_goto (tgt := 18) hC dL_set_14 (by decide) (V_last hC dL_set_18 ho (by decide) (V_goto (tgt := 26) hC dL_set_19 (by decide) (V_iconst hC dL_set_26 (by decide) (V_ireturn hC dL_set_27 (by omega) (Or.inl ⟨rfl, _, m, hp, rfl⟩)))))))
  · exact (V_iconst hC dL_set_24 (by decide) (V_ireturn hC dL_set_25 (by omega) (Or.inr ⟨rfl, E, hp⟩)))
set_option maxRecDepth 100000 in
theorem w_fill {l : Launch} {G : Gx} {γ μ : Mu} (hl : l.stackTraces = false) (d d' k' : Nat) (hdd : d' < d) {x o a0 a1 : Int} (hx : shO G x 8 20) (ho : shO G o 12 1) {P9 : Option AV → Mu → Mu → Prop} {X9 : String → Mu → Mu → Prop} (hcn : Cnx l G yX8_fill cX8_fill 5 (some .boolean) d' k' [aR x, aI a0, aI a1] γ μ P9 X9) (hE : ∀ E γ' μ', X9 E γ' μ' → E = NSE) (hP9 : ∀ r γ' μ', P9 r γ' μ' → (∃ z, r = some (aI z) ∧ (z = 0 ∨ z = 1))) : CnW l G yL_fill cL_fill 5 [(0, 17, 20, 18)] d k' [aR x, aI a0, aI a1, aR o] γ μ (fun r γ' μ' => (r = some (aI 0) ∧ ∃ z m, P9 (some (aI z)) γ' m ∧ μ' = up m o 0 z) ∨ (r = some (aI 1) ∧ ∃ E, X9 E γ' μ')) := by
  refine CnW.of hl (by decide) (noLc nlR (noLc nlI (noLc nlI (noL1 nlR)))) rfl (fun o1 o3 X hX hC hxt => ?_)
  subst hX
  refine (V_aload_n hC dL_fill_0 rfl rfl (V_iconst hC dL_fill_1 (by decide) (V_aload_n hC dL_fill_2 rfl rfl (V_iload_n hC dL_fill_3 rfl rfl (V_iload_n hC dL_fill_4 rfl rfl (V_callVc hC (n := 2) hxt (by decide) n_1071 (by decide) (Or.inr ⟨dL_fill_20, rfl⟩) (Nat.le_of_ble_eq_true rfl) rfl rfl rfl g_RL_31 ⟨rfl, by decide⟩ dL_fill_5 (by decide) (by decide) hx rfl (Nat.le_of_ble_eq_true rfl) rfl hdd (by omega) hcn hE (fun r γ' m hp => ?_) (fun E γ' m hp => ?_)))))))
  · obtain ⟨z, rfl, hz⟩ := hP9 _ _ _ hp
    refine V_if_eq (tgt := 15) hC dL_fill_8 (by decide) (fun h0 => ?_) (fun h0 => ?_)
    · subst h0
      exact (V_lconst0 hC dL_fill_15 (V_last hC dL_fill_16 ho (by decide) (V_goto (tgt := 24) hC dL_fill_17 (by decide) (V_iconst hC dL_fill_24 (by decide) (V_ireturn hC dL_fill_25 (by omega) (Or.inl ⟨rfl, _, m, hp, rfl⟩))))))
    · have h1 : z = 1 := by omega
      subst h1
      exact (V_lconst1 hC dL_fill_11 (V_goto (tgt := 16) hC dL_fill_12 (by decide) (V_last hC dL_fill_16 ho (by decide) (V_goto (tgt := 24) hC dL_fill_17 (by decide) (V_iconst hC dL_fill_24 (by decide) (V_ireturn hC dL_fill_25 (by omega) (Or.inl ⟨rfl, _, m, hp, rfl⟩)))))))
  · exact (V_iconst hC dL_fill_22 (by decide) (V_ireturn hC dL_fill_23 (by omega) (Or.inr ⟨rfl, E, hp⟩)))
set_option maxRecDepth 100000 in
theorem w_jam {l : Launch} {G : Gx} {γ μ : Mu} (hl : l.stackTraces = false) (d d' k' : Nat) (hdd : d' < d) {x o a0 a1 : Int} (hx : shO G x 8 20) (ho : shO G o 12 1) {P9 : Option AV → Mu → Mu → Prop} {X9 : String → Mu → Mu → Prop} (hcn : Cnx l G yX8_jam cX8_jam 4 (some .boolean) d' k' [aR x, aI a0, aI a1] γ μ P9 X9) (hE : ∀ E γ' μ', X9 E γ' μ' → E = NSE) (hP9 : ∀ r γ' μ', P9 r γ' μ' → (∃ z, r = some (aI z) ∧ (z = 0 ∨ z = 1))) : CnW l G yL_jam cL_jam 5 [(0, 17, 20, 18)] d k' [aR x, aI a0, aI a1, aR o] γ μ (fun r γ' μ' => (r = some (aI 0) ∧ ∃ z m, P9 (some (aI z)) γ' m ∧ μ' = up m o 0 z) ∨ (r = some (aI 1) ∧ ∃ E, X9 E γ' μ')) := by
  refine CnW.of hl (by decide) (noLc nlR (noLc nlI (noLc nlI (noL1 nlR)))) rfl (fun o1 o3 X hX hC hxt => ?_)
  subst hX
  refine (V_aload_n hC dL_jam_0 rfl rfl (V_iconst hC dL_jam_1 (by decide) (V_aload_n hC dL_jam_2 rfl rfl (V_iload_n hC dL_jam_3 rfl rfl (V_iload_n hC dL_jam_4 rfl rfl (V_callVc hC (n := 2) hxt (by decide) n_1071 (by decide) (Or.inr ⟨dL_jam_20, rfl⟩) (Nat.le_of_ble_eq_true rfl) rfl rfl rfl g_RL_35 ⟨rfl, by decide⟩ dL_jam_5 (by decide) (by decide) hx rfl (Nat.le_of_ble_eq_true rfl) rfl hdd (by omega) hcn hE (fun r γ' m hp => ?_) (fun E γ' m hp => ?_)))))))
  · obtain ⟨z, rfl, hz⟩ := hP9 _ _ _ hp
    refine V_if_eq (tgt := 15) hC dL_jam_8 (by decide) (fun h0 => ?_) (fun h0 => ?_)
    · subst h0
      exact (V_lconst0 hC dL_jam_15 (V_last hC dL_jam_16 ho (by decide) (V_goto (tgt := 24) hC dL_jam_17 (by decide) (V_iconst hC dL_jam_24 (by decide) (V_ireturn hC dL_jam_25 (by omega) (Or.inl ⟨rfl, _, m, hp, rfl⟩))))))
    · have h1 : z = 1 := by omega
      subst h1
      exact (V_lconst1 hC dL_jam_11 (V_goto (tgt := 16) hC dL_jam_12 (by decide) (V_last hC dL_jam_16 ho (by decide) (V_goto (tgt := 24) hC dL_jam_17 (by decide) (V_iconst hC dL_jam_24 (by decide) (V_ireturn hC dL_jam_25 (by omega) (Or.inl ⟨rfl, _, m, hp, rfl⟩)))))))
  · exact (V_iconst hC dL_jam_22 (by decide) (V_ireturn hC dL_jam_23 (by omega) (Or.inr ⟨rfl, E, hp⟩)))
set_option maxRecDepth 100000 in
theorem w_press {l : Launch} {G : Gx} {γ μ : Mu} (hl : l.stackTraces = false) (d d' k' : Nat) (hdd : d' < d) {x o a0 : Int} (hx : shO G x 8 20) (ho : shO G o 12 1) {P9 : Option AV → Mu → Mu → Prop} {X9 : String → Mu → Mu → Prop} (hcn : Cnx l G yX8_press cX8_press 2 (some .boolean) d' k' [aR x, aI a0] γ μ P9 X9) (hE : ∀ E γ' μ', X9 E γ' μ' → E = NSE) (hP9 : ∀ r γ' μ', P9 r γ' μ' → (∃ z, r = some (aI z) ∧ (z = 0 ∨ z = 1))) : CnW l G yL_press cL_press 4 [(0, 16, 19, 18)] d k' [aR x, aI a0, aR o] γ μ (fun r γ' μ' => (r = some (aI 0) ∧ ∃ z m, P9 (some (aI z)) γ' m ∧ μ' = up m o 0 z) ∨ (r = some (aI 1) ∧ ∃ E, X9 E γ' μ')) := by
  refine CnW.of hl (by decide) (noLc nlR (noLc nlI (noL1 nlR))) rfl (fun o1 o3 X hX hC hxt => ?_)
  subst hX
  refine (V_aload_n hC dL_press_0 rfl rfl (V_iconst hC dL_press_1 (by decide) (V_aload_n hC dL_press_2 rfl rfl (V_iload_n hC dL_press_3 rfl rfl (V_callVc hC (n := 1) hxt (by decide) n_1071 (by decide) (Or.inl ⟨_, dL_press_19, rfl, rfl⟩) (Nat.le_of_ble_eq_true rfl) rfl rfl rfl g_RL_39 ⟨rfl, by decide⟩ dL_press_4 (by decide) (by decide) hx rfl (Nat.le_of_ble_eq_true rfl) rfl hdd (by omega) hcn hE (fun r γ' m hp => ?_) (fun E γ' m hp => ?_))))))
  · obtain ⟨z, rfl, hz⟩ := hP9 _ _ _ hp
    refine V_if_eq (tgt := 14) hC dL_press_7 (by decide) (fun h0 => ?_) (fun h0 => ?_)
    · subst h0
      exact (V_lconst0 hC dL_press_14 (V_last hC dL_press_15 ho (by decide) (V_goto (tgt := 22) hC dL_press_16 (by decide) (V_iconst hC dL_press_22 (by decide) (V_ireturn hC dL_press_23 (by omega) (Or.inl ⟨rfl, _, m, hp, rfl⟩))))))
    · have h1 : z = 1 := by omega
      subst h1
      exact (V_lconst1 hC dL_press_10 (V_goto (tgt := 15) hC dL_press_11 (by decide) (V_last hC dL_press_15 ho (by decide) (V_goto (tgt := 22) hC dL_press_16 (by decide) (V_iconst hC dL_press_22 (by decide) (V_ireturn hC dL_press_23 (by omega) (Or.inl ⟨rfl, _, m, hp, rfl⟩)))))))
  · exact (V_iconst hC dL_press_20 (by decide) (V_ireturn hC dL_press_21 (by omega) (Or.inr ⟨rfl, E, hp⟩)))
set_option maxRecDepth 100000 in
theorem w_bound {l : Launch} {G : Gx} {γ μ : Mu} (hl : l.stackTraces = false) (d d' k' : Nat) (hdd : d' < d) {x o a0 a1 : Int} (hx : shO G x 8 20) (ho : shO G o 12 1) {P9 : Option AV → Mu → Mu → Prop} {X9 : String → Mu → Mu → Prop} (hcn : Cnx l G yX8_bound cX8_bound 4 (some .int) d' k' [aR x, aI a0, aI a1] γ μ P9 X9) (hE : ∀ E γ' μ', X9 E γ' μ' → E = NSE) (hP9 : ∀ r γ' μ', P9 r γ' μ' → ∃ z, r = some (aI z)) : CnW l G yL_bound cL_bound 5 [(0, 10, 13, 18)] d k' [aR x, aI a0, aI a1, aR o] γ μ (fun r γ' μ' => (r = some (aI 0) ∧ ∃ z m, P9 (some (aI z)) γ' m ∧ μ' = up m o 0 z) ∨ (r = some (aI 1) ∧ ∃ E, X9 E γ' μ')) := by
  refine CnW.of hl (by decide) (noLc nlR (noLc nlI (noLc nlI (noL1 nlR)))) rfl (fun o1 o3 X hX hC hxt => ?_)
  subst hX
  refine (V_aload_n hC dL_bound_0 rfl rfl (V_iconst hC dL_bound_1 (by decide) (V_aload_n hC dL_bound_2 rfl rfl (V_iload_n hC dL_bound_3 rfl rfl (V_iload_n hC dL_bound_4 rfl rfl (V_callVc hC (n := 2) hxt (by decide) n_1071 (by decide) (Or.inr ⟨dL_bound_13, rfl⟩) (Nat.le_of_ble_eq_true rfl) rfl rfl rfl g_RL_43 ⟨rfl, by decide⟩ dL_bound_5 (by decide) (by decide) hx rfl (Nat.le_of_ble_eq_true rfl) rfl hdd (by omega) hcn hE (fun r γ' m hp => ?_) (fun E γ' m hp => ?_)))))))
  · obtain ⟨z, rfl⟩ := hP9 _ _ _ hp
    exact (V_i2l hC dL_bound_8 (V_last hC dL_bound_9 ho (by decide) (V_goto (tgt := 17) hC dL_bound_10 (by decide) (V_iconst hC dL_bound_17 (by decide) (V_ireturn hC dL_bound_18 (by omega) (Or.inl ⟨rfl, _, m, hp, rfl⟩))))))
  · exact (V_iconst hC dL_bound_15 (by decide) (V_ireturn hC dL_bound_16 (by omega) (Or.inr ⟨rfl, E, hp⟩)))
set_option maxRecDepth 100000 in
theorem w_quiet {l : Launch} {G : Gx} {γ μ : Mu} (hl : l.stackTraces = false) (d d' k' : Nat) (hdd : d' < d) {x o a0 a1 : Int} (hx : shO G x 8 20) (ho : shO G o 12 1) {P9 : Option AV → Mu → Mu → Prop} {X9 : String → Mu → Mu → Prop} (hcn : Cnx l G yX8_quiet cX8_quiet 4 (some .int) d' k' [aR x, aI a0, aI a1] γ μ P9 X9) (hE : ∀ E γ' μ', X9 E γ' μ' → E = NSE) (hP9 : ∀ r γ' μ', P9 r γ' μ' → ∃ z, r = some (aI z)) : CnW l G yL_quiet cL_quiet 5 [(0, 10, 13, 18)] d k' [aR x, aI a0, aI a1, aR o] γ μ (fun r γ' μ' => (r = some (aI 0) ∧ ∃ z m, P9 (some (aI z)) γ' m ∧ μ' = up m o 0 z) ∨ (r = some (aI 1) ∧ ∃ E, X9 E γ' μ')) := by
  refine CnW.of hl (by decide) (noLc nlR (noLc nlI (noLc nlI (noL1 nlR)))) rfl (fun o1 o3 X hX hC hxt => ?_)
  subst hX
  refine (V_aload_n hC dL_quiet_0 rfl rfl (V_iconst hC dL_quiet_1 (by decide) (V_aload_n hC dL_quiet_2 rfl rfl (V_iload_n hC dL_quiet_3 rfl rfl (V_iload_n hC dL_quiet_4 rfl rfl (V_callVc hC (n := 2) hxt (by decide) n_1071 (by decide) (Or.inr ⟨dL_quiet_13, rfl⟩) (Nat.le_of_ble_eq_true rfl) rfl rfl rfl g_RL_46 ⟨rfl, by decide⟩ dL_quiet_5 (by decide) (by decide) hx rfl (Nat.le_of_ble_eq_true rfl) rfl hdd (by omega) hcn hE (fun r γ' m hp => ?_) (fun E γ' m hp => ?_)))))))
  · obtain ⟨z, rfl⟩ := hP9 _ _ _ hp
    exact (V_i2l hC dL_quiet_8 (V_last hC dL_quiet_9 ho (by decide) (V_goto (tgt := 17) hC dL_quiet_10 (by decide) (V_iconst hC dL_quiet_17 (by decide) (V_ireturn hC dL_quiet_18 (by omega) (Or.inl ⟨rfl, _, m, hp, rfl⟩))))))
  · exact (V_iconst hC dL_quiet_15 (by decide) (V_ireturn hC dL_quiet_16 (by omega) (Or.inr ⟨rfl, E, hp⟩)))
set_option maxRecDepth 100000 in
theorem w_sum {l : Launch} {G : Gx} {γ μ : Mu} (hl : l.stackTraces = false) (d d' k' : Nat) (hdd : d' < d) {x o a0 a1 : Int} (hx : shO G x 8 20) (ho : shO G o 12 1) {P9 : Option AV → Mu → Mu → Prop} {X9 : String → Mu → Mu → Prop} (hcn : Cnx l G yX8_sum cX8_sum 4 (some .int) d' k' [aR x, aI a0, aI a1] γ μ P9 X9) (hE : ∀ E γ' μ', X9 E γ' μ' → E = NSE) (hP9 : ∀ r γ' μ', P9 r γ' μ' → ∃ z, r = some (aI z)) : CnW l G yL_sum cL_sum 5 [(0, 10, 13, 18)] d k' [aR x, aI a0, aI a1, aR o] γ μ (fun r γ' μ' => (r = some (aI 0) ∧ ∃ z m, P9 (some (aI z)) γ' m ∧ μ' = up m o 0 z) ∨ (r = some (aI 1) ∧ ∃ E, X9 E γ' μ')) := by
  refine CnW.of hl (by decide) (noLc nlR (noLc nlI (noLc nlI (noL1 nlR)))) rfl (fun o1 o3 X hX hC hxt => ?_)
  subst hX
  refine (V_aload_n hC dL_sum_0 rfl rfl (V_iconst hC dL_sum_1 (by decide) (V_aload_n hC dL_sum_2 rfl rfl (V_iload_n hC dL_sum_3 rfl rfl (V_iload_n hC dL_sum_4 rfl rfl (V_callVc hC (n := 2) hxt (by decide) n_1071 (by decide) (Or.inr ⟨dL_sum_13, rfl⟩) (Nat.le_of_ble_eq_true rfl) rfl rfl rfl g_RL_49 ⟨rfl, by decide⟩ dL_sum_5 (by decide) (by decide) hx rfl (Nat.le_of_ble_eq_true rfl) rfl hdd (by omega) hcn hE (fun r γ' m hp => ?_) (fun E γ' m hp => ?_)))))))
  · obtain ⟨z, rfl⟩ := hP9 _ _ _ hp
    exact (V_i2l hC dL_sum_8 (V_last hC dL_sum_9 ho (by decide) (V_goto (tgt := 17) hC dL_sum_10 (by decide) (V_iconst hC dL_sum_17 (by decide) (V_ireturn hC dL_sum_18 (by omega) (Or.inl ⟨rfl, _, m, hp, rfl⟩))))))
  · exact (V_iconst hC dL_sum_15 (by decide) (V_ireturn hC dL_sum_16 (by omega) (Or.inr ⟨rfl, E, hp⟩)))
set_option maxRecDepth 100000 in
theorem w_solve {l : Launch} {G : Gx} {γ μ : Mu} (hl : l.stackTraces = false) (d d' k' : Nat) (hdd : d' < d) {x o a0 : Int} (hx : shO G x 8 20) (ho : shO G o 12 1) {P9 : Option AV → Mu → Mu → Prop} {X9 : String → Mu → Mu → Prop} (hcn : Cnx l G yX8_solve cX8_solve 4 (some .int) d' k' [aR x, aI a0] γ μ P9 X9) (hE : ∀ E γ' μ', X9 E γ' μ' → E = NSE) (hP9 : ∀ r γ' μ', P9 r γ' μ' → ∃ z, r = some (aI z)) : CnW l G yL_solve cL_solve 4 [(0, 9, 12, 18)] d k' [aR x, aI a0, aR o] γ μ (fun r γ' μ' => (r = some (aI 0) ∧ ∃ z m, P9 (some (aI z)) γ' m ∧ μ' = up m o 0 z) ∨ (r = some (aI 1) ∧ ∃ E, X9 E γ' μ')) := by
  refine CnW.of hl (by decide) (noLc nlR (noLc nlI (noL1 nlR))) rfl (fun o1 o3 X hX hC hxt => ?_)
  subst hX
  refine (V_aload_n hC dL_solve_0 rfl rfl (V_iconst hC dL_solve_1 (by decide) (V_aload_n hC dL_solve_2 rfl rfl (V_iload_n hC dL_solve_3 rfl rfl (V_callVc hC (n := 1) hxt (by decide) n_1071 (by decide) (Or.inl ⟨_, dL_solve_12, rfl, rfl⟩) (Nat.le_of_ble_eq_true rfl) rfl rfl rfl g_RL_52 ⟨rfl, by decide⟩ dL_solve_4 (by decide) (by decide) hx rfl (Nat.le_of_ble_eq_true rfl) rfl hdd (by omega) hcn hE (fun r γ' m hp => ?_) (fun E γ' m hp => ?_))))))
  · obtain ⟨z, rfl⟩ := hP9 _ _ _ hp
    exact (V_i2l hC dL_solve_7 (V_last hC dL_solve_8 ho (by decide) (V_goto (tgt := 15) hC dL_solve_9 (by decide) (V_iconst hC dL_solve_15 (by decide) (V_ireturn hC dL_solve_16 (by omega) (Or.inl ⟨rfl, _, m, hp, rfl⟩))))))
  · exact (V_iconst hC dL_solve_13 (by decide) (V_ireturn hC dL_solve_14 (by omega) (Or.inr ⟨rfl, E, hp⟩)))
set_option maxRecDepth 100000 in
theorem w_times {l : Launch} {G : Gx} {γ μ : Mu} (hl : l.stackTraces = false) (d d' k' : Nat) (hdd : d' < d) {x o a0 : Int} (hx : shO G x 8 20) (ho : shO G o 12 1) {P9 : Option AV → Mu → Mu → Prop} {X9 : String → Mu → Mu → Prop} (hcn : Cnx l G yX8_times cX8_times 2 (some .int) d' k' [aR x, aI a0] γ μ P9 X9) (hE : ∀ E γ' μ', X9 E γ' μ' → E = NSE) (hP9 : ∀ r γ' μ', P9 r γ' μ' → ∃ z, r = some (aI z)) : CnW l G yL_times cL_times 4 [(0, 9, 12, 18)] d k' [aR x, aI a0, aR o] γ μ (fun r γ' μ' => (r = some (aI 0) ∧ ∃ z m, P9 (some (aI z)) γ' m ∧ μ' = up m o 0 z) ∨ (r = some (aI 1) ∧ ∃ E, X9 E γ' μ')) := by
  refine CnW.of hl (by decide) (noLc nlR (noLc nlI (noL1 nlR))) rfl (fun o1 o3 X hX hC hxt => ?_)
  subst hX
  refine (V_aload_n hC dL_times_0 rfl rfl (V_iconst hC dL_times_1 (by decide) (V_aload_n hC dL_times_2 rfl rfl (V_iload_n hC dL_times_3 rfl rfl (V_callVc hC (n := 1) hxt (by decide) n_1071 (by decide) (Or.inl ⟨_, dL_times_12, rfl, rfl⟩) (Nat.le_of_ble_eq_true rfl) rfl rfl rfl g_RL_55 ⟨rfl, by decide⟩ dL_times_4 (by decide) (by decide) hx rfl (Nat.le_of_ble_eq_true rfl) rfl hdd (by omega) hcn hE (fun r γ' m hp => ?_) (fun E γ' m hp => ?_))))))
  · obtain ⟨z, rfl⟩ := hP9 _ _ _ hp
    exact (V_i2l hC dL_times_7 (V_last hC dL_times_8 ho (by decide) (V_goto (tgt := 15) hC dL_times_9 (by decide) (V_iconst hC dL_times_15 (by decide) (V_ireturn hC dL_times_16 (by omega) (Or.inl ⟨rfl, _, m, hp, rfl⟩))))))
  · exact (V_iconst hC dL_times_13 (by decide) (V_ireturn hC dL_times_14 (by omega) (Or.inr ⟨rfl, E, hp⟩)))
set_option maxRecDepth 100000 in
theorem w_needed {l : Launch} {G : Gx} {γ μ : Mu} (hl : l.stackTraces = false) (d d' k' : Nat) (hdd : d' < d) {x o a0 : Int} (hx : shO G x 8 20) (ho : shO G o 12 1) {P9 : Option AV → Mu → Mu → Prop} {X9 : String → Mu → Mu → Prop} (hcn : Cnx l G yX8_needed cX8_needed 6 (some .int) d' k' [aR x, aI a0] γ μ P9 X9) (hE : ∀ E γ' μ', X9 E γ' μ' → E = NSE) (hP9 : ∀ r γ' μ', P9 r γ' μ' → ∃ z, r = some (aI z)) : CnW l G yL_needed cL_needed 4 [(0, 9, 12, 18)] d k' [aR x, aI a0, aR o] γ μ (fun r γ' μ' => (r = some (aI 0) ∧ ∃ z m, P9 (some (aI z)) γ' m ∧ μ' = up m o 0 z) ∨ (r = some (aI 1) ∧ ∃ E, X9 E γ' μ')) := by
  refine CnW.of hl (by decide) (noLc nlR (noLc nlI (noL1 nlR))) rfl (fun o1 o3 X hX hC hxt => ?_)
  subst hX
  refine (V_aload_n hC dL_needed_0 rfl rfl (V_iconst hC dL_needed_1 (by decide) (V_aload_n hC dL_needed_2 rfl rfl (V_iload_n hC dL_needed_3 rfl rfl (V_callVc hC (n := 1) hxt (by decide) n_1071 (by decide) (Or.inl ⟨_, dL_needed_12, rfl, rfl⟩) (Nat.le_of_ble_eq_true rfl) rfl rfl rfl g_RL_58 ⟨rfl, by decide⟩ dL_needed_4 (by decide) (by decide) hx rfl (Nat.le_of_ble_eq_true rfl) rfl hdd (by omega) hcn hE (fun r γ' m hp => ?_) (fun E γ' m hp => ?_))))))
  · obtain ⟨z, rfl⟩ := hP9 _ _ _ hp
    exact (V_i2l hC dL_needed_7 (V_last hC dL_needed_8 ho (by decide) (V_goto (tgt := 15) hC dL_needed_9 (by decide) (V_iconst hC dL_needed_15 (by decide) (V_ireturn hC dL_needed_16 (by omega) (Or.inl ⟨rfl, _, m, hp, rfl⟩))))))
  · exact (V_iconst hC dL_needed_13 (by decide) (V_ireturn hC dL_needed_14 (by omega) (Or.inr ⟨rfl, E, hp⟩)))
set_option maxRecDepth 100000 in
theorem w_near {l : Launch} {G : Gx} {γ μ : Mu} (hl : l.stackTraces = false) (d d' k' : Nat) (hdd : d' < d) {x o a0 : Int} (hx : shO G x 8 20) (ho : shO G o 12 1) {P9 : Option AV → Mu → Mu → Prop} {X9 : String → Mu → Mu → Prop} (hcn : Cnx l G yX8_near cX8_near 2 (some .int) d' k' [aR x, aI a0] γ μ P9 X9) (hE : ∀ E γ' μ', X9 E γ' μ' → E = NSE) (hP9 : ∀ r γ' μ', P9 r γ' μ' → ∃ z, r = some (aI z)) : CnW l G yL_near cL_near 4 [(0, 9, 12, 18)] d k' [aR x, aI a0, aR o] γ μ (fun r γ' μ' => (r = some (aI 0) ∧ ∃ z m, P9 (some (aI z)) γ' m ∧ μ' = up m o 0 z) ∨ (r = some (aI 1) ∧ ∃ E, X9 E γ' μ')) := by
  refine CnW.of hl (by decide) (noLc nlR (noLc nlI (noL1 nlR))) rfl (fun o1 o3 X hX hC hxt => ?_)
  subst hX
  refine (V_aload_n hC dL_near_0 rfl rfl (V_iconst hC dL_near_1 (by decide) (V_aload_n hC dL_near_2 rfl rfl (V_iload_n hC dL_near_3 rfl rfl (V_callVc hC (n := 1) hxt (by decide) n_1071 (by decide) (Or.inl ⟨_, dL_near_12, rfl, rfl⟩) (Nat.le_of_ble_eq_true rfl) rfl rfl rfl g_RL_61 ⟨rfl, by decide⟩ dL_near_4 (by decide) (by decide) hx rfl (Nat.le_of_ble_eq_true rfl) rfl hdd (by omega) hcn hE (fun r γ' m hp => ?_) (fun E γ' m hp => ?_))))))
  · obtain ⟨z, rfl⟩ := hP9 _ _ _ hp
    exact (V_i2l hC dL_near_7 (V_last hC dL_near_8 ho (by decide) (V_goto (tgt := 15) hC dL_near_9 (by decide) (V_iconst hC dL_near_15 (by decide) (V_ireturn hC dL_near_16 (by omega) (Or.inl ⟨rfl, _, m, hp, rfl⟩))))))
  · exact (V_iconst hC dL_near_13 (by decide) (V_ireturn hC dL_near_14 (by omega) (Or.inr ⟨rfl, E, hp⟩)))
set_option maxRecDepth 100000 in
theorem w_lit {l : Launch} {G : Gx} {γ μ : Mu} (hl : l.stackTraces = false) (d d' k' : Nat) (hdd : d' < d) {x o a0 : Int} (hx : shO G x 8 20) (ho : shO G o 12 1) {P9 : Option AV → Mu → Mu → Prop} {X9 : String → Mu → Mu → Prop} (hcn : Cnx l G yX8_lit cX8_lit 2 (some .int) d' k' [aR x, aI a0] γ μ P9 X9) (hE : ∀ E γ' μ', X9 E γ' μ' → E = NSE) (hP9 : ∀ r γ' μ', P9 r γ' μ' → ∃ z, r = some (aI z)) : CnW l G yL_lit cL_lit 4 [(0, 9, 12, 18)] d k' [aR x, aI a0, aR o] γ μ (fun r γ' μ' => (r = some (aI 0) ∧ ∃ z m, P9 (some (aI z)) γ' m ∧ μ' = up m o 0 z) ∨ (r = some (aI 1) ∧ ∃ E, X9 E γ' μ')) := by
  refine CnW.of hl (by decide) (noLc nlR (noLc nlI (noL1 nlR))) rfl (fun o1 o3 X hX hC hxt => ?_)
  subst hX
  refine (V_aload_n hC dL_lit_0 rfl rfl (V_iconst hC dL_lit_1 (by decide) (V_aload_n hC dL_lit_2 rfl rfl (V_iload_n hC dL_lit_3 rfl rfl (V_callVc hC (n := 1) hxt (by decide) n_1071 (by decide) (Or.inl ⟨_, dL_lit_12, rfl, rfl⟩) (Nat.le_of_ble_eq_true rfl) rfl rfl rfl g_RL_64 ⟨rfl, by decide⟩ dL_lit_4 (by decide) (by decide) hx rfl (Nat.le_of_ble_eq_true rfl) rfl hdd (by omega) hcn hE (fun r γ' m hp => ?_) (fun E γ' m hp => ?_))))))
  · obtain ⟨z, rfl⟩ := hP9 _ _ _ hp
    exact (V_i2l hC dL_lit_7 (V_last hC dL_lit_8 ho (by decide) (V_goto (tgt := 15) hC dL_lit_9 (by decide) (V_iconst hC dL_lit_15 (by decide) (V_ireturn hC dL_lit_16 (by omega) (Or.inl ⟨rfl, _, m, hp, rfl⟩))))))
  · exact (V_iconst hC dL_lit_13 (by decide) (V_ireturn hC dL_lit_14 (by omega) (Or.inr ⟨rfl, E, hp⟩)))
set_option maxRecDepth 100000 in
theorem w_round {l : Launch} {G : Gx} {γ μ : Mu} (hl : l.stackTraces = false) (d d' k' : Nat) (hdd : d' < d) {x o a0 : Int} (hx : shO G x 8 20) (ho : shO G o 12 1) {P9 : Option AV → Mu → Mu → Prop} {X9 : String → Mu → Mu → Prop} (hcn : Cnx l G yX8_round cX8_round 2 (some .int) d' k' [aR x, aI a0] γ μ P9 X9) (hE : ∀ E γ' μ', X9 E γ' μ' → E = NSE) (hP9 : ∀ r γ' μ', P9 r γ' μ' → ∃ z, r = some (aI z)) : CnW l G yL_round cL_round 4 [(0, 9, 12, 18)] d k' [aR x, aI a0, aR o] γ μ (fun r γ' μ' => (r = some (aI 0) ∧ ∃ z m, P9 (some (aI z)) γ' m ∧ μ' = up m o 0 z) ∨ (r = some (aI 1) ∧ ∃ E, X9 E γ' μ')) := by
  refine CnW.of hl (by decide) (noLc nlR (noLc nlI (noL1 nlR))) rfl (fun o1 o3 X hX hC hxt => ?_)
  subst hX
  refine (V_aload_n hC dL_round_0 rfl rfl (V_iconst hC dL_round_1 (by decide) (V_aload_n hC dL_round_2 rfl rfl (V_iload_n hC dL_round_3 rfl rfl (V_callVc hC (n := 1) hxt (by decide) n_1071 (by decide) (Or.inl ⟨_, dL_round_12, rfl, rfl⟩) (Nat.le_of_ble_eq_true rfl) rfl rfl rfl g_RL_67 ⟨rfl, by decide⟩ dL_round_4 (by decide) (by decide) hx rfl (Nat.le_of_ble_eq_true rfl) rfl hdd (by omega) hcn hE (fun r γ' m hp => ?_) (fun E γ' m hp => ?_))))))
  · obtain ⟨z, rfl⟩ := hP9 _ _ _ hp
    exact (V_i2l hC dL_round_7 (V_last hC dL_round_8 ho (by decide) (V_goto (tgt := 15) hC dL_round_9 (by decide) (V_iconst hC dL_round_15 (by decide) (V_ireturn hC dL_round_16 (by omega) (Or.inl ⟨rfl, _, m, hp, rfl⟩))))))
  · exact (V_iconst hC dL_round_13 (by decide) (V_ireturn hC dL_round_14 (by omega) (Or.inr ⟨rfl, E, hp⟩)))
set_option maxRecDepth 100000 in
theorem w_twin {l : Launch} {G : Gx} {γ μ : Mu} (hl : l.stackTraces = false) (d d' k' : Nat) (hdd : d' < d) {x o a0 : Int} (hx : shO G x 8 20) (ho : shO G o 12 1) {P9 : Option AV → Mu → Mu → Prop} {X9 : String → Mu → Mu → Prop} (hcn : Cnx l G yX8_twin cX8_twin 3 (some .int) d' k' [aR x, aI a0] γ μ P9 X9) (hE : ∀ E γ' μ', X9 E γ' μ' → E = NSE) (hP9 : ∀ r γ' μ', P9 r γ' μ' → ∃ z, r = some (aI z)) : CnW l G yL_twin cL_twin 4 [(0, 9, 12, 18)] d k' [aR x, aI a0, aR o] γ μ (fun r γ' μ' => (r = some (aI 0) ∧ ∃ z m, P9 (some (aI z)) γ' m ∧ μ' = up m o 0 z) ∨ (r = some (aI 1) ∧ ∃ E, X9 E γ' μ')) := by
  refine CnW.of hl (by decide) (noLc nlR (noLc nlI (noL1 nlR))) rfl (fun o1 o3 X hX hC hxt => ?_)
  subst hX
  refine (V_aload_n hC dL_twin_0 rfl rfl (V_iconst hC dL_twin_1 (by decide) (V_aload_n hC dL_twin_2 rfl rfl (V_iload_n hC dL_twin_3 rfl rfl (V_callVc hC (n := 1) hxt (by decide) n_1071 (by decide) (Or.inl ⟨_, dL_twin_12, rfl, rfl⟩) (Nat.le_of_ble_eq_true rfl) rfl rfl rfl g_RL_70 ⟨rfl, by decide⟩ dL_twin_4 (by decide) (by decide) hx rfl (Nat.le_of_ble_eq_true rfl) rfl hdd (by omega) hcn hE (fun r γ' m hp => ?_) (fun E γ' m hp => ?_))))))
  · obtain ⟨z, rfl⟩ := hP9 _ _ _ hp
    exact (V_i2l hC dL_twin_7 (V_last hC dL_twin_8 ho (by decide) (V_goto (tgt := 15) hC dL_twin_9 (by decide) (V_iconst hC dL_twin_15 (by decide) (V_ireturn hC dL_twin_16 (by omega) (Or.inl ⟨rfl, _, m, hp, rfl⟩))))))
  · exact (V_iconst hC dL_twin_13 (by decide) (V_ireturn hC dL_twin_14 (by omega) (Or.inr ⟨rfl, E, hp⟩)))
set_option maxRecDepth 100000 in
theorem w_take {l : Launch} {G : Gx} {γ μ : Mu} (hl : l.stackTraces = false) (d d' k' : Nat) (hdd : d' < d) {x o a0 a1 : Int} (hx : shO G x 8 20) (ho : shO G o 12 1) {P9 : Option AV → Mu → Mu → Prop} {X9 : String → Mu → Mu → Prop} (hcn : Cnx l G yX8_take cX8_take 3 (some .boolean) d' k' [aR x, aI a0, aI a1] γ μ P9 X9) (hE : ∀ E γ' μ', X9 E γ' μ' → E = NSE) (hP9 : ∀ r γ' μ', P9 r γ' μ' → (∃ z, r = some (aI z) ∧ (z = 0 ∨ z = 1))) : CnW l G yL_take cL_take 5 [(0, 17, 20, 18)] d k' [aR x, aI a0, aI a1, aR o] γ μ (fun r γ' μ' => (r = some (aI 0) ∧ ∃ z m, P9 (some (aI z)) γ' m ∧ μ' = up m o 0 z) ∨ (r = some (aI 1) ∧ ∃ E, X9 E γ' μ')) := by
  refine CnW.of hl (by decide) (noLc nlR (noLc nlI (noLc nlI (noL1 nlR)))) rfl (fun o1 o3 X hX hC hxt => ?_)
  subst hX
  refine (V_aload_n hC dL_take_0 rfl rfl (V_iconst hC dL_take_1 (by decide) (V_aload_n hC dL_take_2 rfl rfl (V_iload_n hC dL_take_3 rfl rfl (V_iload_n hC dL_take_4 rfl rfl (V_callVc hC (n := 2) hxt (by decide) n_1071 (by decide) (Or.inr ⟨dL_take_20, rfl⟩) (Nat.le_of_ble_eq_true rfl) rfl rfl rfl g_RL_73 ⟨rfl, by decide⟩ dL_take_5 (by decide) (by decide) hx rfl (Nat.le_of_ble_eq_true rfl) rfl hdd (by omega) hcn hE (fun r γ' m hp => ?_) (fun E γ' m hp => ?_)))))))
  · obtain ⟨z, rfl, hz⟩ := hP9 _ _ _ hp
    refine V_if_eq (tgt := 15) hC dL_take_8 (by decide) (fun h0 => ?_) (fun h0 => ?_)
    · subst h0
      exact (V_lconst0 hC dL_take_15 (V_last hC dL_take_16 ho (by decide) (V_goto (tgt := 24) hC dL_take_17 (by decide) (V_iconst hC dL_take_24 (by decide) (V_ireturn hC dL_take_25 (by omega) (Or.inl ⟨rfl, _, m, hp, rfl⟩))))))
    · have h1 : z = 1 := by omega
      subst h1
      exact (V_lconst1 hC dL_take_11 (V_goto (tgt := 16) hC dL_take_12 (by decide) (V_last hC dL_take_16 ho (by decide) (V_goto (tgt := 24) hC dL_take_17 (by decide) (V_iconst hC dL_take_24 (by decide) (V_ireturn hC dL_take_25 (by omega) (Or.inl ⟨rfl, _, m, hp, rfl⟩)))))))
  · exact (V_iconst hC dL_take_22 (by decide) (V_ireturn hC dL_take_23 (by omega) (Or.inr ⟨rfl, E, hp⟩)))
