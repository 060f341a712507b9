theorem dX8_colour_0 : decode cX8_colour 0 = .ok (.aload_n 0, 1) := by decide +kernel
theorem dX8_colour_1 : decode cX8_colour 1 = .ok (.iload_n 1, 1) := by decide +kernel
theorem dX8_colour_2 : decode cX8_colour 2 = .ok (.invokevirtual 145, 3) := by decide +kernel
theorem dX8_colour_5 : decode cX8_colour 5 = .ok (.iload_n 2, 1) := by decide +kernel
theorem dX8_colour_6 : decode cX8_colour 6 = .ok (.invokestatic 151, 3) := by decide +kernel
theorem dX8_colour_9 : decode cX8_colour 9 = .ok (.iload_n 2, 1) := by decide +kernel
theorem dX8_colour_10 : decode cX8_colour 10 = .ok (.ifCond .ne 12, 3) := by decide +kernel
theorem dX8_colour_13 : decode cX8_colour 13 = .ok (.aload_n 0, 1) := by decide +kernel
theorem dX8_colour_14 : decode cX8_colour 14 = .ok (.getfield 33, 3) := by decide +kernel
theorem dX8_colour_17 : decode cX8_colour 17 = .ok (.iload_n 1, 1) := by decide +kernel
theorem dX8_colour_18 : decode cX8_colour 18 = .ok (.iaload, 1) := by decide +kernel
theorem dX8_colour_19 : decode cX8_colour 19 = .ok (.goto 9, 3) := by decide +kernel
theorem dX8_colour_22 : decode cX8_colour 22 = .ok (.aload_n 0, 1) := by decide +kernel
theorem dX8_colour_23 : decode cX8_colour 23 = .ok (.getfield 37, 3) := by decide +kernel
theorem dX8_colour_26 : decode cX8_colour 26 = .ok (.iload_n 1, 1) := by decide +kernel
theorem dX8_colour_27 : decode cX8_colour 27 = .ok (.iaload, 1) := by decide +kernel
theorem dX8_colour_28 : decode cX8_colour 28 = .ok (.ireturn, 1) := by decide +kernel
theorem dX8_set_0 : decode cX8_set 0 = .ok (.aload_n 0, 1) := by decide +kernel
theorem dX8_set_1 : decode cX8_set 1 = .ok (.iload_n 1, 1) := by decide +kernel
theorem dX8_set_2 : decode cX8_set 2 = .ok (.invokevirtual 145, 3) := by decide +kernel
theorem dX8_set_5 : decode cX8_set 5 = .ok (.iload_n 2, 1) := by decide +kernel
theorem dX8_set_6 : decode cX8_set 6 = .ok (.invokestatic 151, 3) := by decide +kernel
theorem dX8_set_9 : decode cX8_set 9 = .ok (.iload_n 3, 1) := by decide +kernel
theorem dX8_set_10 : decode cX8_set 10 = .ok (.ifCond .lt 14, 3) := by decide +kernel
theorem dX8_set_13 : decode cX8_set 13 = .ok (.iload_n 3, 1) := by decide +kernel
theorem dX8_set_14 : decode cX8_set 14 = .ok (.aload_n 0, 1) := by decide +kernel
theorem dX8_set_15 : decode cX8_set 15 = .ok (.getfield 19, 3) := by decide +kernel
theorem dX8_set_18 : decode cX8_set 18 = .ok (.getfield 121, 3) := by decide +kernel
theorem dX8_set_21 : decode cX8_set 21 = .ok (.if_icmp .lt 5, 3) := by decide +kernel
theorem dX8_set_24 : decode cX8_set 24 = .ok (.iconst 0, 1) := by decide +kernel
theorem dX8_set_25 : decode cX8_set 25 = .ok (.ireturn, 1) := by decide +kernel
theorem dX8_set_26 : decode cX8_set 26 = .ok (.aload_n 0, 1) := by decide +kernel
theorem dX8_set_27 : decode cX8_set 27 = .ok (.iload_n 2, 1) := by decide +kernel
theorem dX8_set_28 : decode cX8_set 28 = .ok (.invokevirtual 154, 3) := by decide +kernel
theorem dX8_set_31 : decode cX8_set 31 = .ok (.iload_n 1, 1) := by decide +kernel
theorem dX8_set_32 : decode cX8_set 32 = .ok (.iload_n 3, 1) := by decide +kernel
theorem dX8_set_33 : decode cX8_set 33 = .ok (.iastore, 1) := by decide +kernel
theorem dX8_set_34 : decode cX8_set 34 = .ok (.aload_n 0, 1) := by decide +kernel
theorem dX8_set_35 : decode cX8_set 35 = .ok (.iload_n 2, 1) := by decide +kernel
theorem dX8_set_36 : decode cX8_set 36 = .ok (.invokevirtual 158, 3) := by decide +kernel
theorem dX8_set_39 : decode cX8_set 39 = .ok (.iconst 1, 1) := by decide +kernel
theorem dX8_set_40 : decode cX8_set 40 = .ok (.ireturn, 1) := by decide +kernel
theorem dX8_fill_0 : decode cX8_fill 0 = .ok (.iload_n 1, 1) := by decide +kernel
theorem dX8_fill_1 : decode cX8_fill 1 = .ok (.invokestatic 151, 3) := by decide +kernel
theorem dX8_fill_4 : decode cX8_fill 4 = .ok (.iload_n 2, 1) := by decide +kernel
theorem dX8_fill_5 : decode cX8_fill 5 = .ok (.ifCond .lt 14, 3) := by decide +kernel
theorem dX8_fill_8 : decode cX8_fill 8 = .ok (.iload_n 2, 1) := by decide +kernel
theorem dX8_fill_9 : decode cX8_fill 9 = .ok (.aload_n 0, 1) := by decide +kernel
theorem dX8_fill_10 : decode cX8_fill 10 = .ok (.getfield 19, 3) := by decide +kernel
theorem dX8_fill_13 : decode cX8_fill 13 = .ok (.getfield 121, 3) := by decide +kernel
theorem dX8_fill_16 : decode cX8_fill 16 = .ok (.if_icmp .lt 5, 3) := by decide +kernel
theorem dX8_fill_19 : decode cX8_fill 19 = .ok (.iconst 0, 1) := by decide +kernel
theorem dX8_fill_20 : decode cX8_fill 20 = .ok (.ireturn, 1) := by decide +kernel
theorem dX8_fill_21 : decode cX8_fill 21 = .ok (.aload_n 0, 1) := by decide +kernel
theorem dX8_fill_22 : decode cX8_fill 22 = .ok (.iload_n 1, 1) := by decide +kernel
theorem dX8_fill_23 : decode cX8_fill 23 = .ok (.invokevirtual 154, 3) := by decide +kernel
theorem dX8_fill_26 : decode cX8_fill 26 = .ok (.astore_n 3, 1) := by decide +kernel
theorem dX8_fill_27 : decode cX8_fill 27 = .ok (.iconst 0, 1) := by decide +kernel
theorem dX8_fill_28 : decode cX8_fill 28 = .ok (.istore 4, 2) := by decide +kernel
theorem dX8_fill_30 : decode cX8_fill 30 = .ok (.iload 4, 2) := by decide +kernel
theorem dX8_fill_32 : decode cX8_fill 32 = .ok (.aload_n 0, 1) := by decide +kernel
theorem dX8_fill_33 : decode cX8_fill 33 = .ok (.getfield 19, 3) := by decide +kernel
theorem dX8_fill_36 : decode cX8_fill 36 = .ok (.getfield 118, 3) := by decide +kernel
theorem dX8_fill_39 : decode cX8_fill 39 = .ok (.if_icmp .ge 14, 3) := by decide +kernel
theorem dX8_fill_42 : decode cX8_fill 42 = .ok (.aload_n 3, 1) := by decide +kernel
theorem dX8_fill_43 : decode cX8_fill 43 = .ok (.iload 4, 2) := by decide +kernel
theorem dX8_fill_45 : decode cX8_fill 45 = .ok (.iload_n 2, 1) := by decide +kernel
theorem dX8_fill_46 : decode cX8_fill 46 = .ok (.iastore, 1) := by decide +kernel
theorem dX8_fill_47 : decode cX8_fill 47 = .ok (.iinc 4 1, 3) := by decide +kernel
theorem dX8_fill_50 : decode cX8_fill 50 = .ok (.goto (-20), 3) := by decide +kernel
theorem dX8_fill_53 : decode cX8_fill 53 = .ok (.aload_n 0, 1) := by decide +kernel
theorem dX8_fill_54 : decode cX8_fill 54 = .ok (.iload_n 1, 1) := by decide +kernel
theorem dX8_fill_55 : decode cX8_fill 55 = .ok (.invokevirtual 158, 3) := by decide +kernel
theorem dX8_fill_58 : decode cX8_fill 58 = .ok (.iconst 1, 1) := by decide +kernel
theorem dX8_fill_59 : decode cX8_fill 59 = .ok (.ireturn, 1) := by decide +kernel
theorem dX8_draw_0 : decode cX8_draw 0 = .ok (.iload_n 1, 1) := by decide +kernel
theorem dX8_draw_1 : decode cX8_draw 1 = .ok (.istore_n 2, 1) := by decide +kernel
theorem dX8_draw_2 : decode cX8_draw 2 = .ok (.iconst 0, 1) := by decide +kernel
theorem dX8_draw_3 : decode cX8_draw 3 = .ok (.istore_n 3, 1) := by decide +kernel
theorem dX8_draw_4 : decode cX8_draw 4 = .ok (.iload_n 3, 1) := by decide +kernel
theorem dX8_draw_5 : decode cX8_draw 5 = .ok (.aload_n 0, 1) := by decide +kernel
theorem dX8_draw_6 : decode cX8_draw 6 = .ok (.getfield 19, 3) := by decide +kernel
theorem dX8_draw_9 : decode cX8_draw 9 = .ok (.getfield 118, 3) := by decide +kernel
theorem dX8_draw_12 : decode cX8_draw 12 = .ok (.if_icmp .ge 42, 3) := by decide +kernel
theorem dX8_draw_15 : decode cX8_draw 15 = .ok (.iload_n 2, 1) := by decide +kernel
theorem dX8_draw_16 : decode cX8_draw 16 = .ok (.ldc 161, 2) := by decide +kernel
theorem dX8_draw_18 : decode cX8_draw 18 = .ok (.imul, 1) := by decide +kernel
theorem dX8_draw_19 : decode cX8_draw 19 = .ok (.sipush 12345, 3) := by decide +kernel
theorem dX8_draw_22 : decode cX8_draw 22 = .ok (.iadd, 1) := by decide +kernel
theorem dX8_draw_23 : decode cX8_draw 23 = .ok (.istore_n 2, 1) := by decide +kernel
theorem dX8_draw_24 : decode cX8_draw 24 = .ok (.aload_n 0, 1) := by decide +kernel
theorem dX8_draw_25 : decode cX8_draw 25 = .ok (.getfield 33, 3) := by decide +kernel
theorem dX8_draw_28 : decode cX8_draw 28 = .ok (.iload_n 3, 1) := by decide +kernel
theorem dX8_draw_29 : decode cX8_draw 29 = .ok (.iload_n 2, 1) := by decide +kernel
theorem dX8_draw_30 : decode cX8_draw 30 = .ok (.bipush 16, 2) := by decide +kernel
theorem dX8_draw_32 : decode cX8_draw 32 = .ok (.iushr, 1) := by decide +kernel
theorem dX8_draw_33 : decode cX8_draw 33 = .ok (.sipush 32767, 3) := by decide +kernel
theorem dX8_draw_36 : decode cX8_draw 36 = .ok (.iand, 1) := by decide +kernel
theorem dX8_draw_37 : decode cX8_draw 37 = .ok (.aload_n 0, 1) := by decide +kernel
theorem dX8_draw_38 : decode cX8_draw 38 = .ok (.getfield 19, 3) := by decide +kernel
theorem dX8_draw_41 : decode cX8_draw 41 = .ok (.getfield 121, 3) := by decide +kernel
theorem dX8_draw_44 : decode cX8_draw 44 = .ok (.invokestatic 162, 3) := by decide +kernel
theorem dX8_draw_47 : decode cX8_draw 47 = .ok (.iastore, 1) := by decide +kernel
theorem dX8_draw_48 : decode cX8_draw 48 = .ok (.iinc 3 1, 3) := by decide +kernel
theorem dX8_draw_51 : decode cX8_draw 51 = .ok (.goto (-47), 3) := by decide +kernel
theorem dX8_draw_54 : decode cX8_draw 54 = .ok (.aload_n 0, 1) := by decide +kernel
theorem dX8_draw_55 : decode cX8_draw 55 = .ok (.iconst 0, 1) := by decide +kernel
theorem dX8_draw_56 : decode cX8_draw 56 = .ok (.invokevirtual 158, 3) := by decide +kernel
theorem dX8_draw_59 : decode cX8_draw 59 = .ok (.return_, 1) := by decide +kernel
theorem dX8_jam_0 : decode cX8_jam 0 = .ok (.aload_n 0, 1) := by decide +kernel
theorem dX8_jam_1 : decode cX8_jam 1 = .ok (.iload_n 1, 1) := by decide +kernel
theorem dX8_jam_2 : decode cX8_jam 2 = .ok (.invokevirtual 145, 3) := by decide +kernel
theorem dX8_jam_5 : decode cX8_jam 5 = .ok (.aload_n 0, 1) := by decide +kernel
theorem dX8_jam_6 : decode cX8_jam 6 = .ok (.getfield 19, 3) := by decide +kernel
theorem dX8_jam_9 : decode cX8_jam 9 = .ok (.getfield 166, 3) := by decide +kernel
theorem dX8_jam_12 : decode cX8_jam 12 = .ok (.iload_n 1, 1) := by decide +kernel
theorem dX8_jam_13 : decode cX8_jam 13 = .ok (.baload, 1) := by decide +kernel
theorem dX8_jam_14 : decode cX8_jam 14 = .ok (.istore_n 3, 1) := by decide +kernel
theorem dX8_jam_15 : decode cX8_jam 15 = .ok (.iload_n 3, 1) := by decide +kernel
theorem dX8_jam_16 : decode cX8_jam 16 = .ok (.iload_n 2, 1) := by decide +kernel
theorem dX8_jam_17 : decode cX8_jam 17 = .ok (.if_icmp .eq 24, 3) := by decide +kernel
theorem dX8_jam_20 : decode cX8_jam 20 = .ok (.aload_n 0, 1) := by decide +kernel
theorem dX8_jam_21 : decode cX8_jam 21 = .ok (.getfield 19, 3) := by decide +kernel
theorem dX8_jam_24 : decode cX8_jam 24 = .ok (.getfield 166, 3) := by decide +kernel
theorem dX8_jam_27 : decode cX8_jam 27 = .ok (.iload_n 1, 1) := by decide +kernel
theorem dX8_jam_28 : decode cX8_jam 28 = .ok (.iload_n 2, 1) := by decide +kernel
theorem dX8_jam_29 : decode cX8_jam 29 = .ok (.bastore, 1) := by decide +kernel
theorem dX8_jam_30 : decode cX8_jam 30 = .ok (.aload_n 0, 1) := by decide +kernel
theorem dX8_jam_31 : decode cX8_jam 31 = .ok (.getfield 29, 3) := by decide +kernel
theorem dX8_jam_34 : decode cX8_jam 34 = .ok (.invokevirtual 169, 3) := by decide +kernel
theorem dX8_jam_37 : decode cX8_jam 37 = .ok (.aload_n 0, 1) := by decide +kernel
theorem dX8_jam_38 : decode cX8_jam 38 = .ok (.invokevirtual 172, 3) := by decide +kernel
theorem dX8_jam_41 : decode cX8_jam 41 = .ok (.iload_n 3, 1) := by decide +kernel
theorem dX8_jam_42 : decode cX8_jam 42 = .ok (.ireturn, 1) := by decide +kernel
theorem dX8_press_0 : decode cX8_press 0 = .ok (.aload_n 0, 1) := by decide +kernel
theorem dX8_press_1 : decode cX8_press 1 = .ok (.iload_n 1, 1) := by decide +kernel
theorem dX8_press_2 : decode cX8_press 2 = .ok (.invokevirtual 145, 3) := by decide +kernel
theorem dX8_press_5 : decode cX8_press 5 = .ok (.aload_n 0, 1) := by decide +kernel
theorem dX8_press_6 : decode cX8_press 6 = .ok (.getfield 19, 3) := by decide +kernel
theorem dX8_press_9 : decode cX8_press 9 = .ok (.getfield 166, 3) := by decide +kernel
theorem dX8_press_12 : decode cX8_press 12 = .ok (.iload_n 1, 1) := by decide +kernel
theorem dX8_press_13 : decode cX8_press 13 = .ok (.baload, 1) := by decide +kernel
theorem dX8_press_14 : decode cX8_press 14 = .ok (.ifCond .eq 5, 3) := by decide +kernel
theorem dX8_press_17 : decode cX8_press 17 = .ok (.iconst 0, 1) := by decide +kernel
theorem dX8_press_18 : decode cX8_press 18 = .ok (.ireturn, 1) := by decide +kernel
theorem dX8_press_19 : decode cX8_press 19 = .ok (.aload_n 0, 1) := by decide +kernel
theorem dX8_press_20 : decode cX8_press 20 = .ok (.iload_n 1, 1) := by decide +kernel
theorem dX8_press_21 : decode cX8_press 21 = .ok (.iconst 1, 1) := by decide +kernel
theorem dX8_press_22 : decode cX8_press 22 = .ok (.invokevirtual 175, 3) := by decide +kernel
theorem dX8_press_25 : decode cX8_press 25 = .ok (.iconst 1, 1) := by decide +kernel
theorem dX8_press_26 : decode cX8_press 26 = .ok (.ireturn, 1) := by decide +kernel
theorem dX8_back_0 : decode cX8_back 0 = .ok (.aload_n 0, 1) := by decide +kernel
theorem dX8_back_1 : decode cX8_back 1 = .ok (.getfield 43, 3) := by decide +kernel
theorem dX8_back_4 : decode cX8_back 4 = .ok (.invokevirtual 179, 3) := by decide +kernel
theorem dX8_back_7 : decode cX8_back 7 = .ok (.istore_n 1, 1) := by decide +kernel
theorem dX8_back_8 : decode cX8_back 8 = .ok (.iload_n 1, 1) := by decide +kernel
theorem dX8_back_9 : decode cX8_back 9 = .ok (.ifCond .lt 14, 3) := by decide +kernel
theorem dX8_back_12 : decode cX8_back 12 = .ok (.iload_n 1, 1) := by decide +kernel
theorem dX8_back_13 : decode cX8_back 13 = .ok (.aload_n 0, 1) := by decide +kernel
theorem dX8_back_14 : decode cX8_back 14 = .ok (.getfield 19, 3) := by decide +kernel
theorem dX8_back_17 : decode cX8_back 17 = .ok (.getfield 118, 3) := by decide +kernel
theorem dX8_back_20 : decode cX8_back 20 = .ok (.if_icmp .lt 5, 3) := by decide +kernel
theorem dX8_back_23 : decode cX8_back 23 = .ok (.iconst (-1), 1) := by decide +kernel
theorem dX8_back_24 : decode cX8_back 24 = .ok (.ireturn, 1) := by decide +kernel
theorem dX8_back_25 : decode cX8_back 25 = .ok (.aload_n 0, 1) := by decide +kernel
theorem dX8_back_26 : decode cX8_back 26 = .ok (.getfield 19, 3) := by decide +kernel
theorem dX8_back_29 : decode cX8_back 29 = .ok (.aload_n 0, 1) := by decide +kernel
theorem dX8_back_30 : decode cX8_back 30 = .ok (.getfield 33, 3) := by decide +kernel
theorem dX8_back_33 : decode cX8_back 33 = .ok (.iload_n 1, 1) := by decide +kernel
theorem dX8_back_34 : decode cX8_back 34 = .ok (.aload_n 0, 1) := by decide +kernel
theorem dX8_back_35 : decode cX8_back 35 = .ok (.getfield 19, 3) := by decide +kernel
theorem dX8_back_38 : decode cX8_back 38 = .ok (.getfield 121, 3) := by decide +kernel
theorem dX8_back_41 : decode cX8_back 41 = .ok (.iconst 1, 1) := by decide +kernel
theorem dX8_back_42 : decode cX8_back 42 = .ok (.isub, 1) := by decide +kernel
theorem dX8_back_43 : decode cX8_back 43 = .ok (.invokevirtual 182, 3) := by decide +kernel
theorem dX8_back_46 : decode cX8_back 46 = .ok (.aload_n 0, 1) := by decide +kernel
theorem dX8_back_47 : decode cX8_back 47 = .ok (.invokevirtual 172, 3) := by decide +kernel
theorem dX8_back_50 : decode cX8_back 50 = .ok (.iload_n 1, 1) := by decide +kernel
theorem dX8_back_51 : decode cX8_back 51 = .ok (.ireturn, 1) := by decide +kernel
theorem dX8_rank_0 : decode cX8_rank 0 = .ok (.aload_n 0, 1) := by decide +kernel
theorem dX8_rank_1 : decode cX8_rank 1 = .ok (.getfield 29, 3) := by decide +kernel
theorem dX8_rank_4 : decode cX8_rank 4 = .ok (.aload_n 0, 1) := by decide +kernel
theorem dX8_rank_5 : decode cX8_rank 5 = .ok (.getfield 19, 3) := by decide +kernel
theorem dX8_rank_8 : decode cX8_rank 8 = .ok (.invokevirtual 186, 3) := by decide +kernel
theorem dX8_rank_11 : decode cX8_rank 11 = .ok (.getfield 190, 3) := by decide +kernel
theorem dX8_rank_14 : decode cX8_rank 14 = .ok (.ireturn, 1) := by decide +kernel
theorem dX8_bound_0 : decode cX8_bound 0 = .ok (.iload_n 1, 1) := by decide +kernel
theorem dX8_bound_1 : decode cX8_bound 1 = .ok (.ifCond .eq 18, 3) := by decide +kernel
theorem dX8_bound_4 : decode cX8_bound 4 = .ok (.iload_n 1, 1) := by decide +kernel
theorem dX8_bound_5 : decode cX8_bound 5 = .ok (.iconst 1, 1) := by decide +kernel
theorem dX8_bound_6 : decode cX8_bound 6 = .ok (.if_icmp .eq 13, 3) := by decide +kernel
theorem dX8_bound_9 : decode cX8_bound 9 = .ok (.new 140, 3) := by decide +kernel
theorem dX8_bound_12 : decode cX8_bound 12 = .ok (.dup, 1) := by decide +kernel
theorem dX8_bound_13 : decode cX8_bound 13 = .ok (.ldc 142, 2) := by decide +kernel
theorem dX8_bound_15 : decode cX8_bound 15 = .ok (.invokespecial 144, 3) := by decide +kernel
theorem dX8_bound_18 : decode cX8_bound 18 = .ok (.athrow, 1) := by decide +kernel
theorem dX8_bound_19 : decode cX8_bound 19 = .ok (.iload_n 1, 1) := by decide +kernel
theorem dX8_bound_20 : decode cX8_bound 20 = .ok (.ifCond .ne 17, 3) := by decide +kernel
theorem dX8_bound_23 : decode cX8_bound 23 = .ok (.aload_n 0, 1) := by decide +kernel
theorem dX8_bound_24 : decode cX8_bound 24 = .ok (.getfield 29, 3) := by decide +kernel
theorem dX8_bound_27 : decode cX8_bound 27 = .ok (.aload_n 0, 1) := by decide +kernel
theorem dX8_bound_28 : decode cX8_bound 28 = .ok (.getfield 19, 3) := by decide +kernel
theorem dX8_bound_31 : decode cX8_bound 31 = .ok (.invokevirtual 186, 3) := by decide +kernel
theorem dX8_bound_34 : decode cX8_bound 34 = .ok (.goto 14, 3) := by decide +kernel
theorem dX8_bound_37 : decode cX8_bound 37 = .ok (.aload_n 0, 1) := by decide +kernel
theorem dX8_bound_38 : decode cX8_bound 38 = .ok (.getfield 29, 3) := by decide +kernel
theorem dX8_bound_41 : decode cX8_bound 41 = .ok (.aload_n 0, 1) := by decide +kernel
theorem dX8_bound_42 : decode cX8_bound 42 = .ok (.getfield 19, 3) := by decide +kernel
theorem dX8_bound_45 : decode cX8_bound 45 = .ok (.invokevirtual 195, 3) := by decide +kernel
theorem dX8_bound_48 : decode cX8_bound 48 = .ok (.astore_n 3, 1) := by decide +kernel
theorem dX8_bound_49 : decode cX8_bound 49 = .ok (.iload_n 2, 1) := by decide +kernel
theorem dX8_bound_50 : decode cX8_bound 50 = .ok (.iconst (-1), 1) := by decide +kernel
theorem dX8_bound_51 : decode cX8_bound 51 = .ok (.if_icmp .ne 8, 3) := by decide +kernel
theorem dX8_bound_54 : decode cX8_bound 54 = .ok (.aload_n 3, 1) := by decide +kernel
theorem dX8_bound_55 : decode cX8_bound 55 = .ok (.getfield 198, 3) := by decide +kernel
theorem dX8_bound_58 : decode cX8_bound 58 = .ok (.ireturn, 1) := by decide +kernel
theorem dX8_bound_59 : decode cX8_bound 59 = .ok (.aload_n 3, 1) := by decide +kernel
theorem dX8_bound_60 : decode cX8_bound 60 = .ok (.iload_n 2, 1) := by decide +kernel
theorem dX8_bound_61 : decode cX8_bound 61 = .ok (.invokestatic 201, 3) := by decide +kernel
theorem dX8_bound_64 : decode cX8_bound 64 = .ok (.aload_n 3, 1) := by decide +kernel
theorem dX8_bound_65 : decode cX8_bound 65 = .ok (.getfield 205, 3) := by decide +kernel
theorem dX8_bound_68 : decode cX8_bound 68 = .ok (.iload_n 2, 1) := by decide +kernel
theorem dX8_bound_69 : decode cX8_bound 69 = .ok (.iaload, 1) := by decide +kernel
theorem dX8_bound_70 : decode cX8_bound 70 = .ok (.ireturn, 1) := by decide +kernel
theorem dX8_quiet_0 : decode cX8_quiet 0 = .ok (.aload_n 0, 1) := by decide +kernel
theorem dX8_quiet_1 : decode cX8_quiet 1 = .ok (.iload_n 2, 1) := by decide +kernel
theorem dX8_quiet_2 : decode cX8_quiet 2 = .ok (.invokevirtual 145, 3) := by decide +kernel
theorem dX8_quiet_5 : decode cX8_quiet 5 = .ok (.aload_n 0, 1) := by decide +kernel
theorem dX8_quiet_6 : decode cX8_quiet 6 = .ok (.getfield 29, 3) := by decide +kernel
theorem dX8_quiet_9 : decode cX8_quiet 9 = .ok (.aload_n 0, 1) := by decide +kernel
theorem dX8_quiet_10 : decode cX8_quiet 10 = .ok (.getfield 19, 3) := by decide +kernel
theorem dX8_quiet_13 : decode cX8_quiet 13 = .ok (.invokevirtual 186, 3) := by decide +kernel
theorem dX8_quiet_16 : decode cX8_quiet 16 = .ok (.astore_n 3, 1) := by decide +kernel
theorem dX8_quiet_17 : decode cX8_quiet 17 = .ok (.aload_n 3, 1) := by decide +kernel
theorem dX8_quiet_18 : decode cX8_quiet 18 = .ok (.iload_n 1, 1) := by decide +kernel
theorem dX8_quiet_19 : decode cX8_quiet 19 = .ok (.invokestatic 201, 3) := by decide +kernel
theorem dX8_quiet_22 : decode cX8_quiet 22 = .ok (.aload_n 3, 1) := by decide +kernel
theorem dX8_quiet_23 : decode cX8_quiet 23 = .ok (.getfield 208, 3) := by decide +kernel
theorem dX8_quiet_26 : decode cX8_quiet 26 = .ok (.aload_n 3, 1) := by decide +kernel
theorem dX8_quiet_27 : decode cX8_quiet 27 = .ok (.getfield 205, 3) := by decide +kernel
theorem dX8_quiet_30 : decode cX8_quiet 30 = .ok (.iload_n 1, 1) := by decide +kernel
theorem dX8_quiet_31 : decode cX8_quiet 31 = .ok (.iaload, 1) := by decide +kernel
theorem dX8_quiet_32 : decode cX8_quiet 32 = .ok (.aaload, 1) := by decide +kernel
theorem dX8_quiet_33 : decode cX8_quiet 33 = .ok (.iload_n 2, 1) := by decide +kernel
theorem dX8_quiet_34 : decode cX8_quiet 34 = .ok (.iaload, 1) := by decide +kernel
theorem dX8_quiet_35 : decode cX8_quiet 35 = .ok (.ireturn, 1) := by decide +kernel
theorem dX8_sum_0 : decode cX8_sum 0 = .ok (.aload_n 0, 1) := by decide +kernel
theorem dX8_sum_1 : decode cX8_sum 1 = .ok (.iload_n 2, 1) := by decide +kernel
theorem dX8_sum_2 : decode cX8_sum 2 = .ok (.invokevirtual 145, 3) := by decide +kernel
theorem dX8_sum_5 : decode cX8_sum 5 = .ok (.aload_n 0, 1) := by decide +kernel
theorem dX8_sum_6 : decode cX8_sum 6 = .ok (.getfield 29, 3) := by decide +kernel
theorem dX8_sum_9 : decode cX8_sum 9 = .ok (.aload_n 0, 1) := by decide +kernel
theorem dX8_sum_10 : decode cX8_sum 10 = .ok (.getfield 19, 3) := by decide +kernel
theorem dX8_sum_13 : decode cX8_sum 13 = .ok (.invokevirtual 195, 3) := by decide +kernel
theorem dX8_sum_16 : decode cX8_sum 16 = .ok (.astore_n 3, 1) := by decide +kernel
theorem dX8_sum_17 : decode cX8_sum 17 = .ok (.aload_n 3, 1) := by decide +kernel
theorem dX8_sum_18 : decode cX8_sum 18 = .ok (.iload_n 1, 1) := by decide +kernel
theorem dX8_sum_19 : decode cX8_sum 19 = .ok (.invokestatic 201, 3) := by decide +kernel
theorem dX8_sum_22 : decode cX8_sum 22 = .ok (.aload_n 3, 1) := by decide +kernel
theorem dX8_sum_23 : decode cX8_sum 23 = .ok (.getfield 208, 3) := by decide +kernel
theorem dX8_sum_26 : decode cX8_sum 26 = .ok (.aload_n 3, 1) := by decide +kernel
theorem dX8_sum_27 : decode cX8_sum 27 = .ok (.getfield 205, 3) := by decide +kernel
theorem dX8_sum_30 : decode cX8_sum 30 = .ok (.iload_n 1, 1) := by decide +kernel
theorem dX8_sum_31 : decode cX8_sum 31 = .ok (.iaload, 1) := by decide +kernel
theorem dX8_sum_32 : decode cX8_sum 32 = .ok (.aaload, 1) := by decide +kernel
theorem dX8_sum_33 : decode cX8_sum 33 = .ok (.iload_n 2, 1) := by decide +kernel
theorem dX8_sum_34 : decode cX8_sum 34 = .ok (.iaload, 1) := by decide +kernel
theorem dX8_sum_35 : decode cX8_sum 35 = .ok (.ireturn, 1) := by decide +kernel
theorem dX8_why_0 : decode cX8_why 0 = .ok (.aload_n 0, 1) := by decide +kernel
theorem dX8_why_1 : decode cX8_why 1 = .ok (.getfield 29, 3) := by decide +kernel
theorem dX8_why_4 : decode cX8_why 4 = .ok (.aload_n 0, 1) := by decide +kernel
theorem dX8_why_5 : decode cX8_why 5 = .ok (.getfield 19, 3) := by decide +kernel
theorem dX8_why_8 : decode cX8_why 8 = .ok (.invokevirtual 195, 3) := by decide +kernel
theorem dX8_why_11 : decode cX8_why 11 = .ok (.astore_n 1, 1) := by decide +kernel
theorem dX8_why_12 : decode cX8_why 12 = .ok (.aload_n 0, 1) := by decide +kernel
theorem dX8_why_13 : decode cX8_why 13 = .ok (.invokevirtual 211, 3) := by decide +kernel
theorem dX8_why_16 : decode cX8_why 16 = .ok (.iconst 0, 1) := by decide +kernel
theorem dX8_why_17 : decode cX8_why 17 = .ok (.istore_n 2, 1) := by decide +kernel
theorem dX8_why_18 : decode cX8_why 18 = .ok (.iload_n 2, 1) := by decide +kernel
theorem dX8_why_19 : decode cX8_why 19 = .ok (.aload_n 1, 1) := by decide +kernel
theorem dX8_why_20 : decode cX8_why 20 = .ok (.getfield 198, 3) := by decide +kernel
theorem dX8_why_23 : decode cX8_why 23 = .ok (.if_icmp .ge 33, 3) := by decide +kernel
theorem dX8_why_26 : decode cX8_why 26 = .ok (.aload_n 0, 1) := by decide +kernel
theorem dX8_why_27 : decode cX8_why 27 = .ok (.aload_n 1, 1) := by decide +kernel
theorem dX8_why_28 : decode cX8_why 28 = .ok (.getfield 208, 3) := by decide +kernel
theorem dX8_why_31 : decode cX8_why 31 = .ok (.aload_n 1, 1) := by decide +kernel
theorem dX8_why_32 : decode cX8_why 32 = .ok (.getfield 205, 3) := by decide +kernel
theorem dX8_why_35 : decode cX8_why 35 = .ok (.iload_n 2, 1) := by decide +kernel
theorem dX8_why_36 : decode cX8_why 36 = .ok (.iaload, 1) := by decide +kernel
theorem dX8_why_37 : decode cX8_why 37 = .ok (.aaload, 1) := by decide +kernel
theorem dX8_why_38 : decode cX8_why 38 = .ok (.aload_n 0, 1) := by decide +kernel
theorem dX8_why_39 : decode cX8_why 39 = .ok (.getfield 83, 3) := by decide +kernel
theorem dX8_why_42 : decode cX8_why 42 = .ok (.invokevirtual 214, 3) := by decide +kernel
theorem dX8_why_45 : decode cX8_why 45 = .ok (.ifCond .eq 5, 3) := by decide +kernel
theorem dX8_why_48 : decode cX8_why 48 = .ok (.iload_n 2, 1) := by decide +kernel
theorem dX8_why_49 : decode cX8_why 49 = .ok (.ireturn, 1) := by decide +kernel
theorem dX8_why_50 : decode cX8_why 50 = .ok (.iinc 2 1, 3) := by decide +kernel
theorem dX8_why_53 : decode cX8_why 53 = .ok (.goto (-35), 3) := by decide +kernel
theorem dX8_why_56 : decode cX8_why 56 = .ok (.iconst (-1), 1) := by decide +kernel
theorem dX8_why_57 : decode cX8_why 57 = .ok (.ireturn, 1) := by decide +kernel
theorem dX8_solve_0 : decode cX8_solve 0 = .ok (.iload_n 1, 1) := by decide +kernel
theorem dX8_solve_1 : decode cX8_solve 1 = .ok (.ifCond .lt 8, 3) := by decide +kernel
theorem dX8_solve_4 : decode cX8_solve 4 = .ok (.iload_n 1, 1) := by decide +kernel
theorem dX8_solve_5 : decode cX8_solve 5 = .ok (.iconst 2, 1) := by decide +kernel
theorem dX8_solve_6 : decode cX8_solve 6 = .ok (.if_icmp .le 13, 3) := by decide +kernel
theorem dX8_solve_9 : decode cX8_solve 9 = .ok (.new 140, 3) := by decide +kernel
theorem dX8_solve_12 : decode cX8_solve 12 = .ok (.dup, 1) := by decide +kernel
theorem dX8_solve_13 : decode cX8_solve 13 = .ok (.ldc 218, 2) := by decide +kernel
theorem dX8_solve_15 : decode cX8_solve 15 = .ok (.invokespecial 144, 3) := by decide +kernel
theorem dX8_solve_18 : decode cX8_solve 18 = .ok (.athrow, 1) := by decide +kernel
theorem dX8_solve_19 : decode cX8_solve 19 = .ok (.aload_n 0, 1) := by decide +kernel
theorem dX8_solve_20 : decode cX8_solve 20 = .ok (.getfield 29, 3) := by decide +kernel
theorem dX8_solve_23 : decode cX8_solve 23 = .ok (.aload_n 0, 1) := by decide +kernel
theorem dX8_solve_24 : decode cX8_solve 24 = .ok (.getfield 19, 3) := by decide +kernel
theorem dX8_solve_27 : decode cX8_solve 27 = .ok (.invokevirtual 220, 3) := by decide +kernel
theorem dX8_solve_30 : decode cX8_solve 30 = .ok (.astore_n 2, 1) := by decide +kernel
theorem dX8_solve_31 : decode cX8_solve 31 = .ok (.aload_n 0, 1) := by decide +kernel
theorem dX8_solve_32 : decode cX8_solve 32 = .ok (.invokevirtual 211, 3) := by decide +kernel
theorem dX8_solve_35 : decode cX8_solve 35 = .ok (.aload_n 2, 1) := by decide +kernel
theorem dX8_solve_36 : decode cX8_solve 36 = .ok (.aload_n 0, 1) := by decide +kernel
theorem dX8_solve_37 : decode cX8_solve 37 = .ok (.getfield 83, 3) := by decide +kernel
theorem dX8_solve_40 : decode cX8_solve 40 = .ok (.aload_n 0, 1) := by decide +kernel
theorem dX8_solve_41 : decode cX8_solve 41 = .ok (.getfield 86, 3) := by decide +kernel
theorem dX8_solve_44 : decode cX8_solve 44 = .ok (.invokevirtual 223, 3) := by decide +kernel
theorem dX8_solve_47 : decode cX8_solve 47 = .ok (.ifCond .ne 5, 3) := by decide +kernel
theorem dX8_solve_50 : decode cX8_solve 50 = .ok (.iconst (-1), 1) := by decide +kernel
theorem dX8_solve_51 : decode cX8_solve 51 = .ok (.ireturn, 1) := by decide +kernel
theorem dX8_solve_52 : decode cX8_solve 52 = .ok (.aload_n 0, 1) := by decide +kernel
theorem dX8_solve_53 : decode cX8_solve 53 = .ok (.getfield 19, 3) := by decide +kernel
theorem dX8_solve_56 : decode cX8_solve 56 = .ok (.getfield 121, 3) := by decide +kernel
theorem dX8_solve_59 : decode cX8_solve 59 = .ok (.aload_n 2, 1) := by decide +kernel
theorem dX8_solve_60 : decode cX8_solve 60 = .ok (.getfield 198, 3) := by decide +kernel
theorem dX8_solve_63 : decode cX8_solve 63 = .ok (.sipush 20000, 3) := by decide +kernel
theorem dX8_solve_66 : decode cX8_solve 66 = .ok (.invokestatic 227, 3) := by decide +kernel
theorem dX8_solve_69 : decode cX8_solve 69 = .ok (.ifCond .eq 6, 3) := by decide +kernel
theorem dX8_solve_72 : decode cX8_solve 72 = .ok (.bipush (-2), 2) := by decide +kernel
theorem dX8_solve_74 : decode cX8_solve 74 = .ok (.ireturn, 1) := by decide +kernel
theorem dX8_solve_75 : decode cX8_solve 75 = .ok (.aload_n 0, 1) := by decide +kernel
theorem dX8_solve_76 : decode cX8_solve 76 = .ok (.getfield 65, 3) := by decide +kernel
theorem dX8_solve_79 : decode cX8_solve 79 = .ok (.aload_n 0, 1) := by decide +kernel
theorem dX8_solve_80 : decode cX8_solve 80 = .ok (.getfield 19, 3) := by decide +kernel
theorem dX8_solve_83 : decode cX8_solve 83 = .ok (.getfield 118, 3) := by decide +kernel
theorem dX8_solve_86 : decode cX8_solve 86 = .ok (.aload_n 0, 1) := by decide +kernel
theorem dX8_solve_87 : decode cX8_solve 87 = .ok (.getfield 19, 3) := by decide +kernel
theorem dX8_solve_90 : decode cX8_solve 90 = .ok (.getfield 121, 3) := by decide +kernel
theorem dX8_solve_93 : decode cX8_solve 93 = .ok (.aload_n 0, 1) := by decide +kernel
theorem dX8_solve_94 : decode cX8_solve 94 = .ok (.getfield 86, 3) := by decide +kernel
theorem dX8_solve_97 : decode cX8_solve 97 = .ok (.invokevirtual 231, 3) := by decide +kernel
theorem dX8_solve_100 : decode cX8_solve 100 = .ok (.aload_n 0, 1) := by decide +kernel
theorem dX8_solve_101 : decode cX8_solve 101 = .ok (.getfield 65, 3) := by decide +kernel
theorem dX8_solve_104 : decode cX8_solve 104 = .ok (.iload_n 1, 1) := by decide +kernel
theorem dX8_solve_105 : decode cX8_solve 105 = .ok (.invokevirtual 235, 3) := by decide +kernel
theorem dX8_solve_108 : decode cX8_solve 108 = .ok (.aload_n 2, 1) := by decide +kernel
theorem dX8_solve_109 : decode cX8_solve 109 = .ok (.getfield 198, 3) := by decide +kernel
theorem dX8_solve_112 : decode cX8_solve 112 = .ok (.iconst 1, 1) := by decide +kernel
theorem dX8_solve_113 : decode cX8_solve 113 = .ok (.isub, 1) := by decide +kernel
theorem dX8_solve_114 : decode cX8_solve 114 = .ok (.istore_n 3, 1) := by decide +kernel
theorem dX8_solve_115 : decode cX8_solve 115 = .ok (.iload_n 3, 1) := by decide +kernel
theorem dX8_solve_116 : decode cX8_solve 116 = .ok (.ifCond .lt 33, 3) := by decide +kernel
theorem dX8_solve_119 : decode cX8_solve 119 = .ok (.aload_n 0, 1) := by decide +kernel
theorem dX8_solve_120 : decode cX8_solve 120 = .ok (.getfield 65, 3) := by decide +kernel
theorem dX8_solve_123 : decode cX8_solve 123 = .ok (.aload_n 2, 1) := by decide +kernel
theorem dX8_solve_124 : decode cX8_solve 124 = .ok (.getfield 205, 3) := by decide +kernel
theorem dX8_solve_127 : decode cX8_solve 127 = .ok (.iload_n 3, 1) := by decide +kernel
theorem dX8_solve_128 : decode cX8_solve 128 = .ok (.iaload, 1) := by decide +kernel
theorem dX8_solve_129 : decode cX8_solve 129 = .ok (.aload_n 2, 1) := by decide +kernel
theorem dX8_solve_130 : decode cX8_solve 130 = .ok (.getfield 208, 3) := by decide +kernel
theorem dX8_solve_133 : decode cX8_solve 133 = .ok (.aload_n 2, 1) := by decide +kernel
theorem dX8_solve_134 : decode cX8_solve 134 = .ok (.getfield 205, 3) := by decide +kernel
theorem dX8_solve_137 : decode cX8_solve 137 = .ok (.iload_n 3, 1) := by decide +kernel
theorem dX8_solve_138 : decode cX8_solve 138 = .ok (.iaload, 1) := by decide +kernel
theorem dX8_solve_139 : decode cX8_solve 139 = .ok (.aaload, 1) := by decide +kernel
theorem dX8_solve_140 : decode cX8_solve 140 = .ok (.invokevirtual 238, 3) := by decide +kernel
theorem dX8_solve_143 : decode cX8_solve 143 = .ok (.iinc 3 (-1), 3) := by decide +kernel
theorem dX8_solve_146 : decode cX8_solve 146 = .ok (.goto (-31), 3) := by decide +kernel
theorem dX8_solve_149 : decode cX8_solve 149 = .ok (.aload_n 0, 1) := by decide +kernel
theorem dX8_solve_150 : decode cX8_solve 150 = .ok (.getfield 65, 3) := by decide +kernel
theorem dX8_solve_153 : decode cX8_solve 153 = .ok (.invokevirtual 242, 3) := by decide +kernel
theorem dX8_solve_156 : decode cX8_solve 156 = .ok (.istore_n 3, 1) := by decide +kernel
theorem dX8_solve_157 : decode cX8_solve 157 = .ok (.iload_n 3, 1) := by decide +kernel
theorem dX8_solve_158 : decode cX8_solve 158 = .ok (.iconst (-1), 1) := by decide +kernel
theorem dX8_solve_159 : decode cX8_solve 159 = .ok (.if_icmp .eq 26, 3) := by decide +kernel
theorem dX8_solve_162 : decode cX8_solve 162 = .ok (.aload_n 0, 1) := by decide +kernel
theorem dX8_solve_163 : decode cX8_solve 163 = .ok (.getfield 65, 3) := by decide +kernel
theorem dX8_solve_166 : decode cX8_solve 166 = .ok (.getfield 245, 3) := by decide +kernel
theorem dX8_solve_169 : decode cX8_solve 169 = .ok (.iconst 0, 1) := by decide +kernel
theorem dX8_solve_170 : decode cX8_solve 170 = .ok (.aload_n 0, 1) := by decide +kernel
theorem dX8_solve_171 : decode cX8_solve 171 = .ok (.getfield 56, 3) := by decide +kernel
theorem dX8_solve_174 : decode cX8_solve 174 = .ok (.iconst 0, 1) := by decide +kernel
theorem dX8_solve_175 : decode cX8_solve 175 = .ok (.bipush 36, 2) := by decide +kernel
theorem dX8_solve_177 : decode cX8_solve 177 = .ok (.invokestatic 248, 3) := by decide +kernel
theorem dX8_solve_180 : decode cX8_solve 180 = .ok (.aload_n 0, 1) := by decide +kernel
theorem dX8_solve_181 : decode cX8_solve 181 = .ok (.iconst 1, 1) := by decide +kernel
theorem dX8_solve_182 : decode cX8_solve 182 = .ok (.putfield 254, 3) := by decide +kernel
theorem dX8_solve_185 : decode cX8_solve 185 = .ok (.iload_n 3, 1) := by decide +kernel
theorem dX8_solve_186 : decode cX8_solve 186 = .ok (.ireturn, 1) := by decide +kernel
theorem dX8_times_0 : decode cX8_times 0 = .ok (.aload_n 0, 1) := by decide +kernel
theorem dX8_times_1 : decode cX8_times 1 = .ok (.iload_n 1, 1) := by decide +kernel
theorem dX8_times_2 : decode cX8_times 2 = .ok (.invokevirtual 145, 3) := by decide +kernel
theorem dX8_times_5 : decode cX8_times 5 = .ok (.aload_n 0, 1) := by decide +kernel
theorem dX8_times_6 : decode cX8_times 6 = .ok (.getfield 254, 3) := by decide +kernel
theorem dX8_times_9 : decode cX8_times 9 = .ok (.ifCond .ne 14, 3) := by decide +kernel
theorem dX8_times_12 : decode cX8_times 12 = .ok (.new 140, 3) := by decide +kernel
theorem dX8_times_15 : decode cX8_times 15 = .ok (.dup, 1) := by decide +kernel
theorem dX8_times_16 : decode cX8_times 16 = .ok (.ldc_w 258, 3) := by decide +kernel
theorem dX8_times_19 : decode cX8_times 19 = .ok (.invokespecial 144, 3) := by decide +kernel
theorem dX8_times_22 : decode cX8_times 22 = .ok (.athrow, 1) := by decide +kernel
theorem dX8_times_23 : decode cX8_times 23 = .ok (.aload_n 0, 1) := by decide +kernel
theorem dX8_times_24 : decode cX8_times 24 = .ok (.getfield 56, 3) := by decide +kernel
theorem dX8_times_27 : decode cX8_times 27 = .ok (.iload_n 1, 1) := by decide +kernel
theorem dX8_times_28 : decode cX8_times 28 = .ok (.iaload, 1) := by decide +kernel
theorem dX8_times_29 : decode cX8_times 29 = .ok (.ireturn, 1) := by decide +kernel
theorem dX8_apply_0 : decode cX8_apply 0 = .ok (.aload_n 0, 1) := by decide +kernel
theorem dX8_apply_1 : decode cX8_apply 1 = .ok (.getfield 254, 3) := by decide +kernel
theorem dX8_apply_4 : decode cX8_apply 4 = .ok (.ifCond .ne 5, 3) := by decide +kernel
theorem dX8_apply_7 : decode cX8_apply 7 = .ok (.iconst (-1), 1) := by decide +kernel
theorem dX8_apply_8 : decode cX8_apply 8 = .ok (.ireturn, 1) := by decide +kernel
theorem dX8_apply_9 : decode cX8_apply 9 = .ok (.iconst 0, 1) := by decide +kernel
theorem dX8_apply_10 : decode cX8_apply 10 = .ok (.istore_n 1, 1) := by decide +kernel
theorem dX8_apply_11 : decode cX8_apply 11 = .ok (.iconst 0, 1) := by decide +kernel
theorem dX8_apply_12 : decode cX8_apply 12 = .ok (.istore_n 2, 1) := by decide +kernel
theorem dX8_apply_13 : decode cX8_apply 13 = .ok (.iload_n 2, 1) := by decide +kernel
theorem dX8_apply_14 : decode cX8_apply 14 = .ok (.aload_n 0, 1) := by decide +kernel
theorem dX8_apply_15 : decode cX8_apply 15 = .ok (.getfield 19, 3) := by decide +kernel
theorem dX8_apply_18 : decode cX8_apply 18 = .ok (.getfield 118, 3) := by decide +kernel
theorem dX8_apply_21 : decode cX8_apply 21 = .ok (.if_icmp .ge 41, 3) := by decide +kernel
theorem dX8_apply_24 : decode cX8_apply 24 = .ok (.aload_n 0, 1) := by decide +kernel
theorem dX8_apply_25 : decode cX8_apply 25 = .ok (.getfield 19, 3) := by decide +kernel
theorem dX8_apply_28 : decode cX8_apply 28 = .ok (.getfield 166, 3) := by decide +kernel
theorem dX8_apply_31 : decode cX8_apply 31 = .ok (.iload_n 2, 1) := by decide +kernel
theorem dX8_apply_32 : decode cX8_apply 32 = .ok (.baload, 1) := by decide +kernel
theorem dX8_apply_33 : decode cX8_apply 33 = .ok (.ifCond .ne 23, 3) := by decide +kernel
theorem dX8_apply_36 : decode cX8_apply 36 = .ok (.aload_n 0, 1) := by decide +kernel
theorem dX8_apply_37 : decode cX8_apply 37 = .ok (.iload_n 2, 1) := by decide +kernel
theorem dX8_apply_38 : decode cX8_apply 38 = .ok (.aload_n 0, 1) := by decide +kernel
theorem dX8_apply_39 : decode cX8_apply 39 = .ok (.getfield 56, 3) := by decide +kernel
theorem dX8_apply_42 : decode cX8_apply 42 = .ok (.iload_n 2, 1) := by decide +kernel
theorem dX8_apply_43 : decode cX8_apply 43 = .ok (.iaload, 1) := by decide +kernel
theorem dX8_apply_44 : decode cX8_apply 44 = .ok (.invokevirtual 175, 3) := by decide +kernel
theorem dX8_apply_47 : decode cX8_apply 47 = .ok (.iload_n 1, 1) := by decide +kernel
theorem dX8_apply_48 : decode cX8_apply 48 = .ok (.aload_n 0, 1) := by decide +kernel
theorem dX8_apply_49 : decode cX8_apply 49 = .ok (.getfield 56, 3) := by decide +kernel
theorem dX8_apply_52 : decode cX8_apply 52 = .ok (.iload_n 2, 1) := by decide +kernel
theorem dX8_apply_53 : decode cX8_apply 53 = .ok (.iaload, 1) := by decide +kernel
theorem dX8_apply_54 : decode cX8_apply 54 = .ok (.iadd, 1) := by decide +kernel
theorem dX8_apply_55 : decode cX8_apply 55 = .ok (.istore_n 1, 1) := by decide +kernel
theorem dX8_apply_56 : decode cX8_apply 56 = .ok (.iinc 2 1, 3) := by decide +kernel
theorem dX8_apply_59 : decode cX8_apply 59 = .ok (.goto (-46), 3) := by decide +kernel
theorem dX8_apply_62 : decode cX8_apply 62 = .ok (.iload_n 1, 1) := by decide +kernel
theorem dX8_apply_63 : decode cX8_apply 63 = .ok (.ireturn, 1) := by decide +kernel
theorem dX8_needed_0 : decode cX8_needed 0 = .ok (.iload_n 1, 1) := by decide +kernel
theorem dX8_needed_1 : decode cX8_needed 1 = .ok (.ifCond .eq 18, 3) := by decide +kernel
theorem dX8_needed_4 : decode cX8_needed 4 = .ok (.iload_n 1, 1) := by decide +kernel
theorem dX8_needed_5 : decode cX8_needed 5 = .ok (.iconst 1, 1) := by decide +kernel
theorem dX8_needed_6 : decode cX8_needed 6 = .ok (.if_icmp .eq 13, 3) := by decide +kernel
theorem dX8_needed_9 : decode cX8_needed 9 = .ok (.new 140, 3) := by decide +kernel
theorem dX8_needed_12 : decode cX8_needed 12 = .ok (.dup, 1) := by decide +kernel
theorem dX8_needed_13 : decode cX8_needed 13 = .ok (.ldc 142, 2) := by decide +kernel
theorem dX8_needed_15 : decode cX8_needed 15 = .ok (.invokespecial 144, 3) := by decide +kernel
theorem dX8_needed_18 : decode cX8_needed 18 = .ok (.athrow, 1) := by decide +kernel
theorem dX8_needed_19 : decode cX8_needed 19 = .ok (.aload_n 0, 1) := by decide +kernel
theorem dX8_needed_20 : decode cX8_needed 20 = .ok (.getfield 29, 3) := by decide +kernel
theorem dX8_needed_23 : decode cX8_needed 23 = .ok (.aload_n 0, 1) := by decide +kernel
theorem dX8_needed_24 : decode cX8_needed 24 = .ok (.getfield 19, 3) := by decide +kernel
theorem dX8_needed_27 : decode cX8_needed 27 = .ok (.invokevirtual 220, 3) := by decide +kernel
theorem dX8_needed_30 : decode cX8_needed 30 = .ok (.astore_n 2, 1) := by decide +kernel
theorem dX8_needed_31 : decode cX8_needed 31 = .ok (.aload_n 0, 1) := by decide +kernel
theorem dX8_needed_32 : decode cX8_needed 32 = .ok (.invokevirtual 211, 3) := by decide +kernel
theorem dX8_needed_35 : decode cX8_needed 35 = .ok (.aload_n 2, 1) := by decide +kernel
theorem dX8_needed_36 : decode cX8_needed 36 = .ok (.aload_n 0, 1) := by decide +kernel
theorem dX8_needed_37 : decode cX8_needed 37 = .ok (.getfield 83, 3) := by decide +kernel
theorem dX8_needed_40 : decode cX8_needed 40 = .ok (.aload_n 0, 1) := by decide +kernel
theorem dX8_needed_41 : decode cX8_needed 41 = .ok (.getfield 86, 3) := by decide +kernel
theorem dX8_needed_44 : decode cX8_needed 44 = .ok (.invokevirtual 223, 3) := by decide +kernel
theorem dX8_needed_47 : decode cX8_needed 47 = .ok (.ifCond .ne 5, 3) := by decide +kernel
theorem dX8_needed_50 : decode cX8_needed 50 = .ok (.iconst (-1), 1) := by decide +kernel
theorem dX8_needed_51 : decode cX8_needed 51 = .ok (.ireturn, 1) := by decide +kernel
theorem dX8_needed_52 : decode cX8_needed 52 = .ok (.iconst 0, 1) := by decide +kernel
theorem dX8_needed_53 : decode cX8_needed 53 = .ok (.istore_n 3, 1) := by decide +kernel
theorem dX8_needed_54 : decode cX8_needed 54 = .ok (.iconst 0, 1) := by decide +kernel
theorem dX8_needed_55 : decode cX8_needed 55 = .ok (.istore 4, 2) := by decide +kernel
theorem dX8_needed_57 : decode cX8_needed 57 = .ok (.iload 4, 2) := by decide +kernel
theorem dX8_needed_59 : decode cX8_needed 59 = .ok (.aload_n 0, 1) := by decide +kernel
theorem dX8_needed_60 : decode cX8_needed 60 = .ok (.getfield 19, 3) := by decide +kernel
theorem dX8_needed_63 : decode cX8_needed 63 = .ok (.getfield 118, 3) := by decide +kernel
theorem dX8_needed_66 : decode cX8_needed 66 = .ok (.if_icmp .ge 48, 3) := by decide +kernel
theorem dX8_needed_69 : decode cX8_needed 69 = .ok (.aload_n 2, 1) := by decide +kernel
theorem dX8_needed_70 : decode cX8_needed 70 = .ok (.iload 4, 2) := by decide +kernel
theorem dX8_needed_72 : decode cX8_needed 72 = .ok (.invokevirtual 260, 3) := by decide +kernel
theorem dX8_needed_75 : decode cX8_needed 75 = .ok (.istore 5, 2) := by decide +kernel
theorem dX8_needed_77 : decode cX8_needed 77 = .ok (.iload_n 1, 1) := by decide +kernel
theorem dX8_needed_78 : decode cX8_needed 78 = .ok (.iconst 1, 1) := by decide +kernel
theorem dX8_needed_79 : decode cX8_needed 79 = .ok (.if_icmp .ne 11, 3) := by decide +kernel
theorem dX8_needed_82 : decode cX8_needed 82 = .ok (.iload 5, 2) := by decide +kernel
theorem dX8_needed_84 : decode cX8_needed 84 = .ok (.ifCond .eq 24, 3) := by decide +kernel
theorem dX8_needed_87 : decode cX8_needed 87 = .ok (.goto 18, 3) := by decide +kernel
theorem dX8_needed_90 : decode cX8_needed 90 = .ok (.iload 5, 2) := by decide +kernel
theorem dX8_needed_92 : decode cX8_needed 92 = .ok (.ifCond .ne 16, 3) := by decide +kernel
theorem dX8_needed_95 : decode cX8_needed 95 = .ok (.aload_n 0, 1) := by decide +kernel
theorem dX8_needed_96 : decode cX8_needed 96 = .ok (.getfield 86, 3) := by decide +kernel
theorem dX8_needed_99 : decode cX8_needed 99 = .ok (.iload 4, 2) := by decide +kernel
theorem dX8_needed_101 : decode cX8_needed 101 = .ok (.iaload, 1) := by decide +kernel
theorem dX8_needed_102 : decode cX8_needed 102 = .ok (.ifCond .eq 6, 3) := by decide +kernel
theorem dX8_needed_105 : decode cX8_needed 105 = .ok (.iinc 3 1, 3) := by decide +kernel
theorem dX8_needed_108 : decode cX8_needed 108 = .ok (.iinc 4 1, 3) := by decide +kernel
theorem dX8_needed_111 : decode cX8_needed 111 = .ok (.goto (-54), 3) := by decide +kernel
theorem dX8_needed_114 : decode cX8_needed 114 = .ok (.iload_n 3, 1) := by decide +kernel
theorem dX8_needed_115 : decode cX8_needed 115 = .ok (.ireturn, 1) := by decide +kernel
theorem dX8_hard_0 : decode cX8_hard 0 = .ok (.aload_n 0, 1) := by decide +kernel
theorem dX8_hard_1 : decode cX8_hard 1 = .ok (.getfield 19, 3) := by decide +kernel
theorem dX8_hard_4 : decode cX8_hard 4 = .ok (.getfield 121, 3) := by decide +kernel
theorem dX8_hard_7 : decode cX8_hard 7 = .ok (.aload_n 0, 1) := by decide +kernel
theorem dX8_hard_8 : decode cX8_hard 8 = .ok (.invokevirtual 263, 3) := by decide +kernel
theorem dX8_hard_11 : decode cX8_hard 11 = .ok (.sipush 10000, 3) := by decide +kernel
theorem dX8_hard_14 : decode cX8_hard 14 = .ok (.invokestatic 227, 3) := by decide +kernel
theorem dX8_hard_17 : decode cX8_hard 17 = .ok (.ifCond .eq 6, 3) := by decide +kernel
theorem dX8_hard_20 : decode cX8_hard 20 = .ok (.bipush (-2), 2) := by decide +kernel
theorem dX8_hard_22 : decode cX8_hard 22 = .ok (.ireturn, 1) := by decide +kernel
theorem dX8_hard_23 : decode cX8_hard 23 = .ok (.aload_n 0, 1) := by decide +kernel
theorem dX8_hard_24 : decode cX8_hard 24 = .ok (.getfield 29, 3) := by decide +kernel
theorem dX8_hard_27 : decode cX8_hard 27 = .ok (.getfield 266, 3) := by decide +kernel
theorem dX8_hard_30 : decode cX8_hard 30 = .ok (.ifCond .ne 23, 3) := by decide +kernel
theorem dX8_hard_33 : decode cX8_hard 33 = .ok (.aload_n 0, 1) := by decide +kernel
theorem dX8_hard_34 : decode cX8_hard 34 = .ok (.getfield 29, 3) := by decide +kernel
theorem dX8_hard_37 : decode cX8_hard 37 = .ok (.aload_n 0, 1) := by decide +kernel
theorem dX8_hard_38 : decode cX8_hard 38 = .ok (.getfield 19, 3) := by decide +kernel
theorem dX8_hard_41 : decode cX8_hard 41 = .ok (.aload_n 0, 1) := by decide +kernel
theorem dX8_hard_42 : decode cX8_hard 42 = .ok (.getfield 72, 3) := by decide +kernel
theorem dX8_hard_45 : decode cX8_hard 45 = .ok (.invokevirtual 269, 3) := by decide +kernel
theorem dX8_hard_48 : decode cX8_hard 48 = .ok (.aload_n 0, 1) := by decide +kernel
theorem dX8_hard_49 : decode cX8_hard 49 = .ok (.iconst 0, 1) := by decide +kernel
theorem dX8_hard_50 : decode cX8_hard 50 = .ok (.putfield 273, 3) := by decide +kernel
theorem dX8_hard_53 : decode cX8_hard 53 = .ok (.iload_n 1, 1) := by decide +kernel
theorem dX8_hard_54 : decode cX8_hard 54 = .ok (.iconst (-1), 1) := by decide +kernel
theorem dX8_hard_55 : decode cX8_hard 55 = .ok (.if_icmp .ne 11, 3) := by decide +kernel
theorem dX8_hard_58 : decode cX8_hard 58 = .ok (.aload_n 0, 1) := by decide +kernel
theorem dX8_hard_59 : decode cX8_hard 59 = .ok (.getfield 29, 3) := by decide +kernel
theorem dX8_hard_62 : decode cX8_hard 62 = .ok (.getfield 276, 3) := by decide +kernel
theorem dX8_hard_65 : decode cX8_hard 65 = .ok (.ireturn, 1) := by decide +kernel
theorem dX8_hard_66 : decode cX8_hard 66 = .ok (.iload_n 1, 1) := by decide +kernel
theorem dX8_hard_67 : decode cX8_hard 67 = .ok (.ifCond .lt 27, 3) := by decide +kernel
theorem dX8_hard_70 : decode cX8_hard 70 = .ok (.iload_n 1, 1) := by decide +kernel
theorem dX8_hard_71 : decode cX8_hard 71 = .ok (.aload_n 0, 1) := by decide +kernel
theorem dX8_hard_72 : decode cX8_hard 72 = .ok (.getfield 29, 3) := by decide +kernel
theorem dX8_hard_75 : decode cX8_hard 75 = .ok (.getfield 279, 3) := by decide +kernel
theorem dX8_hard_78 : decode cX8_hard 78 = .ok (.arraylength, 1) := by decide +kernel
theorem dX8_hard_79 : decode cX8_hard 79 = .ok (.if_icmp .ge 15, 3) := by decide +kernel
theorem dX8_hard_82 : decode cX8_hard 82 = .ok (.aload_n 0, 1) := by decide +kernel
theorem dX8_hard_83 : decode cX8_hard 83 = .ok (.getfield 29, 3) := by decide +kernel
theorem dX8_hard_86 : decode cX8_hard 86 = .ok (.getfield 279, 3) := by decide +kernel
theorem dX8_hard_89 : decode cX8_hard 89 = .ok (.iload_n 1, 1) := by decide +kernel
theorem dX8_hard_90 : decode cX8_hard 90 = .ok (.iaload, 1) := by decide +kernel
theorem dX8_hard_91 : decode cX8_hard 91 = .ok (.goto 4, 3) := by decide +kernel
theorem dX8_hard_94 : decode cX8_hard 94 = .ok (.iconst 0, 1) := by decide +kernel
theorem dX8_hard_95 : decode cX8_hard 95 = .ok (.ireturn, 1) := by decide +kernel
theorem dX8_nearest_0 : decode cX8_nearest 0 = .ok (.aload_n 0, 1) := by decide +kernel
theorem dX8_nearest_1 : decode cX8_nearest 1 = .ok (.getfield 29, 3) := by decide +kernel
theorem dX8_nearest_4 : decode cX8_nearest 4 = .ok (.aload_n 0, 1) := by decide +kernel
theorem dX8_nearest_5 : decode cX8_nearest 5 = .ok (.getfield 19, 3) := by decide +kernel
theorem dX8_nearest_8 : decode cX8_nearest 8 = .ok (.invokevirtual 195, 3) := by decide +kernel
theorem dX8_nearest_11 : decode cX8_nearest 11 = .ok (.astore_n 1, 1) := by decide +kernel
theorem dX8_nearest_12 : decode cX8_nearest 12 = .ok (.aload_n 0, 1) := by decide +kernel
theorem dX8_nearest_13 : decode cX8_nearest 13 = .ok (.getfield 19, 3) := by decide +kernel
theorem dX8_nearest_16 : decode cX8_nearest 16 = .ok (.getfield 121, 3) := by decide +kernel
theorem dX8_nearest_19 : decode cX8_nearest 19 = .ok (.aload_n 1, 1) := by decide +kernel
theorem dX8_nearest_20 : decode cX8_nearest 20 = .ok (.getfield 190, 3) := by decide +kernel
theorem dX8_nearest_23 : decode cX8_nearest 23 = .ok (.sipush 10000, 3) := by decide +kernel
theorem dX8_nearest_26 : decode cX8_nearest 26 = .ok (.invokestatic 227, 3) := by decide +kernel
theorem dX8_nearest_29 : decode cX8_nearest 29 = .ok (.ifCond .eq 6, 3) := by decide +kernel
theorem dX8_nearest_32 : decode cX8_nearest 32 = .ok (.bipush (-2), 2) := by decide +kernel
theorem dX8_nearest_34 : decode cX8_nearest 34 = .ok (.ireturn, 1) := by decide +kernel
theorem dX8_nearest_35 : decode cX8_nearest 35 = .ok (.aload_n 0, 1) := by decide +kernel
theorem dX8_nearest_36 : decode cX8_nearest 36 = .ok (.getfield 86, 3) := by decide +kernel
theorem dX8_nearest_39 : decode cX8_nearest 39 = .ok (.iconst 0, 1) := by decide +kernel
theorem dX8_nearest_40 : decode cX8_nearest 40 = .ok (.invokestatic 282, 3) := by decide +kernel
theorem dX8_nearest_43 : decode cX8_nearest 43 = .ok (.iconst 0, 1) := by decide +kernel
theorem dX8_nearest_44 : decode cX8_nearest 44 = .ok (.istore_n 2, 1) := by decide +kernel
theorem dX8_nearest_45 : decode cX8_nearest 45 = .ok (.iload_n 2, 1) := by decide +kernel
theorem dX8_nearest_46 : decode cX8_nearest 46 = .ok (.aload_n 1, 1) := by decide +kernel
theorem dX8_nearest_47 : decode cX8_nearest 47 = .ok (.getfield 198, 3) := by decide +kernel
theorem dX8_nearest_50 : decode cX8_nearest 50 = .ok (.if_icmp .ge 39, 3) := by decide +kernel
theorem dX8_nearest_53 : decode cX8_nearest 53 = .ok (.aload_n 0, 1) := by decide +kernel
theorem dX8_nearest_54 : decode cX8_nearest 54 = .ok (.getfield 86, 3) := by decide +kernel
theorem dX8_nearest_57 : decode cX8_nearest 57 = .ok (.aload_n 1, 1) := by decide +kernel
theorem dX8_nearest_58 : decode cX8_nearest 58 = .ok (.getfield 205, 3) := by decide +kernel
theorem dX8_nearest_61 : decode cX8_nearest 61 = .ok (.iload_n 2, 1) := by decide +kernel
theorem dX8_nearest_62 : decode cX8_nearest 62 = .ok (.iaload, 1) := by decide +kernel
theorem dX8_nearest_63 : decode cX8_nearest 63 = .ok (.aload_n 0, 1) := by decide +kernel
theorem dX8_nearest_64 : decode cX8_nearest 64 = .ok (.aload_n 1, 1) := by decide +kernel
theorem dX8_nearest_65 : decode cX8_nearest 65 = .ok (.getfield 208, 3) := by decide +kernel
theorem dX8_nearest_68 : decode cX8_nearest 68 = .ok (.aload_n 1, 1) := by decide +kernel
theorem dX8_nearest_69 : decode cX8_nearest 69 = .ok (.getfield 205, 3) := by decide +kernel
theorem dX8_nearest_72 : decode cX8_nearest 72 = .ok (.iload_n 2, 1) := by decide +kernel
theorem dX8_nearest_73 : decode cX8_nearest 73 = .ok (.iaload, 1) := by decide +kernel
theorem dX8_nearest_74 : decode cX8_nearest 74 = .ok (.aaload, 1) := by decide +kernel
theorem dX8_nearest_75 : decode cX8_nearest 75 = .ok (.aload_n 0, 1) := by decide +kernel
theorem dX8_nearest_76 : decode cX8_nearest 76 = .ok (.getfield 33, 3) := by decide +kernel
theorem dX8_nearest_79 : decode cX8_nearest 79 = .ok (.invokevirtual 214, 3) := by decide +kernel
theorem dX8_nearest_82 : decode cX8_nearest 82 = .ok (.iastore, 1) := by decide +kernel
theorem dX8_nearest_83 : decode cX8_nearest 83 = .ok (.iinc 2 1, 3) := by decide +kernel
theorem dX8_nearest_86 : decode cX8_nearest 86 = .ok (.goto (-41), 3) := by decide +kernel
theorem dX8_nearest_89 : decode cX8_nearest 89 = .ok (.aload_n 0, 1) := by decide +kernel
theorem dX8_nearest_90 : decode cX8_nearest 90 = .ok (.getfield 65, 3) := by decide +kernel
theorem dX8_nearest_93 : decode cX8_nearest 93 = .ok (.aload_n 0, 1) := by decide +kernel
theorem dX8_nearest_94 : decode cX8_nearest 94 = .ok (.getfield 19, 3) := by decide +kernel
theorem dX8_nearest_97 : decode cX8_nearest 97 = .ok (.getfield 118, 3) := by decide +kernel
theorem dX8_nearest_100 : decode cX8_nearest 100 = .ok (.aload_n 0, 1) := by decide +kernel
theorem dX8_nearest_101 : decode cX8_nearest 101 = .ok (.getfield 19, 3) := by decide +kernel
theorem dX8_nearest_104 : decode cX8_nearest 104 = .ok (.getfield 121, 3) := by decide +kernel
theorem dX8_nearest_107 : decode cX8_nearest 107 = .ok (.aload_n 0, 1) := by decide +kernel
theorem dX8_nearest_108 : decode cX8_nearest 108 = .ok (.getfield 86, 3) := by decide +kernel
theorem dX8_nearest_111 : decode cX8_nearest 111 = .ok (.invokevirtual 231, 3) := by decide +kernel
theorem dX8_nearest_114 : decode cX8_nearest 114 = .ok (.aload_n 0, 1) := by decide +kernel
theorem dX8_nearest_115 : decode cX8_nearest 115 = .ok (.getfield 65, 3) := by decide +kernel
theorem dX8_nearest_118 : decode cX8_nearest 118 = .ok (.aload_n 0, 1) := by decide +kernel
theorem dX8_nearest_119 : decode cX8_nearest 119 = .ok (.getfield 37, 3) := by decide +kernel
theorem dX8_nearest_122 : decode cX8_nearest 122 = .ok (.invokevirtual 288, 3) := by decide +kernel
theorem dX8_nearest_125 : decode cX8_nearest 125 = .ok (.iconst 0, 1) := by decide +kernel
theorem dX8_nearest_126 : decode cX8_nearest 126 = .ok (.istore_n 2, 1) := by decide +kernel
theorem dX8_nearest_127 : decode cX8_nearest 127 = .ok (.iload_n 2, 1) := by decide +kernel
theorem dX8_nearest_128 : decode cX8_nearest 128 = .ok (.aload_n 1, 1) := by decide +kernel
theorem dX8_nearest_129 : decode cX8_nearest 129 = .ok (.getfield 190, 3) := by decide +kernel
theorem dX8_nearest_132 : decode cX8_nearest 132 = .ok (.if_icmp .ge 37, 3) := by decide +kernel
theorem dX8_nearest_135 : decode cX8_nearest 135 = .ok (.aload_n 0, 1) := by decide +kernel
theorem dX8_nearest_136 : decode cX8_nearest 136 = .ok (.aload_n 1, 1) := by decide +kernel
theorem dX8_nearest_137 : decode cX8_nearest 137 = .ok (.aload_n 1, 1) := by decide +kernel
theorem dX8_nearest_138 : decode cX8_nearest 138 = .ok (.getfield 292, 3) := by decide +kernel
theorem dX8_nearest_141 : decode cX8_nearest 141 = .ok (.iload_n 2, 1) := by decide +kernel
theorem dX8_nearest_142 : decode cX8_nearest 142 = .ok (.iaload, 1) := by decide +kernel
theorem dX8_nearest_143 : decode cX8_nearest 143 = .ok (.invokevirtual 295, 3) := by decide +kernel
theorem dX8_nearest_146 : decode cX8_nearest 146 = .ok (.aload_n 0, 1) := by decide +kernel
theorem dX8_nearest_147 : decode cX8_nearest 147 = .ok (.getfield 65, 3) := by decide +kernel
theorem dX8_nearest_150 : decode cX8_nearest 150 = .ok (.aload_n 1, 1) := by decide +kernel
theorem dX8_nearest_151 : decode cX8_nearest 151 = .ok (.getfield 292, 3) := by decide +kernel
theorem dX8_nearest_154 : decode cX8_nearest 154 = .ok (.iload_n 2, 1) := by decide +kernel
theorem dX8_nearest_155 : decode cX8_nearest 155 = .ok (.iaload, 1) := by decide +kernel
theorem dX8_nearest_156 : decode cX8_nearest 156 = .ok (.aload_n 0, 1) := by decide +kernel
theorem dX8_nearest_157 : decode cX8_nearest 157 = .ok (.getfield 83, 3) := by decide +kernel
theorem dX8_nearest_160 : decode cX8_nearest 160 = .ok (.invokevirtual 238, 3) := by decide +kernel
theorem dX8_nearest_163 : decode cX8_nearest 163 = .ok (.iinc 2 1, 3) := by decide +kernel
theorem dX8_nearest_166 : decode cX8_nearest 166 = .ok (.goto (-39), 3) := by decide +kernel
theorem dX8_nearest_169 : decode cX8_nearest 169 = .ok (.aload_n 0, 1) := by decide +kernel
theorem dX8_nearest_170 : decode cX8_nearest 170 = .ok (.getfield 65, 3) := by decide +kernel
theorem dX8_nearest_173 : decode cX8_nearest 173 = .ok (.invokevirtual 242, 3) := by decide +kernel
theorem dX8_nearest_176 : decode cX8_nearest 176 = .ok (.istore_n 2, 1) := by decide +kernel
theorem dX8_nearest_177 : decode cX8_nearest 177 = .ok (.aload_n 0, 1) := by decide +kernel
theorem dX8_nearest_178 : decode cX8_nearest 178 = .ok (.getfield 65, 3) := by decide +kernel
theorem dX8_nearest_181 : decode cX8_nearest 181 = .ok (.getfield 245, 3) := by decide +kernel
theorem dX8_nearest_184 : decode cX8_nearest 184 = .ok (.iconst 0, 1) := by decide +kernel
theorem dX8_nearest_185 : decode cX8_nearest 185 = .ok (.aload_n 0, 1) := by decide +kernel
theorem dX8_nearest_186 : decode cX8_nearest 186 = .ok (.getfield 59, 3) := by decide +kernel
theorem dX8_nearest_189 : decode cX8_nearest 189 = .ok (.iconst 0, 1) := by decide +kernel
theorem dX8_nearest_190 : decode cX8_nearest 190 = .ok (.bipush 36, 2) := by decide +kernel
theorem dX8_nearest_192 : decode cX8_nearest 192 = .ok (.invokestatic 248, 3) := by decide +kernel
theorem dX8_nearest_195 : decode cX8_nearest 195 = .ok (.aload_n 0, 1) := by decide +kernel
theorem dX8_nearest_196 : decode cX8_nearest 196 = .ok (.iconst 1, 1) := by decide +kernel
theorem dX8_nearest_197 : decode cX8_nearest 197 = .ok (.putfield 298, 3) := by decide +kernel
theorem dX8_nearest_200 : decode cX8_nearest 200 = .ok (.iload_n 2, 1) := by decide +kernel
theorem dX8_nearest_201 : decode cX8_nearest 201 = .ok (.ireturn, 1) := by decide +kernel
theorem dX8_near_0 : decode cX8_near 0 = .ok (.aload_n 0, 1) := by decide +kernel
theorem dX8_near_1 : decode cX8_near 1 = .ok (.iload_n 1, 1) := by decide +kernel
theorem dX8_near_2 : decode cX8_near 2 = .ok (.invokevirtual 145, 3) := by decide +kernel
theorem dX8_near_5 : decode cX8_near 5 = .ok (.aload_n 0, 1) := by decide +kernel
theorem dX8_near_6 : decode cX8_near 6 = .ok (.getfield 298, 3) := by decide +kernel
theorem dX8_near_9 : decode cX8_near 9 = .ok (.ifCond .ne 14, 3) := by decide +kernel
theorem dX8_near_12 : decode cX8_near 12 = .ok (.new 140, 3) := by decide +kernel
theorem dX8_near_15 : decode cX8_near 15 = .ok (.dup, 1) := by decide +kernel
theorem dX8_near_16 : decode cX8_near 16 = .ok (.ldc_w 301, 3) := by decide +kernel
theorem dX8_near_19 : decode cX8_near 19 = .ok (.invokespecial 144, 3) := by decide +kernel
theorem dX8_near_22 : decode cX8_near 22 = .ok (.athrow, 1) := by decide +kernel
theorem dX8_near_23 : decode cX8_near 23 = .ok (.aload_n 0, 1) := by decide +kernel
theorem dX8_near_24 : decode cX8_near 24 = .ok (.getfield 59, 3) := by decide +kernel
theorem dX8_near_27 : decode cX8_near 27 = .ok (.iload_n 1, 1) := by decide +kernel
theorem dX8_near_28 : decode cX8_near 28 = .ok (.iaload, 1) := by decide +kernel
theorem dX8_near_29 : decode cX8_near 29 = .ok (.ireturn, 1) := by decide +kernel
theorem dX8_chase_0 : decode cX8_chase 0 = .ok (.aload_n 0, 1) := by decide +kernel
theorem dX8_chase_1 : decode cX8_chase 1 = .ok (.getfield 19, 3) := by decide +kernel
theorem dX8_chase_4 : decode cX8_chase 4 = .ok (.invokevirtual 303, 3) := by decide +kernel
theorem dX8_chase_7 : decode cX8_chase 7 = .ok (.ifCond .eq 5, 3) := by decide +kernel
theorem dX8_chase_10 : decode cX8_chase 10 = .ok (.iconst (-1), 1) := by decide +kernel
theorem dX8_chase_11 : decode cX8_chase 11 = .ok (.ireturn, 1) := by decide +kernel
theorem dX8_chase_12 : decode cX8_chase 12 = .ok (.iconst 0, 1) := by decide +kernel
theorem dX8_chase_13 : decode cX8_chase 13 = .ok (.istore_n 1, 1) := by decide +kernel
theorem dX8_chase_14 : decode cX8_chase 14 = .ok (.aload_n 0, 1) := by decide +kernel
theorem dX8_chase_15 : decode cX8_chase 15 = .ok (.getfield 19, 3) := by decide +kernel
theorem dX8_chase_18 : decode cX8_chase 18 = .ok (.getfield 124, 3) := by decide +kernel
theorem dX8_chase_21 : decode cX8_chase 21 = .ok (.istore_n 2, 1) := by decide +kernel
theorem dX8_chase_22 : decode cX8_chase 22 = .ok (.iload_n 2, 1) := by decide +kernel
theorem dX8_chase_23 : decode cX8_chase 23 = .ok (.aload_n 0, 1) := by decide +kernel
theorem dX8_chase_24 : decode cX8_chase 24 = .ok (.getfield 19, 3) := by decide +kernel
theorem dX8_chase_27 : decode cX8_chase 27 = .ok (.getfield 118, 3) := by decide +kernel
theorem dX8_chase_30 : decode cX8_chase 30 = .ok (.if_icmp .ge 33, 3) := by decide +kernel
theorem dX8_chase_33 : decode cX8_chase 33 = .ok (.aload_n 0, 1) := by decide +kernel
theorem dX8_chase_34 : decode cX8_chase 34 = .ok (.aload_n 0, 1) := by decide +kernel
theorem dX8_chase_35 : decode cX8_chase 35 = .ok (.getfield 33, 3) := by decide +kernel
theorem dX8_chase_38 : decode cX8_chase 38 = .ok (.aload_n 0, 1) := by decide +kernel
theorem dX8_chase_39 : decode cX8_chase 39 = .ok (.getfield 37, 3) := by decide +kernel
theorem dX8_chase_42 : decode cX8_chase 42 = .ok (.iload_n 2, 1) := by decide +kernel
theorem dX8_chase_43 : decode cX8_chase 43 = .ok (.invokevirtual 307, 3) := by decide +kernel
theorem dX8_chase_46 : decode cX8_chase 46 = .ok (.istore_n 3, 1) := by decide +kernel
theorem dX8_chase_47 : decode cX8_chase 47 = .ok (.aload_n 0, 1) := by decide +kernel
theorem dX8_chase_48 : decode cX8_chase 48 = .ok (.iload_n 2, 1) := by decide +kernel
theorem dX8_chase_49 : decode cX8_chase 49 = .ok (.iload_n 3, 1) := by decide +kernel
theorem dX8_chase_50 : decode cX8_chase 50 = .ok (.invokevirtual 175, 3) := by decide +kernel
theorem dX8_chase_53 : decode cX8_chase 53 = .ok (.iload_n 1, 1) := by decide +kernel
theorem dX8_chase_54 : decode cX8_chase 54 = .ok (.iload_n 3, 1) := by decide +kernel
theorem dX8_chase_55 : decode cX8_chase 55 = .ok (.iadd, 1) := by decide +kernel
theorem dX8_chase_56 : decode cX8_chase 56 = .ok (.istore_n 1, 1) := by decide +kernel
theorem dX8_chase_57 : decode cX8_chase 57 = .ok (.iinc 2 1, 3) := by decide +kernel
theorem dX8_chase_60 : decode cX8_chase 60 = .ok (.goto (-38), 3) := by decide +kernel
theorem dX8_chase_63 : decode cX8_chase 63 = .ok (.iload_n 1, 1) := by decide +kernel
theorem dX8_chase_64 : decode cX8_chase 64 = .ok (.ireturn, 1) := by decide +kernel
theorem dX8_top_0 : decode cX8_top 0 = .ok (.aload_n 0, 1) := by decide +kernel
theorem dX8_top_1 : decode cX8_top 1 = .ok (.getfield 19, 3) := by decide +kernel
theorem dX8_top_4 : decode cX8_top 4 = .ok (.invokevirtual 303, 3) := by decide +kernel
theorem dX8_top_7 : decode cX8_top 7 = .ok (.ifCond .eq 5, 3) := by decide +kernel
theorem dX8_top_10 : decode cX8_top 10 = .ok (.iconst (-1), 1) := by decide +kernel
theorem dX8_top_11 : decode cX8_top 11 = .ok (.ireturn, 1) := by decide +kernel
theorem dX8_top_12 : decode cX8_top 12 = .ok (.aload_n 0, 1) := by decide +kernel
theorem dX8_top_13 : decode cX8_top 13 = .ok (.getfield 29, 3) := by decide +kernel
theorem dX8_top_16 : decode cX8_top 16 = .ok (.getfield 311, 3) := by decide +kernel
theorem dX8_top_19 : decode cX8_top 19 = .ok (.astore_n 1, 1) := by decide +kernel
theorem dX8_top_20 : decode cX8_top 20 = .ok (.aload_n 1, 1) := by decide +kernel
theorem dX8_top_21 : decode cX8_top 21 = .ok (.aload_n 0, 1) := by decide +kernel
theorem dX8_top_22 : decode cX8_top 22 = .ok (.getfield 19, 3) := by decide +kernel
theorem dX8_top_25 : decode cX8_top 25 = .ok (.getfield 118, 3) := by decide +kernel
theorem dX8_top_28 : decode cX8_top 28 = .ok (.aload_n 0, 1) := by decide +kernel
theorem dX8_top_29 : decode cX8_top 29 = .ok (.getfield 19, 3) := by decide +kernel
theorem dX8_top_32 : decode cX8_top 32 = .ok (.getfield 121, 3) := by decide +kernel
theorem dX8_top_35 : decode cX8_top 35 = .ok (.invokevirtual 315, 3) := by decide +kernel
theorem dX8_top_38 : decode cX8_top 38 = .ok (.aload_n 0, 1) := by decide +kernel
theorem dX8_top_39 : decode cX8_top 39 = .ok (.getfield 19, 3) := by decide +kernel
theorem dX8_top_42 : decode cX8_top 42 = .ok (.getfield 124, 3) := by decide +kernel
theorem dX8_top_45 : decode cX8_top 45 = .ok (.iconst 1, 1) := by decide +kernel
theorem dX8_top_46 : decode cX8_top 46 = .ok (.isub, 1) := by decide +kernel
theorem dX8_top_47 : decode cX8_top 47 = .ok (.istore_n 2, 1) := by decide +kernel
theorem dX8_top_48 : decode cX8_top 48 = .ok (.iload_n 2, 1) := by decide +kernel
theorem dX8_top_49 : decode cX8_top 49 = .ok (.ifCond .lt 70, 3) := by decide +kernel
theorem dX8_top_52 : decode cX8_top 52 = .ok (.aload_n 0, 1) := by decide +kernel
theorem dX8_top_53 : decode cX8_top 53 = .ok (.getfield 19, 3) := by decide +kernel
theorem dX8_top_56 : decode cX8_top 56 = .ok (.getfield 166, 3) := by decide +kernel
theorem dX8_top_59 : decode cX8_top 59 = .ok (.iload_n 2, 1) := by decide +kernel
theorem dX8_top_60 : decode cX8_top 60 = .ok (.baload, 1) := by decide +kernel
theorem dX8_top_61 : decode cX8_top 61 = .ok (.ifCond .ne 52, 3) := by decide +kernel
theorem dX8_top_64 : decode cX8_top 64 = .ok (.aload_n 0, 1) := by decide +kernel
theorem dX8_top_65 : decode cX8_top 65 = .ok (.getfield 19, 3) := by decide +kernel
theorem dX8_top_68 : decode cX8_top 68 = .ok (.getfield 148, 3) := by decide +kernel
theorem dX8_top_71 : decode cX8_top 71 = .ok (.iload_n 2, 1) := by decide +kernel
theorem dX8_top_72 : decode cX8_top 72 = .ok (.aaload, 1) := by decide +kernel
theorem dX8_top_73 : decode cX8_top 73 = .ok (.iconst 0, 1) := by decide +kernel
theorem dX8_top_74 : decode cX8_top 74 = .ok (.aload_n 0, 1) := by decide +kernel
theorem dX8_top_75 : decode cX8_top 75 = .ok (.getfield 83, 3) := by decide +kernel
theorem dX8_top_78 : decode cX8_top 78 = .ok (.iconst 0, 1) := by decide +kernel
theorem dX8_top_79 : decode cX8_top 79 = .ok (.bipush 36, 2) := by decide +kernel
theorem dX8_top_81 : decode cX8_top 81 = .ok (.invokestatic 248, 3) := by decide +kernel
theorem dX8_top_84 : decode cX8_top 84 = .ok (.aload_n 0, 1) := by decide +kernel
theorem dX8_top_85 : decode cX8_top 85 = .ok (.getfield 86, 3) := by decide +kernel
theorem dX8_top_88 : decode cX8_top 88 = .ok (.iconst 0, 1) := by decide +kernel
theorem dX8_top_89 : decode cX8_top 89 = .ok (.invokestatic 282, 3) := by decide +kernel
theorem dX8_top_92 : decode cX8_top 92 = .ok (.aload_n 0, 1) := by decide +kernel
theorem dX8_top_93 : decode cX8_top 93 = .ok (.aload_n 0, 1) := by decide +kernel
theorem dX8_top_94 : decode cX8_top 94 = .ok (.getfield 83, 3) := by decide +kernel
theorem dX8_top_97 : decode cX8_top 97 = .ok (.aload_n 0, 1) := by decide +kernel
theorem dX8_top_98 : decode cX8_top 98 = .ok (.getfield 86, 3) := by decide +kernel
theorem dX8_top_101 : decode cX8_top 101 = .ok (.invokevirtual 317, 3) := by decide +kernel
theorem dX8_top_104 : decode cX8_top 104 = .ok (.aload_n 1, 1) := by decide +kernel
theorem dX8_top_105 : decode cX8_top 105 = .ok (.iload_n 2, 1) := by decide +kernel
theorem dX8_top_106 : decode cX8_top 106 = .ok (.aload_n 0, 1) := by decide +kernel
theorem dX8_top_107 : decode cX8_top 107 = .ok (.getfield 83, 3) := by decide +kernel
theorem dX8_top_110 : decode cX8_top 110 = .ok (.invokevirtual 321, 3) := by decide +kernel
theorem dX8_top_113 : decode cX8_top 113 = .ok (.iinc 2 (-1), 3) := by decide +kernel
theorem dX8_top_116 : decode cX8_top 116 = .ok (.goto (-68), 3) := by decide +kernel
theorem dX8_top_119 : decode cX8_top 119 = .ok (.aload_n 0, 1) := by decide +kernel
theorem dX8_top_120 : decode cX8_top 120 = .ok (.getfield 33, 3) := by decide +kernel
theorem dX8_top_123 : decode cX8_top 123 = .ok (.iconst 0, 1) := by decide +kernel
theorem dX8_top_124 : decode cX8_top 124 = .ok (.aload_n 0, 1) := by decide +kernel
theorem dX8_top_125 : decode cX8_top 125 = .ok (.getfield 83, 3) := by decide +kernel
theorem dX8_top_128 : decode cX8_top 128 = .ok (.iconst 0, 1) := by decide +kernel
theorem dX8_top_129 : decode cX8_top 129 = .ok (.bipush 36, 2) := by decide +kernel
theorem dX8_top_131 : decode cX8_top 131 = .ok (.invokestatic 248, 3) := by decide +kernel
theorem dX8_top_134 : decode cX8_top 134 = .ok (.aload_n 0, 1) := by decide +kernel
theorem dX8_top_135 : decode cX8_top 135 = .ok (.aload_n 0, 1) := by decide +kernel
theorem dX8_top_136 : decode cX8_top 136 = .ok (.getfield 83, 3) := by decide +kernel
theorem dX8_top_139 : decode cX8_top 139 = .ok (.aload_n 0, 1) := by decide +kernel
theorem dX8_top_140 : decode cX8_top 140 = .ok (.getfield 37, 3) := by decide +kernel
theorem dX8_top_143 : decode cX8_top 143 = .ok (.invokevirtual 317, 3) := by decide +kernel
theorem dX8_top_146 : decode cX8_top 146 = .ok (.aload_n 0, 1) := by decide +kernel
theorem dX8_top_147 : decode cX8_top 147 = .ok (.aload_n 0, 1) := by decide +kernel
theorem dX8_top_148 : decode cX8_top 148 = .ok (.getfield 83, 3) := by decide +kernel
theorem dX8_top_151 : decode cX8_top 151 = .ok (.invokevirtual 324, 3) := by decide +kernel
theorem dX8_top_154 : decode cX8_top 154 = .ok (.aload_n 1, 1) := by decide +kernel
theorem dX8_top_155 : decode cX8_top 155 = .ok (.aload_n 0, 1) := by decide +kernel
theorem dX8_top_156 : decode cX8_top 156 = .ok (.getfield 83, 3) := by decide +kernel
theorem dX8_top_159 : decode cX8_top 159 = .ok (.aload_n 0, 1) := by decide +kernel
theorem dX8_top_160 : decode cX8_top 160 = .ok (.getfield 86, 3) := by decide +kernel
theorem dX8_top_163 : decode cX8_top 163 = .ok (.invokevirtual 223, 3) := by decide +kernel
theorem dX8_top_166 : decode cX8_top 166 = .ok (.ifCond .eq 10, 3) := by decide +kernel
theorem dX8_top_169 : decode cX8_top 169 = .ok (.aload_n 0, 1) := by decide +kernel
theorem dX8_top_170 : decode cX8_top 170 = .ok (.invokevirtual 327, 3) := by decide +kernel
theorem dX8_top_173 : decode cX8_top 173 = .ok (.goto 4, 3) := by decide +kernel
theorem dX8_top_176 : decode cX8_top 176 = .ok (.iconst (-1), 1) := by decide +kernel
theorem dX8_top_177 : decode cX8_top 177 = .ok (.ireturn, 1) := by decide +kernel
theorem dX8_lit_0 : decode cX8_lit 0 = .ok (.iload_n 1, 1) := by decide +kernel
theorem dX8_lit_1 : decode cX8_lit 1 = .ok (.ifCond .lt 8, 3) := by decide +kernel
theorem dX8_lit_4 : decode cX8_lit 4 = .ok (.iload_n 1, 1) := by decide +kernel
theorem dX8_lit_5 : decode cX8_lit 5 = .ok (.iconst 2, 1) := by decide +kernel
theorem dX8_lit_6 : decode cX8_lit 6 = .ok (.if_icmp .le 13, 3) := by decide +kernel
theorem dX8_lit_9 : decode cX8_lit 9 = .ok (.new 140, 3) := by decide +kernel
theorem dX8_lit_12 : decode cX8_lit 12 = .ok (.dup, 1) := by decide +kernel
theorem dX8_lit_13 : decode cX8_lit 13 = .ok (.ldc 142, 2) := by decide +kernel
theorem dX8_lit_15 : decode cX8_lit 15 = .ok (.invokespecial 144, 3) := by decide +kernel
theorem dX8_lit_18 : decode cX8_lit 18 = .ok (.athrow, 1) := by decide +kernel
theorem dX8_lit_19 : decode cX8_lit 19 = .ok (.aload_n 0, 1) := by decide +kernel
theorem dX8_lit_20 : decode cX8_lit 20 = .ok (.getfield 19, 3) := by decide +kernel
theorem dX8_lit_23 : decode cX8_lit 23 = .ok (.getfield 121, 3) := by decide +kernel
theorem dX8_lit_26 : decode cX8_lit 26 = .ok (.aload_n 0, 1) := by decide +kernel
theorem dX8_lit_27 : decode cX8_lit 27 = .ok (.getfield 19, 3) := by decide +kernel
theorem dX8_lit_30 : decode cX8_lit 30 = .ok (.getfield 118, 3) := by decide +kernel
theorem dX8_lit_33 : decode cX8_lit 33 = .ok (.sipush 20000, 3) := by decide +kernel
theorem dX8_lit_36 : decode cX8_lit 36 = .ok (.invokestatic 227, 3) := by decide +kernel
theorem dX8_lit_39 : decode cX8_lit 39 = .ok (.ifCond .eq 6, 3) := by decide +kernel
theorem dX8_lit_42 : decode cX8_lit 42 = .ok (.bipush (-2), 2) := by decide +kernel
theorem dX8_lit_44 : decode cX8_lit 44 = .ok (.ireturn, 1) := by decide +kernel
theorem dX8_lit_45 : decode cX8_lit 45 = .ok (.aload_n 0, 1) := by decide +kernel
theorem dX8_lit_46 : decode cX8_lit 46 = .ok (.getfield 273, 3) := by decide +kernel
theorem dX8_lit_49 : decode cX8_lit 49 = .ok (.ifCond .ne 12, 3) := by decide +kernel
theorem dX8_lit_52 : decode cX8_lit 52 = .ok (.aload_n 0, 1) := by decide +kernel
theorem dX8_lit_53 : decode cX8_lit 53 = .ok (.invokevirtual 330, 3) := by decide +kernel
theorem dX8_lit_56 : decode cX8_lit 56 = .ok (.aload_n 0, 1) := by decide +kernel
theorem dX8_lit_57 : decode cX8_lit 57 = .ok (.iconst 1, 1) := by decide +kernel
theorem dX8_lit_58 : decode cX8_lit 58 = .ok (.putfield 273, 3) := by decide +kernel
theorem dX8_lit_61 : decode cX8_lit 61 = .ok (.iload_n 1, 1) := by decide +kernel
theorem dX8_lit_62 : decode cX8_lit 62 = .ok (.ifCond .ne 11, 3) := by decide +kernel
theorem dX8_lit_65 : decode cX8_lit 65 = .ok (.aload_n 0, 1) := by decide +kernel
theorem dX8_lit_66 : decode cX8_lit 66 = .ok (.getfield 72, 3) := by decide +kernel
theorem dX8_lit_69 : decode cX8_lit 69 = .ok (.getfield 333, 3) := by decide +kernel
theorem dX8_lit_72 : decode cX8_lit 72 = .ok (.ireturn, 1) := by decide +kernel
theorem dX8_lit_73 : decode cX8_lit 73 = .ok (.iload_n 1, 1) := by decide +kernel
theorem dX8_lit_74 : decode cX8_lit 74 = .ok (.iconst 1, 1) := by decide +kernel
theorem dX8_lit_75 : decode cX8_lit 75 = .ok (.if_icmp .ne 13, 3) := by decide +kernel
theorem dX8_lit_78 : decode cX8_lit 78 = .ok (.aload_n 0, 1) := by decide +kernel
theorem dX8_lit_79 : decode cX8_lit 79 = .ok (.getfield 72, 3) := by decide +kernel
theorem dX8_lit_82 : decode cX8_lit 82 = .ok (.getfield 336, 3) := by decide +kernel
theorem dX8_lit_85 : decode cX8_lit 85 = .ok (.goto 10, 3) := by decide +kernel
theorem dX8_lit_88 : decode cX8_lit 88 = .ok (.aload_n 0, 1) := by decide +kernel
theorem dX8_lit_89 : decode cX8_lit 89 = .ok (.getfield 72, 3) := by decide +kernel
theorem dX8_lit_92 : decode cX8_lit 92 = .ok (.getfield 339, 3) := by decide +kernel
theorem dX8_lit_95 : decode cX8_lit 95 = .ok (.ireturn, 1) := by decide +kernel
theorem dX8_game_0 : decode cX8_game 0 = .ok (.aload_n 0, 1) := by decide +kernel
theorem dX8_game_1 : decode cX8_game 1 = .ok (.getfield 19, 3) := by decide +kernel
theorem dX8_game_4 : decode cX8_game 4 = .ok (.getfield 118, 3) := by decide +kernel
theorem dX8_game_7 : decode cX8_game 7 = .ok (.istore_n 1, 1) := by decide +kernel
theorem dX8_game_8 : decode cX8_game 8 = .ok (.iload_n 1, 1) := by decide +kernel
theorem dX8_game_9 : decode cX8_game 9 = .ok (.bipush 12, 2) := by decide +kernel
theorem dX8_game_11 : decode cX8_game 11 = .ok (.if_icmp .le 6, 3) := by decide +kernel
theorem dX8_game_14 : decode cX8_game 14 = .ok (.bipush (-2), 2) := by decide +kernel
theorem dX8_game_16 : decode cX8_game 16 = .ok (.ireturn, 1) := by decide +kernel
theorem dX8_game_17 : decode cX8_game 17 = .ok (.aload_n 0, 1) := by decide +kernel
theorem dX8_game_18 : decode cX8_game 18 = .ok (.getfield 72, 3) := by decide +kernel
theorem dX8_game_21 : decode cX8_game 21 = .ok (.getfield 342, 3) := by decide +kernel
theorem dX8_game_24 : decode cX8_game 24 = .ok (.astore_n 2, 1) := by decide +kernel
theorem dX8_game_25 : decode cX8_game 25 = .ok (.aload_n 0, 1) := by decide +kernel
theorem dX8_game_26 : decode cX8_game 26 = .ok (.iconst 0, 1) := by decide +kernel
theorem dX8_game_27 : decode cX8_game 27 = .ok (.putfield 273, 3) := by decide +kernel
theorem dX8_game_30 : decode cX8_game 30 = .ok (.iconst 1, 1) := by decide +kernel
theorem dX8_game_31 : decode cX8_game 31 = .ok (.iload_n 1, 1) := by decide +kernel
theorem dX8_game_32 : decode cX8_game 32 = .ok (.ishl, 1) := by decide +kernel
theorem dX8_game_33 : decode cX8_game 33 = .ok (.iconst 1, 1) := by decide +kernel
theorem dX8_game_34 : decode cX8_game 34 = .ok (.isub, 1) := by decide +kernel
theorem dX8_game_35 : decode cX8_game 35 = .ok (.istore_n 3, 1) := by decide +kernel
theorem dX8_game_36 : decode cX8_game 36 = .ok (.aload_n 0, 1) := by decide +kernel
theorem dX8_game_37 : decode cX8_game 37 = .ok (.getfield 33, 3) := by decide +kernel
theorem dX8_game_40 : decode cX8_game 40 = .ok (.iconst 0, 1) := by decide +kernel
theorem dX8_game_41 : decode cX8_game 41 = .ok (.aload_n 0, 1) := by decide +kernel
theorem dX8_game_42 : decode cX8_game 42 = .ok (.getfield 83, 3) := by decide +kernel
theorem dX8_game_45 : decode cX8_game 45 = .ok (.iconst 0, 1) := by decide +kernel
theorem dX8_game_46 : decode cX8_game 46 = .ok (.bipush 36, 2) := by decide +kernel
theorem dX8_game_48 : decode cX8_game 48 = .ok (.invokestatic 248, 3) := by decide +kernel
theorem dX8_game_51 : decode cX8_game 51 = .ok (.iconst 0, 1) := by decide +kernel
theorem dX8_game_52 : decode cX8_game 52 = .ok (.istore 4, 2) := by decide +kernel
theorem dX8_game_54 : decode cX8_game 54 = .ok (.iload 4, 2) := by decide +kernel
theorem dX8_game_56 : decode cX8_game 56 = .ok (.iload_n 1, 1) := by decide +kernel
theorem dX8_game_57 : decode cX8_game 57 = .ok (.if_icmp .ge 23, 3) := by decide +kernel
theorem dX8_game_60 : decode cX8_game 60 = .ok (.aload_n 0, 1) := by decide +kernel
theorem dX8_game_61 : decode cX8_game 61 = .ok (.getfield 19, 3) := by decide +kernel
theorem dX8_game_64 : decode cX8_game 64 = .ok (.aload_n 0, 1) := by decide +kernel
theorem dX8_game_65 : decode cX8_game 65 = .ok (.getfield 83, 3) := by decide +kernel
theorem dX8_game_68 : decode cX8_game 68 = .ok (.iload 4, 2) := by decide +kernel
theorem dX8_game_70 : decode cX8_game 70 = .ok (.iconst 1, 1) := by decide +kernel
theorem dX8_game_71 : decode cX8_game 71 = .ok (.invokevirtual 182, 3) := by decide +kernel
theorem dX8_game_74 : decode cX8_game 74 = .ok (.iinc 4 1, 3) := by decide +kernel
theorem dX8_game_77 : decode cX8_game 77 = .ok (.goto (-23), 3) := by decide +kernel
theorem dX8_game_80 : decode cX8_game 80 = .ok (.iconst (-1), 1) := by decide +kernel
theorem dX8_game_81 : decode cX8_game 81 = .ok (.istore 4, 2) := by decide +kernel
theorem dX8_game_83 : decode cX8_game 83 = .ok (.iload_n 3, 1) := by decide +kernel
theorem dX8_game_84 : decode cX8_game 84 = .ok (.istore 5, 2) := by decide +kernel
theorem dX8_game_86 : decode cX8_game 86 = .ok (.iload 5, 2) := by decide +kernel
theorem dX8_game_88 : decode cX8_game 88 = .ok (.ifCond .lt 39, 3) := by decide +kernel
theorem dX8_game_91 : decode cX8_game 91 = .ok (.aload_n 0, 1) := by decide +kernel
theorem dX8_game_92 : decode cX8_game 92 = .ok (.iload 5, 2) := by decide +kernel
theorem dX8_game_94 : decode cX8_game 94 = .ok (.aload_n 2, 1) := by decide +kernel
theorem dX8_game_95 : decode cX8_game 95 = .ok (.invokevirtual 345, 3) := by decide +kernel
theorem dX8_game_98 : decode cX8_game 98 = .ok (.istore 4, 2) := by decide +kernel
theorem dX8_game_100 : decode cX8_game 100 = .ok (.aload_n 2, 1) := by decide +kernel
theorem dX8_game_101 : decode cX8_game 101 = .ok (.iload 5, 2) := by decide +kernel
theorem dX8_game_103 : decode cX8_game 103 = .ok (.iload 4, 2) := by decide +kernel
theorem dX8_game_105 : decode cX8_game 105 = .ok (.iconst (-1), 1) := by decide +kernel
theorem dX8_game_106 : decode cX8_game 106 = .ok (.if_icmp .ne 7, 3) := by decide +kernel
theorem dX8_game_109 : decode cX8_game 109 = .ok (.iconst 0, 1) := by decide +kernel
theorem dX8_game_110 : decode cX8_game 110 = .ok (.goto 4, 3) := by decide +kernel
theorem dX8_game_113 : decode cX8_game 113 = .ok (.iconst 1, 1) := by decide +kernel
theorem dX8_game_114 : decode cX8_game 114 = .ok (.iastore, 1) := by decide +kernel
theorem dX8_game_115 : decode cX8_game 115 = .ok (.aload_n 0, 1) := by decide +kernel
theorem dX8_game_116 : decode cX8_game 116 = .ok (.iload 5, 2) := by decide +kernel
theorem dX8_game_118 : decode cX8_game 118 = .ok (.invokevirtual 349, 3) := by decide +kernel
theorem dX8_game_121 : decode cX8_game 121 = .ok (.iinc 5 (-1), 3) := by decide +kernel
theorem dX8_game_124 : decode cX8_game 124 = .ok (.goto (-38), 3) := by decide +kernel
theorem dX8_game_127 : decode cX8_game 127 = .ok (.iload 4, 2) := by decide +kernel
theorem dX8_game_129 : decode cX8_game 129 = .ok (.ireturn, 1) := by decide +kernel
theorem dX8_pulse_0 : decode cX8_pulse 0 = .ok (.iload_n 1, 1) := by decide +kernel
theorem dX8_pulse_1 : decode cX8_pulse 1 = .ok (.ifCond .lt 9, 3) := by decide +kernel
theorem dX8_pulse_4 : decode cX8_pulse 4 = .ok (.iload_n 1, 1) := by decide +kernel
theorem dX8_pulse_5 : decode cX8_pulse 5 = .ok (.bipush 100, 2) := by decide +kernel
theorem dX8_pulse_7 : decode cX8_pulse 7 = .ok (.if_icmp .le 5, 3) := by decide +kernel
theorem dX8_pulse_10 : decode cX8_pulse 10 = .ok (.iconst 0, 1) := by decide +kernel
theorem dX8_pulse_11 : decode cX8_pulse 11 = .ok (.ireturn, 1) := by decide +kernel
theorem dX8_pulse_12 : decode cX8_pulse 12 = .ok (.iconst 0, 1) := by decide +kernel
theorem dX8_pulse_13 : decode cX8_pulse 13 = .ok (.istore_n 2, 1) := by decide +kernel
theorem dX8_pulse_14 : decode cX8_pulse 14 = .ok (.iload_n 2, 1) := by decide +kernel
theorem dX8_pulse_15 : decode cX8_pulse 15 = .ok (.iload_n 1, 1) := by decide +kernel
theorem dX8_pulse_16 : decode cX8_pulse 16 = .ok (.if_icmp .ge 24, 3) := by decide +kernel
theorem dX8_pulse_19 : decode cX8_pulse 19 = .ok (.aload_n 0, 1) := by decide +kernel
theorem dX8_pulse_20 : decode cX8_pulse 20 = .ok (.getfield 19, 3) := by decide +kernel
theorem dX8_pulse_23 : decode cX8_pulse 23 = .ok (.aload_n 0, 1) := by decide +kernel
theorem dX8_pulse_24 : decode cX8_pulse 24 = .ok (.getfield 33, 3) := by decide +kernel
theorem dX8_pulse_27 : decode cX8_pulse 27 = .ok (.aload_n 0, 1) := by decide +kernel
theorem dX8_pulse_28 : decode cX8_pulse 28 = .ok (.getfield 83, 3) := by decide +kernel
theorem dX8_pulse_31 : decode cX8_pulse 31 = .ok (.invokevirtual 352, 3) := by decide +kernel
theorem dX8_pulse_34 : decode cX8_pulse 34 = .ok (.iinc 2 1, 3) := by decide +kernel
theorem dX8_pulse_37 : decode cX8_pulse 37 = .ok (.goto (-23), 3) := by decide +kernel
theorem dX8_pulse_40 : decode cX8_pulse 40 = .ok (.aload_n 0, 1) := by decide +kernel
theorem dX8_pulse_41 : decode cX8_pulse 41 = .ok (.iconst 0, 1) := by decide +kernel
theorem dX8_pulse_42 : decode cX8_pulse 42 = .ok (.invokevirtual 158, 3) := by decide +kernel
theorem dX8_pulse_45 : decode cX8_pulse 45 = .ok (.iconst 1, 1) := by decide +kernel
theorem dX8_pulse_46 : decode cX8_pulse 46 = .ok (.ireturn, 1) := by decide +kernel
theorem dX8_round_0 : decode cX8_round 0 = .ok (.iload_n 1, 1) := by decide +kernel
theorem dX8_round_1 : decode cX8_round 1 = .ok (.ifCond .eq 18, 3) := by decide +kernel
theorem dX8_round_4 : decode cX8_round 4 = .ok (.iload_n 1, 1) := by decide +kernel
theorem dX8_round_5 : decode cX8_round 5 = .ok (.iconst 1, 1) := by decide +kernel
theorem dX8_round_6 : decode cX8_round 6 = .ok (.if_icmp .eq 13, 3) := by decide +kernel
theorem dX8_round_9 : decode cX8_round 9 = .ok (.new 140, 3) := by decide +kernel
theorem dX8_round_12 : decode cX8_round 12 = .ok (.dup, 1) := by decide +kernel
theorem dX8_round_13 : decode cX8_round 13 = .ok (.ldc 142, 2) := by decide +kernel
theorem dX8_round_15 : decode cX8_round 15 = .ok (.invokespecial 144, 3) := by decide +kernel
theorem dX8_round_18 : decode cX8_round 18 = .ok (.athrow, 1) := by decide +kernel
theorem dX8_round_19 : decode cX8_round 19 = .ok (.aload_n 0, 1) := by decide +kernel
theorem dX8_round_20 : decode cX8_round 20 = .ok (.getfield 355, 3) := by decide +kernel
theorem dX8_round_23 : decode cX8_round 23 = .ok (.ifCond .ne 23, 3) := by decide +kernel
theorem dX8_round_26 : decode cX8_round 26 = .ok (.aload_n 0, 1) := by decide +kernel
theorem dX8_round_27 : decode cX8_round 27 = .ok (.getfield 79, 3) := by decide +kernel
theorem dX8_round_30 : decode cX8_round 30 = .ok (.aload_n 0, 1) := by decide +kernel
theorem dX8_round_31 : decode cX8_round 31 = .ok (.getfield 19, 3) := by decide +kernel
theorem dX8_round_34 : decode cX8_round 34 = .ok (.aload_n 0, 1) := by decide +kernel
theorem dX8_round_35 : decode cX8_round 35 = .ok (.getfield 33, 3) := by decide +kernel
theorem dX8_round_38 : decode cX8_round 38 = .ok (.invokevirtual 358, 3) := by decide +kernel
theorem dX8_round_41 : decode cX8_round 41 = .ok (.aload_n 0, 1) := by decide +kernel
theorem dX8_round_42 : decode cX8_round 42 = .ok (.iconst 1, 1) := by decide +kernel
theorem dX8_round_43 : decode cX8_round 43 = .ok (.putfield 355, 3) := by decide +kernel
theorem dX8_round_46 : decode cX8_round 46 = .ok (.iload_n 1, 1) := by decide +kernel
theorem dX8_round_47 : decode cX8_round 47 = .ok (.ifCond .ne 13, 3) := by decide +kernel
theorem dX8_round_50 : decode cX8_round 50 = .ok (.aload_n 0, 1) := by decide +kernel
theorem dX8_round_51 : decode cX8_round 51 = .ok (.getfield 79, 3) := by decide +kernel
theorem dX8_round_54 : decode cX8_round 54 = .ok (.getfield 362, 3) := by decide +kernel
theorem dX8_round_57 : decode cX8_round 57 = .ok (.goto 10, 3) := by decide +kernel
theorem dX8_round_60 : decode cX8_round 60 = .ok (.aload_n 0, 1) := by decide +kernel
theorem dX8_round_61 : decode cX8_round 61 = .ok (.getfield 79, 3) := by decide +kernel
theorem dX8_round_64 : decode cX8_round 64 = .ok (.getfield 365, 3) := by decide +kernel
theorem dX8_round_67 : decode cX8_round 67 = .ok (.ireturn, 1) := by decide +kernel
theorem dX8_twin_0 : decode cX8_twin 0 = .ok (.aload_n 0, 1) := by decide +kernel
theorem dX8_twin_1 : decode cX8_twin 1 = .ok (.iload_n 1, 1) := by decide +kernel
theorem dX8_twin_2 : decode cX8_twin 2 = .ok (.invokevirtual 145, 3) := by decide +kernel
theorem dX8_twin_5 : decode cX8_twin 5 = .ok (.iconst 0, 1) := by decide +kernel
theorem dX8_twin_6 : decode cX8_twin 6 = .ok (.istore_n 2, 1) := by decide +kernel
theorem dX8_twin_7 : decode cX8_twin 7 = .ok (.iload_n 2, 1) := by decide +kernel
theorem dX8_twin_8 : decode cX8_twin 8 = .ok (.iload_n 1, 1) := by decide +kernel
theorem dX8_twin_9 : decode cX8_twin 9 = .ok (.if_icmp .ge 23, 3) := by decide +kernel
theorem dX8_twin_12 : decode cX8_twin 12 = .ok (.aload_n 0, 1) := by decide +kernel
theorem dX8_twin_13 : decode cX8_twin 13 = .ok (.getfield 19, 3) := by decide +kernel
theorem dX8_twin_16 : decode cX8_twin 16 = .ok (.iload_n 2, 1) := by decide +kernel
theorem dX8_twin_17 : decode cX8_twin 17 = .ok (.iload_n 1, 1) := by decide +kernel
theorem dX8_twin_18 : decode cX8_twin 18 = .ok (.invokevirtual 368, 3) := by decide +kernel
theorem dX8_twin_21 : decode cX8_twin 21 = .ok (.ifCond .eq 5, 3) := by decide +kernel
theorem dX8_twin_24 : decode cX8_twin 24 = .ok (.iload_n 2, 1) := by decide +kernel
theorem dX8_twin_25 : decode cX8_twin 25 = .ok (.ireturn, 1) := by decide +kernel
theorem dX8_twin_26 : decode cX8_twin 26 = .ok (.iinc 2 1, 3) := by decide +kernel
theorem dX8_twin_29 : decode cX8_twin 29 = .ok (.goto (-22), 3) := by decide +kernel
theorem dX8_twin_32 : decode cX8_twin 32 = .ok (.iload_n 1, 1) := by decide +kernel
theorem dX8_twin_33 : decode cX8_twin 33 = .ok (.ireturn, 1) := by decide +kernel
theorem dX8_keep_0 : decode cX8_keep 0 = .ok (.iload_n 1, 1) := by decide +kernel
theorem dX8_keep_1 : decode cX8_keep 1 = .ok (.ifCond .lt 8, 3) := by decide +kernel
theorem dX8_keep_4 : decode cX8_keep 4 = .ok (.iload_n 1, 1) := by decide +kernel
theorem dX8_keep_5 : decode cX8_keep 5 = .ok (.iconst 4, 1) := by decide +kernel
theorem dX8_keep_6 : decode cX8_keep 6 = .ok (.if_icmp .lt 5, 3) := by decide +kernel
theorem dX8_keep_9 : decode cX8_keep 9 = .ok (.iconst 0, 1) := by decide +kernel
theorem dX8_keep_10 : decode cX8_keep 10 = .ok (.ireturn, 1) := by decide +kernel
theorem dX8_keep_11 : decode cX8_keep 11 = .ok (.aload_n 0, 1) := by decide +kernel
theorem dX8_keep_12 : decode cX8_keep 12 = .ok (.getfield 33, 3) := by decide +kernel
theorem dX8_keep_15 : decode cX8_keep 15 = .ok (.iconst 0, 1) := by decide +kernel
theorem dX8_keep_16 : decode cX8_keep 16 = .ok (.aload_n 0, 1) := by decide +kernel
theorem dX8_keep_17 : decode cX8_keep 17 = .ok (.getfield 49, 3) := by decide +kernel
theorem dX8_keep_20 : decode cX8_keep 20 = .ok (.iload_n 1, 1) := by decide +kernel
theorem dX8_keep_21 : decode cX8_keep 21 = .ok (.aaload, 1) := by decide +kernel
theorem dX8_keep_22 : decode cX8_keep 22 = .ok (.iconst 0, 1) := by decide +kernel
theorem dX8_keep_23 : decode cX8_keep 23 = .ok (.bipush 36, 2) := by decide +kernel
theorem dX8_keep_25 : decode cX8_keep 25 = .ok (.invokestatic 248, 3) := by decide +kernel
theorem dX8_keep_28 : decode cX8_keep 28 = .ok (.aload_n 0, 1) := by decide +kernel
theorem dX8_keep_29 : decode cX8_keep 29 = .ok (.getfield 52, 3) := by decide +kernel
theorem dX8_keep_32 : decode cX8_keep 32 = .ok (.iload_n 1, 1) := by decide +kernel
theorem dX8_keep_33 : decode cX8_keep 33 = .ok (.iconst 1, 1) := by decide +kernel
theorem dX8_keep_34 : decode cX8_keep 34 = .ok (.bastore, 1) := by decide +kernel
theorem dX8_keep_35 : decode cX8_keep 35 = .ok (.iconst 1, 1) := by decide +kernel
theorem dX8_keep_36 : decode cX8_keep 36 = .ok (.ireturn, 1) := by decide +kernel
theorem dX8_take_0 : decode cX8_take 0 = .ok (.iload_n 2, 1) := by decide +kernel
theorem dX8_take_1 : decode cX8_take 1 = .ok (.invokestatic 151, 3) := by decide +kernel
theorem dX8_take_4 : decode cX8_take 4 = .ok (.iload_n 1, 1) := by decide +kernel
theorem dX8_take_5 : decode cX8_take 5 = .ok (.ifCond .lt 17, 3) := by decide +kernel
theorem dX8_take_8 : decode cX8_take 8 = .ok (.iload_n 1, 1) := by decide +kernel
theorem dX8_take_9 : decode cX8_take 9 = .ok (.iconst 4, 1) := by decide +kernel
theorem dX8_take_10 : decode cX8_take 10 = .ok (.if_icmp .ge 12, 3) := by decide +kernel
theorem dX8_take_13 : decode cX8_take 13 = .ok (.aload_n 0, 1) := by decide +kernel
theorem dX8_take_14 : decode cX8_take 14 = .ok (.getfield 52, 3) := by decide +kernel
theorem dX8_take_17 : decode cX8_take 17 = .ok (.iload_n 1, 1) := by decide +kernel
theorem dX8_take_18 : decode cX8_take 18 = .ok (.baload, 1) := by decide +kernel
theorem dX8_take_19 : decode cX8_take 19 = .ok (.ifCond .ne 5, 3) := by decide +kernel
theorem dX8_take_22 : decode cX8_take 22 = .ok (.iconst 0, 1) := by decide +kernel
theorem dX8_take_23 : decode cX8_take 23 = .ok (.ireturn, 1) := by decide +kernel
theorem dX8_take_24 : decode cX8_take 24 = .ok (.aload_n 0, 1) := by decide +kernel
theorem dX8_take_25 : decode cX8_take 25 = .ok (.getfield 49, 3) := by decide +kernel
theorem dX8_take_28 : decode cX8_take 28 = .ok (.iload_n 1, 1) := by decide +kernel
theorem dX8_take_29 : decode cX8_take 29 = .ok (.aaload, 1) := by decide +kernel
theorem dX8_take_30 : decode cX8_take 30 = .ok (.iconst 0, 1) := by decide +kernel
theorem dX8_take_31 : decode cX8_take 31 = .ok (.aload_n 0, 1) := by decide +kernel
theorem dX8_take_32 : decode cX8_take 32 = .ok (.iload_n 2, 1) := by decide +kernel
theorem dX8_take_33 : decode cX8_take 33 = .ok (.invokevirtual 154, 3) := by decide +kernel
theorem dX8_take_36 : decode cX8_take 36 = .ok (.iconst 0, 1) := by decide +kernel
theorem dX8_take_37 : decode cX8_take 37 = .ok (.bipush 36, 2) := by decide +kernel
theorem dX8_take_39 : decode cX8_take 39 = .ok (.invokestatic 248, 3) := by decide +kernel
theorem dX8_take_42 : decode cX8_take 42 = .ok (.aload_n 0, 1) := by decide +kernel
theorem dX8_take_43 : decode cX8_take 43 = .ok (.iload_n 2, 1) := by decide +kernel
theorem dX8_take_44 : decode cX8_take 44 = .ok (.invokevirtual 158, 3) := by decide +kernel
theorem dX8_take_47 : decode cX8_take 47 = .ok (.iconst 1, 1) := by decide +kernel
theorem dX8_take_48 : decode cX8_take 48 = .ok (.ireturn, 1) := by decide +kernel
theorem dX8_requireLamp_0 : decode cX8_requireLamp 0 = .ok (.iload_n 1, 1) := by decide +kernel
theorem dX8_requireLamp_1 : decode cX8_requireLamp 1 = .ok (.ifCond .lt 14, 3) := by decide +kernel
theorem dX8_requireLamp_4 : decode cX8_requireLamp 4 = .ok (.iload_n 1, 1) := by decide +kernel
theorem dX8_requireLamp_5 : decode cX8_requireLamp 5 = .ok (.aload_n 0, 1) := by decide +kernel
theorem dX8_requireLamp_6 : decode cX8_requireLamp 6 = .ok (.getfield 19, 3) := by decide +kernel
theorem dX8_requireLamp_9 : decode cX8_requireLamp 9 = .ok (.getfield 118, 3) := by decide +kernel
theorem dX8_requireLamp_12 : decode cX8_requireLamp 12 = .ok (.if_icmp .lt 14, 3) := by decide +kernel
theorem dX8_requireLamp_15 : decode cX8_requireLamp 15 = .ok (.new 140, 3) := by decide +kernel
theorem dX8_requireLamp_18 : decode cX8_requireLamp 18 = .ok (.dup, 1) := by decide +kernel
theorem dX8_requireLamp_19 : decode cX8_requireLamp 19 = .ok (.ldc_w 372, 3) := by decide +kernel
theorem dX8_requireLamp_22 : decode cX8_requireLamp 22 = .ok (.invokespecial 144, 3) := by decide +kernel
theorem dX8_requireLamp_25 : decode cX8_requireLamp 25 = .ok (.athrow, 1) := by decide +kernel
theorem dX8_requireLamp_26 : decode cX8_requireLamp 26 = .ok (.return_, 1) := by decide +kernel
theorem dX8_requireStateOrWish_0 : decode cX8_requireStateOrWish 0 = .ok (.iload_n 0, 1) := by decide +kernel
theorem dX8_requireStateOrWish_1 : decode cX8_requireStateOrWish 1 = .ok (.ifCond .eq 19, 3) := by decide +kernel
theorem dX8_requireStateOrWish_4 : decode cX8_requireStateOrWish 4 = .ok (.iload_n 0, 1) := by decide +kernel
theorem dX8_requireStateOrWish_5 : decode cX8_requireStateOrWish 5 = .ok (.iconst 1, 1) := by decide +kernel
theorem dX8_requireStateOrWish_6 : decode cX8_requireStateOrWish 6 = .ok (.if_icmp .eq 14, 3) := by decide +kernel
theorem dX8_requireStateOrWish_9 : decode cX8_requireStateOrWish 9 = .ok (.new 140, 3) := by decide +kernel
theorem dX8_requireStateOrWish_12 : decode cX8_requireStateOrWish 12 = .ok (.dup, 1) := by decide +kernel
theorem dX8_requireStateOrWish_13 : decode cX8_requireStateOrWish 13 = .ok (.ldc_w 374, 3) := by decide +kernel
theorem dX8_requireStateOrWish_16 : decode cX8_requireStateOrWish 16 = .ok (.invokespecial 144, 3) := by decide +kernel
theorem dX8_requireStateOrWish_19 : decode cX8_requireStateOrWish 19 = .ok (.athrow, 1) := by decide +kernel
theorem dX8_requireStateOrWish_20 : decode cX8_requireStateOrWish 20 = .ok (.return_, 1) := by decide +kernel
theorem dX8_requireTied_0 : decode cX8_requireTied 0 = .ok (.iload_n 1, 1) := by decide +kernel
theorem dX8_requireTied_1 : decode cX8_requireTied 1 = .ok (.ifCond .lt 11, 3) := by decide +kernel
theorem dX8_requireTied_4 : decode cX8_requireTied 4 = .ok (.iload_n 1, 1) := by decide +kernel
theorem dX8_requireTied_5 : decode cX8_requireTied 5 = .ok (.aload_n 0, 1) := by decide +kernel
theorem dX8_requireTied_6 : decode cX8_requireTied 6 = .ok (.getfield 198, 3) := by decide +kernel
theorem dX8_requireTied_9 : decode cX8_requireTied 9 = .ok (.if_icmp .lt 14, 3) := by decide +kernel
theorem dX8_requireTied_12 : decode cX8_requireTied 12 = .ok (.new 140, 3) := by decide +kernel
theorem dX8_requireTied_15 : decode cX8_requireTied 15 = .ok (.dup, 1) := by decide +kernel
theorem dX8_requireTied_16 : decode cX8_requireTied 16 = .ok (.ldc_w 376, 3) := by decide +kernel
theorem dX8_requireTied_19 : decode cX8_requireTied 19 = .ok (.invokespecial 144, 3) := by decide +kernel
theorem dX8_requireTied_22 : decode cX8_requireTied 22 = .ok (.athrow, 1) := by decide +kernel
theorem dX8_requireTied_23 : decode cX8_requireTied 23 = .ok (.return_, 1) := by decide +kernel
theorem dX8_row_0 : decode cX8_row 0 = .ok (.iload_n 1, 1) := by decide +kernel
theorem dX8_row_1 : decode cX8_row 1 = .ok (.ifCond .ne 10, 3) := by decide +kernel
theorem dX8_row_4 : decode cX8_row 4 = .ok (.aload_n 0, 1) := by decide +kernel
theorem dX8_row_5 : decode cX8_row 5 = .ok (.getfield 33, 3) := by decide +kernel
theorem dX8_row_8 : decode cX8_row 8 = .ok (.goto 7, 3) := by decide +kernel
theorem dX8_row_11 : decode cX8_row 11 = .ok (.aload_n 0, 1) := by decide +kernel
theorem dX8_row_12 : decode cX8_row 12 = .ok (.getfield 37, 3) := by decide +kernel
theorem dX8_row_15 : decode cX8_row 15 = .ok (.areturn, 1) := by decide +kernel
theorem dX8_told_0 : decode cX8_told 0 = .ok (.iload_n 1, 1) := by decide +kernel
theorem dX8_told_1 : decode cX8_told 1 = .ok (.ifCond .ne 10, 3) := by decide +kernel
theorem dX8_told_4 : decode cX8_told 4 = .ok (.aload_n 0, 1) := by decide +kernel
theorem dX8_told_5 : decode cX8_told 5 = .ok (.getfield 43, 3) := by decide +kernel
theorem dX8_told_8 : decode cX8_told 8 = .ok (.invokevirtual 378, 3) := by decide +kernel
theorem dX8_told_11 : decode cX8_told 11 = .ok (.aload_n 0, 1) := by decide +kernel
theorem dX8_told_12 : decode cX8_told 12 = .ok (.invokevirtual 172, 3) := by decide +kernel
theorem dX8_told_15 : decode cX8_told 15 = .ok (.return_, 1) := by decide +kernel
theorem dX8_forgetWays_0 : decode cX8_forgetWays 0 = .ok (.aload_n 0, 1) := by decide +kernel
theorem dX8_forgetWays_1 : decode cX8_forgetWays 1 = .ok (.iconst 0, 1) := by decide +kernel
theorem dX8_forgetWays_2 : decode cX8_forgetWays 2 = .ok (.putfield 273, 3) := by decide +kernel
theorem dX8_forgetWays_5 : decode cX8_forgetWays 5 = .ok (.aload_n 0, 1) := by decide +kernel
theorem dX8_forgetWays_6 : decode cX8_forgetWays 6 = .ok (.iconst 0, 1) := by decide +kernel
theorem dX8_forgetWays_7 : decode cX8_forgetWays 7 = .ok (.putfield 355, 3) := by decide +kernel
theorem dX8_forgetWays_10 : decode cX8_forgetWays 10 = .ok (.return_, 1) := by decide +kernel
theorem dX8_moveIn_0 : decode cX8_moveIn 0 = .ok (.aload_n 0, 1) := by decide +kernel
theorem dX8_moveIn_1 : decode cX8_moveIn 1 = .ok (.getfield 19, 3) := by decide +kernel
theorem dX8_moveIn_4 : decode cX8_moveIn 4 = .ok (.astore_n 1, 1) := by decide +kernel
theorem dX8_moveIn_5 : decode cX8_moveIn 5 = .ok (.aload_n 0, 1) := by decide +kernel
theorem dX8_moveIn_6 : decode cX8_moveIn 6 = .ok (.aload_n 0, 1) := by decide +kernel
theorem dX8_moveIn_7 : decode cX8_moveIn 7 = .ok (.getfield 23, 3) := by decide +kernel
theorem dX8_moveIn_10 : decode cX8_moveIn 10 = .ok (.putfield 19, 3) := by decide +kernel
theorem dX8_moveIn_13 : decode cX8_moveIn 13 = .ok (.aload_n 0, 1) := by decide +kernel
theorem dX8_moveIn_14 : decode cX8_moveIn 14 = .ok (.aload_n 1, 1) := by decide +kernel
theorem dX8_moveIn_15 : decode cX8_moveIn 15 = .ok (.putfield 23, 3) := by decide +kernel
theorem dX8_moveIn_18 : decode cX8_moveIn 18 = .ok (.aload_n 0, 1) := by decide +kernel
theorem dX8_moveIn_19 : decode cX8_moveIn 19 = .ok (.getfield 29, 3) := by decide +kernel
theorem dX8_moveIn_22 : decode cX8_moveIn 22 = .ok (.invokevirtual 169, 3) := by decide +kernel
theorem dX8_moveIn_25 : decode cX8_moveIn 25 = .ok (.aload_n 0, 1) := by decide +kernel
theorem dX8_moveIn_26 : decode cX8_moveIn 26 = .ok (.getfield 33, 3) := by decide +kernel
theorem dX8_moveIn_29 : decode cX8_moveIn 29 = .ok (.iconst 0, 1) := by decide +kernel
theorem dX8_moveIn_30 : decode cX8_moveIn 30 = .ok (.invokestatic 282, 3) := by decide +kernel
theorem dX8_moveIn_33 : decode cX8_moveIn 33 = .ok (.aload_n 0, 1) := by decide +kernel
theorem dX8_moveIn_34 : decode cX8_moveIn 34 = .ok (.getfield 37, 3) := by decide +kernel
theorem dX8_moveIn_37 : decode cX8_moveIn 37 = .ok (.iconst 0, 1) := by decide +kernel
theorem dX8_moveIn_38 : decode cX8_moveIn 38 = .ok (.invokestatic 282, 3) := by decide +kernel
theorem dX8_moveIn_41 : decode cX8_moveIn 41 = .ok (.aload_n 0, 1) := by decide +kernel
theorem dX8_moveIn_42 : decode cX8_moveIn 42 = .ok (.getfield 43, 3) := by decide +kernel
theorem dX8_moveIn_45 : decode cX8_moveIn 45 = .ok (.invokevirtual 378, 3) := by decide +kernel
theorem dX8_moveIn_48 : decode cX8_moveIn 48 = .ok (.iconst 0, 1) := by decide +kernel
theorem dX8_moveIn_49 : decode cX8_moveIn 49 = .ok (.istore_n 2, 1) := by decide +kernel
theorem dX8_moveIn_50 : decode cX8_moveIn 50 = .ok (.iload_n 2, 1) := by decide +kernel
theorem dX8_moveIn_51 : decode cX8_moveIn 51 = .ok (.iconst 4, 1) := by decide +kernel
theorem dX8_moveIn_52 : decode cX8_moveIn 52 = .ok (.if_icmp .ge 16, 3) := by decide +kernel
theorem dX8_moveIn_55 : decode cX8_moveIn 55 = .ok (.aload_n 0, 1) := by decide +kernel
theorem dX8_moveIn_56 : decode cX8_moveIn 56 = .ok (.getfield 52, 3) := by decide +kernel
theorem dX8_moveIn_59 : decode cX8_moveIn 59 = .ok (.iload_n 2, 1) := by decide +kernel
theorem dX8_moveIn_60 : decode cX8_moveIn 60 = .ok (.iconst 0, 1) := by decide +kernel
theorem dX8_moveIn_61 : decode cX8_moveIn 61 = .ok (.bastore, 1) := by decide +kernel
theorem dX8_moveIn_62 : decode cX8_moveIn 62 = .ok (.iinc 2 1, 3) := by decide +kernel
theorem dX8_moveIn_65 : decode cX8_moveIn 65 = .ok (.goto (-15), 3) := by decide +kernel
theorem dX8_moveIn_68 : decode cX8_moveIn 68 = .ok (.aload_n 0, 1) := by decide +kernel
theorem dX8_moveIn_69 : decode cX8_moveIn 69 = .ok (.iconst 0, 1) := by decide +kernel
theorem dX8_moveIn_70 : decode cX8_moveIn 70 = .ok (.putfield 254, 3) := by decide +kernel
theorem dX8_moveIn_73 : decode cX8_moveIn 73 = .ok (.aload_n 0, 1) := by decide +kernel
theorem dX8_moveIn_74 : decode cX8_moveIn 74 = .ok (.iconst 0, 1) := by decide +kernel
theorem dX8_moveIn_75 : decode cX8_moveIn 75 = .ok (.putfield 298, 3) := by decide +kernel
theorem dX8_moveIn_78 : decode cX8_moveIn 78 = .ok (.aload_n 0, 1) := by decide +kernel
theorem dX8_moveIn_79 : decode cX8_moveIn 79 = .ok (.invokevirtual 172, 3) := by decide +kernel
theorem dX8_moveIn_82 : decode cX8_moveIn 82 = .ok (.return_, 1) := by decide +kernel
theorem dX8_pressAndLog_0 : decode cX8_pressAndLog 0 = .ok (.aload_n 0, 1) := by decide +kernel
theorem dX8_pressAndLog_1 : decode cX8_pressAndLog 1 = .ok (.getfield 19, 3) := by decide +kernel
theorem dX8_pressAndLog_4 : decode cX8_pressAndLog 4 = .ok (.aload_n 0, 1) := by decide +kernel
theorem dX8_pressAndLog_5 : decode cX8_pressAndLog 5 = .ok (.getfield 33, 3) := by decide +kernel
theorem dX8_pressAndLog_8 : decode cX8_pressAndLog 8 = .ok (.iload_n 1, 1) := by decide +kernel
theorem dX8_pressAndLog_9 : decode cX8_pressAndLog 9 = .ok (.iload_n 2, 1) := by decide +kernel
theorem dX8_pressAndLog_10 : decode cX8_pressAndLog 10 = .ok (.invokevirtual 182, 3) := by decide +kernel
theorem dX8_pressAndLog_13 : decode cX8_pressAndLog 13 = .ok (.iconst 0, 1) := by decide +kernel
theorem dX8_pressAndLog_14 : decode cX8_pressAndLog 14 = .ok (.istore_n 3, 1) := by decide +kernel
theorem dX8_pressAndLog_15 : decode cX8_pressAndLog 15 = .ok (.iload_n 3, 1) := by decide +kernel
theorem dX8_pressAndLog_16 : decode cX8_pressAndLog 16 = .ok (.iload_n 2, 1) := by decide +kernel
theorem dX8_pressAndLog_17 : decode cX8_pressAndLog 17 = .ok (.if_icmp .ge 17, 3) := by decide +kernel
theorem dX8_pressAndLog_20 : decode cX8_pressAndLog 20 = .ok (.aload_n 0, 1) := by decide +kernel
theorem dX8_pressAndLog_21 : decode cX8_pressAndLog 21 = .ok (.getfield 43, 3) := by decide +kernel
theorem dX8_pressAndLog_24 : decode cX8_pressAndLog 24 = .ok (.iload_n 1, 1) := by decide +kernel
theorem dX8_pressAndLog_25 : decode cX8_pressAndLog 25 = .ok (.invokevirtual 381, 3) := by decide +kernel
theorem dX8_pressAndLog_28 : decode cX8_pressAndLog 28 = .ok (.iinc 3 1, 3) := by decide +kernel
theorem dX8_pressAndLog_31 : decode cX8_pressAndLog 31 = .ok (.goto (-16), 3) := by decide +kernel
theorem dX8_pressAndLog_34 : decode cX8_pressAndLog 34 = .ok (.aload_n 0, 1) := by decide +kernel
theorem dX8_pressAndLog_35 : decode cX8_pressAndLog 35 = .ok (.invokevirtual 172, 3) := by decide +kernel
theorem dX8_pressAndLog_38 : decode cX8_pressAndLog 38 = .ok (.return_, 1) := by decide +kernel
theorem dX8_takeDifference_0 : decode cX8_takeDifference 0 = .ok (.aload_n 0, 1) := by decide +kernel
theorem dX8_takeDifference_1 : decode cX8_takeDifference 1 = .ok (.getfield 33, 3) := by decide +kernel
theorem dX8_takeDifference_4 : decode cX8_takeDifference 4 = .ok (.iconst 0, 1) := by decide +kernel
theorem dX8_takeDifference_5 : decode cX8_takeDifference 5 = .ok (.aload_n 0, 1) := by decide +kernel
theorem dX8_takeDifference_6 : decode cX8_takeDifference 6 = .ok (.getfield 83, 3) := by decide +kernel
theorem dX8_takeDifference_9 : decode cX8_takeDifference 9 = .ok (.iconst 0, 1) := by decide +kernel
theorem dX8_takeDifference_10 : decode cX8_takeDifference 10 = .ok (.bipush 36, 2) := by decide +kernel
theorem dX8_takeDifference_12 : decode cX8_takeDifference 12 = .ok (.invokestatic 248, 3) := by decide +kernel
theorem dX8_takeDifference_15 : decode cX8_takeDifference 15 = .ok (.aload_n 0, 1) := by decide +kernel
theorem dX8_takeDifference_16 : decode cX8_takeDifference 16 = .ok (.aload_n 0, 1) := by decide +kernel
theorem dX8_takeDifference_17 : decode cX8_takeDifference 17 = .ok (.getfield 83, 3) := by decide +kernel
theorem dX8_takeDifference_20 : decode cX8_takeDifference 20 = .ok (.invokevirtual 324, 3) := by decide +kernel
theorem dX8_takeDifference_23 : decode cX8_takeDifference 23 = .ok (.return_, 1) := by decide +kernel
theorem dX8_subtractFromWish_0 : decode cX8_subtractFromWish 0 = .ok (.iconst 0, 1) := by decide +kernel
theorem dX8_subtractFromWish_1 : decode cX8_subtractFromWish 1 = .ok (.istore_n 2, 1) := by decide +kernel
theorem dX8_subtractFromWish_2 : decode cX8_subtractFromWish 2 = .ok (.iload_n 2, 1) := by decide +kernel
theorem dX8_subtractFromWish_3 : decode cX8_subtractFromWish 3 = .ok (.aload_n 0, 1) := by decide +kernel
theorem dX8_subtractFromWish_4 : decode cX8_subtractFromWish 4 = .ok (.getfield 19, 3) := by decide +kernel
theorem dX8_subtractFromWish_7 : decode cX8_subtractFromWish 7 = .ok (.getfield 118, 3) := by decide +kernel
theorem dX8_subtractFromWish_10 : decode cX8_subtractFromWish 10 = .ok (.if_icmp .ge 32, 3) := by decide +kernel
theorem dX8_subtractFromWish_13 : decode cX8_subtractFromWish 13 = .ok (.aload_n 1, 1) := by decide +kernel
theorem dX8_subtractFromWish_14 : decode cX8_subtractFromWish 14 = .ok (.iload_n 2, 1) := by decide +kernel
theorem dX8_subtractFromWish_15 : decode cX8_subtractFromWish 15 = .ok (.aload_n 0, 1) := by decide +kernel
theorem dX8_subtractFromWish_16 : decode cX8_subtractFromWish 16 = .ok (.getfield 37, 3) := by decide +kernel
theorem dX8_subtractFromWish_19 : decode cX8_subtractFromWish 19 = .ok (.iload_n 2, 1) := by decide +kernel
theorem dX8_subtractFromWish_20 : decode cX8_subtractFromWish 20 = .ok (.iaload, 1) := by decide +kernel
theorem dX8_subtractFromWish_21 : decode cX8_subtractFromWish 21 = .ok (.aload_n 1, 1) := by decide +kernel
theorem dX8_subtractFromWish_22 : decode cX8_subtractFromWish 22 = .ok (.iload_n 2, 1) := by decide +kernel
theorem dX8_subtractFromWish_23 : decode cX8_subtractFromWish 23 = .ok (.iaload, 1) := by decide +kernel
theorem dX8_subtractFromWish_24 : decode cX8_subtractFromWish 24 = .ok (.isub, 1) := by decide +kernel
theorem dX8_subtractFromWish_25 : decode cX8_subtractFromWish 25 = .ok (.aload_n 0, 1) := by decide +kernel
theorem dX8_subtractFromWish_26 : decode cX8_subtractFromWish 26 = .ok (.getfield 19, 3) := by decide +kernel
theorem dX8_subtractFromWish_29 : decode cX8_subtractFromWish 29 = .ok (.getfield 121, 3) := by decide +kernel
theorem dX8_subtractFromWish_32 : decode cX8_subtractFromWish 32 = .ok (.invokestatic 162, 3) := by decide +kernel
theorem dX8_subtractFromWish_35 : decode cX8_subtractFromWish 35 = .ok (.iastore, 1) := by decide +kernel
theorem dX8_subtractFromWish_36 : decode cX8_subtractFromWish 36 = .ok (.iinc 2 1, 3) := by decide +kernel
theorem dX8_subtractFromWish_39 : decode cX8_subtractFromWish 39 = .ok (.goto (-37), 3) := by decide +kernel
theorem dX8_subtractFromWish_42 : decode cX8_subtractFromWish 42 = .ok (.return_, 1) := by decide +kernel
theorem dX8_dot_0 : decode cX8_dot 0 = .ok (.iconst 0, 1) := by decide +kernel
theorem dX8_dot_1 : decode cX8_dot 1 = .ok (.istore_n 3, 1) := by decide +kernel
theorem dX8_dot_2 : decode cX8_dot 2 = .ok (.iconst 0, 1) := by decide +kernel
theorem dX8_dot_3 : decode cX8_dot 3 = .ok (.istore 4, 2) := by decide +kernel
theorem dX8_dot_5 : decode cX8_dot 5 = .ok (.iload 4, 2) := by decide +kernel
theorem dX8_dot_7 : decode cX8_dot 7 = .ok (.aload_n 0, 1) := by decide +kernel
theorem dX8_dot_8 : decode cX8_dot 8 = .ok (.getfield 19, 3) := by decide +kernel
theorem dX8_dot_11 : decode cX8_dot 11 = .ok (.getfield 118, 3) := by decide +kernel
theorem dX8_dot_14 : decode cX8_dot 14 = .ok (.if_icmp .ge 21, 3) := by decide +kernel
theorem dX8_dot_17 : decode cX8_dot 17 = .ok (.iload_n 3, 1) := by decide +kernel
theorem dX8_dot_18 : decode cX8_dot 18 = .ok (.aload_n 1, 1) := by decide +kernel
theorem dX8_dot_19 : decode cX8_dot 19 = .ok (.iload 4, 2) := by decide +kernel
theorem dX8_dot_21 : decode cX8_dot 21 = .ok (.iaload, 1) := by decide +kernel
theorem dX8_dot_22 : decode cX8_dot 22 = .ok (.aload_n 2, 1) := by decide +kernel
theorem dX8_dot_23 : decode cX8_dot 23 = .ok (.iload 4, 2) := by decide +kernel
theorem dX8_dot_25 : decode cX8_dot 25 = .ok (.iaload, 1) := by decide +kernel
theorem dX8_dot_26 : decode cX8_dot 26 = .ok (.imul, 1) := by decide +kernel
theorem dX8_dot_27 : decode cX8_dot 27 = .ok (.iadd, 1) := by decide +kernel
theorem dX8_dot_28 : decode cX8_dot 28 = .ok (.istore_n 3, 1) := by decide +kernel
theorem dX8_dot_29 : decode cX8_dot 29 = .ok (.iinc 4 1, 3) := by decide +kernel
theorem dX8_dot_32 : decode cX8_dot 32 = .ok (.goto (-27), 3) := by decide +kernel
theorem dX8_dot_35 : decode cX8_dot 35 = .ok (.iload_n 3, 1) := by decide +kernel
theorem dX8_dot_36 : decode cX8_dot 36 = .ok (.aload_n 0, 1) := by decide +kernel
theorem dX8_dot_37 : decode cX8_dot 37 = .ok (.getfield 19, 3) := by decide +kernel
theorem dX8_dot_40 : decode cX8_dot 40 = .ok (.getfield 121, 3) := by decide +kernel
theorem dX8_dot_43 : decode cX8_dot 43 = .ok (.invokestatic 162, 3) := by decide +kernel
theorem dX8_dot_46 : decode cX8_dot 46 = .ok (.ireturn, 1) := by decide +kernel
theorem dX8_takeLampStep_0 : decode cX8_takeLampStep 0 = .ok (.aload_n 0, 1) := by decide +kernel
theorem dX8_takeLampStep_1 : decode cX8_takeLampStep 1 = .ok (.getfield 83, 3) := by decide +kernel
theorem dX8_takeLampStep_4 : decode cX8_takeLampStep 4 = .ok (.iconst 0, 1) := by decide +kernel
theorem dX8_takeLampStep_5 : decode cX8_takeLampStep 5 = .ok (.invokestatic 282, 3) := by decide +kernel
theorem dX8_takeLampStep_8 : decode cX8_takeLampStep 8 = .ok (.aload_n 0, 1) := by decide +kernel
theorem dX8_takeLampStep_9 : decode cX8_takeLampStep 9 = .ok (.getfield 83, 3) := by decide +kernel
theorem dX8_takeLampStep_12 : decode cX8_takeLampStep 12 = .ok (.iload_n 2, 1) := by decide +kernel
theorem dX8_takeLampStep_13 : decode cX8_takeLampStep 13 = .ok (.iconst 1, 1) := by decide +kernel
theorem dX8_takeLampStep_14 : decode cX8_takeLampStep 14 = .ok (.iastore, 1) := by decide +kernel
theorem dX8_takeLampStep_15 : decode cX8_takeLampStep 15 = .ok (.iconst 0, 1) := by decide +kernel
theorem dX8_takeLampStep_16 : decode cX8_takeLampStep 16 = .ok (.istore_n 3, 1) := by decide +kernel
theorem dX8_takeLampStep_17 : decode cX8_takeLampStep 17 = .ok (.iload_n 3, 1) := by decide +kernel
theorem dX8_takeLampStep_18 : decode cX8_takeLampStep 18 = .ok (.aload_n 1, 1) := by decide +kernel
theorem dX8_takeLampStep_19 : decode cX8_takeLampStep 19 = .ok (.getfield 198, 3) := by decide +kernel
theorem dX8_takeLampStep_22 : decode cX8_takeLampStep 22 = .ok (.if_icmp .ge 44, 3) := by decide +kernel
theorem dX8_takeLampStep_25 : decode cX8_takeLampStep 25 = .ok (.aload_n 1, 1) := by decide +kernel
theorem dX8_takeLampStep_26 : decode cX8_takeLampStep 26 = .ok (.getfield 205, 3) := by decide +kernel
theorem dX8_takeLampStep_29 : decode cX8_takeLampStep 29 = .ok (.iload_n 3, 1) := by decide +kernel
theorem dX8_takeLampStep_30 : decode cX8_takeLampStep 30 = .ok (.iaload, 1) := by decide +kernel
theorem dX8_takeLampStep_31 : decode cX8_takeLampStep 31 = .ok (.istore 4, 2) := by decide +kernel
theorem dX8_takeLampStep_33 : decode cX8_takeLampStep 33 = .ok (.aload_n 0, 1) := by decide +kernel
theorem dX8_takeLampStep_34 : decode cX8_takeLampStep 34 = .ok (.getfield 83, 3) := by decide +kernel
theorem dX8_takeLampStep_37 : decode cX8_takeLampStep 37 = .ok (.iload 4, 2) := by decide +kernel
theorem dX8_takeLampStep_39 : decode cX8_takeLampStep 39 = .ok (.aload_n 1, 1) := by decide +kernel
theorem dX8_takeLampStep_40 : decode cX8_takeLampStep 40 = .ok (.getfield 208, 3) := by decide +kernel
theorem dX8_takeLampStep_43 : decode cX8_takeLampStep 43 = .ok (.iload 4, 2) := by decide +kernel
theorem dX8_takeLampStep_45 : decode cX8_takeLampStep 45 = .ok (.aaload, 1) := by decide +kernel
theorem dX8_takeLampStep_46 : decode cX8_takeLampStep 46 = .ok (.iload_n 2, 1) := by decide +kernel
theorem dX8_takeLampStep_47 : decode cX8_takeLampStep 47 = .ok (.iaload, 1) := by decide +kernel
theorem dX8_takeLampStep_48 : decode cX8_takeLampStep 48 = .ok (.ineg, 1) := by decide +kernel
theorem dX8_takeLampStep_49 : decode cX8_takeLampStep 49 = .ok (.aload_n 0, 1) := by decide +kernel
theorem dX8_takeLampStep_50 : decode cX8_takeLampStep 50 = .ok (.getfield 19, 3) := by decide +kernel
theorem dX8_takeLampStep_53 : decode cX8_takeLampStep 53 = .ok (.getfield 121, 3) := by decide +kernel
theorem dX8_takeLampStep_56 : decode cX8_takeLampStep 56 = .ok (.invokestatic 162, 3) := by decide +kernel
theorem dX8_takeLampStep_59 : decode cX8_takeLampStep 59 = .ok (.iastore, 1) := by decide +kernel
theorem dX8_takeLampStep_60 : decode cX8_takeLampStep 60 = .ok (.iinc 3 1, 3) := by decide +kernel
theorem dX8_takeLampStep_63 : decode cX8_takeLampStep 63 = .ok (.goto (-46), 3) := by decide +kernel
theorem dX8_takeLampStep_66 : decode cX8_takeLampStep 66 = .ok (.return_, 1) := by decide +kernel
theorem dX8_chasing_0 : decode cX8_chasing 0 = .ok (.iload_n 3, 1) := by decide +kernel
theorem dX8_chasing_1 : decode cX8_chasing 1 = .ok (.aload_n 0, 1) := by decide +kernel
theorem dX8_chasing_2 : decode cX8_chasing 2 = .ok (.getfield 19, 3) := by decide +kernel
theorem dX8_chasing_5 : decode cX8_chasing 5 = .ok (.getfield 124, 3) := by decide +kernel
theorem dX8_chasing_8 : decode cX8_chasing 8 = .ok (.isub, 1) := by decide +kernel
theorem dX8_chasing_9 : decode cX8_chasing 9 = .ok (.istore 4, 2) := by decide +kernel
theorem dX8_chasing_11 : decode cX8_chasing 11 = .ok (.iload 4, 2) := by decide +kernel
theorem dX8_chasing_13 : decode cX8_chasing 13 = .ok (.ifCond .lt 15, 3) := by decide +kernel
theorem dX8_chasing_16 : decode cX8_chasing 16 = .ok (.aload_n 0, 1) := by decide +kernel
theorem dX8_chasing_17 : decode cX8_chasing 17 = .ok (.getfield 19, 3) := by decide +kernel
theorem dX8_chasing_20 : decode cX8_chasing 20 = .ok (.getfield 166, 3) := by decide +kernel
theorem dX8_chasing_23 : decode cX8_chasing 23 = .ok (.iload_n 3, 1) := by decide +kernel
theorem dX8_chasing_24 : decode cX8_chasing 24 = .ok (.baload, 1) := by decide +kernel
theorem dX8_chasing_25 : decode cX8_chasing 25 = .ok (.ifCond .eq 5, 3) := by decide +kernel
theorem dX8_chasing_28 : decode cX8_chasing 28 = .ok (.iconst 0, 1) := by decide +kernel
theorem dX8_chasing_29 : decode cX8_chasing 29 = .ok (.ireturn, 1) := by decide +kernel
theorem dX8_chasing_30 : decode cX8_chasing 30 = .ok (.aload_n 2, 1) := by decide +kernel
theorem dX8_chasing_31 : decode cX8_chasing 31 = .ok (.iload 4, 2) := by decide +kernel
theorem dX8_chasing_33 : decode cX8_chasing 33 = .ok (.iaload, 1) := by decide +kernel
theorem dX8_chasing_34 : decode cX8_chasing 34 = .ok (.aload_n 1, 1) := by decide +kernel
theorem dX8_chasing_35 : decode cX8_chasing 35 = .ok (.iload 4, 2) := by decide +kernel
theorem dX8_chasing_37 : decode cX8_chasing 37 = .ok (.iaload, 1) := by decide +kernel
theorem dX8_chasing_38 : decode cX8_chasing 38 = .ok (.isub, 1) := by decide +kernel
theorem dX8_chasing_39 : decode cX8_chasing 39 = .ok (.aload_n 0, 1) := by decide +kernel
theorem dX8_chasing_40 : decode cX8_chasing 40 = .ok (.getfield 19, 3) := by decide +kernel
theorem dX8_chasing_43 : decode cX8_chasing 43 = .ok (.getfield 121, 3) := by decide +kernel
theorem dX8_chasing_46 : decode cX8_chasing 46 = .ok (.invokestatic 162, 3) := by decide +kernel
theorem dX8_chasing_49 : decode cX8_chasing 49 = .ok (.istore 5, 2) := by decide +kernel
theorem dX8_chasing_51 : decode cX8_chasing 51 = .ok (.iload 5, 2) := by decide +kernel
theorem dX8_chasing_53 : decode cX8_chasing 53 = .ok (.aload_n 0, 1) := by decide +kernel
theorem dX8_chasing_54 : decode cX8_chasing 54 = .ok (.getfield 19, 3) := by decide +kernel
theorem dX8_chasing_57 : decode cX8_chasing 57 = .ok (.getfield 148, 3) := by decide +kernel
theorem dX8_chasing_60 : decode cX8_chasing 60 = .ok (.iload_n 3, 1) := by decide +kernel
theorem dX8_chasing_61 : decode cX8_chasing 61 = .ok (.aaload, 1) := by decide +kernel
theorem dX8_chasing_62 : decode cX8_chasing 62 = .ok (.iload 4, 2) := by decide +kernel
theorem dX8_chasing_64 : decode cX8_chasing 64 = .ok (.iaload, 1) := by decide +kernel
theorem dX8_chasing_65 : decode cX8_chasing 65 = .ok (.aload_n 0, 1) := by decide +kernel
theorem dX8_chasing_66 : decode cX8_chasing 66 = .ok (.getfield 19, 3) := by decide +kernel
theorem dX8_chasing_69 : decode cX8_chasing 69 = .ok (.getfield 121, 3) := by decide +kernel
theorem dX8_chasing_72 : decode cX8_chasing 72 = .ok (.invokestatic 384, 3) := by decide +kernel
theorem dX8_chasing_75 : decode cX8_chasing 75 = .ok (.imul, 1) := by decide +kernel
theorem dX8_chasing_76 : decode cX8_chasing 76 = .ok (.aload_n 0, 1) := by decide +kernel
theorem dX8_chasing_77 : decode cX8_chasing 77 = .ok (.getfield 19, 3) := by decide +kernel
theorem dX8_chasing_80 : decode cX8_chasing 80 = .ok (.getfield 121, 3) := by decide +kernel
theorem dX8_chasing_83 : decode cX8_chasing 83 = .ok (.invokestatic 162, 3) := by decide +kernel
theorem dX8_chasing_86 : decode cX8_chasing 86 = .ok (.ireturn, 1) := by decide +kernel
theorem dX8_chaseUnlogged_0 : decode cX8_chaseUnlogged 0 = .ok (.aload_n 0, 1) := by decide +kernel
theorem dX8_chaseUnlogged_1 : decode cX8_chaseUnlogged 1 = .ok (.getfield 19, 3) := by decide +kernel
theorem dX8_chaseUnlogged_4 : decode cX8_chaseUnlogged 4 = .ok (.getfield 124, 3) := by decide +kernel
theorem dX8_chaseUnlogged_7 : decode cX8_chaseUnlogged 7 = .ok (.istore_n 3, 1) := by decide +kernel
theorem dX8_chaseUnlogged_8 : decode cX8_chaseUnlogged 8 = .ok (.iload_n 3, 1) := by decide +kernel
theorem dX8_chaseUnlogged_9 : decode cX8_chaseUnlogged 9 = .ok (.aload_n 0, 1) := by decide +kernel
theorem dX8_chaseUnlogged_10 : decode cX8_chaseUnlogged 10 = .ok (.getfield 19, 3) := by decide +kernel
theorem dX8_chaseUnlogged_13 : decode cX8_chaseUnlogged 13 = .ok (.getfield 118, 3) := by decide +kernel
theorem dX8_chaseUnlogged_16 : decode cX8_chaseUnlogged 16 = .ok (.if_icmp .ge 25, 3) := by decide +kernel
theorem dX8_chaseUnlogged_19 : decode cX8_chaseUnlogged 19 = .ok (.aload_n 0, 1) := by decide +kernel
theorem dX8_chaseUnlogged_20 : decode cX8_chaseUnlogged 20 = .ok (.getfield 19, 3) := by decide +kernel
theorem dX8_chaseUnlogged_23 : decode cX8_chaseUnlogged 23 = .ok (.aload_n 1, 1) := by decide +kernel
theorem dX8_chaseUnlogged_24 : decode cX8_chaseUnlogged 24 = .ok (.iload_n 3, 1) := by decide +kernel
theorem dX8_chaseUnlogged_25 : decode cX8_chaseUnlogged 25 = .ok (.aload_n 0, 1) := by decide +kernel
theorem dX8_chaseUnlogged_26 : decode cX8_chaseUnlogged 26 = .ok (.aload_n 1, 1) := by decide +kernel
theorem dX8_chaseUnlogged_27 : decode cX8_chaseUnlogged 27 = .ok (.aload_n 2, 1) := by decide +kernel
theorem dX8_chaseUnlogged_28 : decode cX8_chaseUnlogged 28 = .ok (.iload_n 3, 1) := by decide +kernel
theorem dX8_chaseUnlogged_29 : decode cX8_chaseUnlogged 29 = .ok (.invokevirtual 307, 3) := by decide +kernel
theorem dX8_chaseUnlogged_32 : decode cX8_chaseUnlogged 32 = .ok (.invokevirtual 182, 3) := by decide +kernel
theorem dX8_chaseUnlogged_35 : decode cX8_chaseUnlogged 35 = .ok (.iinc 3 1, 3) := by decide +kernel
theorem dX8_chaseUnlogged_38 : decode cX8_chaseUnlogged 38 = .ok (.goto (-30), 3) := by decide +kernel
theorem dX8_chaseUnlogged_41 : decode cX8_chaseUnlogged 41 = .ok (.return_, 1) := by decide +kernel
theorem dX8_topNumber_0 : decode cX8_topNumber 0 = .ok (.iconst 0, 1) := by decide +kernel
theorem dX8_topNumber_1 : decode cX8_topNumber 1 = .ok (.istore_n 1, 1) := by decide +kernel
theorem dX8_topNumber_2 : decode cX8_topNumber 2 = .ok (.aload_n 0, 1) := by decide +kernel
theorem dX8_topNumber_3 : decode cX8_topNumber 3 = .ok (.getfield 19, 3) := by decide +kernel
theorem dX8_topNumber_6 : decode cX8_topNumber 6 = .ok (.getfield 124, 3) := by decide +kernel
theorem dX8_topNumber_9 : decode cX8_topNumber 9 = .ok (.iconst 1, 1) := by decide +kernel
theorem dX8_topNumber_10 : decode cX8_topNumber 10 = .ok (.isub, 1) := by decide +kernel
theorem dX8_topNumber_11 : decode cX8_topNumber 11 = .ok (.istore_n 2, 1) := by decide +kernel
theorem dX8_topNumber_12 : decode cX8_topNumber 12 = .ok (.iload_n 2, 1) := by decide +kernel
theorem dX8_topNumber_13 : decode cX8_topNumber 13 = .ok (.ifCond .lt 26, 3) := by decide +kernel
theorem dX8_topNumber_16 : decode cX8_topNumber 16 = .ok (.iload_n 1, 1) := by decide +kernel
theorem dX8_topNumber_17 : decode cX8_topNumber 17 = .ok (.aload_n 0, 1) := by decide +kernel
theorem dX8_topNumber_18 : decode cX8_topNumber 18 = .ok (.getfield 19, 3) := by decide +kernel
theorem dX8_topNumber_21 : decode cX8_topNumber 21 = .ok (.getfield 121, 3) := by decide +kernel
theorem dX8_topNumber_24 : decode cX8_topNumber 24 = .ok (.imul, 1) := by decide +kernel
theorem dX8_topNumber_25 : decode cX8_topNumber 25 = .ok (.aload_n 0, 1) := by decide +kernel
theorem dX8_topNumber_26 : decode cX8_topNumber 26 = .ok (.getfield 86, 3) := by decide +kernel
theorem dX8_topNumber_29 : decode cX8_topNumber 29 = .ok (.iload_n 2, 1) := by decide +kernel
theorem dX8_topNumber_30 : decode cX8_topNumber 30 = .ok (.iaload, 1) := by decide +kernel
theorem dX8_topNumber_31 : decode cX8_topNumber 31 = .ok (.iadd, 1) := by decide +kernel
theorem dX8_topNumber_32 : decode cX8_topNumber 32 = .ok (.istore_n 1, 1) := by decide +kernel
theorem dX8_topNumber_33 : decode cX8_topNumber 33 = .ok (.iinc 2 (-1), 3) := by decide +kernel
theorem dX8_topNumber_36 : decode cX8_topNumber 36 = .ok (.goto (-24), 3) := by decide +kernel
theorem dX8_topNumber_39 : decode cX8_topNumber 39 = .ok (.iload_n 1, 1) := by decide +kernel
theorem dX8_topNumber_40 : decode cX8_topNumber 40 = .ok (.ireturn, 1) := by decide +kernel
theorem dX8_walkLit_0 : decode cX8_walkLit 0 = .ok (.aload_n 0, 1) := by decide +kernel
theorem dX8_walkLit_1 : decode cX8_walkLit 1 = .ok (.getfield 72, 3) := by decide +kernel
theorem dX8_walkLit_4 : decode cX8_walkLit 4 = .ok (.aload_n 0, 1) := by decide +kernel
theorem dX8_walkLit_5 : decode cX8_walkLit 5 = .ok (.getfield 19, 3) := by decide +kernel
theorem dX8_walkLit_8 : decode cX8_walkLit 8 = .ok (.getfield 118, 3) := by decide +kernel
theorem dX8_walkLit_11 : decode cX8_walkLit 11 = .ok (.aload_n 0, 1) := by decide +kernel
theorem dX8_walkLit_12 : decode cX8_walkLit 12 = .ok (.getfield 19, 3) := by decide +kernel
theorem dX8_walkLit_15 : decode cX8_walkLit 15 = .ok (.getfield 121, 3) := by decide +kernel
theorem dX8_walkLit_18 : decode cX8_walkLit 18 = .ok (.invokevirtual 387, 3) := by decide +kernel
theorem dX8_walkLit_21 : decode cX8_walkLit 21 = .ok (.iconst 0, 1) := by decide +kernel
theorem dX8_walkLit_22 : decode cX8_walkLit 22 = .ok (.istore_n 1, 1) := by decide +kernel
theorem dX8_walkLit_23 : decode cX8_walkLit 23 = .ok (.iload_n 1, 1) := by decide +kernel
theorem dX8_walkLit_24 : decode cX8_walkLit 24 = .ok (.aload_n 0, 1) := by decide +kernel
theorem dX8_walkLit_25 : decode cX8_walkLit 25 = .ok (.getfield 19, 3) := by decide +kernel
theorem dX8_walkLit_28 : decode cX8_walkLit 28 = .ok (.getfield 118, 3) := by decide +kernel
theorem dX8_walkLit_31 : decode cX8_walkLit 31 = .ok (.if_icmp .ge 39, 3) := by decide +kernel
theorem dX8_walkLit_34 : decode cX8_walkLit 34 = .ok (.aload_n 0, 1) := by decide +kernel
theorem dX8_walkLit_35 : decode cX8_walkLit 35 = .ok (.getfield 19, 3) := by decide +kernel
theorem dX8_walkLit_38 : decode cX8_walkLit 38 = .ok (.getfield 166, 3) := by decide +kernel
theorem dX8_walkLit_41 : decode cX8_walkLit 41 = .ok (.iload_n 1, 1) := by decide +kernel
theorem dX8_walkLit_42 : decode cX8_walkLit 42 = .ok (.baload, 1) := by decide +kernel
theorem dX8_walkLit_43 : decode cX8_walkLit 43 = .ok (.ifCond .ne 21, 3) := by decide +kernel
theorem dX8_walkLit_46 : decode cX8_walkLit 46 = .ok (.aload_n 0, 1) := by decide +kernel
theorem dX8_walkLit_47 : decode cX8_walkLit 47 = .ok (.getfield 72, 3) := by decide +kernel
theorem dX8_walkLit_50 : decode cX8_walkLit 50 = .ok (.iload_n 1, 1) := by decide +kernel
theorem dX8_walkLit_51 : decode cX8_walkLit 51 = .ok (.aload_n 0, 1) := by decide +kernel
theorem dX8_walkLit_52 : decode cX8_walkLit 52 = .ok (.getfield 19, 3) := by decide +kernel
theorem dX8_walkLit_55 : decode cX8_walkLit 55 = .ok (.getfield 148, 3) := by decide +kernel
theorem dX8_walkLit_58 : decode cX8_walkLit 58 = .ok (.iload_n 1, 1) := by decide +kernel
theorem dX8_walkLit_59 : decode cX8_walkLit 59 = .ok (.aaload, 1) := by decide +kernel
theorem dX8_walkLit_60 : decode cX8_walkLit 60 = .ok (.iload_n 1, 1) := by decide +kernel
theorem dX8_walkLit_61 : decode cX8_walkLit 61 = .ok (.invokevirtual 388, 3) := by decide +kernel
theorem dX8_walkLit_64 : decode cX8_walkLit 64 = .ok (.iinc 1 1, 3) := by decide +kernel
theorem dX8_walkLit_67 : decode cX8_walkLit 67 = .ok (.goto (-44), 3) := by decide +kernel
theorem dX8_walkLit_70 : decode cX8_walkLit 70 = .ok (.aload_n 0, 1) := by decide +kernel
theorem dX8_walkLit_71 : decode cX8_walkLit 71 = .ok (.getfield 72, 3) := by decide +kernel
theorem dX8_walkLit_74 : decode cX8_walkLit 74 = .ok (.aload_n 0, 1) := by decide +kernel
theorem dX8_walkLit_75 : decode cX8_walkLit 75 = .ok (.getfield 72, 3) := by decide +kernel
theorem dX8_walkLit_78 : decode cX8_walkLit 78 = .ok (.aload_n 0, 1) := by decide +kernel
theorem dX8_walkLit_79 : decode cX8_walkLit 79 = .ok (.getfield 33, 3) := by decide +kernel
theorem dX8_walkLit_82 : decode cX8_walkLit 82 = .ok (.invokevirtual 392, 3) := by decide +kernel
theorem dX8_walkLit_85 : decode cX8_walkLit 85 = .ok (.aload_n 0, 1) := by decide +kernel
theorem dX8_walkLit_86 : decode cX8_walkLit 86 = .ok (.getfield 72, 3) := by decide +kernel
theorem dX8_walkLit_89 : decode cX8_walkLit 89 = .ok (.aload_n 0, 1) := by decide +kernel
theorem dX8_walkLit_90 : decode cX8_walkLit 90 = .ok (.getfield 37, 3) := by decide +kernel
theorem dX8_walkLit_93 : decode cX8_walkLit 93 = .ok (.invokevirtual 392, 3) := by decide +kernel
theorem dX8_walkLit_96 : decode cX8_walkLit 96 = .ok (.invokevirtual 396, 3) := by decide +kernel
theorem dX8_walkLit_99 : decode cX8_walkLit 99 = .ok (.return_, 1) := by decide +kernel
theorem dX8_winningMove_0 : decode cX8_winningMove 0 = .ok (.iconst 0, 1) := by decide +kernel
theorem dX8_winningMove_1 : decode cX8_winningMove 1 = .ok (.istore_n 3, 1) := by decide +kernel
theorem dX8_winningMove_2 : decode cX8_winningMove 2 = .ok (.iload_n 3, 1) := by decide +kernel
theorem dX8_winningMove_3 : decode cX8_winningMove 3 = .ok (.aload_n 0, 1) := by decide +kernel
theorem dX8_winningMove_4 : decode cX8_winningMove 4 = .ok (.getfield 19, 3) := by decide +kernel
theorem dX8_winningMove_7 : decode cX8_winningMove 7 = .ok (.getfield 118, 3) := by decide +kernel
theorem dX8_winningMove_10 : decode cX8_winningMove 10 = .ok (.if_icmp .ge 65, 3) := by decide +kernel
theorem dX8_winningMove_13 : decode cX8_winningMove 13 = .ok (.iconst 1, 1) := by decide +kernel
theorem dX8_winningMove_14 : decode cX8_winningMove 14 = .ok (.iload_n 3, 1) := by decide +kernel
theorem dX8_winningMove_15 : decode cX8_winningMove 15 = .ok (.ishl, 1) := by decide +kernel
theorem dX8_winningMove_16 : decode cX8_winningMove 16 = .ok (.istore 4, 2) := by decide +kernel
theorem dX8_winningMove_18 : decode cX8_winningMove 18 = .ok (.iload_n 1, 1) := by decide +kernel
theorem dX8_winningMove_19 : decode cX8_winningMove 19 = .ok (.iload 4, 2) := by decide +kernel
theorem dX8_winningMove_21 : decode cX8_winningMove 21 = .ok (.iand, 1) := by decide +kernel
theorem dX8_winningMove_22 : decode cX8_winningMove 22 = .ok (.ifCond .ne 28, 3) := by decide +kernel
theorem dX8_winningMove_25 : decode cX8_winningMove 25 = .ok (.aload_n 0, 1) := by decide +kernel
theorem dX8_winningMove_26 : decode cX8_winningMove 26 = .ok (.getfield 19, 3) := by decide +kernel
theorem dX8_winningMove_29 : decode cX8_winningMove 29 = .ok (.getfield 166, 3) := by decide +kernel
theorem dX8_winningMove_32 : decode cX8_winningMove 32 = .ok (.iload_n 3, 1) := by decide +kernel
theorem dX8_winningMove_33 : decode cX8_winningMove 33 = .ok (.baload, 1) := by decide +kernel
theorem dX8_winningMove_34 : decode cX8_winningMove 34 = .ok (.ifCond .ne 16, 3) := by decide +kernel
theorem dX8_winningMove_37 : decode cX8_winningMove 37 = .ok (.aload_n 0, 1) := by decide +kernel
theorem dX8_winningMove_38 : decode cX8_winningMove 38 = .ok (.getfield 83, 3) := by decide +kernel
theorem dX8_winningMove_41 : decode cX8_winningMove 41 = .ok (.iload_n 3, 1) := by decide +kernel
theorem dX8_winningMove_42 : decode cX8_winningMove 42 = .ok (.iaload, 1) := by decide +kernel
theorem dX8_winningMove_43 : decode cX8_winningMove 43 = .ok (.ifCond .eq 7, 3) := by decide +kernel
theorem dX8_winningMove_46 : decode cX8_winningMove 46 = .ok (.iconst 1, 1) := by decide +kernel
theorem dX8_winningMove_47 : decode cX8_winningMove 47 = .ok (.goto 4, 3) := by decide +kernel
theorem dX8_winningMove_50 : decode cX8_winningMove 50 = .ok (.iconst 0, 1) := by decide +kernel
theorem dX8_winningMove_51 : decode cX8_winningMove 51 = .ok (.istore 5, 2) := by decide +kernel
theorem dX8_winningMove_53 : decode cX8_winningMove 53 = .ok (.iload 5, 2) := by decide +kernel
theorem dX8_winningMove_55 : decode cX8_winningMove 55 = .ok (.ifCond .eq 14, 3) := by decide +kernel
theorem dX8_winningMove_58 : decode cX8_winningMove 58 = .ok (.aload_n 2, 1) := by decide +kernel
theorem dX8_winningMove_59 : decode cX8_winningMove 59 = .ok (.iload_n 1, 1) := by decide +kernel
theorem dX8_winningMove_60 : decode cX8_winningMove 60 = .ok (.iload 4, 2) := by decide +kernel
theorem dX8_winningMove_62 : decode cX8_winningMove 62 = .ok (.ior, 1) := by decide +kernel
theorem dX8_winningMove_63 : decode cX8_winningMove 63 = .ok (.iaload, 1) := by decide +kernel
theorem dX8_winningMove_64 : decode cX8_winningMove 64 = .ok (.ifCond .ne 5, 3) := by decide +kernel
theorem dX8_winningMove_67 : decode cX8_winningMove 67 = .ok (.iload_n 3, 1) := by decide +kernel
theorem dX8_winningMove_68 : decode cX8_winningMove 68 = .ok (.ireturn, 1) := by decide +kernel
theorem dX8_winningMove_69 : decode cX8_winningMove 69 = .ok (.iinc 3 1, 3) := by decide +kernel
theorem dX8_winningMove_72 : decode cX8_winningMove 72 = .ok (.goto (-70), 3) := by decide +kernel
theorem dX8_winningMove_75 : decode cX8_winningMove 75 = .ok (.iconst (-1), 1) := by decide +kernel
theorem dX8_winningMove_76 : decode cX8_winningMove 76 = .ok (.ireturn, 1) := by decide +kernel
theorem dX8_stepToLesserSet_0 : decode cX8_stepToLesserSet 0 = .ok (.iconst 0, 1) := by decide +kernel
theorem dX8_stepToLesserSet_1 : decode cX8_stepToLesserSet 1 = .ok (.istore_n 2, 1) := by decide +kernel
theorem dX8_stepToLesserSet_2 : decode cX8_stepToLesserSet 2 = .ok (.iload_n 2, 1) := by decide +kernel
theorem dX8_stepToLesserSet_3 : decode cX8_stepToLesserSet 3 = .ok (.aload_n 0, 1) := by decide +kernel
theorem dX8_stepToLesserSet_4 : decode cX8_stepToLesserSet 4 = .ok (.getfield 19, 3) := by decide +kernel
theorem dX8_stepToLesserSet_7 : decode cX8_stepToLesserSet 7 = .ok (.getfield 118, 3) := by decide +kernel
theorem dX8_stepToLesserSet_10 : decode cX8_stepToLesserSet 10 = .ok (.if_icmp .ge 52, 3) := by decide +kernel
theorem dX8_stepToLesserSet_13 : decode cX8_stepToLesserSet 13 = .ok (.iload_n 1, 1) := by decide +kernel
theorem dX8_stepToLesserSet_14 : decode cX8_stepToLesserSet 14 = .ok (.iconst 1, 1) := by decide +kernel
theorem dX8_stepToLesserSet_15 : decode cX8_stepToLesserSet 15 = .ok (.iload_n 2, 1) := by decide +kernel
theorem dX8_stepToLesserSet_16 : decode cX8_stepToLesserSet 16 = .ok (.ishl, 1) := by decide +kernel
theorem dX8_stepToLesserSet_17 : decode cX8_stepToLesserSet 17 = .ok (.iand, 1) := by decide +kernel
theorem dX8_stepToLesserSet_18 : decode cX8_stepToLesserSet 18 = .ok (.ifCond .eq 25, 3) := by decide +kernel
theorem dX8_stepToLesserSet_21 : decode cX8_stepToLesserSet 21 = .ok (.aload_n 0, 1) := by decide +kernel
theorem dX8_stepToLesserSet_22 : decode cX8_stepToLesserSet 22 = .ok (.getfield 19, 3) := by decide +kernel
theorem dX8_stepToLesserSet_25 : decode cX8_stepToLesserSet 25 = .ok (.aload_n 0, 1) := by decide +kernel
theorem dX8_stepToLesserSet_26 : decode cX8_stepToLesserSet 26 = .ok (.getfield 83, 3) := by decide +kernel
theorem dX8_stepToLesserSet_29 : decode cX8_stepToLesserSet 29 = .ok (.iload_n 2, 1) := by decide +kernel
theorem dX8_stepToLesserSet_30 : decode cX8_stepToLesserSet 30 = .ok (.aload_n 0, 1) := by decide +kernel
theorem dX8_stepToLesserSet_31 : decode cX8_stepToLesserSet 31 = .ok (.getfield 19, 3) := by decide +kernel
theorem dX8_stepToLesserSet_34 : decode cX8_stepToLesserSet 34 = .ok (.getfield 121, 3) := by decide +kernel
theorem dX8_stepToLesserSet_37 : decode cX8_stepToLesserSet 37 = .ok (.iconst 1, 1) := by decide +kernel
theorem dX8_stepToLesserSet_38 : decode cX8_stepToLesserSet 38 = .ok (.isub, 1) := by decide +kernel
theorem dX8_stepToLesserSet_39 : decode cX8_stepToLesserSet 39 = .ok (.invokevirtual 182, 3) := by decide +kernel
theorem dX8_stepToLesserSet_42 : decode cX8_stepToLesserSet 42 = .ok (.return_, 1) := by decide +kernel
theorem dX8_stepToLesserSet_43 : decode cX8_stepToLesserSet 43 = .ok (.aload_n 0, 1) := by decide +kernel
theorem dX8_stepToLesserSet_44 : decode cX8_stepToLesserSet 44 = .ok (.getfield 19, 3) := by decide +kernel
theorem dX8_stepToLesserSet_47 : decode cX8_stepToLesserSet 47 = .ok (.aload_n 0, 1) := by decide +kernel
theorem dX8_stepToLesserSet_48 : decode cX8_stepToLesserSet 48 = .ok (.getfield 83, 3) := by decide +kernel
theorem dX8_stepToLesserSet_51 : decode cX8_stepToLesserSet 51 = .ok (.iload_n 2, 1) := by decide +kernel
theorem dX8_stepToLesserSet_52 : decode cX8_stepToLesserSet 52 = .ok (.iconst 1, 1) := by decide +kernel
theorem dX8_stepToLesserSet_53 : decode cX8_stepToLesserSet 53 = .ok (.invokevirtual 182, 3) := by decide +kernel
theorem dX8_stepToLesserSet_56 : decode cX8_stepToLesserSet 56 = .ok (.iinc 2 1, 3) := by decide +kernel
theorem dX8_stepToLesserSet_59 : decode cX8_stepToLesserSet 59 = .ok (.goto (-57), 3) := by decide +kernel
theorem dX8_stepToLesserSet_62 : decode cX8_stepToLesserSet 62 = .ok (.return_, 1) := by decide +kernel
theorem dX8_mod_0 : decode cX8_mod 0 = .ok (.iload_n 1, 1) := by decide +kernel
theorem dX8_mod_1 : decode cX8_mod 1 = .ok (.iconst 2, 1) := by decide +kernel
theorem dX8_mod_2 : decode cX8_mod 2 = .ok (.if_icmp .ge 7, 3) := by decide +kernel
theorem dX8_mod_5 : decode cX8_mod 5 = .ok (.iconst 0, 1) := by decide +kernel
theorem dX8_mod_6 : decode cX8_mod 6 = .ok (.goto 8, 3) := by decide +kernel
theorem dX8_mod_9 : decode cX8_mod 9 = .ok (.iload_n 0, 1) := by decide +kernel
theorem dX8_mod_10 : decode cX8_mod 10 = .ok (.iload_n 1, 1) := by decide +kernel
theorem dX8_mod_11 : decode cX8_mod 11 = .ok (.invokestatic 399, 3) := by decide +kernel
theorem dX8_mod_14 : decode cX8_mod 14 = .ok (.ireturn, 1) := by decide +kernel
theorem dX8_inverse_0 : decode cX8_inverse 0 = .ok (.iconst 1, 1) := by decide +kernel
theorem dX8_inverse_1 : decode cX8_inverse 1 = .ok (.istore_n 2, 1) := by decide +kernel
theorem dX8_inverse_2 : decode cX8_inverse 2 = .ok (.iload_n 2, 1) := by decide +kernel
theorem dX8_inverse_3 : decode cX8_inverse 3 = .ok (.iload_n 1, 1) := by decide +kernel
theorem dX8_inverse_4 : decode cX8_inverse 4 = .ok (.if_icmp .ge 20, 3) := by decide +kernel
theorem dX8_inverse_7 : decode cX8_inverse 7 = .ok (.iload_n 0, 1) := by decide +kernel
theorem dX8_inverse_8 : decode cX8_inverse 8 = .ok (.iload_n 2, 1) := by decide +kernel
theorem dX8_inverse_9 : decode cX8_inverse 9 = .ok (.imul, 1) := by decide +kernel
theorem dX8_inverse_10 : decode cX8_inverse 10 = .ok (.iload_n 1, 1) := by decide +kernel
theorem dX8_inverse_11 : decode cX8_inverse 11 = .ok (.irem, 1) := by decide +kernel
theorem dX8_inverse_12 : decode cX8_inverse 12 = .ok (.iconst 1, 1) := by decide +kernel
theorem dX8_inverse_13 : decode cX8_inverse 13 = .ok (.if_icmp .ne 5, 3) := by decide +kernel
theorem dX8_inverse_16 : decode cX8_inverse 16 = .ok (.iload_n 2, 1) := by decide +kernel
theorem dX8_inverse_17 : decode cX8_inverse 17 = .ok (.ireturn, 1) := by decide +kernel
theorem dX8_inverse_18 : decode cX8_inverse 18 = .ok (.iinc 2 1, 3) := by decide +kernel
theorem dX8_inverse_21 : decode cX8_inverse 21 = .ok (.goto (-19), 3) := by decide +kernel
theorem dX8_inverse_24 : decode cX8_inverse 24 = .ok (.iconst 0, 1) := by decide +kernel
theorem dX8_inverse_25 : decode cX8_inverse 25 = .ok (.ireturn, 1) := by decide +kernel
theorem dX8_addTimes_0 : decode cX8_addTimes 0 = .ok (.iload_n 2, 1) := by decide +kernel
theorem dX8_addTimes_1 : decode cX8_addTimes 1 = .ok (.ifCond .eq 22, 3) := by decide +kernel
theorem dX8_addTimes_4 : decode cX8_addTimes 4 = .ok (.iload_n 3, 1) := by decide +kernel
theorem dX8_addTimes_5 : decode cX8_addTimes 5 = .ok (.iconst 2, 1) := by decide +kernel
theorem dX8_addTimes_6 : decode cX8_addTimes 6 = .ok (.if_icmp .lt 17, 3) := by decide +kernel
theorem dX8_addTimes_9 : decode cX8_addTimes 9 = .ok (.iload 4, 2) := by decide +kernel
theorem dX8_addTimes_11 : decode cX8_addTimes 11 = .ok (.aload_n 0, 1) := by decide +kernel
theorem dX8_addTimes_12 : decode cX8_addTimes 12 = .ok (.arraylength, 1) := by decide +kernel
theorem dX8_addTimes_13 : decode cX8_addTimes 13 = .ok (.if_icmp .gt 10, 3) := by decide +kernel
theorem dX8_addTimes_16 : decode cX8_addTimes 16 = .ok (.iload 4, 2) := by decide +kernel
theorem dX8_addTimes_18 : decode cX8_addTimes 18 = .ok (.aload_n 1, 1) := by decide +kernel
theorem dX8_addTimes_19 : decode cX8_addTimes 19 = .ok (.arraylength, 1) := by decide +kernel
theorem dX8_addTimes_20 : decode cX8_addTimes 20 = .ok (.if_icmp .le 4, 3) := by decide +kernel
theorem dX8_addTimes_23 : decode cX8_addTimes 23 = .ok (.return_, 1) := by decide +kernel
theorem dX8_addTimes_24 : decode cX8_addTimes 24 = .ok (.iconst 0, 1) := by decide +kernel
theorem dX8_addTimes_25 : decode cX8_addTimes 25 = .ok (.istore 5, 2) := by decide +kernel
theorem dX8_addTimes_27 : decode cX8_addTimes 27 = .ok (.iload 5, 2) := by decide +kernel
theorem dX8_addTimes_29 : decode cX8_addTimes 29 = .ok (.iload 4, 2) := by decide +kernel
theorem dX8_addTimes_31 : decode cX8_addTimes 31 = .ok (.if_icmp .ge 33, 3) := by decide +kernel
theorem dX8_addTimes_34 : decode cX8_addTimes 34 = .ok (.aload_n 1, 1) := by decide +kernel
theorem dX8_addTimes_35 : decode cX8_addTimes 35 = .ok (.iload 5, 2) := by decide +kernel
theorem dX8_addTimes_37 : decode cX8_addTimes 37 = .ok (.iaload, 1) := by decide +kernel
theorem dX8_addTimes_38 : decode cX8_addTimes 38 = .ok (.ifCond .eq 20, 3) := by decide +kernel
theorem dX8_addTimes_41 : decode cX8_addTimes 41 = .ok (.aload_n 0, 1) := by decide +kernel
theorem dX8_addTimes_42 : decode cX8_addTimes 42 = .ok (.iload 5, 2) := by decide +kernel
theorem dX8_addTimes_44 : decode cX8_addTimes 44 = .ok (.aload_n 0, 1) := by decide +kernel
theorem dX8_addTimes_45 : decode cX8_addTimes 45 = .ok (.iload 5, 2) := by decide +kernel
theorem dX8_addTimes_47 : decode cX8_addTimes 47 = .ok (.iaload, 1) := by decide +kernel
theorem dX8_addTimes_48 : decode cX8_addTimes 48 = .ok (.iload_n 2, 1) := by decide +kernel
theorem dX8_addTimes_49 : decode cX8_addTimes 49 = .ok (.aload_n 1, 1) := by decide +kernel
theorem dX8_addTimes_50 : decode cX8_addTimes 50 = .ok (.iload 5, 2) := by decide +kernel
theorem dX8_addTimes_52 : decode cX8_addTimes 52 = .ok (.iaload, 1) := by decide +kernel
theorem dX8_addTimes_53 : decode cX8_addTimes 53 = .ok (.imul, 1) := by decide +kernel
theorem dX8_addTimes_54 : decode cX8_addTimes 54 = .ok (.iadd, 1) := by decide +kernel
theorem dX8_addTimes_55 : decode cX8_addTimes 55 = .ok (.iload_n 3, 1) := by decide +kernel
theorem dX8_addTimes_56 : decode cX8_addTimes 56 = .ok (.irem, 1) := by decide +kernel
theorem dX8_addTimes_57 : decode cX8_addTimes 57 = .ok (.iastore, 1) := by decide +kernel
theorem dX8_addTimes_58 : decode cX8_addTimes 58 = .ok (.iinc 5 1, 3) := by decide +kernel
theorem dX8_addTimes_61 : decode cX8_addTimes 61 = .ok (.goto (-34), 3) := by decide +kernel
theorem dX8_addTimes_64 : decode cX8_addTimes 64 = .ok (.return_, 1) := by decide +kernel
theorem dX8_exceeds_0 : decode cX8_exceeds 0 = .ok (.iconst 1, 1) := by decide +kernel
theorem dX8_exceeds_1 : decode cX8_exceeds 1 = .ok (.istore_n 3, 1) := by decide +kernel
theorem dX8_exceeds_2 : decode cX8_exceeds 2 = .ok (.iconst 0, 1) := by decide +kernel
theorem dX8_exceeds_3 : decode cX8_exceeds 3 = .ok (.istore 4, 2) := by decide +kernel
theorem dX8_exceeds_5 : decode cX8_exceeds 5 = .ok (.iload 4, 2) := by decide +kernel
theorem dX8_exceeds_7 : decode cX8_exceeds 7 = .ok (.iload_n 1, 1) := by decide +kernel
theorem dX8_exceeds_8 : decode cX8_exceeds 8 = .ok (.if_icmp .ge 18, 3) := by decide +kernel
theorem dX8_exceeds_11 : decode cX8_exceeds 11 = .ok (.iload_n 3, 1) := by decide +kernel
theorem dX8_exceeds_12 : decode cX8_exceeds 12 = .ok (.iload_n 2, 1) := by decide +kernel
theorem dX8_exceeds_13 : decode cX8_exceeds 13 = .ok (.if_icmp .gt 13, 3) := by decide +kernel
theorem dX8_exceeds_16 : decode cX8_exceeds 16 = .ok (.iload_n 3, 1) := by decide +kernel
theorem dX8_exceeds_17 : decode cX8_exceeds 17 = .ok (.iload_n 0, 1) := by decide +kernel
theorem dX8_exceeds_18 : decode cX8_exceeds 18 = .ok (.imul, 1) := by decide +kernel
theorem dX8_exceeds_19 : decode cX8_exceeds 19 = .ok (.istore_n 3, 1) := by decide +kernel
theorem dX8_exceeds_20 : decode cX8_exceeds 20 = .ok (.iinc 4 1, 3) := by decide +kernel
theorem dX8_exceeds_23 : decode cX8_exceeds 23 = .ok (.goto (-18), 3) := by decide +kernel
theorem dX8_exceeds_26 : decode cX8_exceeds 26 = .ok (.iload_n 3, 1) := by decide +kernel
theorem dX8_exceeds_27 : decode cX8_exceeds 27 = .ok (.iload_n 2, 1) := by decide +kernel
theorem dX8_exceeds_28 : decode cX8_exceeds 28 = .ok (.if_icmp .le 7, 3) := by decide +kernel
theorem dX8_exceeds_31 : decode cX8_exceeds 31 = .ok (.iconst 1, 1) := by decide +kernel
theorem dX8_exceeds_32 : decode cX8_exceeds 32 = .ok (.goto 4, 3) := by decide +kernel
theorem dX8_exceeds_35 : decode cX8_exceeds 35 = .ok (.iconst 0, 1) := by decide +kernel
theorem dX8_exceeds_36 : decode cX8_exceeds 36 = .ok (.ireturn, 1) := by decide +kernel
theorem dX9_init_0 : decode cX9_init 0 = .ok (.aload_n 0, 1) := by decide +kernel
theorem dX9_init_1 : decode cX9_init 1 = .ok (.invokespecial 1, 3) := by decide +kernel
theorem dX9_init_4 : decode cX9_init 4 = .ok (.aload_n 0, 1) := by decide +kernel
theorem dX9_init_5 : decode cX9_init 5 = .ok (.iconst 2, 1) := by decide +kernel
theorem dX9_init_6 : decode cX9_init 6 = .ok (.putfield 7, 3) := by decide +kernel
theorem dX9_init_9 : decode cX9_init 9 = .ok (.aload_n 0, 1) := by decide +kernel
theorem dX9_init_10 : decode cX9_init 10 = .ok (.iconst (-1), 1) := by decide +kernel
theorem dX9_init_11 : decode cX9_init 11 = .ok (.putfield 13, 3) := by decide +kernel
theorem dX9_init_14 : decode cX9_init 14 = .ok (.aload_n 0, 1) := by decide +kernel
theorem dX9_init_15 : decode cX9_init 15 = .ok (.sipush 1296, 3) := by decide +kernel
theorem dX9_init_18 : decode cX9_init 18 = .ok (.newarray .int, 2) := by decide +kernel
theorem dX9_init_20 : decode cX9_init 20 = .ok (.putfield 16, 3) := by decide +kernel
theorem dX9_init_23 : decode cX9_init 23 = .ok (.aload_n 0, 1) := by decide +kernel
theorem dX9_init_24 : decode cX9_init 24 = .ok (.bipush 36, 2) := by decide +kernel
theorem dX9_init_26 : decode cX9_init 26 = .ok (.newarray .boolean, 2) := by decide +kernel
theorem dX9_init_28 : decode cX9_init 28 = .ok (.putfield 20, 3) := by decide +kernel
theorem dX9_init_31 : decode cX9_init 31 = .ok (.aload_n 0, 1) := by decide +kernel
theorem dX9_init_32 : decode cX9_init 32 = .ok (.bipush 36, 2) := by decide +kernel
theorem dX9_init_34 : decode cX9_init 34 = .ok (.newarray .int, 2) := by decide +kernel
theorem dX9_init_36 : decode cX9_init 36 = .ok (.putfield 24, 3) := by decide +kernel
theorem dX9_init_39 : decode cX9_init 39 = .ok (.aload_n 0, 1) := by decide +kernel
theorem dX9_init_40 : decode cX9_init 40 = .ok (.bipush 36, 2) := by decide +kernel
theorem dX9_init_42 : decode cX9_init 42 = .ok (.newarray .int, 2) := by decide +kernel
theorem dX9_init_44 : decode cX9_init 44 = .ok (.putfield 27, 3) := by decide +kernel
theorem dX9_init_47 : decode cX9_init 47 = .ok (.aload_n 0, 1) := by decide +kernel
theorem dX9_init_48 : decode cX9_init 48 = .ok (.bipush 100, 2) := by decide +kernel
theorem dX9_init_50 : decode cX9_init 50 = .ok (.newarray .int, 2) := by decide +kernel
theorem dX9_init_52 : decode cX9_init 52 = .ok (.putfield 30, 3) := by decide +kernel
theorem dX9_init_55 : decode cX9_init 55 = .ok (.aload_n 0, 1) := by decide +kernel
theorem dX9_init_56 : decode cX9_init 56 = .ok (.sipush 500, 3) := by decide +kernel
theorem dX9_init_59 : decode cX9_init 59 = .ok (.newarray .int, 2) := by decide +kernel
theorem dX9_init_61 : decode cX9_init 61 = .ok (.putfield 33, 3) := by decide +kernel
theorem dX9_init_64 : decode cX9_init 64 = .ok (.aload_n 0, 1) := by decide +kernel
theorem dX9_init_65 : decode cX9_init 65 = .ok (.iconst (-1), 1) := by decide +kernel
theorem dX9_init_66 : decode cX9_init 66 = .ok (.putfield 36, 3) := by decide +kernel
theorem dX9_init_69 : decode cX9_init 69 = .ok (.aload_n 0, 1) := by decide +kernel
theorem dX9_init_70 : decode cX9_init 70 = .ok (.sipush 1296, 3) := by decide +kernel
theorem dX9_init_73 : decode cX9_init 73 = .ok (.newarray .int, 2) := by decide +kernel
theorem dX9_init_75 : decode cX9_init 75 = .ok (.putfield 39, 3) := by decide +kernel
theorem dX9_init_78 : decode cX9_init 78 = .ok (.aload_n 0, 1) := by decide +kernel
theorem dX9_init_79 : decode cX9_init 79 = .ok (.bipush 40, 2) := by decide +kernel
theorem dX9_init_81 : decode cX9_init 81 = .ok (.newarray .int, 2) := by decide +kernel
theorem dX9_init_83 : decode cX9_init 83 = .ok (.putfield 42, 3) := by decide +kernel
theorem dX9_init_86 : decode cX9_init 86 = .ok (.aload_n 0, 1) := by decide +kernel
theorem dX9_init_87 : decode cX9_init 87 = .ok (.bipush 40, 2) := by decide +kernel
theorem dX9_init_89 : decode cX9_init 89 = .ok (.newarray .int, 2) := by decide +kernel
theorem dX9_init_91 : decode cX9_init 91 = .ok (.putfield 45, 3) := by decide +kernel
theorem dX9_init_94 : decode cX9_init 94 = .ok (.aload_n 0, 1) := by decide +kernel
theorem dX9_init_95 : decode cX9_init 95 = .ok (.bipush 36, 2) := by decide +kernel
theorem dX9_init_97 : decode cX9_init 97 = .ok (.newarray .boolean, 2) := by decide +kernel
theorem dX9_init_99 : decode cX9_init 99 = .ok (.putfield 48, 3) := by decide +kernel
theorem dX9_init_102 : decode cX9_init 102 = .ok (.aload_n 0, 1) := by decide +kernel
theorem dX9_init_103 : decode cX9_init 103 = .ok (.sipush 1296, 3) := by decide +kernel
theorem dX9_init_106 : decode cX9_init 106 = .ok (.newarray .int, 2) := by decide +kernel
theorem dX9_init_108 : decode cX9_init 108 = .ok (.putfield 51, 3) := by decide +kernel
theorem dX9_init_111 : decode cX9_init 111 = .ok (.aload_n 0, 1) := by decide +kernel
theorem dX9_init_112 : decode cX9_init 112 = .ok (.bipush 36, 2) := by decide +kernel
theorem dX9_init_114 : decode cX9_init 114 = .ok (.newarray .int, 2) := by decide +kernel
theorem dX9_init_116 : decode cX9_init 116 = .ok (.putfield 54, 3) := by decide +kernel
theorem dX9_init_119 : decode cX9_init 119 = .ok (.aload_n 0, 1) := by decide +kernel
theorem dX9_init_120 : decode cX9_init 120 = .ok (.sipush 1296, 3) := by decide +kernel
theorem dX9_init_123 : decode cX9_init 123 = .ok (.newarray .int, 2) := by decide +kernel
theorem dX9_init_125 : decode cX9_init 125 = .ok (.putfield 57, 3) := by decide +kernel
theorem dX9_init_128 : decode cX9_init 128 = .ok (.aload_n 0, 1) := by decide +kernel
theorem dX9_init_129 : decode cX9_init 129 = .ok (.bipush 36, 2) := by decide +kernel
theorem dX9_init_131 : decode cX9_init 131 = .ok (.newarray .int, 2) := by decide +kernel
theorem dX9_init_133 : decode cX9_init 133 = .ok (.putfield 60, 3) := by decide +kernel
theorem dX9_init_136 : decode cX9_init 136 = .ok (.aload_n 0, 1) := by decide +kernel
theorem dX9_init_137 : decode cX9_init 137 = .ok (.bipush 36, 2) := by decide +kernel
theorem dX9_init_139 : decode cX9_init 139 = .ok (.newarray .int, 2) := by decide +kernel
theorem dX9_init_141 : decode cX9_init 141 = .ok (.putfield 63, 3) := by decide +kernel
theorem dX9_init_144 : decode cX9_init 144 = .ok (.aload_n 0, 1) := by decide +kernel
theorem dX9_init_145 : decode cX9_init 145 = .ok (.bipush 36, 2) := by decide +kernel
theorem dX9_init_147 : decode cX9_init 147 = .ok (.newarray .int, 2) := by decide +kernel
theorem dX9_init_149 : decode cX9_init 149 = .ok (.putfield 66, 3) := by decide +kernel
theorem dX9_init_152 : decode cX9_init 152 = .ok (.aload_n 0, 1) := by decide +kernel
theorem dX9_init_153 : decode cX9_init 153 = .ok (.bipush 36, 2) := by decide +kernel
theorem dX9_init_155 : decode cX9_init 155 = .ok (.newarray .int, 2) := by decide +kernel
theorem dX9_init_157 : decode cX9_init 157 = .ok (.putfield 69, 3) := by decide +kernel
theorem dX9_init_160 : decode cX9_init 160 = .ok (.aload_n 0, 1) := by decide +kernel
theorem dX9_init_161 : decode cX9_init 161 = .ok (.bipush 36, 2) := by decide +kernel
theorem dX9_init_163 : decode cX9_init 163 = .ok (.newarray .int, 2) := by decide +kernel
theorem dX9_init_165 : decode cX9_init 165 = .ok (.putfield 72, 3) := by decide +kernel
theorem dX9_init_168 : decode cX9_init 168 = .ok (.aload_n 0, 1) := by decide +kernel
theorem dX9_init_169 : decode cX9_init 169 = .ok (.sipush 1296, 3) := by decide +kernel
theorem dX9_init_172 : decode cX9_init 172 = .ok (.newarray .int, 2) := by decide +kernel
theorem dX9_init_174 : decode cX9_init 174 = .ok (.putfield 75, 3) := by decide +kernel
theorem dX9_init_177 : decode cX9_init 177 = .ok (.aload_n 0, 1) := by decide +kernel
theorem dX9_init_178 : decode cX9_init 178 = .ok (.sipush 1296, 3) := by decide +kernel
theorem dX9_init_181 : decode cX9_init 181 = .ok (.newarray .int, 2) := by decide +kernel
theorem dX9_init_183 : decode cX9_init 183 = .ok (.putfield 78, 3) := by decide +kernel
theorem dX9_init_186 : decode cX9_init 186 = .ok (.aload_n 0, 1) := by decide +kernel
theorem dX9_init_187 : decode cX9_init 187 = .ok (.sipush 1296, 3) := by decide +kernel
theorem dX9_init_190 : decode cX9_init 190 = .ok (.newarray .int, 2) := by decide +kernel
theorem dX9_init_192 : decode cX9_init 192 = .ok (.putfield 81, 3) := by decide +kernel
theorem dX9_init_195 : decode cX9_init 195 = .ok (.aload_n 0, 1) := by decide +kernel
theorem dX9_init_196 : decode cX9_init 196 = .ok (.bipush 36, 2) := by decide +kernel
theorem dX9_init_198 : decode cX9_init 198 = .ok (.newarray .int, 2) := by decide +kernel
theorem dX9_init_200 : decode cX9_init 200 = .ok (.putfield 84, 3) := by decide +kernel
theorem dX9_init_203 : decode cX9_init 203 = .ok (.aload_n 0, 1) := by decide +kernel
theorem dX9_init_204 : decode cX9_init 204 = .ok (.sipush 1296, 3) := by decide +kernel
theorem dX9_init_207 : decode cX9_init 207 = .ok (.newarray .int, 2) := by decide +kernel
theorem dX9_init_209 : decode cX9_init 209 = .ok (.putfield 87, 3) := by decide +kernel
theorem dX9_init_212 : decode cX9_init 212 = .ok (.aload_n 0, 1) := by decide +kernel
theorem dX9_init_213 : decode cX9_init 213 = .ok (.bipush 36, 2) := by decide +kernel
theorem dX9_init_215 : decode cX9_init 215 = .ok (.newarray .int, 2) := by decide +kernel
theorem dX9_init_217 : decode cX9_init 217 = .ok (.putfield 90, 3) := by decide +kernel
theorem dX9_init_220 : decode cX9_init 220 = .ok (.aload_n 0, 1) := by decide +kernel
theorem dX9_init_221 : decode cX9_init 221 = .ok (.bipush 36, 2) := by decide +kernel
theorem dX9_init_223 : decode cX9_init 223 = .ok (.newarray .int, 2) := by decide +kernel
theorem dX9_init_225 : decode cX9_init 225 = .ok (.putfield 93, 3) := by decide +kernel
theorem dX9_init_228 : decode cX9_init 228 = .ok (.aload_n 0, 1) := by decide +kernel
theorem dX9_init_229 : decode cX9_init 229 = .ok (.bipush 36, 2) := by decide +kernel
theorem dX9_init_231 : decode cX9_init 231 = .ok (.newarray .int, 2) := by decide +kernel
theorem dX9_init_233 : decode cX9_init 233 = .ok (.putfield 96, 3) := by decide +kernel
theorem dX9_init_236 : decode cX9_init 236 = .ok (.aload_n 0, 1) := by decide +kernel
theorem dX9_init_237 : decode cX9_init 237 = .ok (.bipush 36, 2) := by decide +kernel
theorem dX9_init_239 : decode cX9_init 239 = .ok (.newarray .int, 2) := by decide +kernel
theorem dX9_init_241 : decode cX9_init 241 = .ok (.putfield 99, 3) := by decide +kernel
theorem dX9_init_244 : decode cX9_init 244 = .ok (.aload_n 0, 1) := by decide +kernel
theorem dX9_init_245 : decode cX9_init 245 = .ok (.sipush 1296, 3) := by decide +kernel
theorem dX9_init_248 : decode cX9_init 248 = .ok (.newarray .int, 2) := by decide +kernel
theorem dX9_init_250 : decode cX9_init 250 = .ok (.putfield 102, 3) := by decide +kernel
theorem dX9_init_253 : decode cX9_init 253 = .ok (.aload_n 0, 1) := by decide +kernel
theorem dX9_init_254 : decode cX9_init 254 = .ok (.sipush 10001, 3) := by decide +kernel
theorem dX9_init_257 : decode cX9_init 257 = .ok (.newarray .int, 2) := by decide +kernel
theorem dX9_init_259 : decode cX9_init 259 = .ok (.putfield 105, 3) := by decide +kernel
theorem dX9_init_262 : decode cX9_init 262 = .ok (.aload_n 0, 1) := by decide +kernel
theorem dX9_init_263 : decode cX9_init 263 = .ok (.sipush 10001, 3) := by decide +kernel
theorem dX9_init_266 : decode cX9_init 266 = .ok (.newarray .int, 2) := by decide +kernel
theorem dX9_init_268 : decode cX9_init 268 = .ok (.putfield 108, 3) := by decide +kernel
theorem dX9_init_271 : decode cX9_init 271 = .ok (.aload_n 0, 1) := by decide +kernel
theorem dX9_init_272 : decode cX9_init 272 = .ok (.sipush 10001, 3) := by decide +kernel
theorem dX9_init_275 : decode cX9_init 275 = .ok (.newarray .int, 2) := by decide +kernel
theorem dX9_init_277 : decode cX9_init 277 = .ok (.putfield 111, 3) := by decide +kernel
theorem dX9_init_280 : decode cX9_init 280 = .ok (.aload_n 0, 1) := by decide +kernel
theorem dX9_init_281 : decode cX9_init 281 = .ok (.bipush 36, 2) := by decide +kernel
theorem dX9_init_283 : decode cX9_init 283 = .ok (.newarray .int, 2) := by decide +kernel
theorem dX9_init_285 : decode cX9_init 285 = .ok (.putfield 114, 3) := by decide +kernel
theorem dX9_init_288 : decode cX9_init 288 = .ok (.aload_n 0, 1) := by decide +kernel
theorem dX9_init_289 : decode cX9_init 289 = .ok (.bipush 36, 2) := by decide +kernel
theorem dX9_init_291 : decode cX9_init 291 = .ok (.newarray .int, 2) := by decide +kernel
theorem dX9_init_293 : decode cX9_init 293 = .ok (.putfield 117, 3) := by decide +kernel
theorem dX9_init_296 : decode cX9_init 296 = .ok (.aload_n 0, 1) := by decide +kernel
theorem dX9_init_297 : decode cX9_init 297 = .ok (.sipush 20001, 3) := by decide +kernel
theorem dX9_init_300 : decode cX9_init 300 = .ok (.newarray .int, 2) := by decide +kernel
theorem dX9_init_302 : decode cX9_init 302 = .ok (.putfield 120, 3) := by decide +kernel
theorem dX9_init_305 : decode cX9_init 305 = .ok (.aload_n 0, 1) := by decide +kernel
theorem dX9_init_306 : decode cX9_init 306 = .ok (.sipush 20001, 3) := by decide +kernel
theorem dX9_init_309 : decode cX9_init 309 = .ok (.newarray .int, 2) := by decide +kernel
theorem dX9_init_311 : decode cX9_init 311 = .ok (.putfield 123, 3) := by decide +kernel
theorem dX9_init_314 : decode cX9_init 314 = .ok (.aload_n 0, 1) := by decide +kernel
theorem dX9_init_315 : decode cX9_init 315 = .ok (.sipush 4096, 3) := by decide +kernel
theorem dX9_init_318 : decode cX9_init 318 = .ok (.newarray .boolean, 2) := by decide +kernel
theorem dX9_init_320 : decode cX9_init 320 = .ok (.putfield 126, 3) := by decide +kernel
theorem dX9_init_323 : decode cX9_init 323 = .ok (.aload_n 0, 1) := by decide +kernel
theorem dX9_init_324 : decode cX9_init 324 = .ok (.sipush 10836, 3) := by decide +kernel
theorem dX9_init_327 : decode cX9_init 327 = .ok (.newarray .int, 2) := by decide +kernel
theorem dX9_init_329 : decode cX9_init 329 = .ok (.putfield 129, 3) := by decide +kernel
theorem dX9_init_332 : decode cX9_init 332 = .ok (.aload_n 0, 1) := by decide +kernel
theorem dX9_init_333 : decode cX9_init 333 = .ok (.iconst 4, 1) := by decide +kernel
theorem dX9_init_334 : decode cX9_init 334 = .ok (.newarray .boolean, 2) := by decide +kernel
theorem dX9_init_336 : decode cX9_init 336 = .ok (.putfield 132, 3) := by decide +kernel
theorem dX9_init_339 : decode cX9_init 339 = .ok (.aload_n 0, 1) := by decide +kernel
theorem dX9_init_340 : decode cX9_init 340 = .ok (.sipush 144, 3) := by decide +kernel
theorem dX9_init_343 : decode cX9_init 343 = .ok (.newarray .int, 2) := by decide +kernel
theorem dX9_init_345 : decode cX9_init 345 = .ok (.putfield 135, 3) := by decide +kernel
theorem dX9_init_348 : decode cX9_init 348 = .ok (.return_, 1) := by decide +kernel
theorem dX9_thrown_0 : decode cX9_thrown 0 = .ok (.aload_n 0, 1) := by decide +kernel
theorem dX9_thrown_1 : decode cX9_thrown 1 = .ok (.getfield 138, 3) := by decide +kernel
theorem dX9_thrown_4 : decode cX9_thrown 4 = .ok (.ireturn, 1) := by decide +kernel
theorem dX9_right_0 : decode cX9_right 0 = .ok (.aload_n 0, 1) := by decide +kernel
theorem dX9_right_1 : decode cX9_right 1 = .ok (.getfield 138, 3) := by decide +kernel
theorem dX9_right_4 : decode cX9_right 4 = .ok (.ifCond .ne 12, 3) := by decide +kernel
theorem dX9_right_7 : decode cX9_right 7 = .ok (.iload_n 1, 1) := by decide +kernel
theorem dX9_right_8 : decode cX9_right 8 = .ok (.ifCond .ne 8, 3) := by decide +kernel
theorem dX9_right_11 : decode cX9_right 11 = .ok (.aload_n 0, 1) := by decide +kernel
theorem dX9_right_12 : decode cX9_right 12 = .ok (.iload_n 2, 1) := by decide +kernel
theorem dX9_right_13 : decode cX9_right 13 = .ok (.putfield 138, 3) := by decide +kernel
theorem dX9_right_16 : decode cX9_right 16 = .ok (.aload_n 0, 1) := by decide +kernel
theorem dX9_right_17 : decode cX9_right 17 = .ok (.getfield 138, 3) := by decide +kernel
theorem dX9_right_20 : decode cX9_right 20 = .ok (.ifCond .ne 7, 3) := by decide +kernel
theorem dX9_right_23 : decode cX9_right 23 = .ok (.iconst 1, 1) := by decide +kernel
theorem dX9_right_24 : decode cX9_right 24 = .ok (.goto 4, 3) := by decide +kernel
theorem dX9_right_27 : decode cX9_right 27 = .ok (.iconst 0, 1) := by decide +kernel
theorem dX9_right_28 : decode cX9_right 28 = .ok (.ireturn, 1) := by decide +kernel
theorem dX9_within_0 : decode cX9_within 0 = .ok (.iload_n 0, 1) := by decide +kernel
theorem dX9_within_1 : decode cX9_within 1 = .ok (.iload_n 1, 1) := by decide +kernel
theorem dX9_within_2 : decode cX9_within 2 = .ok (.if_icmp .lt 12, 3) := by decide +kernel
theorem dX9_within_5 : decode cX9_within 5 = .ok (.iload_n 0, 1) := by decide +kernel
theorem dX9_within_6 : decode cX9_within 6 = .ok (.iload_n 2, 1) := by decide +kernel
theorem dX9_within_7 : decode cX9_within 7 = .ok (.if_icmp .gt 7, 3) := by decide +kernel
theorem dX9_within_10 : decode cX9_within 10 = .ok (.iconst 1, 1) := by decide +kernel
theorem dX9_within_11 : decode cX9_within 11 = .ok (.goto 4, 3) := by decide +kernel
theorem dX9_within_14 : decode cX9_within 14 = .ok (.iconst 0, 1) := by decide +kernel
theorem dX9_within_15 : decode cX9_within 15 = .ok (.ireturn, 1) := by decide +kernel
theorem dX9_feed_0 : decode cX9_feed 0 = .ok (.aload_n 0, 1) := by decide +kernel
theorem dX9_feed_1 : decode cX9_feed 1 = .ok (.iconst 0, 1) := by decide +kernel
theorem dX9_feed_2 : decode cX9_feed 2 = .ok (.putfield 138, 3) := by decide +kernel
theorem dX9_feed_5 : decode cX9_feed 5 = .ok (.aload_n 0, 1) := by decide +kernel
theorem dX9_feed_6 : decode cX9_feed 6 = .ok (.getfield 141, 3) := by decide +kernel
theorem dX9_feed_9 : decode cX9_feed 9 = .ok (.bipush 20, 2) := by decide +kernel
theorem dX9_feed_11 : decode cX9_feed 11 = .ok (.iadd, 1) := by decide +kernel
theorem dX9_feed_12 : decode cX9_feed 12 = .ok (.sipush 500, 3) := by decide +kernel
theorem dX9_feed_15 : decode cX9_feed 15 = .ok (.if_icmp .le 5, 3) := by decide +kernel
theorem dX9_feed_18 : decode cX9_feed 18 = .ok (.iconst (-1), 1) := by decide +kernel
theorem dX9_feed_19 : decode cX9_feed 19 = .ok (.ireturn, 1) := by decide +kernel
theorem dX9_feed_20 : decode cX9_feed 20 = .ok (.aload_n 0, 1) := by decide +kernel
theorem dX9_feed_21 : decode cX9_feed 21 = .ok (.iload_n 1, 1) := by decide +kernel
theorem dX9_feed_22 : decode cX9_feed 22 = .ok (.invokevirtual 144, 3) := by decide +kernel
theorem dX9_feed_25 : decode cX9_feed 25 = .ok (.aload_n 0, 1) := by decide +kernel
theorem dX9_feed_26 : decode cX9_feed 26 = .ok (.iload_n 2, 1) := by decide +kernel
theorem dX9_feed_27 : decode cX9_feed 27 = .ok (.invokevirtual 144, 3) := by decide +kernel
theorem dX9_feed_30 : decode cX9_feed 30 = .ok (.aload_n 0, 1) := by decide +kernel
theorem dX9_feed_31 : decode cX9_feed 31 = .ok (.iload_n 3, 1) := by decide +kernel
theorem dX9_feed_32 : decode cX9_feed 32 = .ok (.invokevirtual 144, 3) := by decide +kernel
theorem dX9_feed_35 : decode cX9_feed 35 = .ok (.aload_n 0, 1) := by decide +kernel
theorem dX9_feed_36 : decode cX9_feed 36 = .ok (.iload 4, 2) := by decide +kernel
theorem dX9_feed_38 : decode cX9_feed 38 = .ok (.invokevirtual 144, 3) := by decide +kernel
theorem dX9_feed_41 : decode cX9_feed 41 = .ok (.aload_n 0, 1) := by decide +kernel
theorem dX9_feed_42 : decode cX9_feed 42 = .ok (.iload 5, 2) := by decide +kernel
theorem dX9_feed_44 : decode cX9_feed 44 = .ok (.invokevirtual 144, 3) := by decide +kernel
theorem dX9_feed_47 : decode cX9_feed 47 = .ok (.aload_n 0, 1) := by decide +kernel
theorem dX9_feed_48 : decode cX9_feed 48 = .ok (.getfield 141, 3) := by decide +kernel
theorem dX9_feed_51 : decode cX9_feed 51 = .ok (.ireturn, 1) := by decide +kernel
theorem dX9_lays_0 : decode cX9_lays 0 = .ok (.bipush 24, 2) := by decide +kernel
theorem dX9_lays_2 : decode cX9_lays 2 = .ok (.istore_n 2, 1) := by decide +kernel
theorem dX9_lays_3 : decode cX9_lays 3 = .ok (.iload_n 2, 1) := by decide +kernel
theorem dX9_lays_4 : decode cX9_lays 4 = .ok (.ifCond .lt 35, 3) := by decide +kernel
theorem dX9_lays_7 : decode cX9_lays 7 = .ok (.aload_n 0, 1) := by decide +kernel
theorem dX9_lays_8 : decode cX9_lays 8 = .ok (.getfield 33, 3) := by decide +kernel
theorem dX9_lays_11 : decode cX9_lays 11 = .ok (.aload_n 0, 1) := by decide +kernel
theorem dX9_lays_12 : decode cX9_lays 12 = .ok (.getfield 141, 3) := by decide +kernel
theorem dX9_lays_15 : decode cX9_lays 15 = .ok (.iload_n 1, 1) := by decide +kernel
theorem dX9_lays_16 : decode cX9_lays 16 = .ok (.iload_n 2, 1) := by decide +kernel
theorem dX9_lays_17 : decode cX9_lays 17 = .ok (.ishr, 1) := by decide +kernel
theorem dX9_lays_18 : decode cX9_lays 18 = .ok (.sipush 255, 3) := by decide +kernel
theorem dX9_lays_21 : decode cX9_lays 21 = .ok (.iand, 1) := by decide +kernel
theorem dX9_lays_22 : decode cX9_lays 22 = .ok (.iastore, 1) := by decide +kernel
theorem dX9_lays_23 : decode cX9_lays 23 = .ok (.aload_n 0, 1) := by decide +kernel
theorem dX9_lays_24 : decode cX9_lays 24 = .ok (.dup, 1) := by decide +kernel
theorem dX9_lays_25 : decode cX9_lays 25 = .ok (.getfield 141, 3) := by decide +kernel
theorem dX9_lays_28 : decode cX9_lays 28 = .ok (.iconst 1, 1) := by decide +kernel
theorem dX9_lays_29 : decode cX9_lays 29 = .ok (.iadd, 1) := by decide +kernel
theorem dX9_lays_30 : decode cX9_lays 30 = .ok (.putfield 141, 3) := by decide +kernel
theorem dX9_lays_33 : decode cX9_lays 33 = .ok (.iinc 2 (-8), 3) := by decide +kernel
theorem dX9_lays_36 : decode cX9_lays 36 = .ok (.goto (-33), 3) := by decide +kernel
theorem dX9_lays_39 : decode cX9_lays 39 = .ok (.return_, 1) := by decide +kernel
theorem dX9_byteAt_0 : decode cX9_byteAt 0 = .ok (.iload_n 1, 1) := by decide +kernel
theorem dX9_byteAt_1 : decode cX9_byteAt 1 = .ok (.aload_n 0, 1) := by decide +kernel
theorem dX9_byteAt_2 : decode cX9_byteAt 2 = .ok (.getfield 148, 3) := by decide +kernel
theorem dX9_byteAt_5 : decode cX9_byteAt 5 = .ok (.if_icmp .ge 12, 3) := by decide +kernel
theorem dX9_byteAt_8 : decode cX9_byteAt 8 = .ok (.aload_n 0, 1) := by decide +kernel
theorem dX9_byteAt_9 : decode cX9_byteAt 9 = .ok (.getfield 33, 3) := by decide +kernel
theorem dX9_byteAt_12 : decode cX9_byteAt 12 = .ok (.iload_n 1, 1) := by decide +kernel
theorem dX9_byteAt_13 : decode cX9_byteAt 13 = .ok (.iaload, 1) := by decide +kernel
theorem dX9_byteAt_14 : decode cX9_byteAt 14 = .ok (.goto 4, 3) := by decide +kernel
theorem dX9_byteAt_17 : decode cX9_byteAt 17 = .ok (.iconst 0, 1) := by decide +kernel
theorem dX9_byteAt_18 : decode cX9_byteAt 18 = .ok (.ireturn, 1) := by decide +kernel
theorem dX9_isLetter_0 : decode cX9_isLetter 0 = .ok (.iload_n 0, 1) := by decide +kernel
theorem dX9_isLetter_1 : decode cX9_isLetter 1 = .ok (.bipush 97, 2) := by decide +kernel
theorem dX9_isLetter_3 : decode cX9_isLetter 3 = .ok (.if_icmp .lt 13, 3) := by decide +kernel
theorem dX9_isLetter_6 : decode cX9_isLetter 6 = .ok (.iload_n 0, 1) := by decide +kernel
theorem dX9_isLetter_7 : decode cX9_isLetter 7 = .ok (.bipush 122, 2) := by decide +kernel
theorem dX9_isLetter_9 : decode cX9_isLetter 9 = .ok (.if_icmp .gt 7, 3) := by decide +kernel
theorem dX9_isLetter_12 : decode cX9_isLetter 12 = .ok (.iconst 1, 1) := by decide +kernel
theorem dX9_isLetter_13 : decode cX9_isLetter 13 = .ok (.goto 4, 3) := by decide +kernel
theorem dX9_isLetter_16 : decode cX9_isLetter 16 = .ok (.iconst 0, 1) := by decide +kernel
theorem dX9_isLetter_17 : decode cX9_isLetter 17 = .ok (.ireturn, 1) := by decide +kernel
theorem dX9_isDigit_0 : decode cX9_isDigit 0 = .ok (.iload_n 0, 1) := by decide +kernel
theorem dX9_isDigit_1 : decode cX9_isDigit 1 = .ok (.bipush 48, 2) := by decide +kernel
theorem dX9_isDigit_3 : decode cX9_isDigit 3 = .ok (.if_icmp .lt 13, 3) := by decide +kernel
theorem dX9_isDigit_6 : decode cX9_isDigit 6 = .ok (.iload_n 0, 1) := by decide +kernel
theorem dX9_isDigit_7 : decode cX9_isDigit 7 = .ok (.bipush 57, 2) := by decide +kernel
theorem dX9_isDigit_9 : decode cX9_isDigit 9 = .ok (.if_icmp .gt 7, 3) := by decide +kernel
theorem dX9_isDigit_12 : decode cX9_isDigit 12 = .ok (.iconst 1, 1) := by decide +kernel
theorem dX9_isDigit_13 : decode cX9_isDigit 13 = .ok (.goto 4, 3) := by decide +kernel
theorem dX9_isDigit_16 : decode cX9_isDigit 16 = .ok (.iconst 0, 1) := by decide +kernel
theorem dX9_isDigit_17 : decode cX9_isDigit 17 = .ok (.ireturn, 1) := by decide +kernel
theorem dX9_goes_0 : decode cX9_goes 0 = .ok (.aload_n 0, 1) := by decide +kernel
theorem dX9_goes_1 : decode cX9_goes 1 = .ok (.getfield 151, 3) := by decide +kernel
theorem dX9_goes_4 : decode cX9_goes 4 = .ok (.aload_n 0, 1) := by decide +kernel
theorem dX9_goes_5 : decode cX9_goes 5 = .ok (.getfield 148, 3) := by decide +kernel
theorem dX9_goes_8 : decode cX9_goes 8 = .ok (.if_icmp .ge 42, 3) := by decide +kernel
theorem dX9_goes_11 : decode cX9_goes 11 = .ok (.aload_n 0, 1) := by decide +kernel
theorem dX9_goes_12 : decode cX9_goes 12 = .ok (.aload_n 0, 1) := by decide +kernel
theorem dX9_goes_13 : decode cX9_goes 13 = .ok (.getfield 151, 3) := by decide +kernel
theorem dX9_goes_16 : decode cX9_goes 16 = .ok (.invokevirtual 154, 3) := by decide +kernel
theorem dX9_goes_19 : decode cX9_goes 19 = .ok (.bipush 32, 2) := by decide +kernel
theorem dX9_goes_21 : decode cX9_goes 21 = .ok (.if_icmp .eq 16, 3) := by decide +kernel
theorem dX9_goes_24 : decode cX9_goes 24 = .ok (.aload_n 0, 1) := by decide +kernel
theorem dX9_goes_25 : decode cX9_goes 25 = .ok (.aload_n 0, 1) := by decide +kernel
theorem dX9_goes_26 : decode cX9_goes 26 = .ok (.getfield 151, 3) := by decide +kernel
theorem dX9_goes_29 : decode cX9_goes 29 = .ok (.invokevirtual 154, 3) := by decide +kernel
theorem dX9_goes_32 : decode cX9_goes 32 = .ok (.bipush 10, 2) := by decide +kernel
theorem dX9_goes_34 : decode cX9_goes 34 = .ok (.if_icmp .ne 16, 3) := by decide +kernel
theorem dX9_goes_37 : decode cX9_goes 37 = .ok (.aload_n 0, 1) := by decide +kernel
theorem dX9_goes_38 : decode cX9_goes 38 = .ok (.dup, 1) := by decide +kernel
theorem dX9_goes_39 : decode cX9_goes 39 = .ok (.getfield 151, 3) := by decide +kernel
theorem dX9_goes_42 : decode cX9_goes 42 = .ok (.iconst 1, 1) := by decide +kernel
theorem dX9_goes_43 : decode cX9_goes 43 = .ok (.iadd, 1) := by decide +kernel
theorem dX9_goes_44 : decode cX9_goes 44 = .ok (.putfield 151, 3) := by decide +kernel
theorem dX9_goes_47 : decode cX9_goes 47 = .ok (.goto (-47), 3) := by decide +kernel
theorem dX9_goes_50 : decode cX9_goes 50 = .ok (.aload_n 0, 1) := by decide +kernel
theorem dX9_goes_51 : decode cX9_goes 51 = .ok (.aload_n 0, 1) := by decide +kernel
theorem dX9_goes_52 : decode cX9_goes 52 = .ok (.getfield 151, 3) := by decide +kernel
theorem dX9_goes_55 : decode cX9_goes 55 = .ok (.putfield 158, 3) := by decide +kernel
theorem dX9_goes_58 : decode cX9_goes 58 = .ok (.aload_n 0, 1) := by decide +kernel
theorem dX9_goes_59 : decode cX9_goes 59 = .ok (.lconst 0, 1) := by decide +kernel
theorem dX9_goes_60 : decode cX9_goes 60 = .ok (.putfield 161, 3) := by decide +kernel
theorem dX9_goes_63 : decode cX9_goes 63 = .ok (.aload_n 0, 1) := by decide +kernel
theorem dX9_goes_64 : decode cX9_goes 64 = .ok (.iconst 0, 1) := by decide +kernel
theorem dX9_goes_65 : decode cX9_goes 65 = .ok (.putfield 165, 3) := by decide +kernel
theorem dX9_goes_68 : decode cX9_goes 68 = .ok (.aload_n 0, 1) := by decide +kernel
theorem dX9_goes_69 : decode cX9_goes 69 = .ok (.aload_n 0, 1) := by decide +kernel
theorem dX9_goes_70 : decode cX9_goes 70 = .ok (.getfield 151, 3) := by decide +kernel
theorem dX9_goes_73 : decode cX9_goes 73 = .ok (.invokevirtual 154, 3) := by decide +kernel
theorem dX9_goes_76 : decode cX9_goes 76 = .ok (.istore_n 1, 1) := by decide +kernel
theorem dX9_goes_77 : decode cX9_goes 77 = .ok (.aload_n 0, 1) := by decide +kernel
theorem dX9_goes_78 : decode cX9_goes 78 = .ok (.getfield 151, 3) := by decide +kernel
theorem dX9_goes_81 : decode cX9_goes 81 = .ok (.aload_n 0, 1) := by decide +kernel
theorem dX9_goes_82 : decode cX9_goes 82 = .ok (.getfield 148, 3) := by decide +kernel
theorem dX9_goes_85 : decode cX9_goes 85 = .ok (.if_icmp .lt 11, 3) := by decide +kernel
theorem dX9_goes_88 : decode cX9_goes 88 = .ok (.aload_n 0, 1) := by decide +kernel
theorem dX9_goes_89 : decode cX9_goes 89 = .ok (.iconst 0, 1) := by decide +kernel
theorem dX9_goes_90 : decode cX9_goes 90 = .ok (.putfield 168, 3) := by decide +kernel
theorem dX9_goes_93 : decode cX9_goes 93 = .ok (.goto 185, 3) := by decide +kernel
theorem dX9_goes_96 : decode cX9_goes 96 = .ok (.iload_n 1, 1) := by decide +kernel
theorem dX9_goes_97 : decode cX9_goes 97 = .ok (.invokestatic 171, 3) := by decide +kernel
theorem dX9_goes_100 : decode cX9_goes 100 = .ok (.ifCond .eq 75, 3) := by decide +kernel
theorem dX9_goes_103 : decode cX9_goes 103 = .ok (.aload_n 0, 1) := by decide +kernel
theorem dX9_goes_104 : decode cX9_goes 104 = .ok (.aload_n 0, 1) := by decide +kernel
theorem dX9_goes_105 : decode cX9_goes 105 = .ok (.getfield 151, 3) := by decide +kernel
theorem dX9_goes_108 : decode cX9_goes 108 = .ok (.invokevirtual 154, 3) := by decide +kernel
theorem dX9_goes_111 : decode cX9_goes 111 = .ok (.invokestatic 171, 3) := by decide +kernel
theorem dX9_goes_114 : decode cX9_goes 114 = .ok (.ifCond .eq 53, 3) := by decide +kernel
theorem dX9_goes_117 : decode cX9_goes 117 = .ok (.aload_n 0, 1) := by decide +kernel
theorem dX9_goes_118 : decode cX9_goes 118 = .ok (.getfield 151, 3) := by decide +kernel
theorem dX9_goes_121 : decode cX9_goes 121 = .ok (.aload_n 0, 1) := by decide +kernel
theorem dX9_goes_122 : decode cX9_goes 122 = .ok (.getfield 158, 3) := by decide +kernel
theorem dX9_goes_125 : decode cX9_goes 125 = .ok (.isub, 1) := by decide +kernel
theorem dX9_goes_126 : decode cX9_goes 126 = .ok (.bipush 8, 2) := by decide +kernel
theorem dX9_goes_128 : decode cX9_goes 128 = .ok (.if_icmp .ge 26, 3) := by decide +kernel
theorem dX9_goes_131 : decode cX9_goes 131 = .ok (.aload_n 0, 1) := by decide +kernel
theorem dX9_goes_132 : decode cX9_goes 132 = .ok (.aload_n 0, 1) := by decide +kernel
theorem dX9_goes_133 : decode cX9_goes 133 = .ok (.getfield 161, 3) := by decide +kernel
theorem dX9_goes_136 : decode cX9_goes 136 = .ok (.iconst 5, 1) := by decide +kernel
theorem dX9_goes_137 : decode cX9_goes 137 = .ok (.lshl, 1) := by decide +kernel
theorem dX9_goes_138 : decode cX9_goes 138 = .ok (.aload_n 0, 1) := by decide +kernel
theorem dX9_goes_139 : decode cX9_goes 139 = .ok (.aload_n 0, 1) := by decide +kernel
theorem dX9_goes_140 : decode cX9_goes 140 = .ok (.getfield 151, 3) := by decide +kernel
theorem dX9_goes_143 : decode cX9_goes 143 = .ok (.invokevirtual 154, 3) := by decide +kernel
theorem dX9_goes_146 : decode cX9_goes 146 = .ok (.bipush 96, 2) := by decide +kernel
theorem dX9_goes_148 : decode cX9_goes 148 = .ok (.isub, 1) := by decide +kernel
theorem dX9_goes_149 : decode cX9_goes 149 = .ok (.i2l, 1) := by decide +kernel
theorem dX9_goes_150 : decode cX9_goes 150 = .ok (.lor, 1) := by decide +kernel
theorem dX9_goes_151 : decode cX9_goes 151 = .ok (.putfield 161, 3) := by decide +kernel
theorem dX9_goes_154 : decode cX9_goes 154 = .ok (.aload_n 0, 1) := by decide +kernel
theorem dX9_goes_155 : decode cX9_goes 155 = .ok (.dup, 1) := by decide +kernel
theorem dX9_goes_156 : decode cX9_goes 156 = .ok (.getfield 151, 3) := by decide +kernel
theorem dX9_goes_159 : decode cX9_goes 159 = .ok (.iconst 1, 1) := by decide +kernel
theorem dX9_goes_160 : decode cX9_goes 160 = .ok (.iadd, 1) := by decide +kernel
theorem dX9_goes_161 : decode cX9_goes 161 = .ok (.putfield 151, 3) := by decide +kernel
theorem dX9_goes_164 : decode cX9_goes 164 = .ok (.goto (-61), 3) := by decide +kernel
theorem dX9_goes_167 : decode cX9_goes 167 = .ok (.aload_n 0, 1) := by decide +kernel
theorem dX9_goes_168 : decode cX9_goes 168 = .ok (.iconst 1, 1) := by decide +kernel
theorem dX9_goes_169 : decode cX9_goes 169 = .ok (.putfield 168, 3) := by decide +kernel
theorem dX9_goes_172 : decode cX9_goes 172 = .ok (.goto 106, 3) := by decide +kernel
theorem dX9_goes_175 : decode cX9_goes 175 = .ok (.iload_n 1, 1) := by decide +kernel
theorem dX9_goes_176 : decode cX9_goes 176 = .ok (.invokestatic 175, 3) := by decide +kernel
theorem dX9_goes_179 : decode cX9_goes 179 = .ok (.ifCond .eq 74, 3) := by decide +kernel
theorem dX9_goes_182 : decode cX9_goes 182 = .ok (.aload_n 0, 1) := by decide +kernel
theorem dX9_goes_183 : decode cX9_goes 183 = .ok (.aload_n 0, 1) := by decide +kernel
theorem dX9_goes_184 : decode cX9_goes 184 = .ok (.getfield 151, 3) := by decide +kernel
theorem dX9_goes_187 : decode cX9_goes 187 = .ok (.invokevirtual 154, 3) := by decide +kernel
theorem dX9_goes_190 : decode cX9_goes 190 = .ok (.invokestatic 175, 3) := by decide +kernel
theorem dX9_goes_193 : decode cX9_goes 193 = .ok (.ifCond .eq 52, 3) := by decide +kernel
theorem dX9_goes_196 : decode cX9_goes 196 = .ok (.aload_n 0, 1) := by decide +kernel
theorem dX9_goes_197 : decode cX9_goes 197 = .ok (.getfield 151, 3) := by decide +kernel
theorem dX9_goes_200 : decode cX9_goes 200 = .ok (.aload_n 0, 1) := by decide +kernel
theorem dX9_goes_201 : decode cX9_goes 201 = .ok (.getfield 158, 3) := by decide +kernel
theorem dX9_goes_204 : decode cX9_goes 204 = .ok (.isub, 1) := by decide +kernel
theorem dX9_goes_205 : decode cX9_goes 205 = .ok (.iconst 3, 1) := by decide +kernel
theorem dX9_goes_206 : decode cX9_goes 206 = .ok (.if_icmp .ge 26, 3) := by decide +kernel
theorem dX9_goes_209 : decode cX9_goes 209 = .ok (.aload_n 0, 1) := by decide +kernel
theorem dX9_goes_210 : decode cX9_goes 210 = .ok (.bipush 10, 2) := by decide +kernel
theorem dX9_goes_212 : decode cX9_goes 212 = .ok (.aload_n 0, 1) := by decide +kernel
theorem dX9_goes_213 : decode cX9_goes 213 = .ok (.getfield 165, 3) := by decide +kernel
theorem dX9_goes_216 : decode cX9_goes 216 = .ok (.imul, 1) := by decide +kernel
theorem dX9_goes_217 : decode cX9_goes 217 = .ok (.aload_n 0, 1) := by decide +kernel
theorem dX9_goes_218 : decode cX9_goes 218 = .ok (.aload_n 0, 1) := by decide +kernel
theorem dX9_goes_219 : decode cX9_goes 219 = .ok (.getfield 151, 3) := by decide +kernel
theorem dX9_goes_222 : decode cX9_goes 222 = .ok (.invokevirtual 154, 3) := by decide +kernel
theorem dX9_goes_225 : decode cX9_goes 225 = .ok (.iadd, 1) := by decide +kernel
theorem dX9_goes_226 : decode cX9_goes 226 = .ok (.bipush 48, 2) := by decide +kernel
theorem dX9_goes_228 : decode cX9_goes 228 = .ok (.isub, 1) := by decide +kernel
theorem dX9_goes_229 : decode cX9_goes 229 = .ok (.putfield 165, 3) := by decide +kernel
theorem dX9_goes_232 : decode cX9_goes 232 = .ok (.aload_n 0, 1) := by decide +kernel
theorem dX9_goes_233 : decode cX9_goes 233 = .ok (.dup, 1) := by decide +kernel
theorem dX9_goes_234 : decode cX9_goes 234 = .ok (.getfield 151, 3) := by decide +kernel
theorem dX9_goes_237 : decode cX9_goes 237 = .ok (.iconst 1, 1) := by decide +kernel
theorem dX9_goes_238 : decode cX9_goes 238 = .ok (.iadd, 1) := by decide +kernel
theorem dX9_goes_239 : decode cX9_goes 239 = .ok (.putfield 151, 3) := by decide +kernel
theorem dX9_goes_242 : decode cX9_goes 242 = .ok (.goto (-60), 3) := by decide +kernel
theorem dX9_goes_245 : decode cX9_goes 245 = .ok (.aload_n 0, 1) := by decide +kernel
theorem dX9_goes_246 : decode cX9_goes 246 = .ok (.iconst 2, 1) := by decide +kernel
theorem dX9_goes_247 : decode cX9_goes 247 = .ok (.putfield 168, 3) := by decide +kernel
theorem dX9_goes_250 : decode cX9_goes 250 = .ok (.goto 28, 3) := by decide +kernel
theorem dX9_goes_253 : decode cX9_goes 253 = .ok (.aload_n 0, 1) := by decide +kernel
theorem dX9_goes_254 : decode cX9_goes 254 = .ok (.dup, 1) := by decide +kernel
theorem dX9_goes_255 : decode cX9_goes 255 = .ok (.getfield 151, 3) := by decide +kernel
theorem dX9_goes_258 : decode cX9_goes 258 = .ok (.iconst 1, 1) := by decide +kernel
theorem dX9_goes_259 : decode cX9_goes 259 = .ok (.iadd, 1) := by decide +kernel
theorem dX9_goes_260 : decode cX9_goes 260 = .ok (.putfield 151, 3) := by decide +kernel
theorem dX9_goes_263 : decode cX9_goes 263 = .ok (.aload_n 0, 1) := by decide +kernel
theorem dX9_goes_264 : decode cX9_goes 264 = .ok (.iload_n 1, 1) := by decide +kernel
theorem dX9_goes_265 : decode cX9_goes 265 = .ok (.bipush 59, 2) := by decide +kernel
theorem dX9_goes_267 : decode cX9_goes 267 = .ok (.if_icmp .ne 7, 3) := by decide +kernel
theorem dX9_goes_270 : decode cX9_goes 270 = .ok (.iconst 3, 1) := by decide +kernel
theorem dX9_goes_271 : decode cX9_goes 271 = .ok (.goto 4, 3) := by decide +kernel
theorem dX9_goes_274 : decode cX9_goes 274 = .ok (.iconst 4, 1) := by decide +kernel
theorem dX9_goes_275 : decode cX9_goes 275 = .ok (.putfield 168, 3) := by decide +kernel
theorem dX9_goes_278 : decode cX9_goes 278 = .ok (.aload_n 0, 1) := by decide +kernel
theorem dX9_goes_279 : decode cX9_goes 279 = .ok (.aload_n 0, 1) := by decide +kernel
theorem dX9_goes_280 : decode cX9_goes 280 = .ok (.getfield 151, 3) := by decide +kernel
theorem dX9_goes_283 : decode cX9_goes 283 = .ok (.aload_n 0, 1) := by decide +kernel
theorem dX9_goes_284 : decode cX9_goes 284 = .ok (.getfield 158, 3) := by decide +kernel
theorem dX9_goes_287 : decode cX9_goes 287 = .ok (.isub, 1) := by decide +kernel
theorem dX9_goes_288 : decode cX9_goes 288 = .ok (.putfield 178, 3) := by decide +kernel
theorem dX9_goes_291 : decode cX9_goes 291 = .ok (.return_, 1) := by decide +kernel
theorem dX9_spelled_0 : decode cX9_spelled 0 = .ok (.iload_n 0, 1) := by decide +kernel
theorem dX9_spelled_1 : decode cX9_spelled 1 = .ok (.bipush 96, 2) := by decide +kernel
theorem dX9_spelled_3 : decode cX9_spelled 3 = .ok (.isub, 1) := by decide +kernel
theorem dX9_spelled_4 : decode cX9_spelled 4 = .ok (.i2l, 1) := by decide +kernel
theorem dX9_spelled_5 : decode cX9_spelled 5 = .ok (.lstore 7, 2) := by decide +kernel
theorem dX9_spelled_7 : decode cX9_spelled 7 = .ok (.iload_n 1, 1) := by decide +kernel
theorem dX9_spelled_8 : decode cX9_spelled 8 = .ok (.ifCond .eq 15, 3) := by decide +kernel
theorem dX9_spelled_11 : decode cX9_spelled 11 = .ok (.lload 7, 2) := by decide +kernel
theorem dX9_spelled_13 : decode cX9_spelled 13 = .ok (.iconst 5, 1) := by decide +kernel
theorem dX9_spelled_14 : decode cX9_spelled 14 = .ok (.lshl, 1) := by decide +kernel
theorem dX9_spelled_15 : decode cX9_spelled 15 = .ok (.iload_n 1, 1) := by decide +kernel
theorem dX9_spelled_16 : decode cX9_spelled 16 = .ok (.bipush 96, 2) := by decide +kernel
theorem dX9_spelled_18 : decode cX9_spelled 18 = .ok (.isub, 1) := by decide +kernel
theorem dX9_spelled_19 : decode cX9_spelled 19 = .ok (.i2l, 1) := by decide +kernel
theorem dX9_spelled_20 : decode cX9_spelled 20 = .ok (.lor, 1) := by decide +kernel
theorem dX9_spelled_21 : decode cX9_spelled 21 = .ok (.lstore 7, 2) := by decide +kernel
theorem dX9_spelled_23 : decode cX9_spelled 23 = .ok (.iload_n 2, 1) := by decide +kernel
theorem dX9_spelled_24 : decode cX9_spelled 24 = .ok (.ifCond .eq 15, 3) := by decide +kernel
theorem dX9_spelled_27 : decode cX9_spelled 27 = .ok (.lload 7, 2) := by decide +kernel
theorem dX9_spelled_29 : decode cX9_spelled 29 = .ok (.iconst 5, 1) := by decide +kernel
theorem dX9_spelled_30 : decode cX9_spelled 30 = .ok (.lshl, 1) := by decide +kernel
theorem dX9_spelled_31 : decode cX9_spelled 31 = .ok (.iload_n 2, 1) := by decide +kernel
theorem dX9_spelled_32 : decode cX9_spelled 32 = .ok (.bipush 96, 2) := by decide +kernel
theorem dX9_spelled_34 : decode cX9_spelled 34 = .ok (.isub, 1) := by decide +kernel
theorem dX9_spelled_35 : decode cX9_spelled 35 = .ok (.i2l, 1) := by decide +kernel
theorem dX9_spelled_36 : decode cX9_spelled 36 = .ok (.lor, 1) := by decide +kernel
theorem dX9_spelled_37 : decode cX9_spelled 37 = .ok (.lstore 7, 2) := by decide +kernel
theorem dX9_spelled_39 : decode cX9_spelled 39 = .ok (.iload_n 3, 1) := by decide +kernel
theorem dX9_spelled_40 : decode cX9_spelled 40 = .ok (.ifCond .eq 15, 3) := by decide +kernel
theorem dX9_spelled_43 : decode cX9_spelled 43 = .ok (.lload 7, 2) := by decide +kernel
theorem dX9_spelled_45 : decode cX9_spelled 45 = .ok (.iconst 5, 1) := by decide +kernel
theorem dX9_spelled_46 : decode cX9_spelled 46 = .ok (.lshl, 1) := by decide +kernel
theorem dX9_spelled_47 : decode cX9_spelled 47 = .ok (.iload_n 3, 1) := by decide +kernel
theorem dX9_spelled_48 : decode cX9_spelled 48 = .ok (.bipush 96, 2) := by decide +kernel
theorem dX9_spelled_50 : decode cX9_spelled 50 = .ok (.isub, 1) := by decide +kernel
theorem dX9_spelled_51 : decode cX9_spelled 51 = .ok (.i2l, 1) := by decide +kernel
theorem dX9_spelled_52 : decode cX9_spelled 52 = .ok (.lor, 1) := by decide +kernel
theorem dX9_spelled_53 : decode cX9_spelled 53 = .ok (.lstore 7, 2) := by decide +kernel
theorem dX9_spelled_55 : decode cX9_spelled 55 = .ok (.iload 4, 2) := by decide +kernel
theorem dX9_spelled_57 : decode cX9_spelled 57 = .ok (.ifCond .eq 16, 3) := by decide +kernel
theorem dX9_spelled_60 : decode cX9_spelled 60 = .ok (.lload 7, 2) := by decide +kernel
theorem dX9_spelled_62 : decode cX9_spelled 62 = .ok (.iconst 5, 1) := by decide +kernel
theorem dX9_spelled_63 : decode cX9_spelled 63 = .ok (.lshl, 1) := by decide +kernel
theorem dX9_spelled_64 : decode cX9_spelled 64 = .ok (.iload 4, 2) := by decide +kernel
theorem dX9_spelled_66 : decode cX9_spelled 66 = .ok (.bipush 96, 2) := by decide +kernel
theorem dX9_spelled_68 : decode cX9_spelled 68 = .ok (.isub, 1) := by decide +kernel
theorem dX9_spelled_69 : decode cX9_spelled 69 = .ok (.i2l, 1) := by decide +kernel
theorem dX9_spelled_70 : decode cX9_spelled 70 = .ok (.lor, 1) := by decide +kernel
theorem dX9_spelled_71 : decode cX9_spelled 71 = .ok (.lstore 7, 2) := by decide +kernel
theorem dX9_spelled_73 : decode cX9_spelled 73 = .ok (.iload 5, 2) := by decide +kernel
theorem dX9_spelled_75 : decode cX9_spelled 75 = .ok (.ifCond .eq 16, 3) := by decide +kernel
theorem dX9_spelled_78 : decode cX9_spelled 78 = .ok (.lload 7, 2) := by decide +kernel
theorem dX9_spelled_80 : decode cX9_spelled 80 = .ok (.iconst 5, 1) := by decide +kernel
theorem dX9_spelled_81 : decode cX9_spelled 81 = .ok (.lshl, 1) := by decide +kernel
theorem dX9_spelled_82 : decode cX9_spelled 82 = .ok (.iload 5, 2) := by decide +kernel
theorem dX9_spelled_84 : decode cX9_spelled 84 = .ok (.bipush 96, 2) := by decide +kernel
theorem dX9_spelled_86 : decode cX9_spelled 86 = .ok (.isub, 1) := by decide +kernel
theorem dX9_spelled_87 : decode cX9_spelled 87 = .ok (.i2l, 1) := by decide +kernel
theorem dX9_spelled_88 : decode cX9_spelled 88 = .ok (.lor, 1) := by decide +kernel
theorem dX9_spelled_89 : decode cX9_spelled 89 = .ok (.lstore 7, 2) := by decide +kernel
theorem dX9_spelled_91 : decode cX9_spelled 91 = .ok (.iload 6, 2) := by decide +kernel
theorem dX9_spelled_93 : decode cX9_spelled 93 = .ok (.ifCond .eq 16, 3) := by decide +kernel
theorem dX9_spelled_96 : decode cX9_spelled 96 = .ok (.lload 7, 2) := by decide +kernel
theorem dX9_spelled_98 : decode cX9_spelled 98 = .ok (.iconst 5, 1) := by decide +kernel
theorem dX9_spelled_99 : decode cX9_spelled 99 = .ok (.lshl, 1) := by decide +kernel
theorem dX9_spelled_100 : decode cX9_spelled 100 = .ok (.iload 6, 2) := by decide +kernel
theorem dX9_spelled_102 : decode cX9_spelled 102 = .ok (.bipush 96, 2) := by decide +kernel
theorem dX9_spelled_104 : decode cX9_spelled 104 = .ok (.isub, 1) := by decide +kernel
theorem dX9_spelled_105 : decode cX9_spelled 105 = .ok (.i2l, 1) := by decide +kernel
theorem dX9_spelled_106 : decode cX9_spelled 106 = .ok (.lor, 1) := by decide +kernel
theorem dX9_spelled_107 : decode cX9_spelled 107 = .ok (.lstore 7, 2) := by decide +kernel
theorem dX9_spelled_109 : decode cX9_spelled 109 = .ok (.lload 7, 2) := by decide +kernel
theorem dX9_spelled_111 : decode cX9_spelled 111 = .ok (.lreturn, 1) := by decide +kernel
theorem dX9_letters_0 : decode cX9_letters 0 = .ok (.iload_n 0, 1) := by decide +kernel
theorem dX9_letters_1 : decode cX9_letters 1 = .ok (.tableswitch 304 0 14 #[75, 90, 105, 121, 136, 150, 167, 182, 199, 213, 231, 247, 261, 276, 291], 75) := by decide +kernel
theorem dX9_letters_76 : decode cX9_letters 76 = .ok (.bipush 115, 2) := by decide +kernel
theorem dX9_letters_78 : decode cX9_letters 78 = .ok (.bipush 101, 2) := by decide +kernel
theorem dX9_letters_80 : decode cX9_letters 80 = .ok (.bipush 108, 2) := by decide +kernel
theorem dX9_letters_82 : decode cX9_letters 82 = .ok (.bipush 102, 2) := by decide +kernel
theorem dX9_letters_84 : decode cX9_letters 84 = .ok (.iconst 0, 1) := by decide +kernel
theorem dX9_letters_85 : decode cX9_letters 85 = .ok (.iconst 0, 1) := by decide +kernel
theorem dX9_letters_86 : decode cX9_letters 86 = .ok (.iconst 0, 1) := by decide +kernel
theorem dX9_letters_87 : decode cX9_letters 87 = .ok (.invokestatic 181, 3) := by decide +kernel
theorem dX9_letters_90 : decode cX9_letters 90 = .ok (.lreturn, 1) := by decide +kernel
theorem dX9_letters_91 : decode cX9_letters 91 = .ok (.bipush 115, 2) := by decide +kernel
theorem dX9_letters_93 : decode cX9_letters 93 = .ok (.bipush 105, 2) := by decide +kernel
theorem dX9_letters_95 : decode cX9_letters 95 = .ok (.bipush 100, 2) := by decide +kernel
theorem dX9_letters_97 : decode cX9_letters 97 = .ok (.bipush 101, 2) := by decide +kernel
theorem dX9_letters_99 : decode cX9_letters 99 = .ok (.iconst 0, 1) := by decide +kernel
theorem dX9_letters_100 : decode cX9_letters 100 = .ok (.iconst 0, 1) := by decide +kernel
theorem dX9_letters_101 : decode cX9_letters 101 = .ok (.iconst 0, 1) := by decide +kernel
theorem dX9_letters_102 : decode cX9_letters 102 = .ok (.invokestatic 181, 3) := by decide +kernel
theorem dX9_letters_105 : decode cX9_letters 105 = .ok (.lreturn, 1) := by decide +kernel
theorem dX9_letters_106 : decode cX9_letters 106 = .ok (.bipush 115, 2) := by decide +kernel
theorem dX9_letters_108 : decode cX9_letters 108 = .ok (.bipush 108, 2) := by decide +kernel
theorem dX9_letters_110 : decode cX9_letters 110 = .ok (.bipush 97, 2) := by decide +kernel
theorem dX9_letters_112 : decode cX9_letters 112 = .ok (.bipush 110, 2) := by decide +kernel
theorem dX9_letters_114 : decode cX9_letters 114 = .ok (.bipush 116, 2) := by decide +kernel
theorem dX9_letters_116 : decode cX9_letters 116 = .ok (.iconst 0, 1) := by decide +kernel
theorem dX9_letters_117 : decode cX9_letters 117 = .ok (.iconst 0, 1) := by decide +kernel
theorem dX9_letters_118 : decode cX9_letters 118 = .ok (.invokestatic 181, 3) := by decide +kernel
theorem dX9_letters_121 : decode cX9_letters 121 = .ok (.lreturn, 1) := by decide +kernel
theorem dX9_letters_122 : decode cX9_letters 122 = .ok (.bipush 108, 2) := by decide +kernel
theorem dX9_letters_124 : decode cX9_letters 124 = .ok (.bipush 101, 2) := by decide +kernel
theorem dX9_letters_126 : decode cX9_letters 126 = .ok (.bipush 97, 2) := by decide +kernel
theorem dX9_letters_128 : decode cX9_letters 128 = .ok (.bipush 112, 2) := by decide +kernel
theorem dX9_letters_130 : decode cX9_letters 130 = .ok (.iconst 0, 1) := by decide +kernel
theorem dX9_letters_131 : decode cX9_letters 131 = .ok (.iconst 0, 1) := by decide +kernel
theorem dX9_letters_132 : decode cX9_letters 132 = .ok (.iconst 0, 1) := by decide +kernel
theorem dX9_letters_133 : decode cX9_letters 133 = .ok (.invokestatic 181, 3) := by decide +kernel
theorem dX9_letters_136 : decode cX9_letters 136 = .ok (.lreturn, 1) := by decide +kernel
theorem dX9_letters_137 : decode cX9_letters 137 = .ok (.bipush 114, 2) := by decide +kernel
theorem dX9_letters_139 : decode cX9_letters 139 = .ok (.bipush 111, 2) := by decide +kernel
theorem dX9_letters_141 : decode cX9_letters 141 = .ok (.bipush 119, 2) := by decide +kernel
theorem dX9_letters_143 : decode cX9_letters 143 = .ok (.iconst 0, 1) := by decide +kernel
theorem dX9_letters_144 : decode cX9_letters 144 = .ok (.iconst 0, 1) := by decide +kernel
theorem dX9_letters_145 : decode cX9_letters 145 = .ok (.iconst 0, 1) := by decide +kernel
theorem dX9_letters_146 : decode cX9_letters 146 = .ok (.iconst 0, 1) := by decide +kernel
theorem dX9_letters_147 : decode cX9_letters 147 = .ok (.invokestatic 181, 3) := by decide +kernel
theorem dX9_letters_150 : decode cX9_letters 150 = .ok (.lreturn, 1) := by decide +kernel
theorem dX9_letters_151 : decode cX9_letters 151 = .ok (.bipush 99, 2) := by decide +kernel
theorem dX9_letters_153 : decode cX9_letters 153 = .ok (.bipush 111, 2) := by decide +kernel
theorem dX9_letters_155 : decode cX9_letters 155 = .ok (.bipush 108, 2) := by decide +kernel
theorem dX9_letters_157 : decode cX9_letters 157 = .ok (.bipush 117, 2) := by decide +kernel
theorem dX9_letters_159 : decode cX9_letters 159 = .ok (.bipush 109, 2) := by decide +kernel
theorem dX9_letters_161 : decode cX9_letters 161 = .ok (.bipush 110, 2) := by decide +kernel
theorem dX9_letters_163 : decode cX9_letters 163 = .ok (.iconst 0, 1) := by decide +kernel
theorem dX9_letters_164 : decode cX9_letters 164 = .ok (.invokestatic 181, 3) := by decide +kernel
theorem dX9_letters_167 : decode cX9_letters 167 = .ok (.lreturn, 1) := by decide +kernel
theorem dX9_letters_168 : decode cX9_letters 168 = .ok (.bipush 119, 2) := by decide +kernel
theorem dX9_letters_170 : decode cX9_letters 170 = .ok (.bipush 105, 2) := by decide +kernel
theorem dX9_letters_172 : decode cX9_letters 172 = .ok (.bipush 114, 2) := by decide +kernel
theorem dX9_letters_174 : decode cX9_letters 174 = .ok (.bipush 101, 2) := by decide +kernel
theorem dX9_letters_176 : decode cX9_letters 176 = .ok (.iconst 0, 1) := by decide +kernel
theorem dX9_letters_177 : decode cX9_letters 177 = .ok (.iconst 0, 1) := by decide +kernel
theorem dX9_letters_178 : decode cX9_letters 178 = .ok (.iconst 0, 1) := by decide +kernel
theorem dX9_letters_179 : decode cX9_letters 179 = .ok (.invokestatic 181, 3) := by decide +kernel
theorem dX9_letters_182 : decode cX9_letters 182 = .ok (.lreturn, 1) := by decide +kernel
theorem dX9_letters_183 : decode cX9_letters 183 = .ok (.bipush 98, 2) := by decide +kernel
theorem dX9_letters_185 : decode cX9_letters 185 = .ok (.bipush 117, 2) := by decide +kernel
theorem dX9_letters_187 : decode cX9_letters 187 = .ok (.bipush 116, 2) := by decide +kernel
theorem dX9_letters_189 : decode cX9_letters 189 = .ok (.bipush 116, 2) := by decide +kernel
theorem dX9_letters_191 : decode cX9_letters 191 = .ok (.bipush 111, 2) := by decide +kernel
theorem dX9_letters_193 : decode cX9_letters 193 = .ok (.bipush 110, 2) := by decide +kernel
theorem dX9_letters_195 : decode cX9_letters 195 = .ok (.iconst 0, 1) := by decide +kernel
theorem dX9_letters_196 : decode cX9_letters 196 = .ok (.invokestatic 181, 3) := by decide +kernel
theorem dX9_letters_199 : decode cX9_letters 199 = .ok (.lreturn, 1) := by decide +kernel
theorem dX9_letters_200 : decode cX9_letters 200 = .ok (.bipush 106, 2) := by decide +kernel
theorem dX9_letters_202 : decode cX9_letters 202 = .ok (.bipush 97, 2) := by decide +kernel
theorem dX9_letters_204 : decode cX9_letters 204 = .ok (.bipush 109, 2) := by decide +kernel
theorem dX9_letters_206 : decode cX9_letters 206 = .ok (.iconst 0, 1) := by decide +kernel
theorem dX9_letters_207 : decode cX9_letters 207 = .ok (.iconst 0, 1) := by decide +kernel
theorem dX9_letters_208 : decode cX9_letters 208 = .ok (.iconst 0, 1) := by decide +kernel
theorem dX9_letters_209 : decode cX9_letters 209 = .ok (.iconst 0, 1) := by decide +kernel
theorem dX9_letters_210 : decode cX9_letters 210 = .ok (.invokestatic 181, 3) := by decide +kernel
theorem dX9_letters_213 : decode cX9_letters 213 = .ok (.lreturn, 1) := by decide +kernel
theorem dX9_letters_214 : decode cX9_letters 214 = .ok (.bipush 99, 2) := by decide +kernel
theorem dX9_letters_216 : decode cX9_letters 216 = .ok (.bipush 111, 2) := by decide +kernel
theorem dX9_letters_218 : decode cX9_letters 218 = .ok (.bipush 108, 2) := by decide +kernel
theorem dX9_letters_220 : decode cX9_letters 220 = .ok (.bipush 111, 2) := by decide +kernel
theorem dX9_letters_222 : decode cX9_letters 222 = .ok (.bipush 117, 2) := by decide +kernel
theorem dX9_letters_224 : decode cX9_letters 224 = .ok (.bipush 114, 2) := by decide +kernel
theorem dX9_letters_226 : decode cX9_letters 226 = .ok (.bipush 115, 2) := by decide +kernel
theorem dX9_letters_228 : decode cX9_letters 228 = .ok (.invokestatic 181, 3) := by decide +kernel
theorem dX9_letters_231 : decode cX9_letters 231 = .ok (.lreturn, 1) := by decide +kernel
theorem dX9_letters_232 : decode cX9_letters 232 = .ok (.bipush 98, 2) := by decide +kernel
theorem dX9_letters_234 : decode cX9_letters 234 = .ok (.bipush 111, 2) := by decide +kernel
theorem dX9_letters_236 : decode cX9_letters 236 = .ok (.bipush 97, 2) := by decide +kernel
theorem dX9_letters_238 : decode cX9_letters 238 = .ok (.bipush 114, 2) := by decide +kernel
theorem dX9_letters_240 : decode cX9_letters 240 = .ok (.bipush 100, 2) := by decide +kernel
theorem dX9_letters_242 : decode cX9_letters 242 = .ok (.iconst 0, 1) := by decide +kernel
theorem dX9_letters_243 : decode cX9_letters 243 = .ok (.iconst 0, 1) := by decide +kernel
theorem dX9_letters_244 : decode cX9_letters 244 = .ok (.invokestatic 181, 3) := by decide +kernel
theorem dX9_letters_247 : decode cX9_letters 247 = .ok (.lreturn, 1) := by decide +kernel
theorem dX9_letters_248 : decode cX9_letters 248 = .ok (.bipush 110, 2) := by decide +kernel
theorem dX9_letters_250 : decode cX9_letters 250 = .ok (.bipush 101, 2) := by decide +kernel
theorem dX9_letters_252 : decode cX9_letters 252 = .ok (.bipush 116, 2) := by decide +kernel
theorem dX9_letters_254 : decode cX9_letters 254 = .ok (.iconst 0, 1) := by decide +kernel
theorem dX9_letters_255 : decode cX9_letters 255 = .ok (.iconst 0, 1) := by decide +kernel
theorem dX9_letters_256 : decode cX9_letters 256 = .ok (.iconst 0, 1) := by decide +kernel
theorem dX9_letters_257 : decode cX9_letters 257 = .ok (.iconst 0, 1) := by decide +kernel
theorem dX9_letters_258 : decode cX9_letters 258 = .ok (.invokestatic 181, 3) := by decide +kernel
theorem dX9_letters_261 : decode cX9_letters 261 = .ok (.lreturn, 1) := by decide +kernel
theorem dX9_letters_262 : decode cX9_letters 262 = .ok (.bipush 114, 2) := by decide +kernel
theorem dX9_letters_264 : decode cX9_letters 264 = .ok (.bipush 105, 2) := by decide +kernel
theorem dX9_letters_266 : decode cX9_letters 266 = .ok (.bipush 110, 2) := by decide +kernel
theorem dX9_letters_268 : decode cX9_letters 268 = .ok (.bipush 103, 2) := by decide +kernel
theorem dX9_letters_270 : decode cX9_letters 270 = .ok (.iconst 0, 1) := by decide +kernel
theorem dX9_letters_271 : decode cX9_letters 271 = .ok (.iconst 0, 1) := by decide +kernel
theorem dX9_letters_272 : decode cX9_letters 272 = .ok (.iconst 0, 1) := by decide +kernel
theorem dX9_letters_273 : decode cX9_letters 273 = .ok (.invokestatic 181, 3) := by decide +kernel
theorem dX9_letters_276 : decode cX9_letters 276 = .ok (.lreturn, 1) := by decide +kernel
theorem dX9_letters_277 : decode cX9_letters 277 = .ok (.bipush 98, 2) := by decide +kernel
theorem dX9_letters_279 : decode cX9_letters 279 = .ok (.bipush 111, 2) := by decide +kernel
theorem dX9_letters_281 : decode cX9_letters 281 = .ok (.bipush 116, 2) := by decide +kernel
theorem dX9_letters_283 : decode cX9_letters 283 = .ok (.bipush 104, 2) := by decide +kernel
theorem dX9_letters_285 : decode cX9_letters 285 = .ok (.iconst 0, 1) := by decide +kernel
theorem dX9_letters_286 : decode cX9_letters 286 = .ok (.iconst 0, 1) := by decide +kernel
theorem dX9_letters_287 : decode cX9_letters 287 = .ok (.iconst 0, 1) := by decide +kernel
theorem dX9_letters_288 : decode cX9_letters 288 = .ok (.invokestatic 181, 3) := by decide +kernel
theorem dX9_letters_291 : decode cX9_letters 291 = .ok (.lreturn, 1) := by decide +kernel
theorem dX9_letters_292 : decode cX9_letters 292 = .ok (.bipush 98, 2) := by decide +kernel
theorem dX9_letters_294 : decode cX9_letters 294 = .ok (.bipush 121, 2) := by decide +kernel
theorem dX9_letters_296 : decode cX9_letters 296 = .ok (.iconst 0, 1) := by decide +kernel
theorem dX9_letters_297 : decode cX9_letters 297 = .ok (.iconst 0, 1) := by decide +kernel
theorem dX9_letters_298 : decode cX9_letters 298 = .ok (.iconst 0, 1) := by decide +kernel
theorem dX9_letters_299 : decode cX9_letters 299 = .ok (.iconst 0, 1) := by decide +kernel
theorem dX9_letters_300 : decode cX9_letters 300 = .ok (.iconst 0, 1) := by decide +kernel
theorem dX9_letters_301 : decode cX9_letters 301 = .ok (.invokestatic 181, 3) := by decide +kernel
theorem dX9_letters_304 : decode cX9_letters 304 = .ok (.lreturn, 1) := by decide +kernel
theorem dX9_letters_305 : decode cX9_letters 305 = .ok (.bipush 97, 2) := by decide +kernel
theorem dX9_letters_307 : decode cX9_letters 307 = .ok (.bipush 116, 2) := by decide +kernel
theorem dX9_letters_309 : decode cX9_letters 309 = .ok (.iconst 0, 1) := by decide +kernel
theorem dX9_letters_310 : decode cX9_letters 310 = .ok (.iconst 0, 1) := by decide +kernel
theorem dX9_letters_311 : decode cX9_letters 311 = .ok (.iconst 0, 1) := by decide +kernel
theorem dX9_letters_312 : decode cX9_letters 312 = .ok (.iconst 0, 1) := by decide +kernel
theorem dX9_letters_313 : decode cX9_letters 313 = .ok (.iconst 0, 1) := by decide +kernel
theorem dX9_letters_314 : decode cX9_letters 314 = .ok (.invokestatic 181, 3) := by decide +kernel
theorem dX9_letters_317 : decode cX9_letters 317 = .ok (.lreturn, 1) := by decide +kernel
theorem dX9_knownWord_0 : decode cX9_knownWord 0 = .ok (.aload_n 0, 1) := by decide +kernel
theorem dX9_knownWord_1 : decode cX9_knownWord 1 = .ok (.getfield 168, 3) := by decide +kernel
theorem dX9_knownWord_4 : decode cX9_knownWord 4 = .ok (.iconst 1, 1) := by decide +kernel
theorem dX9_knownWord_5 : decode cX9_knownWord 5 = .ok (.if_icmp .ne 12, 3) := by decide +kernel
theorem dX9_knownWord_8 : decode cX9_knownWord 8 = .ok (.aload_n 0, 1) := by decide +kernel
theorem dX9_knownWord_9 : decode cX9_knownWord 9 = .ok (.getfield 178, 3) := by decide +kernel
theorem dX9_knownWord_12 : decode cX9_knownWord 12 = .ok (.bipush 7, 2) := by decide +kernel
theorem dX9_knownWord_14 : decode cX9_knownWord 14 = .ok (.if_icmp .le 5, 3) := by decide +kernel
theorem dX9_knownWord_17 : decode cX9_knownWord 17 = .ok (.iconst (-1), 1) := by decide +kernel
theorem dX9_knownWord_18 : decode cX9_knownWord 18 = .ok (.ireturn, 1) := by decide +kernel
theorem dX9_knownWord_19 : decode cX9_knownWord 19 = .ok (.iconst 0, 1) := by decide +kernel
theorem dX9_knownWord_20 : decode cX9_knownWord 20 = .ok (.istore_n 1, 1) := by decide +kernel
theorem dX9_knownWord_21 : decode cX9_knownWord 21 = .ok (.iload_n 1, 1) := by decide +kernel
theorem dX9_knownWord_22 : decode cX9_knownWord 22 = .ok (.bipush 16, 2) := by decide +kernel
theorem dX9_knownWord_24 : decode cX9_knownWord 24 = .ok (.if_icmp .ge 23, 3) := by decide +kernel
theorem dX9_knownWord_27 : decode cX9_knownWord 27 = .ok (.iload_n 1, 1) := by decide +kernel
theorem dX9_knownWord_28 : decode cX9_knownWord 28 = .ok (.invokestatic 185, 3) := by decide +kernel
theorem dX9_knownWord_31 : decode cX9_knownWord 31 = .ok (.aload_n 0, 1) := by decide +kernel
theorem dX9_knownWord_32 : decode cX9_knownWord 32 = .ok (.getfield 161, 3) := by decide +kernel
theorem dX9_knownWord_35 : decode cX9_knownWord 35 = .ok (.lcmp, 1) := by decide +kernel
theorem dX9_knownWord_36 : decode cX9_knownWord 36 = .ok (.ifCond .ne 5, 3) := by decide +kernel
theorem dX9_knownWord_39 : decode cX9_knownWord 39 = .ok (.iload_n 1, 1) := by decide +kernel
theorem dX9_knownWord_40 : decode cX9_knownWord 40 = .ok (.ireturn, 1) := by decide +kernel
theorem dX9_knownWord_41 : decode cX9_knownWord 41 = .ok (.iinc 1 1, 3) := by decide +kernel
theorem dX9_knownWord_44 : decode cX9_knownWord 44 = .ok (.goto (-23), 3) := by decide +kernel
theorem dX9_knownWord_47 : decode cX9_knownWord 47 = .ok (.iconst (-1), 1) := by decide +kernel
theorem dX9_knownWord_48 : decode cX9_knownWord 48 = .ok (.ireturn, 1) := by decide +kernel
theorem dX9_wrong_0 : decode cX9_wrong 0 = .ok (.aload_n 0, 1) := by decide +kernel
theorem dX9_wrong_1 : decode cX9_wrong 1 = .ok (.getfield 189, 3) := by decide +kernel
theorem dX9_wrong_4 : decode cX9_wrong 4 = .ok (.ifCond .eq 4, 3) := by decide +kernel
theorem dX9_wrong_7 : decode cX9_wrong 7 = .ok (.return_, 1) := by decide +kernel
theorem dX9_wrong_8 : decode cX9_wrong 8 = .ok (.aload_n 0, 1) := by decide +kernel
theorem dX9_wrong_9 : decode cX9_wrong 9 = .ok (.iload_n 1, 1) := by decide +kernel
theorem dX9_wrong_10 : decode cX9_wrong 10 = .ok (.putfield 189, 3) := by decide +kernel
theorem dX9_wrong_13 : decode cX9_wrong 13 = .ok (.aload_n 0, 1) := by decide +kernel
theorem dX9_wrong_14 : decode cX9_wrong 14 = .ok (.aload_n 0, 1) := by decide +kernel
theorem dX9_wrong_15 : decode cX9_wrong 15 = .ok (.getfield 158, 3) := by decide +kernel
theorem dX9_wrong_18 : decode cX9_wrong 18 = .ok (.putfield 36, 3) := by decide +kernel
theorem dX9_wrong_21 : decode cX9_wrong 21 = .ok (.return_, 1) := by decide +kernel
theorem dX9_isGood_0 : decode cX9_isGood 0 = .ok (.aload_n 0, 1) := by decide +kernel
theorem dX9_isGood_1 : decode cX9_isGood 1 = .ok (.getfield 189, 3) := by decide +kernel
theorem dX9_isGood_4 : decode cX9_isGood 4 = .ok (.ifCond .ne 7, 3) := by decide +kernel
theorem dX9_isGood_7 : decode cX9_isGood 7 = .ok (.iconst 1, 1) := by decide +kernel
theorem dX9_isGood_8 : decode cX9_isGood 8 = .ok (.goto 4, 3) := by decide +kernel
theorem dX9_isGood_11 : decode cX9_isGood 11 = .ok (.iconst 0, 1) := by decide +kernel
theorem dX9_isGood_12 : decode cX9_isGood 12 = .ok (.ireturn, 1) := by decide +kernel
theorem dX9_need_0 : decode cX9_need 0 = .ok (.aload_n 0, 1) := by decide +kernel
theorem dX9_need_1 : decode cX9_need 1 = .ok (.invokevirtual 192, 3) := by decide +kernel
theorem dX9_need_4 : decode cX9_need 4 = .ok (.ifCond .ne 4, 3) := by decide +kernel
theorem dX9_need_7 : decode cX9_need 7 = .ok (.return_, 1) := by decide +kernel
theorem dX9_need_8 : decode cX9_need 8 = .ok (.iload_n 1, 1) := by decide +kernel
theorem dX9_need_9 : decode cX9_need 9 = .ok (.ifCond .eq 10, 3) := by decide +kernel
theorem dX9_need_12 : decode cX9_need 12 = .ok (.aload_n 0, 1) := by decide +kernel
theorem dX9_need_13 : decode cX9_need 13 = .ok (.invokevirtual 196, 3) := by decide +kernel
theorem dX9_need_16 : decode cX9_need 16 = .ok (.goto 8, 3) := by decide +kernel
theorem dX9_need_19 : decode cX9_need 19 = .ok (.aload_n 0, 1) := by decide +kernel
theorem dX9_need_20 : decode cX9_need 20 = .ok (.iconst 1, 1) := by decide +kernel
theorem dX9_need_21 : decode cX9_need 21 = .ok (.invokevirtual 199, 3) := by decide +kernel
theorem dX9_need_24 : decode cX9_need 24 = .ok (.return_, 1) := by decide +kernel
theorem dX9_number_0 : decode cX9_number 0 = .ok (.aload_n 0, 1) := by decide +kernel
theorem dX9_number_1 : decode cX9_number 1 = .ok (.invokevirtual 192, 3) := by decide +kernel
theorem dX9_number_4 : decode cX9_number 4 = .ok (.ifCond .ne 5, 3) := by decide +kernel
theorem dX9_number_7 : decode cX9_number 7 = .ok (.iconst 0, 1) := by decide +kernel
theorem dX9_number_8 : decode cX9_number 8 = .ok (.ireturn, 1) := by decide +kernel
theorem dX9_number_9 : decode cX9_number 9 = .ok (.aload_n 0, 1) := by decide +kernel
theorem dX9_number_10 : decode cX9_number 10 = .ok (.getfield 168, 3) := by decide +kernel
theorem dX9_number_13 : decode cX9_number 13 = .ok (.iconst 2, 1) := by decide +kernel
theorem dX9_number_14 : decode cX9_number 14 = .ok (.if_icmp .eq 11, 3) := by decide +kernel
theorem dX9_number_17 : decode cX9_number 17 = .ok (.aload_n 0, 1) := by decide +kernel
theorem dX9_number_18 : decode cX9_number 18 = .ok (.iconst 1, 1) := by decide +kernel
theorem dX9_number_19 : decode cX9_number 19 = .ok (.invokevirtual 199, 3) := by decide +kernel
theorem dX9_number_22 : decode cX9_number 22 = .ok (.goto 32, 3) := by decide +kernel
theorem dX9_number_25 : decode cX9_number 25 = .ok (.aload_n 0, 1) := by decide +kernel
theorem dX9_number_26 : decode cX9_number 26 = .ok (.getfield 178, 3) := by decide +kernel
theorem dX9_number_29 : decode cX9_number 29 = .ok (.iconst 3, 1) := by decide +kernel
theorem dX9_number_30 : decode cX9_number 30 = .ok (.if_icmp .gt 19, 3) := by decide +kernel
theorem dX9_number_33 : decode cX9_number 33 = .ok (.aload_n 0, 1) := by decide +kernel
theorem dX9_number_34 : decode cX9_number 34 = .ok (.getfield 165, 3) := by decide +kernel
theorem dX9_number_37 : decode cX9_number 37 = .ok (.iload_n 1, 1) := by decide +kernel
theorem dX9_number_38 : decode cX9_number 38 = .ok (.if_icmp .lt 11, 3) := by decide +kernel
theorem dX9_number_41 : decode cX9_number 41 = .ok (.aload_n 0, 1) := by decide +kernel
theorem dX9_number_42 : decode cX9_number 42 = .ok (.getfield 165, 3) := by decide +kernel
theorem dX9_number_45 : decode cX9_number 45 = .ok (.iload_n 2, 1) := by decide +kernel
theorem dX9_number_46 : decode cX9_number 46 = .ok (.if_icmp .le 8, 3) := by decide +kernel
theorem dX9_number_49 : decode cX9_number 49 = .ok (.aload_n 0, 1) := by decide +kernel
theorem dX9_number_50 : decode cX9_number 50 = .ok (.iconst 2, 1) := by decide +kernel
theorem dX9_number_51 : decode cX9_number 51 = .ok (.invokevirtual 199, 3) := by decide +kernel
theorem dX9_number_54 : decode cX9_number 54 = .ok (.aload_n 0, 1) := by decide +kernel
theorem dX9_number_55 : decode cX9_number 55 = .ok (.getfield 165, 3) := by decide +kernel
theorem dX9_number_58 : decode cX9_number 58 = .ok (.istore_n 3, 1) := by decide +kernel
theorem dX9_number_59 : decode cX9_number 59 = .ok (.aload_n 0, 1) := by decide +kernel
theorem dX9_number_60 : decode cX9_number 60 = .ok (.invokevirtual 192, 3) := by decide +kernel
theorem dX9_number_63 : decode cX9_number 63 = .ok (.ifCond .eq 7, 3) := by decide +kernel
theorem dX9_number_66 : decode cX9_number 66 = .ok (.aload_n 0, 1) := by decide +kernel
theorem dX9_number_67 : decode cX9_number 67 = .ok (.invokevirtual 196, 3) := by decide +kernel
theorem dX9_number_70 : decode cX9_number 70 = .ok (.iload_n 3, 1) := by decide +kernel
theorem dX9_number_71 : decode cX9_number 71 = .ok (.ireturn, 1) := by decide +kernel
theorem dX9_lamp_0 : decode cX9_lamp 0 = .ok (.aload_n 0, 1) := by decide +kernel
theorem dX9_lamp_1 : decode cX9_lamp 1 = .ok (.invokevirtual 192, 3) := by decide +kernel
theorem dX9_lamp_4 : decode cX9_lamp 4 = .ok (.ifCond .ne 5, 3) := by decide +kernel
theorem dX9_lamp_7 : decode cX9_lamp 7 = .ok (.iconst 0, 1) := by decide +kernel
theorem dX9_lamp_8 : decode cX9_lamp 8 = .ok (.ireturn, 1) := by decide +kernel
theorem dX9_lamp_9 : decode cX9_lamp 9 = .ok (.aload_n 0, 1) := by decide +kernel
theorem dX9_lamp_10 : decode cX9_lamp 10 = .ok (.getfield 168, 3) := by decide +kernel
theorem dX9_lamp_13 : decode cX9_lamp 13 = .ok (.iconst 2, 1) := by decide +kernel
theorem dX9_lamp_14 : decode cX9_lamp 14 = .ok (.if_icmp .eq 11, 3) := by decide +kernel
theorem dX9_lamp_17 : decode cX9_lamp 17 = .ok (.aload_n 0, 1) := by decide +kernel
theorem dX9_lamp_18 : decode cX9_lamp 18 = .ok (.iconst 1, 1) := by decide +kernel
theorem dX9_lamp_19 : decode cX9_lamp 19 = .ok (.invokevirtual 199, 3) := by decide +kernel
theorem dX9_lamp_22 : decode cX9_lamp 22 = .ok (.goto 51, 3) := by decide +kernel
theorem dX9_lamp_25 : decode cX9_lamp 25 = .ok (.aload_n 0, 1) := by decide +kernel
theorem dX9_lamp_26 : decode cX9_lamp 26 = .ok (.getfield 178, 3) := by decide +kernel
theorem dX9_lamp_29 : decode cX9_lamp 29 = .ok (.iconst 3, 1) := by decide +kernel
theorem dX9_lamp_30 : decode cX9_lamp 30 = .ok (.if_icmp .le 11, 3) := by decide +kernel
theorem dX9_lamp_33 : decode cX9_lamp 33 = .ok (.aload_n 0, 1) := by decide +kernel
theorem dX9_lamp_34 : decode cX9_lamp 34 = .ok (.iconst 2, 1) := by decide +kernel
theorem dX9_lamp_35 : decode cX9_lamp 35 = .ok (.invokevirtual 199, 3) := by decide +kernel
theorem dX9_lamp_38 : decode cX9_lamp 38 = .ok (.goto 35, 3) := by decide +kernel
theorem dX9_lamp_41 : decode cX9_lamp 41 = .ok (.aload_n 0, 1) := by decide +kernel
theorem dX9_lamp_42 : decode cX9_lamp 42 = .ok (.getfield 165, 3) := by decide +kernel
theorem dX9_lamp_45 : decode cX9_lamp 45 = .ok (.aload_n 0, 1) := by decide +kernel
theorem dX9_lamp_46 : decode cX9_lamp 46 = .ok (.getfield 202, 3) := by decide +kernel
theorem dX9_lamp_49 : decode cX9_lamp 49 = .ok (.if_icmp .lt 11, 3) := by decide +kernel
theorem dX9_lamp_52 : decode cX9_lamp 52 = .ok (.aload_n 0, 1) := by decide +kernel
theorem dX9_lamp_53 : decode cX9_lamp 53 = .ok (.iconst 4, 1) := by decide +kernel
theorem dX9_lamp_54 : decode cX9_lamp 54 = .ok (.invokevirtual 199, 3) := by decide +kernel
theorem dX9_lamp_57 : decode cX9_lamp 57 = .ok (.goto 16, 3) := by decide +kernel
theorem dX9_lamp_60 : decode cX9_lamp 60 = .ok (.aload_n 0, 1) := by decide +kernel
theorem dX9_lamp_61 : decode cX9_lamp 61 = .ok (.getfield 165, 3) := by decide +kernel
theorem dX9_lamp_64 : decode cX9_lamp 64 = .ok (.iload_n 1, 1) := by decide +kernel
theorem dX9_lamp_65 : decode cX9_lamp 65 = .ok (.if_icmp .ne 8, 3) := by decide +kernel
theorem dX9_lamp_68 : decode cX9_lamp 68 = .ok (.aload_n 0, 1) := by decide +kernel
theorem dX9_lamp_69 : decode cX9_lamp 69 = .ok (.iconst 5, 1) := by decide +kernel
theorem dX9_lamp_70 : decode cX9_lamp 70 = .ok (.invokevirtual 199, 3) := by decide +kernel
theorem dX9_lamp_73 : decode cX9_lamp 73 = .ok (.aload_n 0, 1) := by decide +kernel
theorem dX9_lamp_74 : decode cX9_lamp 74 = .ok (.getfield 165, 3) := by decide +kernel
theorem dX9_lamp_77 : decode cX9_lamp 77 = .ok (.istore_n 2, 1) := by decide +kernel
theorem dX9_lamp_78 : decode cX9_lamp 78 = .ok (.aload_n 0, 1) := by decide +kernel
theorem dX9_lamp_79 : decode cX9_lamp 79 = .ok (.invokevirtual 192, 3) := by decide +kernel
theorem dX9_lamp_82 : decode cX9_lamp 82 = .ok (.ifCond .eq 7, 3) := by decide +kernel
theorem dX9_lamp_85 : decode cX9_lamp 85 = .ok (.aload_n 0, 1) := by decide +kernel
theorem dX9_lamp_86 : decode cX9_lamp 86 = .ok (.invokevirtual 196, 3) := by decide +kernel
theorem dX9_lamp_89 : decode cX9_lamp 89 = .ok (.iload_n 2, 1) := by decide +kernel
theorem dX9_lamp_90 : decode cX9_lamp 90 = .ok (.ireturn, 1) := by decide +kernel
theorem dX9_by_0 : decode cX9_by 0 = .ok (.aload_n 0, 1) := by decide +kernel
theorem dX9_by_1 : decode cX9_by 1 = .ok (.invokevirtual 192, 3) := by decide +kernel
theorem dX9_by_4 : decode cX9_by 4 = .ok (.ifCond .eq 12, 3) := by decide +kernel
theorem dX9_by_7 : decode cX9_by 7 = .ok (.aload_n 0, 1) := by decide +kernel
theorem dX9_by_8 : decode cX9_by 8 = .ok (.invokevirtual 205, 3) := by decide +kernel
theorem dX9_by_11 : decode cX9_by 11 = .ok (.bipush 14, 2) := by decide +kernel
theorem dX9_by_13 : decode cX9_by 13 = .ok (.if_icmp .eq 5, 3) := by decide +kernel
theorem dX9_by_16 : decode cX9_by 16 = .ok (.iconst 1, 1) := by decide +kernel
theorem dX9_by_17 : decode cX9_by 17 = .ok (.ireturn, 1) := by decide +kernel
theorem dX9_by_18 : decode cX9_by 18 = .ok (.aload_n 0, 1) := by decide +kernel
theorem dX9_by_19 : decode cX9_by 19 = .ok (.invokevirtual 196, 3) := by decide +kernel
theorem dX9_by_22 : decode cX9_by 22 = .ok (.aload_n 0, 1) := by decide +kernel
theorem dX9_by_23 : decode cX9_by 23 = .ok (.iconst 1, 1) := by decide +kernel
theorem dX9_by_24 : decode cX9_by 24 = .ok (.aload_n 0, 1) := by decide +kernel
theorem dX9_by_25 : decode cX9_by 25 = .ok (.getfield 209, 3) := by decide +kernel
theorem dX9_by_28 : decode cX9_by 28 = .ok (.iconst 1, 1) := by decide +kernel
theorem dX9_by_29 : decode cX9_by 29 = .ok (.isub, 1) := by decide +kernel
theorem dX9_by_30 : decode cX9_by 30 = .ok (.invokevirtual 212, 3) := by decide +kernel
theorem dX9_by_33 : decode cX9_by 33 = .ok (.ireturn, 1) := by decide +kernel
theorem dX9_adds_0 : decode cX9_adds 0 = .ok (.aload_n 0, 1) := by decide +kernel
theorem dX9_adds_1 : decode cX9_adds 1 = .ok (.getfield 39, 3) := by decide +kernel
theorem dX9_adds_4 : decode cX9_adds 4 = .ok (.bipush 36, 2) := by decide +kernel
theorem dX9_adds_6 : decode cX9_adds 6 = .ok (.iload_n 1, 1) := by decide +kernel
theorem dX9_adds_7 : decode cX9_adds 7 = .ok (.imul, 1) := by decide +kernel
theorem dX9_adds_8 : decode cX9_adds 8 = .ok (.iload_n 2, 1) := by decide +kernel
theorem dX9_adds_9 : decode cX9_adds 9 = .ok (.iadd, 1) := by decide +kernel
theorem dX9_adds_10 : decode cX9_adds 10 = .ok (.aload_n 0, 1) := by decide +kernel
theorem dX9_adds_11 : decode cX9_adds 11 = .ok (.getfield 39, 3) := by decide +kernel
theorem dX9_adds_14 : decode cX9_adds 14 = .ok (.bipush 36, 2) := by decide +kernel
theorem dX9_adds_16 : decode cX9_adds 16 = .ok (.iload_n 1, 1) := by decide +kernel
theorem dX9_adds_17 : decode cX9_adds 17 = .ok (.imul, 1) := by decide +kernel
theorem dX9_adds_18 : decode cX9_adds 18 = .ok (.iload_n 2, 1) := by decide +kernel
theorem dX9_adds_19 : decode cX9_adds 19 = .ok (.iadd, 1) := by decide +kernel
theorem dX9_adds_20 : decode cX9_adds 20 = .ok (.iaload, 1) := by decide +kernel
theorem dX9_adds_21 : decode cX9_adds 21 = .ok (.iload_n 3, 1) := by decide +kernel
theorem dX9_adds_22 : decode cX9_adds 22 = .ok (.iadd, 1) := by decide +kernel
theorem dX9_adds_23 : decode cX9_adds 23 = .ok (.aload_n 0, 1) := by decide +kernel
theorem dX9_adds_24 : decode cX9_adds 24 = .ok (.getfield 209, 3) := by decide +kernel
theorem dX9_adds_27 : decode cX9_adds 27 = .ok (.irem, 1) := by decide +kernel
theorem dX9_adds_28 : decode cX9_adds 28 = .ok (.iastore, 1) := by decide +kernel
theorem dX9_adds_29 : decode cX9_adds 29 = .ok (.return_, 1) := by decide +kernel
theorem dX9_steps_0 : decode cX9_steps 0 = .ok (.iconst 0, 1) := by decide +kernel
theorem dX9_steps_1 : decode cX9_steps 1 = .ok (.istore 4, 2) := by decide +kernel
theorem dX9_steps_3 : decode cX9_steps 3 = .ok (.iload 4, 2) := by decide +kernel
theorem dX9_steps_5 : decode cX9_steps 5 = .ok (.aload_n 0, 1) := by decide +kernel
theorem dX9_steps_6 : decode cX9_steps 6 = .ok (.getfield 202, 3) := by decide +kernel
theorem dX9_steps_9 : decode cX9_steps 9 = .ok (.if_icmp .ge 124, 3) := by decide +kernel
theorem dX9_steps_12 : decode cX9_steps 12 = .ok (.iload 4, 2) := by decide +kernel
theorem dX9_steps_14 : decode cX9_steps 14 = .ok (.aload_n 0, 1) := by decide +kernel
theorem dX9_steps_15 : decode cX9_steps 15 = .ok (.getfield 216, 3) := by decide +kernel
theorem dX9_steps_18 : decode cX9_steps 18 = .ok (.irem, 1) := by decide +kernel
theorem dX9_steps_19 : decode cX9_steps 19 = .ok (.iload_n 1, 1) := by decide +kernel
theorem dX9_steps_20 : decode cX9_steps 20 = .ok (.iadd, 1) := by decide +kernel
theorem dX9_steps_21 : decode cX9_steps 21 = .ok (.istore 5, 2) := by decide +kernel
theorem dX9_steps_23 : decode cX9_steps 23 = .ok (.iload 4, 2) := by decide +kernel
theorem dX9_steps_25 : decode cX9_steps 25 = .ok (.aload_n 0, 1) := by decide +kernel
theorem dX9_steps_26 : decode cX9_steps 26 = .ok (.getfield 216, 3) := by decide +kernel
theorem dX9_steps_29 : decode cX9_steps 29 = .ok (.idiv, 1) := by decide +kernel
theorem dX9_steps_30 : decode cX9_steps 30 = .ok (.iload_n 2, 1) := by decide +kernel
theorem dX9_steps_31 : decode cX9_steps 31 = .ok (.iadd, 1) := by decide +kernel
theorem dX9_steps_32 : decode cX9_steps 32 = .ok (.istore 6, 2) := by decide +kernel
theorem dX9_steps_34 : decode cX9_steps 34 = .ok (.aload_n 0, 1) := by decide +kernel
theorem dX9_steps_35 : decode cX9_steps 35 = .ok (.getfield 219, 3) := by decide +kernel
theorem dX9_steps_38 : decode cX9_steps 38 = .ok (.iconst 1, 1) := by decide +kernel
theorem dX9_steps_39 : decode cX9_steps 39 = .ok (.if_icmp .lt 19, 3) := by decide +kernel
theorem dX9_steps_42 : decode cX9_steps 42 = .ok (.iload 5, 2) := by decide +kernel
theorem dX9_steps_44 : decode cX9_steps 44 = .ok (.iconst 2, 1) := by decide +kernel
theorem dX9_steps_45 : decode cX9_steps 45 = .ok (.aload_n 0, 1) := by decide +kernel
theorem dX9_steps_46 : decode cX9_steps 46 = .ok (.getfield 216, 3) := by decide +kernel
theorem dX9_steps_49 : decode cX9_steps 49 = .ok (.imul, 1) := by decide +kernel
theorem dX9_steps_50 : decode cX9_steps 50 = .ok (.iadd, 1) := by decide +kernel
theorem dX9_steps_51 : decode cX9_steps 51 = .ok (.aload_n 0, 1) := by decide +kernel
theorem dX9_steps_52 : decode cX9_steps 52 = .ok (.getfield 216, 3) := by decide +kernel
theorem dX9_steps_55 : decode cX9_steps 55 = .ok (.irem, 1) := by decide +kernel
theorem dX9_steps_56 : decode cX9_steps 56 = .ok (.istore 5, 2) := by decide +kernel
theorem dX9_steps_58 : decode cX9_steps 58 = .ok (.aload_n 0, 1) := by decide +kernel
theorem dX9_steps_59 : decode cX9_steps 59 = .ok (.getfield 219, 3) := by decide +kernel
theorem dX9_steps_62 : decode cX9_steps 62 = .ok (.iconst 2, 1) := by decide +kernel
theorem dX9_steps_63 : decode cX9_steps 63 = .ok (.if_icmp .ne 19, 3) := by decide +kernel
theorem dX9_steps_66 : decode cX9_steps 66 = .ok (.iload 6, 2) := by decide +kernel
theorem dX9_steps_68 : decode cX9_steps 68 = .ok (.iconst 2, 1) := by decide +kernel
theorem dX9_steps_69 : decode cX9_steps 69 = .ok (.aload_n 0, 1) := by decide +kernel
theorem dX9_steps_70 : decode cX9_steps 70 = .ok (.getfield 222, 3) := by decide +kernel
theorem dX9_steps_73 : decode cX9_steps 73 = .ok (.imul, 1) := by decide +kernel
theorem dX9_steps_74 : decode cX9_steps 74 = .ok (.iadd, 1) := by decide +kernel
theorem dX9_steps_75 : decode cX9_steps 75 = .ok (.aload_n 0, 1) := by decide +kernel
theorem dX9_steps_76 : decode cX9_steps 76 = .ok (.getfield 222, 3) := by decide +kernel
theorem dX9_steps_79 : decode cX9_steps 79 = .ok (.irem, 1) := by decide +kernel
theorem dX9_steps_80 : decode cX9_steps 80 = .ok (.istore 6, 2) := by decide +kernel
theorem dX9_steps_82 : decode cX9_steps 82 = .ok (.iload 5, 2) := by decide +kernel
theorem dX9_steps_84 : decode cX9_steps 84 = .ok (.ifCond .lt 43, 3) := by decide +kernel
theorem dX9_steps_87 : decode cX9_steps 87 = .ok (.iload 5, 2) := by decide +kernel
theorem dX9_steps_89 : decode cX9_steps 89 = .ok (.aload_n 0, 1) := by decide +kernel
theorem dX9_steps_90 : decode cX9_steps 90 = .ok (.getfield 216, 3) := by decide +kernel
theorem dX9_steps_93 : decode cX9_steps 93 = .ok (.if_icmp .ge 34, 3) := by decide +kernel
theorem dX9_steps_96 : decode cX9_steps 96 = .ok (.iload 6, 2) := by decide +kernel
theorem dX9_steps_98 : decode cX9_steps 98 = .ok (.ifCond .lt 29, 3) := by decide +kernel
theorem dX9_steps_101 : decode cX9_steps 101 = .ok (.iload 6, 2) := by decide +kernel
theorem dX9_steps_103 : decode cX9_steps 103 = .ok (.aload_n 0, 1) := by decide +kernel
theorem dX9_steps_104 : decode cX9_steps 104 = .ok (.getfield 222, 3) := by decide +kernel
theorem dX9_steps_107 : decode cX9_steps 107 = .ok (.if_icmp .ge 20, 3) := by decide +kernel
theorem dX9_steps_110 : decode cX9_steps 110 = .ok (.aload_n 0, 1) := by decide +kernel
theorem dX9_steps_111 : decode cX9_steps 111 = .ok (.iload 4, 2) := by decide +kernel
theorem dX9_steps_113 : decode cX9_steps 113 = .ok (.iload 5, 2) := by decide +kernel
theorem dX9_steps_115 : decode cX9_steps 115 = .ok (.aload_n 0, 1) := by decide +kernel
theorem dX9_steps_116 : decode cX9_steps 116 = .ok (.getfield 216, 3) := by decide +kernel
theorem dX9_steps_119 : decode cX9_steps 119 = .ok (.iload 6, 2) := by decide +kernel
theorem dX9_steps_121 : decode cX9_steps 121 = .ok (.imul, 1) := by decide +kernel
theorem dX9_steps_122 : decode cX9_steps 122 = .ok (.iadd, 1) := by decide +kernel
theorem dX9_steps_123 : decode cX9_steps 123 = .ok (.iload_n 3, 1) := by decide +kernel
theorem dX9_steps_124 : decode cX9_steps 124 = .ok (.invokevirtual 225, 3) := by decide +kernel
theorem dX9_steps_127 : decode cX9_steps 127 = .ok (.iinc 4 1, 3) := by decide +kernel
theorem dX9_steps_130 : decode cX9_steps 130 = .ok (.goto (-127), 3) := by decide +kernel
theorem dX9_steps_133 : decode cX9_steps 133 = .ok (.return_, 1) := by decide +kernel
theorem dX9_steps4_0 : decode cX9_steps4 0 = .ok (.aload_n 0, 1) := by decide +kernel
theorem dX9_steps4_1 : decode cX9_steps4 1 = .ok (.iload_n 1, 1) := by decide +kernel
theorem dX9_steps4_2 : decode cX9_steps4 2 = .ok (.iload_n 2, 1) := by decide +kernel
theorem dX9_steps4_3 : decode cX9_steps4 3 = .ok (.iload_n 3, 1) := by decide +kernel
theorem dX9_steps4_4 : decode cX9_steps4 4 = .ok (.invokevirtual 229, 3) := by decide +kernel
theorem dX9_steps4_7 : decode cX9_steps4 7 = .ok (.aload_n 0, 1) := by decide +kernel
theorem dX9_steps4_8 : decode cX9_steps4 8 = .ok (.iload_n 1, 1) := by decide +kernel
theorem dX9_steps4_9 : decode cX9_steps4 9 = .ok (.ineg, 1) := by decide +kernel
theorem dX9_steps4_10 : decode cX9_steps4 10 = .ok (.iload_n 2, 1) := by decide +kernel
theorem dX9_steps4_11 : decode cX9_steps4 11 = .ok (.iload_n 3, 1) := by decide +kernel
theorem dX9_steps4_12 : decode cX9_steps4 12 = .ok (.invokevirtual 229, 3) := by decide +kernel
theorem dX9_steps4_15 : decode cX9_steps4 15 = .ok (.aload_n 0, 1) := by decide +kernel
theorem dX9_steps4_16 : decode cX9_steps4 16 = .ok (.iload_n 1, 1) := by decide +kernel
theorem dX9_steps4_17 : decode cX9_steps4 17 = .ok (.iload_n 2, 1) := by decide +kernel
theorem dX9_steps4_18 : decode cX9_steps4 18 = .ok (.ineg, 1) := by decide +kernel
theorem dX9_steps4_19 : decode cX9_steps4 19 = .ok (.iload_n 3, 1) := by decide +kernel
theorem dX9_steps4_20 : decode cX9_steps4 20 = .ok (.invokevirtual 229, 3) := by decide +kernel
theorem dX9_steps4_23 : decode cX9_steps4 23 = .ok (.aload_n 0, 1) := by decide +kernel
theorem dX9_steps4_24 : decode cX9_steps4 24 = .ok (.iload_n 1, 1) := by decide +kernel
theorem dX9_steps4_25 : decode cX9_steps4 25 = .ok (.ineg, 1) := by decide +kernel
theorem dX9_steps4_26 : decode cX9_steps4 26 = .ok (.iload_n 2, 1) := by decide +kernel
theorem dX9_steps4_27 : decode cX9_steps4 27 = .ok (.ineg, 1) := by decide +kernel
theorem dX9_steps4_28 : decode cX9_steps4 28 = .ok (.iload_n 3, 1) := by decide +kernel
theorem dX9_steps4_29 : decode cX9_steps4 29 = .ok (.invokevirtual 229, 3) := by decide +kernel
theorem dX9_steps4_32 : decode cX9_steps4 32 = .ok (.return_, 1) := by decide +kernel
theorem dX9_pattern_0 : decode cX9_pattern 0 = .ok (.aload_n 0, 1) := by decide +kernel
theorem dX9_pattern_1 : decode cX9_pattern 1 = .ok (.invokevirtual 192, 3) := by decide +kernel
theorem dX9_pattern_4 : decode cX9_pattern 4 = .ok (.ifCond .ne 4, 3) := by decide +kernel
theorem dX9_pattern_7 : decode cX9_pattern 7 = .ok (.return_, 1) := by decide +kernel
theorem dX9_pattern_8 : decode cX9_pattern 8 = .ok (.iload_n 1, 1) := by decide +kernel
theorem dX9_pattern_9 : decode cX9_pattern 9 = .ok (.ifCond .ne 26, 3) := by decide +kernel
theorem dX9_pattern_12 : decode cX9_pattern 12 = .ok (.iconst 0, 1) := by decide +kernel
theorem dX9_pattern_13 : decode cX9_pattern 13 = .ok (.istore_n 3, 1) := by decide +kernel
theorem dX9_pattern_14 : decode cX9_pattern 14 = .ok (.iload_n 3, 1) := by decide +kernel
theorem dX9_pattern_15 : decode cX9_pattern 15 = .ok (.aload_n 0, 1) := by decide +kernel
theorem dX9_pattern_16 : decode cX9_pattern 16 = .ok (.getfield 202, 3) := by decide +kernel
theorem dX9_pattern_19 : decode cX9_pattern 19 = .ok (.if_icmp .ge 16, 3) := by decide +kernel
theorem dX9_pattern_22 : decode cX9_pattern 22 = .ok (.aload_n 0, 1) := by decide +kernel
theorem dX9_pattern_23 : decode cX9_pattern 23 = .ok (.iload_n 3, 1) := by decide +kernel
theorem dX9_pattern_24 : decode cX9_pattern 24 = .ok (.iload_n 3, 1) := by decide +kernel
theorem dX9_pattern_25 : decode cX9_pattern 25 = .ok (.iload_n 2, 1) := by decide +kernel
theorem dX9_pattern_26 : decode cX9_pattern 26 = .ok (.invokevirtual 225, 3) := by decide +kernel
theorem dX9_pattern_29 : decode cX9_pattern 29 = .ok (.iinc 3 1, 3) := by decide +kernel
theorem dX9_pattern_32 : decode cX9_pattern 32 = .ok (.goto (-18), 3) := by decide +kernel
theorem dX9_pattern_35 : decode cX9_pattern 35 = .ok (.iload_n 1, 1) := by decide +kernel
theorem dX9_pattern_36 : decode cX9_pattern 36 = .ok (.iconst 1, 1) := by decide +kernel
theorem dX9_pattern_37 : decode cX9_pattern 37 = .ok (.if_icmp .ne 20, 3) := by decide +kernel
theorem dX9_pattern_40 : decode cX9_pattern 40 = .ok (.aload_n 0, 1) := by decide +kernel
theorem dX9_pattern_41 : decode cX9_pattern 41 = .ok (.getfield 216, 3) := by decide +kernel
theorem dX9_pattern_44 : decode cX9_pattern 44 = .ok (.ifCond .ne 13, 3) := by decide +kernel
theorem dX9_pattern_47 : decode cX9_pattern 47 = .ok (.aload_n 0, 1) := by decide +kernel
theorem dX9_pattern_48 : decode cX9_pattern 48 = .ok (.dup, 1) := by decide +kernel
theorem dX9_pattern_49 : decode cX9_pattern 49 = .ok (.getfield 232, 3) := by decide +kernel
theorem dX9_pattern_52 : decode cX9_pattern 52 = .ok (.iload_n 2, 1) := by decide +kernel
theorem dX9_pattern_53 : decode cX9_pattern 53 = .ok (.iadd, 1) := by decide +kernel
theorem dX9_pattern_54 : decode cX9_pattern 54 = .ok (.putfield 232, 3) := by decide +kernel
theorem dX9_pattern_57 : decode cX9_pattern 57 = .ok (.iload_n 1, 1) := by decide +kernel
theorem dX9_pattern_58 : decode cX9_pattern 58 = .ok (.iconst 1, 1) := by decide +kernel
theorem dX9_pattern_59 : decode cX9_pattern 59 = .ok (.if_icmp .ne 38, 3) := by decide +kernel
theorem dX9_pattern_62 : decode cX9_pattern 62 = .ok (.aload_n 0, 1) := by decide +kernel
theorem dX9_pattern_63 : decode cX9_pattern 63 = .ok (.getfield 216, 3) := by decide +kernel
theorem dX9_pattern_66 : decode cX9_pattern 66 = .ok (.ifCond .le 31, 3) := by decide +kernel
theorem dX9_pattern_69 : decode cX9_pattern 69 = .ok (.aload_n 0, 1) := by decide +kernel
theorem dX9_pattern_70 : decode cX9_pattern 70 = .ok (.iconst 1, 1) := by decide +kernel
theorem dX9_pattern_71 : decode cX9_pattern 71 = .ok (.iconst 0, 1) := by decide +kernel
theorem dX9_pattern_72 : decode cX9_pattern 72 = .ok (.iload_n 2, 1) := by decide +kernel
theorem dX9_pattern_73 : decode cX9_pattern 73 = .ok (.invokevirtual 229, 3) := by decide +kernel
theorem dX9_pattern_76 : decode cX9_pattern 76 = .ok (.aload_n 0, 1) := by decide +kernel
theorem dX9_pattern_77 : decode cX9_pattern 77 = .ok (.iconst (-1), 1) := by decide +kernel
theorem dX9_pattern_78 : decode cX9_pattern 78 = .ok (.iconst 0, 1) := by decide +kernel
theorem dX9_pattern_79 : decode cX9_pattern 79 = .ok (.iload_n 2, 1) := by decide +kernel
theorem dX9_pattern_80 : decode cX9_pattern 80 = .ok (.invokevirtual 229, 3) := by decide +kernel
theorem dX9_pattern_83 : decode cX9_pattern 83 = .ok (.aload_n 0, 1) := by decide +kernel
theorem dX9_pattern_84 : decode cX9_pattern 84 = .ok (.iconst 0, 1) := by decide +kernel
theorem dX9_pattern_85 : decode cX9_pattern 85 = .ok (.iconst 1, 1) := by decide +kernel
theorem dX9_pattern_86 : decode cX9_pattern 86 = .ok (.iload_n 2, 1) := by decide +kernel
theorem dX9_pattern_87 : decode cX9_pattern 87 = .ok (.invokevirtual 229, 3) := by decide +kernel
theorem dX9_pattern_90 : decode cX9_pattern 90 = .ok (.aload_n 0, 1) := by decide +kernel
theorem dX9_pattern_91 : decode cX9_pattern 91 = .ok (.iconst 0, 1) := by decide +kernel
theorem dX9_pattern_92 : decode cX9_pattern 92 = .ok (.iconst (-1), 1) := by decide +kernel
theorem dX9_pattern_93 : decode cX9_pattern 93 = .ok (.iload_n 2, 1) := by decide +kernel
theorem dX9_pattern_94 : decode cX9_pattern 94 = .ok (.invokevirtual 229, 3) := by decide +kernel
theorem dX9_pattern_97 : decode cX9_pattern 97 = .ok (.iload_n 1, 1) := by decide +kernel
theorem dX9_pattern_98 : decode cX9_pattern 98 = .ok (.iconst 2, 1) := by decide +kernel
theorem dX9_pattern_99 : decode cX9_pattern 99 = .ok (.if_icmp .ne 10, 3) := by decide +kernel
theorem dX9_pattern_102 : decode cX9_pattern 102 = .ok (.aload_n 0, 1) := by decide +kernel
theorem dX9_pattern_103 : decode cX9_pattern 103 = .ok (.iconst 1, 1) := by decide +kernel
theorem dX9_pattern_104 : decode cX9_pattern 104 = .ok (.iconst 1, 1) := by decide +kernel
theorem dX9_pattern_105 : decode cX9_pattern 105 = .ok (.iload_n 2, 1) := by decide +kernel
theorem dX9_pattern_106 : decode cX9_pattern 106 = .ok (.invokevirtual 235, 3) := by decide +kernel
theorem dX9_pattern_109 : decode cX9_pattern 109 = .ok (.iload_n 1, 1) := by decide +kernel
theorem dX9_pattern_110 : decode cX9_pattern 110 = .ok (.iconst 3, 1) := by decide +kernel
theorem dX9_pattern_111 : decode cX9_pattern 111 = .ok (.if_icmp .ne 17, 3) := by decide +kernel
theorem dX9_pattern_114 : decode cX9_pattern 114 = .ok (.aload_n 0, 1) := by decide +kernel
theorem dX9_pattern_115 : decode cX9_pattern 115 = .ok (.iconst 1, 1) := by decide +kernel
theorem dX9_pattern_116 : decode cX9_pattern 116 = .ok (.iconst 2, 1) := by decide +kernel
theorem dX9_pattern_117 : decode cX9_pattern 117 = .ok (.iload_n 2, 1) := by decide +kernel
theorem dX9_pattern_118 : decode cX9_pattern 118 = .ok (.invokevirtual 235, 3) := by decide +kernel
theorem dX9_pattern_121 : decode cX9_pattern 121 = .ok (.aload_n 0, 1) := by decide +kernel
theorem dX9_pattern_122 : decode cX9_pattern 122 = .ok (.iconst 2, 1) := by decide +kernel
theorem dX9_pattern_123 : decode cX9_pattern 123 = .ok (.iconst 1, 1) := by decide +kernel
theorem dX9_pattern_124 : decode cX9_pattern 124 = .ok (.iload_n 2, 1) := by decide +kernel
theorem dX9_pattern_125 : decode cX9_pattern 125 = .ok (.invokevirtual 235, 3) := by decide +kernel
theorem dX9_pattern_128 : decode cX9_pattern 128 = .ok (.iconst 0, 1) := by decide +kernel
theorem dX9_pattern_129 : decode cX9_pattern 129 = .ok (.istore_n 3, 1) := by decide +kernel
theorem dX9_pattern_130 : decode cX9_pattern 130 = .ok (.iload_n 3, 1) := by decide +kernel
theorem dX9_pattern_131 : decode cX9_pattern 131 = .ok (.aload_n 0, 1) := by decide +kernel
theorem dX9_pattern_132 : decode cX9_pattern 132 = .ok (.getfield 202, 3) := by decide +kernel
theorem dX9_pattern_135 : decode cX9_pattern 135 = .ok (.if_icmp .ge 85, 3) := by decide +kernel
theorem dX9_pattern_138 : decode cX9_pattern 138 = .ok (.iload_n 1, 1) := by decide +kernel
theorem dX9_pattern_139 : decode cX9_pattern 139 = .ok (.iconst 4, 1) := by decide +kernel
theorem dX9_pattern_140 : decode cX9_pattern 140 = .ok (.if_icmp .eq 8, 3) := by decide +kernel
theorem dX9_pattern_143 : decode cX9_pattern 143 = .ok (.iload_n 1, 1) := by decide +kernel
theorem dX9_pattern_144 : decode cX9_pattern 144 = .ok (.iconst 5, 1) := by decide +kernel
theorem dX9_pattern_145 : decode cX9_pattern 145 = .ok (.if_icmp .ne 75, 3) := by decide +kernel
theorem dX9_pattern_148 : decode cX9_pattern 148 = .ok (.iconst 0, 1) := by decide +kernel
theorem dX9_pattern_149 : decode cX9_pattern 149 = .ok (.istore 4, 2) := by decide +kernel
theorem dX9_pattern_151 : decode cX9_pattern 151 = .ok (.iload 4, 2) := by decide +kernel
theorem dX9_pattern_153 : decode cX9_pattern 153 = .ok (.aload_n 0, 1) := by decide +kernel
theorem dX9_pattern_154 : decode cX9_pattern 154 = .ok (.getfield 202, 3) := by decide +kernel
theorem dX9_pattern_157 : decode cX9_pattern 157 = .ok (.if_icmp .ge 57, 3) := by decide +kernel
theorem dX9_pattern_160 : decode cX9_pattern 160 = .ok (.iload_n 1, 1) := by decide +kernel
theorem dX9_pattern_161 : decode cX9_pattern 161 = .ok (.iconst 4, 1) := by decide +kernel
theorem dX9_pattern_162 : decode cX9_pattern 162 = .ok (.if_icmp .ne 22, 3) := by decide +kernel
theorem dX9_pattern_165 : decode cX9_pattern 165 = .ok (.iload_n 3, 1) := by decide +kernel
theorem dX9_pattern_166 : decode cX9_pattern 166 = .ok (.aload_n 0, 1) := by decide +kernel
theorem dX9_pattern_167 : decode cX9_pattern 167 = .ok (.getfield 216, 3) := by decide +kernel
theorem dX9_pattern_170 : decode cX9_pattern 170 = .ok (.idiv, 1) := by decide +kernel
theorem dX9_pattern_171 : decode cX9_pattern 171 = .ok (.iload 4, 2) := by decide +kernel
theorem dX9_pattern_173 : decode cX9_pattern 173 = .ok (.aload_n 0, 1) := by decide +kernel
theorem dX9_pattern_174 : decode cX9_pattern 174 = .ok (.getfield 216, 3) := by decide +kernel
theorem dX9_pattern_177 : decode cX9_pattern 177 = .ok (.idiv, 1) := by decide +kernel
theorem dX9_pattern_178 : decode cX9_pattern 178 = .ok (.if_icmp .ne 30, 3) := by decide +kernel
theorem dX9_pattern_181 : decode cX9_pattern 181 = .ok (.goto 19, 3) := by decide +kernel
theorem dX9_pattern_184 : decode cX9_pattern 184 = .ok (.iload_n 3, 1) := by decide +kernel
theorem dX9_pattern_185 : decode cX9_pattern 185 = .ok (.aload_n 0, 1) := by decide +kernel
theorem dX9_pattern_186 : decode cX9_pattern 186 = .ok (.getfield 216, 3) := by decide +kernel
theorem dX9_pattern_189 : decode cX9_pattern 189 = .ok (.irem, 1) := by decide +kernel
theorem dX9_pattern_190 : decode cX9_pattern 190 = .ok (.iload 4, 2) := by decide +kernel
theorem dX9_pattern_192 : decode cX9_pattern 192 = .ok (.aload_n 0, 1) := by decide +kernel
theorem dX9_pattern_193 : decode cX9_pattern 193 = .ok (.getfield 216, 3) := by decide +kernel
theorem dX9_pattern_196 : decode cX9_pattern 196 = .ok (.irem, 1) := by decide +kernel
theorem dX9_pattern_197 : decode cX9_pattern 197 = .ok (.if_icmp .ne 11, 3) := by decide +kernel
theorem dX9_pattern_200 : decode cX9_pattern 200 = .ok (.aload_n 0, 1) := by decide +kernel
theorem dX9_pattern_201 : decode cX9_pattern 201 = .ok (.iload_n 3, 1) := by decide +kernel
theorem dX9_pattern_202 : decode cX9_pattern 202 = .ok (.iload 4, 2) := by decide +kernel
theorem dX9_pattern_204 : decode cX9_pattern 204 = .ok (.iload_n 2, 1) := by decide +kernel
theorem dX9_pattern_205 : decode cX9_pattern 205 = .ok (.invokevirtual 225, 3) := by decide +kernel
theorem dX9_pattern_208 : decode cX9_pattern 208 = .ok (.iinc 4 1, 3) := by decide +kernel
theorem dX9_pattern_211 : decode cX9_pattern 211 = .ok (.goto (-60), 3) := by decide +kernel
theorem dX9_pattern_214 : decode cX9_pattern 214 = .ok (.iinc 3 1, 3) := by decide +kernel
theorem dX9_pattern_217 : decode cX9_pattern 217 = .ok (.goto (-87), 3) := by decide +kernel
theorem dX9_pattern_220 : decode cX9_pattern 220 = .ok (.return_, 1) := by decide +kernel
theorem dX9_clause_0 : decode cX9_clause 0 = .ok (.aload_n 0, 1) := by decide +kernel
theorem dX9_clause_1 : decode cX9_clause 1 = .ok (.invokevirtual 205, 3) := by decide +kernel
theorem dX9_clause_4 : decode cX9_clause 4 = .ok (.istore_n 2, 1) := by decide +kernel
theorem dX9_clause_5 : decode cX9_clause 5 = .ok (.iload_n 2, 1) := by decide +kernel
theorem dX9_clause_6 : decode cX9_clause 6 = .ok (.ifCond .lt 9, 3) := by decide +kernel
theorem dX9_clause_9 : decode cX9_clause 9 = .ok (.iload_n 2, 1) := by decide +kernel
theorem dX9_clause_10 : decode cX9_clause 10 = .ok (.bipush 8, 2) := by decide +kernel
theorem dX9_clause_12 : decode cX9_clause 12 = .ok (.if_icmp .le 8, 3) := by decide +kernel
theorem dX9_clause_15 : decode cX9_clause 15 = .ok (.aload_n 0, 1) := by decide +kernel
theorem dX9_clause_16 : decode cX9_clause 16 = .ok (.iconst 1, 1) := by decide +kernel
theorem dX9_clause_17 : decode cX9_clause 17 = .ok (.invokevirtual 199, 3) := by decide +kernel
theorem dX9_clause_20 : decode cX9_clause 20 = .ok (.iload_n 1, 1) := by decide +kernel
theorem dX9_clause_21 : decode cX9_clause 21 = .ok (.bipush 40, 2) := by decide +kernel
theorem dX9_clause_23 : decode cX9_clause 23 = .ok (.if_icmp .ne 8, 3) := by decide +kernel
theorem dX9_clause_26 : decode cX9_clause 26 = .ok (.aload_n 0, 1) := by decide +kernel
theorem dX9_clause_27 : decode cX9_clause 27 = .ok (.iconst 2, 1) := by decide +kernel
theorem dX9_clause_28 : decode cX9_clause 28 = .ok (.invokevirtual 199, 3) := by decide +kernel
theorem dX9_clause_31 : decode cX9_clause 31 = .ok (.aload_n 0, 1) := by decide +kernel
theorem dX9_clause_32 : decode cX9_clause 32 = .ok (.getfield 216, 3) := by decide +kernel
theorem dX9_clause_35 : decode cX9_clause 35 = .ok (.ifCond .ne 16, 3) := by decide +kernel
theorem dX9_clause_38 : decode cX9_clause 38 = .ok (.iload_n 2, 1) := by decide +kernel
theorem dX9_clause_39 : decode cX9_clause 39 = .ok (.iconst 2, 1) := by decide +kernel
theorem dX9_clause_40 : decode cX9_clause 40 = .ok (.if_icmp .lt 22, 3) := by decide +kernel
theorem dX9_clause_43 : decode cX9_clause 43 = .ok (.iload_n 2, 1) := by decide +kernel
theorem dX9_clause_44 : decode cX9_clause 44 = .ok (.iconst 5, 1) := by decide +kernel
theorem dX9_clause_45 : decode cX9_clause 45 = .ok (.if_icmp .gt 17, 3) := by decide +kernel
theorem dX9_clause_48 : decode cX9_clause 48 = .ok (.goto 9, 3) := by decide +kernel
theorem dX9_clause_51 : decode cX9_clause 51 = .ok (.iload_n 2, 1) := by decide +kernel
theorem dX9_clause_52 : decode cX9_clause 52 = .ok (.bipush 6, 2) := by decide +kernel
theorem dX9_clause_54 : decode cX9_clause 54 = .ok (.if_icmp .ne 8, 3) := by decide +kernel
theorem dX9_clause_57 : decode cX9_clause 57 = .ok (.aload_n 0, 1) := by decide +kernel
theorem dX9_clause_58 : decode cX9_clause 58 = .ok (.iconst 3, 1) := by decide +kernel
theorem dX9_clause_59 : decode cX9_clause 59 = .ok (.invokevirtual 199, 3) := by decide +kernel
theorem dX9_clause_62 : decode cX9_clause 62 = .ok (.aload_n 0, 1) := by decide +kernel
theorem dX9_clause_63 : decode cX9_clause 63 = .ok (.invokevirtual 192, 3) := by decide +kernel
theorem dX9_clause_66 : decode cX9_clause 66 = .ok (.ifCond .ne 4, 3) := by decide +kernel
theorem dX9_clause_69 : decode cX9_clause 69 = .ok (.return_, 1) := by decide +kernel
theorem dX9_clause_70 : decode cX9_clause 70 = .ok (.aload_n 0, 1) := by decide +kernel
theorem dX9_clause_71 : decode cX9_clause 71 = .ok (.invokevirtual 196, 3) := by decide +kernel
theorem dX9_clause_74 : decode cX9_clause 74 = .ok (.iload_n 2, 1) := by decide +kernel
theorem dX9_clause_75 : decode cX9_clause 75 = .ok (.iconst 5, 1) := by decide +kernel
theorem dX9_clause_76 : decode cX9_clause 76 = .ok (.if_icmp .gt 15, 3) := by decide +kernel
theorem dX9_clause_79 : decode cX9_clause 79 = .ok (.aload_n 0, 1) := by decide +kernel
theorem dX9_clause_80 : decode cX9_clause 80 = .ok (.iload_n 2, 1) := by decide +kernel
theorem dX9_clause_81 : decode cX9_clause 81 = .ok (.aload_n 0, 1) := by decide +kernel
theorem dX9_clause_82 : decode cX9_clause 82 = .ok (.invokevirtual 238, 3) := by decide +kernel
theorem dX9_clause_85 : decode cX9_clause 85 = .ok (.invokevirtual 241, 3) := by decide +kernel
theorem dX9_clause_88 : decode cX9_clause 88 = .ok (.goto 145, 3) := by decide +kernel
theorem dX9_clause_91 : decode cX9_clause 91 = .ok (.iload_n 2, 1) := by decide +kernel
theorem dX9_clause_92 : decode cX9_clause 92 = .ok (.bipush 6, 2) := by decide +kernel
theorem dX9_clause_94 : decode cX9_clause 94 = .ok (.if_icmp .ne 57, 3) := by decide +kernel
theorem dX9_clause_97 : decode cX9_clause 97 = .ok (.aload_n 0, 1) := by decide +kernel
theorem dX9_clause_98 : decode cX9_clause 98 = .ok (.iconst (-1), 1) := by decide +kernel
theorem dX9_clause_99 : decode cX9_clause 99 = .ok (.invokevirtual 245, 3) := by decide +kernel
theorem dX9_clause_102 : decode cX9_clause 102 = .ok (.istore_n 3, 1) := by decide +kernel
theorem dX9_clause_103 : decode cX9_clause 103 = .ok (.aload_n 0, 1) := by decide +kernel
theorem dX9_clause_104 : decode cX9_clause 104 = .ok (.iload_n 3, 1) := by decide +kernel
theorem dX9_clause_105 : decode cX9_clause 105 = .ok (.invokevirtual 245, 3) := by decide +kernel
theorem dX9_clause_108 : decode cX9_clause 108 = .ok (.istore 4, 2) := by decide +kernel
theorem dX9_clause_110 : decode cX9_clause 110 = .ok (.aload_n 0, 1) := by decide +kernel
theorem dX9_clause_111 : decode cX9_clause 111 = .ok (.invokevirtual 192, 3) := by decide +kernel
theorem dX9_clause_114 : decode cX9_clause 114 = .ok (.ifCond .eq 34, 3) := by decide +kernel
theorem dX9_clause_117 : decode cX9_clause 117 = .ok (.aload_n 0, 1) := by decide +kernel
theorem dX9_clause_118 : decode cX9_clause 118 = .ok (.getfield 42, 3) := by decide +kernel
theorem dX9_clause_121 : decode cX9_clause 121 = .ok (.aload_n 0, 1) := by decide +kernel
theorem dX9_clause_122 : decode cX9_clause 122 = .ok (.getfield 248, 3) := by decide +kernel
theorem dX9_clause_125 : decode cX9_clause 125 = .ok (.iload_n 3, 1) := by decide +kernel
theorem dX9_clause_126 : decode cX9_clause 126 = .ok (.iastore, 1) := by decide +kernel
theorem dX9_clause_127 : decode cX9_clause 127 = .ok (.aload_n 0, 1) := by decide +kernel
theorem dX9_clause_128 : decode cX9_clause 128 = .ok (.getfield 45, 3) := by decide +kernel
theorem dX9_clause_131 : decode cX9_clause 131 = .ok (.aload_n 0, 1) := by decide +kernel
theorem dX9_clause_132 : decode cX9_clause 132 = .ok (.getfield 248, 3) := by decide +kernel
theorem dX9_clause_135 : decode cX9_clause 135 = .ok (.iload 4, 2) := by decide +kernel
theorem dX9_clause_137 : decode cX9_clause 137 = .ok (.iastore, 1) := by decide +kernel
theorem dX9_clause_138 : decode cX9_clause 138 = .ok (.aload_n 0, 1) := by decide +kernel
theorem dX9_clause_139 : decode cX9_clause 139 = .ok (.dup, 1) := by decide +kernel
theorem dX9_clause_140 : decode cX9_clause 140 = .ok (.getfield 248, 3) := by decide +kernel
theorem dX9_clause_143 : decode cX9_clause 143 = .ok (.iconst 1, 1) := by decide +kernel
theorem dX9_clause_144 : decode cX9_clause 144 = .ok (.iadd, 1) := by decide +kernel
theorem dX9_clause_145 : decode cX9_clause 145 = .ok (.putfield 248, 3) := by decide +kernel
theorem dX9_clause_148 : decode cX9_clause 148 = .ok (.goto 85, 3) := by decide +kernel
theorem dX9_clause_151 : decode cX9_clause 151 = .ok (.iload_n 2, 1) := by decide +kernel
theorem dX9_clause_152 : decode cX9_clause 152 = .ok (.bipush 7, 2) := by decide +kernel
theorem dX9_clause_154 : decode cX9_clause 154 = .ok (.if_icmp .ne 59, 3) := by decide +kernel
theorem dX9_clause_157 : decode cX9_clause 157 = .ok (.aload_n 0, 1) := by decide +kernel
theorem dX9_clause_158 : decode cX9_clause 158 = .ok (.iconst (-1), 1) := by decide +kernel
theorem dX9_clause_159 : decode cX9_clause 159 = .ok (.invokevirtual 245, 3) := by decide +kernel
theorem dX9_clause_162 : decode cX9_clause 162 = .ok (.istore_n 3, 1) := by decide +kernel
theorem dX9_clause_163 : decode cX9_clause 163 = .ok (.aload_n 0, 1) := by decide +kernel
theorem dX9_clause_164 : decode cX9_clause 164 = .ok (.aload_n 0, 1) := by decide +kernel
theorem dX9_clause_165 : decode cX9_clause 165 = .ok (.invokevirtual 205, 3) := by decide +kernel
theorem dX9_clause_168 : decode cX9_clause 168 = .ok (.bipush 15, 2) := by decide +kernel
theorem dX9_clause_170 : decode cX9_clause 170 = .ok (.if_icmp .ne 7, 3) := by decide +kernel
theorem dX9_clause_173 : decode cX9_clause 173 = .ok (.iconst 1, 1) := by decide +kernel
theorem dX9_clause_174 : decode cX9_clause 174 = .ok (.goto 4, 3) := by decide +kernel
theorem dX9_clause_177 : decode cX9_clause 177 = .ok (.iconst 0, 1) := by decide +kernel
theorem dX9_clause_178 : decode cX9_clause 178 = .ok (.invokevirtual 251, 3) := by decide +kernel
theorem dX9_clause_181 : decode cX9_clause 181 = .ok (.aload_n 0, 1) := by decide +kernel
theorem dX9_clause_182 : decode cX9_clause 182 = .ok (.iconst (-1), 1) := by decide +kernel
theorem dX9_clause_183 : decode cX9_clause 183 = .ok (.invokevirtual 245, 3) := by decide +kernel
theorem dX9_clause_186 : decode cX9_clause 186 = .ok (.istore 4, 2) := by decide +kernel
theorem dX9_clause_188 : decode cX9_clause 188 = .ok (.aload_n 0, 1) := by decide +kernel
theorem dX9_clause_189 : decode cX9_clause 189 = .ok (.invokevirtual 238, 3) := by decide +kernel
theorem dX9_clause_192 : decode cX9_clause 192 = .ok (.istore 5, 2) := by decide +kernel
theorem dX9_clause_194 : decode cX9_clause 194 = .ok (.aload_n 0, 1) := by decide +kernel
theorem dX9_clause_195 : decode cX9_clause 195 = .ok (.invokevirtual 192, 3) := by decide +kernel
theorem dX9_clause_198 : decode cX9_clause 198 = .ok (.ifCond .eq 12, 3) := by decide +kernel
theorem dX9_clause_201 : decode cX9_clause 201 = .ok (.aload_n 0, 1) := by decide +kernel
theorem dX9_clause_202 : decode cX9_clause 202 = .ok (.iload_n 3, 1) := by decide +kernel
theorem dX9_clause_203 : decode cX9_clause 203 = .ok (.iload 4, 2) := by decide +kernel
theorem dX9_clause_205 : decode cX9_clause 205 = .ok (.iload 5, 2) := by decide +kernel
theorem dX9_clause_207 : decode cX9_clause 207 = .ok (.invokevirtual 225, 3) := by decide +kernel
theorem dX9_clause_210 : decode cX9_clause 210 = .ok (.goto 23, 3) := by decide +kernel
theorem dX9_clause_213 : decode cX9_clause 213 = .ok (.aload_n 0, 1) := by decide +kernel
theorem dX9_clause_214 : decode cX9_clause 214 = .ok (.iconst (-1), 1) := by decide +kernel
theorem dX9_clause_215 : decode cX9_clause 215 = .ok (.invokevirtual 245, 3) := by decide +kernel
theorem dX9_clause_218 : decode cX9_clause 218 = .ok (.istore_n 3, 1) := by decide +kernel
theorem dX9_clause_219 : decode cX9_clause 219 = .ok (.aload_n 0, 1) := by decide +kernel
theorem dX9_clause_220 : decode cX9_clause 220 = .ok (.invokevirtual 192, 3) := by decide +kernel
theorem dX9_clause_223 : decode cX9_clause 223 = .ok (.ifCond .eq 10, 3) := by decide +kernel
theorem dX9_clause_226 : decode cX9_clause 226 = .ok (.aload_n 0, 1) := by decide +kernel
theorem dX9_clause_227 : decode cX9_clause 227 = .ok (.getfield 48, 3) := by decide +kernel
theorem dX9_clause_230 : decode cX9_clause 230 = .ok (.iload_n 3, 1) := by decide +kernel
theorem dX9_clause_231 : decode cX9_clause 231 = .ok (.iconst 1, 1) := by decide +kernel
theorem dX9_clause_232 : decode cX9_clause 232 = .ok (.bastore, 1) := by decide +kernel
theorem dX9_clause_233 : decode cX9_clause 233 = .ok (.aload_n 0, 1) := by decide +kernel
theorem dX9_clause_234 : decode cX9_clause 234 = .ok (.aload_n 0, 1) := by decide +kernel
theorem dX9_clause_235 : decode cX9_clause 235 = .ok (.getfield 168, 3) := by decide +kernel
theorem dX9_clause_238 : decode cX9_clause 238 = .ok (.iconst 3, 1) := by decide +kernel
theorem dX9_clause_239 : decode cX9_clause 239 = .ok (.if_icmp .ne 7, 3) := by decide +kernel
theorem dX9_clause_242 : decode cX9_clause 242 = .ok (.iconst 1, 1) := by decide +kernel
theorem dX9_clause_243 : decode cX9_clause 243 = .ok (.goto 4, 3) := by decide +kernel
theorem dX9_clause_246 : decode cX9_clause 246 = .ok (.iconst 0, 1) := by decide +kernel
theorem dX9_clause_247 : decode cX9_clause 247 = .ok (.invokevirtual 251, 3) := by decide +kernel
theorem dX9_clause_250 : decode cX9_clause 250 = .ok (.return_, 1) := by decide +kernel
theorem dX9_hall_0 : decode cX9_hall 0 = .ok (.aload_n 0, 1) := by decide +kernel
theorem dX9_hall_1 : decode cX9_hall 1 = .ok (.iconst 0, 1) := by decide +kernel
theorem dX9_hall_2 : decode cX9_hall 2 = .ok (.putfield 138, 3) := by decide +kernel
theorem dX9_hall_5 : decode cX9_hall 5 = .ok (.aload_n 0, 1) := by decide +kernel
theorem dX9_hall_6 : decode cX9_hall 6 = .ok (.iload_n 1, 1) := by decide +kernel
theorem dX9_hall_7 : decode cX9_hall 7 = .ok (.ifCond .lt 15, 3) := by decide +kernel
theorem dX9_hall_10 : decode cX9_hall 10 = .ok (.iload_n 1, 1) := by decide +kernel
theorem dX9_hall_11 : decode cX9_hall 11 = .ok (.aload_n 0, 1) := by decide +kernel
theorem dX9_hall_12 : decode cX9_hall 12 = .ok (.getfield 141, 3) := by decide +kernel
theorem dX9_hall_15 : decode cX9_hall 15 = .ok (.if_icmp .gt 7, 3) := by decide +kernel
theorem dX9_hall_18 : decode cX9_hall 18 = .ok (.iconst 1, 1) := by decide +kernel
theorem dX9_hall_19 : decode cX9_hall 19 = .ok (.goto 4, 3) := by decide +kernel
theorem dX9_hall_22 : decode cX9_hall 22 = .ok (.iconst 0, 1) := by decide +kernel
theorem dX9_hall_23 : decode cX9_hall 23 = .ok (.iconst 1, 1) := by decide +kernel
theorem dX9_hall_24 : decode cX9_hall 24 = .ok (.invokevirtual 255, 3) := by decide +kernel
theorem dX9_hall_27 : decode cX9_hall 27 = .ok (.ifCond .ne 5, 3) := by decide +kernel
theorem dX9_hall_30 : decode cX9_hall 30 = .ok (.iconst 0, 1) := by decide +kernel
theorem dX9_hall_31 : decode cX9_hall 31 = .ok (.ireturn, 1) := by decide +kernel
theorem dX9_hall_32 : decode cX9_hall 32 = .ok (.aload_n 0, 1) := by decide +kernel
theorem dX9_hall_33 : decode cX9_hall 33 = .ok (.iconst 0, 1) := by decide +kernel
theorem dX9_hall_34 : decode cX9_hall 34 = .ok (.putfield 141, 3) := by decide +kernel
theorem dX9_hall_37 : decode cX9_hall 37 = .ok (.aload_n 0, 1) := by decide +kernel
theorem dX9_hall_38 : decode cX9_hall 38 = .ok (.iconst (-1), 1) := by decide +kernel
theorem dX9_hall_39 : decode cX9_hall 39 = .ok (.putfield 36, 3) := by decide +kernel
theorem dX9_hall_42 : decode cX9_hall 42 = .ok (.aload_n 0, 1) := by decide +kernel
theorem dX9_hall_43 : decode cX9_hall 43 = .ok (.iconst 0, 1) := by decide +kernel
theorem dX9_hall_44 : decode cX9_hall 44 = .ok (.putfield 189, 3) := by decide +kernel
theorem dX9_hall_47 : decode cX9_hall 47 = .ok (.aload_n 0, 1) := by decide +kernel
theorem dX9_hall_48 : decode cX9_hall 48 = .ok (.iload_n 1, 1) := by decide +kernel
theorem dX9_hall_49 : decode cX9_hall 49 = .ok (.putfield 148, 3) := by decide +kernel
theorem dX9_hall_52 : decode cX9_hall 52 = .ok (.aload_n 0, 1) := by decide +kernel
theorem dX9_hall_53 : decode cX9_hall 53 = .ok (.iconst 0, 1) := by decide +kernel
theorem dX9_hall_54 : decode cX9_hall 54 = .ok (.putfield 151, 3) := by decide +kernel
theorem dX9_hall_57 : decode cX9_hall 57 = .ok (.aload_n 0, 1) := by decide +kernel
theorem dX9_hall_58 : decode cX9_hall 58 = .ok (.iconst 0, 1) := by decide +kernel
theorem dX9_hall_59 : decode cX9_hall 59 = .ok (.putfield 202, 3) := by decide +kernel
theorem dX9_hall_62 : decode cX9_hall 62 = .ok (.aload_n 0, 1) := by decide +kernel
theorem dX9_hall_63 : decode cX9_hall 63 = .ok (.iconst 0, 1) := by decide +kernel
theorem dX9_hall_64 : decode cX9_hall 64 = .ok (.putfield 216, 3) := by decide +kernel
theorem dX9_hall_67 : decode cX9_hall 67 = .ok (.aload_n 0, 1) := by decide +kernel
theorem dX9_hall_68 : decode cX9_hall 68 = .ok (.iconst 0, 1) := by decide +kernel
theorem dX9_hall_69 : decode cX9_hall 69 = .ok (.putfield 222, 3) := by decide +kernel
theorem dX9_hall_72 : decode cX9_hall 72 = .ok (.aload_n 0, 1) := by decide +kernel
theorem dX9_hall_73 : decode cX9_hall 73 = .ok (.iconst (-1), 1) := by decide +kernel
theorem dX9_hall_74 : decode cX9_hall 74 = .ok (.putfield 219, 3) := by decide +kernel
theorem dX9_hall_77 : decode cX9_hall 77 = .ok (.aload_n 0, 1) := by decide +kernel
theorem dX9_hall_78 : decode cX9_hall 78 = .ok (.iconst 0, 1) := by decide +kernel
theorem dX9_hall_79 : decode cX9_hall 79 = .ok (.putfield 248, 3) := by decide +kernel
theorem dX9_hall_82 : decode cX9_hall 82 = .ok (.aload_n 0, 1) := by decide +kernel
theorem dX9_hall_83 : decode cX9_hall 83 = .ok (.iconst 0, 1) := by decide +kernel
theorem dX9_hall_84 : decode cX9_hall 84 = .ok (.putfield 232, 3) := by decide +kernel
theorem dX9_hall_87 : decode cX9_hall 87 = .ok (.iconst 0, 1) := by decide +kernel
theorem dX9_hall_88 : decode cX9_hall 88 = .ok (.istore_n 2, 1) := by decide +kernel
theorem dX9_hall_89 : decode cX9_hall 89 = .ok (.iload_n 2, 1) := by decide +kernel
theorem dX9_hall_90 : decode cX9_hall 90 = .ok (.sipush 1296, 3) := by decide +kernel
theorem dX9_hall_93 : decode cX9_hall 93 = .ok (.if_icmp .ge 16, 3) := by decide +kernel
theorem dX9_hall_96 : decode cX9_hall 96 = .ok (.aload_n 0, 1) := by decide +kernel
theorem dX9_hall_97 : decode cX9_hall 97 = .ok (.getfield 39, 3) := by decide +kernel
theorem dX9_hall_100 : decode cX9_hall 100 = .ok (.iload_n 2, 1) := by decide +kernel
theorem dX9_hall_101 : decode cX9_hall 101 = .ok (.iconst 0, 1) := by decide +kernel
theorem dX9_hall_102 : decode cX9_hall 102 = .ok (.iastore, 1) := by decide +kernel
theorem dX9_hall_103 : decode cX9_hall 103 = .ok (.iinc 2 1, 3) := by decide +kernel
theorem dX9_hall_106 : decode cX9_hall 106 = .ok (.goto (-17), 3) := by decide +kernel
theorem dX9_hall_109 : decode cX9_hall 109 = .ok (.iconst 0, 1) := by decide +kernel
theorem dX9_hall_110 : decode cX9_hall 110 = .ok (.istore_n 2, 1) := by decide +kernel
theorem dX9_hall_111 : decode cX9_hall 111 = .ok (.iload_n 2, 1) := by decide +kernel
theorem dX9_hall_112 : decode cX9_hall 112 = .ok (.bipush 36, 2) := by decide +kernel
theorem dX9_hall_114 : decode cX9_hall 114 = .ok (.if_icmp .ge 16, 3) := by decide +kernel
theorem dX9_hall_117 : decode cX9_hall 117 = .ok (.aload_n 0, 1) := by decide +kernel
theorem dX9_hall_118 : decode cX9_hall 118 = .ok (.getfield 48, 3) := by decide +kernel
theorem dX9_hall_121 : decode cX9_hall 121 = .ok (.iload_n 2, 1) := by decide +kernel
theorem dX9_hall_122 : decode cX9_hall 122 = .ok (.iconst 0, 1) := by decide +kernel
theorem dX9_hall_123 : decode cX9_hall 123 = .ok (.bastore, 1) := by decide +kernel
theorem dX9_hall_124 : decode cX9_hall 124 = .ok (.iinc 2 1, 3) := by decide +kernel
theorem dX9_hall_127 : decode cX9_hall 127 = .ok (.goto (-16), 3) := by decide +kernel
theorem dX9_hall_130 : decode cX9_hall 130 = .ok (.aload_n 0, 1) := by decide +kernel
theorem dX9_hall_131 : decode cX9_hall 131 = .ok (.invokevirtual 196, 3) := by decide +kernel
theorem dX9_hall_134 : decode cX9_hall 134 = .ok (.aload_n 0, 1) := by decide +kernel
theorem dX9_hall_135 : decode cX9_hall 135 = .ok (.aload_n 0, 1) := by decide +kernel
theorem dX9_hall_136 : decode cX9_hall 136 = .ok (.invokevirtual 205, 3) := by decide +kernel
theorem dX9_hall_139 : decode cX9_hall 139 = .ok (.bipush 9, 2) := by decide +kernel
theorem dX9_hall_141 : decode cX9_hall 141 = .ok (.if_icmp .ne 7, 3) := by decide +kernel
theorem dX9_hall_144 : decode cX9_hall 144 = .ok (.iconst 1, 1) := by decide +kernel
theorem dX9_hall_145 : decode cX9_hall 145 = .ok (.goto 4, 3) := by decide +kernel
theorem dX9_hall_148 : decode cX9_hall 148 = .ok (.iconst 0, 1) := by decide +kernel
theorem dX9_hall_149 : decode cX9_hall 149 = .ok (.invokevirtual 251, 3) := by decide +kernel
theorem dX9_hall_152 : decode cX9_hall 152 = .ok (.aload_n 0, 1) := by decide +kernel
theorem dX9_hall_153 : decode cX9_hall 153 = .ok (.getfield 158, 3) := by decide +kernel
theorem dX9_hall_156 : decode cX9_hall 156 = .ok (.istore_n 2, 1) := by decide +kernel
theorem dX9_hall_157 : decode cX9_hall 157 = .ok (.aload_n 0, 1) := by decide +kernel
theorem dX9_hall_158 : decode cX9_hall 158 = .ok (.aload_n 0, 1) := by decide +kernel
theorem dX9_hall_159 : decode cX9_hall 159 = .ok (.iconst 2, 1) := by decide +kernel
theorem dX9_hall_160 : decode cX9_hall 160 = .ok (.iconst 5, 1) := by decide +kernel
theorem dX9_hall_161 : decode cX9_hall 161 = .ok (.invokevirtual 212, 3) := by decide +kernel
theorem dX9_hall_164 : decode cX9_hall 164 = .ok (.putfield 209, 3) := by decide +kernel
theorem dX9_hall_167 : decode cX9_hall 167 = .ok (.aload_n 0, 1) := by decide +kernel
theorem dX9_hall_168 : decode cX9_hall 168 = .ok (.invokevirtual 192, 3) := by decide +kernel
theorem dX9_hall_171 : decode cX9_hall 171 = .ok (.ifCond .eq 21, 3) := by decide +kernel
theorem dX9_hall_174 : decode cX9_hall 174 = .ok (.aload_n 0, 1) := by decide +kernel
theorem dX9_hall_175 : decode cX9_hall 175 = .ok (.getfield 209, 3) := by decide +kernel
theorem dX9_hall_178 : decode cX9_hall 178 = .ok (.iconst 4, 1) := by decide +kernel
theorem dX9_hall_179 : decode cX9_hall 179 = .ok (.if_icmp .ne 13, 3) := by decide +kernel
theorem dX9_hall_182 : decode cX9_hall 182 = .ok (.aload_n 0, 1) := by decide +kernel
theorem dX9_hall_183 : decode cX9_hall 183 = .ok (.iconst 2, 1) := by decide +kernel
theorem dX9_hall_184 : decode cX9_hall 184 = .ok (.putfield 189, 3) := by decide +kernel
theorem dX9_hall_187 : decode cX9_hall 187 = .ok (.aload_n 0, 1) := by decide +kernel
theorem dX9_hall_188 : decode cX9_hall 188 = .ok (.iload_n 2, 1) := by decide +kernel
theorem dX9_hall_189 : decode cX9_hall 189 = .ok (.putfield 36, 3) := by decide +kernel
theorem dX9_hall_192 : decode cX9_hall 192 = .ok (.aload_n 0, 1) := by decide +kernel
theorem dX9_hall_193 : decode cX9_hall 193 = .ok (.aload_n 0, 1) := by decide +kernel
theorem dX9_hall_194 : decode cX9_hall 194 = .ok (.getfield 168, 3) := by decide +kernel
theorem dX9_hall_197 : decode cX9_hall 197 = .ok (.iconst 3, 1) := by decide +kernel
theorem dX9_hall_198 : decode cX9_hall 198 = .ok (.if_icmp .ne 7, 3) := by decide +kernel
theorem dX9_hall_201 : decode cX9_hall 201 = .ok (.iconst 1, 1) := by decide +kernel
theorem dX9_hall_202 : decode cX9_hall 202 = .ok (.goto 4, 3) := by decide +kernel
theorem dX9_hall_205 : decode cX9_hall 205 = .ok (.iconst 0, 1) := by decide +kernel
theorem dX9_hall_206 : decode cX9_hall 206 = .ok (.invokevirtual 251, 3) := by decide +kernel
theorem dX9_hall_209 : decode cX9_hall 209 = .ok (.aload_n 0, 1) := by decide +kernel
theorem dX9_hall_210 : decode cX9_hall 210 = .ok (.invokevirtual 259, 3) := by decide +kernel
theorem dX9_hall_213 : decode cX9_hall 213 = .ok (.aload_n 0, 1) := by decide +kernel
theorem dX9_hall_214 : decode cX9_hall 214 = .ok (.aload_n 0, 1) := by decide +kernel
theorem dX9_hall_215 : decode cX9_hall 215 = .ok (.getfield 168, 3) := by decide +kernel
theorem dX9_hall_218 : decode cX9_hall 218 = .ok (.iconst 3, 1) := by decide +kernel
theorem dX9_hall_219 : decode cX9_hall 219 = .ok (.if_icmp .ne 7, 3) := by decide +kernel
theorem dX9_hall_222 : decode cX9_hall 222 = .ok (.iconst 1, 1) := by decide +kernel
theorem dX9_hall_223 : decode cX9_hall 223 = .ok (.goto 4, 3) := by decide +kernel
theorem dX9_hall_226 : decode cX9_hall 226 = .ok (.iconst 0, 1) := by decide +kernel
theorem dX9_hall_227 : decode cX9_hall 227 = .ok (.invokevirtual 251, 3) := by decide +kernel
theorem dX9_hall_230 : decode cX9_hall 230 = .ok (.iconst 0, 1) := by decide +kernel
theorem dX9_hall_231 : decode cX9_hall 231 = .ok (.istore_n 3, 1) := by decide +kernel
theorem dX9_hall_232 : decode cX9_hall 232 = .ok (.aload_n 0, 1) := by decide +kernel
theorem dX9_hall_233 : decode cX9_hall 233 = .ok (.invokevirtual 192, 3) := by decide +kernel
theorem dX9_hall_236 : decode cX9_hall 236 = .ok (.ifCond .eq 21, 3) := by decide +kernel
theorem dX9_hall_239 : decode cX9_hall 239 = .ok (.aload_n 0, 1) := by decide +kernel
theorem dX9_hall_240 : decode cX9_hall 240 = .ok (.getfield 168, 3) := by decide +kernel
theorem dX9_hall_243 : decode cX9_hall 243 = .ok (.ifCond .eq 14, 3) := by decide +kernel
theorem dX9_hall_246 : decode cX9_hall 246 = .ok (.aload_n 0, 1) := by decide +kernel
theorem dX9_hall_247 : decode cX9_hall 247 = .ok (.iload_n 3, 1) := by decide +kernel
theorem dX9_hall_248 : decode cX9_hall 248 = .ok (.invokevirtual 262, 3) := by decide +kernel
theorem dX9_hall_251 : decode cX9_hall 251 = .ok (.iinc 3 1, 3) := by decide +kernel
theorem dX9_hall_254 : decode cX9_hall 254 = .ok (.goto (-22), 3) := by decide +kernel
theorem dX9_hall_257 : decode cX9_hall 257 = .ok (.aload_n 0, 1) := by decide +kernel
theorem dX9_hall_258 : decode cX9_hall 258 = .ok (.invokevirtual 192, 3) := by decide +kernel
theorem dX9_hall_261 : decode cX9_hall 261 = .ok (.ifCond .ne 8, 3) := by decide +kernel
theorem dX9_hall_264 : decode cX9_hall 264 = .ok (.aload_n 0, 1) := by decide +kernel
theorem dX9_hall_265 : decode cX9_hall 265 = .ok (.getfield 189, 3) := by decide +kernel
theorem dX9_hall_268 : decode cX9_hall 268 = .ok (.ireturn, 1) := by decide +kernel
theorem dX9_hall_269 : decode cX9_hall 269 = .ok (.aload_n 0, 1) := by decide +kernel
theorem dX9_hall_270 : decode cX9_hall 270 = .ok (.invokevirtual 265, 3) := by decide +kernel
theorem dX9_hall_273 : decode cX9_hall 273 = .ok (.iconst 0, 1) := by decide +kernel
theorem dX9_hall_274 : decode cX9_hall 274 = .ok (.ireturn, 1) := by decide +kernel
theorem dX9_begins_0 : decode cX9_begins 0 = .ok (.aload_n 0, 1) := by decide +kernel
theorem dX9_begins_1 : decode cX9_begins 1 = .ok (.invokevirtual 192, 3) := by decide +kernel
theorem dX9_begins_4 : decode cX9_begins 4 = .ok (.ifCond .ne 4, 3) := by decide +kernel
theorem dX9_begins_7 : decode cX9_begins 7 = .ok (.return_, 1) := by decide +kernel
theorem dX9_begins_8 : decode cX9_begins 8 = .ok (.aload_n 0, 1) := by decide +kernel
theorem dX9_begins_9 : decode cX9_begins 9 = .ok (.invokevirtual 205, 3) := by decide +kernel
theorem dX9_begins_12 : decode cX9_begins 12 = .ok (.bipush 10, 2) := by decide +kernel
theorem dX9_begins_14 : decode cX9_begins 14 = .ok (.if_icmp .ne 7, 3) := by decide +kernel
theorem dX9_begins_17 : decode cX9_begins 17 = .ok (.iconst 1, 1) := by decide +kernel
theorem dX9_begins_18 : decode cX9_begins 18 = .ok (.goto 4, 3) := by decide +kernel
theorem dX9_begins_21 : decode cX9_begins 21 = .ok (.iconst 0, 1) := by decide +kernel
theorem dX9_begins_22 : decode cX9_begins 22 = .ok (.istore_n 1, 1) := by decide +kernel
theorem dX9_begins_23 : decode cX9_begins 23 = .ok (.aload_n 0, 1) := by decide +kernel
theorem dX9_begins_24 : decode cX9_begins 24 = .ok (.iload_n 1, 1) := by decide +kernel
theorem dX9_begins_25 : decode cX9_begins 25 = .ok (.ifCond .ne 12, 3) := by decide +kernel
theorem dX9_begins_28 : decode cX9_begins 28 = .ok (.aload_n 0, 1) := by decide +kernel
theorem dX9_begins_29 : decode cX9_begins 29 = .ok (.invokevirtual 205, 3) := by decide +kernel
theorem dX9_begins_32 : decode cX9_begins 32 = .ok (.bipush 11, 2) := by decide +kernel
theorem dX9_begins_34 : decode cX9_begins 34 = .ok (.if_icmp .ne 7, 3) := by decide +kernel
theorem dX9_begins_37 : decode cX9_begins 37 = .ok (.iconst 1, 1) := by decide +kernel
theorem dX9_begins_38 : decode cX9_begins 38 = .ok (.goto 4, 3) := by decide +kernel
theorem dX9_begins_41 : decode cX9_begins 41 = .ok (.iconst 0, 1) := by decide +kernel
theorem dX9_begins_42 : decode cX9_begins 42 = .ok (.invokevirtual 251, 3) := by decide +kernel
theorem dX9_begins_45 : decode cX9_begins 45 = .ok (.iload_n 1, 1) := by decide +kernel
theorem dX9_begins_46 : decode cX9_begins 46 = .ok (.ifCond .ne 15, 3) := by decide +kernel
theorem dX9_begins_49 : decode cX9_begins 49 = .ok (.aload_n 0, 1) := by decide +kernel
theorem dX9_begins_50 : decode cX9_begins 50 = .ok (.aload_n 0, 1) := by decide +kernel
theorem dX9_begins_51 : decode cX9_begins 51 = .ok (.iconst 1, 1) := by decide +kernel
theorem dX9_begins_52 : decode cX9_begins 52 = .ok (.bipush 36, 2) := by decide +kernel
theorem dX9_begins_54 : decode cX9_begins 54 = .ok (.invokevirtual 212, 3) := by decide +kernel
theorem dX9_begins_57 : decode cX9_begins 57 = .ok (.putfield 202, 3) := by decide +kernel
theorem dX9_begins_60 : decode cX9_begins 60 = .ok (.return_, 1) := by decide +kernel
theorem dX9_begins_61 : decode cX9_begins 61 = .ok (.aload_n 0, 1) := by decide +kernel
theorem dX9_begins_62 : decode cX9_begins 62 = .ok (.aload_n 0, 1) := by decide +kernel
theorem dX9_begins_63 : decode cX9_begins 63 = .ok (.iconst 1, 1) := by decide +kernel
theorem dX9_begins_64 : decode cX9_begins 64 = .ok (.bipush 6, 2) := by decide +kernel
theorem dX9_begins_66 : decode cX9_begins 66 = .ok (.invokevirtual 212, 3) := by decide +kernel
theorem dX9_begins_69 : decode cX9_begins 69 = .ok (.putfield 216, 3) := by decide +kernel
theorem dX9_begins_72 : decode cX9_begins 72 = .ok (.aload_n 0, 1) := by decide +kernel
theorem dX9_begins_73 : decode cX9_begins 73 = .ok (.aload_n 0, 1) := by decide +kernel
theorem dX9_begins_74 : decode cX9_begins 74 = .ok (.iconst 1, 1) := by decide +kernel
theorem dX9_begins_75 : decode cX9_begins 75 = .ok (.bipush 6, 2) := by decide +kernel
theorem dX9_begins_77 : decode cX9_begins 77 = .ok (.invokevirtual 212, 3) := by decide +kernel
theorem dX9_begins_80 : decode cX9_begins 80 = .ok (.putfield 222, 3) := by decide +kernel
theorem dX9_begins_83 : decode cX9_begins 83 = .ok (.aload_n 0, 1) := by decide +kernel
theorem dX9_begins_84 : decode cX9_begins 84 = .ok (.aload_n 0, 1) := by decide +kernel
theorem dX9_begins_85 : decode cX9_begins 85 = .ok (.getfield 216, 3) := by decide +kernel
theorem dX9_begins_88 : decode cX9_begins 88 = .ok (.aload_n 0, 1) := by decide +kernel
theorem dX9_begins_89 : decode cX9_begins 89 = .ok (.getfield 222, 3) := by decide +kernel
theorem dX9_begins_92 : decode cX9_begins 92 = .ok (.imul, 1) := by decide +kernel
theorem dX9_begins_93 : decode cX9_begins 93 = .ok (.putfield 202, 3) := by decide +kernel
theorem dX9_begins_96 : decode cX9_begins 96 = .ok (.aload_n 0, 1) := by decide +kernel
theorem dX9_begins_97 : decode cX9_begins 97 = .ok (.iconst 0, 1) := by decide +kernel
theorem dX9_begins_98 : decode cX9_begins 98 = .ok (.putfield 219, 3) := by decide +kernel
theorem dX9_begins_101 : decode cX9_begins 101 = .ok (.aload_n 0, 1) := by decide +kernel
theorem dX9_begins_102 : decode cX9_begins 102 = .ok (.invokevirtual 192, 3) := by decide +kernel
theorem dX9_begins_105 : decode cX9_begins 105 = .ok (.ifCond .eq 43, 3) := by decide +kernel
theorem dX9_begins_108 : decode cX9_begins 108 = .ok (.aload_n 0, 1) := by decide +kernel
theorem dX9_begins_109 : decode cX9_begins 109 = .ok (.invokevirtual 205, 3) := by decide +kernel
theorem dX9_begins_112 : decode cX9_begins 112 = .ok (.bipush 12, 2) := by decide +kernel
theorem dX9_begins_114 : decode cX9_begins 114 = .ok (.if_icmp .eq 12, 3) := by decide +kernel
theorem dX9_begins_117 : decode cX9_begins 117 = .ok (.aload_n 0, 1) := by decide +kernel
theorem dX9_begins_118 : decode cX9_begins 118 = .ok (.invokevirtual 205, 3) := by decide +kernel
theorem dX9_begins_121 : decode cX9_begins 121 = .ok (.bipush 13, 2) := by decide +kernel
theorem dX9_begins_123 : decode cX9_begins 123 = .ok (.if_icmp .ne 25, 3) := by decide +kernel
theorem dX9_begins_126 : decode cX9_begins 126 = .ok (.aload_n 0, 1) := by decide +kernel
theorem dX9_begins_127 : decode cX9_begins 127 = .ok (.aload_n 0, 1) := by decide +kernel
theorem dX9_begins_128 : decode cX9_begins 128 = .ok (.invokevirtual 205, 3) := by decide +kernel
theorem dX9_begins_131 : decode cX9_begins 131 = .ok (.bipush 12, 2) := by decide +kernel
theorem dX9_begins_133 : decode cX9_begins 133 = .ok (.if_icmp .ne 7, 3) := by decide +kernel
theorem dX9_begins_136 : decode cX9_begins 136 = .ok (.iconst 1, 1) := by decide +kernel
theorem dX9_begins_137 : decode cX9_begins 137 = .ok (.goto 4, 3) := by decide +kernel
theorem dX9_begins_140 : decode cX9_begins 140 = .ok (.iconst 2, 1) := by decide +kernel
theorem dX9_begins_141 : decode cX9_begins 141 = .ok (.putfield 219, 3) := by decide +kernel
theorem dX9_begins_144 : decode cX9_begins 144 = .ok (.aload_n 0, 1) := by decide +kernel
theorem dX9_begins_145 : decode cX9_begins 145 = .ok (.invokevirtual 196, 3) := by decide +kernel
theorem dX9_begins_148 : decode cX9_begins 148 = .ok (.return_, 1) := by decide +kernel
theorem dX9_takes_0 : decode cX9_takes 0 = .ok (.iconst 0, 1) := by decide +kernel
theorem dX9_takes_1 : decode cX9_takes 1 = .ok (.istore_n 1, 1) := by decide +kernel
theorem dX9_takes_2 : decode cX9_takes 2 = .ok (.iload_n 1, 1) := by decide +kernel
theorem dX9_takes_3 : decode cX9_takes 3 = .ok (.aload_n 0, 1) := by decide +kernel
theorem dX9_takes_4 : decode cX9_takes 4 = .ok (.getfield 248, 3) := by decide +kernel
theorem dX9_takes_7 : decode cX9_takes 7 = .ok (.if_icmp .ge 59, 3) := by decide +kernel
theorem dX9_takes_10 : decode cX9_takes 10 = .ok (.aload_n 0, 1) := by decide +kernel
theorem dX9_takes_11 : decode cX9_takes 11 = .ok (.aload_n 0, 1) := by decide +kernel
theorem dX9_takes_12 : decode cX9_takes 12 = .ok (.getfield 42, 3) := by decide +kernel
theorem dX9_takes_15 : decode cX9_takes 15 = .ok (.iload_n 1, 1) := by decide +kernel
theorem dX9_takes_16 : decode cX9_takes 16 = .ok (.iaload, 1) := by decide +kernel
theorem dX9_takes_17 : decode cX9_takes 17 = .ok (.aload_n 0, 1) := by decide +kernel
theorem dX9_takes_18 : decode cX9_takes 18 = .ok (.getfield 45, 3) := by decide +kernel
theorem dX9_takes_21 : decode cX9_takes 21 = .ok (.iload_n 1, 1) := by decide +kernel
theorem dX9_takes_22 : decode cX9_takes 22 = .ok (.iaload, 1) := by decide +kernel
theorem dX9_takes_23 : decode cX9_takes 23 = .ok (.aload_n 0, 1) := by decide +kernel
theorem dX9_takes_24 : decode cX9_takes 24 = .ok (.getfield 232, 3) := by decide +kernel
theorem dX9_takes_27 : decode cX9_takes 27 = .ok (.aload_n 0, 1) := by decide +kernel
theorem dX9_takes_28 : decode cX9_takes 28 = .ok (.getfield 209, 3) := by decide +kernel
theorem dX9_takes_31 : decode cX9_takes 31 = .ok (.irem, 1) := by decide +kernel
theorem dX9_takes_32 : decode cX9_takes 32 = .ok (.invokevirtual 225, 3) := by decide +kernel
theorem dX9_takes_35 : decode cX9_takes 35 = .ok (.aload_n 0, 1) := by decide +kernel
theorem dX9_takes_36 : decode cX9_takes 36 = .ok (.aload_n 0, 1) := by decide +kernel
theorem dX9_takes_37 : decode cX9_takes 37 = .ok (.getfield 45, 3) := by decide +kernel
theorem dX9_takes_40 : decode cX9_takes 40 = .ok (.iload_n 1, 1) := by decide +kernel
theorem dX9_takes_41 : decode cX9_takes 41 = .ok (.iaload, 1) := by decide +kernel
theorem dX9_takes_42 : decode cX9_takes 42 = .ok (.aload_n 0, 1) := by decide +kernel
theorem dX9_takes_43 : decode cX9_takes 43 = .ok (.getfield 42, 3) := by decide +kernel
theorem dX9_takes_46 : decode cX9_takes 46 = .ok (.iload_n 1, 1) := by decide +kernel
theorem dX9_takes_47 : decode cX9_takes 47 = .ok (.iaload, 1) := by decide +kernel
theorem dX9_takes_48 : decode cX9_takes 48 = .ok (.aload_n 0, 1) := by decide +kernel
theorem dX9_takes_49 : decode cX9_takes 49 = .ok (.getfield 232, 3) := by decide +kernel
theorem dX9_takes_52 : decode cX9_takes 52 = .ok (.aload_n 0, 1) := by decide +kernel
theorem dX9_takes_53 : decode cX9_takes 53 = .ok (.getfield 209, 3) := by decide +kernel
theorem dX9_takes_56 : decode cX9_takes 56 = .ok (.irem, 1) := by decide +kernel
theorem dX9_takes_57 : decode cX9_takes 57 = .ok (.invokevirtual 225, 3) := by decide +kernel
theorem dX9_takes_60 : decode cX9_takes 60 = .ok (.iinc 1 1, 3) := by decide +kernel
theorem dX9_takes_63 : decode cX9_takes 63 = .ok (.goto (-61), 3) := by decide +kernel
theorem dX9_takes_66 : decode cX9_takes 66 = .ok (.aload_n 0, 1) := by decide +kernel
theorem dX9_takes_67 : decode cX9_takes 67 = .ok (.aload_n 0, 1) := by decide +kernel
theorem dX9_takes_68 : decode cX9_takes 68 = .ok (.getfield 202, 3) := by decide +kernel
theorem dX9_takes_71 : decode cX9_takes 71 = .ok (.putfield 268, 3) := by decide +kernel
theorem dX9_takes_74 : decode cX9_takes 74 = .ok (.aload_n 0, 1) := by decide +kernel
theorem dX9_takes_75 : decode cX9_takes 75 = .ok (.aload_n 0, 1) := by decide +kernel
theorem dX9_takes_76 : decode cX9_takes 76 = .ok (.getfield 209, 3) := by decide +kernel
theorem dX9_takes_79 : decode cX9_takes 79 = .ok (.putfield 7, 3) := by decide +kernel
theorem dX9_takes_82 : decode cX9_takes 82 = .ok (.aload_n 0, 1) := by decide +kernel
theorem dX9_takes_83 : decode cX9_takes 83 = .ok (.aload_n 0, 1) := by decide +kernel
theorem dX9_takes_84 : decode cX9_takes 84 = .ok (.getfield 216, 3) := by decide +kernel
theorem dX9_takes_87 : decode cX9_takes 87 = .ok (.putfield 271, 3) := by decide +kernel
theorem dX9_takes_90 : decode cX9_takes 90 = .ok (.aload_n 0, 1) := by decide +kernel
theorem dX9_takes_91 : decode cX9_takes 91 = .ok (.aload_n 0, 1) := by decide +kernel
theorem dX9_takes_92 : decode cX9_takes 92 = .ok (.getfield 222, 3) := by decide +kernel
theorem dX9_takes_95 : decode cX9_takes 95 = .ok (.putfield 274, 3) := by decide +kernel
theorem dX9_takes_98 : decode cX9_takes 98 = .ok (.aload_n 0, 1) := by decide +kernel
theorem dX9_takes_99 : decode cX9_takes 99 = .ok (.aload_n 0, 1) := by decide +kernel
theorem dX9_takes_100 : decode cX9_takes 100 = .ok (.getfield 219, 3) := by decide +kernel
theorem dX9_takes_103 : decode cX9_takes 103 = .ok (.putfield 13, 3) := by decide +kernel
theorem dX9_takes_106 : decode cX9_takes 106 = .ok (.iconst 0, 1) := by decide +kernel
theorem dX9_takes_107 : decode cX9_takes 107 = .ok (.istore_n 1, 1) := by decide +kernel
theorem dX9_takes_108 : decode cX9_takes 108 = .ok (.iload_n 1, 1) := by decide +kernel
theorem dX9_takes_109 : decode cX9_takes 109 = .ok (.sipush 1296, 3) := by decide +kernel
theorem dX9_takes_112 : decode cX9_takes 112 = .ok (.if_icmp .ge 21, 3) := by decide +kernel
theorem dX9_takes_115 : decode cX9_takes 115 = .ok (.aload_n 0, 1) := by decide +kernel
theorem dX9_takes_116 : decode cX9_takes 116 = .ok (.getfield 16, 3) := by decide +kernel
theorem dX9_takes_119 : decode cX9_takes 119 = .ok (.iload_n 1, 1) := by decide +kernel
theorem dX9_takes_120 : decode cX9_takes 120 = .ok (.aload_n 0, 1) := by decide +kernel
theorem dX9_takes_121 : decode cX9_takes 121 = .ok (.getfield 39, 3) := by decide +kernel
theorem dX9_takes_124 : decode cX9_takes 124 = .ok (.iload_n 1, 1) := by decide +kernel
theorem dX9_takes_125 : decode cX9_takes 125 = .ok (.iaload, 1) := by decide +kernel
theorem dX9_takes_126 : decode cX9_takes 126 = .ok (.iastore, 1) := by decide +kernel
theorem dX9_takes_127 : decode cX9_takes 127 = .ok (.iinc 1 1, 3) := by decide +kernel
theorem dX9_takes_130 : decode cX9_takes 130 = .ok (.goto (-22), 3) := by decide +kernel
theorem dX9_takes_133 : decode cX9_takes 133 = .ok (.iconst 0, 1) := by decide +kernel
theorem dX9_takes_134 : decode cX9_takes 134 = .ok (.istore_n 1, 1) := by decide +kernel
theorem dX9_takes_135 : decode cX9_takes 135 = .ok (.iload_n 1, 1) := by decide +kernel
theorem dX9_takes_136 : decode cX9_takes 136 = .ok (.bipush 36, 2) := by decide +kernel
theorem dX9_takes_138 : decode cX9_takes 138 = .ok (.if_icmp .ge 35, 3) := by decide +kernel
theorem dX9_takes_141 : decode cX9_takes 141 = .ok (.aload_n 0, 1) := by decide +kernel
theorem dX9_takes_142 : decode cX9_takes 142 = .ok (.getfield 20, 3) := by decide +kernel
theorem dX9_takes_145 : decode cX9_takes 145 = .ok (.iload_n 1, 1) := by decide +kernel
theorem dX9_takes_146 : decode cX9_takes 146 = .ok (.aload_n 0, 1) := by decide +kernel
theorem dX9_takes_147 : decode cX9_takes 147 = .ok (.getfield 48, 3) := by decide +kernel
theorem dX9_takes_150 : decode cX9_takes 150 = .ok (.iload_n 1, 1) := by decide +kernel
theorem dX9_takes_151 : decode cX9_takes 151 = .ok (.baload, 1) := by decide +kernel
theorem dX9_takes_152 : decode cX9_takes 152 = .ok (.bastore, 1) := by decide +kernel
theorem dX9_takes_153 : decode cX9_takes 153 = .ok (.aload_n 0, 1) := by decide +kernel
theorem dX9_takes_154 : decode cX9_takes 154 = .ok (.getfield 24, 3) := by decide +kernel
theorem dX9_takes_157 : decode cX9_takes 157 = .ok (.iload_n 1, 1) := by decide +kernel
theorem dX9_takes_158 : decode cX9_takes 158 = .ok (.iconst 0, 1) := by decide +kernel
theorem dX9_takes_159 : decode cX9_takes 159 = .ok (.iastore, 1) := by decide +kernel
theorem dX9_takes_160 : decode cX9_takes 160 = .ok (.aload_n 0, 1) := by decide +kernel
theorem dX9_takes_161 : decode cX9_takes 161 = .ok (.getfield 27, 3) := by decide +kernel
theorem dX9_takes_164 : decode cX9_takes 164 = .ok (.iload_n 1, 1) := by decide +kernel
theorem dX9_takes_165 : decode cX9_takes 165 = .ok (.iconst 0, 1) := by decide +kernel
theorem dX9_takes_166 : decode cX9_takes 166 = .ok (.iastore, 1) := by decide +kernel
theorem dX9_takes_167 : decode cX9_takes 167 = .ok (.iinc 1 1, 3) := by decide +kernel
theorem dX9_takes_170 : decode cX9_takes 170 = .ok (.goto (-35), 3) := by decide +kernel
theorem dX9_takes_173 : decode cX9_takes 173 = .ok (.aload_n 0, 1) := by decide +kernel
theorem dX9_takes_174 : decode cX9_takes 174 = .ok (.iconst 0, 1) := by decide +kernel
theorem dX9_takes_175 : decode cX9_takes 175 = .ok (.putfield 277, 3) := by decide +kernel
theorem dX9_takes_178 : decode cX9_takes 178 = .ok (.aload_n 0, 1) := by decide +kernel
theorem dX9_takes_179 : decode cX9_takes 179 = .ok (.iconst 0, 1) := by decide +kernel
theorem dX9_takes_180 : decode cX9_takes 180 = .ok (.putfield 280, 3) := by decide +kernel
theorem dX9_takes_183 : decode cX9_takes 183 = .ok (.aload_n 0, 1) := by decide +kernel
theorem dX9_takes_184 : decode cX9_takes 184 = .ok (.iconst 0, 1) := by decide +kernel
theorem dX9_takes_185 : decode cX9_takes 185 = .ok (.putfield 284, 3) := by decide +kernel
theorem dX9_takes_188 : decode cX9_takes 188 = .ok (.iconst 0, 1) := by decide +kernel
theorem dX9_takes_189 : decode cX9_takes 189 = .ok (.istore_n 1, 1) := by decide +kernel
theorem dX9_takes_190 : decode cX9_takes 190 = .ok (.iload_n 1, 1) := by decide +kernel
theorem dX9_takes_191 : decode cX9_takes 191 = .ok (.iconst 4, 1) := by decide +kernel
theorem dX9_takes_192 : decode cX9_takes 192 = .ok (.if_icmp .ge 16, 3) := by decide +kernel
theorem dX9_takes_195 : decode cX9_takes 195 = .ok (.aload_n 0, 1) := by decide +kernel
theorem dX9_takes_196 : decode cX9_takes 196 = .ok (.getfield 132, 3) := by decide +kernel
theorem dX9_takes_199 : decode cX9_takes 199 = .ok (.iload_n 1, 1) := by decide +kernel
theorem dX9_takes_200 : decode cX9_takes 200 = .ok (.iconst 0, 1) := by decide +kernel
theorem dX9_takes_201 : decode cX9_takes 201 = .ok (.bastore, 1) := by decide +kernel
theorem dX9_takes_202 : decode cX9_takes 202 = .ok (.iinc 1 1, 3) := by decide +kernel
theorem dX9_takes_205 : decode cX9_takes 205 = .ok (.goto (-15), 3) := by decide +kernel
theorem dX9_takes_208 : decode cX9_takes 208 = .ok (.aload_n 0, 1) := by decide +kernel
theorem dX9_takes_209 : decode cX9_takes 209 = .ok (.invokevirtual 287, 3) := by decide +kernel
theorem dX9_takes_212 : decode cX9_takes 212 = .ok (.return_, 1) := by decide +kernel
theorem dX9_fault_0 : decode cX9_fault 0 = .ok (.aload_n 0, 1) := by decide +kernel
theorem dX9_fault_1 : decode cX9_fault 1 = .ok (.iconst 0, 1) := by decide +kernel
theorem dX9_fault_2 : decode cX9_fault 2 = .ok (.putfield 138, 3) := by decide +kernel
theorem dX9_fault_5 : decode cX9_fault 5 = .ok (.aload_n 0, 1) := by decide +kernel
theorem dX9_fault_6 : decode cX9_fault 6 = .ok (.getfield 36, 3) := by decide +kernel
theorem dX9_fault_9 : decode cX9_fault 9 = .ok (.ireturn, 1) := by decide +kernel
theorem dX9_isLamp_0 : decode cX9_isLamp 0 = .ok (.iload_n 1, 1) := by decide +kernel
theorem dX9_isLamp_1 : decode cX9_isLamp 1 = .ok (.ifCond .lt 15, 3) := by decide +kernel
theorem dX9_isLamp_4 : decode cX9_isLamp 4 = .ok (.iload_n 1, 1) := by decide +kernel
theorem dX9_isLamp_5 : decode cX9_isLamp 5 = .ok (.aload_n 0, 1) := by decide +kernel
theorem dX9_isLamp_6 : decode cX9_isLamp 6 = .ok (.getfield 268, 3) := by decide +kernel
theorem dX9_isLamp_9 : decode cX9_isLamp 9 = .ok (.if_icmp .ge 7, 3) := by decide +kernel
theorem dX9_isLamp_12 : decode cX9_isLamp 12 = .ok (.iconst 1, 1) := by decide +kernel
theorem dX9_isLamp_13 : decode cX9_isLamp 13 = .ok (.goto 4, 3) := by decide +kernel
theorem dX9_isLamp_16 : decode cX9_isLamp 16 = .ok (.iconst 0, 1) := by decide +kernel
theorem dX9_isLamp_17 : decode cX9_isLamp 17 = .ok (.ireturn, 1) := by decide +kernel
theorem dX9_count_0 : decode cX9_count 0 = .ok (.aload_n 0, 1) := by decide +kernel
theorem dX9_count_1 : decode cX9_count 1 = .ok (.iconst 0, 1) := by decide +kernel
theorem dX9_count_2 : decode cX9_count 2 = .ok (.putfield 138, 3) := by decide +kernel
theorem dX9_count_5 : decode cX9_count 5 = .ok (.aload_n 0, 1) := by decide +kernel
theorem dX9_count_6 : decode cX9_count 6 = .ok (.iload_n 1, 1) := by decide +kernel
theorem dX9_count_7 : decode cX9_count 7 = .ok (.ifCond .lt 13, 3) := by decide +kernel
theorem dX9_count_10 : decode cX9_count 10 = .ok (.iload_n 1, 1) := by decide +kernel
theorem dX9_count_11 : decode cX9_count 11 = .ok (.bipush 7, 2) := by decide +kernel
theorem dX9_count_13 : decode cX9_count 13 = .ok (.if_icmp .gt 7, 3) := by decide +kernel
theorem dX9_count_16 : decode cX9_count 16 = .ok (.iconst 1, 1) := by decide +kernel
theorem dX9_count_17 : decode cX9_count 17 = .ok (.goto 4, 3) := by decide +kernel
theorem dX9_count_20 : decode cX9_count 20 = .ok (.iconst 0, 1) := by decide +kernel
theorem dX9_count_21 : decode cX9_count 21 = .ok (.iconst 1, 1) := by decide +kernel
theorem dX9_count_22 : decode cX9_count 22 = .ok (.invokevirtual 255, 3) := by decide +kernel
theorem dX9_count_25 : decode cX9_count 25 = .ok (.ifCond .ne 5, 3) := by decide +kernel
theorem dX9_count_28 : decode cX9_count 28 = .ok (.iconst 0, 1) := by decide +kernel
theorem dX9_count_29 : decode cX9_count 29 = .ok (.ireturn, 1) := by decide +kernel
theorem dX9_count_30 : decode cX9_count 30 = .ok (.iconst 0, 1) := by decide +kernel
theorem dX9_count_31 : decode cX9_count 31 = .ok (.istore_n 2, 1) := by decide +kernel
theorem dX9_count_32 : decode cX9_count 32 = .ok (.iconst 0, 1) := by decide +kernel
theorem dX9_count_33 : decode cX9_count 33 = .ok (.istore_n 3, 1) := by decide +kernel
theorem dX9_count_34 : decode cX9_count 34 = .ok (.iload_n 3, 1) := by decide +kernel
theorem dX9_count_35 : decode cX9_count 35 = .ok (.aload_n 0, 1) := by decide +kernel
theorem dX9_count_36 : decode cX9_count 36 = .ok (.getfield 268, 3) := by decide +kernel
theorem dX9_count_39 : decode cX9_count 39 = .ok (.if_icmp .ge 26, 3) := by decide +kernel
theorem dX9_count_42 : decode cX9_count 42 = .ok (.iload_n 2, 1) := by decide +kernel
theorem dX9_count_43 : decode cX9_count 43 = .ok (.aload_n 0, 1) := by decide +kernel
theorem dX9_count_44 : decode cX9_count 44 = .ok (.getfield 20, 3) := by decide +kernel
theorem dX9_count_47 : decode cX9_count 47 = .ok (.iload_n 3, 1) := by decide +kernel
theorem dX9_count_48 : decode cX9_count 48 = .ok (.baload, 1) := by decide +kernel
theorem dX9_count_49 : decode cX9_count 49 = .ok (.ifCond .eq 7, 3) := by decide +kernel
theorem dX9_count_52 : decode cX9_count 52 = .ok (.iconst 1, 1) := by decide +kernel
theorem dX9_count_53 : decode cX9_count 53 = .ok (.goto 4, 3) := by decide +kernel
theorem dX9_count_56 : decode cX9_count 56 = .ok (.iconst 0, 1) := by decide +kernel
theorem dX9_count_57 : decode cX9_count 57 = .ok (.iadd, 1) := by decide +kernel
theorem dX9_count_58 : decode cX9_count 58 = .ok (.istore_n 2, 1) := by decide +kernel
theorem dX9_count_59 : decode cX9_count 59 = .ok (.iinc 3 1, 3) := by decide +kernel
theorem dX9_count_62 : decode cX9_count 62 = .ok (.goto (-28), 3) := by decide +kernel
theorem dX9_count_65 : decode cX9_count 65 = .ok (.iload_n 1, 1) := by decide +kernel
theorem dX9_count_66 : decode cX9_count 66 = .ok (.tableswitch 77 0 6 #[42, 47, 52, 57, 62, 67, 72], 42) := by decide +kernel
theorem dX9_count_108 : decode cX9_count 108 = .ok (.aload_n 0, 1) := by decide +kernel
theorem dX9_count_109 : decode cX9_count 109 = .ok (.getfield 268, 3) := by decide +kernel
theorem dX9_count_112 : decode cX9_count 112 = .ok (.ireturn, 1) := by decide +kernel
theorem dX9_count_113 : decode cX9_count 113 = .ok (.aload_n 0, 1) := by decide +kernel
theorem dX9_count_114 : decode cX9_count 114 = .ok (.getfield 7, 3) := by decide +kernel
theorem dX9_count_117 : decode cX9_count 117 = .ok (.ireturn, 1) := by decide +kernel
theorem dX9_count_118 : decode cX9_count 118 = .ok (.aload_n 0, 1) := by decide +kernel
theorem dX9_count_119 : decode cX9_count 119 = .ok (.getfield 271, 3) := by decide +kernel
theorem dX9_count_122 : decode cX9_count 122 = .ok (.ireturn, 1) := by decide +kernel
