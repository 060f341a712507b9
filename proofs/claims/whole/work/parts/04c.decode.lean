theorem dX9_count_123 : decode cX9_count 123 = .ok (.aload_n 0, 1) := by decide +kernel
theorem dX9_count_124 : decode cX9_count 124 = .ok (.getfield 274, 3) := by decide +kernel
theorem dX9_count_127 : decode cX9_count 127 = .ok (.ireturn, 1) := by decide +kernel
theorem dX9_count_128 : decode cX9_count 128 = .ok (.aload_n 0, 1) := by decide +kernel
theorem dX9_count_129 : decode cX9_count 129 = .ok (.getfield 13, 3) := by decide +kernel
theorem dX9_count_132 : decode cX9_count 132 = .ok (.ireturn, 1) := by decide +kernel
theorem dX9_count_133 : decode cX9_count 133 = .ok (.aload_n 0, 1) := by decide +kernel
theorem dX9_count_134 : decode cX9_count 134 = .ok (.getfield 277, 3) := by decide +kernel
theorem dX9_count_137 : decode cX9_count 137 = .ok (.ireturn, 1) := by decide +kernel
theorem dX9_count_138 : decode cX9_count 138 = .ok (.aload_n 0, 1) := by decide +kernel
theorem dX9_count_139 : decode cX9_count 139 = .ok (.getfield 141, 3) := by decide +kernel
theorem dX9_count_142 : decode cX9_count 142 = .ok (.ireturn, 1) := by decide +kernel
theorem dX9_count_143 : decode cX9_count 143 = .ok (.iload_n 2, 1) := by decide +kernel
theorem dX9_count_144 : decode cX9_count 144 = .ok (.ireturn, 1) := by decide +kernel
theorem dX9_amount_0 : decode cX9_amount 0 = .ok (.aload_n 0, 1) := by decide +kernel
theorem dX9_amount_1 : decode cX9_amount 1 = .ok (.iconst 0, 1) := by decide +kernel
theorem dX9_amount_2 : decode cX9_amount 2 = .ok (.putfield 138, 3) := by decide +kernel
theorem dX9_amount_5 : decode cX9_amount 5 = .ok (.aload_n 0, 1) := by decide +kernel
theorem dX9_amount_6 : decode cX9_amount 6 = .ok (.aload_n 0, 1) := by decide +kernel
theorem dX9_amount_7 : decode cX9_amount 7 = .ok (.iload_n 1, 1) := by decide +kernel
theorem dX9_amount_8 : decode cX9_amount 8 = .ok (.invokevirtual 290, 3) := by decide +kernel
theorem dX9_amount_11 : decode cX9_amount 11 = .ok (.ifCond .eq 15, 3) := by decide +kernel
theorem dX9_amount_14 : decode cX9_amount 14 = .ok (.aload_n 0, 1) := by decide +kernel
theorem dX9_amount_15 : decode cX9_amount 15 = .ok (.iload_n 2, 1) := by decide +kernel
theorem dX9_amount_16 : decode cX9_amount 16 = .ok (.invokevirtual 290, 3) := by decide +kernel
theorem dX9_amount_19 : decode cX9_amount 19 = .ok (.ifCond .eq 7, 3) := by decide +kernel
theorem dX9_amount_22 : decode cX9_amount 22 = .ok (.iconst 1, 1) := by decide +kernel
theorem dX9_amount_23 : decode cX9_amount 23 = .ok (.goto 4, 3) := by decide +kernel
theorem dX9_amount_26 : decode cX9_amount 26 = .ok (.iconst 0, 1) := by decide +kernel
theorem dX9_amount_27 : decode cX9_amount 27 = .ok (.iconst 1, 1) := by decide +kernel
theorem dX9_amount_28 : decode cX9_amount 28 = .ok (.invokevirtual 255, 3) := by decide +kernel
theorem dX9_amount_31 : decode cX9_amount 31 = .ok (.ifCond .ne 5, 3) := by decide +kernel
theorem dX9_amount_34 : decode cX9_amount 34 = .ok (.iconst 0, 1) := by decide +kernel
theorem dX9_amount_35 : decode cX9_amount 35 = .ok (.ireturn, 1) := by decide +kernel
theorem dX9_amount_36 : decode cX9_amount 36 = .ok (.aload_n 0, 1) := by decide +kernel
theorem dX9_amount_37 : decode cX9_amount 37 = .ok (.getfield 16, 3) := by decide +kernel
theorem dX9_amount_40 : decode cX9_amount 40 = .ok (.bipush 36, 2) := by decide +kernel
theorem dX9_amount_42 : decode cX9_amount 42 = .ok (.iload_n 1, 1) := by decide +kernel
theorem dX9_amount_43 : decode cX9_amount 43 = .ok (.imul, 1) := by decide +kernel
theorem dX9_amount_44 : decode cX9_amount 44 = .ok (.iload_n 2, 1) := by decide +kernel
theorem dX9_amount_45 : decode cX9_amount 45 = .ok (.iadd, 1) := by decide +kernel
theorem dX9_amount_46 : decode cX9_amount 46 = .ok (.iaload, 1) := by decide +kernel
theorem dX9_amount_47 : decode cX9_amount 47 = .ok (.ireturn, 1) := by decide +kernel
theorem dX9_colour_0 : decode cX9_colour 0 = .ok (.aload_n 0, 1) := by decide +kernel
theorem dX9_colour_1 : decode cX9_colour 1 = .ok (.iconst 0, 1) := by decide +kernel
theorem dX9_colour_2 : decode cX9_colour 2 = .ok (.putfield 138, 3) := by decide +kernel
theorem dX9_colour_5 : decode cX9_colour 5 = .ok (.aload_n 0, 1) := by decide +kernel
theorem dX9_colour_6 : decode cX9_colour 6 = .ok (.aload_n 0, 1) := by decide +kernel
theorem dX9_colour_7 : decode cX9_colour 7 = .ok (.iload_n 1, 1) := by decide +kernel
theorem dX9_colour_8 : decode cX9_colour 8 = .ok (.invokevirtual 290, 3) := by decide +kernel
theorem dX9_colour_11 : decode cX9_colour 11 = .ok (.ifCond .eq 16, 3) := by decide +kernel
theorem dX9_colour_14 : decode cX9_colour 14 = .ok (.iload_n 2, 1) := by decide +kernel
theorem dX9_colour_15 : decode cX9_colour 15 = .ok (.ifCond .eq 8, 3) := by decide +kernel
theorem dX9_colour_18 : decode cX9_colour 18 = .ok (.iload_n 2, 1) := by decide +kernel
theorem dX9_colour_19 : decode cX9_colour 19 = .ok (.iconst 1, 1) := by decide +kernel
theorem dX9_colour_20 : decode cX9_colour 20 = .ok (.if_icmp .ne 7, 3) := by decide +kernel
theorem dX9_colour_23 : decode cX9_colour 23 = .ok (.iconst 1, 1) := by decide +kernel
theorem dX9_colour_24 : decode cX9_colour 24 = .ok (.goto 4, 3) := by decide +kernel
theorem dX9_colour_27 : decode cX9_colour 27 = .ok (.iconst 0, 1) := by decide +kernel
theorem dX9_colour_28 : decode cX9_colour 28 = .ok (.iconst 1, 1) := by decide +kernel
theorem dX9_colour_29 : decode cX9_colour 29 = .ok (.invokevirtual 255, 3) := by decide +kernel
theorem dX9_colour_32 : decode cX9_colour 32 = .ok (.ifCond .ne 5, 3) := by decide +kernel
theorem dX9_colour_35 : decode cX9_colour 35 = .ok (.iconst 0, 1) := by decide +kernel
theorem dX9_colour_36 : decode cX9_colour 36 = .ok (.ireturn, 1) := by decide +kernel
theorem dX9_colour_37 : decode cX9_colour 37 = .ok (.iload_n 2, 1) := by decide +kernel
theorem dX9_colour_38 : decode cX9_colour 38 = .ok (.ifCond .ne 12, 3) := by decide +kernel
theorem dX9_colour_41 : decode cX9_colour 41 = .ok (.aload_n 0, 1) := by decide +kernel
theorem dX9_colour_42 : decode cX9_colour 42 = .ok (.getfield 24, 3) := by decide +kernel
theorem dX9_colour_45 : decode cX9_colour 45 = .ok (.iload_n 1, 1) := by decide +kernel
theorem dX9_colour_46 : decode cX9_colour 46 = .ok (.iaload, 1) := by decide +kernel
theorem dX9_colour_47 : decode cX9_colour 47 = .ok (.goto 9, 3) := by decide +kernel
theorem dX9_colour_50 : decode cX9_colour 50 = .ok (.aload_n 0, 1) := by decide +kernel
theorem dX9_colour_51 : decode cX9_colour 51 = .ok (.getfield 27, 3) := by decide +kernel
theorem dX9_colour_54 : decode cX9_colour 54 = .ok (.iload_n 1, 1) := by decide +kernel
theorem dX9_colour_55 : decode cX9_colour 55 = .ok (.iaload, 1) := by decide +kernel
theorem dX9_colour_56 : decode cX9_colour 56 = .ok (.ireturn, 1) := by decide +kernel
theorem dX9_set_0 : decode cX9_set 0 = .ok (.aload_n 0, 1) := by decide +kernel
theorem dX9_set_1 : decode cX9_set 1 = .ok (.iconst 0, 1) := by decide +kernel
theorem dX9_set_2 : decode cX9_set 2 = .ok (.putfield 138, 3) := by decide +kernel
theorem dX9_set_5 : decode cX9_set 5 = .ok (.aload_n 0, 1) := by decide +kernel
theorem dX9_set_6 : decode cX9_set 6 = .ok (.aload_n 0, 1) := by decide +kernel
theorem dX9_set_7 : decode cX9_set 7 = .ok (.iload_n 1, 1) := by decide +kernel
theorem dX9_set_8 : decode cX9_set 8 = .ok (.invokevirtual 290, 3) := by decide +kernel
theorem dX9_set_11 : decode cX9_set 11 = .ok (.ifCond .eq 16, 3) := by decide +kernel
theorem dX9_set_14 : decode cX9_set 14 = .ok (.iload_n 2, 1) := by decide +kernel
theorem dX9_set_15 : decode cX9_set 15 = .ok (.ifCond .eq 8, 3) := by decide +kernel
theorem dX9_set_18 : decode cX9_set 18 = .ok (.iload_n 2, 1) := by decide +kernel
theorem dX9_set_19 : decode cX9_set 19 = .ok (.iconst 1, 1) := by decide +kernel
theorem dX9_set_20 : decode cX9_set 20 = .ok (.if_icmp .ne 7, 3) := by decide +kernel
theorem dX9_set_23 : decode cX9_set 23 = .ok (.iconst 1, 1) := by decide +kernel
theorem dX9_set_24 : decode cX9_set 24 = .ok (.goto 4, 3) := by decide +kernel
theorem dX9_set_27 : decode cX9_set 27 = .ok (.iconst 0, 1) := by decide +kernel
theorem dX9_set_28 : decode cX9_set 28 = .ok (.iconst 1, 1) := by decide +kernel
theorem dX9_set_29 : decode cX9_set 29 = .ok (.invokevirtual 255, 3) := by decide +kernel
theorem dX9_set_32 : decode cX9_set 32 = .ok (.ifCond .ne 5, 3) := by decide +kernel
theorem dX9_set_35 : decode cX9_set 35 = .ok (.iconst 0, 1) := by decide +kernel
theorem dX9_set_36 : decode cX9_set 36 = .ok (.ireturn, 1) := by decide +kernel
theorem dX9_set_37 : decode cX9_set 37 = .ok (.iload_n 3, 1) := by decide +kernel
theorem dX9_set_38 : decode cX9_set 38 = .ok (.iconst 0, 1) := by decide +kernel
theorem dX9_set_39 : decode cX9_set 39 = .ok (.aload_n 0, 1) := by decide +kernel
theorem dX9_set_40 : decode cX9_set 40 = .ok (.getfield 7, 3) := by decide +kernel
theorem dX9_set_43 : decode cX9_set 43 = .ok (.iconst 1, 1) := by decide +kernel
theorem dX9_set_44 : decode cX9_set 44 = .ok (.isub, 1) := by decide +kernel
theorem dX9_set_45 : decode cX9_set 45 = .ok (.invokestatic 293, 3) := by decide +kernel
theorem dX9_set_48 : decode cX9_set 48 = .ok (.ifCond .ne 5, 3) := by decide +kernel
theorem dX9_set_51 : decode cX9_set 51 = .ok (.iconst 0, 1) := by decide +kernel
theorem dX9_set_52 : decode cX9_set 52 = .ok (.ireturn, 1) := by decide +kernel
theorem dX9_set_53 : decode cX9_set 53 = .ok (.iload_n 2, 1) := by decide +kernel
theorem dX9_set_54 : decode cX9_set 54 = .ok (.ifCond .ne 18, 3) := by decide +kernel
theorem dX9_set_57 : decode cX9_set 57 = .ok (.aload_n 0, 1) := by decide +kernel
theorem dX9_set_58 : decode cX9_set 58 = .ok (.getfield 24, 3) := by decide +kernel
theorem dX9_set_61 : decode cX9_set 61 = .ok (.iload_n 1, 1) := by decide +kernel
theorem dX9_set_62 : decode cX9_set 62 = .ok (.iload_n 3, 1) := by decide +kernel
theorem dX9_set_63 : decode cX9_set 63 = .ok (.iastore, 1) := by decide +kernel
theorem dX9_set_64 : decode cX9_set 64 = .ok (.aload_n 0, 1) := by decide +kernel
theorem dX9_set_65 : decode cX9_set 65 = .ok (.iconst 0, 1) := by decide +kernel
theorem dX9_set_66 : decode cX9_set 66 = .ok (.putfield 277, 3) := by decide +kernel
theorem dX9_set_69 : decode cX9_set 69 = .ok (.goto 10, 3) := by decide +kernel
theorem dX9_set_72 : decode cX9_set 72 = .ok (.aload_n 0, 1) := by decide +kernel
theorem dX9_set_73 : decode cX9_set 73 = .ok (.getfield 27, 3) := by decide +kernel
theorem dX9_set_76 : decode cX9_set 76 = .ok (.iload_n 1, 1) := by decide +kernel
theorem dX9_set_77 : decode cX9_set 77 = .ok (.iload_n 3, 1) := by decide +kernel
theorem dX9_set_78 : decode cX9_set 78 = .ok (.iastore, 1) := by decide +kernel
theorem dX9_set_79 : decode cX9_set 79 = .ok (.iconst 1, 1) := by decide +kernel
theorem dX9_set_80 : decode cX9_set 80 = .ok (.ireturn, 1) := by decide +kernel
theorem dX9_fill_0 : decode cX9_fill 0 = .ok (.aload_n 0, 1) := by decide +kernel
theorem dX9_fill_1 : decode cX9_fill 1 = .ok (.iconst 0, 1) := by decide +kernel
theorem dX9_fill_2 : decode cX9_fill 2 = .ok (.putfield 138, 3) := by decide +kernel
theorem dX9_fill_5 : decode cX9_fill 5 = .ok (.aload_n 0, 1) := by decide +kernel
theorem dX9_fill_6 : decode cX9_fill 6 = .ok (.iload_n 1, 1) := by decide +kernel
theorem dX9_fill_7 : decode cX9_fill 7 = .ok (.ifCond .eq 8, 3) := by decide +kernel
theorem dX9_fill_10 : decode cX9_fill 10 = .ok (.iload_n 1, 1) := by decide +kernel
theorem dX9_fill_11 : decode cX9_fill 11 = .ok (.iconst 1, 1) := by decide +kernel
theorem dX9_fill_12 : decode cX9_fill 12 = .ok (.if_icmp .ne 7, 3) := by decide +kernel
theorem dX9_fill_15 : decode cX9_fill 15 = .ok (.iconst 1, 1) := by decide +kernel
theorem dX9_fill_16 : decode cX9_fill 16 = .ok (.goto 4, 3) := by decide +kernel
theorem dX9_fill_19 : decode cX9_fill 19 = .ok (.iconst 0, 1) := by decide +kernel
theorem dX9_fill_20 : decode cX9_fill 20 = .ok (.iconst 1, 1) := by decide +kernel
theorem dX9_fill_21 : decode cX9_fill 21 = .ok (.invokevirtual 255, 3) := by decide +kernel
theorem dX9_fill_24 : decode cX9_fill 24 = .ok (.ifCond .ne 5, 3) := by decide +kernel
theorem dX9_fill_27 : decode cX9_fill 27 = .ok (.iconst 0, 1) := by decide +kernel
theorem dX9_fill_28 : decode cX9_fill 28 = .ok (.ireturn, 1) := by decide +kernel
theorem dX9_fill_29 : decode cX9_fill 29 = .ok (.iload_n 2, 1) := by decide +kernel
theorem dX9_fill_30 : decode cX9_fill 30 = .ok (.iconst 0, 1) := by decide +kernel
theorem dX9_fill_31 : decode cX9_fill 31 = .ok (.aload_n 0, 1) := by decide +kernel
theorem dX9_fill_32 : decode cX9_fill 32 = .ok (.getfield 7, 3) := by decide +kernel
theorem dX9_fill_35 : decode cX9_fill 35 = .ok (.iconst 1, 1) := by decide +kernel
theorem dX9_fill_36 : decode cX9_fill 36 = .ok (.isub, 1) := by decide +kernel
theorem dX9_fill_37 : decode cX9_fill 37 = .ok (.invokestatic 293, 3) := by decide +kernel
theorem dX9_fill_40 : decode cX9_fill 40 = .ok (.ifCond .ne 5, 3) := by decide +kernel
theorem dX9_fill_43 : decode cX9_fill 43 = .ok (.iconst 0, 1) := by decide +kernel
theorem dX9_fill_44 : decode cX9_fill 44 = .ok (.ireturn, 1) := by decide +kernel
theorem dX9_fill_45 : decode cX9_fill 45 = .ok (.iload_n 1, 1) := by decide +kernel
theorem dX9_fill_46 : decode cX9_fill 46 = .ok (.ifCond .ne 8, 3) := by decide +kernel
theorem dX9_fill_49 : decode cX9_fill 49 = .ok (.aload_n 0, 1) := by decide +kernel
theorem dX9_fill_50 : decode cX9_fill 50 = .ok (.iconst 0, 1) := by decide +kernel
theorem dX9_fill_51 : decode cX9_fill 51 = .ok (.putfield 277, 3) := by decide +kernel
theorem dX9_fill_54 : decode cX9_fill 54 = .ok (.iconst 0, 1) := by decide +kernel
theorem dX9_fill_55 : decode cX9_fill 55 = .ok (.istore_n 3, 1) := by decide +kernel
theorem dX9_fill_56 : decode cX9_fill 56 = .ok (.iload_n 3, 1) := by decide +kernel
theorem dX9_fill_57 : decode cX9_fill 57 = .ok (.aload_n 0, 1) := by decide +kernel
theorem dX9_fill_58 : decode cX9_fill 58 = .ok (.getfield 268, 3) := by decide +kernel
theorem dX9_fill_61 : decode cX9_fill 61 = .ok (.if_icmp .ge 30, 3) := by decide +kernel
theorem dX9_fill_64 : decode cX9_fill 64 = .ok (.iload_n 1, 1) := by decide +kernel
theorem dX9_fill_65 : decode cX9_fill 65 = .ok (.ifCond .ne 13, 3) := by decide +kernel
theorem dX9_fill_68 : decode cX9_fill 68 = .ok (.aload_n 0, 1) := by decide +kernel
theorem dX9_fill_69 : decode cX9_fill 69 = .ok (.getfield 24, 3) := by decide +kernel
theorem dX9_fill_72 : decode cX9_fill 72 = .ok (.iload_n 3, 1) := by decide +kernel
theorem dX9_fill_73 : decode cX9_fill 73 = .ok (.iload_n 2, 1) := by decide +kernel
theorem dX9_fill_74 : decode cX9_fill 74 = .ok (.iastore, 1) := by decide +kernel
theorem dX9_fill_75 : decode cX9_fill 75 = .ok (.goto 10, 3) := by decide +kernel
theorem dX9_fill_78 : decode cX9_fill 78 = .ok (.aload_n 0, 1) := by decide +kernel
theorem dX9_fill_79 : decode cX9_fill 79 = .ok (.getfield 27, 3) := by decide +kernel
theorem dX9_fill_82 : decode cX9_fill 82 = .ok (.iload_n 3, 1) := by decide +kernel
theorem dX9_fill_83 : decode cX9_fill 83 = .ok (.iload_n 2, 1) := by decide +kernel
theorem dX9_fill_84 : decode cX9_fill 84 = .ok (.iastore, 1) := by decide +kernel
theorem dX9_fill_85 : decode cX9_fill 85 = .ok (.iinc 3 1, 3) := by decide +kernel
theorem dX9_fill_88 : decode cX9_fill 88 = .ok (.goto (-32), 3) := by decide +kernel
theorem dX9_fill_91 : decode cX9_fill 91 = .ok (.iconst 1, 1) := by decide +kernel
theorem dX9_fill_92 : decode cX9_fill 92 = .ok (.ireturn, 1) := by decide +kernel
theorem dX9_draw_0 : decode cX9_draw 0 = .ok (.aload_n 0, 1) := by decide +kernel
theorem dX9_draw_1 : decode cX9_draw 1 = .ok (.iconst 0, 1) := by decide +kernel
theorem dX9_draw_2 : decode cX9_draw 2 = .ok (.putfield 138, 3) := by decide +kernel
theorem dX9_draw_5 : decode cX9_draw 5 = .ok (.aload_n 0, 1) := by decide +kernel
theorem dX9_draw_6 : decode cX9_draw 6 = .ok (.iconst 0, 1) := by decide +kernel
theorem dX9_draw_7 : decode cX9_draw 7 = .ok (.putfield 277, 3) := by decide +kernel
theorem dX9_draw_10 : decode cX9_draw 10 = .ok (.iload_n 1, 1) := by decide +kernel
theorem dX9_draw_11 : decode cX9_draw 11 = .ok (.istore_n 2, 1) := by decide +kernel
theorem dX9_draw_12 : decode cX9_draw 12 = .ok (.iconst 0, 1) := by decide +kernel
theorem dX9_draw_13 : decode cX9_draw 13 = .ok (.istore_n 3, 1) := by decide +kernel
theorem dX9_draw_14 : decode cX9_draw 14 = .ok (.iload_n 3, 1) := by decide +kernel
theorem dX9_draw_15 : decode cX9_draw 15 = .ok (.aload_n 0, 1) := by decide +kernel
theorem dX9_draw_16 : decode cX9_draw 16 = .ok (.getfield 268, 3) := by decide +kernel
theorem dX9_draw_19 : decode cX9_draw 19 = .ok (.if_icmp .ge 38, 3) := by decide +kernel
theorem dX9_draw_22 : decode cX9_draw 22 = .ok (.iload_n 2, 1) := by decide +kernel
theorem dX9_draw_23 : decode cX9_draw 23 = .ok (.ldc_w 297, 3) := by decide +kernel
theorem dX9_draw_26 : decode cX9_draw 26 = .ok (.imul, 1) := by decide +kernel
theorem dX9_draw_27 : decode cX9_draw 27 = .ok (.sipush 12345, 3) := by decide +kernel
theorem dX9_draw_30 : decode cX9_draw 30 = .ok (.iadd, 1) := by decide +kernel
theorem dX9_draw_31 : decode cX9_draw 31 = .ok (.istore_n 2, 1) := by decide +kernel
theorem dX9_draw_32 : decode cX9_draw 32 = .ok (.aload_n 0, 1) := by decide +kernel
theorem dX9_draw_33 : decode cX9_draw 33 = .ok (.getfield 24, 3) := by decide +kernel
theorem dX9_draw_36 : decode cX9_draw 36 = .ok (.iload_n 3, 1) := by decide +kernel
theorem dX9_draw_37 : decode cX9_draw 37 = .ok (.iload_n 2, 1) := by decide +kernel
theorem dX9_draw_38 : decode cX9_draw 38 = .ok (.bipush 16, 2) := by decide +kernel
theorem dX9_draw_40 : decode cX9_draw 40 = .ok (.ishr, 1) := by decide +kernel
theorem dX9_draw_41 : decode cX9_draw 41 = .ok (.sipush 32767, 3) := by decide +kernel
theorem dX9_draw_44 : decode cX9_draw 44 = .ok (.iand, 1) := by decide +kernel
theorem dX9_draw_45 : decode cX9_draw 45 = .ok (.aload_n 0, 1) := by decide +kernel
theorem dX9_draw_46 : decode cX9_draw 46 = .ok (.getfield 7, 3) := by decide +kernel
theorem dX9_draw_49 : decode cX9_draw 49 = .ok (.irem, 1) := by decide +kernel
theorem dX9_draw_50 : decode cX9_draw 50 = .ok (.iastore, 1) := by decide +kernel
theorem dX9_draw_51 : decode cX9_draw 51 = .ok (.iinc 3 1, 3) := by decide +kernel
theorem dX9_draw_54 : decode cX9_draw 54 = .ok (.goto (-40), 3) := by decide +kernel
theorem dX9_draw_57 : decode cX9_draw 57 = .ok (.return_, 1) := by decide +kernel
theorem dX9_jam_0 : decode cX9_jam 0 = .ok (.aload_n 0, 1) := by decide +kernel
theorem dX9_jam_1 : decode cX9_jam 1 = .ok (.iconst 0, 1) := by decide +kernel
theorem dX9_jam_2 : decode cX9_jam 2 = .ok (.putfield 138, 3) := by decide +kernel
theorem dX9_jam_5 : decode cX9_jam 5 = .ok (.aload_n 0, 1) := by decide +kernel
theorem dX9_jam_6 : decode cX9_jam 6 = .ok (.aload_n 0, 1) := by decide +kernel
theorem dX9_jam_7 : decode cX9_jam 7 = .ok (.iload_n 1, 1) := by decide +kernel
theorem dX9_jam_8 : decode cX9_jam 8 = .ok (.invokevirtual 290, 3) := by decide +kernel
theorem dX9_jam_11 : decode cX9_jam 11 = .ok (.iconst 1, 1) := by decide +kernel
theorem dX9_jam_12 : decode cX9_jam 12 = .ok (.invokevirtual 255, 3) := by decide +kernel
theorem dX9_jam_15 : decode cX9_jam 15 = .ok (.ifCond .ne 5, 3) := by decide +kernel
theorem dX9_jam_18 : decode cX9_jam 18 = .ok (.iconst 0, 1) := by decide +kernel
theorem dX9_jam_19 : decode cX9_jam 19 = .ok (.ireturn, 1) := by decide +kernel
theorem dX9_jam_20 : decode cX9_jam 20 = .ok (.aload_n 0, 1) := by decide +kernel
theorem dX9_jam_21 : decode cX9_jam 21 = .ok (.getfield 20, 3) := by decide +kernel
theorem dX9_jam_24 : decode cX9_jam 24 = .ok (.iload_n 1, 1) := by decide +kernel
theorem dX9_jam_25 : decode cX9_jam 25 = .ok (.baload, 1) := by decide +kernel
theorem dX9_jam_26 : decode cX9_jam 26 = .ok (.istore_n 3, 1) := by decide +kernel
theorem dX9_jam_27 : decode cX9_jam 27 = .ok (.aload_n 0, 1) := by decide +kernel
theorem dX9_jam_28 : decode cX9_jam 28 = .ok (.getfield 20, 3) := by decide +kernel
theorem dX9_jam_31 : decode cX9_jam 31 = .ok (.iload_n 1, 1) := by decide +kernel
theorem dX9_jam_32 : decode cX9_jam 32 = .ok (.iload_n 2, 1) := by decide +kernel
theorem dX9_jam_33 : decode cX9_jam 33 = .ok (.bastore, 1) := by decide +kernel
theorem dX9_jam_34 : decode cX9_jam 34 = .ok (.aload_n 0, 1) := by decide +kernel
theorem dX9_jam_35 : decode cX9_jam 35 = .ok (.invokevirtual 287, 3) := by decide +kernel
theorem dX9_jam_38 : decode cX9_jam 38 = .ok (.iload_n 3, 1) := by decide +kernel
theorem dX9_jam_39 : decode cX9_jam 39 = .ok (.ireturn, 1) := by decide +kernel
theorem dX9_pressOne_0 : decode cX9_pressOne 0 = .ok (.iconst 0, 1) := by decide +kernel
theorem dX9_pressOne_1 : decode cX9_pressOne 1 = .ok (.istore_n 2, 1) := by decide +kernel
theorem dX9_pressOne_2 : decode cX9_pressOne 2 = .ok (.iload_n 2, 1) := by decide +kernel
theorem dX9_pressOne_3 : decode cX9_pressOne 3 = .ok (.aload_n 0, 1) := by decide +kernel
theorem dX9_pressOne_4 : decode cX9_pressOne 4 = .ok (.getfield 268, 3) := by decide +kernel
theorem dX9_pressOne_7 : decode cX9_pressOne 7 = .ok (.if_icmp .ge 38, 3) := by decide +kernel
theorem dX9_pressOne_10 : decode cX9_pressOne 10 = .ok (.aload_n 0, 1) := by decide +kernel
theorem dX9_pressOne_11 : decode cX9_pressOne 11 = .ok (.getfield 24, 3) := by decide +kernel
theorem dX9_pressOne_14 : decode cX9_pressOne 14 = .ok (.iload_n 2, 1) := by decide +kernel
theorem dX9_pressOne_15 : decode cX9_pressOne 15 = .ok (.aload_n 0, 1) := by decide +kernel
theorem dX9_pressOne_16 : decode cX9_pressOne 16 = .ok (.getfield 24, 3) := by decide +kernel
theorem dX9_pressOne_19 : decode cX9_pressOne 19 = .ok (.iload_n 2, 1) := by decide +kernel
theorem dX9_pressOne_20 : decode cX9_pressOne 20 = .ok (.iaload, 1) := by decide +kernel
theorem dX9_pressOne_21 : decode cX9_pressOne 21 = .ok (.aload_n 0, 1) := by decide +kernel
theorem dX9_pressOne_22 : decode cX9_pressOne 22 = .ok (.getfield 16, 3) := by decide +kernel
theorem dX9_pressOne_25 : decode cX9_pressOne 25 = .ok (.bipush 36, 2) := by decide +kernel
theorem dX9_pressOne_27 : decode cX9_pressOne 27 = .ok (.iload_n 1, 1) := by decide +kernel
theorem dX9_pressOne_28 : decode cX9_pressOne 28 = .ok (.imul, 1) := by decide +kernel
theorem dX9_pressOne_29 : decode cX9_pressOne 29 = .ok (.iload_n 2, 1) := by decide +kernel
theorem dX9_pressOne_30 : decode cX9_pressOne 30 = .ok (.iadd, 1) := by decide +kernel
theorem dX9_pressOne_31 : decode cX9_pressOne 31 = .ok (.iaload, 1) := by decide +kernel
theorem dX9_pressOne_32 : decode cX9_pressOne 32 = .ok (.iadd, 1) := by decide +kernel
theorem dX9_pressOne_33 : decode cX9_pressOne 33 = .ok (.aload_n 0, 1) := by decide +kernel
theorem dX9_pressOne_34 : decode cX9_pressOne 34 = .ok (.getfield 7, 3) := by decide +kernel
theorem dX9_pressOne_37 : decode cX9_pressOne 37 = .ok (.irem, 1) := by decide +kernel
theorem dX9_pressOne_38 : decode cX9_pressOne 38 = .ok (.iastore, 1) := by decide +kernel
theorem dX9_pressOne_39 : decode cX9_pressOne 39 = .ok (.iinc 2 1, 3) := by decide +kernel
theorem dX9_pressOne_42 : decode cX9_pressOne 42 = .ok (.goto (-40), 3) := by decide +kernel
theorem dX9_pressOne_45 : decode cX9_pressOne 45 = .ok (.aload_n 0, 1) := by decide +kernel
theorem dX9_pressOne_46 : decode cX9_pressOne 46 = .ok (.getfield 277, 3) := by decide +kernel
theorem dX9_pressOne_49 : decode cX9_pressOne 49 = .ok (.bipush 100, 2) := by decide +kernel
theorem dX9_pressOne_51 : decode cX9_pressOne 51 = .ok (.if_icmp .ne 41, 3) := by decide +kernel
theorem dX9_pressOne_54 : decode cX9_pressOne 54 = .ok (.iconst 1, 1) := by decide +kernel
theorem dX9_pressOne_55 : decode cX9_pressOne 55 = .ok (.istore_n 2, 1) := by decide +kernel
theorem dX9_pressOne_56 : decode cX9_pressOne 56 = .ok (.iload_n 2, 1) := by decide +kernel
theorem dX9_pressOne_57 : decode cX9_pressOne 57 = .ok (.bipush 100, 2) := by decide +kernel
theorem dX9_pressOne_59 : decode cX9_pressOne 59 = .ok (.if_icmp .ge 23, 3) := by decide +kernel
theorem dX9_pressOne_62 : decode cX9_pressOne 62 = .ok (.aload_n 0, 1) := by decide +kernel
theorem dX9_pressOne_63 : decode cX9_pressOne 63 = .ok (.getfield 30, 3) := by decide +kernel
theorem dX9_pressOne_66 : decode cX9_pressOne 66 = .ok (.iload_n 2, 1) := by decide +kernel
theorem dX9_pressOne_67 : decode cX9_pressOne 67 = .ok (.iconst 1, 1) := by decide +kernel
theorem dX9_pressOne_68 : decode cX9_pressOne 68 = .ok (.isub, 1) := by decide +kernel
theorem dX9_pressOne_69 : decode cX9_pressOne 69 = .ok (.aload_n 0, 1) := by decide +kernel
theorem dX9_pressOne_70 : decode cX9_pressOne 70 = .ok (.getfield 30, 3) := by decide +kernel
theorem dX9_pressOne_73 : decode cX9_pressOne 73 = .ok (.iload_n 2, 1) := by decide +kernel
theorem dX9_pressOne_74 : decode cX9_pressOne 74 = .ok (.iaload, 1) := by decide +kernel
theorem dX9_pressOne_75 : decode cX9_pressOne 75 = .ok (.iastore, 1) := by decide +kernel
theorem dX9_pressOne_76 : decode cX9_pressOne 76 = .ok (.iinc 2 1, 3) := by decide +kernel
theorem dX9_pressOne_79 : decode cX9_pressOne 79 = .ok (.goto (-23), 3) := by decide +kernel
theorem dX9_pressOne_82 : decode cX9_pressOne 82 = .ok (.aload_n 0, 1) := by decide +kernel
theorem dX9_pressOne_83 : decode cX9_pressOne 83 = .ok (.dup, 1) := by decide +kernel
theorem dX9_pressOne_84 : decode cX9_pressOne 84 = .ok (.getfield 277, 3) := by decide +kernel
theorem dX9_pressOne_87 : decode cX9_pressOne 87 = .ok (.iconst 1, 1) := by decide +kernel
theorem dX9_pressOne_88 : decode cX9_pressOne 88 = .ok (.isub, 1) := by decide +kernel
theorem dX9_pressOne_89 : decode cX9_pressOne 89 = .ok (.putfield 277, 3) := by decide +kernel
theorem dX9_pressOne_92 : decode cX9_pressOne 92 = .ok (.aload_n 0, 1) := by decide +kernel
theorem dX9_pressOne_93 : decode cX9_pressOne 93 = .ok (.getfield 30, 3) := by decide +kernel
theorem dX9_pressOne_96 : decode cX9_pressOne 96 = .ok (.aload_n 0, 1) := by decide +kernel
theorem dX9_pressOne_97 : decode cX9_pressOne 97 = .ok (.getfield 277, 3) := by decide +kernel
theorem dX9_pressOne_100 : decode cX9_pressOne 100 = .ok (.iload_n 1, 1) := by decide +kernel
theorem dX9_pressOne_101 : decode cX9_pressOne 101 = .ok (.iastore, 1) := by decide +kernel
theorem dX9_pressOne_102 : decode cX9_pressOne 102 = .ok (.aload_n 0, 1) := by decide +kernel
theorem dX9_pressOne_103 : decode cX9_pressOne 103 = .ok (.dup, 1) := by decide +kernel
theorem dX9_pressOne_104 : decode cX9_pressOne 104 = .ok (.getfield 277, 3) := by decide +kernel
theorem dX9_pressOne_107 : decode cX9_pressOne 107 = .ok (.iconst 1, 1) := by decide +kernel
theorem dX9_pressOne_108 : decode cX9_pressOne 108 = .ok (.iadd, 1) := by decide +kernel
theorem dX9_pressOne_109 : decode cX9_pressOne 109 = .ok (.putfield 277, 3) := by decide +kernel
theorem dX9_pressOne_112 : decode cX9_pressOne 112 = .ok (.return_, 1) := by decide +kernel
theorem dX9_press_0 : decode cX9_press 0 = .ok (.aload_n 0, 1) := by decide +kernel
theorem dX9_press_1 : decode cX9_press 1 = .ok (.iconst 0, 1) := by decide +kernel
theorem dX9_press_2 : decode cX9_press 2 = .ok (.putfield 138, 3) := by decide +kernel
theorem dX9_press_5 : decode cX9_press 5 = .ok (.aload_n 0, 1) := by decide +kernel
theorem dX9_press_6 : decode cX9_press 6 = .ok (.aload_n 0, 1) := by decide +kernel
theorem dX9_press_7 : decode cX9_press 7 = .ok (.iload_n 1, 1) := by decide +kernel
theorem dX9_press_8 : decode cX9_press 8 = .ok (.invokevirtual 290, 3) := by decide +kernel
theorem dX9_press_11 : decode cX9_press 11 = .ok (.iconst 1, 1) := by decide +kernel
theorem dX9_press_12 : decode cX9_press 12 = .ok (.invokevirtual 255, 3) := by decide +kernel
theorem dX9_press_15 : decode cX9_press 15 = .ok (.ifCond .ne 5, 3) := by decide +kernel
theorem dX9_press_18 : decode cX9_press 18 = .ok (.iconst 0, 1) := by decide +kernel
theorem dX9_press_19 : decode cX9_press 19 = .ok (.ireturn, 1) := by decide +kernel
theorem dX9_press_20 : decode cX9_press 20 = .ok (.aload_n 0, 1) := by decide +kernel
theorem dX9_press_21 : decode cX9_press 21 = .ok (.getfield 20, 3) := by decide +kernel
theorem dX9_press_24 : decode cX9_press 24 = .ok (.iload_n 1, 1) := by decide +kernel
theorem dX9_press_25 : decode cX9_press 25 = .ok (.baload, 1) := by decide +kernel
theorem dX9_press_26 : decode cX9_press 26 = .ok (.ifCond .eq 5, 3) := by decide +kernel
theorem dX9_press_29 : decode cX9_press 29 = .ok (.iconst 0, 1) := by decide +kernel
theorem dX9_press_30 : decode cX9_press 30 = .ok (.ireturn, 1) := by decide +kernel
theorem dX9_press_31 : decode cX9_press 31 = .ok (.aload_n 0, 1) := by decide +kernel
theorem dX9_press_32 : decode cX9_press 32 = .ok (.iload_n 1, 1) := by decide +kernel
theorem dX9_press_33 : decode cX9_press 33 = .ok (.invokevirtual 298, 3) := by decide +kernel
theorem dX9_press_36 : decode cX9_press 36 = .ok (.iconst 1, 1) := by decide +kernel
theorem dX9_press_37 : decode cX9_press 37 = .ok (.ireturn, 1) := by decide +kernel
theorem dX9_back_0 : decode cX9_back 0 = .ok (.aload_n 0, 1) := by decide +kernel
theorem dX9_back_1 : decode cX9_back 1 = .ok (.iconst 0, 1) := by decide +kernel
theorem dX9_back_2 : decode cX9_back 2 = .ok (.putfield 138, 3) := by decide +kernel
theorem dX9_back_5 : decode cX9_back 5 = .ok (.aload_n 0, 1) := by decide +kernel
theorem dX9_back_6 : decode cX9_back 6 = .ok (.getfield 277, 3) := by decide +kernel
theorem dX9_back_9 : decode cX9_back 9 = .ok (.ifCond .ne 5, 3) := by decide +kernel
theorem dX9_back_12 : decode cX9_back 12 = .ok (.iconst (-1), 1) := by decide +kernel
theorem dX9_back_13 : decode cX9_back 13 = .ok (.ireturn, 1) := by decide +kernel
theorem dX9_back_14 : decode cX9_back 14 = .ok (.aload_n 0, 1) := by decide +kernel
theorem dX9_back_15 : decode cX9_back 15 = .ok (.dup, 1) := by decide +kernel
theorem dX9_back_16 : decode cX9_back 16 = .ok (.getfield 277, 3) := by decide +kernel
theorem dX9_back_19 : decode cX9_back 19 = .ok (.iconst 1, 1) := by decide +kernel
theorem dX9_back_20 : decode cX9_back 20 = .ok (.isub, 1) := by decide +kernel
theorem dX9_back_21 : decode cX9_back 21 = .ok (.putfield 277, 3) := by decide +kernel
theorem dX9_back_24 : decode cX9_back 24 = .ok (.aload_n 0, 1) := by decide +kernel
theorem dX9_back_25 : decode cX9_back 25 = .ok (.getfield 30, 3) := by decide +kernel
theorem dX9_back_28 : decode cX9_back 28 = .ok (.aload_n 0, 1) := by decide +kernel
theorem dX9_back_29 : decode cX9_back 29 = .ok (.getfield 277, 3) := by decide +kernel
theorem dX9_back_32 : decode cX9_back 32 = .ok (.iaload, 1) := by decide +kernel
theorem dX9_back_33 : decode cX9_back 33 = .ok (.istore_n 1, 1) := by decide +kernel
theorem dX9_back_34 : decode cX9_back 34 = .ok (.iconst 0, 1) := by decide +kernel
theorem dX9_back_35 : decode cX9_back 35 = .ok (.istore_n 2, 1) := by decide +kernel
theorem dX9_back_36 : decode cX9_back 36 = .ok (.iload_n 2, 1) := by decide +kernel
theorem dX9_back_37 : decode cX9_back 37 = .ok (.aload_n 0, 1) := by decide +kernel
theorem dX9_back_38 : decode cX9_back 38 = .ok (.getfield 268, 3) := by decide +kernel
theorem dX9_back_41 : decode cX9_back 41 = .ok (.if_icmp .ge 43, 3) := by decide +kernel
theorem dX9_back_44 : decode cX9_back 44 = .ok (.aload_n 0, 1) := by decide +kernel
theorem dX9_back_45 : decode cX9_back 45 = .ok (.getfield 24, 3) := by decide +kernel
theorem dX9_back_48 : decode cX9_back 48 = .ok (.iload_n 2, 1) := by decide +kernel
theorem dX9_back_49 : decode cX9_back 49 = .ok (.aload_n 0, 1) := by decide +kernel
theorem dX9_back_50 : decode cX9_back 50 = .ok (.getfield 24, 3) := by decide +kernel
theorem dX9_back_53 : decode cX9_back 53 = .ok (.iload_n 2, 1) := by decide +kernel
theorem dX9_back_54 : decode cX9_back 54 = .ok (.iaload, 1) := by decide +kernel
theorem dX9_back_55 : decode cX9_back 55 = .ok (.aload_n 0, 1) := by decide +kernel
theorem dX9_back_56 : decode cX9_back 56 = .ok (.getfield 7, 3) := by decide +kernel
theorem dX9_back_59 : decode cX9_back 59 = .ok (.iadd, 1) := by decide +kernel
theorem dX9_back_60 : decode cX9_back 60 = .ok (.aload_n 0, 1) := by decide +kernel
theorem dX9_back_61 : decode cX9_back 61 = .ok (.getfield 16, 3) := by decide +kernel
theorem dX9_back_64 : decode cX9_back 64 = .ok (.bipush 36, 2) := by decide +kernel
theorem dX9_back_66 : decode cX9_back 66 = .ok (.iload_n 1, 1) := by decide +kernel
theorem dX9_back_67 : decode cX9_back 67 = .ok (.imul, 1) := by decide +kernel
theorem dX9_back_68 : decode cX9_back 68 = .ok (.iload_n 2, 1) := by decide +kernel
theorem dX9_back_69 : decode cX9_back 69 = .ok (.iadd, 1) := by decide +kernel
theorem dX9_back_70 : decode cX9_back 70 = .ok (.iaload, 1) := by decide +kernel
theorem dX9_back_71 : decode cX9_back 71 = .ok (.isub, 1) := by decide +kernel
theorem dX9_back_72 : decode cX9_back 72 = .ok (.aload_n 0, 1) := by decide +kernel
theorem dX9_back_73 : decode cX9_back 73 = .ok (.getfield 7, 3) := by decide +kernel
theorem dX9_back_76 : decode cX9_back 76 = .ok (.irem, 1) := by decide +kernel
theorem dX9_back_77 : decode cX9_back 77 = .ok (.iastore, 1) := by decide +kernel
theorem dX9_back_78 : decode cX9_back 78 = .ok (.iinc 2 1, 3) := by decide +kernel
theorem dX9_back_81 : decode cX9_back 81 = .ok (.goto (-45), 3) := by decide +kernel
theorem dX9_back_84 : decode cX9_back 84 = .ok (.iload_n 1, 1) := by decide +kernel
theorem dX9_back_85 : decode cX9_back 85 = .ok (.ireturn, 1) := by decide +kernel
theorem dX9_twin_0 : decode cX9_twin 0 = .ok (.aload_n 0, 1) := by decide +kernel
theorem dX9_twin_1 : decode cX9_twin 1 = .ok (.iconst 0, 1) := by decide +kernel
theorem dX9_twin_2 : decode cX9_twin 2 = .ok (.putfield 138, 3) := by decide +kernel
theorem dX9_twin_5 : decode cX9_twin 5 = .ok (.aload_n 0, 1) := by decide +kernel
theorem dX9_twin_6 : decode cX9_twin 6 = .ok (.aload_n 0, 1) := by decide +kernel
theorem dX9_twin_7 : decode cX9_twin 7 = .ok (.iload_n 1, 1) := by decide +kernel
theorem dX9_twin_8 : decode cX9_twin 8 = .ok (.invokevirtual 290, 3) := by decide +kernel
theorem dX9_twin_11 : decode cX9_twin 11 = .ok (.iconst 1, 1) := by decide +kernel
theorem dX9_twin_12 : decode cX9_twin 12 = .ok (.invokevirtual 255, 3) := by decide +kernel
theorem dX9_twin_15 : decode cX9_twin 15 = .ok (.ifCond .ne 5, 3) := by decide +kernel
theorem dX9_twin_18 : decode cX9_twin 18 = .ok (.iconst 0, 1) := by decide +kernel
theorem dX9_twin_19 : decode cX9_twin 19 = .ok (.ireturn, 1) := by decide +kernel
theorem dX9_twin_20 : decode cX9_twin 20 = .ok (.iconst 0, 1) := by decide +kernel
theorem dX9_twin_21 : decode cX9_twin 21 = .ok (.istore_n 2, 1) := by decide +kernel
theorem dX9_twin_22 : decode cX9_twin 22 = .ok (.iload_n 2, 1) := by decide +kernel
theorem dX9_twin_23 : decode cX9_twin 23 = .ok (.iload_n 1, 1) := by decide +kernel
theorem dX9_twin_24 : decode cX9_twin 24 = .ok (.if_icmp .ge 72, 3) := by decide +kernel
theorem dX9_twin_27 : decode cX9_twin 27 = .ok (.iconst 1, 1) := by decide +kernel
theorem dX9_twin_28 : decode cX9_twin 28 = .ok (.istore_n 3, 1) := by decide +kernel
theorem dX9_twin_29 : decode cX9_twin 29 = .ok (.iconst 0, 1) := by decide +kernel
theorem dX9_twin_30 : decode cX9_twin 30 = .ok (.istore 4, 2) := by decide +kernel
theorem dX9_twin_32 : decode cX9_twin 32 = .ok (.iload 4, 2) := by decide +kernel
theorem dX9_twin_34 : decode cX9_twin 34 = .ok (.aload_n 0, 1) := by decide +kernel
theorem dX9_twin_35 : decode cX9_twin 35 = .ok (.getfield 268, 3) := by decide +kernel
theorem dX9_twin_38 : decode cX9_twin 38 = .ok (.if_icmp .ge 46, 3) := by decide +kernel
theorem dX9_twin_41 : decode cX9_twin 41 = .ok (.iload_n 3, 1) := by decide +kernel
theorem dX9_twin_42 : decode cX9_twin 42 = .ok (.ifCond .eq 34, 3) := by decide +kernel
theorem dX9_twin_45 : decode cX9_twin 45 = .ok (.aload_n 0, 1) := by decide +kernel
theorem dX9_twin_46 : decode cX9_twin 46 = .ok (.getfield 16, 3) := by decide +kernel
theorem dX9_twin_49 : decode cX9_twin 49 = .ok (.bipush 36, 2) := by decide +kernel
theorem dX9_twin_51 : decode cX9_twin 51 = .ok (.iload_n 2, 1) := by decide +kernel
theorem dX9_twin_52 : decode cX9_twin 52 = .ok (.imul, 1) := by decide +kernel
theorem dX9_twin_53 : decode cX9_twin 53 = .ok (.iload 4, 2) := by decide +kernel
theorem dX9_twin_55 : decode cX9_twin 55 = .ok (.iadd, 1) := by decide +kernel
theorem dX9_twin_56 : decode cX9_twin 56 = .ok (.iaload, 1) := by decide +kernel
theorem dX9_twin_57 : decode cX9_twin 57 = .ok (.aload_n 0, 1) := by decide +kernel
theorem dX9_twin_58 : decode cX9_twin 58 = .ok (.getfield 16, 3) := by decide +kernel
theorem dX9_twin_61 : decode cX9_twin 61 = .ok (.bipush 36, 2) := by decide +kernel
theorem dX9_twin_63 : decode cX9_twin 63 = .ok (.iload_n 1, 1) := by decide +kernel
theorem dX9_twin_64 : decode cX9_twin 64 = .ok (.imul, 1) := by decide +kernel
theorem dX9_twin_65 : decode cX9_twin 65 = .ok (.iload 4, 2) := by decide +kernel
theorem dX9_twin_67 : decode cX9_twin 67 = .ok (.iadd, 1) := by decide +kernel
theorem dX9_twin_68 : decode cX9_twin 68 = .ok (.iaload, 1) := by decide +kernel
theorem dX9_twin_69 : decode cX9_twin 69 = .ok (.if_icmp .ne 7, 3) := by decide +kernel
theorem dX9_twin_72 : decode cX9_twin 72 = .ok (.iconst 1, 1) := by decide +kernel
theorem dX9_twin_73 : decode cX9_twin 73 = .ok (.goto 4, 3) := by decide +kernel
theorem dX9_twin_76 : decode cX9_twin 76 = .ok (.iconst 0, 1) := by decide +kernel
theorem dX9_twin_77 : decode cX9_twin 77 = .ok (.istore_n 3, 1) := by decide +kernel
theorem dX9_twin_78 : decode cX9_twin 78 = .ok (.iinc 4 1, 3) := by decide +kernel
theorem dX9_twin_81 : decode cX9_twin 81 = .ok (.goto (-49), 3) := by decide +kernel
theorem dX9_twin_84 : decode cX9_twin 84 = .ok (.iload_n 3, 1) := by decide +kernel
theorem dX9_twin_85 : decode cX9_twin 85 = .ok (.ifCond .eq 5, 3) := by decide +kernel
theorem dX9_twin_88 : decode cX9_twin 88 = .ok (.iload_n 2, 1) := by decide +kernel
theorem dX9_twin_89 : decode cX9_twin 89 = .ok (.ireturn, 1) := by decide +kernel
theorem dX9_twin_90 : decode cX9_twin 90 = .ok (.iinc 2 1, 3) := by decide +kernel
theorem dX9_twin_93 : decode cX9_twin 93 = .ok (.goto (-71), 3) := by decide +kernel
theorem dX9_twin_96 : decode cX9_twin 96 = .ok (.iload_n 1, 1) := by decide +kernel
theorem dX9_twin_97 : decode cX9_twin 97 = .ok (.ireturn, 1) := by decide +kernel
theorem dX9_changes_0 : decode cX9_changes 0 = .ok (.aload_n 0, 1) := by decide +kernel
theorem dX9_changes_1 : decode cX9_changes 1 = .ok (.iconst 0, 1) := by decide +kernel
theorem dX9_changes_2 : decode cX9_changes 2 = .ok (.putfield 301, 3) := by decide +kernel
theorem dX9_changes_5 : decode cX9_changes 5 = .ok (.aload_n 0, 1) := by decide +kernel
theorem dX9_changes_6 : decode cX9_changes 6 = .ok (.iconst 0, 1) := by decide +kernel
theorem dX9_changes_7 : decode cX9_changes 7 = .ok (.putfield 304, 3) := by decide +kernel
theorem dX9_changes_10 : decode cX9_changes 10 = .ok (.return_, 1) := by decide +kernel
theorem dX9_inverse_0 : decode cX9_inverse 0 = .ok (.iconst 1, 1) := by decide +kernel
theorem dX9_inverse_1 : decode cX9_inverse 1 = .ok (.istore_n 2, 1) := by decide +kernel
theorem dX9_inverse_2 : decode cX9_inverse 2 = .ok (.iload_n 2, 1) := by decide +kernel
theorem dX9_inverse_3 : decode cX9_inverse 3 = .ok (.iload_n 1, 1) := by decide +kernel
theorem dX9_inverse_4 : decode cX9_inverse 4 = .ok (.imul, 1) := by decide +kernel
theorem dX9_inverse_5 : decode cX9_inverse 5 = .ok (.aload_n 0, 1) := by decide +kernel
theorem dX9_inverse_6 : decode cX9_inverse 6 = .ok (.getfield 7, 3) := by decide +kernel
theorem dX9_inverse_9 : decode cX9_inverse 9 = .ok (.irem, 1) := by decide +kernel
theorem dX9_inverse_10 : decode cX9_inverse 10 = .ok (.iconst 1, 1) := by decide +kernel
theorem dX9_inverse_11 : decode cX9_inverse 11 = .ok (.if_icmp .eq 9, 3) := by decide +kernel
theorem dX9_inverse_14 : decode cX9_inverse 14 = .ok (.iinc 2 1, 3) := by decide +kernel
theorem dX9_inverse_17 : decode cX9_inverse 17 = .ok (.goto (-15), 3) := by decide +kernel
theorem dX9_inverse_20 : decode cX9_inverse 20 = .ok (.iload_n 2, 1) := by decide +kernel
theorem dX9_inverse_21 : decode cX9_inverse 21 = .ok (.ireturn, 1) := by decide +kernel
theorem dX9_isLeft_0 : decode cX9_isLeft 0 = .ok (.iconst 0, 1) := by decide +kernel
theorem dX9_isLeft_1 : decode cX9_isLeft 1 = .ok (.istore 5, 2) := by decide +kernel
theorem dX9_isLeft_3 : decode cX9_isLeft 3 = .ok (.iload 5, 2) := by decide +kernel
theorem dX9_isLeft_5 : decode cX9_isLeft 5 = .ok (.iload_n 1, 1) := by decide +kernel
theorem dX9_isLeft_6 : decode cX9_isLeft 6 = .ok (.if_icmp .ge 123, 3) := by decide +kernel
theorem dX9_isLeft_9 : decode cX9_isLeft 9 = .ok (.aload_n 0, 1) := by decide +kernel
theorem dX9_isLeft_10 : decode cX9_isLeft 10 = .ok (.getfield 60, 3) := by decide +kernel
theorem dX9_isLeft_13 : decode cX9_isLeft 13 = .ok (.aload_n 3, 1) := by decide +kernel
theorem dX9_isLeft_14 : decode cX9_isLeft 14 = .ok (.iload 5, 2) := by decide +kernel
theorem dX9_isLeft_16 : decode cX9_isLeft 16 = .ok (.iaload, 1) := by decide +kernel
theorem dX9_isLeft_17 : decode cX9_isLeft 17 = .ok (.iaload, 1) := by decide +kernel
theorem dX9_isLeft_18 : decode cX9_isLeft 18 = .ok (.istore 6, 2) := by decide +kernel
theorem dX9_isLeft_20 : decode cX9_isLeft 20 = .ok (.iload 6, 2) := by decide +kernel
theorem dX9_isLeft_22 : decode cX9_isLeft 22 = .ok (.ifCond .ne 6, 3) := by decide +kernel
theorem dX9_isLeft_25 : decode cX9_isLeft 25 = .ok (.goto 98, 3) := by decide +kernel
theorem dX9_isLeft_28 : decode cX9_isLeft 28 = .ok (.iconst 0, 1) := by decide +kernel
theorem dX9_isLeft_29 : decode cX9_isLeft 29 = .ok (.istore 7, 2) := by decide +kernel
theorem dX9_isLeft_31 : decode cX9_isLeft 31 = .ok (.iload 7, 2) := by decide +kernel
theorem dX9_isLeft_33 : decode cX9_isLeft 33 = .ok (.aload_n 0, 1) := by decide +kernel
theorem dX9_isLeft_34 : decode cX9_isLeft 34 = .ok (.getfield 268, 3) := by decide +kernel
theorem dX9_isLeft_37 : decode cX9_isLeft 37 = .ok (.if_icmp .ge 86, 3) := by decide +kernel
theorem dX9_isLeft_40 : decode cX9_isLeft 40 = .ok (.aload_n 0, 1) := by decide +kernel
theorem dX9_isLeft_41 : decode cX9_isLeft 41 = .ok (.getfield 60, 3) := by decide +kernel
theorem dX9_isLeft_44 : decode cX9_isLeft 44 = .ok (.iload 7, 2) := by decide +kernel
theorem dX9_isLeft_46 : decode cX9_isLeft 46 = .ok (.aload_n 0, 1) := by decide +kernel
theorem dX9_isLeft_47 : decode cX9_isLeft 47 = .ok (.getfield 60, 3) := by decide +kernel
theorem dX9_isLeft_50 : decode cX9_isLeft 50 = .ok (.iload 7, 2) := by decide +kernel
theorem dX9_isLeft_52 : decode cX9_isLeft 52 = .ok (.iaload, 1) := by decide +kernel
theorem dX9_isLeft_53 : decode cX9_isLeft 53 = .ok (.aload_n 0, 1) := by decide +kernel
theorem dX9_isLeft_54 : decode cX9_isLeft 54 = .ok (.getfield 7, 3) := by decide +kernel
theorem dX9_isLeft_57 : decode cX9_isLeft 57 = .ok (.iload 6, 2) := by decide +kernel
theorem dX9_isLeft_59 : decode cX9_isLeft 59 = .ok (.isub, 1) := by decide +kernel
theorem dX9_isLeft_60 : decode cX9_isLeft 60 = .ok (.aload_n 2, 1) := by decide +kernel
theorem dX9_isLeft_61 : decode cX9_isLeft 61 = .ok (.bipush 36, 2) := by decide +kernel
theorem dX9_isLeft_63 : decode cX9_isLeft 63 = .ok (.iload 5, 2) := by decide +kernel
theorem dX9_isLeft_65 : decode cX9_isLeft 65 = .ok (.imul, 1) := by decide +kernel
theorem dX9_isLeft_66 : decode cX9_isLeft 66 = .ok (.iload 7, 2) := by decide +kernel
theorem dX9_isLeft_68 : decode cX9_isLeft 68 = .ok (.iadd, 1) := by decide +kernel
theorem dX9_isLeft_69 : decode cX9_isLeft 69 = .ok (.iaload, 1) := by decide +kernel
theorem dX9_isLeft_70 : decode cX9_isLeft 70 = .ok (.imul, 1) := by decide +kernel
theorem dX9_isLeft_71 : decode cX9_isLeft 71 = .ok (.iadd, 1) := by decide +kernel
theorem dX9_isLeft_72 : decode cX9_isLeft 72 = .ok (.aload_n 0, 1) := by decide +kernel
theorem dX9_isLeft_73 : decode cX9_isLeft 73 = .ok (.getfield 7, 3) := by decide +kernel
theorem dX9_isLeft_76 : decode cX9_isLeft 76 = .ok (.irem, 1) := by decide +kernel
theorem dX9_isLeft_77 : decode cX9_isLeft 77 = .ok (.iastore, 1) := by decide +kernel
theorem dX9_isLeft_78 : decode cX9_isLeft 78 = .ok (.aload_n 0, 1) := by decide +kernel
theorem dX9_isLeft_79 : decode cX9_isLeft 79 = .ok (.getfield 63, 3) := by decide +kernel
theorem dX9_isLeft_82 : decode cX9_isLeft 82 = .ok (.iload 7, 2) := by decide +kernel
theorem dX9_isLeft_84 : decode cX9_isLeft 84 = .ok (.aload_n 0, 1) := by decide +kernel
theorem dX9_isLeft_85 : decode cX9_isLeft 85 = .ok (.getfield 63, 3) := by decide +kernel
theorem dX9_isLeft_88 : decode cX9_isLeft 88 = .ok (.iload 7, 2) := by decide +kernel
theorem dX9_isLeft_90 : decode cX9_isLeft 90 = .ok (.iaload, 1) := by decide +kernel
theorem dX9_isLeft_91 : decode cX9_isLeft 91 = .ok (.aload_n 0, 1) := by decide +kernel
theorem dX9_isLeft_92 : decode cX9_isLeft 92 = .ok (.getfield 7, 3) := by decide +kernel
theorem dX9_isLeft_95 : decode cX9_isLeft 95 = .ok (.iload 6, 2) := by decide +kernel
theorem dX9_isLeft_97 : decode cX9_isLeft 97 = .ok (.isub, 1) := by decide +kernel
theorem dX9_isLeft_98 : decode cX9_isLeft 98 = .ok (.aload 4, 2) := by decide +kernel
theorem dX9_isLeft_100 : decode cX9_isLeft 100 = .ok (.bipush 36, 2) := by decide +kernel
theorem dX9_isLeft_102 : decode cX9_isLeft 102 = .ok (.iload 5, 2) := by decide +kernel
theorem dX9_isLeft_104 : decode cX9_isLeft 104 = .ok (.imul, 1) := by decide +kernel
theorem dX9_isLeft_105 : decode cX9_isLeft 105 = .ok (.iload 7, 2) := by decide +kernel
theorem dX9_isLeft_107 : decode cX9_isLeft 107 = .ok (.iadd, 1) := by decide +kernel
theorem dX9_isLeft_108 : decode cX9_isLeft 108 = .ok (.iaload, 1) := by decide +kernel
theorem dX9_isLeft_109 : decode cX9_isLeft 109 = .ok (.imul, 1) := by decide +kernel
theorem dX9_isLeft_110 : decode cX9_isLeft 110 = .ok (.iadd, 1) := by decide +kernel
theorem dX9_isLeft_111 : decode cX9_isLeft 111 = .ok (.aload_n 0, 1) := by decide +kernel
theorem dX9_isLeft_112 : decode cX9_isLeft 112 = .ok (.getfield 7, 3) := by decide +kernel
theorem dX9_isLeft_115 : decode cX9_isLeft 115 = .ok (.irem, 1) := by decide +kernel
theorem dX9_isLeft_116 : decode cX9_isLeft 116 = .ok (.iastore, 1) := by decide +kernel
theorem dX9_isLeft_117 : decode cX9_isLeft 117 = .ok (.iinc 7 1, 3) := by decide +kernel
theorem dX9_isLeft_120 : decode cX9_isLeft 120 = .ok (.goto (-89), 3) := by decide +kernel
theorem dX9_isLeft_123 : decode cX9_isLeft 123 = .ok (.iinc 5 1, 3) := by decide +kernel
theorem dX9_isLeft_126 : decode cX9_isLeft 126 = .ok (.goto (-123), 3) := by decide +kernel
theorem dX9_isLeft_129 : decode cX9_isLeft 129 = .ok (.iconst 0, 1) := by decide +kernel
theorem dX9_isLeft_130 : decode cX9_isLeft 130 = .ok (.istore 5, 2) := by decide +kernel
theorem dX9_isLeft_132 : decode cX9_isLeft 132 = .ok (.iload 5, 2) := by decide +kernel
theorem dX9_isLeft_134 : decode cX9_isLeft 134 = .ok (.aload_n 0, 1) := by decide +kernel
theorem dX9_isLeft_135 : decode cX9_isLeft 135 = .ok (.getfield 268, 3) := by decide +kernel
theorem dX9_isLeft_138 : decode cX9_isLeft 138 = .ok (.if_icmp .ge 21, 3) := by decide +kernel
theorem dX9_isLeft_141 : decode cX9_isLeft 141 = .ok (.aload_n 0, 1) := by decide +kernel
theorem dX9_isLeft_142 : decode cX9_isLeft 142 = .ok (.getfield 60, 3) := by decide +kernel
theorem dX9_isLeft_145 : decode cX9_isLeft 145 = .ok (.iload 5, 2) := by decide +kernel
theorem dX9_isLeft_147 : decode cX9_isLeft 147 = .ok (.iaload, 1) := by decide +kernel
theorem dX9_isLeft_148 : decode cX9_isLeft 148 = .ok (.ifCond .eq 5, 3) := by decide +kernel
theorem dX9_isLeft_151 : decode cX9_isLeft 151 = .ok (.iconst 1, 1) := by decide +kernel
theorem dX9_isLeft_152 : decode cX9_isLeft 152 = .ok (.ireturn, 1) := by decide +kernel
theorem dX9_isLeft_153 : decode cX9_isLeft 153 = .ok (.iinc 5 1, 3) := by decide +kernel
theorem dX9_isLeft_156 : decode cX9_isLeft 156 = .ok (.goto (-24), 3) := by decide +kernel
theorem dX9_isLeft_159 : decode cX9_isLeft 159 = .ok (.iconst 0, 1) := by decide +kernel
theorem dX9_isLeft_160 : decode cX9_isLeft 160 = .ok (.ireturn, 1) := by decide +kernel
theorem dX9_keepsRow_0 : decode cX9_keepsRow 0 = .ok (.iconst 0, 1) := by decide +kernel
theorem dX9_keepsRow_1 : decode cX9_keepsRow 1 = .ok (.istore_n 1, 1) := by decide +kernel
theorem dX9_keepsRow_2 : decode cX9_keepsRow 2 = .ok (.aload_n 0, 1) := by decide +kernel
theorem dX9_keepsRow_3 : decode cX9_keepsRow 3 = .ok (.getfield 60, 3) := by decide +kernel
theorem dX9_keepsRow_6 : decode cX9_keepsRow 6 = .ok (.iload_n 1, 1) := by decide +kernel
theorem dX9_keepsRow_7 : decode cX9_keepsRow 7 = .ok (.iaload, 1) := by decide +kernel
theorem dX9_keepsRow_8 : decode cX9_keepsRow 8 = .ok (.ifCond .ne 9, 3) := by decide +kernel
theorem dX9_keepsRow_11 : decode cX9_keepsRow 11 = .ok (.iinc 1 1, 3) := by decide +kernel
theorem dX9_keepsRow_14 : decode cX9_keepsRow 14 = .ok (.goto (-12), 3) := by decide +kernel
theorem dX9_keepsRow_17 : decode cX9_keepsRow 17 = .ok (.aload_n 0, 1) := by decide +kernel
theorem dX9_keepsRow_18 : decode cX9_keepsRow 18 = .ok (.aload_n 0, 1) := by decide +kernel
theorem dX9_keepsRow_19 : decode cX9_keepsRow 19 = .ok (.getfield 60, 3) := by decide +kernel
theorem dX9_keepsRow_22 : decode cX9_keepsRow 22 = .ok (.iload_n 1, 1) := by decide +kernel
theorem dX9_keepsRow_23 : decode cX9_keepsRow 23 = .ok (.iaload, 1) := by decide +kernel
theorem dX9_keepsRow_24 : decode cX9_keepsRow 24 = .ok (.invokevirtual 307, 3) := by decide +kernel
theorem dX9_keepsRow_27 : decode cX9_keepsRow 27 = .ok (.istore_n 2, 1) := by decide +kernel
theorem dX9_keepsRow_28 : decode cX9_keepsRow 28 = .ok (.iconst 0, 1) := by decide +kernel
theorem dX9_keepsRow_29 : decode cX9_keepsRow 29 = .ok (.istore_n 3, 1) := by decide +kernel
theorem dX9_keepsRow_30 : decode cX9_keepsRow 30 = .ok (.iload_n 3, 1) := by decide +kernel
theorem dX9_keepsRow_31 : decode cX9_keepsRow 31 = .ok (.aload_n 0, 1) := by decide +kernel
theorem dX9_keepsRow_32 : decode cX9_keepsRow 32 = .ok (.getfield 268, 3) := by decide +kernel
theorem dX9_keepsRow_35 : decode cX9_keepsRow 35 = .ok (.if_icmp .ge 63, 3) := by decide +kernel
theorem dX9_keepsRow_38 : decode cX9_keepsRow 38 = .ok (.aload_n 0, 1) := by decide +kernel
theorem dX9_keepsRow_39 : decode cX9_keepsRow 39 = .ok (.getfield 51, 3) := by decide +kernel
theorem dX9_keepsRow_42 : decode cX9_keepsRow 42 = .ok (.bipush 36, 2) := by decide +kernel
theorem dX9_keepsRow_44 : decode cX9_keepsRow 44 = .ok (.aload_n 0, 1) := by decide +kernel
theorem dX9_keepsRow_45 : decode cX9_keepsRow 45 = .ok (.getfield 310, 3) := by decide +kernel
theorem dX9_keepsRow_48 : decode cX9_keepsRow 48 = .ok (.imul, 1) := by decide +kernel
theorem dX9_keepsRow_49 : decode cX9_keepsRow 49 = .ok (.iload_n 3, 1) := by decide +kernel
theorem dX9_keepsRow_50 : decode cX9_keepsRow 50 = .ok (.iadd, 1) := by decide +kernel
theorem dX9_keepsRow_51 : decode cX9_keepsRow 51 = .ok (.aload_n 0, 1) := by decide +kernel
theorem dX9_keepsRow_52 : decode cX9_keepsRow 52 = .ok (.getfield 60, 3) := by decide +kernel
theorem dX9_keepsRow_55 : decode cX9_keepsRow 55 = .ok (.iload_n 3, 1) := by decide +kernel
theorem dX9_keepsRow_56 : decode cX9_keepsRow 56 = .ok (.iaload, 1) := by decide +kernel
theorem dX9_keepsRow_57 : decode cX9_keepsRow 57 = .ok (.iload_n 2, 1) := by decide +kernel
theorem dX9_keepsRow_58 : decode cX9_keepsRow 58 = .ok (.imul, 1) := by decide +kernel
theorem dX9_keepsRow_59 : decode cX9_keepsRow 59 = .ok (.aload_n 0, 1) := by decide +kernel
theorem dX9_keepsRow_60 : decode cX9_keepsRow 60 = .ok (.getfield 7, 3) := by decide +kernel
theorem dX9_keepsRow_63 : decode cX9_keepsRow 63 = .ok (.irem, 1) := by decide +kernel
theorem dX9_keepsRow_64 : decode cX9_keepsRow 64 = .ok (.iastore, 1) := by decide +kernel
theorem dX9_keepsRow_65 : decode cX9_keepsRow 65 = .ok (.aload_n 0, 1) := by decide +kernel
theorem dX9_keepsRow_66 : decode cX9_keepsRow 66 = .ok (.getfield 57, 3) := by decide +kernel
theorem dX9_keepsRow_69 : decode cX9_keepsRow 69 = .ok (.bipush 36, 2) := by decide +kernel
theorem dX9_keepsRow_71 : decode cX9_keepsRow 71 = .ok (.aload_n 0, 1) := by decide +kernel
theorem dX9_keepsRow_72 : decode cX9_keepsRow 72 = .ok (.getfield 310, 3) := by decide +kernel
theorem dX9_keepsRow_75 : decode cX9_keepsRow 75 = .ok (.imul, 1) := by decide +kernel
theorem dX9_keepsRow_76 : decode cX9_keepsRow 76 = .ok (.iload_n 3, 1) := by decide +kernel
theorem dX9_keepsRow_77 : decode cX9_keepsRow 77 = .ok (.iadd, 1) := by decide +kernel
theorem dX9_keepsRow_78 : decode cX9_keepsRow 78 = .ok (.aload_n 0, 1) := by decide +kernel
theorem dX9_keepsRow_79 : decode cX9_keepsRow 79 = .ok (.getfield 63, 3) := by decide +kernel
theorem dX9_keepsRow_82 : decode cX9_keepsRow 82 = .ok (.iload_n 3, 1) := by decide +kernel
theorem dX9_keepsRow_83 : decode cX9_keepsRow 83 = .ok (.iaload, 1) := by decide +kernel
theorem dX9_keepsRow_84 : decode cX9_keepsRow 84 = .ok (.iload_n 2, 1) := by decide +kernel
theorem dX9_keepsRow_85 : decode cX9_keepsRow 85 = .ok (.imul, 1) := by decide +kernel
theorem dX9_keepsRow_86 : decode cX9_keepsRow 86 = .ok (.aload_n 0, 1) := by decide +kernel
theorem dX9_keepsRow_87 : decode cX9_keepsRow 87 = .ok (.getfield 7, 3) := by decide +kernel
theorem dX9_keepsRow_90 : decode cX9_keepsRow 90 = .ok (.irem, 1) := by decide +kernel
theorem dX9_keepsRow_91 : decode cX9_keepsRow 91 = .ok (.iastore, 1) := by decide +kernel
theorem dX9_keepsRow_92 : decode cX9_keepsRow 92 = .ok (.iinc 3 1, 3) := by decide +kernel
theorem dX9_keepsRow_95 : decode cX9_keepsRow 95 = .ok (.goto (-65), 3) := by decide +kernel
theorem dX9_keepsRow_98 : decode cX9_keepsRow 98 = .ok (.aload_n 0, 1) := by decide +kernel
theorem dX9_keepsRow_99 : decode cX9_keepsRow 99 = .ok (.getfield 54, 3) := by decide +kernel
theorem dX9_keepsRow_102 : decode cX9_keepsRow 102 = .ok (.aload_n 0, 1) := by decide +kernel
theorem dX9_keepsRow_103 : decode cX9_keepsRow 103 = .ok (.getfield 310, 3) := by decide +kernel
theorem dX9_keepsRow_106 : decode cX9_keepsRow 106 = .ok (.iload_n 1, 1) := by decide +kernel
theorem dX9_keepsRow_107 : decode cX9_keepsRow 107 = .ok (.iastore, 1) := by decide +kernel
theorem dX9_keepsRow_108 : decode cX9_keepsRow 108 = .ok (.aload_n 0, 1) := by decide +kernel
theorem dX9_keepsRow_109 : decode cX9_keepsRow 109 = .ok (.dup, 1) := by decide +kernel
theorem dX9_keepsRow_110 : decode cX9_keepsRow 110 = .ok (.getfield 310, 3) := by decide +kernel
theorem dX9_keepsRow_113 : decode cX9_keepsRow 113 = .ok (.iconst 1, 1) := by decide +kernel
theorem dX9_keepsRow_114 : decode cX9_keepsRow 114 = .ok (.iadd, 1) := by decide +kernel
theorem dX9_keepsRow_115 : decode cX9_keepsRow 115 = .ok (.putfield 310, 3) := by decide +kernel
theorem dX9_keepsRow_118 : decode cX9_keepsRow 118 = .ok (.return_, 1) := by decide +kernel
theorem dX9_knows_0 : decode cX9_knows 0 = .ok (.aload_n 0, 1) := by decide +kernel
theorem dX9_knows_1 : decode cX9_knows 1 = .ok (.getfield 301, 3) := by decide +kernel
theorem dX9_knows_4 : decode cX9_knows 4 = .ok (.ifCond .eq 4, 3) := by decide +kernel
theorem dX9_knows_7 : decode cX9_knows 7 = .ok (.return_, 1) := by decide +kernel
theorem dX9_knows_8 : decode cX9_knows 8 = .ok (.aload_n 0, 1) := by decide +kernel
theorem dX9_knows_9 : decode cX9_knows 9 = .ok (.iconst 1, 1) := by decide +kernel
theorem dX9_knows_10 : decode cX9_knows 10 = .ok (.putfield 301, 3) := by decide +kernel
theorem dX9_knows_13 : decode cX9_knows 13 = .ok (.aload_n 0, 1) := by decide +kernel
theorem dX9_knows_14 : decode cX9_knows 14 = .ok (.iconst 0, 1) := by decide +kernel
theorem dX9_knows_15 : decode cX9_knows 15 = .ok (.putfield 310, 3) := by decide +kernel
theorem dX9_knows_18 : decode cX9_knows 18 = .ok (.aload_n 0, 1) := by decide +kernel
theorem dX9_knows_19 : decode cX9_knows 19 = .ok (.iconst 0, 1) := by decide +kernel
theorem dX9_knows_20 : decode cX9_knows 20 = .ok (.putfield 313, 3) := by decide +kernel
theorem dX9_knows_23 : decode cX9_knows 23 = .ok (.iconst 0, 1) := by decide +kernel
theorem dX9_knows_24 : decode cX9_knows 24 = .ok (.istore_n 1, 1) := by decide +kernel
theorem dX9_knows_25 : decode cX9_knows 25 = .ok (.iload_n 1, 1) := by decide +kernel
theorem dX9_knows_26 : decode cX9_knows 26 = .ok (.aload_n 0, 1) := by decide +kernel
theorem dX9_knows_27 : decode cX9_knows 27 = .ok (.getfield 268, 3) := by decide +kernel
theorem dX9_knows_30 : decode cX9_knows 30 = .ok (.if_icmp .ge 157, 3) := by decide +kernel
theorem dX9_knows_33 : decode cX9_knows 33 = .ok (.iconst 0, 1) := by decide +kernel
theorem dX9_knows_34 : decode cX9_knows 34 = .ok (.istore_n 2, 1) := by decide +kernel
theorem dX9_knows_35 : decode cX9_knows 35 = .ok (.iload_n 2, 1) := by decide +kernel
theorem dX9_knows_36 : decode cX9_knows 36 = .ok (.aload_n 0, 1) := by decide +kernel
theorem dX9_knows_37 : decode cX9_knows 37 = .ok (.getfield 268, 3) := by decide +kernel
theorem dX9_knows_40 : decode cX9_knows 40 = .ok (.if_icmp .ge 55, 3) := by decide +kernel
theorem dX9_knows_43 : decode cX9_knows 43 = .ok (.aload_n 0, 1) := by decide +kernel
theorem dX9_knows_44 : decode cX9_knows 44 = .ok (.getfield 60, 3) := by decide +kernel
theorem dX9_knows_47 : decode cX9_knows 47 = .ok (.iload_n 2, 1) := by decide +kernel
theorem dX9_knows_48 : decode cX9_knows 48 = .ok (.aload_n 0, 1) := by decide +kernel
theorem dX9_knows_49 : decode cX9_knows 49 = .ok (.getfield 20, 3) := by decide +kernel
theorem dX9_knows_52 : decode cX9_knows 52 = .ok (.iload_n 2, 1) := by decide +kernel
theorem dX9_knows_53 : decode cX9_knows 53 = .ok (.baload, 1) := by decide +kernel
theorem dX9_knows_54 : decode cX9_knows 54 = .ok (.ifCond .eq 7, 3) := by decide +kernel
theorem dX9_knows_57 : decode cX9_knows 57 = .ok (.iconst 0, 1) := by decide +kernel
theorem dX9_knows_58 : decode cX9_knows 58 = .ok (.goto 14, 3) := by decide +kernel
theorem dX9_knows_61 : decode cX9_knows 61 = .ok (.aload_n 0, 1) := by decide +kernel
theorem dX9_knows_62 : decode cX9_knows 62 = .ok (.getfield 16, 3) := by decide +kernel
theorem dX9_knows_65 : decode cX9_knows 65 = .ok (.bipush 36, 2) := by decide +kernel
theorem dX9_knows_67 : decode cX9_knows 67 = .ok (.iload_n 2, 1) := by decide +kernel
theorem dX9_knows_68 : decode cX9_knows 68 = .ok (.imul, 1) := by decide +kernel
theorem dX9_knows_69 : decode cX9_knows 69 = .ok (.iload_n 1, 1) := by decide +kernel
theorem dX9_knows_70 : decode cX9_knows 70 = .ok (.iadd, 1) := by decide +kernel
theorem dX9_knows_71 : decode cX9_knows 71 = .ok (.iaload, 1) := by decide +kernel
theorem dX9_knows_72 : decode cX9_knows 72 = .ok (.iastore, 1) := by decide +kernel
theorem dX9_knows_73 : decode cX9_knows 73 = .ok (.aload_n 0, 1) := by decide +kernel
theorem dX9_knows_74 : decode cX9_knows 74 = .ok (.getfield 63, 3) := by decide +kernel
theorem dX9_knows_77 : decode cX9_knows 77 = .ok (.iload_n 2, 1) := by decide +kernel
theorem dX9_knows_78 : decode cX9_knows 78 = .ok (.iload_n 2, 1) := by decide +kernel
theorem dX9_knows_79 : decode cX9_knows 79 = .ok (.iload_n 1, 1) := by decide +kernel
theorem dX9_knows_80 : decode cX9_knows 80 = .ok (.if_icmp .ne 7, 3) := by decide +kernel
theorem dX9_knows_83 : decode cX9_knows 83 = .ok (.iconst 1, 1) := by decide +kernel
theorem dX9_knows_84 : decode cX9_knows 84 = .ok (.goto 4, 3) := by decide +kernel
theorem dX9_knows_87 : decode cX9_knows 87 = .ok (.iconst 0, 1) := by decide +kernel
theorem dX9_knows_88 : decode cX9_knows 88 = .ok (.iastore, 1) := by decide +kernel
theorem dX9_knows_89 : decode cX9_knows 89 = .ok (.iinc 2 1, 3) := by decide +kernel
theorem dX9_knows_92 : decode cX9_knows 92 = .ok (.goto (-57), 3) := by decide +kernel
theorem dX9_knows_95 : decode cX9_knows 95 = .ok (.aload_n 0, 1) := by decide +kernel
theorem dX9_knows_96 : decode cX9_knows 96 = .ok (.aload_n 0, 1) := by decide +kernel
theorem dX9_knows_97 : decode cX9_knows 97 = .ok (.getfield 310, 3) := by decide +kernel
theorem dX9_knows_100 : decode cX9_knows 100 = .ok (.aload_n 0, 1) := by decide +kernel
theorem dX9_knows_101 : decode cX9_knows 101 = .ok (.getfield 51, 3) := by decide +kernel
theorem dX9_knows_104 : decode cX9_knows 104 = .ok (.aload_n 0, 1) := by decide +kernel
theorem dX9_knows_105 : decode cX9_knows 105 = .ok (.getfield 54, 3) := by decide +kernel
theorem dX9_knows_108 : decode cX9_knows 108 = .ok (.aload_n 0, 1) := by decide +kernel
theorem dX9_knows_109 : decode cX9_knows 109 = .ok (.getfield 57, 3) := by decide +kernel
theorem dX9_knows_112 : decode cX9_knows 112 = .ok (.invokevirtual 316, 3) := by decide +kernel
theorem dX9_knows_115 : decode cX9_knows 115 = .ok (.ifCond .eq 10, 3) := by decide +kernel
theorem dX9_knows_118 : decode cX9_knows 118 = .ok (.aload_n 0, 1) := by decide +kernel
theorem dX9_knows_119 : decode cX9_knows 119 = .ok (.invokevirtual 320, 3) := by decide +kernel
theorem dX9_knows_122 : decode cX9_knows 122 = .ok (.goto 59, 3) := by decide +kernel
theorem dX9_knows_125 : decode cX9_knows 125 = .ok (.aload_n 0, 1) := by decide +kernel
theorem dX9_knows_126 : decode cX9_knows 126 = .ok (.getfield 72, 3) := by decide +kernel
theorem dX9_knows_129 : decode cX9_knows 129 = .ok (.aload_n 0, 1) := by decide +kernel
theorem dX9_knows_130 : decode cX9_knows 130 = .ok (.getfield 313, 3) := by decide +kernel
theorem dX9_knows_133 : decode cX9_knows 133 = .ok (.iload_n 1, 1) := by decide +kernel
theorem dX9_knows_134 : decode cX9_knows 134 = .ok (.iastore, 1) := by decide +kernel
theorem dX9_knows_135 : decode cX9_knows 135 = .ok (.iconst 0, 1) := by decide +kernel
theorem dX9_knows_136 : decode cX9_knows 136 = .ok (.istore_n 2, 1) := by decide +kernel
theorem dX9_knows_137 : decode cX9_knows 137 = .ok (.iload_n 2, 1) := by decide +kernel
theorem dX9_knows_138 : decode cX9_knows 138 = .ok (.aload_n 0, 1) := by decide +kernel
theorem dX9_knows_139 : decode cX9_knows 139 = .ok (.getfield 268, 3) := by decide +kernel
theorem dX9_knows_142 : decode cX9_knows 142 = .ok (.if_icmp .ge 29, 3) := by decide +kernel
theorem dX9_knows_145 : decode cX9_knows 145 = .ok (.aload_n 0, 1) := by decide +kernel
theorem dX9_knows_146 : decode cX9_knows 146 = .ok (.getfield 78, 3) := by decide +kernel
theorem dX9_knows_149 : decode cX9_knows 149 = .ok (.bipush 36, 2) := by decide +kernel
theorem dX9_knows_151 : decode cX9_knows 151 = .ok (.aload_n 0, 1) := by decide +kernel
theorem dX9_knows_152 : decode cX9_knows 152 = .ok (.getfield 313, 3) := by decide +kernel
theorem dX9_knows_155 : decode cX9_knows 155 = .ok (.imul, 1) := by decide +kernel
theorem dX9_knows_156 : decode cX9_knows 156 = .ok (.iload_n 2, 1) := by decide +kernel
theorem dX9_knows_157 : decode cX9_knows 157 = .ok (.iadd, 1) := by decide +kernel
theorem dX9_knows_158 : decode cX9_knows 158 = .ok (.aload_n 0, 1) := by decide +kernel
theorem dX9_knows_159 : decode cX9_knows 159 = .ok (.getfield 63, 3) := by decide +kernel
theorem dX9_knows_162 : decode cX9_knows 162 = .ok (.iload_n 2, 1) := by decide +kernel
theorem dX9_knows_163 : decode cX9_knows 163 = .ok (.iaload, 1) := by decide +kernel
theorem dX9_knows_164 : decode cX9_knows 164 = .ok (.iastore, 1) := by decide +kernel
theorem dX9_knows_165 : decode cX9_knows 165 = .ok (.iinc 2 1, 3) := by decide +kernel
theorem dX9_knows_168 : decode cX9_knows 168 = .ok (.goto (-31), 3) := by decide +kernel
theorem dX9_knows_171 : decode cX9_knows 171 = .ok (.aload_n 0, 1) := by decide +kernel
theorem dX9_knows_172 : decode cX9_knows 172 = .ok (.dup, 1) := by decide +kernel
theorem dX9_knows_173 : decode cX9_knows 173 = .ok (.getfield 313, 3) := by decide +kernel
theorem dX9_knows_176 : decode cX9_knows 176 = .ok (.iconst 1, 1) := by decide +kernel
theorem dX9_knows_177 : decode cX9_knows 177 = .ok (.iadd, 1) := by decide +kernel
theorem dX9_knows_178 : decode cX9_knows 178 = .ok (.putfield 313, 3) := by decide +kernel
theorem dX9_knows_181 : decode cX9_knows 181 = .ok (.iinc 1 1, 3) := by decide +kernel
theorem dX9_knows_184 : decode cX9_knows 184 = .ok (.goto (-159), 3) := by decide +kernel
theorem dX9_knows_187 : decode cX9_knows 187 = .ok (.aload_n 0, 1) := by decide +kernel
theorem dX9_knows_188 : decode cX9_knows 188 = .ok (.iconst 0, 1) := by decide +kernel
theorem dX9_knows_189 : decode cX9_knows 189 = .ok (.putfield 310, 3) := by decide +kernel
theorem dX9_knows_192 : decode cX9_knows 192 = .ok (.aload_n 0, 1) := by decide +kernel
theorem dX9_knows_193 : decode cX9_knows 193 = .ok (.iconst 0, 1) := by decide +kernel
theorem dX9_knows_194 : decode cX9_knows 194 = .ok (.putfield 323, 3) := by decide +kernel
theorem dX9_knows_197 : decode cX9_knows 197 = .ok (.iconst 0, 1) := by decide +kernel
theorem dX9_knows_198 : decode cX9_knows 198 = .ok (.istore_n 1, 1) := by decide +kernel
theorem dX9_knows_199 : decode cX9_knows 199 = .ok (.iload_n 1, 1) := by decide +kernel
theorem dX9_knows_200 : decode cX9_knows 200 = .ok (.aload_n 0, 1) := by decide +kernel
theorem dX9_knows_201 : decode cX9_knows 201 = .ok (.getfield 268, 3) := by decide +kernel
theorem dX9_knows_204 : decode cX9_knows 204 = .ok (.if_icmp .ge 166, 3) := by decide +kernel
theorem dX9_knows_207 : decode cX9_knows 207 = .ok (.aload_n 0, 1) := by decide +kernel
theorem dX9_knows_208 : decode cX9_knows 208 = .ok (.getfield 20, 3) := by decide +kernel
theorem dX9_knows_211 : decode cX9_knows 211 = .ok (.iload_n 1, 1) := by decide +kernel
theorem dX9_knows_212 : decode cX9_knows 212 = .ok (.baload, 1) := by decide +kernel
theorem dX9_knows_213 : decode cX9_knows 213 = .ok (.ifCond .eq 6, 3) := by decide +kernel
theorem dX9_knows_216 : decode cX9_knows 216 = .ok (.goto 148, 3) := by decide +kernel
theorem dX9_knows_219 : decode cX9_knows 219 = .ok (.iconst 0, 1) := by decide +kernel
theorem dX9_knows_220 : decode cX9_knows 220 = .ok (.istore_n 2, 1) := by decide +kernel
theorem dX9_knows_221 : decode cX9_knows 221 = .ok (.iload_n 2, 1) := by decide +kernel
theorem dX9_knows_222 : decode cX9_knows 222 = .ok (.aload_n 0, 1) := by decide +kernel
theorem dX9_knows_223 : decode cX9_knows 223 = .ok (.getfield 268, 3) := by decide +kernel
theorem dX9_knows_226 : decode cX9_knows 226 = .ok (.if_icmp .ge 42, 3) := by decide +kernel
theorem dX9_knows_229 : decode cX9_knows 229 = .ok (.aload_n 0, 1) := by decide +kernel
theorem dX9_knows_230 : decode cX9_knows 230 = .ok (.getfield 60, 3) := by decide +kernel
theorem dX9_knows_233 : decode cX9_knows 233 = .ok (.iload_n 2, 1) := by decide +kernel
theorem dX9_knows_234 : decode cX9_knows 234 = .ok (.aload_n 0, 1) := by decide +kernel
theorem dX9_knows_235 : decode cX9_knows 235 = .ok (.getfield 16, 3) := by decide +kernel
theorem dX9_knows_238 : decode cX9_knows 238 = .ok (.bipush 36, 2) := by decide +kernel
theorem dX9_knows_240 : decode cX9_knows 240 = .ok (.iload_n 1, 1) := by decide +kernel
theorem dX9_knows_241 : decode cX9_knows 241 = .ok (.imul, 1) := by decide +kernel
theorem dX9_knows_242 : decode cX9_knows 242 = .ok (.iload_n 2, 1) := by decide +kernel
theorem dX9_knows_243 : decode cX9_knows 243 = .ok (.iadd, 1) := by decide +kernel
theorem dX9_knows_244 : decode cX9_knows 244 = .ok (.iaload, 1) := by decide +kernel
theorem dX9_knows_245 : decode cX9_knows 245 = .ok (.iastore, 1) := by decide +kernel
theorem dX9_knows_246 : decode cX9_knows 246 = .ok (.aload_n 0, 1) := by decide +kernel
theorem dX9_knows_247 : decode cX9_knows 247 = .ok (.getfield 63, 3) := by decide +kernel
theorem dX9_knows_250 : decode cX9_knows 250 = .ok (.iload_n 2, 1) := by decide +kernel
theorem dX9_knows_251 : decode cX9_knows 251 = .ok (.iload_n 1, 1) := by decide +kernel
theorem dX9_knows_252 : decode cX9_knows 252 = .ok (.iload_n 2, 1) := by decide +kernel
theorem dX9_knows_253 : decode cX9_knows 253 = .ok (.if_icmp .ne 7, 3) := by decide +kernel
theorem dX9_knows_256 : decode cX9_knows 256 = .ok (.iconst 1, 1) := by decide +kernel
theorem dX9_knows_257 : decode cX9_knows 257 = .ok (.goto 4, 3) := by decide +kernel
theorem dX9_knows_260 : decode cX9_knows 260 = .ok (.iconst 0, 1) := by decide +kernel
theorem dX9_knows_261 : decode cX9_knows 261 = .ok (.iastore, 1) := by decide +kernel
theorem dX9_knows_262 : decode cX9_knows 262 = .ok (.iinc 2 1, 3) := by decide +kernel
theorem dX9_knows_265 : decode cX9_knows 265 = .ok (.goto (-44), 3) := by decide +kernel
theorem dX9_knows_268 : decode cX9_knows 268 = .ok (.aload_n 0, 1) := by decide +kernel
theorem dX9_knows_269 : decode cX9_knows 269 = .ok (.aload_n 0, 1) := by decide +kernel
theorem dX9_knows_270 : decode cX9_knows 270 = .ok (.getfield 310, 3) := by decide +kernel
theorem dX9_knows_273 : decode cX9_knows 273 = .ok (.aload_n 0, 1) := by decide +kernel
theorem dX9_knows_274 : decode cX9_knows 274 = .ok (.getfield 51, 3) := by decide +kernel
theorem dX9_knows_277 : decode cX9_knows 277 = .ok (.aload_n 0, 1) := by decide +kernel
theorem dX9_knows_278 : decode cX9_knows 278 = .ok (.getfield 54, 3) := by decide +kernel
theorem dX9_knows_281 : decode cX9_knows 281 = .ok (.aload_n 0, 1) := by decide +kernel
theorem dX9_knows_282 : decode cX9_knows 282 = .ok (.getfield 57, 3) := by decide +kernel
theorem dX9_knows_285 : decode cX9_knows 285 = .ok (.invokevirtual 316, 3) := by decide +kernel
theorem dX9_knows_288 : decode cX9_knows 288 = .ok (.ifCond .eq 20, 3) := by decide +kernel
theorem dX9_knows_291 : decode cX9_knows 291 = .ok (.aload_n 0, 1) := by decide +kernel
theorem dX9_knows_292 : decode cX9_knows 292 = .ok (.getfield 66, 3) := by decide +kernel
theorem dX9_knows_295 : decode cX9_knows 295 = .ok (.aload_n 0, 1) := by decide +kernel
theorem dX9_knows_296 : decode cX9_knows 296 = .ok (.getfield 310, 3) := by decide +kernel
theorem dX9_knows_299 : decode cX9_knows 299 = .ok (.iload_n 1, 1) := by decide +kernel
theorem dX9_knows_300 : decode cX9_knows 300 = .ok (.iastore, 1) := by decide +kernel
theorem dX9_knows_301 : decode cX9_knows 301 = .ok (.aload_n 0, 1) := by decide +kernel
theorem dX9_knows_302 : decode cX9_knows 302 = .ok (.invokevirtual 320, 3) := by decide +kernel
theorem dX9_knows_305 : decode cX9_knows 305 = .ok (.goto 59, 3) := by decide +kernel
theorem dX9_knows_308 : decode cX9_knows 308 = .ok (.aload_n 0, 1) := by decide +kernel
theorem dX9_knows_309 : decode cX9_knows 309 = .ok (.getfield 69, 3) := by decide +kernel
theorem dX9_knows_312 : decode cX9_knows 312 = .ok (.aload_n 0, 1) := by decide +kernel
theorem dX9_knows_313 : decode cX9_knows 313 = .ok (.getfield 323, 3) := by decide +kernel
theorem dX9_knows_316 : decode cX9_knows 316 = .ok (.iload_n 1, 1) := by decide +kernel
theorem dX9_knows_317 : decode cX9_knows 317 = .ok (.iastore, 1) := by decide +kernel
theorem dX9_knows_318 : decode cX9_knows 318 = .ok (.iconst 0, 1) := by decide +kernel
theorem dX9_knows_319 : decode cX9_knows 319 = .ok (.istore_n 2, 1) := by decide +kernel
theorem dX9_knows_320 : decode cX9_knows 320 = .ok (.iload_n 2, 1) := by decide +kernel
theorem dX9_knows_321 : decode cX9_knows 321 = .ok (.aload_n 0, 1) := by decide +kernel
theorem dX9_knows_322 : decode cX9_knows 322 = .ok (.getfield 268, 3) := by decide +kernel
theorem dX9_knows_325 : decode cX9_knows 325 = .ok (.if_icmp .ge 29, 3) := by decide +kernel
theorem dX9_knows_328 : decode cX9_knows 328 = .ok (.aload_n 0, 1) := by decide +kernel
theorem dX9_knows_329 : decode cX9_knows 329 = .ok (.getfield 75, 3) := by decide +kernel
theorem dX9_knows_332 : decode cX9_knows 332 = .ok (.bipush 36, 2) := by decide +kernel
theorem dX9_knows_334 : decode cX9_knows 334 = .ok (.aload_n 0, 1) := by decide +kernel
theorem dX9_knows_335 : decode cX9_knows 335 = .ok (.getfield 323, 3) := by decide +kernel
theorem dX9_knows_338 : decode cX9_knows 338 = .ok (.imul, 1) := by decide +kernel
theorem dX9_knows_339 : decode cX9_knows 339 = .ok (.iload_n 2, 1) := by decide +kernel
theorem dX9_knows_340 : decode cX9_knows 340 = .ok (.iadd, 1) := by decide +kernel
theorem dX9_knows_341 : decode cX9_knows 341 = .ok (.aload_n 0, 1) := by decide +kernel
theorem dX9_knows_342 : decode cX9_knows 342 = .ok (.getfield 63, 3) := by decide +kernel
theorem dX9_knows_345 : decode cX9_knows 345 = .ok (.iload_n 2, 1) := by decide +kernel
theorem dX9_knows_346 : decode cX9_knows 346 = .ok (.iaload, 1) := by decide +kernel
theorem dX9_knows_347 : decode cX9_knows 347 = .ok (.iastore, 1) := by decide +kernel
theorem dX9_knows_348 : decode cX9_knows 348 = .ok (.iinc 2 1, 3) := by decide +kernel
theorem dX9_knows_351 : decode cX9_knows 351 = .ok (.goto (-31), 3) := by decide +kernel
theorem dX9_knows_354 : decode cX9_knows 354 = .ok (.aload_n 0, 1) := by decide +kernel
theorem dX9_knows_355 : decode cX9_knows 355 = .ok (.dup, 1) := by decide +kernel
theorem dX9_knows_356 : decode cX9_knows 356 = .ok (.getfield 323, 3) := by decide +kernel
theorem dX9_knows_359 : decode cX9_knows 359 = .ok (.iconst 1, 1) := by decide +kernel
theorem dX9_knows_360 : decode cX9_knows 360 = .ok (.iadd, 1) := by decide +kernel
theorem dX9_knows_361 : decode cX9_knows 361 = .ok (.putfield 323, 3) := by decide +kernel
theorem dX9_knows_364 : decode cX9_knows 364 = .ok (.iinc 1 1, 3) := by decide +kernel
theorem dX9_knows_367 : decode cX9_knows 367 = .ok (.goto (-168), 3) := by decide +kernel
theorem dX9_knows_370 : decode cX9_knows 370 = .ok (.aload_n 0, 1) := by decide +kernel
theorem dX9_knows_371 : decode cX9_knows 371 = .ok (.aload_n 0, 1) := by decide +kernel
theorem dX9_knows_372 : decode cX9_knows 372 = .ok (.getfield 310, 3) := by decide +kernel
theorem dX9_knows_375 : decode cX9_knows 375 = .ok (.putfield 326, 3) := by decide +kernel
theorem dX9_knows_378 : decode cX9_knows 378 = .ok (.iconst 0, 1) := by decide +kernel
theorem dX9_knows_379 : decode cX9_knows 379 = .ok (.istore_n 1, 1) := by decide +kernel
theorem dX9_knows_380 : decode cX9_knows 380 = .ok (.iload_n 1, 1) := by decide +kernel
theorem dX9_knows_381 : decode cX9_knows 381 = .ok (.sipush 1296, 3) := by decide +kernel
theorem dX9_knows_384 : decode cX9_knows 384 = .ok (.if_icmp .ge 33, 3) := by decide +kernel
theorem dX9_knows_387 : decode cX9_knows 387 = .ok (.aload_n 0, 1) := by decide +kernel
theorem dX9_knows_388 : decode cX9_knows 388 = .ok (.getfield 81, 3) := by decide +kernel
theorem dX9_knows_391 : decode cX9_knows 391 = .ok (.iload_n 1, 1) := by decide +kernel
theorem dX9_knows_392 : decode cX9_knows 392 = .ok (.aload_n 0, 1) := by decide +kernel
theorem dX9_knows_393 : decode cX9_knows 393 = .ok (.getfield 51, 3) := by decide +kernel
theorem dX9_knows_396 : decode cX9_knows 396 = .ok (.iload_n 1, 1) := by decide +kernel
theorem dX9_knows_397 : decode cX9_knows 397 = .ok (.iaload, 1) := by decide +kernel
theorem dX9_knows_398 : decode cX9_knows 398 = .ok (.iastore, 1) := by decide +kernel
theorem dX9_knows_399 : decode cX9_knows 399 = .ok (.aload_n 0, 1) := by decide +kernel
theorem dX9_knows_400 : decode cX9_knows 400 = .ok (.getfield 87, 3) := by decide +kernel
theorem dX9_knows_403 : decode cX9_knows 403 = .ok (.iload_n 1, 1) := by decide +kernel
theorem dX9_knows_404 : decode cX9_knows 404 = .ok (.aload_n 0, 1) := by decide +kernel
theorem dX9_knows_405 : decode cX9_knows 405 = .ok (.getfield 57, 3) := by decide +kernel
theorem dX9_knows_408 : decode cX9_knows 408 = .ok (.iload_n 1, 1) := by decide +kernel
theorem dX9_knows_409 : decode cX9_knows 409 = .ok (.iaload, 1) := by decide +kernel
theorem dX9_knows_410 : decode cX9_knows 410 = .ok (.iastore, 1) := by decide +kernel
theorem dX9_knows_411 : decode cX9_knows 411 = .ok (.iinc 1 1, 3) := by decide +kernel
theorem dX9_knows_414 : decode cX9_knows 414 = .ok (.goto (-34), 3) := by decide +kernel
theorem dX9_knows_417 : decode cX9_knows 417 = .ok (.iconst 0, 1) := by decide +kernel
theorem dX9_knows_418 : decode cX9_knows 418 = .ok (.istore_n 1, 1) := by decide +kernel
theorem dX9_knows_419 : decode cX9_knows 419 = .ok (.iload_n 1, 1) := by decide +kernel
theorem dX9_knows_420 : decode cX9_knows 420 = .ok (.bipush 36, 2) := by decide +kernel
theorem dX9_knows_422 : decode cX9_knows 422 = .ok (.if_icmp .ge 21, 3) := by decide +kernel
theorem dX9_knows_425 : decode cX9_knows 425 = .ok (.aload_n 0, 1) := by decide +kernel
theorem dX9_knows_426 : decode cX9_knows 426 = .ok (.getfield 84, 3) := by decide +kernel
theorem dX9_knows_429 : decode cX9_knows 429 = .ok (.iload_n 1, 1) := by decide +kernel
theorem dX9_knows_430 : decode cX9_knows 430 = .ok (.aload_n 0, 1) := by decide +kernel
theorem dX9_knows_431 : decode cX9_knows 431 = .ok (.getfield 54, 3) := by decide +kernel
theorem dX9_knows_434 : decode cX9_knows 434 = .ok (.iload_n 1, 1) := by decide +kernel
theorem dX9_knows_435 : decode cX9_knows 435 = .ok (.iaload, 1) := by decide +kernel
theorem dX9_knows_436 : decode cX9_knows 436 = .ok (.iastore, 1) := by decide +kernel
theorem dX9_knows_437 : decode cX9_knows 437 = .ok (.iinc 1 1, 3) := by decide +kernel
theorem dX9_knows_440 : decode cX9_knows 440 = .ok (.goto (-21), 3) := by decide +kernel
theorem dX9_knows_443 : decode cX9_knows 443 = .ok (.return_, 1) := by decide +kernel
theorem dX9_rank_0 : decode cX9_rank 0 = .ok (.aload_n 0, 1) := by decide +kernel
theorem dX9_rank_1 : decode cX9_rank 1 = .ok (.iconst 0, 1) := by decide +kernel
theorem dX9_rank_2 : decode cX9_rank 2 = .ok (.putfield 138, 3) := by decide +kernel
theorem dX9_rank_5 : decode cX9_rank 5 = .ok (.aload_n 0, 1) := by decide +kernel
theorem dX9_rank_6 : decode cX9_rank 6 = .ok (.invokevirtual 329, 3) := by decide +kernel
theorem dX9_rank_9 : decode cX9_rank 9 = .ok (.aload_n 0, 1) := by decide +kernel
theorem dX9_rank_10 : decode cX9_rank 10 = .ok (.getfield 326, 3) := by decide +kernel
theorem dX9_rank_13 : decode cX9_rank 13 = .ok (.ireturn, 1) := by decide +kernel
theorem dX9_bound_0 : decode cX9_bound 0 = .ok (.aload_n 0, 1) := by decide +kernel
theorem dX9_bound_1 : decode cX9_bound 1 = .ok (.iconst 0, 1) := by decide +kernel
theorem dX9_bound_2 : decode cX9_bound 2 = .ok (.putfield 138, 3) := by decide +kernel
theorem dX9_bound_5 : decode cX9_bound 5 = .ok (.aload_n 0, 1) := by decide +kernel
theorem dX9_bound_6 : decode cX9_bound 6 = .ok (.invokevirtual 329, 3) := by decide +kernel
theorem dX9_bound_9 : decode cX9_bound 9 = .ok (.iload_n 1, 1) := by decide +kernel
theorem dX9_bound_10 : decode cX9_bound 10 = .ok (.ifCond .ne 10, 3) := by decide +kernel
theorem dX9_bound_13 : decode cX9_bound 13 = .ok (.aload_n 0, 1) := by decide +kernel
theorem dX9_bound_14 : decode cX9_bound 14 = .ok (.getfield 323, 3) := by decide +kernel
theorem dX9_bound_17 : decode cX9_bound 17 = .ok (.goto 7, 3) := by decide +kernel
theorem dX9_bound_20 : decode cX9_bound 20 = .ok (.aload_n 0, 1) := by decide +kernel
theorem dX9_bound_21 : decode cX9_bound 21 = .ok (.getfield 313, 3) := by decide +kernel
theorem dX9_bound_24 : decode cX9_bound 24 = .ok (.istore_n 3, 1) := by decide +kernel
theorem dX9_bound_25 : decode cX9_bound 25 = .ok (.aload_n 0, 1) := by decide +kernel
theorem dX9_bound_26 : decode cX9_bound 26 = .ok (.iload_n 1, 1) := by decide +kernel
theorem dX9_bound_27 : decode cX9_bound 27 = .ok (.ifCond .eq 8, 3) := by decide +kernel
theorem dX9_bound_30 : decode cX9_bound 30 = .ok (.iload_n 1, 1) := by decide +kernel
theorem dX9_bound_31 : decode cX9_bound 31 = .ok (.iconst 1, 1) := by decide +kernel
theorem dX9_bound_32 : decode cX9_bound 32 = .ok (.if_icmp .ne 17, 3) := by decide +kernel
theorem dX9_bound_35 : decode cX9_bound 35 = .ok (.iload_n 2, 1) := by decide +kernel
theorem dX9_bound_36 : decode cX9_bound 36 = .ok (.iconst (-1), 1) := by decide +kernel
theorem dX9_bound_37 : decode cX9_bound 37 = .ok (.if_icmp .lt 12, 3) := by decide +kernel
theorem dX9_bound_40 : decode cX9_bound 40 = .ok (.iload_n 2, 1) := by decide +kernel
theorem dX9_bound_41 : decode cX9_bound 41 = .ok (.iload_n 3, 1) := by decide +kernel
theorem dX9_bound_42 : decode cX9_bound 42 = .ok (.if_icmp .ge 7, 3) := by decide +kernel
theorem dX9_bound_45 : decode cX9_bound 45 = .ok (.iconst 1, 1) := by decide +kernel
theorem dX9_bound_46 : decode cX9_bound 46 = .ok (.goto 4, 3) := by decide +kernel
theorem dX9_bound_49 : decode cX9_bound 49 = .ok (.iconst 0, 1) := by decide +kernel
theorem dX9_bound_50 : decode cX9_bound 50 = .ok (.iconst 1, 1) := by decide +kernel
theorem dX9_bound_51 : decode cX9_bound 51 = .ok (.invokevirtual 255, 3) := by decide +kernel
theorem dX9_bound_54 : decode cX9_bound 54 = .ok (.ifCond .ne 5, 3) := by decide +kernel
theorem dX9_bound_57 : decode cX9_bound 57 = .ok (.iconst 0, 1) := by decide +kernel
theorem dX9_bound_58 : decode cX9_bound 58 = .ok (.ireturn, 1) := by decide +kernel
theorem dX9_bound_59 : decode cX9_bound 59 = .ok (.iload_n 2, 1) := by decide +kernel
theorem dX9_bound_60 : decode cX9_bound 60 = .ok (.iconst (-1), 1) := by decide +kernel
theorem dX9_bound_61 : decode cX9_bound 61 = .ok (.if_icmp .ne 7, 3) := by decide +kernel
theorem dX9_bound_64 : decode cX9_bound 64 = .ok (.iload_n 3, 1) := by decide +kernel
theorem dX9_bound_65 : decode cX9_bound 65 = .ok (.goto 22, 3) := by decide +kernel
theorem dX9_bound_68 : decode cX9_bound 68 = .ok (.iload_n 1, 1) := by decide +kernel
theorem dX9_bound_69 : decode cX9_bound 69 = .ok (.ifCond .ne 12, 3) := by decide +kernel
theorem dX9_bound_72 : decode cX9_bound 72 = .ok (.aload_n 0, 1) := by decide +kernel
theorem dX9_bound_73 : decode cX9_bound 73 = .ok (.getfield 69, 3) := by decide +kernel
theorem dX9_bound_76 : decode cX9_bound 76 = .ok (.iload_n 2, 1) := by decide +kernel
theorem dX9_bound_77 : decode cX9_bound 77 = .ok (.iaload, 1) := by decide +kernel
theorem dX9_bound_78 : decode cX9_bound 78 = .ok (.goto 9, 3) := by decide +kernel
theorem dX9_bound_81 : decode cX9_bound 81 = .ok (.aload_n 0, 1) := by decide +kernel
theorem dX9_bound_82 : decode cX9_bound 82 = .ok (.getfield 72, 3) := by decide +kernel
theorem dX9_bound_85 : decode cX9_bound 85 = .ok (.iload_n 2, 1) := by decide +kernel
theorem dX9_bound_86 : decode cX9_bound 86 = .ok (.iaload, 1) := by decide +kernel
theorem dX9_bound_87 : decode cX9_bound 87 = .ok (.ireturn, 1) := by decide +kernel
theorem dX9_quiet_0 : decode cX9_quiet 0 = .ok (.aload_n 0, 1) := by decide +kernel
theorem dX9_quiet_1 : decode cX9_quiet 1 = .ok (.iconst 0, 1) := by decide +kernel
theorem dX9_quiet_2 : decode cX9_quiet 2 = .ok (.putfield 138, 3) := by decide +kernel
theorem dX9_quiet_5 : decode cX9_quiet 5 = .ok (.aload_n 0, 1) := by decide +kernel
theorem dX9_quiet_6 : decode cX9_quiet 6 = .ok (.invokevirtual 329, 3) := by decide +kernel
theorem dX9_quiet_9 : decode cX9_quiet 9 = .ok (.aload_n 0, 1) := by decide +kernel
theorem dX9_quiet_10 : decode cX9_quiet 10 = .ok (.iload_n 1, 1) := by decide +kernel
theorem dX9_quiet_11 : decode cX9_quiet 11 = .ok (.ifCond .lt 23, 3) := by decide +kernel
theorem dX9_quiet_14 : decode cX9_quiet 14 = .ok (.iload_n 1, 1) := by decide +kernel
theorem dX9_quiet_15 : decode cX9_quiet 15 = .ok (.aload_n 0, 1) := by decide +kernel
theorem dX9_quiet_16 : decode cX9_quiet 16 = .ok (.getfield 323, 3) := by decide +kernel
theorem dX9_quiet_19 : decode cX9_quiet 19 = .ok (.if_icmp .ge 15, 3) := by decide +kernel
theorem dX9_quiet_22 : decode cX9_quiet 22 = .ok (.aload_n 0, 1) := by decide +kernel
theorem dX9_quiet_23 : decode cX9_quiet 23 = .ok (.iload_n 2, 1) := by decide +kernel
theorem dX9_quiet_24 : decode cX9_quiet 24 = .ok (.invokevirtual 290, 3) := by decide +kernel
theorem dX9_quiet_27 : decode cX9_quiet 27 = .ok (.ifCond .eq 7, 3) := by decide +kernel
theorem dX9_quiet_30 : decode cX9_quiet 30 = .ok (.iconst 1, 1) := by decide +kernel
theorem dX9_quiet_31 : decode cX9_quiet 31 = .ok (.goto 4, 3) := by decide +kernel
theorem dX9_quiet_34 : decode cX9_quiet 34 = .ok (.iconst 0, 1) := by decide +kernel
theorem dX9_quiet_35 : decode cX9_quiet 35 = .ok (.iconst 1, 1) := by decide +kernel
theorem dX9_quiet_36 : decode cX9_quiet 36 = .ok (.invokevirtual 255, 3) := by decide +kernel
theorem dX9_quiet_39 : decode cX9_quiet 39 = .ok (.ifCond .ne 5, 3) := by decide +kernel
theorem dX9_quiet_42 : decode cX9_quiet 42 = .ok (.iconst 0, 1) := by decide +kernel
theorem dX9_quiet_43 : decode cX9_quiet 43 = .ok (.ireturn, 1) := by decide +kernel
theorem dX9_quiet_44 : decode cX9_quiet 44 = .ok (.aload_n 0, 1) := by decide +kernel
theorem dX9_quiet_45 : decode cX9_quiet 45 = .ok (.getfield 75, 3) := by decide +kernel
theorem dX9_quiet_48 : decode cX9_quiet 48 = .ok (.bipush 36, 2) := by decide +kernel
theorem dX9_quiet_50 : decode cX9_quiet 50 = .ok (.iload_n 1, 1) := by decide +kernel
theorem dX9_quiet_51 : decode cX9_quiet 51 = .ok (.imul, 1) := by decide +kernel
theorem dX9_quiet_52 : decode cX9_quiet 52 = .ok (.iload_n 2, 1) := by decide +kernel
theorem dX9_quiet_53 : decode cX9_quiet 53 = .ok (.iadd, 1) := by decide +kernel
theorem dX9_quiet_54 : decode cX9_quiet 54 = .ok (.iaload, 1) := by decide +kernel
theorem dX9_quiet_55 : decode cX9_quiet 55 = .ok (.ireturn, 1) := by decide +kernel
theorem dX9_sum_0 : decode cX9_sum 0 = .ok (.aload_n 0, 1) := by decide +kernel
theorem dX9_sum_1 : decode cX9_sum 1 = .ok (.iconst 0, 1) := by decide +kernel
theorem dX9_sum_2 : decode cX9_sum 2 = .ok (.putfield 138, 3) := by decide +kernel
theorem dX9_sum_5 : decode cX9_sum 5 = .ok (.aload_n 0, 1) := by decide +kernel
theorem dX9_sum_6 : decode cX9_sum 6 = .ok (.invokevirtual 329, 3) := by decide +kernel
theorem dX9_sum_9 : decode cX9_sum 9 = .ok (.aload_n 0, 1) := by decide +kernel
theorem dX9_sum_10 : decode cX9_sum 10 = .ok (.iload_n 1, 1) := by decide +kernel
theorem dX9_sum_11 : decode cX9_sum 11 = .ok (.ifCond .lt 23, 3) := by decide +kernel
theorem dX9_sum_14 : decode cX9_sum 14 = .ok (.iload_n 1, 1) := by decide +kernel
theorem dX9_sum_15 : decode cX9_sum 15 = .ok (.aload_n 0, 1) := by decide +kernel
theorem dX9_sum_16 : decode cX9_sum 16 = .ok (.getfield 313, 3) := by decide +kernel
theorem dX9_sum_19 : decode cX9_sum 19 = .ok (.if_icmp .ge 15, 3) := by decide +kernel
theorem dX9_sum_22 : decode cX9_sum 22 = .ok (.aload_n 0, 1) := by decide +kernel
theorem dX9_sum_23 : decode cX9_sum 23 = .ok (.iload_n 2, 1) := by decide +kernel
theorem dX9_sum_24 : decode cX9_sum 24 = .ok (.invokevirtual 290, 3) := by decide +kernel
theorem dX9_sum_27 : decode cX9_sum 27 = .ok (.ifCond .eq 7, 3) := by decide +kernel
theorem dX9_sum_30 : decode cX9_sum 30 = .ok (.iconst 1, 1) := by decide +kernel
theorem dX9_sum_31 : decode cX9_sum 31 = .ok (.goto 4, 3) := by decide +kernel
theorem dX9_sum_34 : decode cX9_sum 34 = .ok (.iconst 0, 1) := by decide +kernel
theorem dX9_sum_35 : decode cX9_sum 35 = .ok (.iconst 1, 1) := by decide +kernel
theorem dX9_sum_36 : decode cX9_sum 36 = .ok (.invokevirtual 255, 3) := by decide +kernel
theorem dX9_sum_39 : decode cX9_sum 39 = .ok (.ifCond .ne 5, 3) := by decide +kernel
theorem dX9_sum_42 : decode cX9_sum 42 = .ok (.iconst 0, 1) := by decide +kernel
theorem dX9_sum_43 : decode cX9_sum 43 = .ok (.ireturn, 1) := by decide +kernel
theorem dX9_sum_44 : decode cX9_sum 44 = .ok (.aload_n 0, 1) := by decide +kernel
theorem dX9_sum_45 : decode cX9_sum 45 = .ok (.getfield 78, 3) := by decide +kernel
theorem dX9_sum_48 : decode cX9_sum 48 = .ok (.bipush 36, 2) := by decide +kernel
theorem dX9_sum_50 : decode cX9_sum 50 = .ok (.iload_n 1, 1) := by decide +kernel
theorem dX9_sum_51 : decode cX9_sum 51 = .ok (.imul, 1) := by decide +kernel
theorem dX9_sum_52 : decode cX9_sum 52 = .ok (.iload_n 2, 1) := by decide +kernel
theorem dX9_sum_53 : decode cX9_sum 53 = .ok (.iadd, 1) := by decide +kernel
theorem dX9_sum_54 : decode cX9_sum 54 = .ok (.iaload, 1) := by decide +kernel
theorem dX9_sum_55 : decode cX9_sum 55 = .ok (.ireturn, 1) := by decide +kernel
theorem dX9_why_0 : decode cX9_why 0 = .ok (.aload_n 0, 1) := by decide +kernel
theorem dX9_why_1 : decode cX9_why 1 = .ok (.iconst 0, 1) := by decide +kernel
theorem dX9_why_2 : decode cX9_why 2 = .ok (.putfield 138, 3) := by decide +kernel
theorem dX9_why_5 : decode cX9_why 5 = .ok (.aload_n 0, 1) := by decide +kernel
theorem dX9_why_6 : decode cX9_why 6 = .ok (.invokevirtual 329, 3) := by decide +kernel
theorem dX9_why_9 : decode cX9_why 9 = .ok (.iconst 0, 1) := by decide +kernel
theorem dX9_why_10 : decode cX9_why 10 = .ok (.istore_n 1, 1) := by decide +kernel
theorem dX9_why_11 : decode cX9_why 11 = .ok (.iload_n 1, 1) := by decide +kernel
theorem dX9_why_12 : decode cX9_why 12 = .ok (.aload_n 0, 1) := by decide +kernel
theorem dX9_why_13 : decode cX9_why 13 = .ok (.getfield 313, 3) := by decide +kernel
theorem dX9_why_16 : decode cX9_why 16 = .ok (.if_icmp .ge 76, 3) := by decide +kernel
theorem dX9_why_19 : decode cX9_why 19 = .ok (.iconst 0, 1) := by decide +kernel
theorem dX9_why_20 : decode cX9_why 20 = .ok (.istore_n 2, 1) := by decide +kernel
theorem dX9_why_21 : decode cX9_why 21 = .ok (.iconst 0, 1) := by decide +kernel
theorem dX9_why_22 : decode cX9_why 22 = .ok (.istore_n 3, 1) := by decide +kernel
theorem dX9_why_23 : decode cX9_why 23 = .ok (.iload_n 3, 1) := by decide +kernel
theorem dX9_why_24 : decode cX9_why 24 = .ok (.aload_n 0, 1) := by decide +kernel
theorem dX9_why_25 : decode cX9_why 25 = .ok (.getfield 268, 3) := by decide +kernel
theorem dX9_why_28 : decode cX9_why 28 = .ok (.if_icmp .ge 47, 3) := by decide +kernel
theorem dX9_why_31 : decode cX9_why 31 = .ok (.iload_n 2, 1) := by decide +kernel
theorem dX9_why_32 : decode cX9_why 32 = .ok (.aload_n 0, 1) := by decide +kernel
theorem dX9_why_33 : decode cX9_why 33 = .ok (.getfield 78, 3) := by decide +kernel
theorem dX9_why_36 : decode cX9_why 36 = .ok (.bipush 36, 2) := by decide +kernel
theorem dX9_why_38 : decode cX9_why 38 = .ok (.iload_n 1, 1) := by decide +kernel
theorem dX9_why_39 : decode cX9_why 39 = .ok (.imul, 1) := by decide +kernel
theorem dX9_why_40 : decode cX9_why 40 = .ok (.iload_n 3, 1) := by decide +kernel
theorem dX9_why_41 : decode cX9_why 41 = .ok (.iadd, 1) := by decide +kernel
theorem dX9_why_42 : decode cX9_why 42 = .ok (.iaload, 1) := by decide +kernel
theorem dX9_why_43 : decode cX9_why 43 = .ok (.aload_n 0, 1) := by decide +kernel
theorem dX9_why_44 : decode cX9_why 44 = .ok (.getfield 27, 3) := by decide +kernel
theorem dX9_why_47 : decode cX9_why 47 = .ok (.iload_n 3, 1) := by decide +kernel
theorem dX9_why_48 : decode cX9_why 48 = .ok (.iaload, 1) := by decide +kernel
theorem dX9_why_49 : decode cX9_why 49 = .ok (.aload_n 0, 1) := by decide +kernel
theorem dX9_why_50 : decode cX9_why 50 = .ok (.getfield 24, 3) := by decide +kernel
theorem dX9_why_53 : decode cX9_why 53 = .ok (.iload_n 3, 1) := by decide +kernel
theorem dX9_why_54 : decode cX9_why 54 = .ok (.iaload, 1) := by decide +kernel
theorem dX9_why_55 : decode cX9_why 55 = .ok (.isub, 1) := by decide +kernel
theorem dX9_why_56 : decode cX9_why 56 = .ok (.aload_n 0, 1) := by decide +kernel
theorem dX9_why_57 : decode cX9_why 57 = .ok (.getfield 7, 3) := by decide +kernel
theorem dX9_why_60 : decode cX9_why 60 = .ok (.iadd, 1) := by decide +kernel
theorem dX9_why_61 : decode cX9_why 61 = .ok (.aload_n 0, 1) := by decide +kernel
theorem dX9_why_62 : decode cX9_why 62 = .ok (.getfield 7, 3) := by decide +kernel
theorem dX9_why_65 : decode cX9_why 65 = .ok (.irem, 1) := by decide +kernel
theorem dX9_why_66 : decode cX9_why 66 = .ok (.imul, 1) := by decide +kernel
theorem dX9_why_67 : decode cX9_why 67 = .ok (.iadd, 1) := by decide +kernel
theorem dX9_why_68 : decode cX9_why 68 = .ok (.istore_n 2, 1) := by decide +kernel
theorem dX9_why_69 : decode cX9_why 69 = .ok (.iinc 3 1, 3) := by decide +kernel
theorem dX9_why_72 : decode cX9_why 72 = .ok (.goto (-49), 3) := by decide +kernel
theorem dX9_why_75 : decode cX9_why 75 = .ok (.iload_n 2, 1) := by decide +kernel
theorem dX9_why_76 : decode cX9_why 76 = .ok (.aload_n 0, 1) := by decide +kernel
theorem dX9_why_77 : decode cX9_why 77 = .ok (.getfield 7, 3) := by decide +kernel
theorem dX9_why_80 : decode cX9_why 80 = .ok (.irem, 1) := by decide +kernel
theorem dX9_why_81 : decode cX9_why 81 = .ok (.ifCond .eq 5, 3) := by decide +kernel
theorem dX9_why_84 : decode cX9_why 84 = .ok (.iload_n 1, 1) := by decide +kernel
theorem dX9_why_85 : decode cX9_why 85 = .ok (.ireturn, 1) := by decide +kernel
theorem dX9_why_86 : decode cX9_why 86 = .ok (.iinc 1 1, 3) := by decide +kernel
theorem dX9_why_89 : decode cX9_why 89 = .ok (.goto (-78), 3) := by decide +kernel
theorem dX9_why_92 : decode cX9_why 92 = .ok (.iconst (-1), 1) := by decide +kernel
theorem dX9_why_93 : decode cX9_why 93 = .ok (.ireturn, 1) := by decide +kernel
theorem dX9_leads_0 : decode cX9_leads 0 = .ok (.iconst 0, 1) := by decide +kernel
theorem dX9_leads_1 : decode cX9_leads 1 = .ok (.istore_n 1, 1) := by decide +kernel
theorem dX9_leads_2 : decode cX9_leads 2 = .ok (.iload_n 1, 1) := by decide +kernel
theorem dX9_leads_3 : decode cX9_leads 3 = .ok (.aload_n 0, 1) := by decide +kernel
theorem dX9_leads_4 : decode cX9_leads 4 = .ok (.getfield 268, 3) := by decide +kernel
theorem dX9_leads_7 : decode cX9_leads 7 = .ok (.if_icmp .ge 45, 3) := by decide +kernel
theorem dX9_leads_10 : decode cX9_leads 10 = .ok (.aload_n 0, 1) := by decide +kernel
theorem dX9_leads_11 : decode cX9_leads 11 = .ok (.getfield 60, 3) := by decide +kernel
theorem dX9_leads_14 : decode cX9_leads 14 = .ok (.iload_n 1, 1) := by decide +kernel
theorem dX9_leads_15 : decode cX9_leads 15 = .ok (.aload_n 0, 1) := by decide +kernel
theorem dX9_leads_16 : decode cX9_leads 16 = .ok (.getfield 27, 3) := by decide +kernel
theorem dX9_leads_19 : decode cX9_leads 19 = .ok (.iload_n 1, 1) := by decide +kernel
theorem dX9_leads_20 : decode cX9_leads 20 = .ok (.iaload, 1) := by decide +kernel
theorem dX9_leads_21 : decode cX9_leads 21 = .ok (.aload_n 0, 1) := by decide +kernel
theorem dX9_leads_22 : decode cX9_leads 22 = .ok (.getfield 24, 3) := by decide +kernel
theorem dX9_leads_25 : decode cX9_leads 25 = .ok (.iload_n 1, 1) := by decide +kernel
theorem dX9_leads_26 : decode cX9_leads 26 = .ok (.iaload, 1) := by decide +kernel
theorem dX9_leads_27 : decode cX9_leads 27 = .ok (.isub, 1) := by decide +kernel
theorem dX9_leads_28 : decode cX9_leads 28 = .ok (.aload_n 0, 1) := by decide +kernel
theorem dX9_leads_29 : decode cX9_leads 29 = .ok (.getfield 7, 3) := by decide +kernel
theorem dX9_leads_32 : decode cX9_leads 32 = .ok (.iadd, 1) := by decide +kernel
theorem dX9_leads_33 : decode cX9_leads 33 = .ok (.aload_n 0, 1) := by decide +kernel
theorem dX9_leads_34 : decode cX9_leads 34 = .ok (.getfield 7, 3) := by decide +kernel
theorem dX9_leads_37 : decode cX9_leads 37 = .ok (.irem, 1) := by decide +kernel
theorem dX9_leads_38 : decode cX9_leads 38 = .ok (.iastore, 1) := by decide +kernel
theorem dX9_leads_39 : decode cX9_leads 39 = .ok (.aload_n 0, 1) := by decide +kernel
theorem dX9_leads_40 : decode cX9_leads 40 = .ok (.getfield 63, 3) := by decide +kernel
theorem dX9_leads_43 : decode cX9_leads 43 = .ok (.iload_n 1, 1) := by decide +kernel
theorem dX9_leads_44 : decode cX9_leads 44 = .ok (.iconst 0, 1) := by decide +kernel
theorem dX9_leads_45 : decode cX9_leads 45 = .ok (.iastore, 1) := by decide +kernel
theorem dX9_leads_46 : decode cX9_leads 46 = .ok (.iinc 1 1, 3) := by decide +kernel
theorem dX9_leads_49 : decode cX9_leads 49 = .ok (.goto (-47), 3) := by decide +kernel
theorem dX9_leads_52 : decode cX9_leads 52 = .ok (.aload_n 0, 1) := by decide +kernel
theorem dX9_leads_53 : decode cX9_leads 53 = .ok (.aload_n 0, 1) := by decide +kernel
theorem dX9_leads_54 : decode cX9_leads 54 = .ok (.getfield 326, 3) := by decide +kernel
theorem dX9_leads_57 : decode cX9_leads 57 = .ok (.aload_n 0, 1) := by decide +kernel
theorem dX9_leads_58 : decode cX9_leads 58 = .ok (.getfield 81, 3) := by decide +kernel
theorem dX9_leads_61 : decode cX9_leads 61 = .ok (.aload_n 0, 1) := by decide +kernel
theorem dX9_leads_62 : decode cX9_leads 62 = .ok (.getfield 84, 3) := by decide +kernel
theorem dX9_leads_65 : decode cX9_leads 65 = .ok (.aload_n 0, 1) := by decide +kernel
theorem dX9_leads_66 : decode cX9_leads 66 = .ok (.getfield 87, 3) := by decide +kernel
theorem dX9_leads_69 : decode cX9_leads 69 = .ok (.invokevirtual 316, 3) := by decide +kernel
theorem dX9_leads_72 : decode cX9_leads 72 = .ok (.ifCond .eq 5, 3) := by decide +kernel
theorem dX9_leads_75 : decode cX9_leads 75 = .ok (.iconst 0, 1) := by decide +kernel
theorem dX9_leads_76 : decode cX9_leads 76 = .ok (.ireturn, 1) := by decide +kernel
theorem dX9_leads_77 : decode cX9_leads 77 = .ok (.iconst 0, 1) := by decide +kernel
theorem dX9_leads_78 : decode cX9_leads 78 = .ok (.istore_n 1, 1) := by decide +kernel
theorem dX9_leads_79 : decode cX9_leads 79 = .ok (.iload_n 1, 1) := by decide +kernel
theorem dX9_leads_80 : decode cX9_leads 80 = .ok (.aload_n 0, 1) := by decide +kernel
theorem dX9_leads_81 : decode cX9_leads 81 = .ok (.getfield 268, 3) := by decide +kernel
theorem dX9_leads_84 : decode cX9_leads 84 = .ok (.if_icmp .ge 31, 3) := by decide +kernel
theorem dX9_leads_87 : decode cX9_leads 87 = .ok (.aload_n 0, 1) := by decide +kernel
theorem dX9_leads_88 : decode cX9_leads 88 = .ok (.getfield 93, 3) := by decide +kernel
theorem dX9_leads_91 : decode cX9_leads 91 = .ok (.iload_n 1, 1) := by decide +kernel
theorem dX9_leads_92 : decode cX9_leads 92 = .ok (.aload_n 0, 1) := by decide +kernel
theorem dX9_leads_93 : decode cX9_leads 93 = .ok (.getfield 7, 3) := by decide +kernel
theorem dX9_leads_96 : decode cX9_leads 96 = .ok (.aload_n 0, 1) := by decide +kernel
theorem dX9_leads_97 : decode cX9_leads 97 = .ok (.getfield 63, 3) := by decide +kernel
theorem dX9_leads_100 : decode cX9_leads 100 = .ok (.iload_n 1, 1) := by decide +kernel
theorem dX9_leads_101 : decode cX9_leads 101 = .ok (.iaload, 1) := by decide +kernel
theorem dX9_leads_102 : decode cX9_leads 102 = .ok (.isub, 1) := by decide +kernel
theorem dX9_leads_103 : decode cX9_leads 103 = .ok (.aload_n 0, 1) := by decide +kernel
theorem dX9_leads_104 : decode cX9_leads 104 = .ok (.getfield 7, 3) := by decide +kernel
theorem dX9_leads_107 : decode cX9_leads 107 = .ok (.irem, 1) := by decide +kernel
theorem dX9_leads_108 : decode cX9_leads 108 = .ok (.iastore, 1) := by decide +kernel
theorem dX9_leads_109 : decode cX9_leads 109 = .ok (.iinc 1 1, 3) := by decide +kernel
theorem dX9_leads_112 : decode cX9_leads 112 = .ok (.goto (-33), 3) := by decide +kernel
theorem dX9_leads_115 : decode cX9_leads 115 = .ok (.iconst 1, 1) := by decide +kernel
theorem dX9_leads_116 : decode cX9_leads 116 = .ok (.ireturn, 1) := by decide +kernel
theorem dX9_power_0 : decode cX9_power 0 = .ok (.iconst 1, 1) := by decide +kernel
theorem dX9_power_1 : decode cX9_power 1 = .ok (.istore_n 3, 1) := by decide +kernel
theorem dX9_power_2 : decode cX9_power 2 = .ok (.iconst 0, 1) := by decide +kernel
theorem dX9_power_3 : decode cX9_power 3 = .ok (.istore 4, 2) := by decide +kernel
theorem dX9_power_5 : decode cX9_power 5 = .ok (.iload 4, 2) := by decide +kernel
theorem dX9_power_7 : decode cX9_power 7 = .ok (.iload_n 1, 1) := by decide +kernel
theorem dX9_power_8 : decode cX9_power 8 = .ok (.if_icmp .ge 21, 3) := by decide +kernel
theorem dX9_power_11 : decode cX9_power 11 = .ok (.iload_n 3, 1) := by decide +kernel
theorem dX9_power_12 : decode cX9_power 12 = .ok (.iload_n 2, 1) := by decide +kernel
theorem dX9_power_13 : decode cX9_power 13 = .ok (.if_icmp .gt 16, 3) := by decide +kernel
theorem dX9_power_16 : decode cX9_power 16 = .ok (.iload_n 3, 1) := by decide +kernel
theorem dX9_power_17 : decode cX9_power 17 = .ok (.aload_n 0, 1) := by decide +kernel
theorem dX9_power_18 : decode cX9_power 18 = .ok (.getfield 7, 3) := by decide +kernel
theorem dX9_power_21 : decode cX9_power 21 = .ok (.imul, 1) := by decide +kernel
theorem dX9_power_22 : decode cX9_power 22 = .ok (.istore_n 3, 1) := by decide +kernel
theorem dX9_power_23 : decode cX9_power 23 = .ok (.iinc 4 1, 3) := by decide +kernel
theorem dX9_power_26 : decode cX9_power 26 = .ok (.goto (-21), 3) := by decide +kernel
theorem dX9_power_29 : decode cX9_power 29 = .ok (.iload_n 3, 1) := by decide +kernel
theorem dX9_power_30 : decode cX9_power 30 = .ok (.iload_n 2, 1) := by decide +kernel
theorem dX9_power_31 : decode cX9_power 31 = .ok (.if_icmp .le 9, 3) := by decide +kernel
theorem dX9_power_34 : decode cX9_power 34 = .ok (.iload_n 2, 1) := by decide +kernel
theorem dX9_power_35 : decode cX9_power 35 = .ok (.iconst 1, 1) := by decide +kernel
theorem dX9_power_36 : decode cX9_power 36 = .ok (.iadd, 1) := by decide +kernel
theorem dX9_power_37 : decode cX9_power 37 = .ok (.goto 4, 3) := by decide +kernel
theorem dX9_power_40 : decode cX9_power 40 = .ok (.iload_n 3, 1) := by decide +kernel
theorem dX9_power_41 : decode cX9_power 41 = .ok (.ireturn, 1) := by decide +kernel
theorem dX9_cost_0 : decode cX9_cost 0 = .ok (.iconst 0, 1) := by decide +kernel
theorem dX9_cost_1 : decode cX9_cost 1 = .ok (.istore_n 2, 1) := by decide +kernel
theorem dX9_cost_2 : decode cX9_cost 2 = .ok (.iconst 0, 1) := by decide +kernel
theorem dX9_cost_3 : decode cX9_cost 3 = .ok (.istore_n 3, 1) := by decide +kernel
theorem dX9_cost_4 : decode cX9_cost 4 = .ok (.iload_n 3, 1) := by decide +kernel
theorem dX9_cost_5 : decode cX9_cost 5 = .ok (.aload_n 0, 1) := by decide +kernel
theorem dX9_cost_6 : decode cX9_cost 6 = .ok (.getfield 268, 3) := by decide +kernel
theorem dX9_cost_9 : decode cX9_cost 9 = .ok (.if_icmp .ge 57, 3) := by decide +kernel
theorem dX9_cost_12 : decode cX9_cost 12 = .ok (.iload_n 1, 1) := by decide +kernel
theorem dX9_cost_13 : decode cX9_cost 13 = .ok (.iconst 2, 1) := by decide +kernel
theorem dX9_cost_14 : decode cX9_cost 14 = .ok (.if_icmp .ne 15, 3) := by decide +kernel
theorem dX9_cost_17 : decode cX9_cost 17 = .ok (.aload_n 0, 1) := by decide +kernel
theorem dX9_cost_18 : decode cX9_cost 18 = .ok (.getfield 93, 3) := by decide +kernel
theorem dX9_cost_21 : decode cX9_cost 21 = .ok (.iload_n 3, 1) := by decide +kernel
theorem dX9_cost_22 : decode cX9_cost 22 = .ok (.iaload, 1) := by decide +kernel
theorem dX9_cost_23 : decode cX9_cost 23 = .ok (.iconst 1, 1) := by decide +kernel
theorem dX9_cost_24 : decode cX9_cost 24 = .ok (.if_icmp .le 5, 3) := by decide +kernel
theorem dX9_cost_27 : decode cX9_cost 27 = .ok (.iconst (-1), 1) := by decide +kernel
theorem dX9_cost_28 : decode cX9_cost 28 = .ok (.ireturn, 1) := by decide +kernel
theorem dX9_cost_29 : decode cX9_cost 29 = .ok (.iload_n 2, 1) := by decide +kernel
theorem dX9_cost_30 : decode cX9_cost 30 = .ok (.iload_n 1, 1) := by decide +kernel
theorem dX9_cost_31 : decode cX9_cost 31 = .ok (.iconst 1, 1) := by decide +kernel
theorem dX9_cost_32 : decode cX9_cost 32 = .ok (.if_icmp .ne 20, 3) := by decide +kernel
theorem dX9_cost_35 : decode cX9_cost 35 = .ok (.aload_n 0, 1) := by decide +kernel
theorem dX9_cost_36 : decode cX9_cost 36 = .ok (.getfield 93, 3) := by decide +kernel
theorem dX9_cost_39 : decode cX9_cost 39 = .ok (.iload_n 3, 1) := by decide +kernel
theorem dX9_cost_40 : decode cX9_cost 40 = .ok (.iaload, 1) := by decide +kernel
theorem dX9_cost_41 : decode cX9_cost 41 = .ok (.ifCond .le 7, 3) := by decide +kernel
theorem dX9_cost_44 : decode cX9_cost 44 = .ok (.iconst 1, 1) := by decide +kernel
theorem dX9_cost_45 : decode cX9_cost 45 = .ok (.goto 13, 3) := by decide +kernel
theorem dX9_cost_48 : decode cX9_cost 48 = .ok (.iconst 0, 1) := by decide +kernel
theorem dX9_cost_49 : decode cX9_cost 49 = .ok (.goto 9, 3) := by decide +kernel
theorem dX9_cost_52 : decode cX9_cost 52 = .ok (.aload_n 0, 1) := by decide +kernel
theorem dX9_cost_53 : decode cX9_cost 53 = .ok (.getfield 93, 3) := by decide +kernel
theorem dX9_cost_56 : decode cX9_cost 56 = .ok (.iload_n 3, 1) := by decide +kernel
theorem dX9_cost_57 : decode cX9_cost 57 = .ok (.iaload, 1) := by decide +kernel
theorem dX9_cost_58 : decode cX9_cost 58 = .ok (.iadd, 1) := by decide +kernel
theorem dX9_cost_59 : decode cX9_cost 59 = .ok (.istore_n 2, 1) := by decide +kernel
theorem dX9_cost_60 : decode cX9_cost 60 = .ok (.iinc 3 1, 3) := by decide +kernel
theorem dX9_cost_63 : decode cX9_cost 63 = .ok (.goto (-59), 3) := by decide +kernel
theorem dX9_cost_66 : decode cX9_cost 66 = .ok (.iload_n 2, 1) := by decide +kernel
theorem dX9_cost_67 : decode cX9_cost 67 = .ok (.ireturn, 1) := by decide +kernel
theorem dX9_isAhead_0 : decode cX9_isAhead 0 = .ok (.iconst 0, 1) := by decide +kernel
theorem dX9_isAhead_1 : decode cX9_isAhead 1 = .ok (.istore_n 1, 1) := by decide +kernel
theorem dX9_isAhead_2 : decode cX9_isAhead 2 = .ok (.iload_n 1, 1) := by decide +kernel
theorem dX9_isAhead_3 : decode cX9_isAhead 3 = .ok (.aload_n 0, 1) := by decide +kernel
theorem dX9_isAhead_4 : decode cX9_isAhead 4 = .ok (.getfield 268, 3) := by decide +kernel
theorem dX9_isAhead_7 : decode cX9_isAhead 7 = .ok (.if_icmp .ge 45, 3) := by decide +kernel
theorem dX9_isAhead_10 : decode cX9_isAhead 10 = .ok (.aload_n 0, 1) := by decide +kernel
theorem dX9_isAhead_11 : decode cX9_isAhead 11 = .ok (.getfield 93, 3) := by decide +kernel
theorem dX9_isAhead_14 : decode cX9_isAhead 14 = .ok (.iload_n 1, 1) := by decide +kernel
theorem dX9_isAhead_15 : decode cX9_isAhead 15 = .ok (.iaload, 1) := by decide +kernel
theorem dX9_isAhead_16 : decode cX9_isAhead 16 = .ok (.aload_n 0, 1) := by decide +kernel
theorem dX9_isAhead_17 : decode cX9_isAhead 17 = .ok (.getfield 96, 3) := by decide +kernel
theorem dX9_isAhead_20 : decode cX9_isAhead 20 = .ok (.iload_n 1, 1) := by decide +kernel
theorem dX9_isAhead_21 : decode cX9_isAhead 21 = .ok (.iaload, 1) := by decide +kernel
theorem dX9_isAhead_22 : decode cX9_isAhead 22 = .ok (.if_icmp .eq 24, 3) := by decide +kernel
theorem dX9_isAhead_25 : decode cX9_isAhead 25 = .ok (.aload_n 0, 1) := by decide +kernel
theorem dX9_isAhead_26 : decode cX9_isAhead 26 = .ok (.getfield 93, 3) := by decide +kernel
theorem dX9_isAhead_29 : decode cX9_isAhead 29 = .ok (.iload_n 1, 1) := by decide +kernel
theorem dX9_isAhead_30 : decode cX9_isAhead 30 = .ok (.iaload, 1) := by decide +kernel
theorem dX9_isAhead_31 : decode cX9_isAhead 31 = .ok (.aload_n 0, 1) := by decide +kernel
theorem dX9_isAhead_32 : decode cX9_isAhead 32 = .ok (.getfield 96, 3) := by decide +kernel
theorem dX9_isAhead_35 : decode cX9_isAhead 35 = .ok (.iload_n 1, 1) := by decide +kernel
theorem dX9_isAhead_36 : decode cX9_isAhead 36 = .ok (.iaload, 1) := by decide +kernel
theorem dX9_isAhead_37 : decode cX9_isAhead 37 = .ok (.if_icmp .ge 7, 3) := by decide +kernel
theorem dX9_isAhead_40 : decode cX9_isAhead 40 = .ok (.iconst 1, 1) := by decide +kernel
theorem dX9_isAhead_41 : decode cX9_isAhead 41 = .ok (.goto 4, 3) := by decide +kernel
theorem dX9_isAhead_44 : decode cX9_isAhead 44 = .ok (.iconst 0, 1) := by decide +kernel
theorem dX9_isAhead_45 : decode cX9_isAhead 45 = .ok (.ireturn, 1) := by decide +kernel
theorem dX9_isAhead_46 : decode cX9_isAhead 46 = .ok (.iinc 1 1, 3) := by decide +kernel
theorem dX9_isAhead_49 : decode cX9_isAhead 49 = .ok (.goto (-47), 3) := by decide +kernel
theorem dX9_isAhead_52 : decode cX9_isAhead 52 = .ok (.iconst 0, 1) := by decide +kernel
theorem dX9_isAhead_53 : decode cX9_isAhead 53 = .ok (.ireturn, 1) := by decide +kernel
theorem dX9_turns_0 : decode cX9_turns 0 = .ok (.iconst 0, 1) := by decide +kernel
theorem dX9_turns_1 : decode cX9_turns 1 = .ok (.istore_n 1, 1) := by decide +kernel
theorem dX9_turns_2 : decode cX9_turns 2 = .ok (.iload_n 1, 1) := by decide +kernel
theorem dX9_turns_3 : decode cX9_turns 3 = .ok (.aload_n 0, 1) := by decide +kernel
theorem dX9_turns_4 : decode cX9_turns 4 = .ok (.getfield 323, 3) := by decide +kernel
theorem dX9_turns_7 : decode cX9_turns 7 = .ok (.if_icmp .ge 86, 3) := by decide +kernel
theorem dX9_turns_10 : decode cX9_turns 10 = .ok (.iconst 0, 1) := by decide +kernel
theorem dX9_turns_11 : decode cX9_turns 11 = .ok (.istore_n 2, 1) := by decide +kernel
theorem dX9_turns_12 : decode cX9_turns 12 = .ok (.iload_n 2, 1) := by decide +kernel
theorem dX9_turns_13 : decode cX9_turns 13 = .ok (.aload_n 0, 1) := by decide +kernel
theorem dX9_turns_14 : decode cX9_turns 14 = .ok (.getfield 268, 3) := by decide +kernel
theorem dX9_turns_17 : decode cX9_turns 17 = .ok (.if_icmp .ge 38, 3) := by decide +kernel
theorem dX9_turns_20 : decode cX9_turns 20 = .ok (.aload_n 0, 1) := by decide +kernel
theorem dX9_turns_21 : decode cX9_turns 21 = .ok (.getfield 93, 3) := by decide +kernel
theorem dX9_turns_24 : decode cX9_turns 24 = .ok (.iload_n 2, 1) := by decide +kernel
theorem dX9_turns_25 : decode cX9_turns 25 = .ok (.aload_n 0, 1) := by decide +kernel
theorem dX9_turns_26 : decode cX9_turns 26 = .ok (.getfield 93, 3) := by decide +kernel
theorem dX9_turns_29 : decode cX9_turns 29 = .ok (.iload_n 2, 1) := by decide +kernel
theorem dX9_turns_30 : decode cX9_turns 30 = .ok (.iaload, 1) := by decide +kernel
theorem dX9_turns_31 : decode cX9_turns 31 = .ok (.aload_n 0, 1) := by decide +kernel
theorem dX9_turns_32 : decode cX9_turns 32 = .ok (.getfield 75, 3) := by decide +kernel
theorem dX9_turns_35 : decode cX9_turns 35 = .ok (.bipush 36, 2) := by decide +kernel
theorem dX9_turns_37 : decode cX9_turns 37 = .ok (.iload_n 1, 1) := by decide +kernel
theorem dX9_turns_38 : decode cX9_turns 38 = .ok (.imul, 1) := by decide +kernel
theorem dX9_turns_39 : decode cX9_turns 39 = .ok (.iload_n 2, 1) := by decide +kernel
theorem dX9_turns_40 : decode cX9_turns 40 = .ok (.iadd, 1) := by decide +kernel
theorem dX9_turns_41 : decode cX9_turns 41 = .ok (.iaload, 1) := by decide +kernel
theorem dX9_turns_42 : decode cX9_turns 42 = .ok (.iadd, 1) := by decide +kernel
theorem dX9_turns_43 : decode cX9_turns 43 = .ok (.aload_n 0, 1) := by decide +kernel
theorem dX9_turns_44 : decode cX9_turns 44 = .ok (.getfield 7, 3) := by decide +kernel
theorem dX9_turns_47 : decode cX9_turns 47 = .ok (.irem, 1) := by decide +kernel
theorem dX9_turns_48 : decode cX9_turns 48 = .ok (.iastore, 1) := by decide +kernel
theorem dX9_turns_49 : decode cX9_turns 49 = .ok (.iinc 2 1, 3) := by decide +kernel
theorem dX9_turns_52 : decode cX9_turns 52 = .ok (.goto (-40), 3) := by decide +kernel
theorem dX9_turns_55 : decode cX9_turns 55 = .ok (.aload_n 0, 1) := by decide +kernel
theorem dX9_turns_56 : decode cX9_turns 56 = .ok (.getfield 99, 3) := by decide +kernel
theorem dX9_turns_59 : decode cX9_turns 59 = .ok (.iload_n 1, 1) := by decide +kernel
theorem dX9_turns_60 : decode cX9_turns 60 = .ok (.dup2, 1) := by decide +kernel
theorem dX9_turns_61 : decode cX9_turns 61 = .ok (.iaload, 1) := by decide +kernel
theorem dX9_turns_62 : decode cX9_turns 62 = .ok (.iconst 1, 1) := by decide +kernel
theorem dX9_turns_63 : decode cX9_turns 63 = .ok (.iadd, 1) := by decide +kernel
theorem dX9_turns_64 : decode cX9_turns 64 = .ok (.iastore, 1) := by decide +kernel
theorem dX9_turns_65 : decode cX9_turns 65 = .ok (.aload_n 0, 1) := by decide +kernel
theorem dX9_turns_66 : decode cX9_turns 66 = .ok (.getfield 99, 3) := by decide +kernel
theorem dX9_turns_69 : decode cX9_turns 69 = .ok (.iload_n 1, 1) := by decide +kernel
theorem dX9_turns_70 : decode cX9_turns 70 = .ok (.iaload, 1) := by decide +kernel
theorem dX9_turns_71 : decode cX9_turns 71 = .ok (.aload_n 0, 1) := by decide +kernel
theorem dX9_turns_72 : decode cX9_turns 72 = .ok (.getfield 7, 3) := by decide +kernel
theorem dX9_turns_75 : decode cX9_turns 75 = .ok (.if_icmp .ge 5, 3) := by decide +kernel
theorem dX9_turns_78 : decode cX9_turns 78 = .ok (.iconst 1, 1) := by decide +kernel
theorem dX9_turns_79 : decode cX9_turns 79 = .ok (.ireturn, 1) := by decide +kernel
theorem dX9_turns_80 : decode cX9_turns 80 = .ok (.aload_n 0, 1) := by decide +kernel
theorem dX9_turns_81 : decode cX9_turns 81 = .ok (.getfield 99, 3) := by decide +kernel
theorem dX9_turns_84 : decode cX9_turns 84 = .ok (.iload_n 1, 1) := by decide +kernel
theorem dX9_turns_85 : decode cX9_turns 85 = .ok (.iconst 0, 1) := by decide +kernel
theorem dX9_turns_86 : decode cX9_turns 86 = .ok (.iastore, 1) := by decide +kernel
theorem dX9_turns_87 : decode cX9_turns 87 = .ok (.iinc 1 1, 3) := by decide +kernel
theorem dX9_turns_90 : decode cX9_turns 90 = .ok (.goto (-88), 3) := by decide +kernel
theorem dX9_turns_93 : decode cX9_turns 93 = .ok (.iconst 0, 1) := by decide +kernel
theorem dX9_turns_94 : decode cX9_turns 94 = .ok (.ireturn, 1) := by decide +kernel
theorem dX9_solve_0 : decode cX9_solve 0 = .ok (.aload_n 0, 1) := by decide +kernel
theorem dX9_solve_1 : decode cX9_solve 1 = .ok (.iconst 0, 1) := by decide +kernel
theorem dX9_solve_2 : decode cX9_solve 2 = .ok (.putfield 138, 3) := by decide +kernel
theorem dX9_solve_5 : decode cX9_solve 5 = .ok (.aload_n 0, 1) := by decide +kernel
theorem dX9_solve_6 : decode cX9_solve 6 = .ok (.iload_n 1, 1) := by decide +kernel
theorem dX9_solve_7 : decode cX9_solve 7 = .ok (.ifCond .lt 12, 3) := by decide +kernel
theorem dX9_solve_10 : decode cX9_solve 10 = .ok (.iload_n 1, 1) := by decide +kernel
theorem dX9_solve_11 : decode cX9_solve 11 = .ok (.iconst 2, 1) := by decide +kernel
theorem dX9_solve_12 : decode cX9_solve 12 = .ok (.if_icmp .gt 7, 3) := by decide +kernel
theorem dX9_solve_15 : decode cX9_solve 15 = .ok (.iconst 1, 1) := by decide +kernel
theorem dX9_solve_16 : decode cX9_solve 16 = .ok (.goto 4, 3) := by decide +kernel
theorem dX9_solve_19 : decode cX9_solve 19 = .ok (.iconst 0, 1) := by decide +kernel
theorem dX9_solve_20 : decode cX9_solve 20 = .ok (.iconst 1, 1) := by decide +kernel
theorem dX9_solve_21 : decode cX9_solve 21 = .ok (.invokevirtual 255, 3) := by decide +kernel
theorem dX9_solve_24 : decode cX9_solve 24 = .ok (.ifCond .ne 5, 3) := by decide +kernel
theorem dX9_solve_27 : decode cX9_solve 27 = .ok (.iconst 0, 1) := by decide +kernel
theorem dX9_solve_28 : decode cX9_solve 28 = .ok (.ireturn, 1) := by decide +kernel
theorem dX9_solve_29 : decode cX9_solve 29 = .ok (.aload_n 0, 1) := by decide +kernel
theorem dX9_solve_30 : decode cX9_solve 30 = .ok (.invokevirtual 329, 3) := by decide +kernel
theorem dX9_solve_33 : decode cX9_solve 33 = .ok (.aload_n 0, 1) := by decide +kernel
theorem dX9_solve_34 : decode cX9_solve 34 = .ok (.invokevirtual 332, 3) := by decide +kernel
theorem dX9_solve_37 : decode cX9_solve 37 = .ok (.ifCond .ne 5, 3) := by decide +kernel
theorem dX9_solve_40 : decode cX9_solve 40 = .ok (.iconst (-1), 1) := by decide +kernel
theorem dX9_solve_41 : decode cX9_solve 41 = .ok (.ireturn, 1) := by decide +kernel
theorem dX9_solve_42 : decode cX9_solve 42 = .ok (.aload_n 0, 1) := by decide +kernel
theorem dX9_solve_43 : decode cX9_solve 43 = .ok (.aload_n 0, 1) := by decide +kernel
theorem dX9_solve_44 : decode cX9_solve 44 = .ok (.getfield 323, 3) := by decide +kernel
theorem dX9_solve_47 : decode cX9_solve 47 = .ok (.sipush 20000, 3) := by decide +kernel
theorem dX9_solve_50 : decode cX9_solve 50 = .ok (.invokevirtual 335, 3) := by decide +kernel
theorem dX9_solve_53 : decode cX9_solve 53 = .ok (.sipush 20000, 3) := by decide +kernel
theorem dX9_solve_56 : decode cX9_solve 56 = .ok (.if_icmp .le 6, 3) := by decide +kernel
theorem dX9_solve_59 : decode cX9_solve 59 = .ok (.bipush (-2), 2) := by decide +kernel
theorem dX9_solve_61 : decode cX9_solve 61 = .ok (.ireturn, 1) := by decide +kernel
theorem dX9_solve_62 : decode cX9_solve 62 = .ok (.iconst 0, 1) := by decide +kernel
theorem dX9_solve_63 : decode cX9_solve 63 = .ok (.istore_n 2, 1) := by decide +kernel
theorem dX9_solve_64 : decode cX9_solve 64 = .ok (.iload_n 2, 1) := by decide +kernel
theorem dX9_solve_65 : decode cX9_solve 65 = .ok (.aload_n 0, 1) := by decide +kernel
theorem dX9_solve_66 : decode cX9_solve 66 = .ok (.getfield 323, 3) := by decide +kernel
theorem dX9_solve_69 : decode cX9_solve 69 = .ok (.if_icmp .ge 16, 3) := by decide +kernel
theorem dX9_solve_72 : decode cX9_solve 72 = .ok (.aload_n 0, 1) := by decide +kernel
theorem dX9_solve_73 : decode cX9_solve 73 = .ok (.getfield 99, 3) := by decide +kernel
theorem dX9_solve_76 : decode cX9_solve 76 = .ok (.iload_n 2, 1) := by decide +kernel
theorem dX9_solve_77 : decode cX9_solve 77 = .ok (.iconst 0, 1) := by decide +kernel
theorem dX9_solve_78 : decode cX9_solve 78 = .ok (.iastore, 1) := by decide +kernel
theorem dX9_solve_79 : decode cX9_solve 79 = .ok (.iinc 2 1, 3) := by decide +kernel
theorem dX9_solve_82 : decode cX9_solve 82 = .ok (.goto (-18), 3) := by decide +kernel
theorem dX9_solve_85 : decode cX9_solve 85 = .ok (.iconst (-1), 1) := by decide +kernel
theorem dX9_solve_86 : decode cX9_solve 86 = .ok (.istore_n 2, 1) := by decide +kernel
theorem dX9_solve_87 : decode cX9_solve 87 = .ok (.iconst 1, 1) := by decide +kernel
theorem dX9_solve_88 : decode cX9_solve 88 = .ok (.istore_n 3, 1) := by decide +kernel
theorem dX9_solve_89 : decode cX9_solve 89 = .ok (.iload_n 3, 1) := by decide +kernel
theorem dX9_solve_90 : decode cX9_solve 90 = .ok (.ifCond .eq 83, 3) := by decide +kernel
theorem dX9_solve_93 : decode cX9_solve 93 = .ok (.aload_n 0, 1) := by decide +kernel
theorem dX9_solve_94 : decode cX9_solve 94 = .ok (.iload_n 1, 1) := by decide +kernel
theorem dX9_solve_95 : decode cX9_solve 95 = .ok (.invokevirtual 338, 3) := by decide +kernel
theorem dX9_solve_98 : decode cX9_solve 98 = .ok (.istore 4, 2) := by decide +kernel
theorem dX9_solve_100 : decode cX9_solve 100 = .ok (.iload 4, 2) := by decide +kernel
theorem dX9_solve_102 : decode cX9_solve 102 = .ok (.iconst (-1), 1) := by decide +kernel
theorem dX9_solve_103 : decode cX9_solve 103 = .ok (.if_icmp .eq 62, 3) := by decide +kernel
theorem dX9_solve_106 : decode cX9_solve 106 = .ok (.iload_n 2, 1) := by decide +kernel
theorem dX9_solve_107 : decode cX9_solve 107 = .ok (.iconst (-1), 1) := by decide +kernel
theorem dX9_solve_108 : decode cX9_solve 108 = .ok (.if_icmp .eq 22, 3) := by decide +kernel
theorem dX9_solve_111 : decode cX9_solve 111 = .ok (.iload 4, 2) := by decide +kernel
theorem dX9_solve_113 : decode cX9_solve 113 = .ok (.iload_n 2, 1) := by decide +kernel
theorem dX9_solve_114 : decode cX9_solve 114 = .ok (.if_icmp .lt 16, 3) := by decide +kernel
theorem dX9_solve_117 : decode cX9_solve 117 = .ok (.iload 4, 2) := by decide +kernel
theorem dX9_solve_119 : decode cX9_solve 119 = .ok (.iload_n 2, 1) := by decide +kernel
theorem dX9_solve_120 : decode cX9_solve 120 = .ok (.if_icmp .ne 45, 3) := by decide +kernel
theorem dX9_solve_123 : decode cX9_solve 123 = .ok (.aload_n 0, 1) := by decide +kernel
theorem dX9_solve_124 : decode cX9_solve 124 = .ok (.invokevirtual 341, 3) := by decide +kernel
theorem dX9_solve_127 : decode cX9_solve 127 = .ok (.ifCond .eq 38, 3) := by decide +kernel
theorem dX9_solve_130 : decode cX9_solve 130 = .ok (.iload 4, 2) := by decide +kernel
theorem dX9_solve_132 : decode cX9_solve 132 = .ok (.istore_n 2, 1) := by decide +kernel
theorem dX9_solve_133 : decode cX9_solve 133 = .ok (.iconst 0, 1) := by decide +kernel
theorem dX9_solve_134 : decode cX9_solve 134 = .ok (.istore 5, 2) := by decide +kernel
theorem dX9_solve_136 : decode cX9_solve 136 = .ok (.iload 5, 2) := by decide +kernel
theorem dX9_solve_138 : decode cX9_solve 138 = .ok (.aload_n 0, 1) := by decide +kernel
theorem dX9_solve_139 : decode cX9_solve 139 = .ok (.getfield 268, 3) := by decide +kernel
theorem dX9_solve_142 : decode cX9_solve 142 = .ok (.if_icmp .ge 23, 3) := by decide +kernel
theorem dX9_solve_145 : decode cX9_solve 145 = .ok (.aload_n 0, 1) := by decide +kernel
theorem dX9_solve_146 : decode cX9_solve 146 = .ok (.getfield 96, 3) := by decide +kernel
theorem dX9_solve_149 : decode cX9_solve 149 = .ok (.iload 5, 2) := by decide +kernel
theorem dX9_solve_151 : decode cX9_solve 151 = .ok (.aload_n 0, 1) := by decide +kernel
theorem dX9_solve_152 : decode cX9_solve 152 = .ok (.getfield 93, 3) := by decide +kernel
theorem dX9_solve_155 : decode cX9_solve 155 = .ok (.iload 5, 2) := by decide +kernel
theorem dX9_solve_157 : decode cX9_solve 157 = .ok (.iaload, 1) := by decide +kernel
theorem dX9_solve_158 : decode cX9_solve 158 = .ok (.iastore, 1) := by decide +kernel
theorem dX9_solve_159 : decode cX9_solve 159 = .ok (.iinc 5 1, 3) := by decide +kernel
theorem dX9_solve_162 : decode cX9_solve 162 = .ok (.goto (-26), 3) := by decide +kernel
theorem dX9_solve_165 : decode cX9_solve 165 = .ok (.aload_n 0, 1) := by decide +kernel
theorem dX9_solve_166 : decode cX9_solve 166 = .ok (.invokevirtual 344, 3) := by decide +kernel
theorem dX9_solve_169 : decode cX9_solve 169 = .ok (.istore_n 3, 1) := by decide +kernel
theorem dX9_solve_170 : decode cX9_solve 170 = .ok (.goto (-81), 3) := by decide +kernel
theorem dX9_solve_173 : decode cX9_solve 173 = .ok (.iload_n 2, 1) := by decide +kernel
theorem dX9_solve_174 : decode cX9_solve 174 = .ok (.iconst (-1), 1) := by decide +kernel
theorem dX9_solve_175 : decode cX9_solve 175 = .ok (.if_icmp .ne 5, 3) := by decide +kernel
theorem dX9_solve_178 : decode cX9_solve 178 = .ok (.iconst (-1), 1) := by decide +kernel
theorem dX9_solve_179 : decode cX9_solve 179 = .ok (.ireturn, 1) := by decide +kernel
theorem dX9_solve_180 : decode cX9_solve 180 = .ok (.aload_n 0, 1) := by decide +kernel
theorem dX9_solve_181 : decode cX9_solve 181 = .ok (.iconst 1, 1) := by decide +kernel
theorem dX9_solve_182 : decode cX9_solve 182 = .ok (.putfield 280, 3) := by decide +kernel
theorem dX9_solve_185 : decode cX9_solve 185 = .ok (.iconst 0, 1) := by decide +kernel
theorem dX9_solve_186 : decode cX9_solve 186 = .ok (.istore 4, 2) := by decide +kernel
theorem dX9_solve_188 : decode cX9_solve 188 = .ok (.iload 4, 2) := by decide +kernel
theorem dX9_solve_190 : decode cX9_solve 190 = .ok (.aload_n 0, 1) := by decide +kernel
theorem dX9_solve_191 : decode cX9_solve 191 = .ok (.getfield 268, 3) := by decide +kernel
theorem dX9_solve_194 : decode cX9_solve 194 = .ok (.if_icmp .ge 23, 3) := by decide +kernel
theorem dX9_solve_197 : decode cX9_solve 197 = .ok (.aload_n 0, 1) := by decide +kernel
theorem dX9_solve_198 : decode cX9_solve 198 = .ok (.getfield 90, 3) := by decide +kernel
theorem dX9_solve_201 : decode cX9_solve 201 = .ok (.iload 4, 2) := by decide +kernel
theorem dX9_solve_203 : decode cX9_solve 203 = .ok (.aload_n 0, 1) := by decide +kernel
theorem dX9_solve_204 : decode cX9_solve 204 = .ok (.getfield 96, 3) := by decide +kernel
theorem dX9_solve_207 : decode cX9_solve 207 = .ok (.iload 4, 2) := by decide +kernel
theorem dX9_solve_209 : decode cX9_solve 209 = .ok (.iaload, 1) := by decide +kernel
theorem dX9_solve_210 : decode cX9_solve 210 = .ok (.iastore, 1) := by decide +kernel
theorem dX9_solve_211 : decode cX9_solve 211 = .ok (.iinc 4 1, 3) := by decide +kernel
theorem dX9_solve_214 : decode cX9_solve 214 = .ok (.goto (-26), 3) := by decide +kernel
theorem dX9_solve_217 : decode cX9_solve 217 = .ok (.iload_n 2, 1) := by decide +kernel
theorem dX9_solve_218 : decode cX9_solve 218 = .ok (.ireturn, 1) := by decide +kernel
theorem dX9_times_0 : decode cX9_times 0 = .ok (.aload_n 0, 1) := by decide +kernel
theorem dX9_times_1 : decode cX9_times 1 = .ok (.iconst 0, 1) := by decide +kernel
theorem dX9_times_2 : decode cX9_times 2 = .ok (.putfield 138, 3) := by decide +kernel
theorem dX9_times_5 : decode cX9_times 5 = .ok (.aload_n 0, 1) := by decide +kernel
theorem dX9_times_6 : decode cX9_times 6 = .ok (.aload_n 0, 1) := by decide +kernel
theorem dX9_times_7 : decode cX9_times 7 = .ok (.iload_n 1, 1) := by decide +kernel
theorem dX9_times_8 : decode cX9_times 8 = .ok (.invokevirtual 290, 3) := by decide +kernel
theorem dX9_times_11 : decode cX9_times 11 = .ok (.ifCond .eq 14, 3) := by decide +kernel
theorem dX9_times_14 : decode cX9_times 14 = .ok (.aload_n 0, 1) := by decide +kernel
theorem dX9_times_15 : decode cX9_times 15 = .ok (.getfield 280, 3) := by decide +kernel
theorem dX9_times_18 : decode cX9_times 18 = .ok (.ifCond .eq 7, 3) := by decide +kernel
theorem dX9_times_21 : decode cX9_times 21 = .ok (.iconst 1, 1) := by decide +kernel
theorem dX9_times_22 : decode cX9_times 22 = .ok (.goto 4, 3) := by decide +kernel
theorem dX9_times_25 : decode cX9_times 25 = .ok (.iconst 0, 1) := by decide +kernel
theorem dX9_times_26 : decode cX9_times 26 = .ok (.iconst 1, 1) := by decide +kernel
theorem dX9_times_27 : decode cX9_times 27 = .ok (.invokevirtual 255, 3) := by decide +kernel
theorem dX9_times_30 : decode cX9_times 30 = .ok (.ifCond .ne 5, 3) := by decide +kernel
theorem dX9_times_33 : decode cX9_times 33 = .ok (.iconst 0, 1) := by decide +kernel
theorem dX9_times_34 : decode cX9_times 34 = .ok (.ireturn, 1) := by decide +kernel
theorem dX9_times_35 : decode cX9_times 35 = .ok (.aload_n 0, 1) := by decide +kernel
theorem dX9_times_36 : decode cX9_times 36 = .ok (.getfield 90, 3) := by decide +kernel
theorem dX9_times_39 : decode cX9_times 39 = .ok (.iload_n 1, 1) := by decide +kernel
theorem dX9_times_40 : decode cX9_times 40 = .ok (.iaload, 1) := by decide +kernel
theorem dX9_times_41 : decode cX9_times 41 = .ok (.ireturn, 1) := by decide +kernel
theorem dX9_apply_0 : decode cX9_apply 0 = .ok (.aload_n 0, 1) := by decide +kernel
theorem dX9_apply_1 : decode cX9_apply 1 = .ok (.iconst 0, 1) := by decide +kernel
theorem dX9_apply_2 : decode cX9_apply 2 = .ok (.putfield 138, 3) := by decide +kernel
theorem dX9_apply_5 : decode cX9_apply 5 = .ok (.aload_n 0, 1) := by decide +kernel
theorem dX9_apply_6 : decode cX9_apply 6 = .ok (.getfield 280, 3) := by decide +kernel
theorem dX9_apply_9 : decode cX9_apply 9 = .ok (.ifCond .ne 5, 3) := by decide +kernel
theorem dX9_apply_12 : decode cX9_apply 12 = .ok (.iconst (-1), 1) := by decide +kernel
theorem dX9_apply_13 : decode cX9_apply 13 = .ok (.ireturn, 1) := by decide +kernel
theorem dX9_apply_14 : decode cX9_apply 14 = .ok (.iconst 0, 1) := by decide +kernel
theorem dX9_apply_15 : decode cX9_apply 15 = .ok (.istore_n 1, 1) := by decide +kernel
theorem dX9_apply_16 : decode cX9_apply 16 = .ok (.iconst 0, 1) := by decide +kernel
theorem dX9_apply_17 : decode cX9_apply 17 = .ok (.istore_n 2, 1) := by decide +kernel
theorem dX9_apply_18 : decode cX9_apply 18 = .ok (.iload_n 2, 1) := by decide +kernel
theorem dX9_apply_19 : decode cX9_apply 19 = .ok (.aload_n 0, 1) := by decide +kernel
theorem dX9_apply_20 : decode cX9_apply 20 = .ok (.getfield 268, 3) := by decide +kernel
theorem dX9_apply_23 : decode cX9_apply 23 = .ok (.if_icmp .ge 44, 3) := by decide +kernel
theorem dX9_apply_26 : decode cX9_apply 26 = .ok (.iconst 0, 1) := by decide +kernel
theorem dX9_apply_27 : decode cX9_apply 27 = .ok (.istore_n 3, 1) := by decide +kernel
theorem dX9_apply_28 : decode cX9_apply 28 = .ok (.iload_n 3, 1) := by decide +kernel
theorem dX9_apply_29 : decode cX9_apply 29 = .ok (.aload_n 0, 1) := by decide +kernel
theorem dX9_apply_30 : decode cX9_apply 30 = .ok (.getfield 90, 3) := by decide +kernel
theorem dX9_apply_33 : decode cX9_apply 33 = .ok (.iload_n 2, 1) := by decide +kernel
theorem dX9_apply_34 : decode cX9_apply 34 = .ok (.iaload, 1) := by decide +kernel
theorem dX9_apply_35 : decode cX9_apply 35 = .ok (.if_icmp .ge 26, 3) := by decide +kernel
theorem dX9_apply_38 : decode cX9_apply 38 = .ok (.aload_n 0, 1) := by decide +kernel
theorem dX9_apply_39 : decode cX9_apply 39 = .ok (.getfield 20, 3) := by decide +kernel
theorem dX9_apply_42 : decode cX9_apply 42 = .ok (.iload_n 2, 1) := by decide +kernel
theorem dX9_apply_43 : decode cX9_apply 43 = .ok (.baload, 1) := by decide +kernel
theorem dX9_apply_44 : decode cX9_apply 44 = .ok (.ifCond .ne 17, 3) := by decide +kernel
theorem dX9_apply_47 : decode cX9_apply 47 = .ok (.aload_n 0, 1) := by decide +kernel
theorem dX9_apply_48 : decode cX9_apply 48 = .ok (.iload_n 2, 1) := by decide +kernel
theorem dX9_apply_49 : decode cX9_apply 49 = .ok (.invokevirtual 298, 3) := by decide +kernel
theorem dX9_apply_52 : decode cX9_apply 52 = .ok (.iinc 1 1, 3) := by decide +kernel
theorem dX9_apply_55 : decode cX9_apply 55 = .ok (.iinc 3 1, 3) := by decide +kernel
theorem dX9_apply_58 : decode cX9_apply 58 = .ok (.goto (-30), 3) := by decide +kernel
theorem dX9_apply_61 : decode cX9_apply 61 = .ok (.iinc 2 1, 3) := by decide +kernel
theorem dX9_apply_64 : decode cX9_apply 64 = .ok (.goto (-46), 3) := by decide +kernel
theorem dX9_apply_67 : decode cX9_apply 67 = .ok (.iload_n 1, 1) := by decide +kernel
theorem dX9_apply_68 : decode cX9_apply 68 = .ok (.ireturn, 1) := by decide +kernel
theorem dX9_needed_0 : decode cX9_needed 0 = .ok (.aload_n 0, 1) := by decide +kernel
theorem dX9_needed_1 : decode cX9_needed 1 = .ok (.iconst 0, 1) := by decide +kernel
theorem dX9_needed_2 : decode cX9_needed 2 = .ok (.putfield 138, 3) := by decide +kernel
theorem dX9_needed_5 : decode cX9_needed 5 = .ok (.aload_n 0, 1) := by decide +kernel
theorem dX9_needed_6 : decode cX9_needed 6 = .ok (.iload_n 1, 1) := by decide +kernel
theorem dX9_needed_7 : decode cX9_needed 7 = .ok (.ifCond .eq 8, 3) := by decide +kernel
theorem dX9_needed_10 : decode cX9_needed 10 = .ok (.iload_n 1, 1) := by decide +kernel
theorem dX9_needed_11 : decode cX9_needed 11 = .ok (.iconst 1, 1) := by decide +kernel
theorem dX9_needed_12 : decode cX9_needed 12 = .ok (.if_icmp .ne 7, 3) := by decide +kernel
theorem dX9_needed_15 : decode cX9_needed 15 = .ok (.iconst 1, 1) := by decide +kernel
theorem dX9_needed_16 : decode cX9_needed 16 = .ok (.goto 4, 3) := by decide +kernel
theorem dX9_needed_19 : decode cX9_needed 19 = .ok (.iconst 0, 1) := by decide +kernel
theorem dX9_needed_20 : decode cX9_needed 20 = .ok (.iconst 1, 1) := by decide +kernel
theorem dX9_needed_21 : decode cX9_needed 21 = .ok (.invokevirtual 255, 3) := by decide +kernel
theorem dX9_needed_24 : decode cX9_needed 24 = .ok (.ifCond .ne 5, 3) := by decide +kernel
theorem dX9_needed_27 : decode cX9_needed 27 = .ok (.iconst 0, 1) := by decide +kernel
theorem dX9_needed_28 : decode cX9_needed 28 = .ok (.ireturn, 1) := by decide +kernel
theorem dX9_needed_29 : decode cX9_needed 29 = .ok (.aload_n 0, 1) := by decide +kernel
theorem dX9_needed_30 : decode cX9_needed 30 = .ok (.invokevirtual 329, 3) := by decide +kernel
theorem dX9_needed_33 : decode cX9_needed 33 = .ok (.aload_n 0, 1) := by decide +kernel
theorem dX9_needed_34 : decode cX9_needed 34 = .ok (.invokevirtual 332, 3) := by decide +kernel
theorem dX9_needed_37 : decode cX9_needed 37 = .ok (.ifCond .ne 5, 3) := by decide +kernel
theorem dX9_needed_40 : decode cX9_needed 40 = .ok (.iconst (-1), 1) := by decide +kernel
theorem dX9_needed_41 : decode cX9_needed 41 = .ok (.ireturn, 1) := by decide +kernel
theorem dX9_needed_42 : decode cX9_needed 42 = .ok (.iconst 0, 1) := by decide +kernel
theorem dX9_needed_43 : decode cX9_needed 43 = .ok (.istore_n 2, 1) := by decide +kernel
theorem dX9_needed_44 : decode cX9_needed 44 = .ok (.iconst 0, 1) := by decide +kernel
theorem dX9_needed_45 : decode cX9_needed 45 = .ok (.istore_n 3, 1) := by decide +kernel
theorem dX9_needed_46 : decode cX9_needed 46 = .ok (.iconst 0, 1) := by decide +kernel
theorem dX9_needed_47 : decode cX9_needed 47 = .ok (.istore 4, 2) := by decide +kernel
theorem dX9_needed_49 : decode cX9_needed 49 = .ok (.iload 4, 2) := by decide +kernel
theorem dX9_needed_51 : decode cX9_needed 51 = .ok (.aload_n 0, 1) := by decide +kernel
theorem dX9_needed_52 : decode cX9_needed 52 = .ok (.getfield 268, 3) := by decide +kernel
theorem dX9_needed_55 : decode cX9_needed 55 = .ok (.if_icmp .ge 94, 3) := by decide +kernel
theorem dX9_needed_58 : decode cX9_needed 58 = .ok (.iconst 0, 1) := by decide +kernel
theorem dX9_needed_59 : decode cX9_needed 59 = .ok (.istore 5, 2) := by decide +kernel
theorem dX9_needed_61 : decode cX9_needed 61 = .ok (.iconst 0, 1) := by decide +kernel
theorem dX9_needed_62 : decode cX9_needed 62 = .ok (.istore 6, 2) := by decide +kernel
theorem dX9_needed_64 : decode cX9_needed 64 = .ok (.iload 6, 2) := by decide +kernel
theorem dX9_needed_66 : decode cX9_needed 66 = .ok (.aload_n 0, 1) := by decide +kernel
theorem dX9_needed_67 : decode cX9_needed 67 = .ok (.getfield 323, 3) := by decide +kernel
theorem dX9_needed_70 : decode cX9_needed 70 = .ok (.if_icmp .ge 37, 3) := by decide +kernel
theorem dX9_needed_73 : decode cX9_needed 73 = .ok (.iload 5, 2) := by decide +kernel
theorem dX9_needed_75 : decode cX9_needed 75 = .ok (.ifCond .ne 19, 3) := by decide +kernel
theorem dX9_needed_78 : decode cX9_needed 78 = .ok (.aload_n 0, 1) := by decide +kernel
theorem dX9_needed_79 : decode cX9_needed 79 = .ok (.getfield 75, 3) := by decide +kernel
theorem dX9_needed_82 : decode cX9_needed 82 = .ok (.bipush 36, 2) := by decide +kernel
theorem dX9_needed_84 : decode cX9_needed 84 = .ok (.iload 6, 2) := by decide +kernel
theorem dX9_needed_86 : decode cX9_needed 86 = .ok (.imul, 1) := by decide +kernel
theorem dX9_needed_87 : decode cX9_needed 87 = .ok (.iload 4, 2) := by decide +kernel
theorem dX9_needed_89 : decode cX9_needed 89 = .ok (.iadd, 1) := by decide +kernel
theorem dX9_needed_90 : decode cX9_needed 90 = .ok (.iaload, 1) := by decide +kernel
theorem dX9_needed_91 : decode cX9_needed 91 = .ok (.ifCond .eq 7, 3) := by decide +kernel
theorem dX9_needed_94 : decode cX9_needed 94 = .ok (.iconst 1, 1) := by decide +kernel
theorem dX9_needed_95 : decode cX9_needed 95 = .ok (.goto 4, 3) := by decide +kernel
theorem dX9_needed_98 : decode cX9_needed 98 = .ok (.iconst 0, 1) := by decide +kernel
theorem dX9_needed_99 : decode cX9_needed 99 = .ok (.istore 5, 2) := by decide +kernel
theorem dX9_needed_101 : decode cX9_needed 101 = .ok (.iinc 6 1, 3) := by decide +kernel
theorem dX9_needed_104 : decode cX9_needed 104 = .ok (.goto (-40), 3) := by decide +kernel
theorem dX9_needed_107 : decode cX9_needed 107 = .ok (.iload_n 3, 1) := by decide +kernel
theorem dX9_needed_108 : decode cX9_needed 108 = .ok (.iload 5, 2) := by decide +kernel
theorem dX9_needed_110 : decode cX9_needed 110 = .ok (.ifCond .eq 7, 3) := by decide +kernel
theorem dX9_needed_113 : decode cX9_needed 113 = .ok (.iconst 1, 1) := by decide +kernel
theorem dX9_needed_114 : decode cX9_needed 114 = .ok (.goto 4, 3) := by decide +kernel
theorem dX9_needed_117 : decode cX9_needed 117 = .ok (.iconst 0, 1) := by decide +kernel
theorem dX9_needed_118 : decode cX9_needed 118 = .ok (.iadd, 1) := by decide +kernel
theorem dX9_needed_119 : decode cX9_needed 119 = .ok (.istore_n 3, 1) := by decide +kernel
theorem dX9_needed_120 : decode cX9_needed 120 = .ok (.iload_n 2, 1) := by decide +kernel
theorem dX9_needed_121 : decode cX9_needed 121 = .ok (.iload 5, 2) := by decide +kernel
theorem dX9_needed_123 : decode cX9_needed 123 = .ok (.ifCond .ne 17, 3) := by decide +kernel
theorem dX9_needed_126 : decode cX9_needed 126 = .ok (.aload_n 0, 1) := by decide +kernel
theorem dX9_needed_127 : decode cX9_needed 127 = .ok (.getfield 93, 3) := by decide +kernel
theorem dX9_needed_130 : decode cX9_needed 130 = .ok (.iload 4, 2) := by decide +kernel
theorem dX9_needed_132 : decode cX9_needed 132 = .ok (.iaload, 1) := by decide +kernel
theorem dX9_needed_133 : decode cX9_needed 133 = .ok (.ifCond .eq 7, 3) := by decide +kernel
theorem dX9_needed_136 : decode cX9_needed 136 = .ok (.iconst 1, 1) := by decide +kernel
theorem dX9_needed_137 : decode cX9_needed 137 = .ok (.goto 4, 3) := by decide +kernel
theorem dX9_needed_140 : decode cX9_needed 140 = .ok (.iconst 0, 1) := by decide +kernel
theorem dX9_needed_141 : decode cX9_needed 141 = .ok (.iadd, 1) := by decide +kernel
theorem dX9_needed_142 : decode cX9_needed 142 = .ok (.istore_n 2, 1) := by decide +kernel
theorem dX9_needed_143 : decode cX9_needed 143 = .ok (.iinc 4 1, 3) := by decide +kernel
theorem dX9_needed_146 : decode cX9_needed 146 = .ok (.goto (-97), 3) := by decide +kernel
theorem dX9_needed_149 : decode cX9_needed 149 = .ok (.iload_n 1, 1) := by decide +kernel
theorem dX9_needed_150 : decode cX9_needed 150 = .ok (.ifCond .ne 7, 3) := by decide +kernel
theorem dX9_needed_153 : decode cX9_needed 153 = .ok (.iload_n 2, 1) := by decide +kernel
theorem dX9_needed_154 : decode cX9_needed 154 = .ok (.goto 4, 3) := by decide +kernel
theorem dX9_needed_157 : decode cX9_needed 157 = .ok (.iload_n 3, 1) := by decide +kernel
theorem dX9_needed_158 : decode cX9_needed 158 = .ok (.ireturn, 1) := by decide +kernel
theorem dX9_plus_0 : decode cX9_plus 0 = .ok (.iconst 0, 1) := by decide +kernel
theorem dX9_plus_1 : decode cX9_plus 1 = .ok (.istore_n 3, 1) := by decide +kernel
theorem dX9_plus_2 : decode cX9_plus 2 = .ok (.iconst 1, 1) := by decide +kernel
theorem dX9_plus_3 : decode cX9_plus 3 = .ok (.istore 4, 2) := by decide +kernel
theorem dX9_plus_5 : decode cX9_plus 5 = .ok (.iload_n 1, 1) := by decide +kernel
theorem dX9_plus_6 : decode cX9_plus 6 = .ok (.istore 5, 2) := by decide +kernel
theorem dX9_plus_8 : decode cX9_plus 8 = .ok (.iconst 0, 1) := by decide +kernel
theorem dX9_plus_9 : decode cX9_plus 9 = .ok (.istore 6, 2) := by decide +kernel
theorem dX9_plus_11 : decode cX9_plus 11 = .ok (.iload 6, 2) := by decide +kernel
theorem dX9_plus_13 : decode cX9_plus 13 = .ok (.aload_n 0, 1) := by decide +kernel
theorem dX9_plus_14 : decode cX9_plus 14 = .ok (.getfield 326, 3) := by decide +kernel
theorem dX9_plus_17 : decode cX9_plus 17 = .ok (.if_icmp .ge 58, 3) := by decide +kernel
theorem dX9_plus_20 : decode cX9_plus 20 = .ok (.iload_n 3, 1) := by decide +kernel
theorem dX9_plus_21 : decode cX9_plus 21 = .ok (.iload 4, 2) := by decide +kernel
theorem dX9_plus_23 : decode cX9_plus 23 = .ok (.iload 5, 2) := by decide +kernel
theorem dX9_plus_25 : decode cX9_plus 25 = .ok (.aload_n 0, 1) := by decide +kernel
theorem dX9_plus_26 : decode cX9_plus 26 = .ok (.getfield 7, 3) := by decide +kernel
theorem dX9_plus_29 : decode cX9_plus 29 = .ok (.irem, 1) := by decide +kernel
theorem dX9_plus_30 : decode cX9_plus 30 = .ok (.aload_n 0, 1) := by decide +kernel
theorem dX9_plus_31 : decode cX9_plus 31 = .ok (.getfield 102, 3) := by decide +kernel
theorem dX9_plus_34 : decode cX9_plus 34 = .ok (.bipush 36, 2) := by decide +kernel
theorem dX9_plus_36 : decode cX9_plus 36 = .ok (.iload_n 2, 1) := by decide +kernel
theorem dX9_plus_37 : decode cX9_plus 37 = .ok (.imul, 1) := by decide +kernel
theorem dX9_plus_38 : decode cX9_plus 38 = .ok (.iload 6, 2) := by decide +kernel
theorem dX9_plus_40 : decode cX9_plus 40 = .ok (.iadd, 1) := by decide +kernel
theorem dX9_plus_41 : decode cX9_plus 41 = .ok (.iaload, 1) := by decide +kernel
theorem dX9_plus_42 : decode cX9_plus 42 = .ok (.iadd, 1) := by decide +kernel
theorem dX9_plus_43 : decode cX9_plus 43 = .ok (.aload_n 0, 1) := by decide +kernel
theorem dX9_plus_44 : decode cX9_plus 44 = .ok (.getfield 7, 3) := by decide +kernel
theorem dX9_plus_47 : decode cX9_plus 47 = .ok (.irem, 1) := by decide +kernel
theorem dX9_plus_48 : decode cX9_plus 48 = .ok (.imul, 1) := by decide +kernel
theorem dX9_plus_49 : decode cX9_plus 49 = .ok (.iadd, 1) := by decide +kernel
theorem dX9_plus_50 : decode cX9_plus 50 = .ok (.istore_n 3, 1) := by decide +kernel
theorem dX9_plus_51 : decode cX9_plus 51 = .ok (.iload 5, 2) := by decide +kernel
theorem dX9_plus_53 : decode cX9_plus 53 = .ok (.aload_n 0, 1) := by decide +kernel
theorem dX9_plus_54 : decode cX9_plus 54 = .ok (.getfield 7, 3) := by decide +kernel
theorem dX9_plus_57 : decode cX9_plus 57 = .ok (.idiv, 1) := by decide +kernel
theorem dX9_plus_58 : decode cX9_plus 58 = .ok (.istore 5, 2) := by decide +kernel
theorem dX9_plus_60 : decode cX9_plus 60 = .ok (.iload 4, 2) := by decide +kernel
theorem dX9_plus_62 : decode cX9_plus 62 = .ok (.aload_n 0, 1) := by decide +kernel
theorem dX9_plus_63 : decode cX9_plus 63 = .ok (.getfield 7, 3) := by decide +kernel
theorem dX9_plus_66 : decode cX9_plus 66 = .ok (.imul, 1) := by decide +kernel
theorem dX9_plus_67 : decode cX9_plus 67 = .ok (.istore 4, 2) := by decide +kernel
theorem dX9_plus_69 : decode cX9_plus 69 = .ok (.iinc 6 1, 3) := by decide +kernel
theorem dX9_plus_72 : decode cX9_plus 72 = .ok (.goto (-61), 3) := by decide +kernel
theorem dX9_plus_75 : decode cX9_plus 75 = .ok (.iload_n 3, 1) := by decide +kernel
theorem dX9_plus_76 : decode cX9_plus 76 = .ok (.ireturn, 1) := by decide +kernel
theorem dX9_reckons_0 : decode cX9_reckons 0 = .ok (.aload_n 0, 1) := by decide +kernel
theorem dX9_reckons_1 : decode cX9_reckons 1 = .ok (.getfield 304, 3) := by decide +kernel
theorem dX9_reckons_4 : decode cX9_reckons 4 = .ok (.ifCond .eq 4, 3) := by decide +kernel
theorem dX9_reckons_7 : decode cX9_reckons 7 = .ok (.return_, 1) := by decide +kernel
theorem dX9_reckons_8 : decode cX9_reckons 8 = .ok (.aload_n 0, 1) := by decide +kernel
theorem dX9_reckons_9 : decode cX9_reckons 9 = .ok (.iconst 1, 1) := by decide +kernel
theorem dX9_reckons_10 : decode cX9_reckons 10 = .ok (.putfield 304, 3) := by decide +kernel
theorem dX9_reckons_13 : decode cX9_reckons 13 = .ok (.iconst 0, 1) := by decide +kernel
theorem dX9_reckons_14 : decode cX9_reckons 14 = .ok (.istore_n 1, 1) := by decide +kernel
theorem dX9_reckons_15 : decode cX9_reckons 15 = .ok (.iload_n 1, 1) := by decide +kernel
theorem dX9_reckons_16 : decode cX9_reckons 16 = .ok (.sipush 1296, 3) := by decide +kernel
theorem dX9_reckons_19 : decode cX9_reckons 19 = .ok (.if_icmp .ge 16, 3) := by decide +kernel
theorem dX9_reckons_22 : decode cX9_reckons 22 = .ok (.aload_n 0, 1) := by decide +kernel
theorem dX9_reckons_23 : decode cX9_reckons 23 = .ok (.getfield 102, 3) := by decide +kernel
theorem dX9_reckons_26 : decode cX9_reckons 26 = .ok (.iload_n 1, 1) := by decide +kernel
theorem dX9_reckons_27 : decode cX9_reckons 27 = .ok (.iconst 0, 1) := by decide +kernel
theorem dX9_reckons_28 : decode cX9_reckons 28 = .ok (.iastore, 1) := by decide +kernel
theorem dX9_reckons_29 : decode cX9_reckons 29 = .ok (.iinc 1 1, 3) := by decide +kernel
theorem dX9_reckons_32 : decode cX9_reckons 32 = .ok (.goto (-17), 3) := by decide +kernel
theorem dX9_reckons_35 : decode cX9_reckons 35 = .ok (.iconst 0, 1) := by decide +kernel
theorem dX9_reckons_36 : decode cX9_reckons 36 = .ok (.istore_n 1, 1) := by decide +kernel
theorem dX9_reckons_37 : decode cX9_reckons 37 = .ok (.iload_n 1, 1) := by decide +kernel
theorem dX9_reckons_38 : decode cX9_reckons 38 = .ok (.aload_n 0, 1) := by decide +kernel
theorem dX9_reckons_39 : decode cX9_reckons 39 = .ok (.getfield 326, 3) := by decide +kernel
theorem dX9_reckons_42 : decode cX9_reckons 42 = .ok (.if_icmp .ge 26, 3) := by decide +kernel
theorem dX9_reckons_45 : decode cX9_reckons 45 = .ok (.aload_n 0, 1) := by decide +kernel
theorem dX9_reckons_46 : decode cX9_reckons 46 = .ok (.getfield 102, 3) := by decide +kernel
theorem dX9_reckons_49 : decode cX9_reckons 49 = .ok (.bipush 36, 2) := by decide +kernel
theorem dX9_reckons_51 : decode cX9_reckons 51 = .ok (.aload_n 0, 1) := by decide +kernel
theorem dX9_reckons_52 : decode cX9_reckons 52 = .ok (.getfield 66, 3) := by decide +kernel
theorem dX9_reckons_55 : decode cX9_reckons 55 = .ok (.iload_n 1, 1) := by decide +kernel
theorem dX9_reckons_56 : decode cX9_reckons 56 = .ok (.iaload, 1) := by decide +kernel
theorem dX9_reckons_57 : decode cX9_reckons 57 = .ok (.imul, 1) := by decide +kernel
theorem dX9_reckons_58 : decode cX9_reckons 58 = .ok (.iload_n 1, 1) := by decide +kernel
theorem dX9_reckons_59 : decode cX9_reckons 59 = .ok (.iadd, 1) := by decide +kernel
theorem dX9_reckons_60 : decode cX9_reckons 60 = .ok (.iconst 1, 1) := by decide +kernel
theorem dX9_reckons_61 : decode cX9_reckons 61 = .ok (.iastore, 1) := by decide +kernel
theorem dX9_reckons_62 : decode cX9_reckons 62 = .ok (.iinc 1 1, 3) := by decide +kernel
theorem dX9_reckons_65 : decode cX9_reckons 65 = .ok (.goto (-28), 3) := by decide +kernel
theorem dX9_reckons_68 : decode cX9_reckons 68 = .ok (.iconst 0, 1) := by decide +kernel
theorem dX9_reckons_69 : decode cX9_reckons 69 = .ok (.istore_n 1, 1) := by decide +kernel
theorem dX9_reckons_70 : decode cX9_reckons 70 = .ok (.iload_n 1, 1) := by decide +kernel
theorem dX9_reckons_71 : decode cX9_reckons 71 = .ok (.aload_n 0, 1) := by decide +kernel
theorem dX9_reckons_72 : decode cX9_reckons 72 = .ok (.getfield 323, 3) := by decide +kernel
theorem dX9_reckons_75 : decode cX9_reckons 75 = .ok (.if_icmp .ge 67, 3) := by decide +kernel
theorem dX9_reckons_78 : decode cX9_reckons 78 = .ok (.iconst 0, 1) := by decide +kernel
theorem dX9_reckons_79 : decode cX9_reckons 79 = .ok (.istore_n 2, 1) := by decide +kernel
theorem dX9_reckons_80 : decode cX9_reckons 80 = .ok (.iload_n 2, 1) := by decide +kernel
theorem dX9_reckons_81 : decode cX9_reckons 81 = .ok (.aload_n 0, 1) := by decide +kernel
theorem dX9_reckons_82 : decode cX9_reckons 82 = .ok (.getfield 326, 3) := by decide +kernel
theorem dX9_reckons_85 : decode cX9_reckons 85 = .ok (.if_icmp .ge 51, 3) := by decide +kernel
theorem dX9_reckons_88 : decode cX9_reckons 88 = .ok (.aload_n 0, 1) := by decide +kernel
theorem dX9_reckons_89 : decode cX9_reckons 89 = .ok (.getfield 102, 3) := by decide +kernel
theorem dX9_reckons_92 : decode cX9_reckons 92 = .ok (.bipush 36, 2) := by decide +kernel
theorem dX9_reckons_94 : decode cX9_reckons 94 = .ok (.aload_n 0, 1) := by decide +kernel
theorem dX9_reckons_95 : decode cX9_reckons 95 = .ok (.getfield 69, 3) := by decide +kernel
theorem dX9_reckons_98 : decode cX9_reckons 98 = .ok (.iload_n 1, 1) := by decide +kernel
theorem dX9_reckons_99 : decode cX9_reckons 99 = .ok (.iaload, 1) := by decide +kernel
theorem dX9_reckons_100 : decode cX9_reckons 100 = .ok (.imul, 1) := by decide +kernel
theorem dX9_reckons_101 : decode cX9_reckons 101 = .ok (.iload_n 2, 1) := by decide +kernel
theorem dX9_reckons_102 : decode cX9_reckons 102 = .ok (.iadd, 1) := by decide +kernel
theorem dX9_reckons_103 : decode cX9_reckons 103 = .ok (.aload_n 0, 1) := by decide +kernel
theorem dX9_reckons_104 : decode cX9_reckons 104 = .ok (.getfield 7, 3) := by decide +kernel
theorem dX9_reckons_107 : decode cX9_reckons 107 = .ok (.aload_n 0, 1) := by decide +kernel
theorem dX9_reckons_108 : decode cX9_reckons 108 = .ok (.getfield 75, 3) := by decide +kernel
theorem dX9_reckons_111 : decode cX9_reckons 111 = .ok (.bipush 36, 2) := by decide +kernel
theorem dX9_reckons_113 : decode cX9_reckons 113 = .ok (.iload_n 1, 1) := by decide +kernel
theorem dX9_reckons_114 : decode cX9_reckons 114 = .ok (.imul, 1) := by decide +kernel
theorem dX9_reckons_115 : decode cX9_reckons 115 = .ok (.aload_n 0, 1) := by decide +kernel
theorem dX9_reckons_116 : decode cX9_reckons 116 = .ok (.getfield 66, 3) := by decide +kernel
theorem dX9_reckons_119 : decode cX9_reckons 119 = .ok (.iload_n 2, 1) := by decide +kernel
theorem dX9_reckons_120 : decode cX9_reckons 120 = .ok (.iaload, 1) := by decide +kernel
theorem dX9_reckons_121 : decode cX9_reckons 121 = .ok (.iadd, 1) := by decide +kernel
theorem dX9_reckons_122 : decode cX9_reckons 122 = .ok (.iaload, 1) := by decide +kernel
theorem dX9_reckons_123 : decode cX9_reckons 123 = .ok (.isub, 1) := by decide +kernel
theorem dX9_reckons_124 : decode cX9_reckons 124 = .ok (.aload_n 0, 1) := by decide +kernel
theorem dX9_reckons_125 : decode cX9_reckons 125 = .ok (.getfield 7, 3) := by decide +kernel
theorem dX9_reckons_128 : decode cX9_reckons 128 = .ok (.irem, 1) := by decide +kernel
theorem dX9_reckons_129 : decode cX9_reckons 129 = .ok (.iastore, 1) := by decide +kernel
theorem dX9_reckons_130 : decode cX9_reckons 130 = .ok (.iinc 2 1, 3) := by decide +kernel
theorem dX9_reckons_133 : decode cX9_reckons 133 = .ok (.goto (-53), 3) := by decide +kernel
theorem dX9_reckons_136 : decode cX9_reckons 136 = .ok (.iinc 1 1, 3) := by decide +kernel
theorem dX9_reckons_139 : decode cX9_reckons 139 = .ok (.goto (-69), 3) := by decide +kernel
theorem dX9_reckons_142 : decode cX9_reckons 142 = .ok (.aload_n 0, 1) := by decide +kernel
theorem dX9_reckons_143 : decode cX9_reckons 143 = .ok (.aload_n 0, 1) := by decide +kernel
theorem dX9_reckons_144 : decode cX9_reckons 144 = .ok (.aload_n 0, 1) := by decide +kernel
theorem dX9_reckons_145 : decode cX9_reckons 145 = .ok (.getfield 326, 3) := by decide +kernel
theorem dX9_reckons_148 : decode cX9_reckons 148 = .ok (.sipush 10000, 3) := by decide +kernel
theorem dX9_reckons_151 : decode cX9_reckons 151 = .ok (.invokevirtual 335, 3) := by decide +kernel
theorem dX9_reckons_154 : decode cX9_reckons 154 = .ok (.putfield 347, 3) := by decide +kernel
theorem dX9_reckons_157 : decode cX9_reckons 157 = .ok (.iconst 0, 1) := by decide +kernel
theorem dX9_reckons_158 : decode cX9_reckons 158 = .ok (.istore_n 1, 1) := by decide +kernel
theorem dX9_reckons_159 : decode cX9_reckons 159 = .ok (.iload_n 1, 1) := by decide +kernel
theorem dX9_reckons_160 : decode cX9_reckons 160 = .ok (.aload_n 0, 1) := by decide +kernel
theorem dX9_reckons_161 : decode cX9_reckons 161 = .ok (.getfield 347, 3) := by decide +kernel
theorem dX9_reckons_164 : decode cX9_reckons 164 = .ok (.if_icmp .ge 23, 3) := by decide +kernel
theorem dX9_reckons_167 : decode cX9_reckons 167 = .ok (.aload_n 0, 1) := by decide +kernel
theorem dX9_reckons_168 : decode cX9_reckons 168 = .ok (.getfield 105, 3) := by decide +kernel
theorem dX9_reckons_171 : decode cX9_reckons 171 = .ok (.iload_n 1, 1) := by decide +kernel
theorem dX9_reckons_172 : decode cX9_reckons 172 = .ok (.iconst (-1), 1) := by decide +kernel
theorem dX9_reckons_173 : decode cX9_reckons 173 = .ok (.iastore, 1) := by decide +kernel
theorem dX9_reckons_174 : decode cX9_reckons 174 = .ok (.aload_n 0, 1) := by decide +kernel
theorem dX9_reckons_175 : decode cX9_reckons 175 = .ok (.getfield 111, 3) := by decide +kernel
theorem dX9_reckons_178 : decode cX9_reckons 178 = .ok (.iload_n 1, 1) := by decide +kernel
theorem dX9_reckons_179 : decode cX9_reckons 179 = .ok (.iconst 0, 1) := by decide +kernel
theorem dX9_reckons_180 : decode cX9_reckons 180 = .ok (.iastore, 1) := by decide +kernel
theorem dX9_reckons_181 : decode cX9_reckons 181 = .ok (.iinc 1 1, 3) := by decide +kernel
theorem dX9_reckons_184 : decode cX9_reckons 184 = .ok (.goto (-25), 3) := by decide +kernel
theorem dX9_reckons_187 : decode cX9_reckons 187 = .ok (.aload_n 0, 1) := by decide +kernel
theorem dX9_reckons_188 : decode cX9_reckons 188 = .ok (.getfield 105, 3) := by decide +kernel
theorem dX9_reckons_191 : decode cX9_reckons 191 = .ok (.iconst 0, 1) := by decide +kernel
theorem dX9_reckons_192 : decode cX9_reckons 192 = .ok (.iconst 0, 1) := by decide +kernel
theorem dX9_reckons_193 : decode cX9_reckons 193 = .ok (.iastore, 1) := by decide +kernel
theorem dX9_reckons_194 : decode cX9_reckons 194 = .ok (.aload_n 0, 1) := by decide +kernel
theorem dX9_reckons_195 : decode cX9_reckons 195 = .ok (.getfield 108, 3) := by decide +kernel
theorem dX9_reckons_198 : decode cX9_reckons 198 = .ok (.iconst 0, 1) := by decide +kernel
theorem dX9_reckons_199 : decode cX9_reckons 199 = .ok (.iconst 0, 1) := by decide +kernel
theorem dX9_reckons_200 : decode cX9_reckons 200 = .ok (.iastore, 1) := by decide +kernel
theorem dX9_reckons_201 : decode cX9_reckons 201 = .ok (.iconst 1, 1) := by decide +kernel
theorem dX9_reckons_202 : decode cX9_reckons 202 = .ok (.istore_n 1, 1) := by decide +kernel
theorem dX9_reckons_203 : decode cX9_reckons 203 = .ok (.iconst 0, 1) := by decide +kernel
theorem dX9_reckons_204 : decode cX9_reckons 204 = .ok (.istore_n 2, 1) := by decide +kernel
theorem dX9_reckons_205 : decode cX9_reckons 205 = .ok (.iload_n 2, 1) := by decide +kernel
theorem dX9_reckons_206 : decode cX9_reckons 206 = .ok (.iload_n 1, 1) := by decide +kernel
theorem dX9_reckons_207 : decode cX9_reckons 207 = .ok (.if_icmp .ge 116, 3) := by decide +kernel
theorem dX9_reckons_210 : decode cX9_reckons 210 = .ok (.aload_n 0, 1) := by decide +kernel
theorem dX9_reckons_211 : decode cX9_reckons 211 = .ok (.aload_n 0, 1) := by decide +kernel
theorem dX9_reckons_212 : decode cX9_reckons 212 = .ok (.getfield 105, 3) := by decide +kernel
theorem dX9_reckons_215 : decode cX9_reckons 215 = .ok (.aload_n 0, 1) := by decide +kernel
theorem dX9_reckons_216 : decode cX9_reckons 216 = .ok (.getfield 108, 3) := by decide +kernel
theorem dX9_reckons_219 : decode cX9_reckons 219 = .ok (.iload_n 2, 1) := by decide +kernel
theorem dX9_reckons_220 : decode cX9_reckons 220 = .ok (.iaload, 1) := by decide +kernel
theorem dX9_reckons_221 : decode cX9_reckons 221 = .ok (.iaload, 1) := by decide +kernel
theorem dX9_reckons_222 : decode cX9_reckons 222 = .ok (.putfield 350, 3) := by decide +kernel
theorem dX9_reckons_225 : decode cX9_reckons 225 = .ok (.aload_n 0, 1) := by decide +kernel
theorem dX9_reckons_226 : decode cX9_reckons 226 = .ok (.getfield 111, 3) := by decide +kernel
theorem dX9_reckons_229 : decode cX9_reckons 229 = .ok (.aload_n 0, 1) := by decide +kernel
theorem dX9_reckons_230 : decode cX9_reckons 230 = .ok (.getfield 350, 3) := by decide +kernel
theorem dX9_reckons_233 : decode cX9_reckons 233 = .ok (.dup2, 1) := by decide +kernel
theorem dX9_reckons_234 : decode cX9_reckons 234 = .ok (.iaload, 1) := by decide +kernel
theorem dX9_reckons_235 : decode cX9_reckons 235 = .ok (.iconst 1, 1) := by decide +kernel
theorem dX9_reckons_236 : decode cX9_reckons 236 = .ok (.iadd, 1) := by decide +kernel
theorem dX9_reckons_237 : decode cX9_reckons 237 = .ok (.iastore, 1) := by decide +kernel
theorem dX9_reckons_238 : decode cX9_reckons 238 = .ok (.iconst 0, 1) := by decide +kernel
theorem dX9_reckons_239 : decode cX9_reckons 239 = .ok (.istore_n 3, 1) := by decide +kernel
theorem dX9_reckons_240 : decode cX9_reckons 240 = .ok (.iload_n 3, 1) := by decide +kernel
theorem dX9_reckons_241 : decode cX9_reckons 241 = .ok (.aload_n 0, 1) := by decide +kernel
theorem dX9_reckons_242 : decode cX9_reckons 242 = .ok (.getfield 268, 3) := by decide +kernel
theorem dX9_reckons_245 : decode cX9_reckons 245 = .ok (.if_icmp .ge 72, 3) := by decide +kernel
theorem dX9_reckons_248 : decode cX9_reckons 248 = .ok (.aload_n 0, 1) := by decide +kernel
theorem dX9_reckons_249 : decode cX9_reckons 249 = .ok (.getfield 20, 3) := by decide +kernel
theorem dX9_reckons_252 : decode cX9_reckons 252 = .ok (.iload_n 3, 1) := by decide +kernel
theorem dX9_reckons_253 : decode cX9_reckons 253 = .ok (.baload, 1) := by decide +kernel
theorem dX9_reckons_254 : decode cX9_reckons 254 = .ok (.ifCond .eq 6, 3) := by decide +kernel
theorem dX9_reckons_257 : decode cX9_reckons 257 = .ok (.goto 54, 3) := by decide +kernel
theorem dX9_reckons_260 : decode cX9_reckons 260 = .ok (.aload_n 0, 1) := by decide +kernel
theorem dX9_reckons_261 : decode cX9_reckons 261 = .ok (.aload_n 0, 1) := by decide +kernel
theorem dX9_reckons_262 : decode cX9_reckons 262 = .ok (.getfield 108, 3) := by decide +kernel
theorem dX9_reckons_265 : decode cX9_reckons 265 = .ok (.iload_n 2, 1) := by decide +kernel
theorem dX9_reckons_266 : decode cX9_reckons 266 = .ok (.iaload, 1) := by decide +kernel
theorem dX9_reckons_267 : decode cX9_reckons 267 = .ok (.iload_n 3, 1) := by decide +kernel
theorem dX9_reckons_268 : decode cX9_reckons 268 = .ok (.invokevirtual 353, 3) := by decide +kernel
theorem dX9_reckons_271 : decode cX9_reckons 271 = .ok (.istore 4, 2) := by decide +kernel
theorem dX9_reckons_273 : decode cX9_reckons 273 = .ok (.aload_n 0, 1) := by decide +kernel
theorem dX9_reckons_274 : decode cX9_reckons 274 = .ok (.getfield 105, 3) := by decide +kernel
theorem dX9_reckons_277 : decode cX9_reckons 277 = .ok (.iload 4, 2) := by decide +kernel
theorem dX9_reckons_279 : decode cX9_reckons 279 = .ok (.iaload, 1) := by decide +kernel
theorem dX9_reckons_280 : decode cX9_reckons 280 = .ok (.iconst (-1), 1) := by decide +kernel
theorem dX9_reckons_281 : decode cX9_reckons 281 = .ok (.if_icmp .eq 6, 3) := by decide +kernel
theorem dX9_reckons_284 : decode cX9_reckons 284 = .ok (.goto 27, 3) := by decide +kernel
theorem dX9_reckons_287 : decode cX9_reckons 287 = .ok (.aload_n 0, 1) := by decide +kernel
theorem dX9_reckons_288 : decode cX9_reckons 288 = .ok (.getfield 105, 3) := by decide +kernel
theorem dX9_reckons_291 : decode cX9_reckons 291 = .ok (.iload 4, 2) := by decide +kernel
theorem dX9_reckons_293 : decode cX9_reckons 293 = .ok (.aload_n 0, 1) := by decide +kernel
theorem dX9_reckons_294 : decode cX9_reckons 294 = .ok (.getfield 350, 3) := by decide +kernel
theorem dX9_reckons_297 : decode cX9_reckons 297 = .ok (.iconst 1, 1) := by decide +kernel
theorem dX9_reckons_298 : decode cX9_reckons 298 = .ok (.iadd, 1) := by decide +kernel
theorem dX9_reckons_299 : decode cX9_reckons 299 = .ok (.iastore, 1) := by decide +kernel
theorem dX9_reckons_300 : decode cX9_reckons 300 = .ok (.aload_n 0, 1) := by decide +kernel
theorem dX9_reckons_301 : decode cX9_reckons 301 = .ok (.getfield 108, 3) := by decide +kernel
theorem dX9_reckons_304 : decode cX9_reckons 304 = .ok (.iload_n 1, 1) := by decide +kernel
theorem dX9_reckons_305 : decode cX9_reckons 305 = .ok (.iload 4, 2) := by decide +kernel
theorem dX9_reckons_307 : decode cX9_reckons 307 = .ok (.iastore, 1) := by decide +kernel
theorem dX9_reckons_308 : decode cX9_reckons 308 = .ok (.iinc 1 1, 3) := by decide +kernel
theorem dX9_reckons_311 : decode cX9_reckons 311 = .ok (.iinc 3 1, 3) := by decide +kernel
theorem dX9_reckons_314 : decode cX9_reckons 314 = .ok (.goto (-74), 3) := by decide +kernel
theorem dX9_reckons_317 : decode cX9_reckons 317 = .ok (.iinc 2 1, 3) := by decide +kernel
theorem dX9_reckons_320 : decode cX9_reckons 320 = .ok (.goto (-115), 3) := by decide +kernel
theorem dX9_reckons_323 : decode cX9_reckons 323 = .ok (.return_, 1) := by decide +kernel
theorem dX9_hard_0 : decode cX9_hard 0 = .ok (.aload_n 0, 1) := by decide +kernel
theorem dX9_hard_1 : decode cX9_hard 1 = .ok (.iconst 0, 1) := by decide +kernel
theorem dX9_hard_2 : decode cX9_hard 2 = .ok (.putfield 138, 3) := by decide +kernel
theorem dX9_hard_5 : decode cX9_hard 5 = .ok (.aload_n 0, 1) := by decide +kernel
theorem dX9_hard_6 : decode cX9_hard 6 = .ok (.invokevirtual 329, 3) := by decide +kernel
theorem dX9_hard_9 : decode cX9_hard 9 = .ok (.aload_n 0, 1) := by decide +kernel
theorem dX9_hard_10 : decode cX9_hard 10 = .ok (.aload_n 0, 1) := by decide +kernel
theorem dX9_hard_11 : decode cX9_hard 11 = .ok (.getfield 326, 3) := by decide +kernel
theorem dX9_hard_14 : decode cX9_hard 14 = .ok (.sipush 10000, 3) := by decide +kernel
theorem dX9_hard_17 : decode cX9_hard 17 = .ok (.invokevirtual 335, 3) := by decide +kernel
theorem dX9_hard_20 : decode cX9_hard 20 = .ok (.sipush 10000, 3) := by decide +kernel
theorem dX9_hard_23 : decode cX9_hard 23 = .ok (.if_icmp .le 6, 3) := by decide +kernel
theorem dX9_hard_26 : decode cX9_hard 26 = .ok (.bipush (-2), 2) := by decide +kernel
theorem dX9_hard_28 : decode cX9_hard 28 = .ok (.ireturn, 1) := by decide +kernel
theorem dX9_hard_29 : decode cX9_hard 29 = .ok (.aload_n 0, 1) := by decide +kernel
theorem dX9_hard_30 : decode cX9_hard 30 = .ok (.invokevirtual 356, 3) := by decide +kernel
theorem dX9_hard_33 : decode cX9_hard 33 = .ok (.iload_n 1, 1) := by decide +kernel
theorem dX9_hard_34 : decode cX9_hard 34 = .ok (.iconst (-1), 1) := by decide +kernel
theorem dX9_hard_35 : decode cX9_hard 35 = .ok (.if_icmp .ne 10, 3) := by decide +kernel
theorem dX9_hard_38 : decode cX9_hard 38 = .ok (.aload_n 0, 1) := by decide +kernel
theorem dX9_hard_39 : decode cX9_hard 39 = .ok (.getfield 350, 3) := by decide +kernel
theorem dX9_hard_42 : decode cX9_hard 42 = .ok (.goto 25, 3) := by decide +kernel
theorem dX9_hard_45 : decode cX9_hard 45 = .ok (.iload_n 1, 1) := by decide +kernel
theorem dX9_hard_46 : decode cX9_hard 46 = .ok (.ifCond .lt 11, 3) := by decide +kernel
theorem dX9_hard_49 : decode cX9_hard 49 = .ok (.iload_n 1, 1) := by decide +kernel
theorem dX9_hard_50 : decode cX9_hard 50 = .ok (.aload_n 0, 1) := by decide +kernel
theorem dX9_hard_51 : decode cX9_hard 51 = .ok (.getfield 350, 3) := by decide +kernel
theorem dX9_hard_54 : decode cX9_hard 54 = .ok (.if_icmp .le 7, 3) := by decide +kernel
theorem dX9_hard_57 : decode cX9_hard 57 = .ok (.iconst 0, 1) := by decide +kernel
theorem dX9_hard_58 : decode cX9_hard 58 = .ok (.goto 9, 3) := by decide +kernel
theorem dX9_hard_61 : decode cX9_hard 61 = .ok (.aload_n 0, 1) := by decide +kernel
theorem dX9_hard_62 : decode cX9_hard 62 = .ok (.getfield 111, 3) := by decide +kernel
theorem dX9_hard_65 : decode cX9_hard 65 = .ok (.iload_n 1, 1) := by decide +kernel
theorem dX9_hard_66 : decode cX9_hard 66 = .ok (.iaload, 1) := by decide +kernel
theorem dX9_hard_67 : decode cX9_hard 67 = .ok (.ireturn, 1) := by decide +kernel
theorem dX9_nearest_0 : decode cX9_nearest 0 = .ok (.aload_n 0, 1) := by decide +kernel
theorem dX9_nearest_1 : decode cX9_nearest 1 = .ok (.iconst 0, 1) := by decide +kernel
theorem dX9_nearest_2 : decode cX9_nearest 2 = .ok (.putfield 138, 3) := by decide +kernel
theorem dX9_nearest_5 : decode cX9_nearest 5 = .ok (.aload_n 0, 1) := by decide +kernel
theorem dX9_nearest_6 : decode cX9_nearest 6 = .ok (.invokevirtual 329, 3) := by decide +kernel
theorem dX9_nearest_9 : decode cX9_nearest 9 = .ok (.aload_n 0, 1) := by decide +kernel
theorem dX9_nearest_10 : decode cX9_nearest 10 = .ok (.aload_n 0, 1) := by decide +kernel
theorem dX9_nearest_11 : decode cX9_nearest 11 = .ok (.getfield 326, 3) := by decide +kernel
theorem dX9_nearest_14 : decode cX9_nearest 14 = .ok (.sipush 10000, 3) := by decide +kernel
theorem dX9_nearest_17 : decode cX9_nearest 17 = .ok (.invokevirtual 335, 3) := by decide +kernel
theorem dX9_nearest_20 : decode cX9_nearest 20 = .ok (.sipush 10000, 3) := by decide +kernel
theorem dX9_nearest_23 : decode cX9_nearest 23 = .ok (.if_icmp .le 6, 3) := by decide +kernel
theorem dX9_nearest_26 : decode cX9_nearest 26 = .ok (.bipush (-2), 2) := by decide +kernel
theorem dX9_nearest_28 : decode cX9_nearest 28 = .ok (.ireturn, 1) := by decide +kernel
theorem dX9_nearest_29 : decode cX9_nearest 29 = .ok (.iconst 0, 1) := by decide +kernel
theorem dX9_nearest_30 : decode cX9_nearest 30 = .ok (.istore_n 1, 1) := by decide +kernel
theorem dX9_nearest_31 : decode cX9_nearest 31 = .ok (.iload_n 1, 1) := by decide +kernel
theorem dX9_nearest_32 : decode cX9_nearest 32 = .ok (.aload_n 0, 1) := by decide +kernel
theorem dX9_nearest_33 : decode cX9_nearest 33 = .ok (.getfield 268, 3) := by decide +kernel
theorem dX9_nearest_36 : decode cX9_nearest 36 = .ok (.if_icmp .ge 21, 3) := by decide +kernel
theorem dX9_nearest_39 : decode cX9_nearest 39 = .ok (.aload_n 0, 1) := by decide +kernel
theorem dX9_nearest_40 : decode cX9_nearest 40 = .ok (.getfield 117, 3) := by decide +kernel
theorem dX9_nearest_43 : decode cX9_nearest 43 = .ok (.iload_n 1, 1) := by decide +kernel
theorem dX9_nearest_44 : decode cX9_nearest 44 = .ok (.aload_n 0, 1) := by decide +kernel
theorem dX9_nearest_45 : decode cX9_nearest 45 = .ok (.getfield 24, 3) := by decide +kernel
theorem dX9_nearest_48 : decode cX9_nearest 48 = .ok (.iload_n 1, 1) := by decide +kernel
theorem dX9_nearest_49 : decode cX9_nearest 49 = .ok (.iaload, 1) := by decide +kernel
theorem dX9_nearest_50 : decode cX9_nearest 50 = .ok (.iastore, 1) := by decide +kernel
theorem dX9_nearest_51 : decode cX9_nearest 51 = .ok (.iinc 1 1, 3) := by decide +kernel
theorem dX9_nearest_54 : decode cX9_nearest 54 = .ok (.goto (-23), 3) := by decide +kernel
theorem dX9_nearest_57 : decode cX9_nearest 57 = .ok (.iconst 0, 1) := by decide +kernel
theorem dX9_nearest_58 : decode cX9_nearest 58 = .ok (.istore_n 1, 1) := by decide +kernel
theorem dX9_nearest_59 : decode cX9_nearest 59 = .ok (.iload_n 1, 1) := by decide +kernel
theorem dX9_nearest_60 : decode cX9_nearest 60 = .ok (.aload_n 0, 1) := by decide +kernel
theorem dX9_nearest_61 : decode cX9_nearest 61 = .ok (.getfield 326, 3) := by decide +kernel
theorem dX9_nearest_64 : decode cX9_nearest 64 = .ok (.if_icmp .ge 16, 3) := by decide +kernel
theorem dX9_nearest_67 : decode cX9_nearest 67 = .ok (.aload_n 0, 1) := by decide +kernel
theorem dX9_nearest_68 : decode cX9_nearest 68 = .ok (.getfield 99, 3) := by decide +kernel
theorem dX9_nearest_71 : decode cX9_nearest 71 = .ok (.iload_n 1, 1) := by decide +kernel
theorem dX9_nearest_72 : decode cX9_nearest 72 = .ok (.iconst 0, 1) := by decide +kernel
theorem dX9_nearest_73 : decode cX9_nearest 73 = .ok (.iastore, 1) := by decide +kernel
theorem dX9_nearest_74 : decode cX9_nearest 74 = .ok (.iinc 1 1, 3) := by decide +kernel
theorem dX9_nearest_77 : decode cX9_nearest 77 = .ok (.goto (-18), 3) := by decide +kernel
theorem dX9_nearest_80 : decode cX9_nearest 80 = .ok (.iconst (-1), 1) := by decide +kernel
theorem dX9_nearest_81 : decode cX9_nearest 81 = .ok (.istore_n 1, 1) := by decide +kernel
theorem dX9_nearest_82 : decode cX9_nearest 82 = .ok (.iconst 1, 1) := by decide +kernel
theorem dX9_nearest_83 : decode cX9_nearest 83 = .ok (.istore_n 2, 1) := by decide +kernel
theorem dX9_nearest_84 : decode cX9_nearest 84 = .ok (.iload_n 2, 1) := by decide +kernel
theorem dX9_nearest_85 : decode cX9_nearest 85 = .ok (.ifCond .eq 112, 3) := by decide +kernel
theorem dX9_nearest_88 : decode cX9_nearest 88 = .ok (.iconst 0, 1) := by decide +kernel
theorem dX9_nearest_89 : decode cX9_nearest 89 = .ok (.istore_n 3, 1) := by decide +kernel
theorem dX9_nearest_90 : decode cX9_nearest 90 = .ok (.iconst 0, 1) := by decide +kernel
theorem dX9_nearest_91 : decode cX9_nearest 91 = .ok (.istore 4, 2) := by decide +kernel
theorem dX9_nearest_93 : decode cX9_nearest 93 = .ok (.iload 4, 2) := by decide +kernel
theorem dX9_nearest_95 : decode cX9_nearest 95 = .ok (.aload_n 0, 1) := by decide +kernel
theorem dX9_nearest_96 : decode cX9_nearest 96 = .ok (.getfield 268, 3) := by decide +kernel
theorem dX9_nearest_99 : decode cX9_nearest 99 = .ok (.if_icmp .ge 34, 3) := by decide +kernel
theorem dX9_nearest_102 : decode cX9_nearest 102 = .ok (.iload_n 3, 1) := by decide +kernel
theorem dX9_nearest_103 : decode cX9_nearest 103 = .ok (.aload_n 0, 1) := by decide +kernel
theorem dX9_nearest_104 : decode cX9_nearest 104 = .ok (.getfield 117, 3) := by decide +kernel
theorem dX9_nearest_107 : decode cX9_nearest 107 = .ok (.iload 4, 2) := by decide +kernel
theorem dX9_nearest_109 : decode cX9_nearest 109 = .ok (.iaload, 1) := by decide +kernel
theorem dX9_nearest_110 : decode cX9_nearest 110 = .ok (.aload_n 0, 1) := by decide +kernel
theorem dX9_nearest_111 : decode cX9_nearest 111 = .ok (.getfield 27, 3) := by decide +kernel
theorem dX9_nearest_114 : decode cX9_nearest 114 = .ok (.iload 4, 2) := by decide +kernel
theorem dX9_nearest_116 : decode cX9_nearest 116 = .ok (.iaload, 1) := by decide +kernel
theorem dX9_nearest_117 : decode cX9_nearest 117 = .ok (.if_icmp .eq 7, 3) := by decide +kernel
theorem dX9_nearest_120 : decode cX9_nearest 120 = .ok (.iconst 1, 1) := by decide +kernel
theorem dX9_nearest_121 : decode cX9_nearest 121 = .ok (.goto 4, 3) := by decide +kernel
theorem dX9_nearest_124 : decode cX9_nearest 124 = .ok (.iconst 0, 1) := by decide +kernel
theorem dX9_nearest_125 : decode cX9_nearest 125 = .ok (.iadd, 1) := by decide +kernel
theorem dX9_nearest_126 : decode cX9_nearest 126 = .ok (.istore_n 3, 1) := by decide +kernel
theorem dX9_nearest_127 : decode cX9_nearest 127 = .ok (.iinc 4 1, 3) := by decide +kernel
theorem dX9_nearest_130 : decode cX9_nearest 130 = .ok (.goto (-37), 3) := by decide +kernel
theorem dX9_nearest_133 : decode cX9_nearest 133 = .ok (.iload_n 1, 1) := by decide +kernel
theorem dX9_nearest_134 : decode cX9_nearest 134 = .ok (.iconst (-1), 1) := by decide +kernel
theorem dX9_nearest_135 : decode cX9_nearest 135 = .ok (.if_icmp .eq 20, 3) := by decide +kernel
theorem dX9_nearest_138 : decode cX9_nearest 138 = .ok (.iload_n 3, 1) := by decide +kernel
theorem dX9_nearest_139 : decode cX9_nearest 139 = .ok (.iload_n 1, 1) := by decide +kernel
theorem dX9_nearest_140 : decode cX9_nearest 140 = .ok (.if_icmp .lt 15, 3) := by decide +kernel
theorem dX9_nearest_143 : decode cX9_nearest 143 = .ok (.iload_n 3, 1) := by decide +kernel
theorem dX9_nearest_144 : decode cX9_nearest 144 = .ok (.iload_n 1, 1) := by decide +kernel
theorem dX9_nearest_145 : decode cX9_nearest 145 = .ok (.if_icmp .ne 44, 3) := by decide +kernel
theorem dX9_nearest_148 : decode cX9_nearest 148 = .ok (.aload_n 0, 1) := by decide +kernel
theorem dX9_nearest_149 : decode cX9_nearest 149 = .ok (.invokevirtual 359, 3) := by decide +kernel
theorem dX9_nearest_152 : decode cX9_nearest 152 = .ok (.ifCond .eq 37, 3) := by decide +kernel
theorem dX9_nearest_155 : decode cX9_nearest 155 = .ok (.iload_n 3, 1) := by decide +kernel
theorem dX9_nearest_156 : decode cX9_nearest 156 = .ok (.istore_n 1, 1) := by decide +kernel
theorem dX9_nearest_157 : decode cX9_nearest 157 = .ok (.iconst 0, 1) := by decide +kernel
theorem dX9_nearest_158 : decode cX9_nearest 158 = .ok (.istore 4, 2) := by decide +kernel
theorem dX9_nearest_160 : decode cX9_nearest 160 = .ok (.iload 4, 2) := by decide +kernel
theorem dX9_nearest_162 : decode cX9_nearest 162 = .ok (.aload_n 0, 1) := by decide +kernel
theorem dX9_nearest_163 : decode cX9_nearest 163 = .ok (.getfield 268, 3) := by decide +kernel
theorem dX9_nearest_166 : decode cX9_nearest 166 = .ok (.if_icmp .ge 23, 3) := by decide +kernel
theorem dX9_nearest_169 : decode cX9_nearest 169 = .ok (.aload_n 0, 1) := by decide +kernel
theorem dX9_nearest_170 : decode cX9_nearest 170 = .ok (.getfield 114, 3) := by decide +kernel
theorem dX9_nearest_173 : decode cX9_nearest 173 = .ok (.iload 4, 2) := by decide +kernel
theorem dX9_nearest_175 : decode cX9_nearest 175 = .ok (.aload_n 0, 1) := by decide +kernel
theorem dX9_nearest_176 : decode cX9_nearest 176 = .ok (.getfield 117, 3) := by decide +kernel
theorem dX9_nearest_179 : decode cX9_nearest 179 = .ok (.iload 4, 2) := by decide +kernel
theorem dX9_nearest_181 : decode cX9_nearest 181 = .ok (.iaload, 1) := by decide +kernel
theorem dX9_nearest_182 : decode cX9_nearest 182 = .ok (.iastore, 1) := by decide +kernel
theorem dX9_nearest_183 : decode cX9_nearest 183 = .ok (.iinc 4 1, 3) := by decide +kernel
theorem dX9_nearest_186 : decode cX9_nearest 186 = .ok (.goto (-26), 3) := by decide +kernel
theorem dX9_nearest_189 : decode cX9_nearest 189 = .ok (.aload_n 0, 1) := by decide +kernel
theorem dX9_nearest_190 : decode cX9_nearest 190 = .ok (.invokevirtual 362, 3) := by decide +kernel
theorem dX9_nearest_193 : decode cX9_nearest 193 = .ok (.istore_n 2, 1) := by decide +kernel
theorem dX9_nearest_194 : decode cX9_nearest 194 = .ok (.goto (-110), 3) := by decide +kernel
theorem dX9_nearest_197 : decode cX9_nearest 197 = .ok (.aload_n 0, 1) := by decide +kernel
theorem dX9_nearest_198 : decode cX9_nearest 198 = .ok (.iconst 1, 1) := by decide +kernel
theorem dX9_nearest_199 : decode cX9_nearest 199 = .ok (.putfield 284, 3) := by decide +kernel
theorem dX9_nearest_202 : decode cX9_nearest 202 = .ok (.iload_n 1, 1) := by decide +kernel
theorem dX9_nearest_203 : decode cX9_nearest 203 = .ok (.ireturn, 1) := by decide +kernel
theorem dX9_isShownAhead_0 : decode cX9_isShownAhead 0 = .ok (.iconst 0, 1) := by decide +kernel
theorem dX9_isShownAhead_1 : decode cX9_isShownAhead 1 = .ok (.istore_n 1, 1) := by decide +kernel
theorem dX9_isShownAhead_2 : decode cX9_isShownAhead 2 = .ok (.iload_n 1, 1) := by decide +kernel
theorem dX9_isShownAhead_3 : decode cX9_isShownAhead 3 = .ok (.aload_n 0, 1) := by decide +kernel
theorem dX9_isShownAhead_4 : decode cX9_isShownAhead 4 = .ok (.getfield 268, 3) := by decide +kernel
theorem dX9_isShownAhead_7 : decode cX9_isShownAhead 7 = .ok (.if_icmp .ge 45, 3) := by decide +kernel
theorem dX9_isShownAhead_10 : decode cX9_isShownAhead 10 = .ok (.aload_n 0, 1) := by decide +kernel
theorem dX9_isShownAhead_11 : decode cX9_isShownAhead 11 = .ok (.getfield 117, 3) := by decide +kernel
theorem dX9_isShownAhead_14 : decode cX9_isShownAhead 14 = .ok (.iload_n 1, 1) := by decide +kernel
theorem dX9_isShownAhead_15 : decode cX9_isShownAhead 15 = .ok (.iaload, 1) := by decide +kernel
theorem dX9_isShownAhead_16 : decode cX9_isShownAhead 16 = .ok (.aload_n 0, 1) := by decide +kernel
theorem dX9_isShownAhead_17 : decode cX9_isShownAhead 17 = .ok (.getfield 114, 3) := by decide +kernel
theorem dX9_isShownAhead_20 : decode cX9_isShownAhead 20 = .ok (.iload_n 1, 1) := by decide +kernel
theorem dX9_isShownAhead_21 : decode cX9_isShownAhead 21 = .ok (.iaload, 1) := by decide +kernel
theorem dX9_isShownAhead_22 : decode cX9_isShownAhead 22 = .ok (.if_icmp .eq 24, 3) := by decide +kernel
theorem dX9_isShownAhead_25 : decode cX9_isShownAhead 25 = .ok (.aload_n 0, 1) := by decide +kernel
theorem dX9_isShownAhead_26 : decode cX9_isShownAhead 26 = .ok (.getfield 117, 3) := by decide +kernel
theorem dX9_isShownAhead_29 : decode cX9_isShownAhead 29 = .ok (.iload_n 1, 1) := by decide +kernel
theorem dX9_isShownAhead_30 : decode cX9_isShownAhead 30 = .ok (.iaload, 1) := by decide +kernel
theorem dX9_isShownAhead_31 : decode cX9_isShownAhead 31 = .ok (.aload_n 0, 1) := by decide +kernel
theorem dX9_isShownAhead_32 : decode cX9_isShownAhead 32 = .ok (.getfield 114, 3) := by decide +kernel
theorem dX9_isShownAhead_35 : decode cX9_isShownAhead 35 = .ok (.iload_n 1, 1) := by decide +kernel
theorem dX9_isShownAhead_36 : decode cX9_isShownAhead 36 = .ok (.iaload, 1) := by decide +kernel
theorem dX9_isShownAhead_37 : decode cX9_isShownAhead 37 = .ok (.if_icmp .ge 7, 3) := by decide +kernel
theorem dX9_isShownAhead_40 : decode cX9_isShownAhead 40 = .ok (.iconst 1, 1) := by decide +kernel
theorem dX9_isShownAhead_41 : decode cX9_isShownAhead 41 = .ok (.goto 4, 3) := by decide +kernel
theorem dX9_isShownAhead_44 : decode cX9_isShownAhead 44 = .ok (.iconst 0, 1) := by decide +kernel
theorem dX9_isShownAhead_45 : decode cX9_isShownAhead 45 = .ok (.ireturn, 1) := by decide +kernel
theorem dX9_isShownAhead_46 : decode cX9_isShownAhead 46 = .ok (.iinc 1 1, 3) := by decide +kernel
theorem dX9_isShownAhead_49 : decode cX9_isShownAhead 49 = .ok (.goto (-47), 3) := by decide +kernel
theorem dX9_isShownAhead_52 : decode cX9_isShownAhead 52 = .ok (.iconst 0, 1) := by decide +kernel
theorem dX9_isShownAhead_53 : decode cX9_isShownAhead 53 = .ok (.ireturn, 1) := by decide +kernel
theorem dX9_makes_0 : decode cX9_makes 0 = .ok (.iconst 0, 1) := by decide +kernel
theorem dX9_makes_1 : decode cX9_makes 1 = .ok (.istore_n 1, 1) := by decide +kernel
theorem dX9_makes_2 : decode cX9_makes 2 = .ok (.iload_n 1, 1) := by decide +kernel
theorem dX9_makes_3 : decode cX9_makes 3 = .ok (.aload_n 0, 1) := by decide +kernel
theorem dX9_makes_4 : decode cX9_makes 4 = .ok (.getfield 326, 3) := by decide +kernel
theorem dX9_makes_7 : decode cX9_makes 7 = .ok (.if_icmp .ge 91, 3) := by decide +kernel
theorem dX9_makes_10 : decode cX9_makes 10 = .ok (.iconst 0, 1) := by decide +kernel
theorem dX9_makes_11 : decode cX9_makes 11 = .ok (.istore_n 2, 1) := by decide +kernel
theorem dX9_makes_12 : decode cX9_makes 12 = .ok (.iload_n 2, 1) := by decide +kernel
theorem dX9_makes_13 : decode cX9_makes 13 = .ok (.aload_n 0, 1) := by decide +kernel
theorem dX9_makes_14 : decode cX9_makes 14 = .ok (.getfield 268, 3) := by decide +kernel
theorem dX9_makes_17 : decode cX9_makes 17 = .ok (.if_icmp .ge 43, 3) := by decide +kernel
theorem dX9_makes_20 : decode cX9_makes 20 = .ok (.aload_n 0, 1) := by decide +kernel
theorem dX9_makes_21 : decode cX9_makes 21 = .ok (.getfield 117, 3) := by decide +kernel
theorem dX9_makes_24 : decode cX9_makes 24 = .ok (.iload_n 2, 1) := by decide +kernel
theorem dX9_makes_25 : decode cX9_makes 25 = .ok (.aload_n 0, 1) := by decide +kernel
theorem dX9_makes_26 : decode cX9_makes 26 = .ok (.getfield 117, 3) := by decide +kernel
theorem dX9_makes_29 : decode cX9_makes 29 = .ok (.iload_n 2, 1) := by decide +kernel
theorem dX9_makes_30 : decode cX9_makes 30 = .ok (.iaload, 1) := by decide +kernel
theorem dX9_makes_31 : decode cX9_makes 31 = .ok (.aload_n 0, 1) := by decide +kernel
theorem dX9_makes_32 : decode cX9_makes 32 = .ok (.getfield 16, 3) := by decide +kernel
theorem dX9_makes_35 : decode cX9_makes 35 = .ok (.bipush 36, 2) := by decide +kernel
theorem dX9_makes_37 : decode cX9_makes 37 = .ok (.aload_n 0, 1) := by decide +kernel
theorem dX9_makes_38 : decode cX9_makes 38 = .ok (.getfield 66, 3) := by decide +kernel
theorem dX9_makes_41 : decode cX9_makes 41 = .ok (.iload_n 1, 1) := by decide +kernel
theorem dX9_makes_42 : decode cX9_makes 42 = .ok (.iaload, 1) := by decide +kernel
theorem dX9_makes_43 : decode cX9_makes 43 = .ok (.imul, 1) := by decide +kernel
theorem dX9_makes_44 : decode cX9_makes 44 = .ok (.iload_n 2, 1) := by decide +kernel
theorem dX9_makes_45 : decode cX9_makes 45 = .ok (.iadd, 1) := by decide +kernel
theorem dX9_makes_46 : decode cX9_makes 46 = .ok (.iaload, 1) := by decide +kernel
theorem dX9_makes_47 : decode cX9_makes 47 = .ok (.iadd, 1) := by decide +kernel
theorem dX9_makes_48 : decode cX9_makes 48 = .ok (.aload_n 0, 1) := by decide +kernel
theorem dX9_makes_49 : decode cX9_makes 49 = .ok (.getfield 7, 3) := by decide +kernel
theorem dX9_makes_52 : decode cX9_makes 52 = .ok (.irem, 1) := by decide +kernel
theorem dX9_makes_53 : decode cX9_makes 53 = .ok (.iastore, 1) := by decide +kernel
theorem dX9_makes_54 : decode cX9_makes 54 = .ok (.iinc 2 1, 3) := by decide +kernel
theorem dX9_makes_57 : decode cX9_makes 57 = .ok (.goto (-45), 3) := by decide +kernel
theorem dX9_makes_60 : decode cX9_makes 60 = .ok (.aload_n 0, 1) := by decide +kernel
theorem dX9_makes_61 : decode cX9_makes 61 = .ok (.getfield 99, 3) := by decide +kernel
theorem dX9_makes_64 : decode cX9_makes 64 = .ok (.iload_n 1, 1) := by decide +kernel
theorem dX9_makes_65 : decode cX9_makes 65 = .ok (.dup2, 1) := by decide +kernel
theorem dX9_makes_66 : decode cX9_makes 66 = .ok (.iaload, 1) := by decide +kernel
theorem dX9_makes_67 : decode cX9_makes 67 = .ok (.iconst 1, 1) := by decide +kernel
theorem dX9_makes_68 : decode cX9_makes 68 = .ok (.iadd, 1) := by decide +kernel
theorem dX9_makes_69 : decode cX9_makes 69 = .ok (.iastore, 1) := by decide +kernel
theorem dX9_makes_70 : decode cX9_makes 70 = .ok (.aload_n 0, 1) := by decide +kernel
theorem dX9_makes_71 : decode cX9_makes 71 = .ok (.getfield 99, 3) := by decide +kernel
theorem dX9_makes_74 : decode cX9_makes 74 = .ok (.iload_n 1, 1) := by decide +kernel
theorem dX9_makes_75 : decode cX9_makes 75 = .ok (.iaload, 1) := by decide +kernel
theorem dX9_makes_76 : decode cX9_makes 76 = .ok (.aload_n 0, 1) := by decide +kernel
theorem dX9_makes_77 : decode cX9_makes 77 = .ok (.getfield 7, 3) := by decide +kernel
theorem dX9_makes_80 : decode cX9_makes 80 = .ok (.if_icmp .ge 5, 3) := by decide +kernel
theorem dX9_makes_83 : decode cX9_makes 83 = .ok (.iconst 1, 1) := by decide +kernel
theorem dX9_makes_84 : decode cX9_makes 84 = .ok (.ireturn, 1) := by decide +kernel
theorem dX9_makes_85 : decode cX9_makes 85 = .ok (.aload_n 0, 1) := by decide +kernel
theorem dX9_makes_86 : decode cX9_makes 86 = .ok (.getfield 99, 3) := by decide +kernel
theorem dX9_makes_89 : decode cX9_makes 89 = .ok (.iload_n 1, 1) := by decide +kernel
theorem dX9_makes_90 : decode cX9_makes 90 = .ok (.iconst 0, 1) := by decide +kernel
theorem dX9_makes_91 : decode cX9_makes 91 = .ok (.iastore, 1) := by decide +kernel
theorem dX9_makes_92 : decode cX9_makes 92 = .ok (.iinc 1 1, 3) := by decide +kernel
theorem dX9_makes_95 : decode cX9_makes 95 = .ok (.goto (-93), 3) := by decide +kernel
theorem dX9_makes_98 : decode cX9_makes 98 = .ok (.iconst 0, 1) := by decide +kernel
theorem dX9_makes_99 : decode cX9_makes 99 = .ok (.ireturn, 1) := by decide +kernel
theorem dX9_near_0 : decode cX9_near 0 = .ok (.aload_n 0, 1) := by decide +kernel
theorem dX9_near_1 : decode cX9_near 1 = .ok (.iconst 0, 1) := by decide +kernel
theorem dX9_near_2 : decode cX9_near 2 = .ok (.putfield 138, 3) := by decide +kernel
theorem dX9_near_5 : decode cX9_near 5 = .ok (.aload_n 0, 1) := by decide +kernel
theorem dX9_near_6 : decode cX9_near 6 = .ok (.aload_n 0, 1) := by decide +kernel
theorem dX9_near_7 : decode cX9_near 7 = .ok (.iload_n 1, 1) := by decide +kernel
theorem dX9_near_8 : decode cX9_near 8 = .ok (.invokevirtual 290, 3) := by decide +kernel
theorem dX9_near_11 : decode cX9_near 11 = .ok (.ifCond .eq 14, 3) := by decide +kernel
theorem dX9_near_14 : decode cX9_near 14 = .ok (.aload_n 0, 1) := by decide +kernel
theorem dX9_near_15 : decode cX9_near 15 = .ok (.getfield 284, 3) := by decide +kernel
theorem dX9_near_18 : decode cX9_near 18 = .ok (.ifCond .eq 7, 3) := by decide +kernel
theorem dX9_near_21 : decode cX9_near 21 = .ok (.iconst 1, 1) := by decide +kernel
theorem dX9_near_22 : decode cX9_near 22 = .ok (.goto 4, 3) := by decide +kernel
theorem dX9_near_25 : decode cX9_near 25 = .ok (.iconst 0, 1) := by decide +kernel
theorem dX9_near_26 : decode cX9_near 26 = .ok (.iconst 1, 1) := by decide +kernel
theorem dX9_near_27 : decode cX9_near 27 = .ok (.invokevirtual 255, 3) := by decide +kernel
theorem dX9_near_30 : decode cX9_near 30 = .ok (.ifCond .ne 5, 3) := by decide +kernel
theorem dX9_near_33 : decode cX9_near 33 = .ok (.iconst 0, 1) := by decide +kernel
theorem dX9_near_34 : decode cX9_near 34 = .ok (.ireturn, 1) := by decide +kernel
theorem dX9_near_35 : decode cX9_near 35 = .ok (.aload_n 0, 1) := by decide +kernel
theorem dX9_near_36 : decode cX9_near 36 = .ok (.getfield 114, 3) := by decide +kernel
theorem dX9_near_39 : decode cX9_near 39 = .ok (.iload_n 1, 1) := by decide +kernel
theorem dX9_near_40 : decode cX9_near 40 = .ok (.iaload, 1) := by decide +kernel
theorem dX9_near_41 : decode cX9_near 41 = .ok (.ireturn, 1) := by decide +kernel
theorem dX9_chases_0 : decode cX9_chases 0 = .ok (.aload_n 0, 1) := by decide +kernel
theorem dX9_chases_1 : decode cX9_chases 1 = .ok (.getfield 16, 3) := by decide +kernel
theorem dX9_chases_4 : decode cX9_chases 4 = .ok (.bipush 36, 2) := by decide +kernel
theorem dX9_chases_6 : decode cX9_chases 6 = .ok (.iload_n 1, 1) := by decide +kernel
theorem dX9_chases_7 : decode cX9_chases 7 = .ok (.imul, 1) := by decide +kernel
theorem dX9_chases_8 : decode cX9_chases 8 = .ok (.iload_n 2, 1) := by decide +kernel
theorem dX9_chases_9 : decode cX9_chases 9 = .ok (.iadd, 1) := by decide +kernel
theorem dX9_chases_10 : decode cX9_chases 10 = .ok (.iaload, 1) := by decide +kernel
theorem dX9_chases_11 : decode cX9_chases 11 = .ok (.istore_n 3, 1) := by decide +kernel
theorem dX9_chases_12 : decode cX9_chases 12 = .ok (.aload_n 0, 1) := by decide +kernel
theorem dX9_chases_13 : decode cX9_chases 13 = .ok (.getfield 27, 3) := by decide +kernel
theorem dX9_chases_16 : decode cX9_chases 16 = .ok (.iload_n 2, 1) := by decide +kernel
theorem dX9_chases_17 : decode cX9_chases 17 = .ok (.iaload, 1) := by decide +kernel
theorem dX9_chases_18 : decode cX9_chases 18 = .ok (.aload_n 0, 1) := by decide +kernel
theorem dX9_chases_19 : decode cX9_chases 19 = .ok (.getfield 117, 3) := by decide +kernel
theorem dX9_chases_22 : decode cX9_chases 22 = .ok (.iload_n 2, 1) := by decide +kernel
theorem dX9_chases_23 : decode cX9_chases 23 = .ok (.iaload, 1) := by decide +kernel
theorem dX9_chases_24 : decode cX9_chases 24 = .ok (.isub, 1) := by decide +kernel
theorem dX9_chases_25 : decode cX9_chases 25 = .ok (.aload_n 0, 1) := by decide +kernel
theorem dX9_chases_26 : decode cX9_chases 26 = .ok (.getfield 7, 3) := by decide +kernel
theorem dX9_chases_29 : decode cX9_chases 29 = .ok (.iadd, 1) := by decide +kernel
theorem dX9_chases_30 : decode cX9_chases 30 = .ok (.aload_n 0, 1) := by decide +kernel
theorem dX9_chases_31 : decode cX9_chases 31 = .ok (.getfield 7, 3) := by decide +kernel
theorem dX9_chases_34 : decode cX9_chases 34 = .ok (.irem, 1) := by decide +kernel
theorem dX9_chases_35 : decode cX9_chases 35 = .ok (.istore 4, 2) := by decide +kernel
theorem dX9_chases_37 : decode cX9_chases 37 = .ok (.aload_n 0, 1) := by decide +kernel
theorem dX9_chases_38 : decode cX9_chases 38 = .ok (.getfield 20, 3) := by decide +kernel
theorem dX9_chases_41 : decode cX9_chases 41 = .ok (.iload_n 1, 1) := by decide +kernel
theorem dX9_chases_42 : decode cX9_chases 42 = .ok (.baload, 1) := by decide +kernel
theorem dX9_chases_43 : decode cX9_chases 43 = .ok (.ifCond .ne 7, 3) := by decide +kernel
theorem dX9_chases_46 : decode cX9_chases 46 = .ok (.iload_n 3, 1) := by decide +kernel
theorem dX9_chases_47 : decode cX9_chases 47 = .ok (.ifCond .ne 7, 3) := by decide +kernel
theorem dX9_chases_50 : decode cX9_chases 50 = .ok (.iconst 0, 1) := by decide +kernel
theorem dX9_chases_51 : decode cX9_chases 51 = .ok (.goto 16, 3) := by decide +kernel
theorem dX9_chases_54 : decode cX9_chases 54 = .ok (.iload 4, 2) := by decide +kernel
theorem dX9_chases_56 : decode cX9_chases 56 = .ok (.aload_n 0, 1) := by decide +kernel
theorem dX9_chases_57 : decode cX9_chases 57 = .ok (.iload_n 3, 1) := by decide +kernel
theorem dX9_chases_58 : decode cX9_chases 58 = .ok (.invokevirtual 307, 3) := by decide +kernel
theorem dX9_chases_61 : decode cX9_chases 61 = .ok (.imul, 1) := by decide +kernel
theorem dX9_chases_62 : decode cX9_chases 62 = .ok (.aload_n 0, 1) := by decide +kernel
theorem dX9_chases_63 : decode cX9_chases 63 = .ok (.getfield 7, 3) := by decide +kernel
theorem dX9_chases_66 : decode cX9_chases 66 = .ok (.irem, 1) := by decide +kernel
theorem dX9_chases_67 : decode cX9_chases 67 = .ok (.ireturn, 1) := by decide +kernel
theorem dX9_shows_0 : decode cX9_shows 0 = .ok (.iconst 0, 1) := by decide +kernel
theorem dX9_shows_1 : decode cX9_shows 1 = .ok (.istore_n 3, 1) := by decide +kernel
theorem dX9_shows_2 : decode cX9_shows 2 = .ok (.iload_n 3, 1) := by decide +kernel
theorem dX9_shows_3 : decode cX9_shows 3 = .ok (.aload_n 0, 1) := by decide +kernel
theorem dX9_shows_4 : decode cX9_shows 4 = .ok (.getfield 268, 3) := by decide +kernel
theorem dX9_shows_7 : decode cX9_shows 7 = .ok (.if_icmp .ge 44, 3) := by decide +kernel
theorem dX9_shows_10 : decode cX9_shows 10 = .ok (.iload_n 2, 1) := by decide +kernel
theorem dX9_shows_11 : decode cX9_shows 11 = .ok (.ifCond .le 40, 3) := by decide +kernel
theorem dX9_shows_14 : decode cX9_shows 14 = .ok (.aload_n 0, 1) := by decide +kernel
theorem dX9_shows_15 : decode cX9_shows 15 = .ok (.getfield 117, 3) := by decide +kernel
theorem dX9_shows_18 : decode cX9_shows 18 = .ok (.iload_n 3, 1) := by decide +kernel
theorem dX9_shows_19 : decode cX9_shows 19 = .ok (.aload_n 0, 1) := by decide +kernel
theorem dX9_shows_20 : decode cX9_shows 20 = .ok (.getfield 117, 3) := by decide +kernel
theorem dX9_shows_23 : decode cX9_shows 23 = .ok (.iload_n 3, 1) := by decide +kernel
theorem dX9_shows_24 : decode cX9_shows 24 = .ok (.iaload, 1) := by decide +kernel
theorem dX9_shows_25 : decode cX9_shows 25 = .ok (.iload_n 2, 1) := by decide +kernel
theorem dX9_shows_26 : decode cX9_shows 26 = .ok (.aload_n 0, 1) := by decide +kernel
theorem dX9_shows_27 : decode cX9_shows 27 = .ok (.getfield 16, 3) := by decide +kernel
theorem dX9_shows_30 : decode cX9_shows 30 = .ok (.bipush 36, 2) := by decide +kernel
theorem dX9_shows_32 : decode cX9_shows 32 = .ok (.iload_n 1, 1) := by decide +kernel
theorem dX9_shows_33 : decode cX9_shows 33 = .ok (.imul, 1) := by decide +kernel
theorem dX9_shows_34 : decode cX9_shows 34 = .ok (.iload_n 3, 1) := by decide +kernel
theorem dX9_shows_35 : decode cX9_shows 35 = .ok (.iadd, 1) := by decide +kernel
theorem dX9_shows_36 : decode cX9_shows 36 = .ok (.iaload, 1) := by decide +kernel
theorem dX9_shows_37 : decode cX9_shows 37 = .ok (.imul, 1) := by decide +kernel
theorem dX9_shows_38 : decode cX9_shows 38 = .ok (.iadd, 1) := by decide +kernel
theorem dX9_shows_39 : decode cX9_shows 39 = .ok (.aload_n 0, 1) := by decide +kernel
theorem dX9_shows_40 : decode cX9_shows 40 = .ok (.getfield 7, 3) := by decide +kernel
theorem dX9_shows_43 : decode cX9_shows 43 = .ok (.irem, 1) := by decide +kernel
theorem dX9_shows_44 : decode cX9_shows 44 = .ok (.iastore, 1) := by decide +kernel
theorem dX9_shows_45 : decode cX9_shows 45 = .ok (.iinc 3 1, 3) := by decide +kernel
theorem dX9_shows_48 : decode cX9_shows 48 = .ok (.goto (-46), 3) := by decide +kernel
theorem dX9_shows_51 : decode cX9_shows 51 = .ok (.return_, 1) := by decide +kernel
theorem dX9_chase_0 : decode cX9_chase 0 = .ok (.aload_n 0, 1) := by decide +kernel
theorem dX9_chase_1 : decode cX9_chase 1 = .ok (.iconst 0, 1) := by decide +kernel
theorem dX9_chase_2 : decode cX9_chase 2 = .ok (.putfield 138, 3) := by decide +kernel
theorem dX9_chase_5 : decode cX9_chase 5 = .ok (.aload_n 0, 1) := by decide +kernel
theorem dX9_chase_6 : decode cX9_chase 6 = .ok (.getfield 271, 3) := by decide +kernel
theorem dX9_chase_9 : decode cX9_chase 9 = .ok (.ifCond .ne 5, 3) := by decide +kernel
theorem dX9_chase_12 : decode cX9_chase 12 = .ok (.iconst (-1), 1) := by decide +kernel
theorem dX9_chase_13 : decode cX9_chase 13 = .ok (.ireturn, 1) := by decide +kernel
theorem dX9_chase_14 : decode cX9_chase 14 = .ok (.iconst 0, 1) := by decide +kernel
theorem dX9_chase_15 : decode cX9_chase 15 = .ok (.istore_n 1, 1) := by decide +kernel
theorem dX9_chase_16 : decode cX9_chase 16 = .ok (.aload_n 0, 1) := by decide +kernel
theorem dX9_chase_17 : decode cX9_chase 17 = .ok (.getfield 271, 3) := by decide +kernel
theorem dX9_chase_20 : decode cX9_chase 20 = .ok (.istore_n 2, 1) := by decide +kernel
theorem dX9_chase_21 : decode cX9_chase 21 = .ok (.iload_n 2, 1) := by decide +kernel
theorem dX9_chase_22 : decode cX9_chase 22 = .ok (.aload_n 0, 1) := by decide +kernel
theorem dX9_chase_23 : decode cX9_chase 23 = .ok (.getfield 268, 3) := by decide +kernel
theorem dX9_chase_26 : decode cX9_chase 26 = .ok (.if_icmp .ge 73, 3) := by decide +kernel
theorem dX9_chase_29 : decode cX9_chase 29 = .ok (.iconst 0, 1) := by decide +kernel
theorem dX9_chase_30 : decode cX9_chase 30 = .ok (.istore_n 3, 1) := by decide +kernel
theorem dX9_chase_31 : decode cX9_chase 31 = .ok (.iload_n 3, 1) := by decide +kernel
theorem dX9_chase_32 : decode cX9_chase 32 = .ok (.aload_n 0, 1) := by decide +kernel
theorem dX9_chase_33 : decode cX9_chase 33 = .ok (.getfield 268, 3) := by decide +kernel
theorem dX9_chase_36 : decode cX9_chase 36 = .ok (.if_icmp .ge 21, 3) := by decide +kernel
theorem dX9_chase_39 : decode cX9_chase 39 = .ok (.aload_n 0, 1) := by decide +kernel
theorem dX9_chase_40 : decode cX9_chase 40 = .ok (.getfield 117, 3) := by decide +kernel
theorem dX9_chase_43 : decode cX9_chase 43 = .ok (.iload_n 3, 1) := by decide +kernel
theorem dX9_chase_44 : decode cX9_chase 44 = .ok (.aload_n 0, 1) := by decide +kernel
theorem dX9_chase_45 : decode cX9_chase 45 = .ok (.getfield 24, 3) := by decide +kernel
theorem dX9_chase_48 : decode cX9_chase 48 = .ok (.iload_n 3, 1) := by decide +kernel
theorem dX9_chase_49 : decode cX9_chase 49 = .ok (.iaload, 1) := by decide +kernel
theorem dX9_chase_50 : decode cX9_chase 50 = .ok (.iastore, 1) := by decide +kernel
theorem dX9_chase_51 : decode cX9_chase 51 = .ok (.iinc 3 1, 3) := by decide +kernel
theorem dX9_chase_54 : decode cX9_chase 54 = .ok (.goto (-23), 3) := by decide +kernel
theorem dX9_chase_57 : decode cX9_chase 57 = .ok (.aload_n 0, 1) := by decide +kernel
theorem dX9_chase_58 : decode cX9_chase 58 = .ok (.iload_n 2, 1) := by decide +kernel
theorem dX9_chase_59 : decode cX9_chase 59 = .ok (.iload_n 2, 1) := by decide +kernel
theorem dX9_chase_60 : decode cX9_chase 60 = .ok (.aload_n 0, 1) := by decide +kernel
theorem dX9_chase_61 : decode cX9_chase 61 = .ok (.getfield 271, 3) := by decide +kernel
theorem dX9_chase_64 : decode cX9_chase 64 = .ok (.isub, 1) := by decide +kernel
theorem dX9_chase_65 : decode cX9_chase 65 = .ok (.invokevirtual 365, 3) := by decide +kernel
theorem dX9_chase_68 : decode cX9_chase 68 = .ok (.istore_n 3, 1) := by decide +kernel
theorem dX9_chase_69 : decode cX9_chase 69 = .ok (.iconst 0, 1) := by decide +kernel
theorem dX9_chase_70 : decode cX9_chase 70 = .ok (.istore 4, 2) := by decide +kernel
theorem dX9_chase_72 : decode cX9_chase 72 = .ok (.iload 4, 2) := by decide +kernel
theorem dX9_chase_74 : decode cX9_chase 74 = .ok (.iload_n 3, 1) := by decide +kernel
theorem dX9_chase_75 : decode cX9_chase 75 = .ok (.if_icmp .ge 14, 3) := by decide +kernel
theorem dX9_chase_78 : decode cX9_chase 78 = .ok (.aload_n 0, 1) := by decide +kernel
theorem dX9_chase_79 : decode cX9_chase 79 = .ok (.iload_n 2, 1) := by decide +kernel
theorem dX9_chase_80 : decode cX9_chase 80 = .ok (.invokevirtual 298, 3) := by decide +kernel
theorem dX9_chase_83 : decode cX9_chase 83 = .ok (.iinc 4 1, 3) := by decide +kernel
theorem dX9_chase_86 : decode cX9_chase 86 = .ok (.goto (-14), 3) := by decide +kernel
theorem dX9_chase_89 : decode cX9_chase 89 = .ok (.iload_n 1, 1) := by decide +kernel
theorem dX9_chase_90 : decode cX9_chase 90 = .ok (.iload_n 3, 1) := by decide +kernel
theorem dX9_chase_91 : decode cX9_chase 91 = .ok (.iadd, 1) := by decide +kernel
theorem dX9_chase_92 : decode cX9_chase 92 = .ok (.istore_n 1, 1) := by decide +kernel
theorem dX9_chase_93 : decode cX9_chase 93 = .ok (.iinc 2 1, 3) := by decide +kernel
theorem dX9_chase_96 : decode cX9_chase 96 = .ok (.goto (-75), 3) := by decide +kernel
theorem dX9_chase_99 : decode cX9_chase 99 = .ok (.iload_n 1, 1) := by decide +kernel
theorem dX9_chase_100 : decode cX9_chase 100 = .ok (.ireturn, 1) := by decide +kernel
theorem dX9_top_0 : decode cX9_top 0 = .ok (.aload_n 0, 1) := by decide +kernel
theorem dX9_top_1 : decode cX9_top 1 = .ok (.iconst 0, 1) := by decide +kernel
theorem dX9_top_2 : decode cX9_top 2 = .ok (.putfield 138, 3) := by decide +kernel
theorem dX9_top_5 : decode cX9_top 5 = .ok (.aload_n 0, 1) := by decide +kernel
theorem dX9_top_6 : decode cX9_top 6 = .ok (.getfield 271, 3) := by decide +kernel
theorem dX9_top_9 : decode cX9_top 9 = .ok (.ifCond .ne 5, 3) := by decide +kernel
theorem dX9_top_12 : decode cX9_top 12 = .ok (.iconst (-1), 1) := by decide +kernel
theorem dX9_top_13 : decode cX9_top 13 = .ok (.ireturn, 1) := by decide +kernel
theorem dX9_top_14 : decode cX9_top 14 = .ok (.aload_n 0, 1) := by decide +kernel
theorem dX9_top_15 : decode cX9_top 15 = .ok (.aload_n 0, 1) := by decide +kernel
theorem dX9_top_16 : decode cX9_top 16 = .ok (.getfield 271, 3) := by decide +kernel
theorem dX9_top_19 : decode cX9_top 19 = .ok (.sipush 20000, 3) := by decide +kernel
theorem dX9_top_22 : decode cX9_top 22 = .ok (.invokevirtual 335, 3) := by decide +kernel
theorem dX9_top_25 : decode cX9_top 25 = .ok (.istore_n 1, 1) := by decide +kernel
theorem dX9_top_26 : decode cX9_top 26 = .ok (.iconst 0, 1) := by decide +kernel
theorem dX9_top_27 : decode cX9_top 27 = .ok (.istore_n 2, 1) := by decide +kernel
theorem dX9_top_28 : decode cX9_top 28 = .ok (.iload_n 2, 1) := by decide +kernel
theorem dX9_top_29 : decode cX9_top 29 = .ok (.iload_n 1, 1) := by decide +kernel
theorem dX9_top_30 : decode cX9_top 30 = .ok (.if_icmp .ge 120, 3) := by decide +kernel
theorem dX9_top_33 : decode cX9_top 33 = .ok (.iload_n 2, 1) := by decide +kernel
theorem dX9_top_34 : decode cX9_top 34 = .ok (.istore_n 3, 1) := by decide +kernel
theorem dX9_top_35 : decode cX9_top 35 = .ok (.iconst 0, 1) := by decide +kernel
theorem dX9_top_36 : decode cX9_top 36 = .ok (.istore 4, 2) := by decide +kernel
theorem dX9_top_38 : decode cX9_top 38 = .ok (.iconst 1, 1) := by decide +kernel
theorem dX9_top_39 : decode cX9_top 39 = .ok (.istore 5, 2) := by decide +kernel
theorem dX9_top_41 : decode cX9_top 41 = .ok (.aload_n 0, 1) := by decide +kernel
theorem dX9_top_42 : decode cX9_top 42 = .ok (.getfield 271, 3) := by decide +kernel
theorem dX9_top_45 : decode cX9_top 45 = .ok (.iconst 1, 1) := by decide +kernel
theorem dX9_top_46 : decode cX9_top 46 = .ok (.isub, 1) := by decide +kernel
theorem dX9_top_47 : decode cX9_top 47 = .ok (.istore 6, 2) := by decide +kernel
theorem dX9_top_49 : decode cX9_top 49 = .ok (.iload 6, 2) := by decide +kernel
theorem dX9_top_51 : decode cX9_top 51 = .ok (.ifCond .lt 78, 3) := by decide +kernel
theorem dX9_top_54 : decode cX9_top 54 = .ok (.aload_n 0, 1) := by decide +kernel
theorem dX9_top_55 : decode cX9_top 55 = .ok (.getfield 99, 3) := by decide +kernel
theorem dX9_top_58 : decode cX9_top 58 = .ok (.iload 6, 2) := by decide +kernel
theorem dX9_top_60 : decode cX9_top 60 = .ok (.iload_n 3, 1) := by decide +kernel
theorem dX9_top_61 : decode cX9_top 61 = .ok (.aload_n 0, 1) := by decide +kernel
theorem dX9_top_62 : decode cX9_top 62 = .ok (.getfield 7, 3) := by decide +kernel
theorem dX9_top_65 : decode cX9_top 65 = .ok (.irem, 1) := by decide +kernel
theorem dX9_top_66 : decode cX9_top 66 = .ok (.iastore, 1) := by decide +kernel
theorem dX9_top_67 : decode cX9_top 67 = .ok (.iload_n 3, 1) := by decide +kernel
theorem dX9_top_68 : decode cX9_top 68 = .ok (.aload_n 0, 1) := by decide +kernel
theorem dX9_top_69 : decode cX9_top 69 = .ok (.getfield 7, 3) := by decide +kernel
theorem dX9_top_72 : decode cX9_top 72 = .ok (.idiv, 1) := by decide +kernel
theorem dX9_top_73 : decode cX9_top 73 = .ok (.istore_n 3, 1) := by decide +kernel
theorem dX9_top_74 : decode cX9_top 74 = .ok (.iload 5, 2) := by decide +kernel
theorem dX9_top_76 : decode cX9_top 76 = .ok (.ifCond .eq 27, 3) := by decide +kernel
theorem dX9_top_79 : decode cX9_top 79 = .ok (.aload_n 0, 1) := by decide +kernel
theorem dX9_top_80 : decode cX9_top 80 = .ok (.getfield 99, 3) := by decide +kernel
theorem dX9_top_83 : decode cX9_top 83 = .ok (.iload 6, 2) := by decide +kernel
theorem dX9_top_85 : decode cX9_top 85 = .ok (.iaload, 1) := by decide +kernel
theorem dX9_top_86 : decode cX9_top 86 = .ok (.ifCond .eq 13, 3) := by decide +kernel
theorem dX9_top_89 : decode cX9_top 89 = .ok (.aload_n 0, 1) := by decide +kernel
theorem dX9_top_90 : decode cX9_top 90 = .ok (.getfield 20, 3) := by decide +kernel
theorem dX9_top_93 : decode cX9_top 93 = .ok (.iload 6, 2) := by decide +kernel
theorem dX9_top_95 : decode cX9_top 95 = .ok (.baload, 1) := by decide +kernel
theorem dX9_top_96 : decode cX9_top 96 = .ok (.ifCond .ne 7, 3) := by decide +kernel
theorem dX9_top_99 : decode cX9_top 99 = .ok (.iconst 1, 1) := by decide +kernel
theorem dX9_top_100 : decode cX9_top 100 = .ok (.goto 4, 3) := by decide +kernel
theorem dX9_top_103 : decode cX9_top 103 = .ok (.iconst 0, 1) := by decide +kernel
theorem dX9_top_104 : decode cX9_top 104 = .ok (.istore 5, 2) := by decide +kernel
theorem dX9_top_106 : decode cX9_top 106 = .ok (.iload 4, 2) := by decide +kernel
theorem dX9_top_108 : decode cX9_top 108 = .ok (.aload_n 0, 1) := by decide +kernel
theorem dX9_top_109 : decode cX9_top 109 = .ok (.getfield 7, 3) := by decide +kernel
theorem dX9_top_112 : decode cX9_top 112 = .ok (.imul, 1) := by decide +kernel
theorem dX9_top_113 : decode cX9_top 113 = .ok (.aload_n 0, 1) := by decide +kernel
theorem dX9_top_114 : decode cX9_top 114 = .ok (.getfield 99, 3) := by decide +kernel
theorem dX9_top_117 : decode cX9_top 117 = .ok (.iload 6, 2) := by decide +kernel
theorem dX9_top_119 : decode cX9_top 119 = .ok (.iaload, 1) := by decide +kernel
theorem dX9_top_120 : decode cX9_top 120 = .ok (.iadd, 1) := by decide +kernel
theorem dX9_top_121 : decode cX9_top 121 = .ok (.istore 4, 2) := by decide +kernel
theorem dX9_top_123 : decode cX9_top 123 = .ok (.iinc 6 (-1), 3) := by decide +kernel
theorem dX9_top_126 : decode cX9_top 126 = .ok (.goto (-77), 3) := by decide +kernel
theorem dX9_top_129 : decode cX9_top 129 = .ok (.iload 5, 2) := by decide +kernel
theorem dX9_top_131 : decode cX9_top 131 = .ok (.ifCond .eq 13, 3) := by decide +kernel
theorem dX9_top_134 : decode cX9_top 134 = .ok (.aload_n 0, 1) := by decide +kernel
theorem dX9_top_135 : decode cX9_top 135 = .ok (.invokevirtual 368, 3) := by decide +kernel
theorem dX9_top_138 : decode cX9_top 138 = .ok (.ifCond .eq 6, 3) := by decide +kernel
theorem dX9_top_141 : decode cX9_top 141 = .ok (.iload 4, 2) := by decide +kernel
theorem dX9_top_143 : decode cX9_top 143 = .ok (.ireturn, 1) := by decide +kernel
theorem dX9_top_144 : decode cX9_top 144 = .ok (.iinc 2 1, 3) := by decide +kernel
theorem dX9_top_147 : decode cX9_top 147 = .ok (.goto (-119), 3) := by decide +kernel
theorem dX9_top_150 : decode cX9_top 150 = .ok (.iconst (-1), 1) := by decide +kernel
theorem dX9_top_151 : decode cX9_top 151 = .ok (.ireturn, 1) := by decide +kernel
theorem dX9_goesOut_0 : decode cX9_goesOut 0 = .ok (.iconst 0, 1) := by decide +kernel
theorem dX9_goesOut_1 : decode cX9_goesOut 1 = .ok (.istore_n 1, 1) := by decide +kernel
theorem dX9_goesOut_2 : decode cX9_goesOut 2 = .ok (.iload_n 1, 1) := by decide +kernel
theorem dX9_goesOut_3 : decode cX9_goesOut 3 = .ok (.aload_n 0, 1) := by decide +kernel
theorem dX9_goesOut_4 : decode cX9_goesOut 4 = .ok (.getfield 268, 3) := by decide +kernel
theorem dX9_goesOut_7 : decode cX9_goesOut 7 = .ok (.if_icmp .ge 21, 3) := by decide +kernel
theorem dX9_goesOut_10 : decode cX9_goesOut 10 = .ok (.aload_n 0, 1) := by decide +kernel
theorem dX9_goesOut_11 : decode cX9_goesOut 11 = .ok (.getfield 117, 3) := by decide +kernel
theorem dX9_goesOut_14 : decode cX9_goesOut 14 = .ok (.iload_n 1, 1) := by decide +kernel
theorem dX9_goesOut_15 : decode cX9_goesOut 15 = .ok (.aload_n 0, 1) := by decide +kernel
theorem dX9_goesOut_16 : decode cX9_goesOut 16 = .ok (.getfield 24, 3) := by decide +kernel
theorem dX9_goesOut_19 : decode cX9_goesOut 19 = .ok (.iload_n 1, 1) := by decide +kernel
theorem dX9_goesOut_20 : decode cX9_goesOut 20 = .ok (.iaload, 1) := by decide +kernel
theorem dX9_goesOut_21 : decode cX9_goesOut 21 = .ok (.iastore, 1) := by decide +kernel
theorem dX9_goesOut_22 : decode cX9_goesOut 22 = .ok (.iinc 1 1, 3) := by decide +kernel
theorem dX9_goesOut_25 : decode cX9_goesOut 25 = .ok (.goto (-23), 3) := by decide +kernel
theorem dX9_goesOut_28 : decode cX9_goesOut 28 = .ok (.iconst 0, 1) := by decide +kernel
theorem dX9_goesOut_29 : decode cX9_goesOut 29 = .ok (.istore_n 1, 1) := by decide +kernel
theorem dX9_goesOut_30 : decode cX9_goesOut 30 = .ok (.iload_n 1, 1) := by decide +kernel
theorem dX9_goesOut_31 : decode cX9_goesOut 31 = .ok (.aload_n 0, 1) := by decide +kernel
theorem dX9_goesOut_32 : decode cX9_goesOut 32 = .ok (.getfield 271, 3) := by decide +kernel
theorem dX9_goesOut_35 : decode cX9_goesOut 35 = .ok (.if_icmp .ge 20, 3) := by decide +kernel
theorem dX9_goesOut_38 : decode cX9_goesOut 38 = .ok (.aload_n 0, 1) := by decide +kernel
theorem dX9_goesOut_39 : decode cX9_goesOut 39 = .ok (.iload_n 1, 1) := by decide +kernel
theorem dX9_goesOut_40 : decode cX9_goesOut 40 = .ok (.aload_n 0, 1) := by decide +kernel
theorem dX9_goesOut_41 : decode cX9_goesOut 41 = .ok (.getfield 99, 3) := by decide +kernel
theorem dX9_goesOut_44 : decode cX9_goesOut 44 = .ok (.iload_n 1, 1) := by decide +kernel
theorem dX9_goesOut_45 : decode cX9_goesOut 45 = .ok (.iaload, 1) := by decide +kernel
theorem dX9_goesOut_46 : decode cX9_goesOut 46 = .ok (.invokevirtual 371, 3) := by decide +kernel
theorem dX9_goesOut_49 : decode cX9_goesOut 49 = .ok (.iinc 1 1, 3) := by decide +kernel
theorem dX9_goesOut_52 : decode cX9_goesOut 52 = .ok (.goto (-22), 3) := by decide +kernel
theorem dX9_goesOut_55 : decode cX9_goesOut 55 = .ok (.aload_n 0, 1) := by decide +kernel
theorem dX9_goesOut_56 : decode cX9_goesOut 56 = .ok (.getfield 271, 3) := by decide +kernel
theorem dX9_goesOut_59 : decode cX9_goesOut 59 = .ok (.istore_n 1, 1) := by decide +kernel
theorem dX9_goesOut_60 : decode cX9_goesOut 60 = .ok (.iload_n 1, 1) := by decide +kernel
theorem dX9_goesOut_61 : decode cX9_goesOut 61 = .ok (.aload_n 0, 1) := by decide +kernel
theorem dX9_goesOut_62 : decode cX9_goesOut 62 = .ok (.getfield 268, 3) := by decide +kernel
theorem dX9_goesOut_65 : decode cX9_goesOut 65 = .ok (.if_icmp .ge 25, 3) := by decide +kernel
theorem dX9_goesOut_68 : decode cX9_goesOut 68 = .ok (.aload_n 0, 1) := by decide +kernel
theorem dX9_goesOut_69 : decode cX9_goesOut 69 = .ok (.iload_n 1, 1) := by decide +kernel
theorem dX9_goesOut_70 : decode cX9_goesOut 70 = .ok (.aload_n 0, 1) := by decide +kernel
theorem dX9_goesOut_71 : decode cX9_goesOut 71 = .ok (.iload_n 1, 1) := by decide +kernel
theorem dX9_goesOut_72 : decode cX9_goesOut 72 = .ok (.iload_n 1, 1) := by decide +kernel
theorem dX9_goesOut_73 : decode cX9_goesOut 73 = .ok (.aload_n 0, 1) := by decide +kernel
theorem dX9_goesOut_74 : decode cX9_goesOut 74 = .ok (.getfield 271, 3) := by decide +kernel
theorem dX9_goesOut_77 : decode cX9_goesOut 77 = .ok (.isub, 1) := by decide +kernel
theorem dX9_goesOut_78 : decode cX9_goesOut 78 = .ok (.invokevirtual 365, 3) := by decide +kernel
theorem dX9_goesOut_81 : decode cX9_goesOut 81 = .ok (.invokevirtual 371, 3) := by decide +kernel
theorem dX9_goesOut_84 : decode cX9_goesOut 84 = .ok (.iinc 1 1, 3) := by decide +kernel
theorem dX9_goesOut_87 : decode cX9_goesOut 87 = .ok (.goto (-27), 3) := by decide +kernel
theorem dX9_goesOut_90 : decode cX9_goesOut 90 = .ok (.iconst 1, 1) := by decide +kernel
theorem dX9_goesOut_91 : decode cX9_goesOut 91 = .ok (.istore_n 1, 1) := by decide +kernel
theorem dX9_goesOut_92 : decode cX9_goesOut 92 = .ok (.iconst 0, 1) := by decide +kernel
theorem dX9_goesOut_93 : decode cX9_goesOut 93 = .ok (.istore_n 2, 1) := by decide +kernel
theorem dX9_goesOut_94 : decode cX9_goesOut 94 = .ok (.iload_n 2, 1) := by decide +kernel
theorem dX9_goesOut_95 : decode cX9_goesOut 95 = .ok (.aload_n 0, 1) := by decide +kernel
theorem dX9_goesOut_96 : decode cX9_goesOut 96 = .ok (.getfield 268, 3) := by decide +kernel
theorem dX9_goesOut_99 : decode cX9_goesOut 99 = .ok (.if_icmp .ge 34, 3) := by decide +kernel
theorem dX9_goesOut_102 : decode cX9_goesOut 102 = .ok (.iload_n 1, 1) := by decide +kernel
theorem dX9_goesOut_103 : decode cX9_goesOut 103 = .ok (.ifCond .eq 22, 3) := by decide +kernel
theorem dX9_goesOut_106 : decode cX9_goesOut 106 = .ok (.aload_n 0, 1) := by decide +kernel
theorem dX9_goesOut_107 : decode cX9_goesOut 107 = .ok (.getfield 117, 3) := by decide +kernel
theorem dX9_goesOut_110 : decode cX9_goesOut 110 = .ok (.iload_n 2, 1) := by decide +kernel
theorem dX9_goesOut_111 : decode cX9_goesOut 111 = .ok (.iaload, 1) := by decide +kernel
theorem dX9_goesOut_112 : decode cX9_goesOut 112 = .ok (.aload_n 0, 1) := by decide +kernel
theorem dX9_goesOut_113 : decode cX9_goesOut 113 = .ok (.getfield 27, 3) := by decide +kernel
theorem dX9_goesOut_116 : decode cX9_goesOut 116 = .ok (.iload_n 2, 1) := by decide +kernel
theorem dX9_goesOut_117 : decode cX9_goesOut 117 = .ok (.iaload, 1) := by decide +kernel
theorem dX9_goesOut_118 : decode cX9_goesOut 118 = .ok (.if_icmp .ne 7, 3) := by decide +kernel
theorem dX9_goesOut_121 : decode cX9_goesOut 121 = .ok (.iconst 1, 1) := by decide +kernel
theorem dX9_goesOut_122 : decode cX9_goesOut 122 = .ok (.goto 4, 3) := by decide +kernel
theorem dX9_goesOut_125 : decode cX9_goesOut 125 = .ok (.iconst 0, 1) := by decide +kernel
theorem dX9_goesOut_126 : decode cX9_goesOut 126 = .ok (.istore_n 1, 1) := by decide +kernel
theorem dX9_goesOut_127 : decode cX9_goesOut 127 = .ok (.iinc 2 1, 3) := by decide +kernel
theorem dX9_goesOut_130 : decode cX9_goesOut 130 = .ok (.goto (-36), 3) := by decide +kernel
theorem dX9_goesOut_133 : decode cX9_goesOut 133 = .ok (.iload_n 1, 1) := by decide +kernel
theorem dX9_goesOut_134 : decode cX9_goesOut 134 = .ok (.ireturn, 1) := by decide +kernel
theorem dX9_numberOf_0 : decode cX9_numberOf 0 = .ok (.iconst 0, 1) := by decide +kernel
theorem dX9_numberOf_1 : decode cX9_numberOf 1 = .ok (.istore_n 2, 1) := by decide +kernel
theorem dX9_numberOf_2 : decode cX9_numberOf 2 = .ok (.aload_n 0, 1) := by decide +kernel
theorem dX9_numberOf_3 : decode cX9_numberOf 3 = .ok (.getfield 268, 3) := by decide +kernel
theorem dX9_numberOf_6 : decode cX9_numberOf 6 = .ok (.iconst 1, 1) := by decide +kernel
theorem dX9_numberOf_7 : decode cX9_numberOf 7 = .ok (.isub, 1) := by decide +kernel
theorem dX9_numberOf_8 : decode cX9_numberOf 8 = .ok (.istore_n 3, 1) := by decide +kernel
theorem dX9_numberOf_9 : decode cX9_numberOf 9 = .ok (.iload_n 3, 1) := by decide +kernel
theorem dX9_numberOf_10 : decode cX9_numberOf 10 = .ok (.ifCond .lt 20, 3) := by decide +kernel
theorem dX9_numberOf_13 : decode cX9_numberOf 13 = .ok (.iload_n 2, 1) := by decide +kernel
theorem dX9_numberOf_14 : decode cX9_numberOf 14 = .ok (.aload_n 0, 1) := by decide +kernel
theorem dX9_numberOf_15 : decode cX9_numberOf 15 = .ok (.getfield 7, 3) := by decide +kernel
theorem dX9_numberOf_18 : decode cX9_numberOf 18 = .ok (.imul, 1) := by decide +kernel
theorem dX9_numberOf_19 : decode cX9_numberOf 19 = .ok (.aload_n 1, 1) := by decide +kernel
theorem dX9_numberOf_20 : decode cX9_numberOf 20 = .ok (.iload_n 3, 1) := by decide +kernel
theorem dX9_numberOf_21 : decode cX9_numberOf 21 = .ok (.iaload, 1) := by decide +kernel
theorem dX9_numberOf_22 : decode cX9_numberOf 22 = .ok (.iadd, 1) := by decide +kernel
theorem dX9_numberOf_23 : decode cX9_numberOf 23 = .ok (.istore_n 2, 1) := by decide +kernel
theorem dX9_numberOf_24 : decode cX9_numberOf 24 = .ok (.iinc 3 (-1), 3) := by decide +kernel
theorem dX9_numberOf_27 : decode cX9_numberOf 27 = .ok (.goto (-18), 3) := by decide +kernel
theorem dX9_numberOf_30 : decode cX9_numberOf 30 = .ok (.iload_n 2, 1) := by decide +kernel
theorem dX9_numberOf_31 : decode cX9_numberOf 31 = .ok (.ireturn, 1) := by decide +kernel
theorem dX9_laysOut_0 : decode cX9_laysOut 0 = .ok (.iload_n 1, 1) := by decide +kernel
theorem dX9_laysOut_1 : decode cX9_laysOut 1 = .ok (.istore_n 3, 1) := by decide +kernel
theorem dX9_laysOut_2 : decode cX9_laysOut 2 = .ok (.iconst 0, 1) := by decide +kernel
theorem dX9_laysOut_3 : decode cX9_laysOut 3 = .ok (.istore 4, 2) := by decide +kernel
theorem dX9_laysOut_5 : decode cX9_laysOut 5 = .ok (.iload 4, 2) := by decide +kernel
theorem dX9_laysOut_7 : decode cX9_laysOut 7 = .ok (.aload_n 0, 1) := by decide +kernel
theorem dX9_laysOut_8 : decode cX9_laysOut 8 = .ok (.getfield 268, 3) := by decide +kernel
theorem dX9_laysOut_11 : decode cX9_laysOut 11 = .ok (.if_icmp .ge 26, 3) := by decide +kernel
theorem dX9_laysOut_14 : decode cX9_laysOut 14 = .ok (.aload_n 2, 1) := by decide +kernel
theorem dX9_laysOut_15 : decode cX9_laysOut 15 = .ok (.iload 4, 2) := by decide +kernel
theorem dX9_laysOut_17 : decode cX9_laysOut 17 = .ok (.iload_n 3, 1) := by decide +kernel
theorem dX9_laysOut_18 : decode cX9_laysOut 18 = .ok (.aload_n 0, 1) := by decide +kernel
theorem dX9_laysOut_19 : decode cX9_laysOut 19 = .ok (.getfield 7, 3) := by decide +kernel
theorem dX9_laysOut_22 : decode cX9_laysOut 22 = .ok (.irem, 1) := by decide +kernel
theorem dX9_laysOut_23 : decode cX9_laysOut 23 = .ok (.iastore, 1) := by decide +kernel
theorem dX9_laysOut_24 : decode cX9_laysOut 24 = .ok (.iload_n 3, 1) := by decide +kernel
theorem dX9_laysOut_25 : decode cX9_laysOut 25 = .ok (.aload_n 0, 1) := by decide +kernel
theorem dX9_laysOut_26 : decode cX9_laysOut 26 = .ok (.getfield 7, 3) := by decide +kernel
theorem dX9_laysOut_29 : decode cX9_laysOut 29 = .ok (.idiv, 1) := by decide +kernel
theorem dX9_laysOut_30 : decode cX9_laysOut 30 = .ok (.istore_n 3, 1) := by decide +kernel
theorem dX9_laysOut_31 : decode cX9_laysOut 31 = .ok (.iinc 4 1, 3) := by decide +kernel
theorem dX9_laysOut_34 : decode cX9_laysOut 34 = .ok (.goto (-29), 3) := by decide +kernel
theorem dX9_laysOut_37 : decode cX9_laysOut 37 = .ok (.return_, 1) := by decide +kernel
theorem dX9_lights_0 : decode cX9_lights 0 = .ok (.aload_n 0, 1) := by decide +kernel
theorem dX9_lights_1 : decode cX9_lights 1 = .ok (.iload_n 1, 1) := by decide +kernel
theorem dX9_lights_2 : decode cX9_lights 2 = .ok (.aload_n 0, 1) := by decide +kernel
theorem dX9_lights_3 : decode cX9_lights 3 = .ok (.getfield 117, 3) := by decide +kernel
theorem dX9_lights_6 : decode cX9_lights 6 = .ok (.invokevirtual 374, 3) := by decide +kernel
theorem dX9_lights_9 : decode cX9_lights 9 = .ok (.aload_n 0, 1) := by decide +kernel
theorem dX9_lights_10 : decode cX9_lights 10 = .ok (.getfield 20, 3) := by decide +kernel
theorem dX9_lights_13 : decode cX9_lights 13 = .ok (.iload_n 2, 1) := by decide +kernel
theorem dX9_lights_14 : decode cX9_lights 14 = .ok (.baload, 1) := by decide +kernel
theorem dX9_lights_15 : decode cX9_lights 15 = .ok (.ifCond .ne 16, 3) := by decide +kernel
theorem dX9_lights_18 : decode cX9_lights 18 = .ok (.iload_n 3, 1) := by decide +kernel
theorem dX9_lights_19 : decode cX9_lights 19 = .ok (.ifCond .ne 14, 3) := by decide +kernel
theorem dX9_lights_22 : decode cX9_lights 22 = .ok (.aload_n 0, 1) := by decide +kernel
theorem dX9_lights_23 : decode cX9_lights 23 = .ok (.getfield 117, 3) := by decide +kernel
theorem dX9_lights_26 : decode cX9_lights 26 = .ok (.iload_n 2, 1) := by decide +kernel
theorem dX9_lights_27 : decode cX9_lights 27 = .ok (.iaload, 1) := by decide +kernel
theorem dX9_lights_28 : decode cX9_lights 28 = .ok (.ifCond .ne 5, 3) := by decide +kernel
theorem dX9_lights_31 : decode cX9_lights 31 = .ok (.iconst (-1), 1) := by decide +kernel
theorem dX9_lights_32 : decode cX9_lights 32 = .ok (.ireturn, 1) := by decide +kernel
theorem dX9_lights_33 : decode cX9_lights 33 = .ok (.iconst 0, 1) := by decide +kernel
theorem dX9_lights_34 : decode cX9_lights 34 = .ok (.istore 4, 2) := by decide +kernel
theorem dX9_lights_36 : decode cX9_lights 36 = .ok (.iload 4, 2) := by decide +kernel
theorem dX9_lights_38 : decode cX9_lights 38 = .ok (.aload_n 0, 1) := by decide +kernel
theorem dX9_lights_39 : decode cX9_lights 39 = .ok (.getfield 268, 3) := by decide +kernel
theorem dX9_lights_42 : decode cX9_lights 42 = .ok (.if_icmp .ge 65, 3) := by decide +kernel
theorem dX9_lights_45 : decode cX9_lights 45 = .ok (.aload_n 0, 1) := by decide +kernel
theorem dX9_lights_46 : decode cX9_lights 46 = .ok (.getfield 117, 3) := by decide +kernel
theorem dX9_lights_49 : decode cX9_lights 49 = .ok (.iload 4, 2) := by decide +kernel
theorem dX9_lights_51 : decode cX9_lights 51 = .ok (.aload_n 0, 1) := by decide +kernel
theorem dX9_lights_52 : decode cX9_lights 52 = .ok (.getfield 117, 3) := by decide +kernel
theorem dX9_lights_55 : decode cX9_lights 55 = .ok (.iload 4, 2) := by decide +kernel
theorem dX9_lights_57 : decode cX9_lights 57 = .ok (.iaload, 1) := by decide +kernel
theorem dX9_lights_58 : decode cX9_lights 58 = .ok (.iload_n 3, 1) := by decide +kernel
theorem dX9_lights_59 : decode cX9_lights 59 = .ok (.ifCond .eq 23, 3) := by decide +kernel
theorem dX9_lights_62 : decode cX9_lights 62 = .ok (.aload_n 0, 1) := by decide +kernel
theorem dX9_lights_63 : decode cX9_lights 63 = .ok (.getfield 7, 3) := by decide +kernel
theorem dX9_lights_66 : decode cX9_lights 66 = .ok (.aload_n 0, 1) := by decide +kernel
theorem dX9_lights_67 : decode cX9_lights 67 = .ok (.getfield 16, 3) := by decide +kernel
theorem dX9_lights_70 : decode cX9_lights 70 = .ok (.bipush 36, 2) := by decide +kernel
theorem dX9_lights_72 : decode cX9_lights 72 = .ok (.iload_n 2, 1) := by decide +kernel
theorem dX9_lights_73 : decode cX9_lights 73 = .ok (.imul, 1) := by decide +kernel
theorem dX9_lights_74 : decode cX9_lights 74 = .ok (.iload 4, 2) := by decide +kernel
theorem dX9_lights_76 : decode cX9_lights 76 = .ok (.iadd, 1) := by decide +kernel
theorem dX9_lights_77 : decode cX9_lights 77 = .ok (.iaload, 1) := by decide +kernel
theorem dX9_lights_78 : decode cX9_lights 78 = .ok (.isub, 1) := by decide +kernel
theorem dX9_lights_79 : decode cX9_lights 79 = .ok (.goto 15, 3) := by decide +kernel
theorem dX9_lights_82 : decode cX9_lights 82 = .ok (.aload_n 0, 1) := by decide +kernel
theorem dX9_lights_83 : decode cX9_lights 83 = .ok (.getfield 16, 3) := by decide +kernel
theorem dX9_lights_86 : decode cX9_lights 86 = .ok (.bipush 36, 2) := by decide +kernel
theorem dX9_lights_88 : decode cX9_lights 88 = .ok (.iload_n 2, 1) := by decide +kernel
theorem dX9_lights_89 : decode cX9_lights 89 = .ok (.imul, 1) := by decide +kernel
theorem dX9_lights_90 : decode cX9_lights 90 = .ok (.iload 4, 2) := by decide +kernel
theorem dX9_lights_92 : decode cX9_lights 92 = .ok (.iadd, 1) := by decide +kernel
theorem dX9_lights_93 : decode cX9_lights 93 = .ok (.iaload, 1) := by decide +kernel
theorem dX9_lights_94 : decode cX9_lights 94 = .ok (.iadd, 1) := by decide +kernel
theorem dX9_lights_95 : decode cX9_lights 95 = .ok (.aload_n 0, 1) := by decide +kernel
theorem dX9_lights_96 : decode cX9_lights 96 = .ok (.getfield 7, 3) := by decide +kernel
theorem dX9_lights_99 : decode cX9_lights 99 = .ok (.irem, 1) := by decide +kernel
theorem dX9_lights_100 : decode cX9_lights 100 = .ok (.iastore, 1) := by decide +kernel
theorem dX9_lights_101 : decode cX9_lights 101 = .ok (.iinc 4 1, 3) := by decide +kernel
theorem dX9_lights_104 : decode cX9_lights 104 = .ok (.goto (-68), 3) := by decide +kernel
theorem dX9_lights_107 : decode cX9_lights 107 = .ok (.iload_n 3, 1) := by decide +kernel
theorem dX9_lights_108 : decode cX9_lights 108 = .ok (.ifCond .eq 16, 3) := by decide +kernel
theorem dX9_lights_111 : decode cX9_lights 111 = .ok (.aload_n 0, 1) := by decide +kernel
theorem dX9_lights_112 : decode cX9_lights 112 = .ok (.getfield 117, 3) := by decide +kernel
theorem dX9_lights_115 : decode cX9_lights 115 = .ok (.iload_n 2, 1) := by decide +kernel
theorem dX9_lights_116 : decode cX9_lights 116 = .ok (.iaload, 1) := by decide +kernel
theorem dX9_lights_117 : decode cX9_lights 117 = .ok (.ifCond .ne 7, 3) := by decide +kernel
theorem dX9_lights_120 : decode cX9_lights 120 = .ok (.iconst (-1), 1) := by decide +kernel
theorem dX9_lights_121 : decode cX9_lights 121 = .ok (.goto 11, 3) := by decide +kernel
theorem dX9_lights_124 : decode cX9_lights 124 = .ok (.aload_n 0, 1) := by decide +kernel
theorem dX9_lights_125 : decode cX9_lights 125 = .ok (.aload_n 0, 1) := by decide +kernel
theorem dX9_lights_126 : decode cX9_lights 126 = .ok (.getfield 117, 3) := by decide +kernel
theorem dX9_lights_129 : decode cX9_lights 129 = .ok (.invokevirtual 378, 3) := by decide +kernel
theorem dX9_lights_132 : decode cX9_lights 132 = .ok (.ireturn, 1) := by decide +kernel
theorem dX9_spreads_0 : decode cX9_spreads 0 = .ok (.iconst 0, 1) := by decide +kernel
theorem dX9_spreads_1 : decode cX9_spreads 1 = .ok (.istore 4, 2) := by decide +kernel
theorem dX9_spreads_3 : decode cX9_spreads 3 = .ok (.iload 4, 2) := by decide +kernel
theorem dX9_spreads_5 : decode cX9_spreads 5 = .ok (.iload_n 2, 1) := by decide +kernel
theorem dX9_spreads_6 : decode cX9_spreads 6 = .ok (.if_icmp .ge 17, 3) := by decide +kernel
theorem dX9_spreads_9 : decode cX9_spreads 9 = .ok (.aload_n 0, 1) := by decide +kernel
theorem dX9_spreads_10 : decode cX9_spreads 10 = .ok (.getfield 120, 3) := by decide +kernel
theorem dX9_spreads_13 : decode cX9_spreads 13 = .ok (.iload 4, 2) := by decide +kernel
theorem dX9_spreads_15 : decode cX9_spreads 15 = .ok (.iconst (-1), 1) := by decide +kernel
theorem dX9_spreads_16 : decode cX9_spreads 16 = .ok (.iastore, 1) := by decide +kernel
theorem dX9_spreads_17 : decode cX9_spreads 17 = .ok (.iinc 4 1, 3) := by decide +kernel
theorem dX9_spreads_20 : decode cX9_spreads 20 = .ok (.goto (-17), 3) := by decide +kernel
theorem dX9_spreads_23 : decode cX9_spreads 23 = .ok (.aload_n 0, 1) := by decide +kernel
theorem dX9_spreads_24 : decode cX9_spreads 24 = .ok (.getfield 120, 3) := by decide +kernel
theorem dX9_spreads_27 : decode cX9_spreads 27 = .ok (.iload_n 1, 1) := by decide +kernel
theorem dX9_spreads_28 : decode cX9_spreads 28 = .ok (.iconst 0, 1) := by decide +kernel
theorem dX9_spreads_29 : decode cX9_spreads 29 = .ok (.iastore, 1) := by decide +kernel
theorem dX9_spreads_30 : decode cX9_spreads 30 = .ok (.aload_n 0, 1) := by decide +kernel
theorem dX9_spreads_31 : decode cX9_spreads 31 = .ok (.getfield 123, 3) := by decide +kernel
theorem dX9_spreads_34 : decode cX9_spreads 34 = .ok (.iconst 0, 1) := by decide +kernel
theorem dX9_spreads_35 : decode cX9_spreads 35 = .ok (.iload_n 1, 1) := by decide +kernel
theorem dX9_spreads_36 : decode cX9_spreads 36 = .ok (.iastore, 1) := by decide +kernel
theorem dX9_spreads_37 : decode cX9_spreads 37 = .ok (.iconst 1, 1) := by decide +kernel
theorem dX9_spreads_38 : decode cX9_spreads 38 = .ok (.istore 4, 2) := by decide +kernel
theorem dX9_spreads_40 : decode cX9_spreads 40 = .ok (.iconst 0, 1) := by decide +kernel
theorem dX9_spreads_41 : decode cX9_spreads 41 = .ok (.istore 5, 2) := by decide +kernel
theorem dX9_spreads_43 : decode cX9_spreads 43 = .ok (.iload 5, 2) := by decide +kernel
theorem dX9_spreads_45 : decode cX9_spreads 45 = .ok (.iload 4, 2) := by decide +kernel
theorem dX9_spreads_47 : decode cX9_spreads 47 = .ok (.if_icmp .ge 96, 3) := by decide +kernel
theorem dX9_spreads_50 : decode cX9_spreads 50 = .ok (.iconst 0, 1) := by decide +kernel
theorem dX9_spreads_51 : decode cX9_spreads 51 = .ok (.istore 6, 2) := by decide +kernel
theorem dX9_spreads_53 : decode cX9_spreads 53 = .ok (.iload 6, 2) := by decide +kernel
theorem dX9_spreads_55 : decode cX9_spreads 55 = .ok (.aload_n 0, 1) := by decide +kernel
theorem dX9_spreads_56 : decode cX9_spreads 56 = .ok (.getfield 268, 3) := by decide +kernel
theorem dX9_spreads_59 : decode cX9_spreads 59 = .ok (.if_icmp .ge 78, 3) := by decide +kernel
theorem dX9_spreads_62 : decode cX9_spreads 62 = .ok (.aload_n 0, 1) := by decide +kernel
theorem dX9_spreads_63 : decode cX9_spreads 63 = .ok (.aload_n 0, 1) := by decide +kernel
theorem dX9_spreads_64 : decode cX9_spreads 64 = .ok (.getfield 123, 3) := by decide +kernel
theorem dX9_spreads_67 : decode cX9_spreads 67 = .ok (.iload 5, 2) := by decide +kernel
theorem dX9_spreads_69 : decode cX9_spreads 69 = .ok (.iaload, 1) := by decide +kernel
theorem dX9_spreads_70 : decode cX9_spreads 70 = .ok (.iload 6, 2) := by decide +kernel
theorem dX9_spreads_72 : decode cX9_spreads 72 = .ok (.iload_n 3, 1) := by decide +kernel
theorem dX9_spreads_73 : decode cX9_spreads 73 = .ok (.invokevirtual 382, 3) := by decide +kernel
theorem dX9_spreads_76 : decode cX9_spreads 76 = .ok (.istore 7, 2) := by decide +kernel
theorem dX9_spreads_78 : decode cX9_spreads 78 = .ok (.iload 7, 2) := by decide +kernel
theorem dX9_spreads_80 : decode cX9_spreads 80 = .ok (.iconst (-1), 1) := by decide +kernel
theorem dX9_spreads_81 : decode cX9_spreads 81 = .ok (.if_icmp .eq 50, 3) := by decide +kernel
theorem dX9_spreads_84 : decode cX9_spreads 84 = .ok (.aload_n 0, 1) := by decide +kernel
theorem dX9_spreads_85 : decode cX9_spreads 85 = .ok (.getfield 120, 3) := by decide +kernel
theorem dX9_spreads_88 : decode cX9_spreads 88 = .ok (.iload 7, 2) := by decide +kernel
theorem dX9_spreads_90 : decode cX9_spreads 90 = .ok (.iaload, 1) := by decide +kernel
theorem dX9_spreads_91 : decode cX9_spreads 91 = .ok (.iconst (-1), 1) := by decide +kernel
theorem dX9_spreads_92 : decode cX9_spreads 92 = .ok (.if_icmp .eq 6, 3) := by decide +kernel
theorem dX9_spreads_95 : decode cX9_spreads 95 = .ok (.goto 36, 3) := by decide +kernel
theorem dX9_spreads_98 : decode cX9_spreads 98 = .ok (.aload_n 0, 1) := by decide +kernel
theorem dX9_spreads_99 : decode cX9_spreads 99 = .ok (.getfield 120, 3) := by decide +kernel
theorem dX9_spreads_102 : decode cX9_spreads 102 = .ok (.iload 7, 2) := by decide +kernel
theorem dX9_spreads_104 : decode cX9_spreads 104 = .ok (.aload_n 0, 1) := by decide +kernel
theorem dX9_spreads_105 : decode cX9_spreads 105 = .ok (.getfield 120, 3) := by decide +kernel
theorem dX9_spreads_108 : decode cX9_spreads 108 = .ok (.aload_n 0, 1) := by decide +kernel
theorem dX9_spreads_109 : decode cX9_spreads 109 = .ok (.getfield 123, 3) := by decide +kernel
theorem dX9_spreads_112 : decode cX9_spreads 112 = .ok (.iload 5, 2) := by decide +kernel
theorem dX9_spreads_114 : decode cX9_spreads 114 = .ok (.iaload, 1) := by decide +kernel
theorem dX9_spreads_115 : decode cX9_spreads 115 = .ok (.iaload, 1) := by decide +kernel
theorem dX9_spreads_116 : decode cX9_spreads 116 = .ok (.iconst 1, 1) := by decide +kernel
theorem dX9_spreads_117 : decode cX9_spreads 117 = .ok (.iadd, 1) := by decide +kernel
theorem dX9_spreads_118 : decode cX9_spreads 118 = .ok (.iastore, 1) := by decide +kernel
theorem dX9_spreads_119 : decode cX9_spreads 119 = .ok (.aload_n 0, 1) := by decide +kernel
theorem dX9_spreads_120 : decode cX9_spreads 120 = .ok (.getfield 123, 3) := by decide +kernel
theorem dX9_spreads_123 : decode cX9_spreads 123 = .ok (.iload 4, 2) := by decide +kernel
theorem dX9_spreads_125 : decode cX9_spreads 125 = .ok (.iload 7, 2) := by decide +kernel
theorem dX9_spreads_127 : decode cX9_spreads 127 = .ok (.iastore, 1) := by decide +kernel
theorem dX9_spreads_128 : decode cX9_spreads 128 = .ok (.iinc 4 1, 3) := by decide +kernel
theorem dX9_spreads_131 : decode cX9_spreads 131 = .ok (.iinc 6 1, 3) := by decide +kernel
theorem dX9_spreads_134 : decode cX9_spreads 134 = .ok (.goto (-81), 3) := by decide +kernel
theorem dX9_spreads_137 : decode cX9_spreads 137 = .ok (.iinc 5 1, 3) := by decide +kernel
theorem dX9_spreads_140 : decode cX9_spreads 140 = .ok (.goto (-97), 3) := by decide +kernel
theorem dX9_spreads_143 : decode cX9_spreads 143 = .ok (.iload 4, 2) := by decide +kernel
theorem dX9_spreads_145 : decode cX9_spreads 145 = .ok (.ireturn, 1) := by decide +kernel
theorem dX9_lit_0 : decode cX9_lit 0 = .ok (.aload_n 0, 1) := by decide +kernel
theorem dX9_lit_1 : decode cX9_lit 1 = .ok (.iconst 0, 1) := by decide +kernel
theorem dX9_lit_2 : decode cX9_lit 2 = .ok (.putfield 138, 3) := by decide +kernel
theorem dX9_lit_5 : decode cX9_lit 5 = .ok (.aload_n 0, 1) := by decide +kernel
theorem dX9_lit_6 : decode cX9_lit 6 = .ok (.iload_n 1, 1) := by decide +kernel
theorem dX9_lit_7 : decode cX9_lit 7 = .ok (.ifCond .lt 12, 3) := by decide +kernel
theorem dX9_lit_10 : decode cX9_lit 10 = .ok (.iload_n 1, 1) := by decide +kernel
theorem dX9_lit_11 : decode cX9_lit 11 = .ok (.iconst 2, 1) := by decide +kernel
theorem dX9_lit_12 : decode cX9_lit 12 = .ok (.if_icmp .gt 7, 3) := by decide +kernel
theorem dX9_lit_15 : decode cX9_lit 15 = .ok (.iconst 1, 1) := by decide +kernel
theorem dX9_lit_16 : decode cX9_lit 16 = .ok (.goto 4, 3) := by decide +kernel
theorem dX9_lit_19 : decode cX9_lit 19 = .ok (.iconst 0, 1) := by decide +kernel
theorem dX9_lit_20 : decode cX9_lit 20 = .ok (.iconst 1, 1) := by decide +kernel
theorem dX9_lit_21 : decode cX9_lit 21 = .ok (.invokevirtual 255, 3) := by decide +kernel
theorem dX9_lit_24 : decode cX9_lit 24 = .ok (.ifCond .ne 5, 3) := by decide +kernel
theorem dX9_lit_27 : decode cX9_lit 27 = .ok (.iconst 0, 1) := by decide +kernel
theorem dX9_lit_28 : decode cX9_lit 28 = .ok (.ireturn, 1) := by decide +kernel
theorem dX9_lit_29 : decode cX9_lit 29 = .ok (.aload_n 0, 1) := by decide +kernel
theorem dX9_lit_30 : decode cX9_lit 30 = .ok (.aload_n 0, 1) := by decide +kernel
theorem dX9_lit_31 : decode cX9_lit 31 = .ok (.getfield 268, 3) := by decide +kernel
theorem dX9_lit_34 : decode cX9_lit 34 = .ok (.sipush 20000, 3) := by decide +kernel
theorem dX9_lit_37 : decode cX9_lit 37 = .ok (.invokevirtual 335, 3) := by decide +kernel
theorem dX9_lit_40 : decode cX9_lit 40 = .ok (.istore_n 2, 1) := by decide +kernel
theorem dX9_lit_41 : decode cX9_lit 41 = .ok (.iload_n 2, 1) := by decide +kernel
theorem dX9_lit_42 : decode cX9_lit 42 = .ok (.sipush 20000, 3) := by decide +kernel
theorem dX9_lit_45 : decode cX9_lit 45 = .ok (.if_icmp .le 6, 3) := by decide +kernel
theorem dX9_lit_48 : decode cX9_lit 48 = .ok (.bipush (-2), 2) := by decide +kernel
theorem dX9_lit_50 : decode cX9_lit 50 = .ok (.ireturn, 1) := by decide +kernel
theorem dX9_lit_51 : decode cX9_lit 51 = .ok (.iload_n 1, 1) := by decide +kernel
theorem dX9_lit_52 : decode cX9_lit 52 = .ok (.iconst 2, 1) := by decide +kernel
theorem dX9_lit_53 : decode cX9_lit 53 = .ok (.if_icmp .ne 18, 3) := by decide +kernel
theorem dX9_lit_56 : decode cX9_lit 56 = .ok (.aload_n 0, 1) := by decide +kernel
theorem dX9_lit_57 : decode cX9_lit 57 = .ok (.aload_n 0, 1) := by decide +kernel
theorem dX9_lit_58 : decode cX9_lit 58 = .ok (.aload_n 0, 1) := by decide +kernel
theorem dX9_lit_59 : decode cX9_lit 59 = .ok (.getfield 24, 3) := by decide +kernel
theorem dX9_lit_62 : decode cX9_lit 62 = .ok (.invokevirtual 378, 3) := by decide +kernel
theorem dX9_lit_65 : decode cX9_lit 65 = .ok (.iload_n 2, 1) := by decide +kernel
theorem dX9_lit_66 : decode cX9_lit 66 = .ok (.iconst 0, 1) := by decide +kernel
theorem dX9_lit_67 : decode cX9_lit 67 = .ok (.invokevirtual 386, 3) := by decide +kernel
theorem dX9_lit_70 : decode cX9_lit 70 = .ok (.ireturn, 1) := by decide +kernel
theorem dX9_lit_71 : decode cX9_lit 71 = .ok (.aload_n 0, 1) := by decide +kernel
theorem dX9_lit_72 : decode cX9_lit 72 = .ok (.aload_n 0, 1) := by decide +kernel
theorem dX9_lit_73 : decode cX9_lit 73 = .ok (.aload_n 0, 1) := by decide +kernel
theorem dX9_lit_74 : decode cX9_lit 74 = .ok (.getfield 27, 3) := by decide +kernel
theorem dX9_lit_77 : decode cX9_lit 77 = .ok (.invokevirtual 378, 3) := by decide +kernel
theorem dX9_lit_80 : decode cX9_lit 80 = .ok (.iload_n 2, 1) := by decide +kernel
theorem dX9_lit_81 : decode cX9_lit 81 = .ok (.iconst 1, 1) := by decide +kernel
theorem dX9_lit_82 : decode cX9_lit 82 = .ok (.invokevirtual 386, 3) := by decide +kernel
theorem dX9_lit_85 : decode cX9_lit 85 = .ok (.istore_n 3, 1) := by decide +kernel
theorem dX9_lit_86 : decode cX9_lit 86 = .ok (.aload_n 0, 1) := by decide +kernel
theorem dX9_lit_87 : decode cX9_lit 87 = .ok (.aload_n 0, 1) := by decide +kernel
theorem dX9_lit_88 : decode cX9_lit 88 = .ok (.getfield 24, 3) := by decide +kernel
theorem dX9_lit_91 : decode cX9_lit 91 = .ok (.invokevirtual 378, 3) := by decide +kernel
theorem dX9_lit_94 : decode cX9_lit 94 = .ok (.istore 4, 2) := by decide +kernel
theorem dX9_lit_96 : decode cX9_lit 96 = .ok (.iload_n 1, 1) := by decide +kernel
theorem dX9_lit_97 : decode cX9_lit 97 = .ok (.ifCond .eq 13, 3) := by decide +kernel
theorem dX9_lit_100 : decode cX9_lit 100 = .ok (.aload_n 0, 1) := by decide +kernel
theorem dX9_lit_101 : decode cX9_lit 101 = .ok (.getfield 120, 3) := by decide +kernel
theorem dX9_lit_104 : decode cX9_lit 104 = .ok (.iload 4, 2) := by decide +kernel
theorem dX9_lit_106 : decode cX9_lit 106 = .ok (.iaload, 1) := by decide +kernel
theorem dX9_lit_107 : decode cX9_lit 107 = .ok (.ifCond .gt 23, 3) := by decide +kernel
theorem dX9_lit_110 : decode cX9_lit 110 = .ok (.iload_n 1, 1) := by decide +kernel
theorem dX9_lit_111 : decode cX9_lit 111 = .ok (.ifCond .ne 17, 3) := by decide +kernel
theorem dX9_lit_114 : decode cX9_lit 114 = .ok (.iload_n 3, 1) := by decide +kernel
theorem dX9_lit_115 : decode cX9_lit 115 = .ok (.ifCond .le 13, 3) := by decide +kernel
theorem dX9_lit_118 : decode cX9_lit 118 = .ok (.aload_n 0, 1) := by decide +kernel
theorem dX9_lit_119 : decode cX9_lit 119 = .ok (.getfield 120, 3) := by decide +kernel
theorem dX9_lit_122 : decode cX9_lit 122 = .ok (.iload 4, 2) := by decide +kernel
theorem dX9_lit_124 : decode cX9_lit 124 = .ok (.iaload, 1) := by decide +kernel
theorem dX9_lit_125 : decode cX9_lit 125 = .ok (.goto 4, 3) := by decide +kernel
theorem dX9_lit_128 : decode cX9_lit 128 = .ok (.iconst (-1), 1) := by decide +kernel
theorem dX9_lit_129 : decode cX9_lit 129 = .ok (.ireturn, 1) := by decide +kernel
theorem dX9_lit_130 : decode cX9_lit 130 = .ok (.iconst 0, 1) := by decide +kernel
theorem dX9_lit_131 : decode cX9_lit 131 = .ok (.istore 5, 2) := by decide +kernel
theorem dX9_lit_133 : decode cX9_lit 133 = .ok (.iload 5, 2) := by decide +kernel
theorem dX9_lit_135 : decode cX9_lit 135 = .ok (.aload_n 0, 1) := by decide +kernel
theorem dX9_lit_136 : decode cX9_lit 136 = .ok (.getfield 268, 3) := by decide +kernel
theorem dX9_lit_139 : decode cX9_lit 139 = .ok (.if_icmp .ge 48, 3) := by decide +kernel
theorem dX9_lit_142 : decode cX9_lit 142 = .ok (.aload_n 0, 1) := by decide +kernel
theorem dX9_lit_143 : decode cX9_lit 143 = .ok (.iload 4, 2) := by decide +kernel
theorem dX9_lit_145 : decode cX9_lit 145 = .ok (.iload 5, 2) := by decide +kernel
theorem dX9_lit_147 : decode cX9_lit 147 = .ok (.iconst 0, 1) := by decide +kernel
theorem dX9_lit_148 : decode cX9_lit 148 = .ok (.invokevirtual 382, 3) := by decide +kernel
theorem dX9_lit_151 : decode cX9_lit 151 = .ok (.istore 6, 2) := by decide +kernel
theorem dX9_lit_153 : decode cX9_lit 153 = .ok (.iload 6, 2) := by decide +kernel
theorem dX9_lit_155 : decode cX9_lit 155 = .ok (.iconst (-1), 1) := by decide +kernel
theorem dX9_lit_156 : decode cX9_lit 156 = .ok (.if_icmp .eq 25, 3) := by decide +kernel
theorem dX9_lit_159 : decode cX9_lit 159 = .ok (.aload_n 0, 1) := by decide +kernel
theorem dX9_lit_160 : decode cX9_lit 160 = .ok (.getfield 120, 3) := by decide +kernel
theorem dX9_lit_163 : decode cX9_lit 163 = .ok (.iload 6, 2) := by decide +kernel
theorem dX9_lit_165 : decode cX9_lit 165 = .ok (.iaload, 1) := by decide +kernel
theorem dX9_lit_166 : decode cX9_lit 166 = .ok (.aload_n 0, 1) := by decide +kernel
theorem dX9_lit_167 : decode cX9_lit 167 = .ok (.getfield 120, 3) := by decide +kernel
theorem dX9_lit_170 : decode cX9_lit 170 = .ok (.iload 4, 2) := by decide +kernel
theorem dX9_lit_172 : decode cX9_lit 172 = .ok (.iaload, 1) := by decide +kernel
theorem dX9_lit_173 : decode cX9_lit 173 = .ok (.iconst 1, 1) := by decide +kernel
theorem dX9_lit_174 : decode cX9_lit 174 = .ok (.isub, 1) := by decide +kernel
theorem dX9_lit_175 : decode cX9_lit 175 = .ok (.if_icmp .ne 6, 3) := by decide +kernel
theorem dX9_lit_178 : decode cX9_lit 178 = .ok (.iload 5, 2) := by decide +kernel
theorem dX9_lit_180 : decode cX9_lit 180 = .ok (.ireturn, 1) := by decide +kernel
theorem dX9_lit_181 : decode cX9_lit 181 = .ok (.iinc 5 1, 3) := by decide +kernel
theorem dX9_lit_184 : decode cX9_lit 184 = .ok (.goto (-51), 3) := by decide +kernel
theorem dX9_lit_187 : decode cX9_lit 187 = .ok (.iconst (-1), 1) := by decide +kernel
theorem dX9_lit_188 : decode cX9_lit 188 = .ok (.ireturn, 1) := by decide +kernel
theorem dX9_mayPress_0 : decode cX9_mayPress 0 = .ok (.aload_n 0, 1) := by decide +kernel
theorem dX9_mayPress_1 : decode cX9_mayPress 1 = .ok (.getfield 20, 3) := by decide +kernel
theorem dX9_mayPress_4 : decode cX9_mayPress 4 = .ok (.iload_n 2, 1) := by decide +kernel
theorem dX9_mayPress_5 : decode cX9_mayPress 5 = .ok (.baload, 1) := by decide +kernel
theorem dX9_mayPress_6 : decode cX9_mayPress 6 = .ok (.ifCond .ne 12, 3) := by decide +kernel
theorem dX9_mayPress_9 : decode cX9_mayPress 9 = .ok (.iload_n 1, 1) := by decide +kernel
theorem dX9_mayPress_10 : decode cX9_mayPress 10 = .ok (.iload_n 2, 1) := by decide +kernel
theorem dX9_mayPress_11 : decode cX9_mayPress 11 = .ok (.ishr, 1) := by decide +kernel
theorem dX9_mayPress_12 : decode cX9_mayPress 12 = .ok (.iconst 1, 1) := by decide +kernel
theorem dX9_mayPress_13 : decode cX9_mayPress 13 = .ok (.iand, 1) := by decide +kernel
theorem dX9_mayPress_14 : decode cX9_mayPress 14 = .ok (.iconst 1, 1) := by decide +kernel
theorem dX9_mayPress_15 : decode cX9_mayPress 15 = .ok (.if_icmp .ne 5, 3) := by decide +kernel
theorem dX9_mayPress_18 : decode cX9_mayPress 18 = .ok (.iconst 0, 1) := by decide +kernel
theorem dX9_mayPress_19 : decode cX9_mayPress 19 = .ok (.ireturn, 1) := by decide +kernel
theorem dX9_mayPress_20 : decode cX9_mayPress 20 = .ok (.aload_n 0, 1) := by decide +kernel
theorem dX9_mayPress_21 : decode cX9_mayPress 21 = .ok (.getfield 24, 3) := by decide +kernel
theorem dX9_mayPress_24 : decode cX9_mayPress 24 = .ok (.iload_n 2, 1) := by decide +kernel
theorem dX9_mayPress_25 : decode cX9_mayPress 25 = .ok (.iaload, 1) := by decide +kernel
theorem dX9_mayPress_26 : decode cX9_mayPress 26 = .ok (.istore_n 3, 1) := by decide +kernel
theorem dX9_mayPress_27 : decode cX9_mayPress 27 = .ok (.iconst 0, 1) := by decide +kernel
theorem dX9_mayPress_28 : decode cX9_mayPress 28 = .ok (.istore 4, 2) := by decide +kernel
theorem dX9_mayPress_30 : decode cX9_mayPress 30 = .ok (.iload 4, 2) := by decide +kernel
theorem dX9_mayPress_32 : decode cX9_mayPress 32 = .ok (.aload_n 0, 1) := by decide +kernel
theorem dX9_mayPress_33 : decode cX9_mayPress 33 = .ok (.getfield 268, 3) := by decide +kernel
theorem dX9_mayPress_36 : decode cX9_mayPress 36 = .ok (.if_icmp .ge 38, 3) := by decide +kernel
theorem dX9_mayPress_39 : decode cX9_mayPress 39 = .ok (.iload_n 3, 1) := by decide +kernel
theorem dX9_mayPress_40 : decode cX9_mayPress 40 = .ok (.iload_n 1, 1) := by decide +kernel
theorem dX9_mayPress_41 : decode cX9_mayPress 41 = .ok (.iload 4, 2) := by decide +kernel
theorem dX9_mayPress_43 : decode cX9_mayPress 43 = .ok (.ishr, 1) := by decide +kernel
theorem dX9_mayPress_44 : decode cX9_mayPress 44 = .ok (.iconst 1, 1) := by decide +kernel
theorem dX9_mayPress_45 : decode cX9_mayPress 45 = .ok (.iand, 1) := by decide +kernel
theorem dX9_mayPress_46 : decode cX9_mayPress 46 = .ok (.iconst 1, 1) := by decide +kernel
theorem dX9_mayPress_47 : decode cX9_mayPress 47 = .ok (.if_icmp .ne 18, 3) := by decide +kernel
theorem dX9_mayPress_50 : decode cX9_mayPress 50 = .ok (.aload_n 0, 1) := by decide +kernel
theorem dX9_mayPress_51 : decode cX9_mayPress 51 = .ok (.getfield 16, 3) := by decide +kernel
theorem dX9_mayPress_54 : decode cX9_mayPress 54 = .ok (.bipush 36, 2) := by decide +kernel
theorem dX9_mayPress_56 : decode cX9_mayPress 56 = .ok (.iload 4, 2) := by decide +kernel
theorem dX9_mayPress_58 : decode cX9_mayPress 58 = .ok (.imul, 1) := by decide +kernel
theorem dX9_mayPress_59 : decode cX9_mayPress 59 = .ok (.iload_n 2, 1) := by decide +kernel
theorem dX9_mayPress_60 : decode cX9_mayPress 60 = .ok (.iadd, 1) := by decide +kernel
theorem dX9_mayPress_61 : decode cX9_mayPress 61 = .ok (.iaload, 1) := by decide +kernel
theorem dX9_mayPress_62 : decode cX9_mayPress 62 = .ok (.goto 4, 3) := by decide +kernel
theorem dX9_mayPress_65 : decode cX9_mayPress 65 = .ok (.iconst 0, 1) := by decide +kernel
theorem dX9_mayPress_66 : decode cX9_mayPress 66 = .ok (.iadd, 1) := by decide +kernel
theorem dX9_mayPress_67 : decode cX9_mayPress 67 = .ok (.istore_n 3, 1) := by decide +kernel
theorem dX9_mayPress_68 : decode cX9_mayPress 68 = .ok (.iinc 4 1, 3) := by decide +kernel
theorem dX9_mayPress_71 : decode cX9_mayPress 71 = .ok (.goto (-41), 3) := by decide +kernel
theorem dX9_mayPress_74 : decode cX9_mayPress 74 = .ok (.iload_n 3, 1) := by decide +kernel
theorem dX9_mayPress_75 : decode cX9_mayPress 75 = .ok (.aload_n 0, 1) := by decide +kernel
theorem dX9_mayPress_76 : decode cX9_mayPress 76 = .ok (.getfield 7, 3) := by decide +kernel
theorem dX9_mayPress_79 : decode cX9_mayPress 79 = .ok (.irem, 1) := by decide +kernel
theorem dX9_mayPress_80 : decode cX9_mayPress 80 = .ok (.ifCond .eq 7, 3) := by decide +kernel
theorem dX9_mayPress_83 : decode cX9_mayPress 83 = .ok (.iconst 1, 1) := by decide +kernel
theorem dX9_mayPress_84 : decode cX9_mayPress 84 = .ok (.goto 4, 3) := by decide +kernel
theorem dX9_mayPress_87 : decode cX9_mayPress 87 = .ok (.iconst 0, 1) := by decide +kernel
theorem dX9_mayPress_88 : decode cX9_mayPress 88 = .ok (.ireturn, 1) := by decide +kernel
theorem dX9_game_0 : decode cX9_game 0 = .ok (.aload_n 0, 1) := by decide +kernel
theorem dX9_game_1 : decode cX9_game 1 = .ok (.iconst 0, 1) := by decide +kernel
theorem dX9_game_2 : decode cX9_game 2 = .ok (.putfield 138, 3) := by decide +kernel
theorem dX9_game_5 : decode cX9_game 5 = .ok (.aload_n 0, 1) := by decide +kernel
theorem dX9_game_6 : decode cX9_game 6 = .ok (.getfield 268, 3) := by decide +kernel
theorem dX9_game_9 : decode cX9_game 9 = .ok (.bipush 12, 2) := by decide +kernel
theorem dX9_game_11 : decode cX9_game 11 = .ok (.if_icmp .le 6, 3) := by decide +kernel
theorem dX9_game_14 : decode cX9_game 14 = .ok (.bipush (-2), 2) := by decide +kernel
theorem dX9_game_16 : decode cX9_game 16 = .ok (.ireturn, 1) := by decide +kernel
theorem dX9_game_17 : decode cX9_game 17 = .ok (.iconst 1, 1) := by decide +kernel
theorem dX9_game_18 : decode cX9_game 18 = .ok (.aload_n 0, 1) := by decide +kernel
theorem dX9_game_19 : decode cX9_game 19 = .ok (.getfield 268, 3) := by decide +kernel
theorem dX9_game_22 : decode cX9_game 22 = .ok (.ishl, 1) := by decide +kernel
theorem dX9_game_23 : decode cX9_game 23 = .ok (.iconst 1, 1) := by decide +kernel
theorem dX9_game_24 : decode cX9_game 24 = .ok (.isub, 1) := by decide +kernel
theorem dX9_game_25 : decode cX9_game 25 = .ok (.istore_n 1, 1) := by decide +kernel
theorem dX9_game_26 : decode cX9_game 26 = .ok (.iload_n 1, 1) := by decide +kernel
theorem dX9_game_27 : decode cX9_game 27 = .ok (.ifCond .lt 61, 3) := by decide +kernel
theorem dX9_game_30 : decode cX9_game 30 = .ok (.aload_n 0, 1) := by decide +kernel
theorem dX9_game_31 : decode cX9_game 31 = .ok (.getfield 126, 3) := by decide +kernel
theorem dX9_game_34 : decode cX9_game 34 = .ok (.iload_n 1, 1) := by decide +kernel
theorem dX9_game_35 : decode cX9_game 35 = .ok (.iconst 0, 1) := by decide +kernel
theorem dX9_game_36 : decode cX9_game 36 = .ok (.bastore, 1) := by decide +kernel
theorem dX9_game_37 : decode cX9_game 37 = .ok (.iconst 0, 1) := by decide +kernel
theorem dX9_game_38 : decode cX9_game 38 = .ok (.istore_n 2, 1) := by decide +kernel
theorem dX9_game_39 : decode cX9_game 39 = .ok (.iload_n 2, 1) := by decide +kernel
theorem dX9_game_40 : decode cX9_game 40 = .ok (.aload_n 0, 1) := by decide +kernel
theorem dX9_game_41 : decode cX9_game 41 = .ok (.getfield 268, 3) := by decide +kernel
theorem dX9_game_44 : decode cX9_game 44 = .ok (.if_icmp .ge 38, 3) := by decide +kernel
theorem dX9_game_47 : decode cX9_game 47 = .ok (.aload_n 0, 1) := by decide +kernel
theorem dX9_game_48 : decode cX9_game 48 = .ok (.iload_n 1, 1) := by decide +kernel
theorem dX9_game_49 : decode cX9_game 49 = .ok (.iload_n 2, 1) := by decide +kernel
theorem dX9_game_50 : decode cX9_game 50 = .ok (.invokevirtual 389, 3) := by decide +kernel
theorem dX9_game_53 : decode cX9_game 53 = .ok (.ifCond .eq 23, 3) := by decide +kernel
theorem dX9_game_56 : decode cX9_game 56 = .ok (.aload_n 0, 1) := by decide +kernel
theorem dX9_game_57 : decode cX9_game 57 = .ok (.getfield 126, 3) := by decide +kernel
theorem dX9_game_60 : decode cX9_game 60 = .ok (.iload_n 1, 1) := by decide +kernel
theorem dX9_game_61 : decode cX9_game 61 = .ok (.iconst 1, 1) := by decide +kernel
theorem dX9_game_62 : decode cX9_game 62 = .ok (.iload_n 2, 1) := by decide +kernel
theorem dX9_game_63 : decode cX9_game 63 = .ok (.ishl, 1) := by decide +kernel
theorem dX9_game_64 : decode cX9_game 64 = .ok (.ior, 1) := by decide +kernel
theorem dX9_game_65 : decode cX9_game 65 = .ok (.baload, 1) := by decide +kernel
theorem dX9_game_66 : decode cX9_game 66 = .ok (.ifCond .ne 10, 3) := by decide +kernel
theorem dX9_game_69 : decode cX9_game 69 = .ok (.aload_n 0, 1) := by decide +kernel
theorem dX9_game_70 : decode cX9_game 70 = .ok (.getfield 126, 3) := by decide +kernel
theorem dX9_game_73 : decode cX9_game 73 = .ok (.iload_n 1, 1) := by decide +kernel
theorem dX9_game_74 : decode cX9_game 74 = .ok (.iconst 1, 1) := by decide +kernel
theorem dX9_game_75 : decode cX9_game 75 = .ok (.bastore, 1) := by decide +kernel
theorem dX9_game_76 : decode cX9_game 76 = .ok (.iinc 2 1, 3) := by decide +kernel
theorem dX9_game_79 : decode cX9_game 79 = .ok (.goto (-40), 3) := by decide +kernel
theorem dX9_game_82 : decode cX9_game 82 = .ok (.iinc 1 (-1), 3) := by decide +kernel
theorem dX9_game_85 : decode cX9_game 85 = .ok (.goto (-59), 3) := by decide +kernel
theorem dX9_game_88 : decode cX9_game 88 = .ok (.iconst 0, 1) := by decide +kernel
theorem dX9_game_89 : decode cX9_game 89 = .ok (.istore_n 1, 1) := by decide +kernel
theorem dX9_game_90 : decode cX9_game 90 = .ok (.iload_n 1, 1) := by decide +kernel
theorem dX9_game_91 : decode cX9_game 91 = .ok (.aload_n 0, 1) := by decide +kernel
theorem dX9_game_92 : decode cX9_game 92 = .ok (.getfield 268, 3) := by decide +kernel
theorem dX9_game_95 : decode cX9_game 95 = .ok (.if_icmp .ge 31, 3) := by decide +kernel
theorem dX9_game_98 : decode cX9_game 98 = .ok (.aload_n 0, 1) := by decide +kernel
theorem dX9_game_99 : decode cX9_game 99 = .ok (.iconst 0, 1) := by decide +kernel
theorem dX9_game_100 : decode cX9_game 100 = .ok (.iload_n 1, 1) := by decide +kernel
theorem dX9_game_101 : decode cX9_game 101 = .ok (.invokevirtual 389, 3) := by decide +kernel
theorem dX9_game_104 : decode cX9_game 104 = .ok (.ifCond .eq 16, 3) := by decide +kernel
theorem dX9_game_107 : decode cX9_game 107 = .ok (.aload_n 0, 1) := by decide +kernel
theorem dX9_game_108 : decode cX9_game 108 = .ok (.getfield 126, 3) := by decide +kernel
theorem dX9_game_111 : decode cX9_game 111 = .ok (.iconst 1, 1) := by decide +kernel
theorem dX9_game_112 : decode cX9_game 112 = .ok (.iload_n 1, 1) := by decide +kernel
theorem dX9_game_113 : decode cX9_game 113 = .ok (.ishl, 1) := by decide +kernel
theorem dX9_game_114 : decode cX9_game 114 = .ok (.baload, 1) := by decide +kernel
theorem dX9_game_115 : decode cX9_game 115 = .ok (.ifCond .ne 5, 3) := by decide +kernel
theorem dX9_game_118 : decode cX9_game 118 = .ok (.iload_n 1, 1) := by decide +kernel
theorem dX9_game_119 : decode cX9_game 119 = .ok (.ireturn, 1) := by decide +kernel
theorem dX9_game_120 : decode cX9_game 120 = .ok (.iinc 1 1, 3) := by decide +kernel
theorem dX9_game_123 : decode cX9_game 123 = .ok (.goto (-33), 3) := by decide +kernel
theorem dX9_game_126 : decode cX9_game 126 = .ok (.iconst (-1), 1) := by decide +kernel
theorem dX9_game_127 : decode cX9_game 127 = .ok (.ireturn, 1) := by decide +kernel
theorem dX9_pulses_0 : decode cX9_pulses 0 = .ok (.iconst 0, 1) := by decide +kernel
theorem dX9_pulses_1 : decode cX9_pulses 1 = .ok (.istore_n 2, 1) := by decide +kernel
theorem dX9_pulses_2 : decode cX9_pulses 2 = .ok (.iload_n 2, 1) := by decide +kernel
theorem dX9_pulses_3 : decode cX9_pulses 3 = .ok (.aload_n 0, 1) := by decide +kernel
theorem dX9_pulses_4 : decode cX9_pulses 4 = .ok (.getfield 268, 3) := by decide +kernel
theorem dX9_pulses_7 : decode cX9_pulses 7 = .ok (.if_icmp .ge 18, 3) := by decide +kernel
theorem dX9_pulses_10 : decode cX9_pulses 10 = .ok (.aload_n 0, 1) := by decide +kernel
theorem dX9_pulses_11 : decode cX9_pulses 11 = .ok (.getfield 93, 3) := by decide +kernel
theorem dX9_pulses_14 : decode cX9_pulses 14 = .ok (.iload_n 2, 1) := by decide +kernel
theorem dX9_pulses_15 : decode cX9_pulses 15 = .ok (.aload_n 1, 1) := by decide +kernel
theorem dX9_pulses_16 : decode cX9_pulses 16 = .ok (.iload_n 2, 1) := by decide +kernel
theorem dX9_pulses_17 : decode cX9_pulses 17 = .ok (.iaload, 1) := by decide +kernel
theorem dX9_pulses_18 : decode cX9_pulses 18 = .ok (.iastore, 1) := by decide +kernel
theorem dX9_pulses_19 : decode cX9_pulses 19 = .ok (.iinc 2 1, 3) := by decide +kernel
theorem dX9_pulses_22 : decode cX9_pulses 22 = .ok (.goto (-20), 3) := by decide +kernel
theorem dX9_pulses_25 : decode cX9_pulses 25 = .ok (.iconst 0, 1) := by decide +kernel
theorem dX9_pulses_26 : decode cX9_pulses 26 = .ok (.istore_n 2, 1) := by decide +kernel
theorem dX9_pulses_27 : decode cX9_pulses 27 = .ok (.iload_n 2, 1) := by decide +kernel
theorem dX9_pulses_28 : decode cX9_pulses 28 = .ok (.aload_n 0, 1) := by decide +kernel
theorem dX9_pulses_29 : decode cX9_pulses 29 = .ok (.getfield 268, 3) := by decide +kernel
theorem dX9_pulses_32 : decode cX9_pulses 32 = .ok (.if_icmp .ge 76, 3) := by decide +kernel
theorem dX9_pulses_35 : decode cX9_pulses 35 = .ok (.aload_n 0, 1) := by decide +kernel
theorem dX9_pulses_36 : decode cX9_pulses 36 = .ok (.getfield 20, 3) := by decide +kernel
theorem dX9_pulses_39 : decode cX9_pulses 39 = .ok (.iload_n 2, 1) := by decide +kernel
theorem dX9_pulses_40 : decode cX9_pulses 40 = .ok (.baload, 1) := by decide +kernel
theorem dX9_pulses_41 : decode cX9_pulses 41 = .ok (.ifCond .ne 61, 3) := by decide +kernel
theorem dX9_pulses_44 : decode cX9_pulses 44 = .ok (.aload_n 0, 1) := by decide +kernel
theorem dX9_pulses_45 : decode cX9_pulses 45 = .ok (.getfield 93, 3) := by decide +kernel
theorem dX9_pulses_48 : decode cX9_pulses 48 = .ok (.iload_n 2, 1) := by decide +kernel
theorem dX9_pulses_49 : decode cX9_pulses 49 = .ok (.iaload, 1) := by decide +kernel
theorem dX9_pulses_50 : decode cX9_pulses 50 = .ok (.ifCond .ne 6, 3) := by decide +kernel
theorem dX9_pulses_53 : decode cX9_pulses 53 = .ok (.goto 49, 3) := by decide +kernel
theorem dX9_pulses_56 : decode cX9_pulses 56 = .ok (.iconst 0, 1) := by decide +kernel
theorem dX9_pulses_57 : decode cX9_pulses 57 = .ok (.istore_n 3, 1) := by decide +kernel
theorem dX9_pulses_58 : decode cX9_pulses 58 = .ok (.iload_n 3, 1) := by decide +kernel
theorem dX9_pulses_59 : decode cX9_pulses 59 = .ok (.aload_n 0, 1) := by decide +kernel
theorem dX9_pulses_60 : decode cX9_pulses 60 = .ok (.getfield 268, 3) := by decide +kernel
theorem dX9_pulses_63 : decode cX9_pulses 63 = .ok (.if_icmp .ge 39, 3) := by decide +kernel
theorem dX9_pulses_66 : decode cX9_pulses 66 = .ok (.aload_n 1, 1) := by decide +kernel
theorem dX9_pulses_67 : decode cX9_pulses 67 = .ok (.iload_n 3, 1) := by decide +kernel
theorem dX9_pulses_68 : decode cX9_pulses 68 = .ok (.aload_n 1, 1) := by decide +kernel
theorem dX9_pulses_69 : decode cX9_pulses 69 = .ok (.iload_n 3, 1) := by decide +kernel
theorem dX9_pulses_70 : decode cX9_pulses 70 = .ok (.iaload, 1) := by decide +kernel
theorem dX9_pulses_71 : decode cX9_pulses 71 = .ok (.aload_n 0, 1) := by decide +kernel
theorem dX9_pulses_72 : decode cX9_pulses 72 = .ok (.getfield 93, 3) := by decide +kernel
theorem dX9_pulses_75 : decode cX9_pulses 75 = .ok (.iload_n 2, 1) := by decide +kernel
theorem dX9_pulses_76 : decode cX9_pulses 76 = .ok (.iaload, 1) := by decide +kernel
theorem dX9_pulses_77 : decode cX9_pulses 77 = .ok (.aload_n 0, 1) := by decide +kernel
theorem dX9_pulses_78 : decode cX9_pulses 78 = .ok (.getfield 16, 3) := by decide +kernel
theorem dX9_pulses_81 : decode cX9_pulses 81 = .ok (.bipush 36, 2) := by decide +kernel
theorem dX9_pulses_83 : decode cX9_pulses 83 = .ok (.iload_n 2, 1) := by decide +kernel
theorem dX9_pulses_84 : decode cX9_pulses 84 = .ok (.imul, 1) := by decide +kernel
theorem dX9_pulses_85 : decode cX9_pulses 85 = .ok (.iload_n 3, 1) := by decide +kernel
theorem dX9_pulses_86 : decode cX9_pulses 86 = .ok (.iadd, 1) := by decide +kernel
theorem dX9_pulses_87 : decode cX9_pulses 87 = .ok (.iaload, 1) := by decide +kernel
theorem dX9_pulses_88 : decode cX9_pulses 88 = .ok (.imul, 1) := by decide +kernel
theorem dX9_pulses_89 : decode cX9_pulses 89 = .ok (.iadd, 1) := by decide +kernel
theorem dX9_pulses_90 : decode cX9_pulses 90 = .ok (.aload_n 0, 1) := by decide +kernel
theorem dX9_pulses_91 : decode cX9_pulses 91 = .ok (.getfield 7, 3) := by decide +kernel
theorem dX9_pulses_94 : decode cX9_pulses 94 = .ok (.irem, 1) := by decide +kernel
theorem dX9_pulses_95 : decode cX9_pulses 95 = .ok (.iastore, 1) := by decide +kernel
theorem dX9_pulses_96 : decode cX9_pulses 96 = .ok (.iinc 3 1, 3) := by decide +kernel
theorem dX9_pulses_99 : decode cX9_pulses 99 = .ok (.goto (-41), 3) := by decide +kernel
theorem dX9_pulses_102 : decode cX9_pulses 102 = .ok (.iinc 2 1, 3) := by decide +kernel
theorem dX9_pulses_105 : decode cX9_pulses 105 = .ok (.goto (-78), 3) := by decide +kernel
theorem dX9_pulses_108 : decode cX9_pulses 108 = .ok (.return_, 1) := by decide +kernel
theorem dX9_pulse_0 : decode cX9_pulse 0 = .ok (.aload_n 0, 1) := by decide +kernel
theorem dX9_pulse_1 : decode cX9_pulse 1 = .ok (.iconst 0, 1) := by decide +kernel
theorem dX9_pulse_2 : decode cX9_pulse 2 = .ok (.putfield 138, 3) := by decide +kernel
theorem dX9_pulse_5 : decode cX9_pulse 5 = .ok (.iload_n 1, 1) := by decide +kernel
theorem dX9_pulse_6 : decode cX9_pulse 6 = .ok (.iconst 0, 1) := by decide +kernel
theorem dX9_pulse_7 : decode cX9_pulse 7 = .ok (.bipush 100, 2) := by decide +kernel
theorem dX9_pulse_9 : decode cX9_pulse 9 = .ok (.invokestatic 293, 3) := by decide +kernel
theorem dX9_pulse_12 : decode cX9_pulse 12 = .ok (.ifCond .ne 5, 3) := by decide +kernel
theorem dX9_pulse_15 : decode cX9_pulse 15 = .ok (.iconst 0, 1) := by decide +kernel
theorem dX9_pulse_16 : decode cX9_pulse 16 = .ok (.ireturn, 1) := by decide +kernel
theorem dX9_pulse_17 : decode cX9_pulse 17 = .ok (.iconst 0, 1) := by decide +kernel
theorem dX9_pulse_18 : decode cX9_pulse 18 = .ok (.istore_n 2, 1) := by decide +kernel
theorem dX9_pulse_19 : decode cX9_pulse 19 = .ok (.iload_n 2, 1) := by decide +kernel
theorem dX9_pulse_20 : decode cX9_pulse 20 = .ok (.iload_n 1, 1) := by decide +kernel
theorem dX9_pulse_21 : decode cX9_pulse 21 = .ok (.if_icmp .ge 17, 3) := by decide +kernel
theorem dX9_pulse_24 : decode cX9_pulse 24 = .ok (.aload_n 0, 1) := by decide +kernel
theorem dX9_pulse_25 : decode cX9_pulse 25 = .ok (.aload_n 0, 1) := by decide +kernel
theorem dX9_pulse_26 : decode cX9_pulse 26 = .ok (.getfield 24, 3) := by decide +kernel
theorem dX9_pulse_29 : decode cX9_pulse 29 = .ok (.invokevirtual 393, 3) := by decide +kernel
theorem dX9_pulse_32 : decode cX9_pulse 32 = .ok (.iinc 2 1, 3) := by decide +kernel
theorem dX9_pulse_35 : decode cX9_pulse 35 = .ok (.goto (-16), 3) := by decide +kernel
theorem dX9_pulse_38 : decode cX9_pulse 38 = .ok (.aload_n 0, 1) := by decide +kernel
theorem dX9_pulse_39 : decode cX9_pulse 39 = .ok (.iconst 0, 1) := by decide +kernel
theorem dX9_pulse_40 : decode cX9_pulse 40 = .ok (.putfield 277, 3) := by decide +kernel
theorem dX9_pulse_43 : decode cX9_pulse 43 = .ok (.iconst 1, 1) := by decide +kernel
theorem dX9_pulse_44 : decode cX9_pulse 44 = .ok (.ireturn, 1) := by decide +kernel
theorem dX9_round_0 : decode cX9_round 0 = .ok (.aload_n 0, 1) := by decide +kernel
theorem dX9_round_1 : decode cX9_round 1 = .ok (.iconst 0, 1) := by decide +kernel
theorem dX9_round_2 : decode cX9_round 2 = .ok (.putfield 138, 3) := by decide +kernel
theorem dX9_round_5 : decode cX9_round 5 = .ok (.aload_n 0, 1) := by decide +kernel
theorem dX9_round_6 : decode cX9_round 6 = .ok (.iload_n 1, 1) := by decide +kernel
theorem dX9_round_7 : decode cX9_round 7 = .ok (.ifCond .eq 8, 3) := by decide +kernel
theorem dX9_round_10 : decode cX9_round 10 = .ok (.iload_n 1, 1) := by decide +kernel
theorem dX9_round_11 : decode cX9_round 11 = .ok (.iconst 1, 1) := by decide +kernel
theorem dX9_round_12 : decode cX9_round 12 = .ok (.if_icmp .ne 7, 3) := by decide +kernel
theorem dX9_round_15 : decode cX9_round 15 = .ok (.iconst 1, 1) := by decide +kernel
theorem dX9_round_16 : decode cX9_round 16 = .ok (.goto 4, 3) := by decide +kernel
theorem dX9_round_19 : decode cX9_round 19 = .ok (.iconst 0, 1) := by decide +kernel
theorem dX9_round_20 : decode cX9_round 20 = .ok (.iconst 1, 1) := by decide +kernel
theorem dX9_round_21 : decode cX9_round 21 = .ok (.invokevirtual 255, 3) := by decide +kernel
theorem dX9_round_24 : decode cX9_round 24 = .ok (.ifCond .ne 5, 3) := by decide +kernel
theorem dX9_round_27 : decode cX9_round 27 = .ok (.iconst 0, 1) := by decide +kernel
theorem dX9_round_28 : decode cX9_round 28 = .ok (.ireturn, 1) := by decide +kernel
theorem dX9_round_29 : decode cX9_round 29 = .ok (.iconst 0, 1) := by decide +kernel
theorem dX9_round_30 : decode cX9_round 30 = .ok (.istore_n 2, 1) := by decide +kernel
theorem dX9_round_31 : decode cX9_round 31 = .ok (.iload_n 2, 1) := by decide +kernel
theorem dX9_round_32 : decode cX9_round 32 = .ok (.aload_n 0, 1) := by decide +kernel
theorem dX9_round_33 : decode cX9_round 33 = .ok (.getfield 268, 3) := by decide +kernel
theorem dX9_round_36 : decode cX9_round 36 = .ok (.if_icmp .ge 21, 3) := by decide +kernel
theorem dX9_round_39 : decode cX9_round 39 = .ok (.aload_n 0, 1) := by decide +kernel
theorem dX9_round_40 : decode cX9_round 40 = .ok (.getfield 117, 3) := by decide +kernel
theorem dX9_round_43 : decode cX9_round 43 = .ok (.iload_n 2, 1) := by decide +kernel
theorem dX9_round_44 : decode cX9_round 44 = .ok (.aload_n 0, 1) := by decide +kernel
theorem dX9_round_45 : decode cX9_round 45 = .ok (.getfield 24, 3) := by decide +kernel
theorem dX9_round_48 : decode cX9_round 48 = .ok (.iload_n 2, 1) := by decide +kernel
theorem dX9_round_49 : decode cX9_round 49 = .ok (.iaload, 1) := by decide +kernel
theorem dX9_round_50 : decode cX9_round 50 = .ok (.iastore, 1) := by decide +kernel
theorem dX9_round_51 : decode cX9_round 51 = .ok (.iinc 2 1, 3) := by decide +kernel
theorem dX9_round_54 : decode cX9_round 54 = .ok (.goto (-23), 3) := by decide +kernel
theorem dX9_round_57 : decode cX9_round 57 = .ok (.iconst 0, 1) := by decide +kernel
theorem dX9_round_58 : decode cX9_round 58 = .ok (.istore_n 2, 1) := by decide +kernel
theorem dX9_round_59 : decode cX9_round 59 = .ok (.iload_n 2, 1) := by decide +kernel
theorem dX9_round_60 : decode cX9_round 60 = .ok (.sipush 300, 3) := by decide +kernel
theorem dX9_round_63 : decode cX9_round 63 = .ok (.if_icmp .gt 135, 3) := by decide +kernel
theorem dX9_round_66 : decode cX9_round 66 = .ok (.iconst 0, 1) := by decide +kernel
theorem dX9_round_67 : decode cX9_round 67 = .ok (.istore_n 3, 1) := by decide +kernel
theorem dX9_round_68 : decode cX9_round 68 = .ok (.iload_n 3, 1) := by decide +kernel
theorem dX9_round_69 : decode cX9_round 69 = .ok (.iload_n 2, 1) := by decide +kernel
theorem dX9_round_70 : decode cX9_round 70 = .ok (.if_icmp .ge 81, 3) := by decide +kernel
theorem dX9_round_73 : decode cX9_round 73 = .ok (.iconst 1, 1) := by decide +kernel
theorem dX9_round_74 : decode cX9_round 74 = .ok (.istore 4, 2) := by decide +kernel
theorem dX9_round_76 : decode cX9_round 76 = .ok (.iconst 0, 1) := by decide +kernel
theorem dX9_round_77 : decode cX9_round 77 = .ok (.istore 5, 2) := by decide +kernel
theorem dX9_round_79 : decode cX9_round 79 = .ok (.iload 5, 2) := by decide +kernel
theorem dX9_round_81 : decode cX9_round 81 = .ok (.aload_n 0, 1) := by decide +kernel
theorem dX9_round_82 : decode cX9_round 82 = .ok (.getfield 268, 3) := by decide +kernel
theorem dX9_round_85 : decode cX9_round 85 = .ok (.if_icmp .ge 43, 3) := by decide +kernel
theorem dX9_round_88 : decode cX9_round 88 = .ok (.iload 4, 2) := by decide +kernel
theorem dX9_round_90 : decode cX9_round 90 = .ok (.ifCond .eq 38, 3) := by decide +kernel
theorem dX9_round_93 : decode cX9_round 93 = .ok (.aload_n 0, 1) := by decide +kernel
theorem dX9_round_94 : decode cX9_round 94 = .ok (.getfield 129, 3) := by decide +kernel
theorem dX9_round_97 : decode cX9_round 97 = .ok (.bipush 36, 2) := by decide +kernel
theorem dX9_round_99 : decode cX9_round 99 = .ok (.iload_n 3, 1) := by decide +kernel
theorem dX9_round_100 : decode cX9_round 100 = .ok (.imul, 1) := by decide +kernel
theorem dX9_round_101 : decode cX9_round 101 = .ok (.iload 5, 2) := by decide +kernel
theorem dX9_round_103 : decode cX9_round 103 = .ok (.iadd, 1) := by decide +kernel
theorem dX9_round_104 : decode cX9_round 104 = .ok (.iaload, 1) := by decide +kernel
theorem dX9_round_105 : decode cX9_round 105 = .ok (.aload_n 0, 1) := by decide +kernel
theorem dX9_round_106 : decode cX9_round 106 = .ok (.getfield 117, 3) := by decide +kernel
theorem dX9_round_109 : decode cX9_round 109 = .ok (.iload 5, 2) := by decide +kernel
theorem dX9_round_111 : decode cX9_round 111 = .ok (.iaload, 1) := by decide +kernel
theorem dX9_round_112 : decode cX9_round 112 = .ok (.if_icmp .ne 7, 3) := by decide +kernel
theorem dX9_round_115 : decode cX9_round 115 = .ok (.iconst 1, 1) := by decide +kernel
theorem dX9_round_116 : decode cX9_round 116 = .ok (.goto 4, 3) := by decide +kernel
theorem dX9_round_119 : decode cX9_round 119 = .ok (.iconst 0, 1) := by decide +kernel
theorem dX9_round_120 : decode cX9_round 120 = .ok (.istore 4, 2) := by decide +kernel
theorem dX9_round_122 : decode cX9_round 122 = .ok (.iinc 5 1, 3) := by decide +kernel
theorem dX9_round_125 : decode cX9_round 125 = .ok (.goto (-46), 3) := by decide +kernel
theorem dX9_round_128 : decode cX9_round 128 = .ok (.iload 4, 2) := by decide +kernel
theorem dX9_round_130 : decode cX9_round 130 = .ok (.ifCond .eq 15, 3) := by decide +kernel
theorem dX9_round_133 : decode cX9_round 133 = .ok (.iload_n 1, 1) := by decide +kernel
theorem dX9_round_134 : decode cX9_round 134 = .ok (.ifCond .ne 7, 3) := by decide +kernel
theorem dX9_round_137 : decode cX9_round 137 = .ok (.iload_n 3, 1) := by decide +kernel
theorem dX9_round_138 : decode cX9_round 138 = .ok (.goto 6, 3) := by decide +kernel
theorem dX9_round_141 : decode cX9_round 141 = .ok (.iload_n 2, 1) := by decide +kernel
theorem dX9_round_142 : decode cX9_round 142 = .ok (.iload_n 3, 1) := by decide +kernel
theorem dX9_round_143 : decode cX9_round 143 = .ok (.isub, 1) := by decide +kernel
theorem dX9_round_144 : decode cX9_round 144 = .ok (.ireturn, 1) := by decide +kernel
theorem dX9_round_145 : decode cX9_round 145 = .ok (.iinc 3 1, 3) := by decide +kernel
theorem dX9_round_148 : decode cX9_round 148 = .ok (.goto (-80), 3) := by decide +kernel
theorem dX9_round_151 : decode cX9_round 151 = .ok (.iconst 0, 1) := by decide +kernel
theorem dX9_round_152 : decode cX9_round 152 = .ok (.istore_n 3, 1) := by decide +kernel
theorem dX9_round_153 : decode cX9_round 153 = .ok (.iload_n 3, 1) := by decide +kernel
theorem dX9_round_154 : decode cX9_round 154 = .ok (.aload_n 0, 1) := by decide +kernel
theorem dX9_round_155 : decode cX9_round 155 = .ok (.getfield 268, 3) := by decide +kernel
theorem dX9_round_158 : decode cX9_round 158 = .ok (.if_icmp .ge 26, 3) := by decide +kernel
theorem dX9_round_161 : decode cX9_round 161 = .ok (.aload_n 0, 1) := by decide +kernel
theorem dX9_round_162 : decode cX9_round 162 = .ok (.getfield 129, 3) := by decide +kernel
theorem dX9_round_165 : decode cX9_round 165 = .ok (.bipush 36, 2) := by decide +kernel
theorem dX9_round_167 : decode cX9_round 167 = .ok (.iload_n 2, 1) := by decide +kernel
theorem dX9_round_168 : decode cX9_round 168 = .ok (.imul, 1) := by decide +kernel
theorem dX9_round_169 : decode cX9_round 169 = .ok (.iload_n 3, 1) := by decide +kernel
theorem dX9_round_170 : decode cX9_round 170 = .ok (.iadd, 1) := by decide +kernel
theorem dX9_round_171 : decode cX9_round 171 = .ok (.aload_n 0, 1) := by decide +kernel
theorem dX9_round_172 : decode cX9_round 172 = .ok (.getfield 117, 3) := by decide +kernel
theorem dX9_round_175 : decode cX9_round 175 = .ok (.iload_n 3, 1) := by decide +kernel
theorem dX9_round_176 : decode cX9_round 176 = .ok (.iaload, 1) := by decide +kernel
theorem dX9_round_177 : decode cX9_round 177 = .ok (.iastore, 1) := by decide +kernel
theorem dX9_round_178 : decode cX9_round 178 = .ok (.iinc 3 1, 3) := by decide +kernel
theorem dX9_round_181 : decode cX9_round 181 = .ok (.goto (-28), 3) := by decide +kernel
theorem dX9_round_184 : decode cX9_round 184 = .ok (.aload_n 0, 1) := by decide +kernel
theorem dX9_round_185 : decode cX9_round 185 = .ok (.aload_n 0, 1) := by decide +kernel
theorem dX9_round_186 : decode cX9_round 186 = .ok (.getfield 117, 3) := by decide +kernel
theorem dX9_round_189 : decode cX9_round 189 = .ok (.invokevirtual 393, 3) := by decide +kernel
theorem dX9_round_192 : decode cX9_round 192 = .ok (.iinc 2 1, 3) := by decide +kernel
theorem dX9_round_195 : decode cX9_round 195 = .ok (.goto (-136), 3) := by decide +kernel
theorem dX9_round_198 : decode cX9_round 198 = .ok (.iconst (-1), 1) := by decide +kernel
theorem dX9_round_199 : decode cX9_round 199 = .ok (.ireturn, 1) := by decide +kernel
theorem dX9_keep_0 : decode cX9_keep 0 = .ok (.aload_n 0, 1) := by decide +kernel
theorem dX9_keep_1 : decode cX9_keep 1 = .ok (.iconst 0, 1) := by decide +kernel
theorem dX9_keep_2 : decode cX9_keep 2 = .ok (.putfield 138, 3) := by decide +kernel
theorem dX9_keep_5 : decode cX9_keep 5 = .ok (.iload_n 1, 1) := by decide +kernel
theorem dX9_keep_6 : decode cX9_keep 6 = .ok (.iconst 0, 1) := by decide +kernel
theorem dX9_keep_7 : decode cX9_keep 7 = .ok (.iconst 3, 1) := by decide +kernel
theorem dX9_keep_8 : decode cX9_keep 8 = .ok (.invokestatic 293, 3) := by decide +kernel
theorem dX9_keep_11 : decode cX9_keep 11 = .ok (.ifCond .ne 5, 3) := by decide +kernel
theorem dX9_keep_14 : decode cX9_keep 14 = .ok (.iconst 0, 1) := by decide +kernel
theorem dX9_keep_15 : decode cX9_keep 15 = .ok (.ireturn, 1) := by decide +kernel
theorem dX9_keep_16 : decode cX9_keep 16 = .ok (.aload_n 0, 1) := by decide +kernel
theorem dX9_keep_17 : decode cX9_keep 17 = .ok (.getfield 132, 3) := by decide +kernel
theorem dX9_keep_20 : decode cX9_keep 20 = .ok (.iload_n 1, 1) := by decide +kernel
theorem dX9_keep_21 : decode cX9_keep 21 = .ok (.iconst 1, 1) := by decide +kernel
theorem dX9_keep_22 : decode cX9_keep 22 = .ok (.bastore, 1) := by decide +kernel
theorem dX9_keep_23 : decode cX9_keep 23 = .ok (.iconst 0, 1) := by decide +kernel
theorem dX9_keep_24 : decode cX9_keep 24 = .ok (.istore_n 2, 1) := by decide +kernel
theorem dX9_keep_25 : decode cX9_keep 25 = .ok (.iload_n 2, 1) := by decide +kernel
theorem dX9_keep_26 : decode cX9_keep 26 = .ok (.bipush 36, 2) := by decide +kernel
theorem dX9_keep_28 : decode cX9_keep 28 = .ok (.if_icmp .ge 26, 3) := by decide +kernel
theorem dX9_keep_31 : decode cX9_keep 31 = .ok (.aload_n 0, 1) := by decide +kernel
theorem dX9_keep_32 : decode cX9_keep 32 = .ok (.getfield 135, 3) := by decide +kernel
theorem dX9_keep_35 : decode cX9_keep 35 = .ok (.bipush 36, 2) := by decide +kernel
theorem dX9_keep_37 : decode cX9_keep 37 = .ok (.iload_n 1, 1) := by decide +kernel
theorem dX9_keep_38 : decode cX9_keep 38 = .ok (.imul, 1) := by decide +kernel
theorem dX9_keep_39 : decode cX9_keep 39 = .ok (.iload_n 2, 1) := by decide +kernel
theorem dX9_keep_40 : decode cX9_keep 40 = .ok (.iadd, 1) := by decide +kernel
theorem dX9_keep_41 : decode cX9_keep 41 = .ok (.aload_n 0, 1) := by decide +kernel
theorem dX9_keep_42 : decode cX9_keep 42 = .ok (.getfield 24, 3) := by decide +kernel
theorem dX9_keep_45 : decode cX9_keep 45 = .ok (.iload_n 2, 1) := by decide +kernel
theorem dX9_keep_46 : decode cX9_keep 46 = .ok (.iaload, 1) := by decide +kernel
theorem dX9_keep_47 : decode cX9_keep 47 = .ok (.iastore, 1) := by decide +kernel
theorem dX9_keep_48 : decode cX9_keep 48 = .ok (.iinc 2 1, 3) := by decide +kernel
theorem dX9_keep_51 : decode cX9_keep 51 = .ok (.goto (-26), 3) := by decide +kernel
theorem dX9_keep_54 : decode cX9_keep 54 = .ok (.iconst 1, 1) := by decide +kernel
theorem dX9_keep_55 : decode cX9_keep 55 = .ok (.ireturn, 1) := by decide +kernel
theorem dX9_take_0 : decode cX9_take 0 = .ok (.aload_n 0, 1) := by decide +kernel
theorem dX9_take_1 : decode cX9_take 1 = .ok (.iconst 0, 1) := by decide +kernel
theorem dX9_take_2 : decode cX9_take 2 = .ok (.putfield 138, 3) := by decide +kernel
theorem dX9_take_5 : decode cX9_take 5 = .ok (.aload_n 0, 1) := by decide +kernel
theorem dX9_take_6 : decode cX9_take 6 = .ok (.iload_n 2, 1) := by decide +kernel
theorem dX9_take_7 : decode cX9_take 7 = .ok (.ifCond .eq 8, 3) := by decide +kernel
theorem dX9_take_10 : decode cX9_take 10 = .ok (.iload_n 2, 1) := by decide +kernel
theorem dX9_take_11 : decode cX9_take 11 = .ok (.iconst 1, 1) := by decide +kernel
theorem dX9_take_12 : decode cX9_take 12 = .ok (.if_icmp .ne 7, 3) := by decide +kernel
theorem dX9_take_15 : decode cX9_take 15 = .ok (.iconst 1, 1) := by decide +kernel
theorem dX9_take_16 : decode cX9_take 16 = .ok (.goto 4, 3) := by decide +kernel
theorem dX9_take_19 : decode cX9_take 19 = .ok (.iconst 0, 1) := by decide +kernel
theorem dX9_take_20 : decode cX9_take 20 = .ok (.iconst 1, 1) := by decide +kernel
theorem dX9_take_21 : decode cX9_take 21 = .ok (.invokevirtual 255, 3) := by decide +kernel
theorem dX9_take_24 : decode cX9_take 24 = .ok (.ifCond .ne 5, 3) := by decide +kernel
theorem dX9_take_27 : decode cX9_take 27 = .ok (.iconst 0, 1) := by decide +kernel
theorem dX9_take_28 : decode cX9_take 28 = .ok (.ireturn, 1) := by decide +kernel
theorem dX9_take_29 : decode cX9_take 29 = .ok (.iload_n 1, 1) := by decide +kernel
theorem dX9_take_30 : decode cX9_take 30 = .ok (.iconst 0, 1) := by decide +kernel
theorem dX9_take_31 : decode cX9_take 31 = .ok (.iconst 3, 1) := by decide +kernel
theorem dX9_take_32 : decode cX9_take 32 = .ok (.invokestatic 293, 3) := by decide +kernel
theorem dX9_take_35 : decode cX9_take 35 = .ok (.ifCond .eq 12, 3) := by decide +kernel
theorem dX9_take_38 : decode cX9_take 38 = .ok (.aload_n 0, 1) := by decide +kernel
theorem dX9_take_39 : decode cX9_take 39 = .ok (.getfield 132, 3) := by decide +kernel
theorem dX9_take_42 : decode cX9_take 42 = .ok (.iload_n 1, 1) := by decide +kernel
theorem dX9_take_43 : decode cX9_take 43 = .ok (.baload, 1) := by decide +kernel
theorem dX9_take_44 : decode cX9_take 44 = .ok (.ifCond .ne 5, 3) := by decide +kernel
theorem dX9_take_47 : decode cX9_take 47 = .ok (.iconst 0, 1) := by decide +kernel
theorem dX9_take_48 : decode cX9_take 48 = .ok (.ireturn, 1) := by decide +kernel
theorem dX9_take_49 : decode cX9_take 49 = .ok (.iload_n 2, 1) := by decide +kernel
theorem dX9_take_50 : decode cX9_take 50 = .ok (.ifCond .ne 8, 3) := by decide +kernel
theorem dX9_take_53 : decode cX9_take 53 = .ok (.aload_n 0, 1) := by decide +kernel
theorem dX9_take_54 : decode cX9_take 54 = .ok (.iconst 0, 1) := by decide +kernel
theorem dX9_take_55 : decode cX9_take 55 = .ok (.putfield 277, 3) := by decide +kernel
theorem dX9_take_58 : decode cX9_take 58 = .ok (.iconst 0, 1) := by decide +kernel
theorem dX9_take_59 : decode cX9_take 59 = .ok (.istore_n 3, 1) := by decide +kernel
theorem dX9_take_60 : decode cX9_take 60 = .ok (.iload_n 3, 1) := by decide +kernel
theorem dX9_take_61 : decode cX9_take 61 = .ok (.aload_n 0, 1) := by decide +kernel
theorem dX9_take_62 : decode cX9_take 62 = .ok (.getfield 268, 3) := by decide +kernel
theorem dX9_take_65 : decode cX9_take 65 = .ok (.if_icmp .ge 50, 3) := by decide +kernel
theorem dX9_take_68 : decode cX9_take 68 = .ok (.iload_n 2, 1) := by decide +kernel
theorem dX9_take_69 : decode cX9_take 69 = .ok (.ifCond .ne 23, 3) := by decide +kernel
theorem dX9_take_72 : decode cX9_take 72 = .ok (.aload_n 0, 1) := by decide +kernel
theorem dX9_take_73 : decode cX9_take 73 = .ok (.getfield 24, 3) := by decide +kernel
theorem dX9_take_76 : decode cX9_take 76 = .ok (.iload_n 3, 1) := by decide +kernel
theorem dX9_take_77 : decode cX9_take 77 = .ok (.aload_n 0, 1) := by decide +kernel
theorem dX9_take_78 : decode cX9_take 78 = .ok (.getfield 135, 3) := by decide +kernel
theorem dX9_take_81 : decode cX9_take 81 = .ok (.bipush 36, 2) := by decide +kernel
theorem dX9_take_83 : decode cX9_take 83 = .ok (.iload_n 1, 1) := by decide +kernel
theorem dX9_take_84 : decode cX9_take 84 = .ok (.imul, 1) := by decide +kernel
theorem dX9_take_85 : decode cX9_take 85 = .ok (.iload_n 3, 1) := by decide +kernel
theorem dX9_take_86 : decode cX9_take 86 = .ok (.iadd, 1) := by decide +kernel
theorem dX9_take_87 : decode cX9_take 87 = .ok (.iaload, 1) := by decide +kernel
theorem dX9_take_88 : decode cX9_take 88 = .ok (.iastore, 1) := by decide +kernel
theorem dX9_take_89 : decode cX9_take 89 = .ok (.goto 20, 3) := by decide +kernel
theorem dX9_take_92 : decode cX9_take 92 = .ok (.aload_n 0, 1) := by decide +kernel
theorem dX9_take_93 : decode cX9_take 93 = .ok (.getfield 27, 3) := by decide +kernel
theorem dX9_take_96 : decode cX9_take 96 = .ok (.iload_n 3, 1) := by decide +kernel
theorem dX9_take_97 : decode cX9_take 97 = .ok (.aload_n 0, 1) := by decide +kernel
theorem dX9_take_98 : decode cX9_take 98 = .ok (.getfield 135, 3) := by decide +kernel
theorem dX9_take_101 : decode cX9_take 101 = .ok (.bipush 36, 2) := by decide +kernel
theorem dX9_take_103 : decode cX9_take 103 = .ok (.iload_n 1, 1) := by decide +kernel
theorem dX9_take_104 : decode cX9_take 104 = .ok (.imul, 1) := by decide +kernel
theorem dX9_take_105 : decode cX9_take 105 = .ok (.iload_n 3, 1) := by decide +kernel
theorem dX9_take_106 : decode cX9_take 106 = .ok (.iadd, 1) := by decide +kernel
theorem dX9_take_107 : decode cX9_take 107 = .ok (.iaload, 1) := by decide +kernel
theorem dX9_take_108 : decode cX9_take 108 = .ok (.iastore, 1) := by decide +kernel
theorem dX9_take_109 : decode cX9_take 109 = .ok (.iinc 3 1, 3) := by decide +kernel
theorem dX9_take_112 : decode cX9_take 112 = .ok (.goto (-52), 3) := by decide +kernel
theorem dX9_take_115 : decode cX9_take 115 = .ok (.iconst 1, 1) := by decide +kernel
theorem dX9_take_116 : decode cX9_take 116 = .ok (.ireturn, 1) := by decide +kernel
