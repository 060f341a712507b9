theorem dJ9_floorMod_7cf53_0 : decode cJ9_floorMod_7cf53 0 = .ok (.iload_n 0, 1) := by decide +kernel
theorem dJ9_floorMod_7cf53_1 : decode cJ9_floorMod_7cf53 1 = .ok (.iload_n 1, 1) := by decide +kernel
theorem dJ9_floorMod_7cf53_2 : decode cJ9_floorMod_7cf53 2 = .ok (.irem, 1) := by decide +kernel
theorem dJ9_floorMod_7cf53_3 : decode cJ9_floorMod_7cf53 3 = .ok (.istore_n 2, 1) := by decide +kernel
theorem dJ9_floorMod_7cf53_4 : decode cJ9_floorMod_7cf53 4 = .ok (.iload_n 0, 1) := by decide +kernel
theorem dJ9_floorMod_7cf53_5 : decode cJ9_floorMod_7cf53 5 = .ok (.iload_n 1, 1) := by decide +kernel
theorem dJ9_floorMod_7cf53_6 : decode cJ9_floorMod_7cf53 6 = .ok (.ixor, 1) := by decide +kernel
theorem dJ9_floorMod_7cf53_7 : decode cJ9_floorMod_7cf53 7 = .ok (.ifCond .ge 11, 3) := by decide +kernel
theorem dJ9_floorMod_7cf53_10 : decode cJ9_floorMod_7cf53 10 = .ok (.iload_n 2, 1) := by decide +kernel
theorem dJ9_floorMod_7cf53_11 : decode cJ9_floorMod_7cf53 11 = .ok (.ifCond .eq 7, 3) := by decide +kernel
theorem dJ9_floorMod_7cf53_14 : decode cJ9_floorMod_7cf53 14 = .ok (.iload_n 2, 1) := by decide +kernel
theorem dJ9_floorMod_7cf53_15 : decode cJ9_floorMod_7cf53 15 = .ok (.iload_n 1, 1) := by decide +kernel
theorem dJ9_floorMod_7cf53_16 : decode cJ9_floorMod_7cf53 16 = .ok (.iadd, 1) := by decide +kernel
theorem dJ9_floorMod_7cf53_17 : decode cJ9_floorMod_7cf53 17 = .ok (.ireturn, 1) := by decide +kernel
theorem dJ9_floorMod_7cf53_18 : decode cJ9_floorMod_7cf53 18 = .ok (.iload_n 2, 1) := by decide +kernel
theorem dJ9_floorMod_7cf53_19 : decode cJ9_floorMod_7cf53 19 = .ok (.ireturn, 1) := by decide +kernel
theorem dJ9_max_7cf53_0 : decode cJ9_max_7cf53 0 = .ok (.iload_n 0, 1) := by decide +kernel
theorem dJ9_max_7cf53_1 : decode cJ9_max_7cf53 1 = .ok (.iload_n 1, 1) := by decide +kernel
theorem dJ9_max_7cf53_2 : decode cJ9_max_7cf53 2 = .ok (.if_icmp .lt 7, 3) := by decide +kernel
theorem dJ9_max_7cf53_5 : decode cJ9_max_7cf53 5 = .ok (.iload_n 0, 1) := by decide +kernel
theorem dJ9_max_7cf53_6 : decode cJ9_max_7cf53 6 = .ok (.goto 4, 3) := by decide +kernel
theorem dJ9_max_7cf53_9 : decode cJ9_max_7cf53 9 = .ok (.iload_n 1, 1) := by decide +kernel
theorem dJ9_max_7cf53_10 : decode cJ9_max_7cf53 10 = .ok (.ireturn, 1) := by decide +kernel
theorem dJ9_min_7cf53_0 : decode cJ9_min_7cf53 0 = .ok (.iload_n 0, 1) := by decide +kernel
theorem dJ9_min_7cf53_1 : decode cJ9_min_7cf53 1 = .ok (.iload_n 1, 1) := by decide +kernel
theorem dJ9_min_7cf53_2 : decode cJ9_min_7cf53 2 = .ok (.if_icmp .gt 7, 3) := by decide +kernel
theorem dJ9_min_7cf53_5 : decode cJ9_min_7cf53 5 = .ok (.iload_n 0, 1) := by decide +kernel
theorem dJ9_min_7cf53_6 : decode cJ9_min_7cf53 6 = .ok (.goto 4, 3) := by decide +kernel
theorem dJ9_min_7cf53_9 : decode cJ9_min_7cf53 9 = .ok (.iload_n 1, 1) := by decide +kernel
theorem dJ9_min_7cf53_10 : decode cJ9_min_7cf53 10 = .ok (.ireturn, 1) := by decide +kernel
theorem dJ0_length_8abf5_0 : decode cJ0_length_8abf5 0 = .ok (.aload_n 0, 1) := by decide +kernel
theorem dJ0_length_8abf5_1 : decode cJ0_length_8abf5 1 = .ok (.getfield 9, 3) := by decide +kernel
theorem dJ0_length_8abf5_4 : decode cJ0_length_8abf5 4 = .ok (.arraylength, 1) := by decide +kernel
theorem dJ0_length_8abf5_5 : decode cJ0_length_8abf5 5 = .ok (.aload_n 0, 1) := by decide +kernel
theorem dJ0_length_8abf5_6 : decode cJ0_length_8abf5 6 = .ok (.invokevirtual 335, 3) := by decide +kernel
theorem dJ0_length_8abf5_9 : decode cJ0_length_8abf5 9 = .ok (.ishr, 1) := by decide +kernel
theorem dJ0_length_8abf5_10 : decode cJ0_length_8abf5 10 = .ok (.ireturn, 1) := by decide +kernel
theorem dJ0_charAt_5068e_0 : decode cJ0_charAt_5068e 0 = .ok (.aload_n 0, 1) := by decide +kernel
theorem dJ0_charAt_5068e_1 : decode cJ0_charAt_5068e 1 = .ok (.invokevirtual 492, 3) := by decide +kernel
theorem dJ0_charAt_5068e_4 : decode cJ0_charAt_5068e 4 = .ok (.ifCond .eq 12, 3) := by decide +kernel
theorem dJ0_charAt_5068e_7 : decode cJ0_charAt_5068e 7 = .ok (.aload_n 0, 1) := by decide +kernel
theorem dJ0_charAt_5068e_8 : decode cJ0_charAt_5068e 8 = .ok (.getfield 9, 3) := by decide +kernel
theorem dJ0_charAt_5068e_11 : decode cJ0_charAt_5068e 11 = .ok (.iload_n 1, 1) := by decide +kernel
theorem dJ0_charAt_5068e_12 : decode cJ0_charAt_5068e 12 = .ok (.invokestatic 495, 3) := by decide +kernel
theorem dJ0_charAt_5068e_15 : decode cJ0_charAt_5068e 15 = .ok (.ireturn, 1) := by decide +kernel
theorem dJ0_charAt_5068e_16 : decode cJ0_charAt_5068e 16 = .ok (.aload_n 0, 1) := by decide +kernel
theorem dJ0_charAt_5068e_17 : decode cJ0_charAt_5068e 17 = .ok (.getfield 9, 3) := by decide +kernel
theorem dJ0_charAt_5068e_20 : decode cJ0_charAt_5068e 20 = .ok (.iload_n 1, 1) := by decide +kernel
theorem dJ0_charAt_5068e_21 : decode cJ0_charAt_5068e 21 = .ok (.invokestatic 498, 3) := by decide +kernel
theorem dJ0_charAt_5068e_24 : decode cJ0_charAt_5068e 24 = .ok (.ireturn, 1) := by decide +kernel
theorem dJ0_coder_7d493_0 : decode cJ0_coder_7d493 0 = .ok (.getstatic 38, 3) := by decide +kernel
theorem dJ0_coder_7d493_3 : decode cJ0_coder_7d493 3 = .ok (.ifCond .eq 10, 3) := by decide +kernel
theorem dJ0_coder_7d493_6 : decode cJ0_coder_7d493 6 = .ok (.aload_n 0, 1) := by decide +kernel
theorem dJ0_coder_7d493_7 : decode cJ0_coder_7d493 7 = .ok (.getfield 15, 3) := by decide +kernel
theorem dJ0_coder_7d493_10 : decode cJ0_coder_7d493 10 = .ok (.goto 4, 3) := by decide +kernel
theorem dJ0_coder_7d493_13 : decode cJ0_coder_7d493 13 = .ok (.iconst 1, 1) := by decide +kernel
theorem dJ0_coder_7d493_14 : decode cJ0_coder_7d493 14 = .ok (.ireturn, 1) := by decide +kernel
theorem dJ0_isLatin1_aae02_0 : decode cJ0_isLatin1_aae02 0 = .ok (.getstatic 38, 3) := by decide +kernel
theorem dJ0_isLatin1_aae02_3 : decode cJ0_isLatin1_aae02 3 = .ok (.ifCond .eq 14, 3) := by decide +kernel
theorem dJ0_isLatin1_aae02_6 : decode cJ0_isLatin1_aae02 6 = .ok (.aload_n 0, 1) := by decide +kernel
theorem dJ0_isLatin1_aae02_7 : decode cJ0_isLatin1_aae02 7 = .ok (.getfield 15, 3) := by decide +kernel
theorem dJ0_isLatin1_aae02_10 : decode cJ0_isLatin1_aae02 10 = .ok (.ifCond .ne 7, 3) := by decide +kernel
theorem dJ0_isLatin1_aae02_13 : decode cJ0_isLatin1_aae02 13 = .ok (.iconst 1, 1) := by decide +kernel
theorem dJ0_isLatin1_aae02_14 : decode cJ0_isLatin1_aae02 14 = .ok (.goto 4, 3) := by decide +kernel
theorem dJ0_isLatin1_aae02_17 : decode cJ0_isLatin1_aae02 17 = .ok (.iconst 0, 1) := by decide +kernel
theorem dJ0_isLatin1_aae02_18 : decode cJ0_isLatin1_aae02 18 = .ok (.ireturn, 1) := by decide +kernel
theorem dJ0_checkIndex_df160_0 : decode cJ0_checkIndex_df160 0 = .ok (.iload_n 0, 1) := by decide +kernel
theorem dJ0_checkIndex_df160_1 : decode cJ0_checkIndex_df160 1 = .ok (.iload_n 1, 1) := by decide +kernel
theorem dJ0_checkIndex_df160_2 : decode cJ0_checkIndex_df160 2 = .ok (.getstatic 1053, 3) := by decide +kernel
theorem dJ0_checkIndex_df160_5 : decode cJ0_checkIndex_df160 5 = .ok (.invokestatic 1059, 3) := by decide +kernel
theorem dJ0_checkIndex_df160_8 : decode cJ0_checkIndex_df160 8 = .ok (.pop, 1) := by decide +kernel
theorem dJ0_checkIndex_df160_9 : decode cJ0_checkIndex_df160 9 = .ok (.return_, 1) := by decide +kernel
theorem dJ1_charAt_3b067_0 : decode cJ1_charAt_3b067 0 = .ok (.iload_n 1, 1) := by decide +kernel
theorem dJ1_charAt_3b067_1 : decode cJ1_charAt_3b067 1 = .ok (.aload_n 0, 1) := by decide +kernel
theorem dJ1_charAt_3b067_2 : decode cJ1_charAt_3b067 2 = .ok (.arraylength, 1) := by decide +kernel
theorem dJ1_charAt_3b067_3 : decode cJ1_charAt_3b067 3 = .ok (.invokestatic 9, 3) := by decide +kernel
theorem dJ1_charAt_3b067_6 : decode cJ1_charAt_3b067 6 = .ok (.aload_n 0, 1) := by decide +kernel
theorem dJ1_charAt_3b067_7 : decode cJ1_charAt_3b067 7 = .ok (.iload_n 1, 1) := by decide +kernel
theorem dJ1_charAt_3b067_8 : decode cJ1_charAt_3b067 8 = .ok (.baload, 1) := by decide +kernel
theorem dJ1_charAt_3b067_9 : decode cJ1_charAt_3b067 9 = .ok (.sipush 255, 3) := by decide +kernel
theorem dJ1_charAt_3b067_12 : decode cJ1_charAt_3b067 12 = .ok (.iand, 1) := by decide +kernel
theorem dJ1_charAt_3b067_13 : decode cJ1_charAt_3b067 13 = .ok (.i2c, 1) := by decide +kernel
theorem dJ1_charAt_3b067_14 : decode cJ1_charAt_3b067 14 = .ok (.ireturn, 1) := by decide +kernel
theorem dJ2_getChar_3b067_0 : decode cJ2_getChar_3b067 0 = .ok (.getstatic 44, 3) := by decide +kernel
theorem dJ2_getChar_3b067_3 : decode cJ2_getChar_3b067 3 = .ok (.ifCond .ne 25, 3) := by decide +kernel
theorem dJ2_getChar_3b067_6 : decode cJ2_getChar_3b067 6 = .ok (.iload_n 1, 1) := by decide +kernel
theorem dJ2_getChar_3b067_7 : decode cJ2_getChar_3b067 7 = .ok (.ifCond .lt 11, 3) := by decide +kernel
theorem dJ2_getChar_3b067_10 : decode cJ2_getChar_3b067 10 = .ok (.iload_n 1, 1) := by decide +kernel
theorem dJ2_getChar_3b067_11 : decode cJ2_getChar_3b067 11 = .ok (.aload_n 0, 1) := by decide +kernel
theorem dJ2_getChar_3b067_12 : decode cJ2_getChar_3b067 12 = .ok (.invokestatic 48, 3) := by decide +kernel
theorem dJ2_getChar_3b067_15 : decode cJ2_getChar_3b067 15 = .ok (.if_icmp .lt 13, 3) := by decide +kernel
theorem dJ2_getChar_3b067_18 : decode cJ2_getChar_3b067 18 = .ok (.new 52, 3) := by decide +kernel
theorem dJ2_getChar_3b067_21 : decode cJ2_getChar_3b067 21 = .ok (.dup, 1) := by decide +kernel
theorem dJ2_getChar_3b067_22 : decode cJ2_getChar_3b067 22 = .ok (.ldc 54, 2) := by decide +kernel
theorem dJ2_getChar_3b067_24 : decode cJ2_getChar_3b067 24 = .ok (.invokespecial 56, 3) := by decide +kernel
theorem dJ2_getChar_3b067_27 : decode cJ2_getChar_3b067 27 = .ok (.athrow, 1) := by decide +kernel
theorem dJ2_getChar_3b067_28 : decode cJ2_getChar_3b067 28 = .ok (.iload_n 1, 1) := by decide +kernel
theorem dJ2_getChar_3b067_29 : decode cJ2_getChar_3b067 29 = .ok (.iconst 1, 1) := by decide +kernel
theorem dJ2_getChar_3b067_30 : decode cJ2_getChar_3b067 30 = .ok (.ishl, 1) := by decide +kernel
theorem dJ2_getChar_3b067_31 : decode cJ2_getChar_3b067 31 = .ok (.istore_n 1, 1) := by decide +kernel
theorem dJ2_getChar_3b067_32 : decode cJ2_getChar_3b067 32 = .ok (.aload_n 0, 1) := by decide +kernel
theorem dJ2_getChar_3b067_33 : decode cJ2_getChar_3b067 33 = .ok (.iload_n 1, 1) := by decide +kernel
theorem dJ2_getChar_3b067_34 : decode cJ2_getChar_3b067 34 = .ok (.iinc 1 1, 3) := by decide +kernel
theorem dJ2_getChar_3b067_37 : decode cJ2_getChar_3b067 37 = .ok (.baload, 1) := by decide +kernel
theorem dJ2_getChar_3b067_38 : decode cJ2_getChar_3b067 38 = .ok (.sipush 255, 3) := by decide +kernel
theorem dJ2_getChar_3b067_41 : decode cJ2_getChar_3b067 41 = .ok (.iand, 1) := by decide +kernel
theorem dJ2_getChar_3b067_42 : decode cJ2_getChar_3b067 42 = .ok (.getstatic 59, 3) := by decide +kernel
theorem dJ2_getChar_3b067_45 : decode cJ2_getChar_3b067 45 = .ok (.ishl, 1) := by decide +kernel
theorem dJ2_getChar_3b067_46 : decode cJ2_getChar_3b067 46 = .ok (.aload_n 0, 1) := by decide +kernel
theorem dJ2_getChar_3b067_47 : decode cJ2_getChar_3b067 47 = .ok (.iload_n 1, 1) := by decide +kernel
theorem dJ2_getChar_3b067_48 : decode cJ2_getChar_3b067 48 = .ok (.baload, 1) := by decide +kernel
theorem dJ2_getChar_3b067_49 : decode cJ2_getChar_3b067 49 = .ok (.sipush 255, 3) := by decide +kernel
theorem dJ2_getChar_3b067_52 : decode cJ2_getChar_3b067 52 = .ok (.iand, 1) := by decide +kernel
theorem dJ2_getChar_3b067_53 : decode cJ2_getChar_3b067 53 = .ok (.getstatic 63, 3) := by decide +kernel
theorem dJ2_getChar_3b067_56 : decode cJ2_getChar_3b067 56 = .ok (.ishl, 1) := by decide +kernel
theorem dJ2_getChar_3b067_57 : decode cJ2_getChar_3b067 57 = .ok (.ior, 1) := by decide +kernel
theorem dJ2_getChar_3b067_58 : decode cJ2_getChar_3b067 58 = .ok (.i2c, 1) := by decide +kernel
theorem dJ2_getChar_3b067_59 : decode cJ2_getChar_3b067 59 = .ok (.ireturn, 1) := by decide +kernel
theorem dJ2_length_9d52b_0 : decode cJ2_length_9d52b 0 = .ok (.aload_n 0, 1) := by decide +kernel
theorem dJ2_length_9d52b_1 : decode cJ2_length_9d52b 1 = .ok (.arraylength, 1) := by decide +kernel
theorem dJ2_length_9d52b_2 : decode cJ2_length_9d52b 2 = .ok (.iconst 1, 1) := by decide +kernel
theorem dJ2_length_9d52b_3 : decode cJ2_length_9d52b 3 = .ok (.ishr, 1) := by decide +kernel
theorem dJ2_length_9d52b_4 : decode cJ2_length_9d52b 4 = .ok (.ireturn, 1) := by decide +kernel
theorem dJ2_charAt_3b067_0 : decode cJ2_charAt_3b067 0 = .ok (.iload_n 1, 1) := by decide +kernel
theorem dJ2_charAt_3b067_1 : decode cJ2_charAt_3b067 1 = .ok (.aload_n 0, 1) := by decide +kernel
theorem dJ2_charAt_3b067_2 : decode cJ2_charAt_3b067 2 = .ok (.invokestatic 67, 3) := by decide +kernel
theorem dJ2_charAt_3b067_5 : decode cJ2_charAt_3b067 5 = .ok (.aload_n 0, 1) := by decide +kernel
theorem dJ2_charAt_3b067_6 : decode cJ2_charAt_3b067 6 = .ok (.iload_n 1, 1) := by decide +kernel
theorem dJ2_charAt_3b067_7 : decode cJ2_charAt_3b067 7 = .ok (.invokestatic 71, 3) := by decide +kernel
theorem dJ2_charAt_3b067_10 : decode cJ2_charAt_3b067 10 = .ok (.ireturn, 1) := by decide +kernel
theorem dJ2_checkIndex_2214a_0 : decode cJ2_checkIndex_2214a 0 = .ok (.iload_n 0, 1) := by decide +kernel
theorem dJ2_checkIndex_2214a_1 : decode cJ2_checkIndex_2214a 1 = .ok (.aload_n 1, 1) := by decide +kernel
theorem dJ2_checkIndex_2214a_2 : decode cJ2_checkIndex_2214a 2 = .ok (.invokestatic 48, 3) := by decide +kernel
theorem dJ2_checkIndex_2214a_5 : decode cJ2_checkIndex_2214a 5 = .ok (.invokestatic 414, 3) := by decide +kernel
theorem dJ2_checkIndex_2214a_8 : decode cJ2_checkIndex_2214a 8 = .ok (.return_, 1) := by decide +kernel
theorem dJ7_fill_53178_0 : decode cJ7_fill_53178 0 = .ok (.iconst 0, 1) := by decide +kernel
theorem dJ7_fill_53178_1 : decode cJ7_fill_53178 1 = .ok (.istore_n 2, 1) := by decide +kernel
theorem dJ7_fill_53178_2 : decode cJ7_fill_53178 2 = .ok (.aload_n 0, 1) := by decide +kernel
theorem dJ7_fill_53178_3 : decode cJ7_fill_53178 3 = .ok (.arraylength, 1) := by decide +kernel
theorem dJ7_fill_53178_4 : decode cJ7_fill_53178 4 = .ok (.istore_n 3, 1) := by decide +kernel
theorem dJ7_fill_53178_5 : decode cJ7_fill_53178 5 = .ok (.iload_n 2, 1) := by decide +kernel
theorem dJ7_fill_53178_6 : decode cJ7_fill_53178 6 = .ok (.iload_n 3, 1) := by decide +kernel
theorem dJ7_fill_53178_7 : decode cJ7_fill_53178 7 = .ok (.if_icmp .ge 13, 3) := by decide +kernel
theorem dJ7_fill_53178_10 : decode cJ7_fill_53178 10 = .ok (.aload_n 0, 1) := by decide +kernel
theorem dJ7_fill_53178_11 : decode cJ7_fill_53178 11 = .ok (.iload_n 2, 1) := by decide +kernel
theorem dJ7_fill_53178_12 : decode cJ7_fill_53178 12 = .ok (.iload_n 1, 1) := by decide +kernel
theorem dJ7_fill_53178_13 : decode cJ7_fill_53178 13 = .ok (.iastore, 1) := by decide +kernel
theorem dJ7_fill_53178_14 : decode cJ7_fill_53178 14 = .ok (.iinc 2 1, 3) := by decide +kernel
theorem dJ7_fill_53178_17 : decode cJ7_fill_53178 17 = .ok (.goto (-12), 3) := by decide +kernel
theorem dJ7_fill_53178_20 : decode cJ7_fill_53178 20 = .ok (.return_, 1) := by decide +kernel
theorem dJ3_checkIndex_8e157_0 : decode cJ3_checkIndex_8e157 0 = .ok (.iload_n 0, 1) := by decide +kernel
theorem dJ3_checkIndex_8e157_1 : decode cJ3_checkIndex_8e157 1 = .ok (.ifCond .lt 8, 3) := by decide +kernel
theorem dJ3_checkIndex_8e157_4 : decode cJ3_checkIndex_8e157 4 = .ok (.iload_n 0, 1) := by decide +kernel
theorem dJ3_checkIndex_8e157_5 : decode cJ3_checkIndex_8e157 5 = .ok (.iload_n 1, 1) := by decide +kernel
theorem dJ3_checkIndex_8e157_6 : decode cJ3_checkIndex_8e157 6 = .ok (.if_icmp .lt 10, 3) := by decide +kernel
theorem dJ3_checkIndex_8e157_9 : decode cJ3_checkIndex_8e157 9 = .ok (.aload_n 2, 1) := by decide +kernel
theorem dJ3_checkIndex_8e157_10 : decode cJ3_checkIndex_8e157 10 = .ok (.iload_n 0, 1) := by decide +kernel
theorem dJ3_checkIndex_8e157_11 : decode cJ3_checkIndex_8e157 11 = .ok (.iload_n 1, 1) := by decide +kernel
theorem dJ3_checkIndex_8e157_12 : decode cJ3_checkIndex_8e157 12 = .ok (.invokestatic 95, 3) := by decide +kernel
theorem dJ3_checkIndex_8e157_15 : decode cJ3_checkIndex_8e157 15 = .ok (.athrow, 1) := by decide +kernel
theorem dJ3_checkIndex_8e157_16 : decode cJ3_checkIndex_8e157 16 = .ok (.iload_n 0, 1) := by decide +kernel
theorem dJ3_checkIndex_8e157_17 : decode cJ3_checkIndex_8e157 17 = .ok (.ireturn, 1) := by decide +kernel
theorem dX0_init_0 : decode cX0_init 0 = .ok (.aload_n 0, 1) := by decide +kernel
theorem dX0_init_1 : decode cX0_init 1 = .ok (.invokespecial 3, 3) := by decide +kernel
theorem dX0_init_4 : decode cX0_init 4 = .ok (.aload_n 0, 1) := by decide +kernel
theorem dX0_init_5 : decode cX0_init 5 = .ok (.new 9, 3) := by decide +kernel
theorem dX0_init_8 : decode cX0_init 8 = .ok (.dup, 1) := by decide +kernel
theorem dX0_init_9 : decode cX0_init 9 = .ok (.invokespecial 11, 3) := by decide +kernel
theorem dX0_init_12 : decode cX0_init 12 = .ok (.putfield 12, 3) := by decide +kernel
theorem dX0_init_15 : decode cX0_init 15 = .ok (.aload_n 0, 1) := by decide +kernel
theorem dX0_init_16 : decode cX0_init 16 = .ok (.new 9, 3) := by decide +kernel
theorem dX0_init_19 : decode cX0_init 19 = .ok (.dup, 1) := by decide +kernel
theorem dX0_init_20 : decode cX0_init 20 = .ok (.invokespecial 11, 3) := by decide +kernel
theorem dX0_init_23 : decode cX0_init 23 = .ok (.putfield 18, 3) := by decide +kernel
theorem dX0_init_26 : decode cX0_init 26 = .ok (.aload_n 0, 1) := by decide +kernel
theorem dX0_init_27 : decode cX0_init 27 = .ok (.new 9, 3) := by decide +kernel
theorem dX0_init_30 : decode cX0_init 30 = .ok (.dup, 1) := by decide +kernel
theorem dX0_init_31 : decode cX0_init 31 = .ok (.invokespecial 11, 3) := by decide +kernel
theorem dX0_init_34 : decode cX0_init 34 = .ok (.putfield 21, 3) := by decide +kernel
theorem dX0_init_37 : decode cX0_init 37 = .ok (.aload_n 0, 1) := by decide +kernel
theorem dX0_init_38 : decode cX0_init 38 = .ok (.new 9, 3) := by decide +kernel
theorem dX0_init_41 : decode cX0_init 41 = .ok (.dup, 1) := by decide +kernel
theorem dX0_init_42 : decode cX0_init 42 = .ok (.invokespecial 11, 3) := by decide +kernel
theorem dX0_init_45 : decode cX0_init 45 = .ok (.putfield 24, 3) := by decide +kernel
theorem dX0_init_48 : decode cX0_init 48 = .ok (.aload_n 0, 1) := by decide +kernel
theorem dX0_init_49 : decode cX0_init 49 = .ok (.bipush 64, 2) := by decide +kernel
theorem dX0_init_51 : decode cX0_init 51 = .ok (.newarray .int, 2) := by decide +kernel
theorem dX0_init_53 : decode cX0_init 53 = .ok (.putfield 29, 3) := by decide +kernel
theorem dX0_init_56 : decode cX0_init 56 = .ok (.aload_n 0, 1) := by decide +kernel
theorem dX0_init_57 : decode cX0_init 57 = .ok (.bipush 36, 2) := by decide +kernel
theorem dX0_init_59 : decode cX0_init 59 = .ok (.newarray .int, 2) := by decide +kernel
theorem dX0_init_61 : decode cX0_init 61 = .ok (.putfield 33, 3) := by decide +kernel
theorem dX0_init_64 : decode cX0_init 64 = .ok (.return_, 1) := by decide +kernel
theorem dX0_forget_0 : decode cX0_forget 0 = .ok (.aload_n 0, 1) := by decide +kernel
theorem dX0_forget_1 : decode cX0_forget 1 = .ok (.iconst 0, 1) := by decide +kernel
theorem dX0_forget_2 : decode cX0_forget 2 = .ok (.putfield 36, 3) := by decide +kernel
theorem dX0_forget_5 : decode cX0_forget 5 = .ok (.aload_n 0, 1) := by decide +kernel
theorem dX0_forget_6 : decode cX0_forget 6 = .ok (.iconst 0, 1) := by decide +kernel
theorem dX0_forget_7 : decode cX0_forget 7 = .ok (.putfield 40, 3) := by decide +kernel
theorem dX0_forget_10 : decode cX0_forget 10 = .ok (.aload_n 0, 1) := by decide +kernel
theorem dX0_forget_11 : decode cX0_forget 11 = .ok (.iconst 0, 1) := by decide +kernel
theorem dX0_forget_12 : decode cX0_forget 12 = .ok (.putfield 43, 3) := by decide +kernel
theorem dX0_forget_15 : decode cX0_forget 15 = .ok (.aload_n 0, 1) := by decide +kernel
theorem dX0_forget_16 : decode cX0_forget 16 = .ok (.iconst 0, 1) := by decide +kernel
theorem dX0_forget_17 : decode cX0_forget 17 = .ok (.putfield 46, 3) := by decide +kernel
theorem dX0_forget_20 : decode cX0_forget 20 = .ok (.return_, 1) := by decide +kernel
theorem dX0_buttonSpan_0 : decode cX0_buttonSpan 0 = .ok (.aload_n 0, 1) := by decide +kernel
theorem dX0_buttonSpan_1 : decode cX0_buttonSpan 1 = .ok (.getfield 36, 3) := by decide +kernel
theorem dX0_buttonSpan_4 : decode cX0_buttonSpan 4 = .ok (.ifCond .ne 62, 3) := by decide +kernel
theorem dX0_buttonSpan_7 : decode cX0_buttonSpan 7 = .ok (.aload_n 0, 1) := by decide +kernel
theorem dX0_buttonSpan_8 : decode cX0_buttonSpan 8 = .ok (.getfield 12, 3) := by decide +kernel
theorem dX0_buttonSpan_11 : decode cX0_buttonSpan 11 = .ok (.aload_n 1, 1) := by decide +kernel
theorem dX0_buttonSpan_12 : decode cX0_buttonSpan 12 = .ok (.getfield 49, 3) := by decide +kernel
theorem dX0_buttonSpan_15 : decode cX0_buttonSpan 15 = .ok (.aload_n 1, 1) := by decide +kernel
theorem dX0_buttonSpan_16 : decode cX0_buttonSpan 16 = .ok (.getfield 54, 3) := by decide +kernel
theorem dX0_buttonSpan_19 : decode cX0_buttonSpan 19 = .ok (.invokevirtual 57, 3) := by decide +kernel
theorem dX0_buttonSpan_22 : decode cX0_buttonSpan 22 = .ok (.iconst 0, 1) := by decide +kernel
theorem dX0_buttonSpan_23 : decode cX0_buttonSpan 23 = .ok (.istore_n 2, 1) := by decide +kernel
theorem dX0_buttonSpan_24 : decode cX0_buttonSpan 24 = .ok (.iload_n 2, 1) := by decide +kernel
theorem dX0_buttonSpan_25 : decode cX0_buttonSpan 25 = .ok (.aload_n 1, 1) := by decide +kernel
theorem dX0_buttonSpan_26 : decode cX0_buttonSpan 26 = .ok (.getfield 49, 3) := by decide +kernel
theorem dX0_buttonSpan_29 : decode cX0_buttonSpan 29 = .ok (.if_icmp .ge 32, 3) := by decide +kernel
theorem dX0_buttonSpan_32 : decode cX0_buttonSpan 32 = .ok (.aload_n 1, 1) := by decide +kernel
theorem dX0_buttonSpan_33 : decode cX0_buttonSpan 33 = .ok (.getfield 61, 3) := by decide +kernel
theorem dX0_buttonSpan_36 : decode cX0_buttonSpan 36 = .ok (.iload_n 2, 1) := by decide +kernel
theorem dX0_buttonSpan_37 : decode cX0_buttonSpan 37 = .ok (.baload, 1) := by decide +kernel
theorem dX0_buttonSpan_38 : decode cX0_buttonSpan 38 = .ok (.ifCond .ne 17, 3) := by decide +kernel
theorem dX0_buttonSpan_41 : decode cX0_buttonSpan 41 = .ok (.aload_n 0, 1) := by decide +kernel
theorem dX0_buttonSpan_42 : decode cX0_buttonSpan 42 = .ok (.getfield 12, 3) := by decide +kernel
theorem dX0_buttonSpan_45 : decode cX0_buttonSpan 45 = .ok (.iload_n 2, 1) := by decide +kernel
theorem dX0_buttonSpan_46 : decode cX0_buttonSpan 46 = .ok (.aload_n 1, 1) := by decide +kernel
theorem dX0_buttonSpan_47 : decode cX0_buttonSpan 47 = .ok (.getfield 65, 3) := by decide +kernel
theorem dX0_buttonSpan_50 : decode cX0_buttonSpan 50 = .ok (.iload_n 2, 1) := by decide +kernel
theorem dX0_buttonSpan_51 : decode cX0_buttonSpan 51 = .ok (.aaload, 1) := by decide +kernel
theorem dX0_buttonSpan_52 : decode cX0_buttonSpan 52 = .ok (.invokevirtual 69, 3) := by decide +kernel
theorem dX0_buttonSpan_55 : decode cX0_buttonSpan 55 = .ok (.iinc 2 1, 3) := by decide +kernel
theorem dX0_buttonSpan_58 : decode cX0_buttonSpan 58 = .ok (.goto (-34), 3) := by decide +kernel
theorem dX0_buttonSpan_61 : decode cX0_buttonSpan 61 = .ok (.aload_n 0, 1) := by decide +kernel
theorem dX0_buttonSpan_62 : decode cX0_buttonSpan 62 = .ok (.iconst 1, 1) := by decide +kernel
theorem dX0_buttonSpan_63 : decode cX0_buttonSpan 63 = .ok (.putfield 36, 3) := by decide +kernel
theorem dX0_buttonSpan_66 : decode cX0_buttonSpan 66 = .ok (.aload_n 0, 1) := by decide +kernel
theorem dX0_buttonSpan_67 : decode cX0_buttonSpan 67 = .ok (.getfield 12, 3) := by decide +kernel
theorem dX0_buttonSpan_70 : decode cX0_buttonSpan 70 = .ok (.areturn, 1) := by decide +kernel
theorem dX0_lateSpan_0 : decode cX0_lateSpan 0 = .ok (.aload_n 0, 1) := by decide +kernel
theorem dX0_lateSpan_1 : decode cX0_lateSpan 1 = .ok (.getfield 43, 3) := by decide +kernel
theorem dX0_lateSpan_4 : decode cX0_lateSpan 4 = .ok (.ifCond .ne 63, 3) := by decide +kernel
theorem dX0_lateSpan_7 : decode cX0_lateSpan 7 = .ok (.aload_n 0, 1) := by decide +kernel
theorem dX0_lateSpan_8 : decode cX0_lateSpan 8 = .ok (.getfield 21, 3) := by decide +kernel
theorem dX0_lateSpan_11 : decode cX0_lateSpan 11 = .ok (.aload_n 1, 1) := by decide +kernel
theorem dX0_lateSpan_12 : decode cX0_lateSpan 12 = .ok (.getfield 49, 3) := by decide +kernel
theorem dX0_lateSpan_15 : decode cX0_lateSpan 15 = .ok (.aload_n 1, 1) := by decide +kernel
theorem dX0_lateSpan_16 : decode cX0_lateSpan 16 = .ok (.getfield 54, 3) := by decide +kernel
theorem dX0_lateSpan_19 : decode cX0_lateSpan 19 = .ok (.invokevirtual 57, 3) := by decide +kernel
theorem dX0_lateSpan_22 : decode cX0_lateSpan 22 = .ok (.aload_n 1, 1) := by decide +kernel
theorem dX0_lateSpan_23 : decode cX0_lateSpan 23 = .ok (.getfield 49, 3) := by decide +kernel
theorem dX0_lateSpan_26 : decode cX0_lateSpan 26 = .ok (.iconst 1, 1) := by decide +kernel
theorem dX0_lateSpan_27 : decode cX0_lateSpan 27 = .ok (.isub, 1) := by decide +kernel
theorem dX0_lateSpan_28 : decode cX0_lateSpan 28 = .ok (.istore_n 2, 1) := by decide +kernel
theorem dX0_lateSpan_29 : decode cX0_lateSpan 29 = .ok (.iload_n 2, 1) := by decide +kernel
theorem dX0_lateSpan_30 : decode cX0_lateSpan 30 = .ok (.ifCond .lt 32, 3) := by decide +kernel
theorem dX0_lateSpan_33 : decode cX0_lateSpan 33 = .ok (.aload_n 1, 1) := by decide +kernel
theorem dX0_lateSpan_34 : decode cX0_lateSpan 34 = .ok (.getfield 61, 3) := by decide +kernel
theorem dX0_lateSpan_37 : decode cX0_lateSpan 37 = .ok (.iload_n 2, 1) := by decide +kernel
theorem dX0_lateSpan_38 : decode cX0_lateSpan 38 = .ok (.baload, 1) := by decide +kernel
theorem dX0_lateSpan_39 : decode cX0_lateSpan 39 = .ok (.ifCond .ne 17, 3) := by decide +kernel
theorem dX0_lateSpan_42 : decode cX0_lateSpan 42 = .ok (.aload_n 0, 1) := by decide +kernel
theorem dX0_lateSpan_43 : decode cX0_lateSpan 43 = .ok (.getfield 21, 3) := by decide +kernel
theorem dX0_lateSpan_46 : decode cX0_lateSpan 46 = .ok (.iload_n 2, 1) := by decide +kernel
theorem dX0_lateSpan_47 : decode cX0_lateSpan 47 = .ok (.aload_n 1, 1) := by decide +kernel
theorem dX0_lateSpan_48 : decode cX0_lateSpan 48 = .ok (.getfield 65, 3) := by decide +kernel
theorem dX0_lateSpan_51 : decode cX0_lateSpan 51 = .ok (.iload_n 2, 1) := by decide +kernel
theorem dX0_lateSpan_52 : decode cX0_lateSpan 52 = .ok (.aaload, 1) := by decide +kernel
theorem dX0_lateSpan_53 : decode cX0_lateSpan 53 = .ok (.invokevirtual 69, 3) := by decide +kernel
theorem dX0_lateSpan_56 : decode cX0_lateSpan 56 = .ok (.iinc 2 (-1), 3) := by decide +kernel
theorem dX0_lateSpan_59 : decode cX0_lateSpan 59 = .ok (.goto (-30), 3) := by decide +kernel
theorem dX0_lateSpan_62 : decode cX0_lateSpan 62 = .ok (.aload_n 0, 1) := by decide +kernel
theorem dX0_lateSpan_63 : decode cX0_lateSpan 63 = .ok (.iconst 1, 1) := by decide +kernel
theorem dX0_lateSpan_64 : decode cX0_lateSpan 64 = .ok (.putfield 43, 3) := by decide +kernel
theorem dX0_lateSpan_67 : decode cX0_lateSpan 67 = .ok (.aload_n 0, 1) := by decide +kernel
theorem dX0_lateSpan_68 : decode cX0_lateSpan 68 = .ok (.getfield 21, 3) := by decide +kernel
theorem dX0_lateSpan_71 : decode cX0_lateSpan 71 = .ok (.areturn, 1) := by decide +kernel
theorem dX0_lampSpan_0 : decode cX0_lampSpan 0 = .ok (.aload_n 0, 1) := by decide +kernel
theorem dX0_lampSpan_1 : decode cX0_lampSpan 1 = .ok (.getfield 40, 3) := by decide +kernel
theorem dX0_lampSpan_4 : decode cX0_lampSpan 4 = .ok (.ifCond .ne 102, 3) := by decide +kernel
theorem dX0_lampSpan_7 : decode cX0_lampSpan 7 = .ok (.aload_n 0, 1) := by decide +kernel
theorem dX0_lampSpan_8 : decode cX0_lampSpan 8 = .ok (.getfield 18, 3) := by decide +kernel
theorem dX0_lampSpan_11 : decode cX0_lampSpan 11 = .ok (.aload_n 1, 1) := by decide +kernel
theorem dX0_lampSpan_12 : decode cX0_lampSpan 12 = .ok (.getfield 49, 3) := by decide +kernel
theorem dX0_lampSpan_15 : decode cX0_lampSpan 15 = .ok (.aload_n 1, 1) := by decide +kernel
theorem dX0_lampSpan_16 : decode cX0_lampSpan 16 = .ok (.getfield 54, 3) := by decide +kernel
theorem dX0_lampSpan_19 : decode cX0_lampSpan 19 = .ok (.invokevirtual 57, 3) := by decide +kernel
theorem dX0_lampSpan_22 : decode cX0_lampSpan 22 = .ok (.aload_n 0, 1) := by decide +kernel
theorem dX0_lampSpan_23 : decode cX0_lampSpan 23 = .ok (.getfield 33, 3) := by decide +kernel
theorem dX0_lampSpan_26 : decode cX0_lampSpan 26 = .ok (.iconst 0, 1) := by decide +kernel
theorem dX0_lampSpan_27 : decode cX0_lampSpan 27 = .ok (.invokestatic 73, 3) := by decide +kernel
theorem dX0_lampSpan_30 : decode cX0_lampSpan 30 = .ok (.iconst 0, 1) := by decide +kernel
theorem dX0_lampSpan_31 : decode cX0_lampSpan 31 = .ok (.istore_n 2, 1) := by decide +kernel
theorem dX0_lampSpan_32 : decode cX0_lampSpan 32 = .ok (.iload_n 2, 1) := by decide +kernel
theorem dX0_lampSpan_33 : decode cX0_lampSpan 33 = .ok (.aload_n 1, 1) := by decide +kernel
theorem dX0_lampSpan_34 : decode cX0_lampSpan 34 = .ok (.getfield 49, 3) := by decide +kernel
theorem dX0_lampSpan_37 : decode cX0_lampSpan 37 = .ok (.if_icmp .ge 64, 3) := by decide +kernel
theorem dX0_lampSpan_40 : decode cX0_lampSpan 40 = .ok (.iconst 0, 1) := by decide +kernel
theorem dX0_lampSpan_41 : decode cX0_lampSpan 41 = .ok (.istore_n 3, 1) := by decide +kernel
theorem dX0_lampSpan_42 : decode cX0_lampSpan 42 = .ok (.iload_n 3, 1) := by decide +kernel
theorem dX0_lampSpan_43 : decode cX0_lampSpan 43 = .ok (.aload_n 1, 1) := by decide +kernel
theorem dX0_lampSpan_44 : decode cX0_lampSpan 44 = .ok (.getfield 49, 3) := by decide +kernel
theorem dX0_lampSpan_47 : decode cX0_lampSpan 47 = .ok (.if_icmp .ge 36, 3) := by decide +kernel
theorem dX0_lampSpan_50 : decode cX0_lampSpan 50 = .ok (.aload_n 0, 1) := by decide +kernel
theorem dX0_lampSpan_51 : decode cX0_lampSpan 51 = .ok (.getfield 33, 3) := by decide +kernel
theorem dX0_lampSpan_54 : decode cX0_lampSpan 54 = .ok (.iload_n 3, 1) := by decide +kernel
theorem dX0_lampSpan_55 : decode cX0_lampSpan 55 = .ok (.aload_n 1, 1) := by decide +kernel
theorem dX0_lampSpan_56 : decode cX0_lampSpan 56 = .ok (.getfield 61, 3) := by decide +kernel
theorem dX0_lampSpan_59 : decode cX0_lampSpan 59 = .ok (.iload_n 3, 1) := by decide +kernel
theorem dX0_lampSpan_60 : decode cX0_lampSpan 60 = .ok (.baload, 1) := by decide +kernel
theorem dX0_lampSpan_61 : decode cX0_lampSpan 61 = .ok (.ifCond .eq 7, 3) := by decide +kernel
theorem dX0_lampSpan_64 : decode cX0_lampSpan 64 = .ok (.iconst 0, 1) := by decide +kernel
theorem dX0_lampSpan_65 : decode cX0_lampSpan 65 = .ok (.goto 11, 3) := by decide +kernel
theorem dX0_lampSpan_68 : decode cX0_lampSpan 68 = .ok (.aload_n 1, 1) := by decide +kernel
theorem dX0_lampSpan_69 : decode cX0_lampSpan 69 = .ok (.getfield 65, 3) := by decide +kernel
theorem dX0_lampSpan_72 : decode cX0_lampSpan 72 = .ok (.iload_n 3, 1) := by decide +kernel
theorem dX0_lampSpan_73 : decode cX0_lampSpan 73 = .ok (.aaload, 1) := by decide +kernel
theorem dX0_lampSpan_74 : decode cX0_lampSpan 74 = .ok (.iload_n 2, 1) := by decide +kernel
theorem dX0_lampSpan_75 : decode cX0_lampSpan 75 = .ok (.iaload, 1) := by decide +kernel
theorem dX0_lampSpan_76 : decode cX0_lampSpan 76 = .ok (.iastore, 1) := by decide +kernel
theorem dX0_lampSpan_77 : decode cX0_lampSpan 77 = .ok (.iinc 3 1, 3) := by decide +kernel
theorem dX0_lampSpan_80 : decode cX0_lampSpan 80 = .ok (.goto (-38), 3) := by decide +kernel
theorem dX0_lampSpan_83 : decode cX0_lampSpan 83 = .ok (.aload_n 0, 1) := by decide +kernel
theorem dX0_lampSpan_84 : decode cX0_lampSpan 84 = .ok (.getfield 18, 3) := by decide +kernel
theorem dX0_lampSpan_87 : decode cX0_lampSpan 87 = .ok (.iload_n 2, 1) := by decide +kernel
theorem dX0_lampSpan_88 : decode cX0_lampSpan 88 = .ok (.aload_n 0, 1) := by decide +kernel
theorem dX0_lampSpan_89 : decode cX0_lampSpan 89 = .ok (.getfield 33, 3) := by decide +kernel
theorem dX0_lampSpan_92 : decode cX0_lampSpan 92 = .ok (.invokevirtual 69, 3) := by decide +kernel
theorem dX0_lampSpan_95 : decode cX0_lampSpan 95 = .ok (.iinc 2 1, 3) := by decide +kernel
theorem dX0_lampSpan_98 : decode cX0_lampSpan 98 = .ok (.goto (-66), 3) := by decide +kernel
theorem dX0_lampSpan_101 : decode cX0_lampSpan 101 = .ok (.aload_n 0, 1) := by decide +kernel
theorem dX0_lampSpan_102 : decode cX0_lampSpan 102 = .ok (.iconst 1, 1) := by decide +kernel
theorem dX0_lampSpan_103 : decode cX0_lampSpan 103 = .ok (.putfield 40, 3) := by decide +kernel
theorem dX0_lampSpan_106 : decode cX0_lampSpan 106 = .ok (.aload_n 0, 1) := by decide +kernel
theorem dX0_lampSpan_107 : decode cX0_lampSpan 107 = .ok (.getfield 18, 3) := by decide +kernel
theorem dX0_lampSpan_110 : decode cX0_lampSpan 110 = .ok (.areturn, 1) := by decide +kernel
theorem dX0_findNeeds_0 : decode cX0_findNeeds 0 = .ok (.aload_n 0, 1) := by decide +kernel
theorem dX0_findNeeds_1 : decode cX0_findNeeds 1 = .ok (.aload_n 1, 1) := by decide +kernel
theorem dX0_findNeeds_2 : decode cX0_findNeeds 2 = .ok (.invokevirtual 79, 3) := by decide +kernel
theorem dX0_findNeeds_5 : decode cX0_findNeeds 5 = .ok (.astore_n 3, 1) := by decide +kernel
theorem dX0_findNeeds_6 : decode cX0_findNeeds 6 = .ok (.aload_n 2, 1) := by decide +kernel
theorem dX0_findNeeds_7 : decode cX0_findNeeds 7 = .ok (.aload_n 3, 1) := by decide +kernel
theorem dX0_findNeeds_8 : decode cX0_findNeeds 8 = .ok (.getfield 83, 3) := by decide +kernel
theorem dX0_findNeeds_11 : decode cX0_findNeeds 11 = .ok (.aload_n 1, 1) := by decide +kernel
theorem dX0_findNeeds_12 : decode cX0_findNeeds 12 = .ok (.getfield 54, 3) := by decide +kernel
theorem dX0_findNeeds_15 : decode cX0_findNeeds 15 = .ok (.invokevirtual 86, 3) := by decide +kernel
theorem dX0_findNeeds_18 : decode cX0_findNeeds 18 = .ok (.iconst 0, 1) := by decide +kernel
theorem dX0_findNeeds_19 : decode cX0_findNeeds 19 = .ok (.istore 4, 2) := by decide +kernel
theorem dX0_findNeeds_21 : decode cX0_findNeeds 21 = .ok (.iload 4, 2) := by decide +kernel
theorem dX0_findNeeds_23 : decode cX0_findNeeds 23 = .ok (.aload_n 1, 1) := by decide +kernel
theorem dX0_findNeeds_24 : decode cX0_findNeeds 24 = .ok (.getfield 49, 3) := by decide +kernel
theorem dX0_findNeeds_27 : decode cX0_findNeeds 27 = .ok (.if_icmp .ge 40, 3) := by decide +kernel
theorem dX0_findNeeds_30 : decode cX0_findNeeds 30 = .ok (.aload_n 1, 1) := by decide +kernel
theorem dX0_findNeeds_31 : decode cX0_findNeeds 31 = .ok (.getfield 61, 3) := by decide +kernel
theorem dX0_findNeeds_34 : decode cX0_findNeeds 34 = .ok (.iload 4, 2) := by decide +kernel
theorem dX0_findNeeds_36 : decode cX0_findNeeds 36 = .ok (.baload, 1) := by decide +kernel
theorem dX0_findNeeds_37 : decode cX0_findNeeds 37 = .ok (.ifCond .ne 24, 3) := by decide +kernel
theorem dX0_findNeeds_40 : decode cX0_findNeeds 40 = .ok (.aload_n 3, 1) := by decide +kernel
theorem dX0_findNeeds_41 : decode cX0_findNeeds 41 = .ok (.iload 4, 2) := by decide +kernel
theorem dX0_findNeeds_43 : decode cX0_findNeeds 43 = .ok (.aload_n 0, 1) := by decide +kernel
theorem dX0_findNeeds_44 : decode cX0_findNeeds 44 = .ok (.getfield 33, 3) := by decide +kernel
theorem dX0_findNeeds_47 : decode cX0_findNeeds 47 = .ok (.invokevirtual 87, 3) := by decide +kernel
theorem dX0_findNeeds_50 : decode cX0_findNeeds 50 = .ok (.aload_n 2, 1) := by decide +kernel
theorem dX0_findNeeds_51 : decode cX0_findNeeds 51 = .ok (.iload 4, 2) := by decide +kernel
theorem dX0_findNeeds_53 : decode cX0_findNeeds 53 = .ok (.aload_n 0, 1) := by decide +kernel
theorem dX0_findNeeds_54 : decode cX0_findNeeds 54 = .ok (.getfield 33, 3) := by decide +kernel
theorem dX0_findNeeds_57 : decode cX0_findNeeds 57 = .ok (.iconst (-1), 1) := by decide +kernel
theorem dX0_findNeeds_58 : decode cX0_findNeeds 58 = .ok (.invokevirtual 90, 3) := by decide +kernel
theorem dX0_findNeeds_61 : decode cX0_findNeeds 61 = .ok (.iinc 4 1, 3) := by decide +kernel
theorem dX0_findNeeds_64 : decode cX0_findNeeds 64 = .ok (.goto (-43), 3) := by decide +kernel
theorem dX0_findNeeds_67 : decode cX0_findNeeds 67 = .ok (.aload_n 2, 1) := by decide +kernel
theorem dX0_findNeeds_68 : decode cX0_findNeeds 68 = .ok (.iconst 0, 1) := by decide +kernel
theorem dX0_findNeeds_69 : decode cX0_findNeeds 69 = .ok (.iconst (-1), 1) := by decide +kernel
theorem dX0_findNeeds_70 : decode cX0_findNeeds 70 = .ok (.invokevirtual 94, 3) := by decide +kernel
theorem dX0_findNeeds_73 : decode cX0_findNeeds 73 = .ok (.aload_n 2, 1) := by decide +kernel
theorem dX0_findNeeds_74 : decode cX0_findNeeds 74 = .ok (.getfield 97, 3) := by decide +kernel
theorem dX0_findNeeds_77 : decode cX0_findNeeds 77 = .ok (.iconst 0, 1) := by decide +kernel
theorem dX0_findNeeds_78 : decode cX0_findNeeds 78 = .ok (.aload_n 0, 1) := by decide +kernel
theorem dX0_findNeeds_79 : decode cX0_findNeeds 79 = .ok (.getfield 29, 3) := by decide +kernel
theorem dX0_findNeeds_82 : decode cX0_findNeeds 82 = .ok (.iconst 0, 1) := by decide +kernel
theorem dX0_findNeeds_83 : decode cX0_findNeeds 83 = .ok (.bipush 64, 2) := by decide +kernel
theorem dX0_findNeeds_85 : decode cX0_findNeeds 85 = .ok (.invokestatic 100, 3) := by decide +kernel
theorem dX0_findNeeds_88 : decode cX0_findNeeds 88 = .ok (.aload_n 0, 1) := by decide +kernel
theorem dX0_findNeeds_89 : decode cX0_findNeeds 89 = .ok (.aload_n 2, 1) := by decide +kernel
theorem dX0_findNeeds_90 : decode cX0_findNeeds 90 = .ok (.getfield 106, 3) := by decide +kernel
theorem dX0_findNeeds_93 : decode cX0_findNeeds 93 = .ok (.putfield 109, 3) := by decide +kernel
theorem dX0_findNeeds_96 : decode cX0_findNeeds 96 = .ok (.aload_n 0, 1) := by decide +kernel
theorem dX0_findNeeds_97 : decode cX0_findNeeds 97 = .ok (.iconst 1, 1) := by decide +kernel
theorem dX0_findNeeds_98 : decode cX0_findNeeds 98 = .ok (.putfield 46, 3) := by decide +kernel
theorem dX0_findNeeds_101 : decode cX0_findNeeds 101 = .ok (.return_, 1) := by decide +kernel
theorem dX1_init_0 : decode cX1_init 0 = .ok (.aload_n 0, 1) := by decide +kernel
theorem dX1_init_1 : decode cX1_init 1 = .ok (.invokespecial 3, 3) := by decide +kernel
theorem dX1_init_4 : decode cX1_init 4 = .ok (.aload_n 0, 1) := by decide +kernel
theorem dX1_init_5 : decode cX1_init 5 = .ok (.sipush 301, 3) := by decide +kernel
theorem dX1_init_8 : decode cX1_init 8 = .ok (.newarray .long, 2) := by decide +kernel
theorem dX1_init_10 : decode cX1_init 10 = .ok (.putfield 11, 3) := by decide +kernel
theorem dX1_init_13 : decode cX1_init 13 = .ok (.aload_n 0, 1) := by decide +kernel
theorem dX1_init_14 : decode cX1_init 14 = .ok (.sipush 301, 3) := by decide +kernel
theorem dX1_init_17 : decode cX1_init 17 = .ok (.newarray .long, 2) := by decide +kernel
theorem dX1_init_19 : decode cX1_init 19 = .ok (.putfield 15, 3) := by decide +kernel
theorem dX1_init_22 : decode cX1_init 22 = .ok (.aload_n 0, 1) := by decide +kernel
theorem dX1_init_23 : decode cX1_init 23 = .ok (.bipush 36, 2) := by decide +kernel
theorem dX1_init_25 : decode cX1_init 25 = .ok (.newarray .int, 2) := by decide +kernel
theorem dX1_init_27 : decode cX1_init 27 = .ok (.putfield 18, 3) := by decide +kernel
theorem dX1_init_30 : decode cX1_init 30 = .ok (.aload_n 0, 1) := by decide +kernel
theorem dX1_init_31 : decode cX1_init 31 = .ok (.bipush 36, 2) := by decide +kernel
theorem dX1_init_33 : decode cX1_init 33 = .ok (.newarray .int, 2) := by decide +kernel
theorem dX1_init_35 : decode cX1_init 35 = .ok (.putfield 22, 3) := by decide +kernel
theorem dX1_init_38 : decode cX1_init 38 = .ok (.aload_n 0, 1) := by decide +kernel
theorem dX1_init_39 : decode cX1_init 39 = .ok (.iconst (-1), 1) := by decide +kernel
theorem dX1_init_40 : decode cX1_init 40 = .ok (.putfield 25, 3) := by decide +kernel
theorem dX1_init_43 : decode cX1_init 43 = .ok (.aload_n 0, 1) := by decide +kernel
theorem dX1_init_44 : decode cX1_init 44 = .ok (.iconst (-1), 1) := by decide +kernel
theorem dX1_init_45 : decode cX1_init 45 = .ok (.putfield 29, 3) := by decide +kernel
theorem dX1_init_48 : decode cX1_init 48 = .ok (.return_, 1) := by decide +kernel
theorem dX1_find_0 : decode cX1_find 0 = .ok (.aload_n 0, 1) := by decide +kernel
theorem dX1_find_1 : decode cX1_find 1 = .ok (.iconst (-1), 1) := by decide +kernel
theorem dX1_find_2 : decode cX1_find 2 = .ok (.putfield 25, 3) := by decide +kernel
theorem dX1_find_5 : decode cX1_find 5 = .ok (.aload_n 0, 1) := by decide +kernel
theorem dX1_find_6 : decode cX1_find 6 = .ok (.iconst (-1), 1) := by decide +kernel
theorem dX1_find_7 : decode cX1_find 7 = .ok (.putfield 29, 3) := by decide +kernel
theorem dX1_find_10 : decode cX1_find 10 = .ok (.aload_n 2, 1) := by decide +kernel
theorem dX1_find_11 : decode cX1_find 11 = .ok (.iconst 0, 1) := by decide +kernel
theorem dX1_find_12 : decode cX1_find 12 = .ok (.aload_n 0, 1) := by decide +kernel
theorem dX1_find_13 : decode cX1_find 13 = .ok (.getfield 18, 3) := by decide +kernel
theorem dX1_find_16 : decode cX1_find 16 = .ok (.iconst 0, 1) := by decide +kernel
theorem dX1_find_17 : decode cX1_find 17 = .ok (.bipush 36, 2) := by decide +kernel
theorem dX1_find_19 : decode cX1_find 19 = .ok (.invokestatic 32, 3) := by decide +kernel
theorem dX1_find_22 : decode cX1_find 22 = .ok (.iconst 0, 1) := by decide +kernel
theorem dX1_find_23 : decode cX1_find 23 = .ok (.istore_n 3, 1) := by decide +kernel
theorem dX1_find_24 : decode cX1_find 24 = .ok (.iload_n 3, 1) := by decide +kernel
theorem dX1_find_25 : decode cX1_find 25 = .ok (.sipush 300, 3) := by decide +kernel
theorem dX1_find_28 : decode cX1_find 28 = .ok (.if_icmp .gt 72, 3) := by decide +kernel
theorem dX1_find_31 : decode cX1_find 31 = .ok (.aload_n 0, 1) := by decide +kernel
theorem dX1_find_32 : decode cX1_find 32 = .ok (.getfield 11, 3) := by decide +kernel
theorem dX1_find_35 : decode cX1_find 35 = .ok (.iload_n 3, 1) := by decide +kernel
theorem dX1_find_36 : decode cX1_find 36 = .ok (.aload_n 0, 1) := by decide +kernel
theorem dX1_find_37 : decode cX1_find 37 = .ok (.iconst 0, 1) := by decide +kernel
theorem dX1_find_38 : decode cX1_find 38 = .ok (.invokevirtual 38, 3) := by decide +kernel
theorem dX1_find_41 : decode cX1_find 41 = .ok (.lastore, 1) := by decide +kernel
theorem dX1_find_42 : decode cX1_find 42 = .ok (.aload_n 0, 1) := by decide +kernel
theorem dX1_find_43 : decode cX1_find 43 = .ok (.getfield 15, 3) := by decide +kernel
theorem dX1_find_46 : decode cX1_find 46 = .ok (.iload_n 3, 1) := by decide +kernel
theorem dX1_find_47 : decode cX1_find 47 = .ok (.aload_n 0, 1) := by decide +kernel
theorem dX1_find_48 : decode cX1_find 48 = .ok (.bipush 18, 2) := by decide +kernel
theorem dX1_find_50 : decode cX1_find 50 = .ok (.invokevirtual 38, 3) := by decide +kernel
theorem dX1_find_53 : decode cX1_find 53 = .ok (.lastore, 1) := by decide +kernel
theorem dX1_find_54 : decode cX1_find 54 = .ok (.aload_n 0, 1) := by decide +kernel
theorem dX1_find_55 : decode cX1_find 55 = .ok (.iload_n 3, 1) := by decide +kernel
theorem dX1_find_56 : decode cX1_find 56 = .ok (.invokevirtual 42, 3) := by decide +kernel
theorem dX1_find_59 : decode cX1_find 59 = .ok (.istore 4, 2) := by decide +kernel
theorem dX1_find_61 : decode cX1_find 61 = .ok (.iload 4, 2) := by decide +kernel
theorem dX1_find_63 : decode cX1_find 63 = .ok (.iconst (-1), 1) := by decide +kernel
theorem dX1_find_64 : decode cX1_find 64 = .ok (.if_icmp .eq 18, 3) := by decide +kernel
theorem dX1_find_67 : decode cX1_find 67 = .ok (.aload_n 0, 1) := by decide +kernel
theorem dX1_find_68 : decode cX1_find 68 = .ok (.iload 4, 2) := by decide +kernel
theorem dX1_find_70 : decode cX1_find 70 = .ok (.putfield 25, 3) := by decide +kernel
theorem dX1_find_73 : decode cX1_find 73 = .ok (.aload_n 0, 1) := by decide +kernel
theorem dX1_find_74 : decode cX1_find 74 = .ok (.iload_n 3, 1) := by decide +kernel
theorem dX1_find_75 : decode cX1_find 75 = .ok (.iload 4, 2) := by decide +kernel
theorem dX1_find_77 : decode cX1_find 77 = .ok (.isub, 1) := by decide +kernel
theorem dX1_find_78 : decode cX1_find 78 = .ok (.putfield 29, 3) := by decide +kernel
theorem dX1_find_81 : decode cX1_find 81 = .ok (.return_, 1) := by decide +kernel
theorem dX1_find_82 : decode cX1_find 82 = .ok (.aload_n 1, 1) := by decide +kernel
theorem dX1_find_83 : decode cX1_find 83 = .ok (.aload_n 0, 1) := by decide +kernel
theorem dX1_find_84 : decode cX1_find 84 = .ok (.getfield 18, 3) := by decide +kernel
theorem dX1_find_87 : decode cX1_find 87 = .ok (.aload_n 0, 1) := by decide +kernel
theorem dX1_find_88 : decode cX1_find 88 = .ok (.getfield 22, 3) := by decide +kernel
theorem dX1_find_91 : decode cX1_find 91 = .ok (.invokevirtual 46, 3) := by decide +kernel
theorem dX1_find_94 : decode cX1_find 94 = .ok (.iinc 3 1, 3) := by decide +kernel
theorem dX1_find_97 : decode cX1_find 97 = .ok (.goto (-73), 3) := by decide +kernel
theorem dX1_find_100 : decode cX1_find 100 = .ok (.return_, 1) := by decide +kernel
theorem dX1_packed_0 : decode cX1_packed 0 = .ok (.lconst 0, 1) := by decide +kernel
theorem dX1_packed_1 : decode cX1_packed 1 = .ok (.lstore_n 2, 1) := by decide +kernel
theorem dX1_packed_2 : decode cX1_packed 2 = .ok (.iload_n 1, 1) := by decide +kernel
theorem dX1_packed_3 : decode cX1_packed 3 = .ok (.istore 4, 2) := by decide +kernel
theorem dX1_packed_5 : decode cX1_packed 5 = .ok (.iload 4, 2) := by decide +kernel
theorem dX1_packed_7 : decode cX1_packed 7 = .ok (.iload_n 1, 1) := by decide +kernel
theorem dX1_packed_8 : decode cX1_packed 8 = .ok (.bipush 18, 2) := by decide +kernel
theorem dX1_packed_10 : decode cX1_packed 10 = .ok (.iadd, 1) := by decide +kernel
theorem dX1_packed_11 : decode cX1_packed 11 = .ok (.if_icmp .ge 24, 3) := by decide +kernel
theorem dX1_packed_14 : decode cX1_packed 14 = .ok (.lload_n 2, 1) := by decide +kernel
theorem dX1_packed_15 : decode cX1_packed 15 = .ok (.ldc2_w 52, 3) := by decide +kernel
theorem dX1_packed_18 : decode cX1_packed 18 = .ok (.lmul, 1) := by decide +kernel
theorem dX1_packed_19 : decode cX1_packed 19 = .ok (.aload_n 0, 1) := by decide +kernel
theorem dX1_packed_20 : decode cX1_packed 20 = .ok (.getfield 18, 3) := by decide +kernel
theorem dX1_packed_23 : decode cX1_packed 23 = .ok (.iload 4, 2) := by decide +kernel
theorem dX1_packed_25 : decode cX1_packed 25 = .ok (.iaload, 1) := by decide +kernel
theorem dX1_packed_26 : decode cX1_packed 26 = .ok (.i2l, 1) := by decide +kernel
theorem dX1_packed_27 : decode cX1_packed 27 = .ok (.ladd, 1) := by decide +kernel
theorem dX1_packed_28 : decode cX1_packed 28 = .ok (.lstore_n 2, 1) := by decide +kernel
theorem dX1_packed_29 : decode cX1_packed 29 = .ok (.iinc 4 1, 3) := by decide +kernel
theorem dX1_packed_32 : decode cX1_packed 32 = .ok (.goto (-27), 3) := by decide +kernel
theorem dX1_packed_35 : decode cX1_packed 35 = .ok (.lload_n 2, 1) := by decide +kernel
theorem dX1_packed_36 : decode cX1_packed 36 = .ok (.lreturn, 1) := by decide +kernel
theorem dX1_likeBefore_0 : decode cX1_likeBefore 0 = .ok (.iconst 0, 1) := by decide +kernel
theorem dX1_likeBefore_1 : decode cX1_likeBefore 1 = .ok (.istore_n 2, 1) := by decide +kernel
theorem dX1_likeBefore_2 : decode cX1_likeBefore 2 = .ok (.iload_n 2, 1) := by decide +kernel
theorem dX1_likeBefore_3 : decode cX1_likeBefore 3 = .ok (.iload_n 1, 1) := by decide +kernel
theorem dX1_likeBefore_4 : decode cX1_likeBefore 4 = .ok (.if_icmp .ge 43, 3) := by decide +kernel
theorem dX1_likeBefore_7 : decode cX1_likeBefore 7 = .ok (.aload_n 0, 1) := by decide +kernel
theorem dX1_likeBefore_8 : decode cX1_likeBefore 8 = .ok (.getfield 11, 3) := by decide +kernel
theorem dX1_likeBefore_11 : decode cX1_likeBefore 11 = .ok (.iload_n 2, 1) := by decide +kernel
theorem dX1_likeBefore_12 : decode cX1_likeBefore 12 = .ok (.laload, 1) := by decide +kernel
theorem dX1_likeBefore_13 : decode cX1_likeBefore 13 = .ok (.aload_n 0, 1) := by decide +kernel
theorem dX1_likeBefore_14 : decode cX1_likeBefore 14 = .ok (.getfield 11, 3) := by decide +kernel
theorem dX1_likeBefore_17 : decode cX1_likeBefore 17 = .ok (.iload_n 1, 1) := by decide +kernel
theorem dX1_likeBefore_18 : decode cX1_likeBefore 18 = .ok (.laload, 1) := by decide +kernel
theorem dX1_likeBefore_19 : decode cX1_likeBefore 19 = .ok (.lcmp, 1) := by decide +kernel
theorem dX1_likeBefore_20 : decode cX1_likeBefore 20 = .ok (.ifCond .ne 21, 3) := by decide +kernel
theorem dX1_likeBefore_23 : decode cX1_likeBefore 23 = .ok (.aload_n 0, 1) := by decide +kernel
theorem dX1_likeBefore_24 : decode cX1_likeBefore 24 = .ok (.getfield 15, 3) := by decide +kernel
theorem dX1_likeBefore_27 : decode cX1_likeBefore 27 = .ok (.iload_n 2, 1) := by decide +kernel
theorem dX1_likeBefore_28 : decode cX1_likeBefore 28 = .ok (.laload, 1) := by decide +kernel
theorem dX1_likeBefore_29 : decode cX1_likeBefore 29 = .ok (.aload_n 0, 1) := by decide +kernel
theorem dX1_likeBefore_30 : decode cX1_likeBefore 30 = .ok (.getfield 15, 3) := by decide +kernel
theorem dX1_likeBefore_33 : decode cX1_likeBefore 33 = .ok (.iload_n 1, 1) := by decide +kernel
theorem dX1_likeBefore_34 : decode cX1_likeBefore 34 = .ok (.laload, 1) := by decide +kernel
theorem dX1_likeBefore_35 : decode cX1_likeBefore 35 = .ok (.lcmp, 1) := by decide +kernel
theorem dX1_likeBefore_36 : decode cX1_likeBefore 36 = .ok (.ifCond .ne 5, 3) := by decide +kernel
theorem dX1_likeBefore_39 : decode cX1_likeBefore 39 = .ok (.iload_n 2, 1) := by decide +kernel
theorem dX1_likeBefore_40 : decode cX1_likeBefore 40 = .ok (.ireturn, 1) := by decide +kernel
theorem dX1_likeBefore_41 : decode cX1_likeBefore 41 = .ok (.iinc 2 1, 3) := by decide +kernel
theorem dX1_likeBefore_44 : decode cX1_likeBefore 44 = .ok (.goto (-42), 3) := by decide +kernel
theorem dX1_likeBefore_47 : decode cX1_likeBefore 47 = .ok (.iconst (-1), 1) := by decide +kernel
theorem dX1_likeBefore_48 : decode cX1_likeBefore 48 = .ok (.ireturn, 1) := by decide +kernel
theorem dX2_init_0 : decode cX2_init 0 = .ok (.aload_n 0, 1) := by decide +kernel
theorem dX2_init_1 : decode cX2_init 1 = .ok (.invokespecial 3, 3) := by decide +kernel
theorem dX2_init_4 : decode cX2_init 4 = .ok (.aload_n 0, 1) := by decide +kernel
theorem dX2_init_5 : decode cX2_init 5 = .ok (.bipush 100, 2) := by decide +kernel
theorem dX2_init_7 : decode cX2_init 7 = .ok (.newarray .int, 2) := by decide +kernel
theorem dX2_init_9 : decode cX2_init 9 = .ok (.putfield 11, 3) := by decide +kernel
theorem dX2_init_12 : decode cX2_init 12 = .ok (.aload_n 0, 1) := by decide +kernel
theorem dX2_init_13 : decode cX2_init 13 = .ok (.iconst 0, 1) := by decide +kernel
theorem dX2_init_14 : decode cX2_init 14 = .ok (.putfield 15, 3) := by decide +kernel
theorem dX2_init_17 : decode cX2_init 17 = .ok (.aload_n 0, 1) := by decide +kernel
theorem dX2_init_18 : decode cX2_init 18 = .ok (.iconst 0, 1) := by decide +kernel
theorem dX2_init_19 : decode cX2_init 19 = .ok (.putfield 19, 3) := by decide +kernel
theorem dX2_init_22 : decode cX2_init 22 = .ok (.return_, 1) := by decide +kernel
theorem dX2_clear_0 : decode cX2_clear 0 = .ok (.aload_n 0, 1) := by decide +kernel
theorem dX2_clear_1 : decode cX2_clear 1 = .ok (.iconst 0, 1) := by decide +kernel
theorem dX2_clear_2 : decode cX2_clear 2 = .ok (.putfield 19, 3) := by decide +kernel
theorem dX2_clear_5 : decode cX2_clear 5 = .ok (.return_, 1) := by decide +kernel
theorem dX2_add_0 : decode cX2_add 0 = .ok (.aload_n 0, 1) := by decide +kernel
theorem dX2_add_1 : decode cX2_add 1 = .ok (.getfield 11, 3) := by decide +kernel
theorem dX2_add_4 : decode cX2_add 4 = .ok (.aload_n 0, 1) := by decide +kernel
theorem dX2_add_5 : decode cX2_add 5 = .ok (.getfield 15, 3) := by decide +kernel
theorem dX2_add_8 : decode cX2_add 8 = .ok (.iload_n 1, 1) := by decide +kernel
theorem dX2_add_9 : decode cX2_add 9 = .ok (.iastore, 1) := by decide +kernel
theorem dX2_add_10 : decode cX2_add 10 = .ok (.aload_n 0, 1) := by decide +kernel
theorem dX2_add_11 : decode cX2_add 11 = .ok (.aload_n 0, 1) := by decide +kernel
theorem dX2_add_12 : decode cX2_add 12 = .ok (.getfield 15, 3) := by decide +kernel
theorem dX2_add_15 : decode cX2_add 15 = .ok (.iconst 1, 1) := by decide +kernel
theorem dX2_add_16 : decode cX2_add 16 = .ok (.iadd, 1) := by decide +kernel
theorem dX2_add_17 : decode cX2_add 17 = .ok (.bipush 100, 2) := by decide +kernel
theorem dX2_add_19 : decode cX2_add 19 = .ok (.irem, 1) := by decide +kernel
theorem dX2_add_20 : decode cX2_add 20 = .ok (.putfield 15, 3) := by decide +kernel
theorem dX2_add_23 : decode cX2_add 23 = .ok (.aload_n 0, 1) := by decide +kernel
theorem dX2_add_24 : decode cX2_add 24 = .ok (.getfield 19, 3) := by decide +kernel
theorem dX2_add_27 : decode cX2_add 27 = .ok (.bipush 100, 2) := by decide +kernel
theorem dX2_add_29 : decode cX2_add 29 = .ok (.if_icmp .ge 13, 3) := by decide +kernel
theorem dX2_add_32 : decode cX2_add 32 = .ok (.aload_n 0, 1) := by decide +kernel
theorem dX2_add_33 : decode cX2_add 33 = .ok (.dup, 1) := by decide +kernel
theorem dX2_add_34 : decode cX2_add 34 = .ok (.getfield 19, 3) := by decide +kernel
theorem dX2_add_37 : decode cX2_add 37 = .ok (.iconst 1, 1) := by decide +kernel
theorem dX2_add_38 : decode cX2_add 38 = .ok (.iadd, 1) := by decide +kernel
theorem dX2_add_39 : decode cX2_add 39 = .ok (.putfield 19, 3) := by decide +kernel
theorem dX2_add_42 : decode cX2_add 42 = .ok (.return_, 1) := by decide +kernel
theorem dX2_removeLatest_0 : decode cX2_removeLatest 0 = .ok (.aload_n 0, 1) := by decide +kernel
theorem dX2_removeLatest_1 : decode cX2_removeLatest 1 = .ok (.getfield 19, 3) := by decide +kernel
theorem dX2_removeLatest_4 : decode cX2_removeLatest 4 = .ok (.ifCond .ne 5, 3) := by decide +kernel
theorem dX2_removeLatest_7 : decode cX2_removeLatest 7 = .ok (.iconst (-1), 1) := by decide +kernel
theorem dX2_removeLatest_8 : decode cX2_removeLatest 8 = .ok (.ireturn, 1) := by decide +kernel
theorem dX2_removeLatest_9 : decode cX2_removeLatest 9 = .ok (.aload_n 0, 1) := by decide +kernel
theorem dX2_removeLatest_10 : decode cX2_removeLatest 10 = .ok (.dup, 1) := by decide +kernel
theorem dX2_removeLatest_11 : decode cX2_removeLatest 11 = .ok (.getfield 19, 3) := by decide +kernel
theorem dX2_removeLatest_14 : decode cX2_removeLatest 14 = .ok (.iconst 1, 1) := by decide +kernel
theorem dX2_removeLatest_15 : decode cX2_removeLatest 15 = .ok (.isub, 1) := by decide +kernel
theorem dX2_removeLatest_16 : decode cX2_removeLatest 16 = .ok (.putfield 19, 3) := by decide +kernel
theorem dX2_removeLatest_19 : decode cX2_removeLatest 19 = .ok (.aload_n 0, 1) := by decide +kernel
theorem dX2_removeLatest_20 : decode cX2_removeLatest 20 = .ok (.aload_n 0, 1) := by decide +kernel
theorem dX2_removeLatest_21 : decode cX2_removeLatest 21 = .ok (.getfield 15, 3) := by decide +kernel
theorem dX2_removeLatest_24 : decode cX2_removeLatest 24 = .ok (.bipush 100, 2) := by decide +kernel
theorem dX2_removeLatest_26 : decode cX2_removeLatest 26 = .ok (.iadd, 1) := by decide +kernel
theorem dX2_removeLatest_27 : decode cX2_removeLatest 27 = .ok (.iconst 1, 1) := by decide +kernel
theorem dX2_removeLatest_28 : decode cX2_removeLatest 28 = .ok (.isub, 1) := by decide +kernel
theorem dX2_removeLatest_29 : decode cX2_removeLatest 29 = .ok (.bipush 100, 2) := by decide +kernel
theorem dX2_removeLatest_31 : decode cX2_removeLatest 31 = .ok (.irem, 1) := by decide +kernel
theorem dX2_removeLatest_32 : decode cX2_removeLatest 32 = .ok (.putfield 15, 3) := by decide +kernel
theorem dX2_removeLatest_35 : decode cX2_removeLatest 35 = .ok (.aload_n 0, 1) := by decide +kernel
theorem dX2_removeLatest_36 : decode cX2_removeLatest 36 = .ok (.getfield 11, 3) := by decide +kernel
theorem dX2_removeLatest_39 : decode cX2_removeLatest 39 = .ok (.aload_n 0, 1) := by decide +kernel
theorem dX2_removeLatest_40 : decode cX2_removeLatest 40 = .ok (.getfield 15, 3) := by decide +kernel
theorem dX2_removeLatest_43 : decode cX2_removeLatest 43 = .ok (.iaload, 1) := by decide +kernel
theorem dX2_removeLatest_44 : decode cX2_removeLatest 44 = .ok (.ireturn, 1) := by decide +kernel
theorem dX3_init_0 : decode cX3_init 0 = .ok (.aload_n 0, 1) := by decide +kernel
theorem dX3_init_1 : decode cX3_init 1 = .ok (.invokespecial 7, 3) := by decide +kernel
theorem dX3_init_4 : decode cX3_init 4 = .ok (.aload_n 0, 1) := by decide +kernel
theorem dX3_init_5 : decode cX3_init 5 = .ok (.sipush 500, 3) := by decide +kernel
theorem dX3_init_8 : decode cX3_init 8 = .ok (.newarray .byte, 2) := by decide +kernel
theorem dX3_init_10 : decode cX3_init 10 = .ok (.putfield 13, 3) := by decide +kernel
theorem dX3_init_13 : decode cX3_init 13 = .ok (.aload_n 0, 1) := by decide +kernel
theorem dX3_init_14 : decode cX3_init 14 = .ok (.sipush 500, 3) := by decide +kernel
theorem dX3_init_17 : decode cX3_init 17 = .ok (.newarray .int, 2) := by decide +kernel
theorem dX3_init_19 : decode cX3_init 19 = .ok (.putfield 17, 3) := by decide +kernel
theorem dX3_init_22 : decode cX3_init 22 = .ok (.aload_n 0, 1) := by decide +kernel
theorem dX3_init_23 : decode cX3_init 23 = .ok (.iconst 0, 1) := by decide +kernel
theorem dX3_init_24 : decode cX3_init 24 = .ok (.putfield 21, 3) := by decide +kernel
theorem dX3_init_27 : decode cX3_init 27 = .ok (.aload_n 0, 1) := by decide +kernel
theorem dX3_init_28 : decode cX3_init 28 = .ok (.iconst (-1), 1) := by decide +kernel
theorem dX3_init_29 : decode cX3_init 29 = .ok (.putfield 25, 3) := by decide +kernel
theorem dX3_init_32 : decode cX3_init 32 = .ok (.aload_n 0, 1) := by decide +kernel
theorem dX3_init_33 : decode cX3_init 33 = .ok (.iconst 0, 1) := by decide +kernel
theorem dX3_init_34 : decode cX3_init 34 = .ok (.putfield 28, 3) := by decide +kernel
theorem dX3_init_37 : decode cX3_init 37 = .ok (.aload_n 0, 1) := by decide +kernel
theorem dX3_init_38 : decode cX3_init 38 = .ok (.iconst 0, 1) := by decide +kernel
theorem dX3_init_39 : decode cX3_init 39 = .ok (.putfield 31, 3) := by decide +kernel
theorem dX3_init_42 : decode cX3_init 42 = .ok (.aload_n 0, 1) := by decide +kernel
theorem dX3_init_43 : decode cX3_init 43 = .ok (.iconst 0, 1) := by decide +kernel
theorem dX3_init_44 : decode cX3_init 44 = .ok (.putfield 34, 3) := by decide +kernel
theorem dX3_init_47 : decode cX3_init 47 = .ok (.aload_n 0, 1) := by decide +kernel
theorem dX3_init_48 : decode cX3_init 48 = .ok (.iconst 0, 1) := by decide +kernel
theorem dX3_init_49 : decode cX3_init 49 = .ok (.putfield 37, 3) := by decide +kernel
theorem dX3_init_52 : decode cX3_init 52 = .ok (.aload_n 0, 1) := by decide +kernel
theorem dX3_init_53 : decode cX3_init 53 = .ok (.iconst 0, 1) := by decide +kernel
theorem dX3_init_54 : decode cX3_init 54 = .ok (.putfield 40, 3) := by decide +kernel
theorem dX3_init_57 : decode cX3_init 57 = .ok (.aload_n 0, 1) := by decide +kernel
theorem dX3_init_58 : decode cX3_init 58 = .ok (.iconst 0, 1) := by decide +kernel
theorem dX3_init_59 : decode cX3_init 59 = .ok (.putfield 43, 3) := by decide +kernel
theorem dX3_init_62 : decode cX3_init 62 = .ok (.return_, 1) := by decide +kernel
theorem dX3_hasRoom_0 : decode cX3_hasRoom 0 = .ok (.aload_n 0, 1) := by decide +kernel
theorem dX3_hasRoom_1 : decode cX3_hasRoom 1 = .ok (.getfield 21, 3) := by decide +kernel
theorem dX3_hasRoom_4 : decode cX3_hasRoom 4 = .ok (.iload_n 1, 1) := by decide +kernel
theorem dX3_hasRoom_5 : decode cX3_hasRoom 5 = .ok (.iadd, 1) := by decide +kernel
theorem dX3_hasRoom_6 : decode cX3_hasRoom 6 = .ok (.sipush 500, 3) := by decide +kernel
theorem dX3_hasRoom_9 : decode cX3_hasRoom 9 = .ok (.if_icmp .gt 7, 3) := by decide +kernel
theorem dX3_hasRoom_12 : decode cX3_hasRoom 12 = .ok (.iconst 1, 1) := by decide +kernel
theorem dX3_hasRoom_13 : decode cX3_hasRoom 13 = .ok (.goto 4, 3) := by decide +kernel
theorem dX3_hasRoom_16 : decode cX3_hasRoom 16 = .ok (.iconst 0, 1) := by decide +kernel
theorem dX3_hasRoom_17 : decode cX3_hasRoom 17 = .ok (.ireturn, 1) := by decide +kernel
theorem dX3_put_0 : decode cX3_put 0 = .ok (.aload_n 0, 1) := by decide +kernel
theorem dX3_put_1 : decode cX3_put 1 = .ok (.iconst 4, 1) := by decide +kernel
theorem dX3_put_2 : decode cX3_put 2 = .ok (.invokevirtual 46, 3) := by decide +kernel
theorem dX3_put_5 : decode cX3_put 5 = .ok (.ifCond .ne 4, 3) := by decide +kernel
theorem dX3_put_8 : decode cX3_put 8 = .ok (.return_, 1) := by decide +kernel
theorem dX3_put_9 : decode cX3_put 9 = .ok (.bipush 24, 2) := by decide +kernel
theorem dX3_put_11 : decode cX3_put 11 = .ok (.istore_n 2, 1) := by decide +kernel
theorem dX3_put_12 : decode cX3_put 12 = .ok (.iload_n 2, 1) := by decide +kernel
theorem dX3_put_13 : decode cX3_put 13 = .ok (.ifCond .lt 32, 3) := by decide +kernel
theorem dX3_put_16 : decode cX3_put 16 = .ok (.aload_n 0, 1) := by decide +kernel
theorem dX3_put_17 : decode cX3_put 17 = .ok (.getfield 13, 3) := by decide +kernel
theorem dX3_put_20 : decode cX3_put 20 = .ok (.aload_n 0, 1) := by decide +kernel
theorem dX3_put_21 : decode cX3_put 21 = .ok (.getfield 21, 3) := by decide +kernel
theorem dX3_put_24 : decode cX3_put 24 = .ok (.iload_n 1, 1) := by decide +kernel
theorem dX3_put_25 : decode cX3_put 25 = .ok (.iload_n 2, 1) := by decide +kernel
theorem dX3_put_26 : decode cX3_put 26 = .ok (.iushr, 1) := by decide +kernel
theorem dX3_put_27 : decode cX3_put 27 = .ok (.i2b, 1) := by decide +kernel
theorem dX3_put_28 : decode cX3_put 28 = .ok (.bastore, 1) := by decide +kernel
theorem dX3_put_29 : decode cX3_put 29 = .ok (.aload_n 0, 1) := by decide +kernel
theorem dX3_put_30 : decode cX3_put 30 = .ok (.dup, 1) := by decide +kernel
theorem dX3_put_31 : decode cX3_put 31 = .ok (.getfield 21, 3) := by decide +kernel
theorem dX3_put_34 : decode cX3_put 34 = .ok (.iconst 1, 1) := by decide +kernel
theorem dX3_put_35 : decode cX3_put 35 = .ok (.iadd, 1) := by decide +kernel
theorem dX3_put_36 : decode cX3_put 36 = .ok (.putfield 21, 3) := by decide +kernel
theorem dX3_put_39 : decode cX3_put 39 = .ok (.iinc 2 (-8), 3) := by decide +kernel
theorem dX3_put_42 : decode cX3_put 42 = .ok (.goto (-30), 3) := by decide +kernel
theorem dX3_put_45 : decode cX3_put 45 = .ok (.return_, 1) := by decide +kernel
theorem dX3_read_0 : decode cX3_read 0 = .ok (.aload_n 0, 1) := by decide +kernel
theorem dX3_read_1 : decode cX3_read 1 = .ok (.iload_n 1, 1) := by decide +kernel
theorem dX3_read_2 : decode cX3_read 2 = .ok (.iconst 0, 1) := by decide +kernel
theorem dX3_read_3 : decode cX3_read 3 = .ok (.invokestatic 50, 3) := by decide +kernel
theorem dX3_read_6 : decode cX3_read 6 = .ok (.aload_n 0, 1) := by decide +kernel
theorem dX3_read_7 : decode cX3_read 7 = .ok (.getfield 21, 3) := by decide +kernel
theorem dX3_read_10 : decode cX3_read 10 = .ok (.invokestatic 56, 3) := by decide +kernel
theorem dX3_read_13 : decode cX3_read 13 = .ok (.putfield 31, 3) := by decide +kernel
theorem dX3_read_16 : decode cX3_read 16 = .ok (.aload_n 0, 1) := by decide +kernel
theorem dX3_read_17 : decode cX3_read 17 = .ok (.iconst 0, 1) := by decide +kernel
theorem dX3_read_18 : decode cX3_read 18 = .ok (.putfield 21, 3) := by decide +kernel
theorem dX3_read_21 : decode cX3_read 21 = .ok (.aload_n 0, 1) := by decide +kernel
theorem dX3_read_22 : decode cX3_read 22 = .ok (.iconst 0, 1) := by decide +kernel
theorem dX3_read_23 : decode cX3_read 23 = .ok (.putfield 28, 3) := by decide +kernel
theorem dX3_read_26 : decode cX3_read 26 = .ok (.aload_n 0, 1) := by decide +kernel
theorem dX3_read_27 : decode cX3_read 27 = .ok (.iconst (-1), 1) := by decide +kernel
theorem dX3_read_28 : decode cX3_read 28 = .ok (.putfield 25, 3) := by decide +kernel
theorem dX3_read_31 : decode cX3_read 31 = .ok (.aload_n 0, 1) := by decide +kernel
theorem dX3_read_32 : decode cX3_read 32 = .ok (.iconst 0, 1) := by decide +kernel
theorem dX3_read_33 : decode cX3_read 33 = .ok (.putfield 37, 3) := by decide +kernel
theorem dX3_read_36 : decode cX3_read 36 = .ok (.aload_n 2, 1) := by decide +kernel
theorem dX3_read_37 : decode cX3_read 37 = .ok (.invokevirtual 59, 3) := by decide +kernel
theorem dX3_read_40 : decode cX3_read 40 = .ok (.aload_n 0, 1) := by decide +kernel
theorem dX3_read_41 : decode cX3_read 41 = .ok (.invokevirtual 62, 3) := by decide +kernel
theorem dX3_read_44 : decode cX3_read 44 = .ok (.aload_n 0, 1) := by decide +kernel
theorem dX3_read_45 : decode cX3_read 45 = .ok (.invokevirtual 65, 3) := by decide +kernel
theorem dX3_read_48 : decode cX3_read 48 = .ok (.aload_n 0, 1) := by decide +kernel
theorem dX3_read_49 : decode cX3_read 49 = .ok (.aload_n 2, 1) := by decide +kernel
theorem dX3_read_50 : decode cX3_read 50 = .ok (.invokevirtual 68, 3) := by decide +kernel
theorem dX3_read_53 : decode cX3_read 53 = .ok (.istore_n 3, 1) := by decide +kernel
theorem dX3_read_54 : decode cX3_read 54 = .ok (.iconst 0, 1) := by decide +kernel
theorem dX3_read_55 : decode cX3_read 55 = .ok (.istore 4, 2) := by decide +kernel
theorem dX3_read_57 : decode cX3_read 57 = .ok (.iload_n 3, 1) := by decide +kernel
theorem dX3_read_58 : decode cX3_read 58 = .ok (.ifCond .eq 31, 3) := by decide +kernel
theorem dX3_read_61 : decode cX3_read 61 = .ok (.aload_n 0, 1) := by decide +kernel
theorem dX3_read_62 : decode cX3_read 62 = .ok (.getfield 40, 3) := by decide +kernel
theorem dX3_read_65 : decode cX3_read 65 = .ok (.ifCond .eq 24, 3) := by decide +kernel
theorem dX3_read_68 : decode cX3_read 68 = .ok (.iload 4, 2) := by decide +kernel
theorem dX3_read_70 : decode cX3_read 70 = .ok (.bipush 40, 2) := by decide +kernel
theorem dX3_read_72 : decode cX3_read 72 = .ok (.if_icmp .gt 17, 3) := by decide +kernel
theorem dX3_read_75 : decode cX3_read 75 = .ok (.aload_n 0, 1) := by decide +kernel
theorem dX3_read_76 : decode cX3_read 76 = .ok (.aload_n 2, 1) := by decide +kernel
theorem dX3_read_77 : decode cX3_read 77 = .ok (.iload 4, 2) := by decide +kernel
theorem dX3_read_79 : decode cX3_read 79 = .ok (.invokevirtual 72, 3) := by decide +kernel
theorem dX3_read_82 : decode cX3_read 82 = .ok (.istore_n 3, 1) := by decide +kernel
theorem dX3_read_83 : decode cX3_read 83 = .ok (.iinc 4 1, 3) := by decide +kernel
theorem dX3_read_86 : decode cX3_read 86 = .ok (.goto (-29), 3) := by decide +kernel
theorem dX3_read_89 : decode cX3_read 89 = .ok (.iload_n 3, 1) := by decide +kernel
theorem dX3_read_90 : decode cX3_read 90 = .ok (.ifCond .eq 7, 3) := by decide +kernel
theorem dX3_read_93 : decode cX3_read 93 = .ok (.aload_n 2, 1) := by decide +kernel
theorem dX3_read_94 : decode cX3_read 94 = .ok (.invokevirtual 76, 3) := by decide +kernel
theorem dX3_read_97 : decode cX3_read 97 = .ok (.aload_n 0, 1) := by decide +kernel
theorem dX3_read_98 : decode cX3_read 98 = .ok (.getfield 28, 3) := by decide +kernel
theorem dX3_read_101 : decode cX3_read 101 = .ok (.ireturn, 1) := by decide +kernel
theorem dX3_readHead_0 : decode cX3_readHead 0 = .ok (.aload_n 0, 1) := by decide +kernel
theorem dX3_readHead_1 : decode cX3_readHead 1 = .ok (.ldc 79, 2) := by decide +kernel
theorem dX3_readHead_3 : decode cX3_readHead 3 = .ok (.invokevirtual 81, 3) := by decide +kernel
theorem dX3_readHead_6 : decode cX3_readHead 6 = .ok (.ifCond .eq 37, 3) := by decide +kernel
theorem dX3_readHead_9 : decode cX3_readHead 9 = .ok (.aload_n 0, 1) := by decide +kernel
theorem dX3_readHead_10 : decode cX3_readHead 10 = .ok (.aload_n 1, 1) := by decide +kernel
theorem dX3_readHead_11 : decode cX3_readHead 11 = .ok (.invokevirtual 85, 3) := by decide +kernel
theorem dX3_readHead_14 : decode cX3_readHead 14 = .ok (.ifCond .eq 29, 3) := by decide +kernel
theorem dX3_readHead_17 : decode cX3_readHead 17 = .ok (.aload_n 0, 1) := by decide +kernel
theorem dX3_readHead_18 : decode cX3_readHead 18 = .ok (.invokevirtual 88, 3) := by decide +kernel
theorem dX3_readHead_21 : decode cX3_readHead 21 = .ok (.ifCond .eq 22, 3) := by decide +kernel
theorem dX3_readHead_24 : decode cX3_readHead 24 = .ok (.aload_n 0, 1) := by decide +kernel
theorem dX3_readHead_25 : decode cX3_readHead 25 = .ok (.aload_n 1, 1) := by decide +kernel
theorem dX3_readHead_26 : decode cX3_readHead 26 = .ok (.invokevirtual 92, 3) := by decide +kernel
theorem dX3_readHead_29 : decode cX3_readHead 29 = .ok (.ifCond .eq 14, 3) := by decide +kernel
theorem dX3_readHead_32 : decode cX3_readHead 32 = .ok (.aload_n 0, 1) := by decide +kernel
theorem dX3_readHead_33 : decode cX3_readHead 33 = .ok (.invokevirtual 88, 3) := by decide +kernel
theorem dX3_readHead_36 : decode cX3_readHead 36 = .ok (.ifCond .eq 7, 3) := by decide +kernel
theorem dX3_readHead_39 : decode cX3_readHead 39 = .ok (.iconst 1, 1) := by decide +kernel
theorem dX3_readHead_40 : decode cX3_readHead 40 = .ok (.goto 4, 3) := by decide +kernel
theorem dX3_readHead_43 : decode cX3_readHead 43 = .ok (.iconst 0, 1) := by decide +kernel
theorem dX3_readHead_44 : decode cX3_readHead 44 = .ok (.ireturn, 1) := by decide +kernel
theorem dX3_readColours_0 : decode cX3_readColours 0 = .ok (.aload_n 0, 1) := by decide +kernel
theorem dX3_readColours_1 : decode cX3_readColours 1 = .ok (.getfield 34, 3) := by decide +kernel
theorem dX3_readColours_4 : decode cX3_readColours 4 = .ok (.istore_n 2, 1) := by decide +kernel
theorem dX3_readColours_5 : decode cX3_readColours 5 = .ok (.aload_n 0, 1) := by decide +kernel
theorem dX3_readColours_6 : decode cX3_readColours 6 = .ok (.iconst 2, 1) := by decide +kernel
theorem dX3_readColours_7 : decode cX3_readColours 7 = .ok (.iconst 5, 1) := by decide +kernel
theorem dX3_readColours_8 : decode cX3_readColours 8 = .ok (.iconst 2, 1) := by decide +kernel
theorem dX3_readColours_9 : decode cX3_readColours 9 = .ok (.invokevirtual 95, 3) := by decide +kernel
theorem dX3_readColours_12 : decode cX3_readColours 12 = .ok (.ifCond .ne 5, 3) := by decide +kernel
theorem dX3_readColours_15 : decode cX3_readColours 15 = .ok (.iconst 0, 1) := by decide +kernel
theorem dX3_readColours_16 : decode cX3_readColours 16 = .ok (.ireturn, 1) := by decide +kernel
theorem dX3_readColours_17 : decode cX3_readColours 17 = .ok (.aload_n 0, 1) := by decide +kernel
theorem dX3_readColours_18 : decode cX3_readColours 18 = .ok (.getfield 43, 3) := by decide +kernel
theorem dX3_readColours_21 : decode cX3_readColours 21 = .ok (.iconst 4, 1) := by decide +kernel
theorem dX3_readColours_22 : decode cX3_readColours 22 = .ok (.if_icmp .ne 10, 3) := by decide +kernel
theorem dX3_readColours_25 : decode cX3_readColours 25 = .ok (.aload_n 0, 1) := by decide +kernel
theorem dX3_readColours_26 : decode cX3_readColours 26 = .ok (.iconst 2, 1) := by decide +kernel
theorem dX3_readColours_27 : decode cX3_readColours 27 = .ok (.iload_n 2, 1) := by decide +kernel
theorem dX3_readColours_28 : decode cX3_readColours 28 = .ok (.invokevirtual 99, 3) := by decide +kernel
theorem dX3_readColours_31 : decode cX3_readColours 31 = .ok (.ireturn, 1) := by decide +kernel
theorem dX3_readColours_32 : decode cX3_readColours 32 = .ok (.aload_n 1, 1) := by decide +kernel
theorem dX3_readColours_33 : decode cX3_readColours 33 = .ok (.aload_n 0, 1) := by decide +kernel
theorem dX3_readColours_34 : decode cX3_readColours 34 = .ok (.getfield 43, 3) := by decide +kernel
theorem dX3_readColours_37 : decode cX3_readColours 37 = .ok (.putfield 103, 3) := by decide +kernel
theorem dX3_readColours_40 : decode cX3_readColours 40 = .ok (.iconst 1, 1) := by decide +kernel
theorem dX3_readColours_41 : decode cX3_readColours 41 = .ok (.ireturn, 1) := by decide +kernel
theorem dX3_readKind_0 : decode cX3_readKind 0 = .ok (.aload_n 0, 1) := by decide +kernel
theorem dX3_readKind_1 : decode cX3_readKind 1 = .ok (.ldc 105, 2) := by decide +kernel
theorem dX3_readKind_3 : decode cX3_readKind 3 = .ok (.invokevirtual 107, 3) := by decide +kernel
theorem dX3_readKind_6 : decode cX3_readKind 6 = .ok (.ifCond .eq 30, 3) := by decide +kernel
theorem dX3_readKind_9 : decode cX3_readKind 9 = .ok (.aload_n 0, 1) := by decide +kernel
theorem dX3_readKind_10 : decode cX3_readKind 10 = .ok (.invokevirtual 65, 3) := by decide +kernel
theorem dX3_readKind_13 : decode cX3_readKind 13 = .ok (.aload_n 0, 1) := by decide +kernel
theorem dX3_readKind_14 : decode cX3_readKind 14 = .ok (.iconst 1, 1) := by decide +kernel
theorem dX3_readKind_15 : decode cX3_readKind 15 = .ok (.bipush 36, 2) := by decide +kernel
theorem dX3_readKind_17 : decode cX3_readKind 17 = .ok (.iconst 2, 1) := by decide +kernel
theorem dX3_readKind_18 : decode cX3_readKind 18 = .ok (.invokevirtual 95, 3) := by decide +kernel
theorem dX3_readKind_21 : decode cX3_readKind 21 = .ok (.ifCond .ne 5, 3) := by decide +kernel
theorem dX3_readKind_24 : decode cX3_readKind 24 = .ok (.iconst 0, 1) := by decide +kernel
theorem dX3_readKind_25 : decode cX3_readKind 25 = .ok (.ireturn, 1) := by decide +kernel
theorem dX3_readKind_26 : decode cX3_readKind 26 = .ok (.aload_n 1, 1) := by decide +kernel
theorem dX3_readKind_27 : decode cX3_readKind 27 = .ok (.aload_n 0, 1) := by decide +kernel
theorem dX3_readKind_28 : decode cX3_readKind 28 = .ok (.getfield 43, 3) := by decide +kernel
theorem dX3_readKind_31 : decode cX3_readKind 31 = .ok (.putfield 110, 3) := by decide +kernel
theorem dX3_readKind_34 : decode cX3_readKind 34 = .ok (.iconst 1, 1) := by decide +kernel
theorem dX3_readKind_35 : decode cX3_readKind 35 = .ok (.ireturn, 1) := by decide +kernel
theorem dX3_readKind_36 : decode cX3_readKind 36 = .ok (.aload_n 0, 1) := by decide +kernel
theorem dX3_readKind_37 : decode cX3_readKind 37 = .ok (.ldc 113, 2) := by decide +kernel
theorem dX3_readKind_39 : decode cX3_readKind 39 = .ok (.invokevirtual 81, 3) := by decide +kernel
theorem dX3_readKind_42 : decode cX3_readKind 42 = .ok (.ifCond .eq 23, 3) := by decide +kernel
theorem dX3_readKind_45 : decode cX3_readKind 45 = .ok (.aload_n 0, 1) := by decide +kernel
theorem dX3_readKind_46 : decode cX3_readKind 46 = .ok (.aload_n 1, 1) := by decide +kernel
theorem dX3_readKind_47 : decode cX3_readKind 47 = .ok (.invokevirtual 115, 3) := by decide +kernel
theorem dX3_readKind_50 : decode cX3_readKind 50 = .ok (.ifCond .eq 15, 3) := by decide +kernel
theorem dX3_readKind_53 : decode cX3_readKind 53 = .ok (.aload_n 0, 1) := by decide +kernel
theorem dX3_readKind_54 : decode cX3_readKind 54 = .ok (.aload_n 1, 1) := by decide +kernel
theorem dX3_readKind_55 : decode cX3_readKind 55 = .ok (.invokevirtual 118, 3) := by decide +kernel
theorem dX3_readKind_58 : decode cX3_readKind 58 = .ok (.ifCond .eq 7, 3) := by decide +kernel
theorem dX3_readKind_61 : decode cX3_readKind 61 = .ok (.iconst 1, 1) := by decide +kernel
theorem dX3_readKind_62 : decode cX3_readKind 62 = .ok (.goto 4, 3) := by decide +kernel
theorem dX3_readKind_65 : decode cX3_readKind 65 = .ok (.iconst 0, 1) := by decide +kernel
theorem dX3_readKind_66 : decode cX3_readKind 66 = .ok (.ireturn, 1) := by decide +kernel
theorem dX3_readSides_0 : decode cX3_readSides 0 = .ok (.aload_n 0, 1) := by decide +kernel
theorem dX3_readSides_1 : decode cX3_readSides 1 = .ok (.iconst 1, 1) := by decide +kernel
theorem dX3_readSides_2 : decode cX3_readSides 2 = .ok (.bipush 6, 2) := by decide +kernel
theorem dX3_readSides_4 : decode cX3_readSides 4 = .ok (.iconst 2, 1) := by decide +kernel
theorem dX3_readSides_5 : decode cX3_readSides 5 = .ok (.invokevirtual 95, 3) := by decide +kernel
theorem dX3_readSides_8 : decode cX3_readSides 8 = .ok (.ifCond .ne 5, 3) := by decide +kernel
theorem dX3_readSides_11 : decode cX3_readSides 11 = .ok (.iconst 0, 1) := by decide +kernel
theorem dX3_readSides_12 : decode cX3_readSides 12 = .ok (.ireturn, 1) := by decide +kernel
theorem dX3_readSides_13 : decode cX3_readSides 13 = .ok (.aload_n 1, 1) := by decide +kernel
theorem dX3_readSides_14 : decode cX3_readSides 14 = .ok (.aload_n 0, 1) := by decide +kernel
theorem dX3_readSides_15 : decode cX3_readSides 15 = .ok (.getfield 43, 3) := by decide +kernel
theorem dX3_readSides_18 : decode cX3_readSides 18 = .ok (.putfield 121, 3) := by decide +kernel
theorem dX3_readSides_21 : decode cX3_readSides 21 = .ok (.aload_n 0, 1) := by decide +kernel
theorem dX3_readSides_22 : decode cX3_readSides 22 = .ok (.iconst 1, 1) := by decide +kernel
theorem dX3_readSides_23 : decode cX3_readSides 23 = .ok (.bipush 6, 2) := by decide +kernel
theorem dX3_readSides_25 : decode cX3_readSides 25 = .ok (.iconst 2, 1) := by decide +kernel
theorem dX3_readSides_26 : decode cX3_readSides 26 = .ok (.invokevirtual 95, 3) := by decide +kernel
theorem dX3_readSides_29 : decode cX3_readSides 29 = .ok (.ifCond .ne 5, 3) := by decide +kernel
theorem dX3_readSides_32 : decode cX3_readSides 32 = .ok (.iconst 0, 1) := by decide +kernel
theorem dX3_readSides_33 : decode cX3_readSides 33 = .ok (.ireturn, 1) := by decide +kernel
theorem dX3_readSides_34 : decode cX3_readSides 34 = .ok (.aload_n 1, 1) := by decide +kernel
theorem dX3_readSides_35 : decode cX3_readSides 35 = .ok (.aload_n 0, 1) := by decide +kernel
theorem dX3_readSides_36 : decode cX3_readSides 36 = .ok (.getfield 43, 3) := by decide +kernel
theorem dX3_readSides_39 : decode cX3_readSides 39 = .ok (.putfield 124, 3) := by decide +kernel
theorem dX3_readSides_42 : decode cX3_readSides 42 = .ok (.aload_n 1, 1) := by decide +kernel
theorem dX3_readSides_43 : decode cX3_readSides 43 = .ok (.aload_n 1, 1) := by decide +kernel
theorem dX3_readSides_44 : decode cX3_readSides 44 = .ok (.getfield 121, 3) := by decide +kernel
theorem dX3_readSides_47 : decode cX3_readSides 47 = .ok (.aload_n 1, 1) := by decide +kernel
theorem dX3_readSides_48 : decode cX3_readSides 48 = .ok (.getfield 124, 3) := by decide +kernel
theorem dX3_readSides_51 : decode cX3_readSides 51 = .ok (.imul, 1) := by decide +kernel
theorem dX3_readSides_52 : decode cX3_readSides 52 = .ok (.putfield 110, 3) := by decide +kernel
theorem dX3_readSides_55 : decode cX3_readSides 55 = .ok (.iconst 1, 1) := by decide +kernel
theorem dX3_readSides_56 : decode cX3_readSides 56 = .ok (.ireturn, 1) := by decide +kernel
theorem dX3_readEdges_0 : decode cX3_readEdges 0 = .ok (.aload_n 1, 1) := by decide +kernel
theorem dX3_readEdges_1 : decode cX3_readEdges 1 = .ok (.iconst 0, 1) := by decide +kernel
theorem dX3_readEdges_2 : decode cX3_readEdges 2 = .ok (.putfield 127, 3) := by decide +kernel
theorem dX3_readEdges_5 : decode cX3_readEdges 5 = .ok (.aload_n 0, 1) := by decide +kernel
theorem dX3_readEdges_6 : decode cX3_readEdges 6 = .ok (.ldc 130, 2) := by decide +kernel
theorem dX3_readEdges_8 : decode cX3_readEdges 8 = .ok (.invokevirtual 107, 3) := by decide +kernel
theorem dX3_readEdges_11 : decode cX3_readEdges 11 = .ok (.ifCond .eq 15, 3) := by decide +kernel
theorem dX3_readEdges_14 : decode cX3_readEdges 14 = .ok (.aload_n 1, 1) := by decide +kernel
theorem dX3_readEdges_15 : decode cX3_readEdges 15 = .ok (.iconst 1, 1) := by decide +kernel
theorem dX3_readEdges_16 : decode cX3_readEdges 16 = .ok (.putfield 127, 3) := by decide +kernel
theorem dX3_readEdges_19 : decode cX3_readEdges 19 = .ok (.aload_n 0, 1) := by decide +kernel
theorem dX3_readEdges_20 : decode cX3_readEdges 20 = .ok (.invokevirtual 65, 3) := by decide +kernel
theorem dX3_readEdges_23 : decode cX3_readEdges 23 = .ok (.goto 21, 3) := by decide +kernel
theorem dX3_readEdges_26 : decode cX3_readEdges 26 = .ok (.aload_n 0, 1) := by decide +kernel
theorem dX3_readEdges_27 : decode cX3_readEdges 27 = .ok (.ldc 132, 2) := by decide +kernel
theorem dX3_readEdges_29 : decode cX3_readEdges 29 = .ok (.invokevirtual 107, 3) := by decide +kernel
theorem dX3_readEdges_32 : decode cX3_readEdges 32 = .ok (.ifCond .eq 12, 3) := by decide +kernel
theorem dX3_readEdges_35 : decode cX3_readEdges 35 = .ok (.aload_n 1, 1) := by decide +kernel
theorem dX3_readEdges_36 : decode cX3_readEdges 36 = .ok (.iconst 2, 1) := by decide +kernel
theorem dX3_readEdges_37 : decode cX3_readEdges 37 = .ok (.putfield 127, 3) := by decide +kernel
theorem dX3_readEdges_40 : decode cX3_readEdges 40 = .ok (.aload_n 0, 1) := by decide +kernel
theorem dX3_readEdges_41 : decode cX3_readEdges 41 = .ok (.invokevirtual 65, 3) := by decide +kernel
theorem dX3_readEdges_44 : decode cX3_readEdges 44 = .ok (.iconst 1, 1) := by decide +kernel
theorem dX3_readEdges_45 : decode cX3_readEdges 45 = .ok (.ireturn, 1) := by decide +kernel
theorem dX3_readClause_0 : decode cX3_readClause 0 = .ok (.aload_n 0, 1) := by decide +kernel
theorem dX3_readClause_1 : decode cX3_readClause 1 = .ok (.invokevirtual 134, 3) := by decide +kernel
theorem dX3_readClause_4 : decode cX3_readClause 4 = .ok (.istore_n 3, 1) := by decide +kernel
theorem dX3_readClause_5 : decode cX3_readClause 5 = .ok (.iload_n 3, 1) := by decide +kernel
theorem dX3_readClause_6 : decode cX3_readClause 6 = .ok (.iconst (-1), 1) := by decide +kernel
theorem dX3_readClause_7 : decode cX3_readClause 7 = .ok (.if_icmp .ne 13, 3) := by decide +kernel
theorem dX3_readClause_10 : decode cX3_readClause 10 = .ok (.aload_n 0, 1) := by decide +kernel
theorem dX3_readClause_11 : decode cX3_readClause 11 = .ok (.iconst 1, 1) := by decide +kernel
theorem dX3_readClause_12 : decode cX3_readClause 12 = .ok (.aload_n 0, 1) := by decide +kernel
theorem dX3_readClause_13 : decode cX3_readClause 13 = .ok (.getfield 34, 3) := by decide +kernel
theorem dX3_readClause_16 : decode cX3_readClause 16 = .ok (.invokevirtual 99, 3) := by decide +kernel
theorem dX3_readClause_19 : decode cX3_readClause 19 = .ok (.ireturn, 1) := by decide +kernel
theorem dX3_readClause_20 : decode cX3_readClause 20 = .ok (.iload_n 2, 1) := by decide +kernel
theorem dX3_readClause_21 : decode cX3_readClause 21 = .ok (.bipush 40, 2) := by decide +kernel
theorem dX3_readClause_23 : decode cX3_readClause 23 = .ok (.if_icmp .lt 13, 3) := by decide +kernel
theorem dX3_readClause_26 : decode cX3_readClause 26 = .ok (.aload_n 0, 1) := by decide +kernel
theorem dX3_readClause_27 : decode cX3_readClause 27 = .ok (.iconst 2, 1) := by decide +kernel
theorem dX3_readClause_28 : decode cX3_readClause 28 = .ok (.aload_n 0, 1) := by decide +kernel
theorem dX3_readClause_29 : decode cX3_readClause 29 = .ok (.getfield 34, 3) := by decide +kernel
theorem dX3_readClause_32 : decode cX3_readClause 32 = .ok (.invokevirtual 99, 3) := by decide +kernel
theorem dX3_readClause_35 : decode cX3_readClause 35 = .ok (.ireturn, 1) := by decide +kernel
theorem dX3_readClause_36 : decode cX3_readClause 36 = .ok (.iload_n 3, 1) := by decide +kernel
theorem dX3_readClause_37 : decode cX3_readClause 37 = .ok (.aload_n 1, 1) := by decide +kernel
theorem dX3_readClause_38 : decode cX3_readClause 38 = .ok (.invokevirtual 138, 3) := by decide +kernel
theorem dX3_readClause_41 : decode cX3_readClause 41 = .ok (.invokestatic 141, 3) := by decide +kernel
theorem dX3_readClause_44 : decode cX3_readClause 44 = .ok (.ifCond .ne 13, 3) := by decide +kernel
theorem dX3_readClause_47 : decode cX3_readClause 47 = .ok (.aload_n 0, 1) := by decide +kernel
theorem dX3_readClause_48 : decode cX3_readClause 48 = .ok (.iconst 3, 1) := by decide +kernel
theorem dX3_readClause_49 : decode cX3_readClause 49 = .ok (.aload_n 0, 1) := by decide +kernel
theorem dX3_readClause_50 : decode cX3_readClause 50 = .ok (.getfield 34, 3) := by decide +kernel
theorem dX3_readClause_53 : decode cX3_readClause 53 = .ok (.invokevirtual 99, 3) := by decide +kernel
theorem dX3_readClause_56 : decode cX3_readClause 56 = .ok (.ireturn, 1) := by decide +kernel
theorem dX3_readClause_57 : decode cX3_readClause 57 = .ok (.aload_n 0, 1) := by decide +kernel
theorem dX3_readClause_58 : decode cX3_readClause 58 = .ok (.invokevirtual 65, 3) := by decide +kernel
theorem dX3_readClause_61 : decode cX3_readClause 61 = .ok (.iload_n 3, 1) := by decide +kernel
theorem dX3_readClause_62 : decode cX3_readClause 62 = .ok (.tableswitch 89 6 8 #[26, 47, 68], 26) := by decide +kernel
theorem dX3_readClause_88 : decode cX3_readClause 88 = .ok (.aload_n 0, 1) := by decide +kernel
theorem dX3_readClause_89 : decode cX3_readClause 89 = .ok (.aload_n 1, 1) := by decide +kernel
theorem dX3_readClause_90 : decode cX3_readClause 90 = .ok (.invokevirtual 145, 3) := by decide +kernel
theorem dX3_readClause_93 : decode cX3_readClause 93 = .ok (.ifCond .eq 14, 3) := by decide +kernel
theorem dX3_readClause_96 : decode cX3_readClause 96 = .ok (.aload_n 0, 1) := by decide +kernel
theorem dX3_readClause_97 : decode cX3_readClause 97 = .ok (.invokevirtual 88, 3) := by decide +kernel
theorem dX3_readClause_100 : decode cX3_readClause 100 = .ok (.ifCond .eq 7, 3) := by decide +kernel
theorem dX3_readClause_103 : decode cX3_readClause 103 = .ok (.iconst 1, 1) := by decide +kernel
theorem dX3_readClause_104 : decode cX3_readClause 104 = .ok (.goto 4, 3) := by decide +kernel
theorem dX3_readClause_107 : decode cX3_readClause 107 = .ok (.iconst 0, 1) := by decide +kernel
theorem dX3_readClause_108 : decode cX3_readClause 108 = .ok (.ireturn, 1) := by decide +kernel
theorem dX3_readClause_109 : decode cX3_readClause 109 = .ok (.aload_n 0, 1) := by decide +kernel
theorem dX3_readClause_110 : decode cX3_readClause 110 = .ok (.aload_n 1, 1) := by decide +kernel
theorem dX3_readClause_111 : decode cX3_readClause 111 = .ok (.invokevirtual 148, 3) := by decide +kernel
theorem dX3_readClause_114 : decode cX3_readClause 114 = .ok (.ifCond .eq 14, 3) := by decide +kernel
theorem dX3_readClause_117 : decode cX3_readClause 117 = .ok (.aload_n 0, 1) := by decide +kernel
theorem dX3_readClause_118 : decode cX3_readClause 118 = .ok (.invokevirtual 88, 3) := by decide +kernel
theorem dX3_readClause_121 : decode cX3_readClause 121 = .ok (.ifCond .eq 7, 3) := by decide +kernel
theorem dX3_readClause_124 : decode cX3_readClause 124 = .ok (.iconst 1, 1) := by decide +kernel
theorem dX3_readClause_125 : decode cX3_readClause 125 = .ok (.goto 4, 3) := by decide +kernel
theorem dX3_readClause_128 : decode cX3_readClause 128 = .ok (.iconst 0, 1) := by decide +kernel
theorem dX3_readClause_129 : decode cX3_readClause 129 = .ok (.ireturn, 1) := by decide +kernel
theorem dX3_readClause_130 : decode cX3_readClause 130 = .ok (.aload_n 0, 1) := by decide +kernel
theorem dX3_readClause_131 : decode cX3_readClause 131 = .ok (.aload_n 1, 1) := by decide +kernel
theorem dX3_readClause_132 : decode cX3_readClause 132 = .ok (.invokevirtual 151, 3) := by decide +kernel
theorem dX3_readClause_135 : decode cX3_readClause 135 = .ok (.ifCond .eq 14, 3) := by decide +kernel
theorem dX3_readClause_138 : decode cX3_readClause 138 = .ok (.aload_n 0, 1) := by decide +kernel
theorem dX3_readClause_139 : decode cX3_readClause 139 = .ok (.invokevirtual 88, 3) := by decide +kernel
theorem dX3_readClause_142 : decode cX3_readClause 142 = .ok (.ifCond .eq 7, 3) := by decide +kernel
theorem dX3_readClause_145 : decode cX3_readClause 145 = .ok (.iconst 1, 1) := by decide +kernel
theorem dX3_readClause_146 : decode cX3_readClause 146 = .ok (.goto 4, 3) := by decide +kernel
theorem dX3_readClause_149 : decode cX3_readClause 149 = .ok (.iconst 0, 1) := by decide +kernel
theorem dX3_readClause_150 : decode cX3_readClause 150 = .ok (.ireturn, 1) := by decide +kernel
theorem dX3_readClause_151 : decode cX3_readClause 151 = .ok (.aload_n 0, 1) := by decide +kernel
theorem dX3_readClause_152 : decode cX3_readClause 152 = .ok (.iload_n 3, 1) := by decide +kernel
theorem dX3_readClause_153 : decode cX3_readClause 153 = .ok (.aload_n 1, 1) := by decide +kernel
theorem dX3_readClause_154 : decode cX3_readClause 154 = .ok (.invokevirtual 154, 3) := by decide +kernel
theorem dX3_readClause_157 : decode cX3_readClause 157 = .ok (.ifCond .eq 14, 3) := by decide +kernel
theorem dX3_readClause_160 : decode cX3_readClause 160 = .ok (.aload_n 0, 1) := by decide +kernel
theorem dX3_readClause_161 : decode cX3_readClause 161 = .ok (.invokevirtual 88, 3) := by decide +kernel
theorem dX3_readClause_164 : decode cX3_readClause 164 = .ok (.ifCond .eq 7, 3) := by decide +kernel
theorem dX3_readClause_167 : decode cX3_readClause 167 = .ok (.iconst 1, 1) := by decide +kernel
theorem dX3_readClause_168 : decode cX3_readClause 168 = .ok (.goto 4, 3) := by decide +kernel
theorem dX3_readClause_171 : decode cX3_readClause 171 = .ok (.iconst 0, 1) := by decide +kernel
theorem dX3_readClause_172 : decode cX3_readClause 172 = .ok (.ireturn, 1) := by decide +kernel
theorem dX3_clauseHere_0 : decode cX3_clauseHere 0 = .ok (.aload_n 0, 1) := by decide +kernel
theorem dX3_clauseHere_1 : decode cX3_clauseHere 1 = .ok (.ldc 158, 2) := by decide +kernel
theorem dX3_clauseHere_3 : decode cX3_clauseHere 3 = .ok (.invokevirtual 107, 3) := by decide +kernel
theorem dX3_clauseHere_6 : decode cX3_clauseHere 6 = .ok (.ifCond .eq 5, 3) := by decide +kernel
theorem dX3_clauseHere_9 : decode cX3_clauseHere 9 = .ok (.iconst 0, 1) := by decide +kernel
theorem dX3_clauseHere_10 : decode cX3_clauseHere 10 = .ok (.ireturn, 1) := by decide +kernel
theorem dX3_clauseHere_11 : decode cX3_clauseHere 11 = .ok (.aload_n 0, 1) := by decide +kernel
theorem dX3_clauseHere_12 : decode cX3_clauseHere 12 = .ok (.ldc 160, 2) := by decide +kernel
theorem dX3_clauseHere_14 : decode cX3_clauseHere 14 = .ok (.invokevirtual 107, 3) := by decide +kernel
theorem dX3_clauseHere_17 : decode cX3_clauseHere 17 = .ok (.ifCond .eq 5, 3) := by decide +kernel
theorem dX3_clauseHere_20 : decode cX3_clauseHere 20 = .ok (.iconst 1, 1) := by decide +kernel
theorem dX3_clauseHere_21 : decode cX3_clauseHere 21 = .ok (.ireturn, 1) := by decide +kernel
theorem dX3_clauseHere_22 : decode cX3_clauseHere 22 = .ok (.aload_n 0, 1) := by decide +kernel
theorem dX3_clauseHere_23 : decode cX3_clauseHere 23 = .ok (.ldc 162, 2) := by decide +kernel
theorem dX3_clauseHere_25 : decode cX3_clauseHere 25 = .ok (.invokevirtual 107, 3) := by decide +kernel
theorem dX3_clauseHere_28 : decode cX3_clauseHere 28 = .ok (.ifCond .eq 5, 3) := by decide +kernel
theorem dX3_clauseHere_31 : decode cX3_clauseHere 31 = .ok (.iconst 2, 1) := by decide +kernel
theorem dX3_clauseHere_32 : decode cX3_clauseHere 32 = .ok (.ireturn, 1) := by decide +kernel
theorem dX3_clauseHere_33 : decode cX3_clauseHere 33 = .ok (.aload_n 0, 1) := by decide +kernel
theorem dX3_clauseHere_34 : decode cX3_clauseHere 34 = .ok (.ldc 164, 2) := by decide +kernel
theorem dX3_clauseHere_36 : decode cX3_clauseHere 36 = .ok (.invokevirtual 107, 3) := by decide +kernel
theorem dX3_clauseHere_39 : decode cX3_clauseHere 39 = .ok (.ifCond .eq 5, 3) := by decide +kernel
theorem dX3_clauseHere_42 : decode cX3_clauseHere 42 = .ok (.iconst 3, 1) := by decide +kernel
theorem dX3_clauseHere_43 : decode cX3_clauseHere 43 = .ok (.ireturn, 1) := by decide +kernel
theorem dX3_clauseHere_44 : decode cX3_clauseHere 44 = .ok (.aload_n 0, 1) := by decide +kernel
theorem dX3_clauseHere_45 : decode cX3_clauseHere 45 = .ok (.ldc 166, 2) := by decide +kernel
theorem dX3_clauseHere_47 : decode cX3_clauseHere 47 = .ok (.invokevirtual 107, 3) := by decide +kernel
theorem dX3_clauseHere_50 : decode cX3_clauseHere 50 = .ok (.ifCond .eq 5, 3) := by decide +kernel
theorem dX3_clauseHere_53 : decode cX3_clauseHere 53 = .ok (.iconst 4, 1) := by decide +kernel
theorem dX3_clauseHere_54 : decode cX3_clauseHere 54 = .ok (.ireturn, 1) := by decide +kernel
theorem dX3_clauseHere_55 : decode cX3_clauseHere 55 = .ok (.aload_n 0, 1) := by decide +kernel
theorem dX3_clauseHere_56 : decode cX3_clauseHere 56 = .ok (.ldc 168, 2) := by decide +kernel
theorem dX3_clauseHere_58 : decode cX3_clauseHere 58 = .ok (.invokevirtual 107, 3) := by decide +kernel
theorem dX3_clauseHere_61 : decode cX3_clauseHere 61 = .ok (.ifCond .eq 5, 3) := by decide +kernel
theorem dX3_clauseHere_64 : decode cX3_clauseHere 64 = .ok (.iconst 5, 1) := by decide +kernel
theorem dX3_clauseHere_65 : decode cX3_clauseHere 65 = .ok (.ireturn, 1) := by decide +kernel
theorem dX3_clauseHere_66 : decode cX3_clauseHere 66 = .ok (.aload_n 0, 1) := by decide +kernel
theorem dX3_clauseHere_67 : decode cX3_clauseHere 67 = .ok (.ldc 170, 2) := by decide +kernel
theorem dX3_clauseHere_69 : decode cX3_clauseHere 69 = .ok (.invokevirtual 107, 3) := by decide +kernel
theorem dX3_clauseHere_72 : decode cX3_clauseHere 72 = .ok (.ifCond .eq 6, 3) := by decide +kernel
theorem dX3_clauseHere_75 : decode cX3_clauseHere 75 = .ok (.bipush 6, 2) := by decide +kernel
theorem dX3_clauseHere_77 : decode cX3_clauseHere 77 = .ok (.ireturn, 1) := by decide +kernel
theorem dX3_clauseHere_78 : decode cX3_clauseHere 78 = .ok (.aload_n 0, 1) := by decide +kernel
theorem dX3_clauseHere_79 : decode cX3_clauseHere 79 = .ok (.ldc 172, 2) := by decide +kernel
theorem dX3_clauseHere_81 : decode cX3_clauseHere 81 = .ok (.invokevirtual 107, 3) := by decide +kernel
theorem dX3_clauseHere_84 : decode cX3_clauseHere 84 = .ok (.ifCond .eq 6, 3) := by decide +kernel
theorem dX3_clauseHere_87 : decode cX3_clauseHere 87 = .ok (.bipush 7, 2) := by decide +kernel
theorem dX3_clauseHere_89 : decode cX3_clauseHere 89 = .ok (.ireturn, 1) := by decide +kernel
theorem dX3_clauseHere_90 : decode cX3_clauseHere 90 = .ok (.aload_n 0, 1) := by decide +kernel
theorem dX3_clauseHere_91 : decode cX3_clauseHere 91 = .ok (.ldc 174, 2) := by decide +kernel
theorem dX3_clauseHere_93 : decode cX3_clauseHere 93 = .ok (.invokevirtual 107, 3) := by decide +kernel
theorem dX3_clauseHere_96 : decode cX3_clauseHere 96 = .ok (.ifCond .eq 8, 3) := by decide +kernel
theorem dX3_clauseHere_99 : decode cX3_clauseHere 99 = .ok (.bipush 8, 2) := by decide +kernel
theorem dX3_clauseHere_101 : decode cX3_clauseHere 101 = .ok (.goto 4, 3) := by decide +kernel
theorem dX3_clauseHere_104 : decode cX3_clauseHere 104 = .ok (.iconst (-1), 1) := by decide +kernel
theorem dX3_clauseHere_105 : decode cX3_clauseHere 105 = .ok (.ireturn, 1) := by decide +kernel
theorem dX3_suits_0 : decode cX3_suits 0 = .ok (.iload_n 0, 1) := by decide +kernel
theorem dX3_suits_1 : decode cX3_suits 1 = .ok (.bipush 6, 2) := by decide +kernel
theorem dX3_suits_3 : decode cX3_suits 3 = .ok (.if_icmp .ne 5, 3) := by decide +kernel
theorem dX3_suits_6 : decode cX3_suits 6 = .ok (.iload_n 1, 1) := by decide +kernel
theorem dX3_suits_7 : decode cX3_suits 7 = .ok (.ireturn, 1) := by decide +kernel
theorem dX3_suits_8 : decode cX3_suits 8 = .ok (.iload_n 1, 1) := by decide +kernel
theorem dX3_suits_9 : decode cX3_suits 9 = .ok (.ifCond .eq 14, 3) := by decide +kernel
theorem dX3_suits_12 : decode cX3_suits 12 = .ok (.iload_n 0, 1) := by decide +kernel
theorem dX3_suits_13 : decode cX3_suits 13 = .ok (.iconst 1, 1) := by decide +kernel
theorem dX3_suits_14 : decode cX3_suits 14 = .ok (.if_icmp .le 9, 3) := by decide +kernel
theorem dX3_suits_17 : decode cX3_suits 17 = .ok (.iload_n 0, 1) := by decide +kernel
theorem dX3_suits_18 : decode cX3_suits 18 = .ok (.bipush 6, 2) := by decide +kernel
theorem dX3_suits_20 : decode cX3_suits 20 = .ok (.if_icmp .le 7, 3) := by decide +kernel
theorem dX3_suits_23 : decode cX3_suits 23 = .ok (.iconst 1, 1) := by decide +kernel
theorem dX3_suits_24 : decode cX3_suits 24 = .ok (.goto 4, 3) := by decide +kernel
theorem dX3_suits_27 : decode cX3_suits 27 = .ok (.iconst 0, 1) := by decide +kernel
theorem dX3_suits_28 : decode cX3_suits 28 = .ok (.ireturn, 1) := by decide +kernel
theorem dX3_readShape_0 : decode cX3_readShape 0 = .ok (.aload_n 0, 1) := by decide +kernel
theorem dX3_readShape_1 : decode cX3_readShape 1 = .ok (.aload_n 2, 1) := by decide +kernel
theorem dX3_readShape_2 : decode cX3_readShape 2 = .ok (.invokevirtual 176, 3) := by decide +kernel
theorem dX3_readShape_5 : decode cX3_readShape 5 = .ok (.ifCond .ne 5, 3) := by decide +kernel
theorem dX3_readShape_8 : decode cX3_readShape 8 = .ok (.iconst 0, 1) := by decide +kernel
theorem dX3_readShape_9 : decode cX3_readShape 9 = .ok (.ireturn, 1) := by decide +kernel
theorem dX3_readShape_10 : decode cX3_readShape 10 = .ok (.aload_n 2, 1) := by decide +kernel
theorem dX3_readShape_11 : decode cX3_readShape 11 = .ok (.iload_n 1, 1) := by decide +kernel
theorem dX3_readShape_12 : decode cX3_readShape 12 = .ok (.aload_n 0, 1) := by decide +kernel
theorem dX3_readShape_13 : decode cX3_readShape 13 = .ok (.getfield 43, 3) := by decide +kernel
theorem dX3_readShape_16 : decode cX3_readShape 16 = .ok (.invokevirtual 179, 3) := by decide +kernel
theorem dX3_readShape_19 : decode cX3_readShape 19 = .ok (.iconst 1, 1) := by decide +kernel
theorem dX3_readShape_20 : decode cX3_readShape 20 = .ok (.ireturn, 1) := by decide +kernel
theorem dX3_readWire_0 : decode cX3_readWire 0 = .ok (.aload_n 0, 1) := by decide +kernel
theorem dX3_readWire_1 : decode cX3_readWire 1 = .ok (.aload_n 1, 1) := by decide +kernel
theorem dX3_readWire_2 : decode cX3_readWire 2 = .ok (.invokevirtual 183, 3) := by decide +kernel
theorem dX3_readWire_5 : decode cX3_readWire 5 = .ok (.ifCond .ne 5, 3) := by decide +kernel
theorem dX3_readWire_8 : decode cX3_readWire 8 = .ok (.iconst 0, 1) := by decide +kernel
theorem dX3_readWire_9 : decode cX3_readWire 9 = .ok (.ireturn, 1) := by decide +kernel
theorem dX3_readWire_10 : decode cX3_readWire 10 = .ok (.aload_n 0, 1) := by decide +kernel
theorem dX3_readWire_11 : decode cX3_readWire 11 = .ok (.getfield 43, 3) := by decide +kernel
theorem dX3_readWire_14 : decode cX3_readWire 14 = .ok (.istore_n 2, 1) := by decide +kernel
theorem dX3_readWire_15 : decode cX3_readWire 15 = .ok (.aload_n 0, 1) := by decide +kernel
theorem dX3_readWire_16 : decode cX3_readWire 16 = .ok (.getfield 34, 3) := by decide +kernel
theorem dX3_readWire_19 : decode cX3_readWire 19 = .ok (.istore_n 3, 1) := by decide +kernel
theorem dX3_readWire_20 : decode cX3_readWire 20 = .ok (.aload_n 0, 1) := by decide +kernel
theorem dX3_readWire_21 : decode cX3_readWire 21 = .ok (.aload_n 1, 1) := by decide +kernel
theorem dX3_readWire_22 : decode cX3_readWire 22 = .ok (.invokevirtual 183, 3) := by decide +kernel
theorem dX3_readWire_25 : decode cX3_readWire 25 = .ok (.ifCond .ne 5, 3) := by decide +kernel
theorem dX3_readWire_28 : decode cX3_readWire 28 = .ok (.iconst 0, 1) := by decide +kernel
theorem dX3_readWire_29 : decode cX3_readWire 29 = .ok (.ireturn, 1) := by decide +kernel
theorem dX3_readWire_30 : decode cX3_readWire 30 = .ok (.aload_n 0, 1) := by decide +kernel
theorem dX3_readWire_31 : decode cX3_readWire 31 = .ok (.getfield 43, 3) := by decide +kernel
theorem dX3_readWire_34 : decode cX3_readWire 34 = .ok (.iload_n 2, 1) := by decide +kernel
theorem dX3_readWire_35 : decode cX3_readWire 35 = .ok (.if_icmp .ne 10, 3) := by decide +kernel
theorem dX3_readWire_38 : decode cX3_readWire 38 = .ok (.aload_n 0, 1) := by decide +kernel
theorem dX3_readWire_39 : decode cX3_readWire 39 = .ok (.iconst 5, 1) := by decide +kernel
theorem dX3_readWire_40 : decode cX3_readWire 40 = .ok (.iload_n 3, 1) := by decide +kernel
theorem dX3_readWire_41 : decode cX3_readWire 41 = .ok (.invokevirtual 99, 3) := by decide +kernel
theorem dX3_readWire_44 : decode cX3_readWire 44 = .ok (.ireturn, 1) := by decide +kernel
theorem dX3_readWire_45 : decode cX3_readWire 45 = .ok (.aload_n 1, 1) := by decide +kernel
theorem dX3_readWire_46 : decode cX3_readWire 46 = .ok (.iload_n 2, 1) := by decide +kernel
theorem dX3_readWire_47 : decode cX3_readWire 47 = .ok (.aload_n 0, 1) := by decide +kernel
theorem dX3_readWire_48 : decode cX3_readWire 48 = .ok (.getfield 43, 3) := by decide +kernel
theorem dX3_readWire_51 : decode cX3_readWire 51 = .ok (.invokevirtual 186, 3) := by decide +kernel
theorem dX3_readWire_54 : decode cX3_readWire 54 = .ok (.iconst 1, 1) := by decide +kernel
theorem dX3_readWire_55 : decode cX3_readWire 55 = .ok (.ireturn, 1) := by decide +kernel
theorem dX3_readButton_0 : decode cX3_readButton 0 = .ok (.aload_n 0, 1) := by decide +kernel
theorem dX3_readButton_1 : decode cX3_readButton 1 = .ok (.aload_n 1, 1) := by decide +kernel
theorem dX3_readButton_2 : decode cX3_readButton 2 = .ok (.invokevirtual 183, 3) := by decide +kernel
theorem dX3_readButton_5 : decode cX3_readButton 5 = .ok (.ifCond .ne 5, 3) := by decide +kernel
theorem dX3_readButton_8 : decode cX3_readButton 8 = .ok (.iconst 0, 1) := by decide +kernel
theorem dX3_readButton_9 : decode cX3_readButton 9 = .ok (.ireturn, 1) := by decide +kernel
theorem dX3_readButton_10 : decode cX3_readButton 10 = .ok (.aload_n 0, 1) := by decide +kernel
theorem dX3_readButton_11 : decode cX3_readButton 11 = .ok (.getfield 43, 3) := by decide +kernel
theorem dX3_readButton_14 : decode cX3_readButton 14 = .ok (.istore_n 2, 1) := by decide +kernel
theorem dX3_readButton_15 : decode cX3_readButton 15 = .ok (.aload_n 0, 1) := by decide +kernel
theorem dX3_readButton_16 : decode cX3_readButton 16 = .ok (.ldc 189, 2) := by decide +kernel
theorem dX3_readButton_18 : decode cX3_readButton 18 = .ok (.invokevirtual 81, 3) := by decide +kernel
theorem dX3_readButton_21 : decode cX3_readButton 21 = .ok (.ifCond .eq 11, 3) := by decide +kernel
theorem dX3_readButton_24 : decode cX3_readButton 24 = .ok (.aload_n 0, 1) := by decide +kernel
theorem dX3_readButton_25 : decode cX3_readButton 25 = .ok (.aload_n 1, 1) := by decide +kernel
theorem dX3_readButton_26 : decode cX3_readButton 26 = .ok (.invokevirtual 183, 3) := by decide +kernel
theorem dX3_readButton_29 : decode cX3_readButton 29 = .ok (.ifCond .ne 5, 3) := by decide +kernel
theorem dX3_readButton_32 : decode cX3_readButton 32 = .ok (.iconst 0, 1) := by decide +kernel
theorem dX3_readButton_33 : decode cX3_readButton 33 = .ok (.ireturn, 1) := by decide +kernel
theorem dX3_readButton_34 : decode cX3_readButton 34 = .ok (.aload_n 0, 1) := by decide +kernel
theorem dX3_readButton_35 : decode cX3_readButton 35 = .ok (.getfield 43, 3) := by decide +kernel
theorem dX3_readButton_38 : decode cX3_readButton 38 = .ok (.istore_n 3, 1) := by decide +kernel
theorem dX3_readButton_39 : decode cX3_readButton 39 = .ok (.aload_n 0, 1) := by decide +kernel
theorem dX3_readButton_40 : decode cX3_readButton 40 = .ok (.aload_n 1, 1) := by decide +kernel
theorem dX3_readButton_41 : decode cX3_readButton 41 = .ok (.invokevirtual 176, 3) := by decide +kernel
theorem dX3_readButton_44 : decode cX3_readButton 44 = .ok (.ifCond .ne 5, 3) := by decide +kernel
theorem dX3_readButton_47 : decode cX3_readButton 47 = .ok (.iconst 0, 1) := by decide +kernel
theorem dX3_readButton_48 : decode cX3_readButton 48 = .ok (.ireturn, 1) := by decide +kernel
theorem dX3_readButton_49 : decode cX3_readButton 49 = .ok (.aload_n 1, 1) := by decide +kernel
theorem dX3_readButton_50 : decode cX3_readButton 50 = .ok (.iload_n 2, 1) := by decide +kernel
theorem dX3_readButton_51 : decode cX3_readButton 51 = .ok (.iload_n 3, 1) := by decide +kernel
theorem dX3_readButton_52 : decode cX3_readButton 52 = .ok (.aload_n 0, 1) := by decide +kernel
theorem dX3_readButton_53 : decode cX3_readButton 53 = .ok (.getfield 43, 3) := by decide +kernel
theorem dX3_readButton_56 : decode cX3_readButton 56 = .ok (.invokevirtual 191, 3) := by decide +kernel
theorem dX3_readButton_59 : decode cX3_readButton 59 = .ok (.iconst 1, 1) := by decide +kernel
theorem dX3_readButton_60 : decode cX3_readButton 60 = .ok (.ireturn, 1) := by decide +kernel
theorem dX3_readJam_0 : decode cX3_readJam 0 = .ok (.aload_n 0, 1) := by decide +kernel
theorem dX3_readJam_1 : decode cX3_readJam 1 = .ok (.aload_n 1, 1) := by decide +kernel
theorem dX3_readJam_2 : decode cX3_readJam 2 = .ok (.invokevirtual 183, 3) := by decide +kernel
theorem dX3_readJam_5 : decode cX3_readJam 5 = .ok (.ifCond .ne 5, 3) := by decide +kernel
theorem dX3_readJam_8 : decode cX3_readJam 8 = .ok (.iconst 0, 1) := by decide +kernel
theorem dX3_readJam_9 : decode cX3_readJam 9 = .ok (.ireturn, 1) := by decide +kernel
theorem dX3_readJam_10 : decode cX3_readJam 10 = .ok (.aload_n 1, 1) := by decide +kernel
theorem dX3_readJam_11 : decode cX3_readJam 11 = .ok (.getfield 195, 3) := by decide +kernel
theorem dX3_readJam_14 : decode cX3_readJam 14 = .ok (.aload_n 0, 1) := by decide +kernel
theorem dX3_readJam_15 : decode cX3_readJam 15 = .ok (.getfield 43, 3) := by decide +kernel
theorem dX3_readJam_18 : decode cX3_readJam 18 = .ok (.iconst 1, 1) := by decide +kernel
theorem dX3_readJam_19 : decode cX3_readJam 19 = .ok (.bastore, 1) := by decide +kernel
theorem dX3_readJam_20 : decode cX3_readJam 20 = .ok (.iconst 1, 1) := by decide +kernel
theorem dX3_readJam_21 : decode cX3_readJam 21 = .ok (.ireturn, 1) := by decide +kernel
theorem dX3_readLamp_0 : decode cX3_readLamp 0 = .ok (.aload_n 0, 1) := by decide +kernel
theorem dX3_readLamp_1 : decode cX3_readLamp 1 = .ok (.iconst 0, 1) := by decide +kernel
theorem dX3_readLamp_2 : decode cX3_readLamp 2 = .ok (.aload_n 1, 1) := by decide +kernel
theorem dX3_readLamp_3 : decode cX3_readLamp 3 = .ok (.getfield 110, 3) := by decide +kernel
theorem dX3_readLamp_6 : decode cX3_readLamp 6 = .ok (.iconst 1, 1) := by decide +kernel
theorem dX3_readLamp_7 : decode cX3_readLamp 7 = .ok (.isub, 1) := by decide +kernel
theorem dX3_readLamp_8 : decode cX3_readLamp 8 = .ok (.iconst 4, 1) := by decide +kernel
theorem dX3_readLamp_9 : decode cX3_readLamp 9 = .ok (.invokevirtual 95, 3) := by decide +kernel
theorem dX3_readLamp_12 : decode cX3_readLamp 12 = .ok (.ireturn, 1) := by decide +kernel
theorem dX3_readBy_0 : decode cX3_readBy 0 = .ok (.aload_n 0, 1) := by decide +kernel
theorem dX3_readBy_1 : decode cX3_readBy 1 = .ok (.ldc 199, 2) := by decide +kernel
theorem dX3_readBy_3 : decode cX3_readBy 3 = .ok (.invokevirtual 107, 3) := by decide +kernel
theorem dX3_readBy_6 : decode cX3_readBy 6 = .ok (.ifCond .eq 20, 3) := by decide +kernel
theorem dX3_readBy_9 : decode cX3_readBy 9 = .ok (.aload_n 0, 1) := by decide +kernel
theorem dX3_readBy_10 : decode cX3_readBy 10 = .ok (.invokevirtual 65, 3) := by decide +kernel
theorem dX3_readBy_13 : decode cX3_readBy 13 = .ok (.aload_n 0, 1) := by decide +kernel
theorem dX3_readBy_14 : decode cX3_readBy 14 = .ok (.iconst 1, 1) := by decide +kernel
theorem dX3_readBy_15 : decode cX3_readBy 15 = .ok (.aload_n 1, 1) := by decide +kernel
theorem dX3_readBy_16 : decode cX3_readBy 16 = .ok (.getfield 103, 3) := by decide +kernel
theorem dX3_readBy_19 : decode cX3_readBy 19 = .ok (.iconst 1, 1) := by decide +kernel
theorem dX3_readBy_20 : decode cX3_readBy 20 = .ok (.isub, 1) := by decide +kernel
theorem dX3_readBy_21 : decode cX3_readBy 21 = .ok (.iconst 2, 1) := by decide +kernel
theorem dX3_readBy_22 : decode cX3_readBy 22 = .ok (.invokevirtual 95, 3) := by decide +kernel
theorem dX3_readBy_25 : decode cX3_readBy 25 = .ok (.ireturn, 1) := by decide +kernel
theorem dX3_readBy_26 : decode cX3_readBy 26 = .ok (.aload_n 0, 1) := by decide +kernel
theorem dX3_readBy_27 : decode cX3_readBy 27 = .ok (.iconst 1, 1) := by decide +kernel
theorem dX3_readBy_28 : decode cX3_readBy 28 = .ok (.putfield 43, 3) := by decide +kernel
theorem dX3_readBy_31 : decode cX3_readBy 31 = .ok (.iconst 1, 1) := by decide +kernel
theorem dX3_readBy_32 : decode cX3_readBy 32 = .ok (.ireturn, 1) := by decide +kernel
theorem dX3_readWord_0 : decode cX3_readWord 0 = .ok (.aload_n 0, 1) := by decide +kernel
theorem dX3_readWord_1 : decode cX3_readWord 1 = .ok (.aload_n 1, 1) := by decide +kernel
theorem dX3_readWord_2 : decode cX3_readWord 2 = .ok (.invokevirtual 107, 3) := by decide +kernel
theorem dX3_readWord_5 : decode cX3_readWord 5 = .ok (.ifCond .ne 13, 3) := by decide +kernel
theorem dX3_readWord_8 : decode cX3_readWord 8 = .ok (.aload_n 0, 1) := by decide +kernel
theorem dX3_readWord_9 : decode cX3_readWord 9 = .ok (.iconst 1, 1) := by decide +kernel
theorem dX3_readWord_10 : decode cX3_readWord 10 = .ok (.aload_n 0, 1) := by decide +kernel
theorem dX3_readWord_11 : decode cX3_readWord 11 = .ok (.getfield 34, 3) := by decide +kernel
theorem dX3_readWord_14 : decode cX3_readWord 14 = .ok (.invokevirtual 99, 3) := by decide +kernel
theorem dX3_readWord_17 : decode cX3_readWord 17 = .ok (.ireturn, 1) := by decide +kernel
theorem dX3_readWord_18 : decode cX3_readWord 18 = .ok (.aload_n 0, 1) := by decide +kernel
theorem dX3_readWord_19 : decode cX3_readWord 19 = .ok (.invokevirtual 65, 3) := by decide +kernel
theorem dX3_readWord_22 : decode cX3_readWord 22 = .ok (.iconst 1, 1) := by decide +kernel
theorem dX3_readWord_23 : decode cX3_readWord 23 = .ok (.ireturn, 1) := by decide +kernel
theorem dX3_readSign_0 : decode cX3_readSign 0 = .ok (.aload_n 0, 1) := by decide +kernel
theorem dX3_readSign_1 : decode cX3_readSign 1 = .ok (.getfield 40, 3) := by decide +kernel
theorem dX3_readSign_4 : decode cX3_readSign 4 = .ok (.iconst 3, 1) := by decide +kernel
theorem dX3_readSign_5 : decode cX3_readSign 5 = .ok (.if_icmp .eq 13, 3) := by decide +kernel
theorem dX3_readSign_8 : decode cX3_readSign 8 = .ok (.aload_n 0, 1) := by decide +kernel
theorem dX3_readSign_9 : decode cX3_readSign 9 = .ok (.iconst 1, 1) := by decide +kernel
theorem dX3_readSign_10 : decode cX3_readSign 10 = .ok (.aload_n 0, 1) := by decide +kernel
theorem dX3_readSign_11 : decode cX3_readSign 11 = .ok (.getfield 34, 3) := by decide +kernel
theorem dX3_readSign_14 : decode cX3_readSign 14 = .ok (.invokevirtual 99, 3) := by decide +kernel
theorem dX3_readSign_17 : decode cX3_readSign 17 = .ok (.ireturn, 1) := by decide +kernel
theorem dX3_readSign_18 : decode cX3_readSign 18 = .ok (.aload_n 0, 1) := by decide +kernel
theorem dX3_readSign_19 : decode cX3_readSign 19 = .ok (.invokevirtual 65, 3) := by decide +kernel
theorem dX3_readSign_22 : decode cX3_readSign 22 = .ok (.iconst 1, 1) := by decide +kernel
theorem dX3_readSign_23 : decode cX3_readSign 23 = .ok (.ireturn, 1) := by decide +kernel
theorem dX3_readNumber_0 : decode cX3_readNumber 0 = .ok (.aload_n 0, 1) := by decide +kernel
theorem dX3_readNumber_1 : decode cX3_readNumber 1 = .ok (.getfield 40, 3) := by decide +kernel
theorem dX3_readNumber_4 : decode cX3_readNumber 4 = .ok (.iconst 2, 1) := by decide +kernel
theorem dX3_readNumber_5 : decode cX3_readNumber 5 = .ok (.if_icmp .eq 13, 3) := by decide +kernel
theorem dX3_readNumber_8 : decode cX3_readNumber 8 = .ok (.aload_n 0, 1) := by decide +kernel
theorem dX3_readNumber_9 : decode cX3_readNumber 9 = .ok (.iconst 1, 1) := by decide +kernel
theorem dX3_readNumber_10 : decode cX3_readNumber 10 = .ok (.aload_n 0, 1) := by decide +kernel
theorem dX3_readNumber_11 : decode cX3_readNumber 11 = .ok (.getfield 34, 3) := by decide +kernel
theorem dX3_readNumber_14 : decode cX3_readNumber 14 = .ok (.invokevirtual 99, 3) := by decide +kernel
theorem dX3_readNumber_17 : decode cX3_readNumber 17 = .ok (.ireturn, 1) := by decide +kernel
theorem dX3_readNumber_18 : decode cX3_readNumber 18 = .ok (.aload_n 0, 1) := by decide +kernel
theorem dX3_readNumber_19 : decode cX3_readNumber 19 = .ok (.getfield 37, 3) := by decide +kernel
theorem dX3_readNumber_22 : decode cX3_readNumber 22 = .ok (.aload_n 0, 1) := by decide +kernel
theorem dX3_readNumber_23 : decode cX3_readNumber 23 = .ok (.getfield 34, 3) := by decide +kernel
theorem dX3_readNumber_26 : decode cX3_readNumber 26 = .ok (.isub, 1) := by decide +kernel
theorem dX3_readNumber_27 : decode cX3_readNumber 27 = .ok (.iconst 3, 1) := by decide +kernel
theorem dX3_readNumber_28 : decode cX3_readNumber 28 = .ok (.if_icmp .le 13, 3) := by decide +kernel
theorem dX3_readNumber_31 : decode cX3_readNumber 31 = .ok (.aload_n 0, 1) := by decide +kernel
theorem dX3_readNumber_32 : decode cX3_readNumber 32 = .ok (.iconst 2, 1) := by decide +kernel
theorem dX3_readNumber_33 : decode cX3_readNumber 33 = .ok (.aload_n 0, 1) := by decide +kernel
theorem dX3_readNumber_34 : decode cX3_readNumber 34 = .ok (.getfield 34, 3) := by decide +kernel
theorem dX3_readNumber_37 : decode cX3_readNumber 37 = .ok (.invokevirtual 99, 3) := by decide +kernel
theorem dX3_readNumber_40 : decode cX3_readNumber 40 = .ok (.ireturn, 1) := by decide +kernel
theorem dX3_readNumber_41 : decode cX3_readNumber 41 = .ok (.iconst 0, 1) := by decide +kernel
theorem dX3_readNumber_42 : decode cX3_readNumber 42 = .ok (.istore 4, 2) := by decide +kernel
theorem dX3_readNumber_44 : decode cX3_readNumber 44 = .ok (.aload_n 0, 1) := by decide +kernel
theorem dX3_readNumber_45 : decode cX3_readNumber 45 = .ok (.getfield 34, 3) := by decide +kernel
theorem dX3_readNumber_48 : decode cX3_readNumber 48 = .ok (.istore 5, 2) := by decide +kernel
theorem dX3_readNumber_50 : decode cX3_readNumber 50 = .ok (.iload 5, 2) := by decide +kernel
theorem dX3_readNumber_52 : decode cX3_readNumber 52 = .ok (.aload_n 0, 1) := by decide +kernel
theorem dX3_readNumber_53 : decode cX3_readNumber 53 = .ok (.getfield 37, 3) := by decide +kernel
theorem dX3_readNumber_56 : decode cX3_readNumber 56 = .ok (.if_icmp .ge 27, 3) := by decide +kernel
theorem dX3_readNumber_59 : decode cX3_readNumber 59 = .ok (.iload 4, 2) := by decide +kernel
theorem dX3_readNumber_61 : decode cX3_readNumber 61 = .ok (.bipush 10, 2) := by decide +kernel
theorem dX3_readNumber_63 : decode cX3_readNumber 63 = .ok (.imul, 1) := by decide +kernel
theorem dX3_readNumber_64 : decode cX3_readNumber 64 = .ok (.aload_n 0, 1) := by decide +kernel
theorem dX3_readNumber_65 : decode cX3_readNumber 65 = .ok (.getfield 13, 3) := by decide +kernel
theorem dX3_readNumber_68 : decode cX3_readNumber 68 = .ok (.iload 5, 2) := by decide +kernel
theorem dX3_readNumber_70 : decode cX3_readNumber 70 = .ok (.baload, 1) := by decide +kernel
theorem dX3_readNumber_71 : decode cX3_readNumber 71 = .ok (.iadd, 1) := by decide +kernel
theorem dX3_readNumber_72 : decode cX3_readNumber 72 = .ok (.bipush 48, 2) := by decide +kernel
theorem dX3_readNumber_74 : decode cX3_readNumber 74 = .ok (.isub, 1) := by decide +kernel
theorem dX3_readNumber_75 : decode cX3_readNumber 75 = .ok (.istore 4, 2) := by decide +kernel
theorem dX3_readNumber_77 : decode cX3_readNumber 77 = .ok (.iinc 5 1, 3) := by decide +kernel
theorem dX3_readNumber_80 : decode cX3_readNumber 80 = .ok (.goto (-30), 3) := by decide +kernel
theorem dX3_readNumber_83 : decode cX3_readNumber 83 = .ok (.iload 4, 2) := by decide +kernel
theorem dX3_readNumber_85 : decode cX3_readNumber 85 = .ok (.iload_n 1, 1) := by decide +kernel
theorem dX3_readNumber_86 : decode cX3_readNumber 86 = .ok (.if_icmp .lt 9, 3) := by decide +kernel
theorem dX3_readNumber_89 : decode cX3_readNumber 89 = .ok (.iload 4, 2) := by decide +kernel
theorem dX3_readNumber_91 : decode cX3_readNumber 91 = .ok (.iload_n 2, 1) := by decide +kernel
theorem dX3_readNumber_92 : decode cX3_readNumber 92 = .ok (.if_icmp .le 13, 3) := by decide +kernel
theorem dX3_readNumber_95 : decode cX3_readNumber 95 = .ok (.aload_n 0, 1) := by decide +kernel
theorem dX3_readNumber_96 : decode cX3_readNumber 96 = .ok (.iload_n 3, 1) := by decide +kernel
theorem dX3_readNumber_97 : decode cX3_readNumber 97 = .ok (.aload_n 0, 1) := by decide +kernel
theorem dX3_readNumber_98 : decode cX3_readNumber 98 = .ok (.getfield 34, 3) := by decide +kernel
theorem dX3_readNumber_101 : decode cX3_readNumber 101 = .ok (.invokevirtual 99, 3) := by decide +kernel
theorem dX3_readNumber_104 : decode cX3_readNumber 104 = .ok (.ireturn, 1) := by decide +kernel
theorem dX3_readNumber_105 : decode cX3_readNumber 105 = .ok (.aload_n 0, 1) := by decide +kernel
theorem dX3_readNumber_106 : decode cX3_readNumber 106 = .ok (.iload 4, 2) := by decide +kernel
theorem dX3_readNumber_108 : decode cX3_readNumber 108 = .ok (.putfield 43, 3) := by decide +kernel
theorem dX3_readNumber_111 : decode cX3_readNumber 111 = .ok (.aload_n 0, 1) := by decide +kernel
theorem dX3_readNumber_112 : decode cX3_readNumber 112 = .ok (.invokevirtual 65, 3) := by decide +kernel
theorem dX3_readNumber_115 : decode cX3_readNumber 115 = .ok (.iconst 1, 1) := by decide +kernel
theorem dX3_readNumber_116 : decode cX3_readNumber 116 = .ok (.ireturn, 1) := by decide +kernel
theorem dX3_failAt_0 : decode cX3_failAt 0 = .ok (.aload_n 0, 1) := by decide +kernel
theorem dX3_failAt_1 : decode cX3_failAt 1 = .ok (.iload_n 1, 1) := by decide +kernel
theorem dX3_failAt_2 : decode cX3_failAt 2 = .ok (.putfield 28, 3) := by decide +kernel
theorem dX3_failAt_5 : decode cX3_failAt 5 = .ok (.aload_n 0, 1) := by decide +kernel
theorem dX3_failAt_6 : decode cX3_failAt 6 = .ok (.iload_n 2, 1) := by decide +kernel
theorem dX3_failAt_7 : decode cX3_failAt 7 = .ok (.putfield 25, 3) := by decide +kernel
theorem dX3_failAt_10 : decode cX3_failAt 10 = .ok (.iconst 0, 1) := by decide +kernel
theorem dX3_failAt_11 : decode cX3_failAt 11 = .ok (.ireturn, 1) := by decide +kernel
theorem dX3_isWord_0 : decode cX3_isWord 0 = .ok (.aload_n 0, 1) := by decide +kernel
theorem dX3_isWord_1 : decode cX3_isWord 1 = .ok (.getfield 40, 3) := by decide +kernel
theorem dX3_isWord_4 : decode cX3_isWord 4 = .ok (.iconst 1, 1) := by decide +kernel
theorem dX3_isWord_5 : decode cX3_isWord 5 = .ok (.if_icmp .ne 19, 3) := by decide +kernel
theorem dX3_isWord_8 : decode cX3_isWord 8 = .ok (.aload_n 0, 1) := by decide +kernel
theorem dX3_isWord_9 : decode cX3_isWord 9 = .ok (.getfield 37, 3) := by decide +kernel
theorem dX3_isWord_12 : decode cX3_isWord 12 = .ok (.aload_n 0, 1) := by decide +kernel
theorem dX3_isWord_13 : decode cX3_isWord 13 = .ok (.getfield 34, 3) := by decide +kernel
theorem dX3_isWord_16 : decode cX3_isWord 16 = .ok (.isub, 1) := by decide +kernel
theorem dX3_isWord_17 : decode cX3_isWord 17 = .ok (.aload_n 1, 1) := by decide +kernel
theorem dX3_isWord_18 : decode cX3_isWord 18 = .ok (.invokevirtual 201, 3) := by decide +kernel
theorem dX3_isWord_21 : decode cX3_isWord 21 = .ok (.if_icmp .eq 5, 3) := by decide +kernel
theorem dX3_isWord_24 : decode cX3_isWord 24 = .ok (.iconst 0, 1) := by decide +kernel
theorem dX3_isWord_25 : decode cX3_isWord 25 = .ok (.ireturn, 1) := by decide +kernel
theorem dX3_isWord_26 : decode cX3_isWord 26 = .ok (.iconst 0, 1) := by decide +kernel
theorem dX3_isWord_27 : decode cX3_isWord 27 = .ok (.istore_n 2, 1) := by decide +kernel
theorem dX3_isWord_28 : decode cX3_isWord 28 = .ok (.iload_n 2, 1) := by decide +kernel
theorem dX3_isWord_29 : decode cX3_isWord 29 = .ok (.aload_n 1, 1) := by decide +kernel
theorem dX3_isWord_30 : decode cX3_isWord 30 = .ok (.invokevirtual 201, 3) := by decide +kernel
theorem dX3_isWord_33 : decode cX3_isWord 33 = .ok (.if_icmp .ge 30, 3) := by decide +kernel
theorem dX3_isWord_36 : decode cX3_isWord 36 = .ok (.aload_n 0, 1) := by decide +kernel
theorem dX3_isWord_37 : decode cX3_isWord 37 = .ok (.getfield 13, 3) := by decide +kernel
theorem dX3_isWord_40 : decode cX3_isWord 40 = .ok (.aload_n 0, 1) := by decide +kernel
theorem dX3_isWord_41 : decode cX3_isWord 41 = .ok (.getfield 34, 3) := by decide +kernel
theorem dX3_isWord_44 : decode cX3_isWord 44 = .ok (.iload_n 2, 1) := by decide +kernel
theorem dX3_isWord_45 : decode cX3_isWord 45 = .ok (.iadd, 1) := by decide +kernel
theorem dX3_isWord_46 : decode cX3_isWord 46 = .ok (.baload, 1) := by decide +kernel
theorem dX3_isWord_47 : decode cX3_isWord 47 = .ok (.aload_n 1, 1) := by decide +kernel
theorem dX3_isWord_48 : decode cX3_isWord 48 = .ok (.iload_n 2, 1) := by decide +kernel
theorem dX3_isWord_49 : decode cX3_isWord 49 = .ok (.invokevirtual 205, 3) := by decide +kernel
theorem dX3_isWord_52 : decode cX3_isWord 52 = .ok (.if_icmp .eq 5, 3) := by decide +kernel
theorem dX3_isWord_55 : decode cX3_isWord 55 = .ok (.iconst 0, 1) := by decide +kernel
theorem dX3_isWord_56 : decode cX3_isWord 56 = .ok (.ireturn, 1) := by decide +kernel
theorem dX3_isWord_57 : decode cX3_isWord 57 = .ok (.iinc 2 1, 3) := by decide +kernel
theorem dX3_isWord_60 : decode cX3_isWord 60 = .ok (.goto (-32), 3) := by decide +kernel
theorem dX3_isWord_63 : decode cX3_isWord 63 = .ok (.iconst 1, 1) := by decide +kernel
theorem dX3_isWord_64 : decode cX3_isWord 64 = .ok (.ireturn, 1) := by decide +kernel
theorem dX3_advance_0 : decode cX3_advance 0 = .ok (.aload_n 0, 1) := by decide +kernel
theorem dX3_advance_1 : decode cX3_advance 1 = .ok (.aload_n 0, 1) := by decide +kernel
theorem dX3_advance_2 : decode cX3_advance 2 = .ok (.getfield 37, 3) := by decide +kernel
theorem dX3_advance_5 : decode cX3_advance 5 = .ok (.putfield 34, 3) := by decide +kernel
theorem dX3_advance_8 : decode cX3_advance 8 = .ok (.aload_n 0, 1) := by decide +kernel
theorem dX3_advance_9 : decode cX3_advance 9 = .ok (.getfield 34, 3) := by decide +kernel
theorem dX3_advance_12 : decode cX3_advance 12 = .ok (.aload_n 0, 1) := by decide +kernel
theorem dX3_advance_13 : decode cX3_advance 13 = .ok (.getfield 31, 3) := by decide +kernel
theorem dX3_advance_16 : decode cX3_advance 16 = .ok (.if_icmp .ge 29, 3) := by decide +kernel
theorem dX3_advance_19 : decode cX3_advance 19 = .ok (.aload_n 0, 1) := by decide +kernel
theorem dX3_advance_20 : decode cX3_advance 20 = .ok (.getfield 17, 3) := by decide +kernel
theorem dX3_advance_23 : decode cX3_advance 23 = .ok (.aload_n 0, 1) := by decide +kernel
theorem dX3_advance_24 : decode cX3_advance 24 = .ok (.getfield 34, 3) := by decide +kernel
theorem dX3_advance_27 : decode cX3_advance 27 = .ok (.iaload, 1) := by decide +kernel
theorem dX3_advance_28 : decode cX3_advance 28 = .ok (.iconst 5, 1) := by decide +kernel
theorem dX3_advance_29 : decode cX3_advance 29 = .ok (.if_icmp .ne 16, 3) := by decide +kernel
theorem dX3_advance_32 : decode cX3_advance 32 = .ok (.aload_n 0, 1) := by decide +kernel
theorem dX3_advance_33 : decode cX3_advance 33 = .ok (.dup, 1) := by decide +kernel
theorem dX3_advance_34 : decode cX3_advance 34 = .ok (.getfield 34, 3) := by decide +kernel
theorem dX3_advance_37 : decode cX3_advance 37 = .ok (.iconst 1, 1) := by decide +kernel
theorem dX3_advance_38 : decode cX3_advance 38 = .ok (.iadd, 1) := by decide +kernel
theorem dX3_advance_39 : decode cX3_advance 39 = .ok (.putfield 34, 3) := by decide +kernel
theorem dX3_advance_42 : decode cX3_advance 42 = .ok (.goto (-34), 3) := by decide +kernel
theorem dX3_advance_45 : decode cX3_advance 45 = .ok (.aload_n 0, 1) := by decide +kernel
theorem dX3_advance_46 : decode cX3_advance 46 = .ok (.aload_n 0, 1) := by decide +kernel
theorem dX3_advance_47 : decode cX3_advance 47 = .ok (.getfield 34, 3) := by decide +kernel
theorem dX3_advance_50 : decode cX3_advance 50 = .ok (.aload_n 0, 1) := by decide +kernel
theorem dX3_advance_51 : decode cX3_advance 51 = .ok (.getfield 31, 3) := by decide +kernel
theorem dX3_advance_54 : decode cX3_advance 54 = .ok (.if_icmp .ge 15, 3) := by decide +kernel
theorem dX3_advance_57 : decode cX3_advance 57 = .ok (.aload_n 0, 1) := by decide +kernel
theorem dX3_advance_58 : decode cX3_advance 58 = .ok (.getfield 17, 3) := by decide +kernel
theorem dX3_advance_61 : decode cX3_advance 61 = .ok (.aload_n 0, 1) := by decide +kernel
theorem dX3_advance_62 : decode cX3_advance 62 = .ok (.getfield 34, 3) := by decide +kernel
theorem dX3_advance_65 : decode cX3_advance 65 = .ok (.iaload, 1) := by decide +kernel
theorem dX3_advance_66 : decode cX3_advance 66 = .ok (.goto 4, 3) := by decide +kernel
theorem dX3_advance_69 : decode cX3_advance 69 = .ok (.iconst 0, 1) := by decide +kernel
theorem dX3_advance_70 : decode cX3_advance 70 = .ok (.putfield 40, 3) := by decide +kernel
theorem dX3_advance_73 : decode cX3_advance 73 = .ok (.aload_n 0, 1) := by decide +kernel
theorem dX3_advance_74 : decode cX3_advance 74 = .ok (.aload_n 0, 1) := by decide +kernel
theorem dX3_advance_75 : decode cX3_advance 75 = .ok (.getfield 34, 3) := by decide +kernel
theorem dX3_advance_78 : decode cX3_advance 78 = .ok (.aload_n 0, 1) := by decide +kernel
theorem dX3_advance_79 : decode cX3_advance 79 = .ok (.getfield 31, 3) := by decide +kernel
theorem dX3_advance_82 : decode cX3_advance 82 = .ok (.if_icmp .ge 12, 3) := by decide +kernel
theorem dX3_advance_85 : decode cX3_advance 85 = .ok (.aload_n 0, 1) := by decide +kernel
theorem dX3_advance_86 : decode cX3_advance 86 = .ok (.getfield 34, 3) := by decide +kernel
theorem dX3_advance_89 : decode cX3_advance 89 = .ok (.iconst 1, 1) := by decide +kernel
theorem dX3_advance_90 : decode cX3_advance 90 = .ok (.iadd, 1) := by decide +kernel
theorem dX3_advance_91 : decode cX3_advance 91 = .ok (.goto 7, 3) := by decide +kernel
theorem dX3_advance_94 : decode cX3_advance 94 = .ok (.aload_n 0, 1) := by decide +kernel
theorem dX3_advance_95 : decode cX3_advance 95 = .ok (.getfield 31, 3) := by decide +kernel
theorem dX3_advance_98 : decode cX3_advance 98 = .ok (.putfield 37, 3) := by decide +kernel
theorem dX3_advance_101 : decode cX3_advance 101 = .ok (.aload_n 0, 1) := by decide +kernel
theorem dX3_advance_102 : decode cX3_advance 102 = .ok (.getfield 40, 3) := by decide +kernel
theorem dX3_advance_105 : decode cX3_advance 105 = .ok (.iconst 1, 1) := by decide +kernel
theorem dX3_advance_106 : decode cX3_advance 106 = .ok (.if_icmp .eq 11, 3) := by decide +kernel
theorem dX3_advance_109 : decode cX3_advance 109 = .ok (.aload_n 0, 1) := by decide +kernel
theorem dX3_advance_110 : decode cX3_advance 110 = .ok (.getfield 40, 3) := by decide +kernel
theorem dX3_advance_113 : decode cX3_advance 113 = .ok (.iconst 2, 1) := by decide +kernel
theorem dX3_advance_114 : decode cX3_advance 114 = .ok (.if_icmp .ne 43, 3) := by decide +kernel
theorem dX3_advance_117 : decode cX3_advance 117 = .ok (.aload_n 0, 1) := by decide +kernel
theorem dX3_advance_118 : decode cX3_advance 118 = .ok (.getfield 37, 3) := by decide +kernel
theorem dX3_advance_121 : decode cX3_advance 121 = .ok (.aload_n 0, 1) := by decide +kernel
theorem dX3_advance_122 : decode cX3_advance 122 = .ok (.getfield 31, 3) := by decide +kernel
theorem dX3_advance_125 : decode cX3_advance 125 = .ok (.if_icmp .ge 32, 3) := by decide +kernel
theorem dX3_advance_128 : decode cX3_advance 128 = .ok (.aload_n 0, 1) := by decide +kernel
theorem dX3_advance_129 : decode cX3_advance 129 = .ok (.getfield 17, 3) := by decide +kernel
theorem dX3_advance_132 : decode cX3_advance 132 = .ok (.aload_n 0, 1) := by decide +kernel
theorem dX3_advance_133 : decode cX3_advance 133 = .ok (.getfield 37, 3) := by decide +kernel
theorem dX3_advance_136 : decode cX3_advance 136 = .ok (.iaload, 1) := by decide +kernel
theorem dX3_advance_137 : decode cX3_advance 137 = .ok (.aload_n 0, 1) := by decide +kernel
theorem dX3_advance_138 : decode cX3_advance 138 = .ok (.getfield 40, 3) := by decide +kernel
theorem dX3_advance_141 : decode cX3_advance 141 = .ok (.if_icmp .ne 16, 3) := by decide +kernel
theorem dX3_advance_144 : decode cX3_advance 144 = .ok (.aload_n 0, 1) := by decide +kernel
theorem dX3_advance_145 : decode cX3_advance 145 = .ok (.dup, 1) := by decide +kernel
theorem dX3_advance_146 : decode cX3_advance 146 = .ok (.getfield 37, 3) := by decide +kernel
theorem dX3_advance_149 : decode cX3_advance 149 = .ok (.iconst 1, 1) := by decide +kernel
theorem dX3_advance_150 : decode cX3_advance 150 = .ok (.iadd, 1) := by decide +kernel
theorem dX3_advance_151 : decode cX3_advance 151 = .ok (.putfield 37, 3) := by decide +kernel
theorem dX3_advance_154 : decode cX3_advance 154 = .ok (.goto (-37), 3) := by decide +kernel
theorem dX3_advance_157 : decode cX3_advance 157 = .ok (.return_, 1) := by decide +kernel
theorem dX3_findKinds_0 : decode cX3_findKinds 0 = .ok (.iconst 0, 1) := by decide +kernel
theorem dX3_findKinds_1 : decode cX3_findKinds 1 = .ok (.istore_n 1, 1) := by decide +kernel
theorem dX3_findKinds_2 : decode cX3_findKinds 2 = .ok (.iload_n 1, 1) := by decide +kernel
theorem dX3_findKinds_3 : decode cX3_findKinds 3 = .ok (.aload_n 0, 1) := by decide +kernel
theorem dX3_findKinds_4 : decode cX3_findKinds 4 = .ok (.getfield 31, 3) := by decide +kernel
theorem dX3_findKinds_7 : decode cX3_findKinds 7 = .ok (.if_icmp .ge 24, 3) := by decide +kernel
theorem dX3_findKinds_10 : decode cX3_findKinds 10 = .ok (.aload_n 0, 1) := by decide +kernel
theorem dX3_findKinds_11 : decode cX3_findKinds 11 = .ok (.getfield 17, 3) := by decide +kernel
theorem dX3_findKinds_14 : decode cX3_findKinds 14 = .ok (.iload_n 1, 1) := by decide +kernel
theorem dX3_findKinds_15 : decode cX3_findKinds 15 = .ok (.aload_n 0, 1) := by decide +kernel
theorem dX3_findKinds_16 : decode cX3_findKinds 16 = .ok (.getfield 13, 3) := by decide +kernel
theorem dX3_findKinds_19 : decode cX3_findKinds 19 = .ok (.iload_n 1, 1) := by decide +kernel
theorem dX3_findKinds_20 : decode cX3_findKinds 20 = .ok (.baload, 1) := by decide +kernel
theorem dX3_findKinds_21 : decode cX3_findKinds 21 = .ok (.invokestatic 209, 3) := by decide +kernel
theorem dX3_findKinds_24 : decode cX3_findKinds 24 = .ok (.iastore, 1) := by decide +kernel
theorem dX3_findKinds_25 : decode cX3_findKinds 25 = .ok (.iinc 1 1, 3) := by decide +kernel
theorem dX3_findKinds_28 : decode cX3_findKinds 28 = .ok (.goto (-26), 3) := by decide +kernel
theorem dX3_findKinds_31 : decode cX3_findKinds 31 = .ok (.return_, 1) := by decide +kernel
theorem dX3_kindOf_0 : decode cX3_kindOf 0 = .ok (.iload_n 0, 1) := by decide +kernel
theorem dX3_kindOf_1 : decode cX3_kindOf 1 = .ok (.bipush 97, 2) := by decide +kernel
theorem dX3_kindOf_3 : decode cX3_kindOf 3 = .ok (.if_icmp .lt 11, 3) := by decide +kernel
theorem dX3_kindOf_6 : decode cX3_kindOf 6 = .ok (.iload_n 0, 1) := by decide +kernel
theorem dX3_kindOf_7 : decode cX3_kindOf 7 = .ok (.bipush 122, 2) := by decide +kernel
theorem dX3_kindOf_9 : decode cX3_kindOf 9 = .ok (.if_icmp .gt 5, 3) := by decide +kernel
theorem dX3_kindOf_12 : decode cX3_kindOf 12 = .ok (.iconst 1, 1) := by decide +kernel
theorem dX3_kindOf_13 : decode cX3_kindOf 13 = .ok (.ireturn, 1) := by decide +kernel
theorem dX3_kindOf_14 : decode cX3_kindOf 14 = .ok (.iload_n 0, 1) := by decide +kernel
theorem dX3_kindOf_15 : decode cX3_kindOf 15 = .ok (.bipush 48, 2) := by decide +kernel
theorem dX3_kindOf_17 : decode cX3_kindOf 17 = .ok (.if_icmp .lt 11, 3) := by decide +kernel
theorem dX3_kindOf_20 : decode cX3_kindOf 20 = .ok (.iload_n 0, 1) := by decide +kernel
theorem dX3_kindOf_21 : decode cX3_kindOf 21 = .ok (.bipush 57, 2) := by decide +kernel
theorem dX3_kindOf_23 : decode cX3_kindOf 23 = .ok (.if_icmp .gt 5, 3) := by decide +kernel
theorem dX3_kindOf_26 : decode cX3_kindOf 26 = .ok (.iconst 2, 1) := by decide +kernel
theorem dX3_kindOf_27 : decode cX3_kindOf 27 = .ok (.ireturn, 1) := by decide +kernel
theorem dX3_kindOf_28 : decode cX3_kindOf 28 = .ok (.iload_n 0, 1) := by decide +kernel
theorem dX3_kindOf_29 : decode cX3_kindOf 29 = .ok (.bipush 32, 2) := by decide +kernel
theorem dX3_kindOf_31 : decode cX3_kindOf 31 = .ok (.if_icmp .eq 9, 3) := by decide +kernel
theorem dX3_kindOf_34 : decode cX3_kindOf 34 = .ok (.iload_n 0, 1) := by decide +kernel
theorem dX3_kindOf_35 : decode cX3_kindOf 35 = .ok (.bipush 10, 2) := by decide +kernel
theorem dX3_kindOf_37 : decode cX3_kindOf 37 = .ok (.if_icmp .ne 5, 3) := by decide +kernel
theorem dX3_kindOf_40 : decode cX3_kindOf 40 = .ok (.iconst 5, 1) := by decide +kernel
theorem dX3_kindOf_41 : decode cX3_kindOf 41 = .ok (.ireturn, 1) := by decide +kernel
theorem dX3_kindOf_42 : decode cX3_kindOf 42 = .ok (.iload_n 0, 1) := by decide +kernel
theorem dX3_kindOf_43 : decode cX3_kindOf 43 = .ok (.bipush 59, 2) := by decide +kernel
theorem dX3_kindOf_45 : decode cX3_kindOf 45 = .ok (.if_icmp .ne 7, 3) := by decide +kernel
theorem dX3_kindOf_48 : decode cX3_kindOf 48 = .ok (.iconst 3, 1) := by decide +kernel
theorem dX3_kindOf_49 : decode cX3_kindOf 49 = .ok (.goto 4, 3) := by decide +kernel
theorem dX3_kindOf_52 : decode cX3_kindOf 52 = .ok (.iconst 4, 1) := by decide +kernel
theorem dX3_kindOf_53 : decode cX3_kindOf 53 = .ok (.ireturn, 1) := by decide +kernel
theorem dX4_init_0 : decode cX4_init 0 = .ok (.aload_n 0, 1) := by decide +kernel
theorem dX4_init_1 : decode cX4_init 1 = .ok (.invokespecial 3, 3) := by decide +kernel
theorem dX4_init_4 : decode cX4_init 4 = .ok (.aload_n 0, 1) := by decide +kernel
theorem dX4_init_5 : decode cX4_init 5 = .ok (.bipush 14, 2) := by decide +kernel
theorem dX4_init_7 : decode cX4_init 7 = .ok (.newarray .int, 2) := by decide +kernel
theorem dX4_init_9 : decode cX4_init 9 = .ok (.putfield 11, 3) := by decide +kernel
theorem dX4_init_12 : decode cX4_init 12 = .ok (.aload_n 0, 1) := by decide +kernel
theorem dX4_init_13 : decode cX4_init 13 = .ok (.bipush 14, 2) := by decide +kernel
theorem dX4_init_15 : decode cX4_init 15 = .ok (.bipush 36, 2) := by decide +kernel
theorem dX4_init_17 : decode cX4_init 17 = .ok (.multianewarray 15 2, 4) := by decide +kernel
theorem dX4_init_21 : decode cX4_init 21 = .ok (.putfield 17, 3) := by decide +kernel
theorem dX4_init_24 : decode cX4_init 24 = .ok (.aload_n 0, 1) := by decide +kernel
theorem dX4_init_25 : decode cX4_init 25 = .ok (.sipush 180, 3) := by decide +kernel
theorem dX4_init_28 : decode cX4_init 28 = .ok (.newarray .int, 2) := by decide +kernel
theorem dX4_init_30 : decode cX4_init 30 = .ok (.putfield 20, 3) := by decide +kernel
theorem dX4_init_33 : decode cX4_init 33 = .ok (.aload_n 0, 1) := by decide +kernel
theorem dX4_init_34 : decode cX4_init 34 = .ok (.bipush 36, 2) := by decide +kernel
theorem dX4_init_36 : decode cX4_init 36 = .ok (.newarray .int, 2) := by decide +kernel
theorem dX4_init_38 : decode cX4_init 38 = .ok (.putfield 23, 3) := by decide +kernel
theorem dX4_init_41 : decode cX4_init 41 = .ok (.aload_n 0, 1) := by decide +kernel
theorem dX4_init_42 : decode cX4_init 42 = .ok (.bipush 36, 2) := by decide +kernel
theorem dX4_init_44 : decode cX4_init 44 = .ok (.newarray .int, 2) := by decide +kernel
theorem dX4_init_46 : decode cX4_init 46 = .ok (.putfield 26, 3) := by decide +kernel
theorem dX4_init_49 : decode cX4_init 49 = .ok (.aload_n 0, 1) := by decide +kernel
theorem dX4_init_50 : decode cX4_init 50 = .ok (.iconst 0, 1) := by decide +kernel
theorem dX4_init_51 : decode cX4_init 51 = .ok (.putfield 29, 3) := by decide +kernel
theorem dX4_init_54 : decode cX4_init 54 = .ok (.aload_n 0, 1) := by decide +kernel
theorem dX4_init_55 : decode cX4_init 55 = .ok (.iconst 0, 1) := by decide +kernel
theorem dX4_init_56 : decode cX4_init 56 = .ok (.putfield 33, 3) := by decide +kernel
theorem dX4_init_59 : decode cX4_init 59 = .ok (.aload_n 0, 1) := by decide +kernel
theorem dX4_init_60 : decode cX4_init 60 = .ok (.iconst 2, 1) := by decide +kernel
theorem dX4_init_61 : decode cX4_init 61 = .ok (.putfield 36, 3) := by decide +kernel
theorem dX4_init_64 : decode cX4_init 64 = .ok (.aload_n 0, 1) := by decide +kernel
theorem dX4_init_65 : decode cX4_init 65 = .ok (.sipush 1000, 3) := by decide +kernel
theorem dX4_init_68 : decode cX4_init 68 = .ok (.putfield 39, 3) := by decide +kernel
theorem dX4_init_71 : decode cX4_init 71 = .ok (.return_, 1) := by decide +kernel
theorem dX4_begin_0 : decode cX4_begin 0 = .ok (.aload_n 0, 1) := by decide +kernel
theorem dX4_begin_1 : decode cX4_begin 1 = .ok (.iload_n 1, 1) := by decide +kernel
theorem dX4_begin_2 : decode cX4_begin 2 = .ok (.putfield 33, 3) := by decide +kernel
theorem dX4_begin_5 : decode cX4_begin 5 = .ok (.aload_n 0, 1) := by decide +kernel
theorem dX4_begin_6 : decode cX4_begin 6 = .ok (.iload_n 2, 1) := by decide +kernel
theorem dX4_begin_7 : decode cX4_begin 7 = .ok (.putfield 36, 3) := by decide +kernel
theorem dX4_begin_10 : decode cX4_begin 10 = .ok (.aload_n 0, 1) := by decide +kernel
theorem dX4_begin_11 : decode cX4_begin 11 = .ok (.iconst 0, 1) := by decide +kernel
theorem dX4_begin_12 : decode cX4_begin 12 = .ok (.putfield 29, 3) := by decide +kernel
theorem dX4_begin_15 : decode cX4_begin 15 = .ok (.aload_n 3, 1) := by decide +kernel
theorem dX4_begin_16 : decode cX4_begin 16 = .ok (.iconst 0, 1) := by decide +kernel
theorem dX4_begin_17 : decode cX4_begin 17 = .ok (.aload_n 0, 1) := by decide +kernel
theorem dX4_begin_18 : decode cX4_begin 18 = .ok (.getfield 23, 3) := by decide +kernel
theorem dX4_begin_21 : decode cX4_begin 21 = .ok (.iconst 0, 1) := by decide +kernel
theorem dX4_begin_22 : decode cX4_begin 22 = .ok (.bipush 36, 2) := by decide +kernel
theorem dX4_begin_24 : decode cX4_begin 24 = .ok (.invokestatic 42, 3) := by decide +kernel
theorem dX4_begin_27 : decode cX4_begin 27 = .ok (.return_, 1) := by decide +kernel
theorem dX4_countPresses_0 : decode cX4_countPresses 0 = .ok (.iconst 0, 1) := by decide +kernel
theorem dX4_countPresses_1 : decode cX4_countPresses 1 = .ok (.istore_n 2, 1) := by decide +kernel
theorem dX4_countPresses_2 : decode cX4_countPresses 2 = .ok (.iload_n 2, 1) := by decide +kernel
theorem dX4_countPresses_3 : decode cX4_countPresses 3 = .ok (.aload_n 0, 1) := by decide +kernel
theorem dX4_countPresses_4 : decode cX4_countPresses 4 = .ok (.getfield 33, 3) := by decide +kernel
theorem dX4_countPresses_7 : decode cX4_countPresses 7 = .ok (.if_icmp .ge 69, 3) := by decide +kernel
theorem dX4_countPresses_10 : decode cX4_countPresses 10 = .ok (.iconst 0, 1) := by decide +kernel
theorem dX4_countPresses_11 : decode cX4_countPresses 11 = .ok (.istore_n 3, 1) := by decide +kernel
theorem dX4_countPresses_12 : decode cX4_countPresses 12 = .ok (.iload_n 3, 1) := by decide +kernel
theorem dX4_countPresses_13 : decode cX4_countPresses 13 = .ok (.aload_n 0, 1) := by decide +kernel
theorem dX4_countPresses_14 : decode cX4_countPresses 14 = .ok (.getfield 36, 3) := by decide +kernel
theorem dX4_countPresses_17 : decode cX4_countPresses 17 = .ok (.if_icmp .ge 53, 3) := by decide +kernel
theorem dX4_countPresses_20 : decode cX4_countPresses 20 = .ok (.iload_n 1, 1) := by decide +kernel
theorem dX4_countPresses_21 : decode cX4_countPresses 21 = .ok (.iconst 1, 1) := by decide +kernel
theorem dX4_countPresses_22 : decode cX4_countPresses 22 = .ok (.if_icmp .ne 11, 3) := by decide +kernel
theorem dX4_countPresses_25 : decode cX4_countPresses 25 = .ok (.iload_n 3, 1) := by decide +kernel
theorem dX4_countPresses_26 : decode cX4_countPresses 26 = .ok (.iconst 1, 1) := by decide +kernel
theorem dX4_countPresses_27 : decode cX4_countPresses 27 = .ok (.invokestatic 48, 3) := by decide +kernel
theorem dX4_countPresses_30 : decode cX4_countPresses 30 = .ok (.goto 4, 3) := by decide +kernel
theorem dX4_countPresses_33 : decode cX4_countPresses 33 = .ok (.iload_n 3, 1) := by decide +kernel
theorem dX4_countPresses_34 : decode cX4_countPresses 34 = .ok (.istore 4, 2) := by decide +kernel
theorem dX4_countPresses_36 : decode cX4_countPresses 36 = .ok (.aload_n 0, 1) := by decide +kernel
theorem dX4_countPresses_37 : decode cX4_countPresses 37 = .ok (.getfield 20, 3) := by decide +kernel
theorem dX4_countPresses_40 : decode cX4_countPresses 40 = .ok (.iload_n 2, 1) := by decide +kernel
theorem dX4_countPresses_41 : decode cX4_countPresses 41 = .ok (.iconst 5, 1) := by decide +kernel
theorem dX4_countPresses_42 : decode cX4_countPresses 42 = .ok (.imul, 1) := by decide +kernel
theorem dX4_countPresses_43 : decode cX4_countPresses 43 = .ok (.iload_n 3, 1) := by decide +kernel
theorem dX4_countPresses_44 : decode cX4_countPresses 44 = .ok (.iadd, 1) := by decide +kernel
theorem dX4_countPresses_45 : decode cX4_countPresses 45 = .ok (.iload_n 1, 1) := by decide +kernel
theorem dX4_countPresses_46 : decode cX4_countPresses 46 = .ok (.iconst 2, 1) := by decide +kernel
theorem dX4_countPresses_47 : decode cX4_countPresses 47 = .ok (.if_icmp .ne 14, 3) := by decide +kernel
theorem dX4_countPresses_50 : decode cX4_countPresses 50 = .ok (.iload_n 3, 1) := by decide +kernel
theorem dX4_countPresses_51 : decode cX4_countPresses 51 = .ok (.iconst 1, 1) := by decide +kernel
theorem dX4_countPresses_52 : decode cX4_countPresses 52 = .ok (.if_icmp .le 9, 3) := by decide +kernel
theorem dX4_countPresses_55 : decode cX4_countPresses 55 = .ok (.sipush 1000, 3) := by decide +kernel
theorem dX4_countPresses_58 : decode cX4_countPresses 58 = .ok (.goto 5, 3) := by decide +kernel
theorem dX4_countPresses_61 : decode cX4_countPresses 61 = .ok (.iload 4, 2) := by decide +kernel
theorem dX4_countPresses_63 : decode cX4_countPresses 63 = .ok (.iastore, 1) := by decide +kernel
theorem dX4_countPresses_64 : decode cX4_countPresses 64 = .ok (.iinc 3 1, 3) := by decide +kernel
theorem dX4_countPresses_67 : decode cX4_countPresses 67 = .ok (.goto (-55), 3) := by decide +kernel
theorem dX4_countPresses_70 : decode cX4_countPresses 70 = .ok (.iinc 2 1, 3) := by decide +kernel
theorem dX4_countPresses_73 : decode cX4_countPresses 73 = .ok (.goto (-71), 3) := by decide +kernel
theorem dX4_countPresses_76 : decode cX4_countPresses 76 = .ok (.return_, 1) := by decide +kernel
theorem dX4_countUnlike_0 : decode cX4_countUnlike 0 = .ok (.iconst 0, 1) := by decide +kernel
theorem dX4_countUnlike_1 : decode cX4_countUnlike 1 = .ok (.istore_n 2, 1) := by decide +kernel
theorem dX4_countUnlike_2 : decode cX4_countUnlike 2 = .ok (.iload_n 2, 1) := by decide +kernel
theorem dX4_countUnlike_3 : decode cX4_countUnlike 3 = .ok (.aload_n 0, 1) := by decide +kernel
theorem dX4_countUnlike_4 : decode cX4_countUnlike 4 = .ok (.getfield 33, 3) := by decide +kernel
theorem dX4_countUnlike_7 : decode cX4_countUnlike 7 = .ok (.if_icmp .ge 47, 3) := by decide +kernel
theorem dX4_countUnlike_10 : decode cX4_countUnlike 10 = .ok (.iconst 0, 1) := by decide +kernel
theorem dX4_countUnlike_11 : decode cX4_countUnlike 11 = .ok (.istore_n 3, 1) := by decide +kernel
theorem dX4_countUnlike_12 : decode cX4_countUnlike 12 = .ok (.iload_n 3, 1) := by decide +kernel
theorem dX4_countUnlike_13 : decode cX4_countUnlike 13 = .ok (.aload_n 0, 1) := by decide +kernel
theorem dX4_countUnlike_14 : decode cX4_countUnlike 14 = .ok (.getfield 36, 3) := by decide +kernel
theorem dX4_countUnlike_17 : decode cX4_countUnlike 17 = .ok (.if_icmp .ge 31, 3) := by decide +kernel
theorem dX4_countUnlike_20 : decode cX4_countUnlike 20 = .ok (.aload_n 0, 1) := by decide +kernel
theorem dX4_countUnlike_21 : decode cX4_countUnlike 21 = .ok (.getfield 20, 3) := by decide +kernel
theorem dX4_countUnlike_24 : decode cX4_countUnlike 24 = .ok (.iload_n 2, 1) := by decide +kernel
theorem dX4_countUnlike_25 : decode cX4_countUnlike 25 = .ok (.iconst 5, 1) := by decide +kernel
theorem dX4_countUnlike_26 : decode cX4_countUnlike 26 = .ok (.imul, 1) := by decide +kernel
theorem dX4_countUnlike_27 : decode cX4_countUnlike 27 = .ok (.iload_n 3, 1) := by decide +kernel
theorem dX4_countUnlike_28 : decode cX4_countUnlike 28 = .ok (.iadd, 1) := by decide +kernel
theorem dX4_countUnlike_29 : decode cX4_countUnlike 29 = .ok (.iload_n 3, 1) := by decide +kernel
theorem dX4_countUnlike_30 : decode cX4_countUnlike 30 = .ok (.aload_n 1, 1) := by decide +kernel
theorem dX4_countUnlike_31 : decode cX4_countUnlike 31 = .ok (.iload_n 2, 1) := by decide +kernel
theorem dX4_countUnlike_32 : decode cX4_countUnlike 32 = .ok (.iaload, 1) := by decide +kernel
theorem dX4_countUnlike_33 : decode cX4_countUnlike 33 = .ok (.if_icmp .ne 7, 3) := by decide +kernel
theorem dX4_countUnlike_36 : decode cX4_countUnlike 36 = .ok (.iconst 0, 1) := by decide +kernel
theorem dX4_countUnlike_37 : decode cX4_countUnlike 37 = .ok (.goto 4, 3) := by decide +kernel
theorem dX4_countUnlike_40 : decode cX4_countUnlike 40 = .ok (.iconst 1, 1) := by decide +kernel
theorem dX4_countUnlike_41 : decode cX4_countUnlike 41 = .ok (.iastore, 1) := by decide +kernel
theorem dX4_countUnlike_42 : decode cX4_countUnlike 42 = .ok (.iinc 3 1, 3) := by decide +kernel
theorem dX4_countUnlike_45 : decode cX4_countUnlike 45 = .ok (.goto (-33), 3) := by decide +kernel
theorem dX4_countUnlike_48 : decode cX4_countUnlike 48 = .ok (.iinc 2 1, 3) := by decide +kernel
theorem dX4_countUnlike_51 : decode cX4_countUnlike 51 = .ok (.goto (-49), 3) := by decide +kernel
theorem dX4_countUnlike_54 : decode cX4_countUnlike 54 = .ok (.return_, 1) := by decide +kernel
theorem dX4_addFree_0 : decode cX4_addFree 0 = .ok (.aload_n 0, 1) := by decide +kernel
theorem dX4_addFree_1 : decode cX4_addFree 1 = .ok (.getfield 29, 3) := by decide +kernel
theorem dX4_addFree_4 : decode cX4_addFree 4 = .ok (.bipush 14, 2) := by decide +kernel
theorem dX4_addFree_6 : decode cX4_addFree 6 = .ok (.if_icmp .lt 4, 3) := by decide +kernel
theorem dX4_addFree_9 : decode cX4_addFree 9 = .ok (.return_, 1) := by decide +kernel
theorem dX4_addFree_10 : decode cX4_addFree 10 = .ok (.aload_n 0, 1) := by decide +kernel
theorem dX4_addFree_11 : decode cX4_addFree 11 = .ok (.getfield 11, 3) := by decide +kernel
theorem dX4_addFree_14 : decode cX4_addFree 14 = .ok (.aload_n 0, 1) := by decide +kernel
theorem dX4_addFree_15 : decode cX4_addFree 15 = .ok (.getfield 29, 3) := by decide +kernel
theorem dX4_addFree_18 : decode cX4_addFree 18 = .ok (.iload_n 1, 1) := by decide +kernel
theorem dX4_addFree_19 : decode cX4_addFree 19 = .ok (.iastore, 1) := by decide +kernel
theorem dX4_addFree_20 : decode cX4_addFree 20 = .ok (.aload_n 2, 1) := by decide +kernel
theorem dX4_addFree_21 : decode cX4_addFree 21 = .ok (.iconst 0, 1) := by decide +kernel
theorem dX4_addFree_22 : decode cX4_addFree 22 = .ok (.aload_n 0, 1) := by decide +kernel
theorem dX4_addFree_23 : decode cX4_addFree 23 = .ok (.getfield 17, 3) := by decide +kernel
theorem dX4_addFree_26 : decode cX4_addFree 26 = .ok (.aload_n 0, 1) := by decide +kernel
theorem dX4_addFree_27 : decode cX4_addFree 27 = .ok (.getfield 29, 3) := by decide +kernel
theorem dX4_addFree_30 : decode cX4_addFree 30 = .ok (.aaload, 1) := by decide +kernel
theorem dX4_addFree_31 : decode cX4_addFree 31 = .ok (.iconst 0, 1) := by decide +kernel
theorem dX4_addFree_32 : decode cX4_addFree 32 = .ok (.bipush 36, 2) := by decide +kernel
theorem dX4_addFree_34 : decode cX4_addFree 34 = .ok (.invokestatic 42, 3) := by decide +kernel
theorem dX4_addFree_37 : decode cX4_addFree 37 = .ok (.aload_n 0, 1) := by decide +kernel
theorem dX4_addFree_38 : decode cX4_addFree 38 = .ok (.dup, 1) := by decide +kernel
theorem dX4_addFree_39 : decode cX4_addFree 39 = .ok (.getfield 29, 3) := by decide +kernel
theorem dX4_addFree_42 : decode cX4_addFree 42 = .ok (.iconst 1, 1) := by decide +kernel
theorem dX4_addFree_43 : decode cX4_addFree 43 = .ok (.iadd, 1) := by decide +kernel
theorem dX4_addFree_44 : decode cX4_addFree 44 = .ok (.putfield 29, 3) := by decide +kernel
theorem dX4_addFree_47 : decode cX4_addFree 47 = .ok (.return_, 1) := by decide +kernel
theorem dX4_run_0 : decode cX4_run 0 = .ok (.aload_n 0, 1) := by decide +kernel
theorem dX4_run_1 : decode cX4_run 1 = .ok (.sipush 1000, 3) := by decide +kernel
theorem dX4_run_4 : decode cX4_run 4 = .ok (.putfield 39, 3) := by decide +kernel
theorem dX4_run_7 : decode cX4_run 7 = .ok (.aload_n 0, 1) := by decide +kernel
theorem dX4_run_8 : decode cX4_run 8 = .ok (.iconst 0, 1) := by decide +kernel
theorem dX4_run_9 : decode cX4_run 9 = .ok (.aload_n 0, 1) := by decide +kernel
theorem dX4_run_10 : decode cX4_run 10 = .ok (.iconst 0, 1) := by decide +kernel
theorem dX4_run_11 : decode cX4_run 11 = .ok (.invokevirtual 54, 3) := by decide +kernel
theorem dX4_run_14 : decode cX4_run 14 = .ok (.invokevirtual 58, 3) := by decide +kernel
theorem dX4_run_17 : decode cX4_run 17 = .ok (.istore_n 1, 1) := by decide +kernel
theorem dX4_run_18 : decode cX4_run 18 = .ok (.iload_n 1, 1) := by decide +kernel
theorem dX4_run_19 : decode cX4_run 19 = .ok (.aload_n 0, 1) := by decide +kernel
theorem dX4_run_20 : decode cX4_run 20 = .ok (.getfield 39, 3) := by decide +kernel
theorem dX4_run_23 : decode cX4_run 23 = .ok (.if_icmp .ge 9, 3) := by decide +kernel
theorem dX4_run_26 : decode cX4_run 26 = .ok (.aload_n 0, 1) := by decide +kernel
theorem dX4_run_27 : decode cX4_run 27 = .ok (.iconst 0, 1) := by decide +kernel
theorem dX4_run_28 : decode cX4_run 28 = .ok (.iload_n 1, 1) := by decide +kernel
theorem dX4_run_29 : decode cX4_run 29 = .ok (.invokestatic 61, 3) := by decide +kernel
theorem dX4_run_32 : decode cX4_run 32 = .ok (.aload_n 0, 1) := by decide +kernel
theorem dX4_run_33 : decode cX4_run 33 = .ok (.getfield 39, 3) := by decide +kernel
theorem dX4_run_36 : decode cX4_run 36 = .ok (.sipush 1000, 3) := by decide +kernel
theorem dX4_run_39 : decode cX4_run 39 = .ok (.if_icmp .ge 10, 3) := by decide +kernel
theorem dX4_run_42 : decode cX4_run 42 = .ok (.aload_n 0, 1) := by decide +kernel
theorem dX4_run_43 : decode cX4_run 43 = .ok (.getfield 39, 3) := by decide +kernel
theorem dX4_run_46 : decode cX4_run 46 = .ok (.goto 4, 3) := by decide +kernel
theorem dX4_run_49 : decode cX4_run 49 = .ok (.iconst (-1), 1) := by decide +kernel
theorem dX4_run_50 : decode cX4_run 50 = .ok (.ireturn, 1) := by decide +kernel
theorem dX4_placeOfFree_0 : decode cX4_placeOfFree 0 = .ok (.iload_n 1, 1) := by decide +kernel
theorem dX4_placeOfFree_1 : decode cX4_placeOfFree 1 = .ok (.aload_n 0, 1) := by decide +kernel
theorem dX4_placeOfFree_2 : decode cX4_placeOfFree 2 = .ok (.getfield 29, 3) := by decide +kernel
theorem dX4_placeOfFree_5 : decode cX4_placeOfFree 5 = .ok (.if_icmp .ge 12, 3) := by decide +kernel
theorem dX4_placeOfFree_8 : decode cX4_placeOfFree 8 = .ok (.aload_n 0, 1) := by decide +kernel
theorem dX4_placeOfFree_9 : decode cX4_placeOfFree 9 = .ok (.getfield 11, 3) := by decide +kernel
theorem dX4_placeOfFree_12 : decode cX4_placeOfFree 12 = .ok (.iload_n 1, 1) := by decide +kernel
theorem dX4_placeOfFree_13 : decode cX4_placeOfFree 13 = .ok (.iaload, 1) := by decide +kernel
theorem dX4_placeOfFree_14 : decode cX4_placeOfFree 14 = .ok (.goto 7, 3) := by decide +kernel
theorem dX4_placeOfFree_17 : decode cX4_placeOfFree 17 = .ok (.aload_n 0, 1) := by decide +kernel
theorem dX4_placeOfFree_18 : decode cX4_placeOfFree 18 = .ok (.getfield 33, 3) := by decide +kernel
theorem dX4_placeOfFree_21 : decode cX4_placeOfFree 21 = .ok (.ireturn, 1) := by decide +kernel
theorem dX4_costOf_0 : decode cX4_costOf 0 = .ok (.iconst 0, 1) := by decide +kernel
theorem dX4_costOf_1 : decode cX4_costOf 1 = .ok (.istore_n 3, 1) := by decide +kernel
theorem dX4_costOf_2 : decode cX4_costOf 2 = .ok (.iload_n 1, 1) := by decide +kernel
theorem dX4_costOf_3 : decode cX4_costOf 3 = .ok (.istore 4, 2) := by decide +kernel
theorem dX4_costOf_5 : decode cX4_costOf 5 = .ok (.iload 4, 2) := by decide +kernel
theorem dX4_costOf_7 : decode cX4_costOf 7 = .ok (.iload_n 2, 1) := by decide +kernel
theorem dX4_costOf_8 : decode cX4_costOf 8 = .ok (.if_icmp .ge 29, 3) := by decide +kernel
theorem dX4_costOf_11 : decode cX4_costOf 11 = .ok (.iload_n 3, 1) := by decide +kernel
theorem dX4_costOf_12 : decode cX4_costOf 12 = .ok (.aload_n 0, 1) := by decide +kernel
theorem dX4_costOf_13 : decode cX4_costOf 13 = .ok (.getfield 20, 3) := by decide +kernel
theorem dX4_costOf_16 : decode cX4_costOf 16 = .ok (.iload 4, 2) := by decide +kernel
theorem dX4_costOf_18 : decode cX4_costOf 18 = .ok (.iconst 5, 1) := by decide +kernel
theorem dX4_costOf_19 : decode cX4_costOf 19 = .ok (.imul, 1) := by decide +kernel
theorem dX4_costOf_20 : decode cX4_costOf 20 = .ok (.aload_n 0, 1) := by decide +kernel
theorem dX4_costOf_21 : decode cX4_costOf 21 = .ok (.getfield 23, 3) := by decide +kernel
theorem dX4_costOf_24 : decode cX4_costOf 24 = .ok (.iload 4, 2) := by decide +kernel
theorem dX4_costOf_26 : decode cX4_costOf 26 = .ok (.iaload, 1) := by decide +kernel
theorem dX4_costOf_27 : decode cX4_costOf 27 = .ok (.iadd, 1) := by decide +kernel
theorem dX4_costOf_28 : decode cX4_costOf 28 = .ok (.iaload, 1) := by decide +kernel
theorem dX4_costOf_29 : decode cX4_costOf 29 = .ok (.iadd, 1) := by decide +kernel
theorem dX4_costOf_30 : decode cX4_costOf 30 = .ok (.istore_n 3, 1) := by decide +kernel
theorem dX4_costOf_31 : decode cX4_costOf 31 = .ok (.iinc 4 1, 3) := by decide +kernel
theorem dX4_costOf_34 : decode cX4_costOf 34 = .ok (.goto (-29), 3) := by decide +kernel
theorem dX4_costOf_37 : decode cX4_costOf 37 = .ok (.iload_n 3, 1) := by decide +kernel
theorem dX4_costOf_38 : decode cX4_costOf 38 = .ok (.ireturn, 1) := by decide +kernel
theorem dX4_seek_0 : decode cX4_seek 0 = .ok (.iload_n 1, 1) := by decide +kernel
theorem dX4_seek_1 : decode cX4_seek 1 = .ok (.aload_n 0, 1) := by decide +kernel
theorem dX4_seek_2 : decode cX4_seek 2 = .ok (.getfield 29, 3) := by decide +kernel
theorem dX4_seek_5 : decode cX4_seek 5 = .ok (.if_icmp .lt 24, 3) := by decide +kernel
theorem dX4_seek_8 : decode cX4_seek 8 = .ok (.aload_n 0, 1) := by decide +kernel
theorem dX4_seek_9 : decode cX4_seek 9 = .ok (.iload_n 2, 1) := by decide +kernel
theorem dX4_seek_10 : decode cX4_seek 10 = .ok (.putfield 39, 3) := by decide +kernel
theorem dX4_seek_13 : decode cX4_seek 13 = .ok (.aload_n 0, 1) := by decide +kernel
theorem dX4_seek_14 : decode cX4_seek 14 = .ok (.getfield 23, 3) := by decide +kernel
theorem dX4_seek_17 : decode cX4_seek 17 = .ok (.iconst 0, 1) := by decide +kernel
theorem dX4_seek_18 : decode cX4_seek 18 = .ok (.aload_n 0, 1) := by decide +kernel
theorem dX4_seek_19 : decode cX4_seek 19 = .ok (.getfield 26, 3) := by decide +kernel
theorem dX4_seek_22 : decode cX4_seek 22 = .ok (.iconst 0, 1) := by decide +kernel
theorem dX4_seek_23 : decode cX4_seek 23 = .ok (.bipush 36, 2) := by decide +kernel
theorem dX4_seek_25 : decode cX4_seek 25 = .ok (.invokestatic 42, 3) := by decide +kernel
theorem dX4_seek_28 : decode cX4_seek 28 = .ok (.return_, 1) := by decide +kernel
theorem dX4_seek_29 : decode cX4_seek 29 = .ok (.aload_n 0, 1) := by decide +kernel
theorem dX4_seek_30 : decode cX4_seek 30 = .ok (.iload_n 1, 1) := by decide +kernel
theorem dX4_seek_31 : decode cX4_seek 31 = .ok (.invokevirtual 54, 3) := by decide +kernel
theorem dX4_seek_34 : decode cX4_seek 34 = .ok (.istore_n 3, 1) := by decide +kernel
theorem dX4_seek_35 : decode cX4_seek 35 = .ok (.aload_n 0, 1) := by decide +kernel
theorem dX4_seek_36 : decode cX4_seek 36 = .ok (.iload_n 1, 1) := by decide +kernel
theorem dX4_seek_37 : decode cX4_seek 37 = .ok (.iconst 1, 1) := by decide +kernel
theorem dX4_seek_38 : decode cX4_seek 38 = .ok (.iadd, 1) := by decide +kernel
theorem dX4_seek_39 : decode cX4_seek 39 = .ok (.invokevirtual 54, 3) := by decide +kernel
theorem dX4_seek_42 : decode cX4_seek 42 = .ok (.istore 4, 2) := by decide +kernel
theorem dX4_seek_44 : decode cX4_seek 44 = .ok (.iconst 0, 1) := by decide +kernel
theorem dX4_seek_45 : decode cX4_seek 45 = .ok (.istore 5, 2) := by decide +kernel
theorem dX4_seek_47 : decode cX4_seek 47 = .ok (.iload 5, 2) := by decide +kernel
theorem dX4_seek_49 : decode cX4_seek 49 = .ok (.aload_n 0, 1) := by decide +kernel
theorem dX4_seek_50 : decode cX4_seek 50 = .ok (.getfield 36, 3) := by decide +kernel
theorem dX4_seek_53 : decode cX4_seek 53 = .ok (.if_icmp .ge 44, 3) := by decide +kernel
theorem dX4_seek_56 : decode cX4_seek 56 = .ok (.iload_n 2, 1) := by decide +kernel
theorem dX4_seek_57 : decode cX4_seek 57 = .ok (.aload_n 0, 1) := by decide +kernel
theorem dX4_seek_58 : decode cX4_seek 58 = .ok (.iload_n 3, 1) := by decide +kernel
theorem dX4_seek_59 : decode cX4_seek 59 = .ok (.iload 4, 2) := by decide +kernel
theorem dX4_seek_61 : decode cX4_seek 61 = .ok (.invokevirtual 58, 3) := by decide +kernel
theorem dX4_seek_64 : decode cX4_seek 64 = .ok (.iadd, 1) := by decide +kernel
theorem dX4_seek_65 : decode cX4_seek 65 = .ok (.istore 6, 2) := by decide +kernel
theorem dX4_seek_67 : decode cX4_seek 67 = .ok (.iload 6, 2) := by decide +kernel
theorem dX4_seek_69 : decode cX4_seek 69 = .ok (.aload_n 0, 1) := by decide +kernel
theorem dX4_seek_70 : decode cX4_seek 70 = .ok (.getfield 39, 3) := by decide +kernel
theorem dX4_seek_73 : decode cX4_seek 73 = .ok (.if_icmp .ge 12, 3) := by decide +kernel
theorem dX4_seek_76 : decode cX4_seek 76 = .ok (.aload_n 0, 1) := by decide +kernel
theorem dX4_seek_77 : decode cX4_seek 77 = .ok (.iload_n 1, 1) := by decide +kernel
theorem dX4_seek_78 : decode cX4_seek 78 = .ok (.iconst 1, 1) := by decide +kernel
theorem dX4_seek_79 : decode cX4_seek 79 = .ok (.iadd, 1) := by decide +kernel
theorem dX4_seek_80 : decode cX4_seek 80 = .ok (.iload 6, 2) := by decide +kernel
theorem dX4_seek_82 : decode cX4_seek 82 = .ok (.invokestatic 61, 3) := by decide +kernel
theorem dX4_seek_85 : decode cX4_seek 85 = .ok (.aload_n 0, 1) := by decide +kernel
theorem dX4_seek_86 : decode cX4_seek 86 = .ok (.iload_n 1, 1) := by decide +kernel
theorem dX4_seek_87 : decode cX4_seek 87 = .ok (.iload_n 3, 1) := by decide +kernel
theorem dX4_seek_88 : decode cX4_seek 88 = .ok (.invokevirtual 65, 3) := by decide +kernel
theorem dX4_seek_91 : decode cX4_seek 91 = .ok (.iinc 5 1, 3) := by decide +kernel
theorem dX4_seek_94 : decode cX4_seek 94 = .ok (.goto (-47), 3) := by decide +kernel
theorem dX4_seek_97 : decode cX4_seek 97 = .ok (.return_, 1) := by decide +kernel
theorem dX4_stepRow_0 : decode cX4_stepRow 0 = .ok (.aload_n 0, 1) := by decide +kernel
theorem dX4_stepRow_1 : decode cX4_stepRow 1 = .ok (.getfield 17, 3) := by decide +kernel
theorem dX4_stepRow_4 : decode cX4_stepRow 4 = .ok (.iload_n 1, 1) := by decide +kernel
theorem dX4_stepRow_5 : decode cX4_stepRow 5 = .ok (.aaload, 1) := by decide +kernel
theorem dX4_stepRow_6 : decode cX4_stepRow 6 = .ok (.astore_n 3, 1) := by decide +kernel
theorem dX4_stepRow_7 : decode cX4_stepRow 7 = .ok (.iload_n 2, 1) := by decide +kernel
theorem dX4_stepRow_8 : decode cX4_stepRow 8 = .ok (.istore 4, 2) := by decide +kernel
theorem dX4_stepRow_10 : decode cX4_stepRow 10 = .ok (.iload 4, 2) := by decide +kernel
theorem dX4_stepRow_12 : decode cX4_stepRow 12 = .ok (.aload_n 0, 1) := by decide +kernel
theorem dX4_stepRow_13 : decode cX4_stepRow 13 = .ok (.getfield 33, 3) := by decide +kernel
theorem dX4_stepRow_16 : decode cX4_stepRow 16 = .ok (.if_icmp .ge 58, 3) := by decide +kernel
theorem dX4_stepRow_19 : decode cX4_stepRow 19 = .ok (.aload_n 3, 1) := by decide +kernel
theorem dX4_stepRow_20 : decode cX4_stepRow 20 = .ok (.iload 4, 2) := by decide +kernel
theorem dX4_stepRow_22 : decode cX4_stepRow 22 = .ok (.iaload, 1) := by decide +kernel
theorem dX4_stepRow_23 : decode cX4_stepRow 23 = .ok (.ifCond .eq 45, 3) := by decide +kernel
theorem dX4_stepRow_26 : decode cX4_stepRow 26 = .ok (.aload_n 0, 1) := by decide +kernel
theorem dX4_stepRow_27 : decode cX4_stepRow 27 = .ok (.getfield 23, 3) := by decide +kernel
theorem dX4_stepRow_30 : decode cX4_stepRow 30 = .ok (.iload 4, 2) := by decide +kernel
theorem dX4_stepRow_32 : decode cX4_stepRow 32 = .ok (.iaload, 1) := by decide +kernel
theorem dX4_stepRow_33 : decode cX4_stepRow 33 = .ok (.aload_n 3, 1) := by decide +kernel
theorem dX4_stepRow_34 : decode cX4_stepRow 34 = .ok (.iload 4, 2) := by decide +kernel
theorem dX4_stepRow_36 : decode cX4_stepRow 36 = .ok (.iaload, 1) := by decide +kernel
theorem dX4_stepRow_37 : decode cX4_stepRow 37 = .ok (.iadd, 1) := by decide +kernel
theorem dX4_stepRow_38 : decode cX4_stepRow 38 = .ok (.istore 5, 2) := by decide +kernel
theorem dX4_stepRow_40 : decode cX4_stepRow 40 = .ok (.aload_n 0, 1) := by decide +kernel
theorem dX4_stepRow_41 : decode cX4_stepRow 41 = .ok (.getfield 23, 3) := by decide +kernel
theorem dX4_stepRow_44 : decode cX4_stepRow 44 = .ok (.iload 4, 2) := by decide +kernel
theorem dX4_stepRow_46 : decode cX4_stepRow 46 = .ok (.iload 5, 2) := by decide +kernel
theorem dX4_stepRow_48 : decode cX4_stepRow 48 = .ok (.aload_n 0, 1) := by decide +kernel
theorem dX4_stepRow_49 : decode cX4_stepRow 49 = .ok (.getfield 36, 3) := by decide +kernel
theorem dX4_stepRow_52 : decode cX4_stepRow 52 = .ok (.if_icmp .lt 13, 3) := by decide +kernel
theorem dX4_stepRow_55 : decode cX4_stepRow 55 = .ok (.iload 5, 2) := by decide +kernel
theorem dX4_stepRow_57 : decode cX4_stepRow 57 = .ok (.aload_n 0, 1) := by decide +kernel
theorem dX4_stepRow_58 : decode cX4_stepRow 58 = .ok (.getfield 36, 3) := by decide +kernel
theorem dX4_stepRow_61 : decode cX4_stepRow 61 = .ok (.isub, 1) := by decide +kernel
theorem dX4_stepRow_62 : decode cX4_stepRow 62 = .ok (.goto 5, 3) := by decide +kernel
theorem dX4_stepRow_65 : decode cX4_stepRow 65 = .ok (.iload 5, 2) := by decide +kernel
theorem dX4_stepRow_67 : decode cX4_stepRow 67 = .ok (.iastore, 1) := by decide +kernel
theorem dX4_stepRow_68 : decode cX4_stepRow 68 = .ok (.iinc 4 1, 3) := by decide +kernel
theorem dX4_stepRow_71 : decode cX4_stepRow 71 = .ok (.goto (-61), 3) := by decide +kernel
theorem dX4_stepRow_74 : decode cX4_stepRow 74 = .ok (.return_, 1) := by decide +kernel
theorem dX5_init_0 : decode cX5_init 0 = .ok (.aload_n 0, 1) := by decide +kernel
theorem dX5_init_1 : decode cX5_init 1 = .ok (.invokespecial 3, 3) := by decide +kernel
theorem dX5_init_4 : decode cX5_init 4 = .ok (.aload_n 0, 1) := by decide +kernel
theorem dX5_init_5 : decode cX5_init 5 = .ok (.bipush 36, 2) := by decide +kernel
theorem dX5_init_7 : decode cX5_init 7 = .ok (.bipush 36, 2) := by decide +kernel
theorem dX5_init_9 : decode cX5_init 9 = .ok (.multianewarray 9 2, 4) := by decide +kernel
theorem dX5_init_13 : decode cX5_init 13 = .ok (.putfield 11, 3) := by decide +kernel
theorem dX5_init_16 : decode cX5_init 16 = .ok (.aload_n 0, 1) := by decide +kernel
theorem dX5_init_17 : decode cX5_init 17 = .ok (.bipush 36, 2) := by decide +kernel
theorem dX5_init_19 : decode cX5_init 19 = .ok (.newarray .int, 2) := by decide +kernel
theorem dX5_init_21 : decode cX5_init 21 = .ok (.putfield 16, 3) := by decide +kernel
theorem dX5_init_24 : decode cX5_init 24 = .ok (.aload_n 0, 1) := by decide +kernel
theorem dX5_init_25 : decode cX5_init 25 = .ok (.bipush 36, 2) := by decide +kernel
theorem dX5_init_27 : decode cX5_init 27 = .ok (.bipush 36, 2) := by decide +kernel
theorem dX5_init_29 : decode cX5_init 29 = .ok (.multianewarray 9 2, 4) := by decide +kernel
theorem dX5_init_33 : decode cX5_init 33 = .ok (.putfield 20, 3) := by decide +kernel
theorem dX5_init_36 : decode cX5_init 36 = .ok (.aload_n 0, 1) := by decide +kernel
theorem dX5_init_37 : decode cX5_init 37 = .ok (.bipush 36, 2) := by decide +kernel
theorem dX5_init_39 : decode cX5_init 39 = .ok (.newarray .int, 2) := by decide +kernel
theorem dX5_init_41 : decode cX5_init 41 = .ok (.putfield 23, 3) := by decide +kernel
theorem dX5_init_44 : decode cX5_init 44 = .ok (.aload_n 0, 1) := by decide +kernel
theorem dX5_init_45 : decode cX5_init 45 = .ok (.bipush 36, 2) := by decide +kernel
theorem dX5_init_47 : decode cX5_init 47 = .ok (.newarray .int, 2) := by decide +kernel
theorem dX5_init_49 : decode cX5_init 49 = .ok (.putfield 26, 3) := by decide +kernel
theorem dX5_init_52 : decode cX5_init 52 = .ok (.aload_n 0, 1) := by decide +kernel
theorem dX5_init_53 : decode cX5_init 53 = .ok (.iconst 0, 1) := by decide +kernel
theorem dX5_init_54 : decode cX5_init 54 = .ok (.putfield 29, 3) := by decide +kernel
theorem dX5_init_57 : decode cX5_init 57 = .ok (.aload_n 0, 1) := by decide +kernel
theorem dX5_init_58 : decode cX5_init 58 = .ok (.iconst 0, 1) := by decide +kernel
theorem dX5_init_59 : decode cX5_init 59 = .ok (.putfield 33, 3) := by decide +kernel
theorem dX5_init_62 : decode cX5_init 62 = .ok (.aload_n 0, 1) := by decide +kernel
theorem dX5_init_63 : decode cX5_init 63 = .ok (.iconst 0, 1) := by decide +kernel
theorem dX5_init_64 : decode cX5_init 64 = .ok (.putfield 36, 3) := by decide +kernel
theorem dX5_init_67 : decode cX5_init 67 = .ok (.aload_n 0, 1) := by decide +kernel
theorem dX5_init_68 : decode cX5_init 68 = .ok (.iconst 2, 1) := by decide +kernel
theorem dX5_init_69 : decode cX5_init 69 = .ok (.putfield 39, 3) := by decide +kernel
theorem dX5_init_72 : decode cX5_init 72 = .ok (.return_, 1) := by decide +kernel
theorem dX5_begin_0 : decode cX5_begin 0 = .ok (.aload_n 0, 1) := by decide +kernel
theorem dX5_begin_1 : decode cX5_begin 1 = .ok (.iload_n 1, 1) := by decide +kernel
theorem dX5_begin_2 : decode cX5_begin 2 = .ok (.putfield 36, 3) := by decide +kernel
theorem dX5_begin_5 : decode cX5_begin 5 = .ok (.aload_n 0, 1) := by decide +kernel
theorem dX5_begin_6 : decode cX5_begin 6 = .ok (.iload_n 2, 1) := by decide +kernel
theorem dX5_begin_7 : decode cX5_begin 7 = .ok (.putfield 39, 3) := by decide +kernel
theorem dX5_begin_10 : decode cX5_begin 10 = .ok (.aload_n 0, 1) := by decide +kernel
theorem dX5_begin_11 : decode cX5_begin 11 = .ok (.iconst 0, 1) := by decide +kernel
theorem dX5_begin_12 : decode cX5_begin 12 = .ok (.putfield 29, 3) := by decide +kernel
theorem dX5_begin_15 : decode cX5_begin 15 = .ok (.aload_n 0, 1) := by decide +kernel
theorem dX5_begin_16 : decode cX5_begin 16 = .ok (.iconst 0, 1) := by decide +kernel
theorem dX5_begin_17 : decode cX5_begin 17 = .ok (.putfield 33, 3) := by decide +kernel
theorem dX5_begin_20 : decode cX5_begin 20 = .ok (.return_, 1) := by decide +kernel
theorem dX5_admit_0 : decode cX5_admit 0 = .ok (.aload_n 2, 1) := by decide +kernel
theorem dX5_admit_1 : decode cX5_admit 1 = .ok (.iconst 0, 1) := by decide +kernel
theorem dX5_admit_2 : decode cX5_admit 2 = .ok (.aload_n 0, 1) := by decide +kernel
theorem dX5_admit_3 : decode cX5_admit 3 = .ok (.getfield 11, 3) := by decide +kernel
theorem dX5_admit_6 : decode cX5_admit 6 = .ok (.iload_n 1, 1) := by decide +kernel
theorem dX5_admit_7 : decode cX5_admit 7 = .ok (.aaload, 1) := by decide +kernel
theorem dX5_admit_8 : decode cX5_admit 8 = .ok (.iconst 0, 1) := by decide +kernel
theorem dX5_admit_9 : decode cX5_admit 9 = .ok (.bipush 36, 2) := by decide +kernel
theorem dX5_admit_11 : decode cX5_admit 11 = .ok (.invokestatic 42, 3) := by decide +kernel
theorem dX5_admit_14 : decode cX5_admit 14 = .ok (.aload_n 0, 1) := by decide +kernel
theorem dX5_admit_15 : decode cX5_admit 15 = .ok (.getfield 20, 3) := by decide +kernel
theorem dX5_admit_18 : decode cX5_admit 18 = .ok (.iload_n 1, 1) := by decide +kernel
theorem dX5_admit_19 : decode cX5_admit 19 = .ok (.aaload, 1) := by decide +kernel
theorem dX5_admit_20 : decode cX5_admit 20 = .ok (.iconst 0, 1) := by decide +kernel
theorem dX5_admit_21 : decode cX5_admit 21 = .ok (.invokestatic 48, 3) := by decide +kernel
theorem dX5_admit_24 : decode cX5_admit 24 = .ok (.aload_n 0, 1) := by decide +kernel
theorem dX5_admit_25 : decode cX5_admit 25 = .ok (.getfield 20, 3) := by decide +kernel
theorem dX5_admit_28 : decode cX5_admit 28 = .ok (.iload_n 1, 1) := by decide +kernel
theorem dX5_admit_29 : decode cX5_admit 29 = .ok (.aaload, 1) := by decide +kernel
theorem dX5_admit_30 : decode cX5_admit 30 = .ok (.iload_n 1, 1) := by decide +kernel
theorem dX5_admit_31 : decode cX5_admit 31 = .ok (.iconst 1, 1) := by decide +kernel
theorem dX5_admit_32 : decode cX5_admit 32 = .ok (.iastore, 1) := by decide +kernel
theorem dX5_admit_33 : decode cX5_admit 33 = .ok (.iconst 0, 1) := by decide +kernel
theorem dX5_admit_34 : decode cX5_admit 34 = .ok (.istore_n 3, 1) := by decide +kernel
theorem dX5_admit_35 : decode cX5_admit 35 = .ok (.iload_n 3, 1) := by decide +kernel
theorem dX5_admit_36 : decode cX5_admit 36 = .ok (.aload_n 0, 1) := by decide +kernel
theorem dX5_admit_37 : decode cX5_admit 37 = .ok (.getfield 29, 3) := by decide +kernel
theorem dX5_admit_40 : decode cX5_admit 40 = .ok (.if_icmp .ge 99, 3) := by decide +kernel
theorem dX5_admit_43 : decode cX5_admit 43 = .ok (.aload_n 0, 1) := by decide +kernel
theorem dX5_admit_44 : decode cX5_admit 44 = .ok (.getfield 23, 3) := by decide +kernel
theorem dX5_admit_47 : decode cX5_admit 47 = .ok (.iload_n 3, 1) := by decide +kernel
theorem dX5_admit_48 : decode cX5_admit 48 = .ok (.iaload, 1) := by decide +kernel
theorem dX5_admit_49 : decode cX5_admit 49 = .ok (.istore 4, 2) := by decide +kernel
theorem dX5_admit_51 : decode cX5_admit 51 = .ok (.aload_n 0, 1) := by decide +kernel
theorem dX5_admit_52 : decode cX5_admit 52 = .ok (.getfield 39, 3) := by decide +kernel
theorem dX5_admit_55 : decode cX5_admit 55 = .ok (.aload_n 0, 1) := by decide +kernel
theorem dX5_admit_56 : decode cX5_admit 56 = .ok (.getfield 11, 3) := by decide +kernel
theorem dX5_admit_59 : decode cX5_admit 59 = .ok (.iload_n 1, 1) := by decide +kernel
theorem dX5_admit_60 : decode cX5_admit 60 = .ok (.aaload, 1) := by decide +kernel
theorem dX5_admit_61 : decode cX5_admit 61 = .ok (.aload_n 0, 1) := by decide +kernel
theorem dX5_admit_62 : decode cX5_admit 62 = .ok (.getfield 16, 3) := by decide +kernel
theorem dX5_admit_65 : decode cX5_admit 65 = .ok (.iload 4, 2) := by decide +kernel
theorem dX5_admit_67 : decode cX5_admit 67 = .ok (.iaload, 1) := by decide +kernel
theorem dX5_admit_68 : decode cX5_admit 68 = .ok (.iaload, 1) := by decide +kernel
theorem dX5_admit_69 : decode cX5_admit 69 = .ok (.isub, 1) := by decide +kernel
theorem dX5_admit_70 : decode cX5_admit 70 = .ok (.istore 5, 2) := by decide +kernel
theorem dX5_admit_72 : decode cX5_admit 72 = .ok (.iload 5, 2) := by decide +kernel
theorem dX5_admit_74 : decode cX5_admit 74 = .ok (.aload_n 0, 1) := by decide +kernel
theorem dX5_admit_75 : decode cX5_admit 75 = .ok (.getfield 39, 3) := by decide +kernel
theorem dX5_admit_78 : decode cX5_admit 78 = .ok (.if_icmp .ge 55, 3) := by decide +kernel
theorem dX5_admit_81 : decode cX5_admit 81 = .ok (.aload_n 0, 1) := by decide +kernel
theorem dX5_admit_82 : decode cX5_admit 82 = .ok (.getfield 11, 3) := by decide +kernel
theorem dX5_admit_85 : decode cX5_admit 85 = .ok (.iload_n 1, 1) := by decide +kernel
theorem dX5_admit_86 : decode cX5_admit 86 = .ok (.aaload, 1) := by decide +kernel
theorem dX5_admit_87 : decode cX5_admit 87 = .ok (.aload_n 0, 1) := by decide +kernel
theorem dX5_admit_88 : decode cX5_admit 88 = .ok (.getfield 11, 3) := by decide +kernel
theorem dX5_admit_91 : decode cX5_admit 91 = .ok (.iload 4, 2) := by decide +kernel
theorem dX5_admit_93 : decode cX5_admit 93 = .ok (.aaload, 1) := by decide +kernel
theorem dX5_admit_94 : decode cX5_admit 94 = .ok (.iload 5, 2) := by decide +kernel
theorem dX5_admit_96 : decode cX5_admit 96 = .ok (.aload_n 0, 1) := by decide +kernel
theorem dX5_admit_97 : decode cX5_admit 97 = .ok (.getfield 39, 3) := by decide +kernel
theorem dX5_admit_100 : decode cX5_admit 100 = .ok (.aload_n 0, 1) := by decide +kernel
theorem dX5_admit_101 : decode cX5_admit 101 = .ok (.getfield 36, 3) := by decide +kernel
theorem dX5_admit_104 : decode cX5_admit 104 = .ok (.invokestatic 54, 3) := by decide +kernel
theorem dX5_admit_107 : decode cX5_admit 107 = .ok (.aload_n 0, 1) := by decide +kernel
theorem dX5_admit_108 : decode cX5_admit 108 = .ok (.getfield 20, 3) := by decide +kernel
theorem dX5_admit_111 : decode cX5_admit 111 = .ok (.iload_n 1, 1) := by decide +kernel
theorem dX5_admit_112 : decode cX5_admit 112 = .ok (.aaload, 1) := by decide +kernel
theorem dX5_admit_113 : decode cX5_admit 113 = .ok (.aload_n 0, 1) := by decide +kernel
theorem dX5_admit_114 : decode cX5_admit 114 = .ok (.getfield 20, 3) := by decide +kernel
theorem dX5_admit_117 : decode cX5_admit 117 = .ok (.iload 4, 2) := by decide +kernel
theorem dX5_admit_119 : decode cX5_admit 119 = .ok (.aaload, 1) := by decide +kernel
theorem dX5_admit_120 : decode cX5_admit 120 = .ok (.iload 5, 2) := by decide +kernel
theorem dX5_admit_122 : decode cX5_admit 122 = .ok (.aload_n 0, 1) := by decide +kernel
theorem dX5_admit_123 : decode cX5_admit 123 = .ok (.getfield 39, 3) := by decide +kernel
theorem dX5_admit_126 : decode cX5_admit 126 = .ok (.aload_n 0, 1) := by decide +kernel
theorem dX5_admit_127 : decode cX5_admit 127 = .ok (.getfield 36, 3) := by decide +kernel
theorem dX5_admit_130 : decode cX5_admit 130 = .ok (.invokestatic 54, 3) := by decide +kernel
theorem dX5_admit_133 : decode cX5_admit 133 = .ok (.iinc 3 1, 3) := by decide +kernel
theorem dX5_admit_136 : decode cX5_admit 136 = .ok (.goto (-101), 3) := by decide +kernel
theorem dX5_admit_139 : decode cX5_admit 139 = .ok (.aload_n 0, 1) := by decide +kernel
theorem dX5_admit_140 : decode cX5_admit 140 = .ok (.getfield 16, 3) := by decide +kernel
theorem dX5_admit_143 : decode cX5_admit 143 = .ok (.iload_n 1, 1) := by decide +kernel
theorem dX5_admit_144 : decode cX5_admit 144 = .ok (.aload_n 0, 1) := by decide +kernel
theorem dX5_admit_145 : decode cX5_admit 145 = .ok (.aload_n 0, 1) := by decide +kernel
theorem dX5_admit_146 : decode cX5_admit 146 = .ok (.getfield 11, 3) := by decide +kernel
theorem dX5_admit_149 : decode cX5_admit 149 = .ok (.iload_n 1, 1) := by decide +kernel
theorem dX5_admit_150 : decode cX5_admit 150 = .ok (.aaload, 1) := by decide +kernel
theorem dX5_admit_151 : decode cX5_admit 151 = .ok (.invokevirtual 58, 3) := by decide +kernel
theorem dX5_admit_154 : decode cX5_admit 154 = .ok (.iastore, 1) := by decide +kernel
theorem dX5_admit_155 : decode cX5_admit 155 = .ok (.aload_n 0, 1) := by decide +kernel
theorem dX5_admit_156 : decode cX5_admit 156 = .ok (.getfield 16, 3) := by decide +kernel
theorem dX5_admit_159 : decode cX5_admit 159 = .ok (.iload_n 1, 1) := by decide +kernel
theorem dX5_admit_160 : decode cX5_admit 160 = .ok (.iaload, 1) := by decide +kernel
theorem dX5_admit_161 : decode cX5_admit 161 = .ok (.iconst (-1), 1) := by decide +kernel
theorem dX5_admit_162 : decode cX5_admit 162 = .ok (.if_icmp .ne 26, 3) := by decide +kernel
theorem dX5_admit_165 : decode cX5_admit 165 = .ok (.aload_n 0, 1) := by decide +kernel
theorem dX5_admit_166 : decode cX5_admit 166 = .ok (.getfield 26, 3) := by decide +kernel
theorem dX5_admit_169 : decode cX5_admit 169 = .ok (.aload_n 0, 1) := by decide +kernel
theorem dX5_admit_170 : decode cX5_admit 170 = .ok (.getfield 33, 3) := by decide +kernel
theorem dX5_admit_173 : decode cX5_admit 173 = .ok (.iload_n 1, 1) := by decide +kernel
theorem dX5_admit_174 : decode cX5_admit 174 = .ok (.iastore, 1) := by decide +kernel
theorem dX5_admit_175 : decode cX5_admit 175 = .ok (.aload_n 0, 1) := by decide +kernel
theorem dX5_admit_176 : decode cX5_admit 176 = .ok (.dup, 1) := by decide +kernel
theorem dX5_admit_177 : decode cX5_admit 177 = .ok (.getfield 33, 3) := by decide +kernel
theorem dX5_admit_180 : decode cX5_admit 180 = .ok (.iconst 1, 1) := by decide +kernel
theorem dX5_admit_181 : decode cX5_admit 181 = .ok (.iadd, 1) := by decide +kernel
theorem dX5_admit_182 : decode cX5_admit 182 = .ok (.putfield 33, 3) := by decide +kernel
theorem dX5_admit_185 : decode cX5_admit 185 = .ok (.goto 28, 3) := by decide +kernel
theorem dX5_admit_188 : decode cX5_admit 188 = .ok (.aload_n 0, 1) := by decide +kernel
theorem dX5_admit_189 : decode cX5_admit 189 = .ok (.getfield 23, 3) := by decide +kernel
theorem dX5_admit_192 : decode cX5_admit 192 = .ok (.aload_n 0, 1) := by decide +kernel
theorem dX5_admit_193 : decode cX5_admit 193 = .ok (.getfield 29, 3) := by decide +kernel
theorem dX5_admit_196 : decode cX5_admit 196 = .ok (.iload_n 1, 1) := by decide +kernel
theorem dX5_admit_197 : decode cX5_admit 197 = .ok (.iastore, 1) := by decide +kernel
theorem dX5_admit_198 : decode cX5_admit 198 = .ok (.aload_n 0, 1) := by decide +kernel
theorem dX5_admit_199 : decode cX5_admit 199 = .ok (.dup, 1) := by decide +kernel
theorem dX5_admit_200 : decode cX5_admit 200 = .ok (.getfield 29, 3) := by decide +kernel
theorem dX5_admit_203 : decode cX5_admit 203 = .ok (.iconst 1, 1) := by decide +kernel
theorem dX5_admit_204 : decode cX5_admit 204 = .ok (.iadd, 1) := by decide +kernel
theorem dX5_admit_205 : decode cX5_admit 205 = .ok (.putfield 29, 3) := by decide +kernel
theorem dX5_admit_208 : decode cX5_admit 208 = .ok (.aload_n 0, 1) := by decide +kernel
theorem dX5_admit_209 : decode cX5_admit 209 = .ok (.iload_n 1, 1) := by decide +kernel
theorem dX5_admit_210 : decode cX5_admit 210 = .ok (.invokevirtual 62, 3) := by decide +kernel
theorem dX5_admit_213 : decode cX5_admit 213 = .ok (.return_, 1) := by decide +kernel
theorem dX5_makePivotOne_0 : decode cX5_makePivotOne 0 = .ok (.aload_n 0, 1) := by decide +kernel
theorem dX5_makePivotOne_1 : decode cX5_makePivotOne 1 = .ok (.getfield 11, 3) := by decide +kernel
theorem dX5_makePivotOne_4 : decode cX5_makePivotOne 4 = .ok (.iload_n 1, 1) := by decide +kernel
theorem dX5_makePivotOne_5 : decode cX5_makePivotOne 5 = .ok (.aaload, 1) := by decide +kernel
theorem dX5_makePivotOne_6 : decode cX5_makePivotOne 6 = .ok (.aload_n 0, 1) := by decide +kernel
theorem dX5_makePivotOne_7 : decode cX5_makePivotOne 7 = .ok (.getfield 16, 3) := by decide +kernel
theorem dX5_makePivotOne_10 : decode cX5_makePivotOne 10 = .ok (.iload_n 1, 1) := by decide +kernel
theorem dX5_makePivotOne_11 : decode cX5_makePivotOne 11 = .ok (.iaload, 1) := by decide +kernel
theorem dX5_makePivotOne_12 : decode cX5_makePivotOne 12 = .ok (.iaload, 1) := by decide +kernel
theorem dX5_makePivotOne_13 : decode cX5_makePivotOne 13 = .ok (.aload_n 0, 1) := by decide +kernel
theorem dX5_makePivotOne_14 : decode cX5_makePivotOne 14 = .ok (.getfield 39, 3) := by decide +kernel
theorem dX5_makePivotOne_17 : decode cX5_makePivotOne 17 = .ok (.invokestatic 66, 3) := by decide +kernel
theorem dX5_makePivotOne_20 : decode cX5_makePivotOne 20 = .ok (.istore_n 2, 1) := by decide +kernel
theorem dX5_makePivotOne_21 : decode cX5_makePivotOne 21 = .ok (.iconst 0, 1) := by decide +kernel
theorem dX5_makePivotOne_22 : decode cX5_makePivotOne 22 = .ok (.istore_n 3, 1) := by decide +kernel
theorem dX5_makePivotOne_23 : decode cX5_makePivotOne 23 = .ok (.iload_n 3, 1) := by decide +kernel
theorem dX5_makePivotOne_24 : decode cX5_makePivotOne 24 = .ok (.aload_n 0, 1) := by decide +kernel
theorem dX5_makePivotOne_25 : decode cX5_makePivotOne 25 = .ok (.getfield 36, 3) := by decide +kernel
theorem dX5_makePivotOne_28 : decode cX5_makePivotOne 28 = .ok (.if_icmp .ge 59, 3) := by decide +kernel
theorem dX5_makePivotOne_31 : decode cX5_makePivotOne 31 = .ok (.aload_n 0, 1) := by decide +kernel
theorem dX5_makePivotOne_32 : decode cX5_makePivotOne 32 = .ok (.getfield 11, 3) := by decide +kernel
theorem dX5_makePivotOne_35 : decode cX5_makePivotOne 35 = .ok (.iload_n 1, 1) := by decide +kernel
theorem dX5_makePivotOne_36 : decode cX5_makePivotOne 36 = .ok (.aaload, 1) := by decide +kernel
theorem dX5_makePivotOne_37 : decode cX5_makePivotOne 37 = .ok (.iload_n 3, 1) := by decide +kernel
theorem dX5_makePivotOne_38 : decode cX5_makePivotOne 38 = .ok (.aload_n 0, 1) := by decide +kernel
theorem dX5_makePivotOne_39 : decode cX5_makePivotOne 39 = .ok (.getfield 11, 3) := by decide +kernel
theorem dX5_makePivotOne_42 : decode cX5_makePivotOne 42 = .ok (.iload_n 1, 1) := by decide +kernel
theorem dX5_makePivotOne_43 : decode cX5_makePivotOne 43 = .ok (.aaload, 1) := by decide +kernel
theorem dX5_makePivotOne_44 : decode cX5_makePivotOne 44 = .ok (.iload_n 3, 1) := by decide +kernel
theorem dX5_makePivotOne_45 : decode cX5_makePivotOne 45 = .ok (.iaload, 1) := by decide +kernel
theorem dX5_makePivotOne_46 : decode cX5_makePivotOne 46 = .ok (.iload_n 2, 1) := by decide +kernel
theorem dX5_makePivotOne_47 : decode cX5_makePivotOne 47 = .ok (.imul, 1) := by decide +kernel
theorem dX5_makePivotOne_48 : decode cX5_makePivotOne 48 = .ok (.aload_n 0, 1) := by decide +kernel
theorem dX5_makePivotOne_49 : decode cX5_makePivotOne 49 = .ok (.getfield 39, 3) := by decide +kernel
theorem dX5_makePivotOne_52 : decode cX5_makePivotOne 52 = .ok (.invokestatic 70, 3) := by decide +kernel
theorem dX5_makePivotOne_55 : decode cX5_makePivotOne 55 = .ok (.iastore, 1) := by decide +kernel
theorem dX5_makePivotOne_56 : decode cX5_makePivotOne 56 = .ok (.aload_n 0, 1) := by decide +kernel
theorem dX5_makePivotOne_57 : decode cX5_makePivotOne 57 = .ok (.getfield 20, 3) := by decide +kernel
theorem dX5_makePivotOne_60 : decode cX5_makePivotOne 60 = .ok (.iload_n 1, 1) := by decide +kernel
theorem dX5_makePivotOne_61 : decode cX5_makePivotOne 61 = .ok (.aaload, 1) := by decide +kernel
theorem dX5_makePivotOne_62 : decode cX5_makePivotOne 62 = .ok (.iload_n 3, 1) := by decide +kernel
theorem dX5_makePivotOne_63 : decode cX5_makePivotOne 63 = .ok (.aload_n 0, 1) := by decide +kernel
theorem dX5_makePivotOne_64 : decode cX5_makePivotOne 64 = .ok (.getfield 20, 3) := by decide +kernel
theorem dX5_makePivotOne_67 : decode cX5_makePivotOne 67 = .ok (.iload_n 1, 1) := by decide +kernel
theorem dX5_makePivotOne_68 : decode cX5_makePivotOne 68 = .ok (.aaload, 1) := by decide +kernel
theorem dX5_makePivotOne_69 : decode cX5_makePivotOne 69 = .ok (.iload_n 3, 1) := by decide +kernel
theorem dX5_makePivotOne_70 : decode cX5_makePivotOne 70 = .ok (.iaload, 1) := by decide +kernel
theorem dX5_makePivotOne_71 : decode cX5_makePivotOne 71 = .ok (.iload_n 2, 1) := by decide +kernel
theorem dX5_makePivotOne_72 : decode cX5_makePivotOne 72 = .ok (.imul, 1) := by decide +kernel
theorem dX5_makePivotOne_73 : decode cX5_makePivotOne 73 = .ok (.aload_n 0, 1) := by decide +kernel
theorem dX5_makePivotOne_74 : decode cX5_makePivotOne 74 = .ok (.getfield 39, 3) := by decide +kernel
theorem dX5_makePivotOne_77 : decode cX5_makePivotOne 77 = .ok (.invokestatic 70, 3) := by decide +kernel
theorem dX5_makePivotOne_80 : decode cX5_makePivotOne 80 = .ok (.iastore, 1) := by decide +kernel
theorem dX5_makePivotOne_81 : decode cX5_makePivotOne 81 = .ok (.iinc 3 1, 3) := by decide +kernel
theorem dX5_makePivotOne_84 : decode cX5_makePivotOne 84 = .ok (.goto (-61), 3) := by decide +kernel
theorem dX5_makePivotOne_87 : decode cX5_makePivotOne 87 = .ok (.return_, 1) := by decide +kernel
theorem dX5_firstUnlike0_0 : decode cX5_firstUnlike0 0 = .ok (.iconst 0, 1) := by decide +kernel
theorem dX5_firstUnlike0_1 : decode cX5_firstUnlike0 1 = .ok (.istore_n 2, 1) := by decide +kernel
theorem dX5_firstUnlike0_2 : decode cX5_firstUnlike0 2 = .ok (.iload_n 2, 1) := by decide +kernel
theorem dX5_firstUnlike0_3 : decode cX5_firstUnlike0 3 = .ok (.aload_n 0, 1) := by decide +kernel
theorem dX5_firstUnlike0_4 : decode cX5_firstUnlike0 4 = .ok (.getfield 36, 3) := by decide +kernel
theorem dX5_firstUnlike0_7 : decode cX5_firstUnlike0 7 = .ok (.if_icmp .ge 17, 3) := by decide +kernel
theorem dX5_firstUnlike0_10 : decode cX5_firstUnlike0 10 = .ok (.aload_n 1, 1) := by decide +kernel
theorem dX5_firstUnlike0_11 : decode cX5_firstUnlike0 11 = .ok (.iload_n 2, 1) := by decide +kernel
theorem dX5_firstUnlike0_12 : decode cX5_firstUnlike0 12 = .ok (.iaload, 1) := by decide +kernel
theorem dX5_firstUnlike0_13 : decode cX5_firstUnlike0 13 = .ok (.ifCond .eq 5, 3) := by decide +kernel
theorem dX5_firstUnlike0_16 : decode cX5_firstUnlike0 16 = .ok (.iload_n 2, 1) := by decide +kernel
theorem dX5_firstUnlike0_17 : decode cX5_firstUnlike0 17 = .ok (.ireturn, 1) := by decide +kernel
theorem dX5_firstUnlike0_18 : decode cX5_firstUnlike0 18 = .ok (.iinc 2 1, 3) := by decide +kernel
theorem dX5_firstUnlike0_21 : decode cX5_firstUnlike0 21 = .ok (.goto (-19), 3) := by decide +kernel
theorem dX5_firstUnlike0_24 : decode cX5_firstUnlike0 24 = .ok (.iconst (-1), 1) := by decide +kernel
theorem dX5_firstUnlike0_25 : decode cX5_firstUnlike0 25 = .ok (.ireturn, 1) := by decide +kernel
theorem dX5_express_0 : decode cX5_express 0 = .ok (.aload_n 2, 1) := by decide +kernel
theorem dX5_express_1 : decode cX5_express 1 = .ok (.iconst 0, 1) := by decide +kernel
theorem dX5_express_2 : decode cX5_express 2 = .ok (.invokestatic 48, 3) := by decide +kernel
theorem dX5_express_5 : decode cX5_express 5 = .ok (.iconst 0, 1) := by decide +kernel
theorem dX5_express_6 : decode cX5_express 6 = .ok (.istore_n 3, 1) := by decide +kernel
theorem dX5_express_7 : decode cX5_express 7 = .ok (.iload_n 3, 1) := by decide +kernel
theorem dX5_express_8 : decode cX5_express 8 = .ok (.aload_n 0, 1) := by decide +kernel
theorem dX5_express_9 : decode cX5_express 9 = .ok (.getfield 29, 3) := by decide +kernel
theorem dX5_express_12 : decode cX5_express 12 = .ok (.if_icmp .ge 80, 3) := by decide +kernel
theorem dX5_express_15 : decode cX5_express 15 = .ok (.aload_n 0, 1) := by decide +kernel
theorem dX5_express_16 : decode cX5_express 16 = .ok (.getfield 23, 3) := by decide +kernel
theorem dX5_express_19 : decode cX5_express 19 = .ok (.iload_n 3, 1) := by decide +kernel
theorem dX5_express_20 : decode cX5_express 20 = .ok (.iaload, 1) := by decide +kernel
theorem dX5_express_21 : decode cX5_express 21 = .ok (.istore 4, 2) := by decide +kernel
theorem dX5_express_23 : decode cX5_express 23 = .ok (.aload_n 1, 1) := by decide +kernel
theorem dX5_express_24 : decode cX5_express 24 = .ok (.aload_n 0, 1) := by decide +kernel
theorem dX5_express_25 : decode cX5_express 25 = .ok (.getfield 16, 3) := by decide +kernel
theorem dX5_express_28 : decode cX5_express 28 = .ok (.iload 4, 2) := by decide +kernel
theorem dX5_express_30 : decode cX5_express 30 = .ok (.iaload, 1) := by decide +kernel
theorem dX5_express_31 : decode cX5_express 31 = .ok (.iaload, 1) := by decide +kernel
theorem dX5_express_32 : decode cX5_express 32 = .ok (.istore 5, 2) := by decide +kernel
theorem dX5_express_34 : decode cX5_express 34 = .ok (.iload 5, 2) := by decide +kernel
theorem dX5_express_36 : decode cX5_express 36 = .ok (.ifCond .eq 50, 3) := by decide +kernel
theorem dX5_express_39 : decode cX5_express 39 = .ok (.aload_n 1, 1) := by decide +kernel
theorem dX5_express_40 : decode cX5_express 40 = .ok (.aload_n 0, 1) := by decide +kernel
theorem dX5_express_41 : decode cX5_express 41 = .ok (.getfield 11, 3) := by decide +kernel
theorem dX5_express_44 : decode cX5_express 44 = .ok (.iload 4, 2) := by decide +kernel
theorem dX5_express_46 : decode cX5_express 46 = .ok (.aaload, 1) := by decide +kernel
theorem dX5_express_47 : decode cX5_express 47 = .ok (.aload_n 0, 1) := by decide +kernel
theorem dX5_express_48 : decode cX5_express 48 = .ok (.getfield 39, 3) := by decide +kernel
theorem dX5_express_51 : decode cX5_express 51 = .ok (.iload 5, 2) := by decide +kernel
theorem dX5_express_53 : decode cX5_express 53 = .ok (.isub, 1) := by decide +kernel
theorem dX5_express_54 : decode cX5_express 54 = .ok (.aload_n 0, 1) := by decide +kernel
theorem dX5_express_55 : decode cX5_express 55 = .ok (.getfield 39, 3) := by decide +kernel
theorem dX5_express_58 : decode cX5_express 58 = .ok (.aload_n 0, 1) := by decide +kernel
theorem dX5_express_59 : decode cX5_express 59 = .ok (.getfield 36, 3) := by decide +kernel
theorem dX5_express_62 : decode cX5_express 62 = .ok (.invokestatic 54, 3) := by decide +kernel
theorem dX5_express_65 : decode cX5_express 65 = .ok (.aload_n 2, 1) := by decide +kernel
theorem dX5_express_66 : decode cX5_express 66 = .ok (.aload_n 0, 1) := by decide +kernel
theorem dX5_express_67 : decode cX5_express 67 = .ok (.getfield 20, 3) := by decide +kernel
theorem dX5_express_70 : decode cX5_express 70 = .ok (.iload 4, 2) := by decide +kernel
theorem dX5_express_72 : decode cX5_express 72 = .ok (.aaload, 1) := by decide +kernel
theorem dX5_express_73 : decode cX5_express 73 = .ok (.iload 5, 2) := by decide +kernel
theorem dX5_express_75 : decode cX5_express 75 = .ok (.aload_n 0, 1) := by decide +kernel
theorem dX5_express_76 : decode cX5_express 76 = .ok (.getfield 39, 3) := by decide +kernel
theorem dX5_express_79 : decode cX5_express 79 = .ok (.aload_n 0, 1) := by decide +kernel
theorem dX5_express_80 : decode cX5_express 80 = .ok (.getfield 36, 3) := by decide +kernel
theorem dX5_express_83 : decode cX5_express 83 = .ok (.invokestatic 54, 3) := by decide +kernel
theorem dX5_express_86 : decode cX5_express 86 = .ok (.iinc 3 1, 3) := by decide +kernel
theorem dX5_express_89 : decode cX5_express 89 = .ok (.goto (-82), 3) := by decide +kernel
theorem dX5_express_92 : decode cX5_express 92 = .ok (.aload_n 0, 1) := by decide +kernel
theorem dX5_express_93 : decode cX5_express 93 = .ok (.aload_n 1, 1) := by decide +kernel
theorem dX5_express_94 : decode cX5_express 94 = .ok (.invokevirtual 58, 3) := by decide +kernel
theorem dX5_express_97 : decode cX5_express 97 = .ok (.iconst (-1), 1) := by decide +kernel
theorem dX5_express_98 : decode cX5_express 98 = .ok (.if_icmp .ne 7, 3) := by decide +kernel
theorem dX5_express_101 : decode cX5_express 101 = .ok (.iconst 1, 1) := by decide +kernel
theorem dX5_express_102 : decode cX5_express 102 = .ok (.goto 4, 3) := by decide +kernel
theorem dX5_express_105 : decode cX5_express 105 = .ok (.iconst 0, 1) := by decide +kernel
theorem dX5_express_106 : decode cX5_express 106 = .ok (.ireturn, 1) := by decide +kernel
theorem dX5_isInSomeTie_0 : decode cX5_isInSomeTie 0 = .ok (.iconst 0, 1) := by decide +kernel
theorem dX5_isInSomeTie_1 : decode cX5_isInSomeTie 1 = .ok (.istore_n 2, 1) := by decide +kernel
theorem dX5_isInSomeTie_2 : decode cX5_isInSomeTie 2 = .ok (.iload_n 2, 1) := by decide +kernel
theorem dX5_isInSomeTie_3 : decode cX5_isInSomeTie 3 = .ok (.aload_n 0, 1) := by decide +kernel
theorem dX5_isInSomeTie_4 : decode cX5_isInSomeTie 4 = .ok (.getfield 33, 3) := by decide +kernel
theorem dX5_isInSomeTie_7 : decode cX5_isInSomeTie 7 = .ok (.if_icmp .ge 27, 3) := by decide +kernel
theorem dX5_isInSomeTie_10 : decode cX5_isInSomeTie 10 = .ok (.aload_n 0, 1) := by decide +kernel
theorem dX5_isInSomeTie_11 : decode cX5_isInSomeTie 11 = .ok (.getfield 20, 3) := by decide +kernel
theorem dX5_isInSomeTie_14 : decode cX5_isInSomeTie 14 = .ok (.aload_n 0, 1) := by decide +kernel
theorem dX5_isInSomeTie_15 : decode cX5_isInSomeTie 15 = .ok (.getfield 26, 3) := by decide +kernel
theorem dX5_isInSomeTie_18 : decode cX5_isInSomeTie 18 = .ok (.iload_n 2, 1) := by decide +kernel
theorem dX5_isInSomeTie_19 : decode cX5_isInSomeTie 19 = .ok (.iaload, 1) := by decide +kernel
theorem dX5_isInSomeTie_20 : decode cX5_isInSomeTie 20 = .ok (.aaload, 1) := by decide +kernel
theorem dX5_isInSomeTie_21 : decode cX5_isInSomeTie 21 = .ok (.iload_n 1, 1) := by decide +kernel
theorem dX5_isInSomeTie_22 : decode cX5_isInSomeTie 22 = .ok (.iaload, 1) := by decide +kernel
theorem dX5_isInSomeTie_23 : decode cX5_isInSomeTie 23 = .ok (.ifCond .eq 5, 3) := by decide +kernel
theorem dX5_isInSomeTie_26 : decode cX5_isInSomeTie 26 = .ok (.iconst 1, 1) := by decide +kernel
theorem dX5_isInSomeTie_27 : decode cX5_isInSomeTie 27 = .ok (.ireturn, 1) := by decide +kernel
theorem dX5_isInSomeTie_28 : decode cX5_isInSomeTie 28 = .ok (.iinc 2 1, 3) := by decide +kernel
theorem dX5_isInSomeTie_31 : decode cX5_isInSomeTie 31 = .ok (.goto (-29), 3) := by decide +kernel
theorem dX5_isInSomeTie_34 : decode cX5_isInSomeTie 34 = .ok (.iconst 0, 1) := by decide +kernel
theorem dX5_isInSomeTie_35 : decode cX5_isInSomeTie 35 = .ok (.ireturn, 1) := by decide +kernel
theorem dX5_ownNumbers_0 : decode cX5_ownNumbers 0 = .ok (.iconst 0, 1) := by decide +kernel
theorem dX5_ownNumbers_1 : decode cX5_ownNumbers 1 = .ok (.istore_n 3, 1) := by decide +kernel
theorem dX5_ownNumbers_2 : decode cX5_ownNumbers 2 = .ok (.iload_n 3, 1) := by decide +kernel
theorem dX5_ownNumbers_3 : decode cX5_ownNumbers 3 = .ok (.aload_n 0, 1) := by decide +kernel
theorem dX5_ownNumbers_4 : decode cX5_ownNumbers 4 = .ok (.getfield 29, 3) := by decide +kernel
theorem dX5_ownNumbers_7 : decode cX5_ownNumbers 7 = .ok (.if_icmp .ge 64, 3) := by decide +kernel
theorem dX5_ownNumbers_10 : decode cX5_ownNumbers 10 = .ok (.aload_n 0, 1) := by decide +kernel
theorem dX5_ownNumbers_11 : decode cX5_ownNumbers 11 = .ok (.getfield 16, 3) := by decide +kernel
theorem dX5_ownNumbers_14 : decode cX5_ownNumbers 14 = .ok (.iload_n 1, 1) := by decide +kernel
theorem dX5_ownNumbers_15 : decode cX5_ownNumbers 15 = .ok (.iaload, 1) := by decide +kernel
theorem dX5_ownNumbers_16 : decode cX5_ownNumbers 16 = .ok (.iconst (-1), 1) := by decide +kernel
theorem dX5_ownNumbers_17 : decode cX5_ownNumbers 17 = .ok (.if_icmp .ne 30, 3) := by decide +kernel
theorem dX5_ownNumbers_20 : decode cX5_ownNumbers 20 = .ok (.aload_n 2, 1) := by decide +kernel
theorem dX5_ownNumbers_21 : decode cX5_ownNumbers 21 = .ok (.iload_n 3, 1) := by decide +kernel
theorem dX5_ownNumbers_22 : decode cX5_ownNumbers 22 = .ok (.aload_n 0, 1) := by decide +kernel
theorem dX5_ownNumbers_23 : decode cX5_ownNumbers 23 = .ok (.getfield 20, 3) := by decide +kernel
theorem dX5_ownNumbers_26 : decode cX5_ownNumbers 26 = .ok (.iload_n 1, 1) := by decide +kernel
theorem dX5_ownNumbers_27 : decode cX5_ownNumbers 27 = .ok (.aaload, 1) := by decide +kernel
theorem dX5_ownNumbers_28 : decode cX5_ownNumbers 28 = .ok (.aload_n 0, 1) := by decide +kernel
theorem dX5_ownNumbers_29 : decode cX5_ownNumbers 29 = .ok (.getfield 23, 3) := by decide +kernel
theorem dX5_ownNumbers_32 : decode cX5_ownNumbers 32 = .ok (.iload_n 3, 1) := by decide +kernel
theorem dX5_ownNumbers_33 : decode cX5_ownNumbers 33 = .ok (.iaload, 1) := by decide +kernel
theorem dX5_ownNumbers_34 : decode cX5_ownNumbers 34 = .ok (.iaload, 1) := by decide +kernel
theorem dX5_ownNumbers_35 : decode cX5_ownNumbers 35 = .ok (.ineg, 1) := by decide +kernel
theorem dX5_ownNumbers_36 : decode cX5_ownNumbers 36 = .ok (.aload_n 0, 1) := by decide +kernel
theorem dX5_ownNumbers_37 : decode cX5_ownNumbers 37 = .ok (.getfield 39, 3) := by decide +kernel
theorem dX5_ownNumbers_40 : decode cX5_ownNumbers 40 = .ok (.invokestatic 70, 3) := by decide +kernel
theorem dX5_ownNumbers_43 : decode cX5_ownNumbers 43 = .ok (.iastore, 1) := by decide +kernel
theorem dX5_ownNumbers_44 : decode cX5_ownNumbers 44 = .ok (.goto 21, 3) := by decide +kernel
theorem dX5_ownNumbers_47 : decode cX5_ownNumbers 47 = .ok (.aload_n 2, 1) := by decide +kernel
theorem dX5_ownNumbers_48 : decode cX5_ownNumbers 48 = .ok (.iload_n 3, 1) := by decide +kernel
theorem dX5_ownNumbers_49 : decode cX5_ownNumbers 49 = .ok (.aload_n 0, 1) := by decide +kernel
theorem dX5_ownNumbers_50 : decode cX5_ownNumbers 50 = .ok (.getfield 23, 3) := by decide +kernel
theorem dX5_ownNumbers_53 : decode cX5_ownNumbers 53 = .ok (.iload_n 3, 1) := by decide +kernel
theorem dX5_ownNumbers_54 : decode cX5_ownNumbers 54 = .ok (.iaload, 1) := by decide +kernel
theorem dX5_ownNumbers_55 : decode cX5_ownNumbers 55 = .ok (.iload_n 1, 1) := by decide +kernel
theorem dX5_ownNumbers_56 : decode cX5_ownNumbers 56 = .ok (.if_icmp .ne 7, 3) := by decide +kernel
theorem dX5_ownNumbers_59 : decode cX5_ownNumbers 59 = .ok (.iconst 1, 1) := by decide +kernel
theorem dX5_ownNumbers_60 : decode cX5_ownNumbers 60 = .ok (.goto 4, 3) := by decide +kernel
theorem dX5_ownNumbers_63 : decode cX5_ownNumbers 63 = .ok (.iconst 0, 1) := by decide +kernel
theorem dX5_ownNumbers_64 : decode cX5_ownNumbers 64 = .ok (.iastore, 1) := by decide +kernel
theorem dX5_ownNumbers_65 : decode cX5_ownNumbers 65 = .ok (.iinc 3 1, 3) := by decide +kernel
theorem dX5_ownNumbers_68 : decode cX5_ownNumbers 68 = .ok (.goto (-66), 3) := by decide +kernel
theorem dX5_ownNumbers_71 : decode cX5_ownNumbers 71 = .ok (.return_, 1) := by decide +kernel
theorem dX6_init_0 : decode cX6_init 0 = .ok (.aload_n 0, 1) := by decide +kernel
theorem dX6_init_1 : decode cX6_init 1 = .ok (.invokespecial 3, 3) := by decide +kernel
theorem dX6_init_4 : decode cX6_init 4 = .ok (.aload_n 0, 1) := by decide +kernel
theorem dX6_init_5 : decode cX6_init 5 = .ok (.sipush 20000, 3) := by decide +kernel
theorem dX6_init_8 : decode cX6_init 8 = .ok (.newarray .int, 2) := by decide +kernel
theorem dX6_init_10 : decode cX6_init 10 = .ok (.putfield 9, 3) := by decide +kernel
theorem dX6_init_13 : decode cX6_init 13 = .ok (.aload_n 0, 1) := by decide +kernel
theorem dX6_init_14 : decode cX6_init 14 = .ok (.sipush 20000, 3) := by decide +kernel
theorem dX6_init_17 : decode cX6_init 17 = .ok (.newarray .int, 2) := by decide +kernel
theorem dX6_init_19 : decode cX6_init 19 = .ok (.putfield 15, 3) := by decide +kernel
theorem dX6_init_22 : decode cX6_init 22 = .ok (.aload_n 0, 1) := by decide +kernel
theorem dX6_init_23 : decode cX6_init 23 = .ok (.sipush 7200, 3) := by decide +kernel
theorem dX6_init_26 : decode cX6_init 26 = .ok (.newarray .int, 2) := by decide +kernel
theorem dX6_init_28 : decode cX6_init 28 = .ok (.putfield 18, 3) := by decide +kernel
theorem dX6_init_31 : decode cX6_init 31 = .ok (.aload_n 0, 1) := by decide +kernel
theorem dX6_init_32 : decode cX6_init 32 = .ok (.bipush 36, 2) := by decide +kernel
theorem dX6_init_34 : decode cX6_init 34 = .ok (.newarray .int, 2) := by decide +kernel
theorem dX6_init_36 : decode cX6_init 36 = .ok (.putfield 21, 3) := by decide +kernel
theorem dX6_init_39 : decode cX6_init 39 = .ok (.aload_n 0, 1) := by decide +kernel
theorem dX6_init_40 : decode cX6_init 40 = .ok (.iconst 0, 1) := by decide +kernel
theorem dX6_init_41 : decode cX6_init 41 = .ok (.putfield 24, 3) := by decide +kernel
theorem dX6_init_44 : decode cX6_init 44 = .ok (.aload_n 0, 1) := by decide +kernel
theorem dX6_init_45 : decode cX6_init 45 = .ok (.iconst 0, 1) := by decide +kernel
theorem dX6_init_46 : decode cX6_init 46 = .ok (.putfield 28, 3) := by decide +kernel
theorem dX6_init_49 : decode cX6_init 49 = .ok (.aload_n 0, 1) := by decide +kernel
theorem dX6_init_50 : decode cX6_init 50 = .ok (.iconst 2, 1) := by decide +kernel
theorem dX6_init_51 : decode cX6_init 51 = .ok (.putfield 31, 3) := by decide +kernel
theorem dX6_init_54 : decode cX6_init 54 = .ok (.aload_n 0, 1) := by decide +kernel
theorem dX6_init_55 : decode cX6_init 55 = .ok (.iconst 0, 1) := by decide +kernel
theorem dX6_init_56 : decode cX6_init 56 = .ok (.putfield 34, 3) := by decide +kernel
theorem dX6_init_59 : decode cX6_init 59 = .ok (.aload_n 0, 1) := by decide +kernel
theorem dX6_init_60 : decode cX6_init 60 = .ok (.iconst 1, 1) := by decide +kernel
theorem dX6_init_61 : decode cX6_init 61 = .ok (.putfield 37, 3) := by decide +kernel
theorem dX6_init_64 : decode cX6_init 64 = .ok (.aload_n 0, 1) := by decide +kernel
theorem dX6_init_65 : decode cX6_init 65 = .ok (.iconst 1, 1) := by decide +kernel
theorem dX6_init_66 : decode cX6_init 66 = .ok (.putfield 40, 3) := by decide +kernel
theorem dX6_init_69 : decode cX6_init 69 = .ok (.aload_n 0, 1) := by decide +kernel
theorem dX6_init_70 : decode cX6_init 70 = .ok (.iconst (-1), 1) := by decide +kernel
theorem dX6_init_71 : decode cX6_init 71 = .ok (.putfield 43, 3) := by decide +kernel
theorem dX6_init_74 : decode cX6_init 74 = .ok (.aload_n 0, 1) := by decide +kernel
theorem dX6_init_75 : decode cX6_init 75 = .ok (.bipush 64, 2) := by decide +kernel
theorem dX6_init_77 : decode cX6_init 77 = .ok (.newarray .int, 2) := by decide +kernel
theorem dX6_init_79 : decode cX6_init 79 = .ok (.putfield 46, 3) := by decide +kernel
theorem dX6_init_82 : decode cX6_init 82 = .ok (.aload_n 0, 1) := by decide +kernel
theorem dX6_init_83 : decode cX6_init 83 = .ok (.iconst 0, 1) := by decide +kernel
theorem dX6_init_84 : decode cX6_init 84 = .ok (.putfield 49, 3) := by decide +kernel
theorem dX6_init_87 : decode cX6_init 87 = .ok (.aload_n 0, 1) := by decide +kernel
theorem dX6_init_88 : decode cX6_init 88 = .ok (.iconst 0, 1) := by decide +kernel
theorem dX6_init_89 : decode cX6_init 89 = .ok (.putfield 52, 3) := by decide +kernel
theorem dX6_init_92 : decode cX6_init 92 = .ok (.aload_n 0, 1) := by decide +kernel
theorem dX6_init_93 : decode cX6_init 93 = .ok (.iconst (-1), 1) := by decide +kernel
theorem dX6_init_94 : decode cX6_init 94 = .ok (.putfield 55, 3) := by decide +kernel
theorem dX6_init_97 : decode cX6_init 97 = .ok (.aload_n 0, 1) := by decide +kernel
theorem dX6_init_98 : decode cX6_init 98 = .ok (.iconst (-1), 1) := by decide +kernel
theorem dX6_init_99 : decode cX6_init 99 = .ok (.putfield 58, 3) := by decide +kernel
theorem dX6_init_102 : decode cX6_init 102 = .ok (.return_, 1) := by decide +kernel
theorem dX6_begin_0 : decode cX6_begin 0 = .ok (.aload_n 0, 1) := by decide +kernel
theorem dX6_begin_1 : decode cX6_begin 1 = .ok (.iconst 0, 1) := by decide +kernel
theorem dX6_begin_2 : decode cX6_begin 2 = .ok (.putfield 24, 3) := by decide +kernel
theorem dX6_begin_5 : decode cX6_begin 5 = .ok (.aload_n 0, 1) := by decide +kernel
theorem dX6_begin_6 : decode cX6_begin 6 = .ok (.iload_n 1, 1) := by decide +kernel
theorem dX6_begin_7 : decode cX6_begin 7 = .ok (.putfield 28, 3) := by decide +kernel
theorem dX6_begin_10 : decode cX6_begin 10 = .ok (.aload_n 0, 1) := by decide +kernel
theorem dX6_begin_11 : decode cX6_begin 11 = .ok (.iload_n 2, 1) := by decide +kernel
theorem dX6_begin_12 : decode cX6_begin 12 = .ok (.putfield 31, 3) := by decide +kernel
theorem dX6_begin_15 : decode cX6_begin 15 = .ok (.aload_n 0, 1) := by decide +kernel
theorem dX6_begin_16 : decode cX6_begin 16 = .ok (.iload_n 1, 1) := by decide +kernel
theorem dX6_begin_17 : decode cX6_begin 17 = .ok (.iconst 1, 1) := by decide +kernel
theorem dX6_begin_18 : decode cX6_begin 18 = .ok (.iadd, 1) := by decide +kernel
theorem dX6_begin_19 : decode cX6_begin 19 = .ok (.iconst 2, 1) := by decide +kernel
theorem dX6_begin_20 : decode cX6_begin 20 = .ok (.idiv, 1) := by decide +kernel
theorem dX6_begin_21 : decode cX6_begin 21 = .ok (.putfield 34, 3) := by decide +kernel
theorem dX6_begin_24 : decode cX6_begin 24 = .ok (.aload_n 0, 1) := by decide +kernel
theorem dX6_begin_25 : decode cX6_begin 25 = .ok (.aload_n 0, 1) := by decide +kernel
theorem dX6_begin_26 : decode cX6_begin 26 = .ok (.aload_n 0, 1) := by decide +kernel
theorem dX6_begin_27 : decode cX6_begin 27 = .ok (.getfield 34, 3) := by decide +kernel
theorem dX6_begin_30 : decode cX6_begin 30 = .ok (.invokevirtual 61, 3) := by decide +kernel
theorem dX6_begin_33 : decode cX6_begin 33 = .ok (.putfield 37, 3) := by decide +kernel
theorem dX6_begin_36 : decode cX6_begin 36 = .ok (.aload_n 0, 1) := by decide +kernel
theorem dX6_begin_37 : decode cX6_begin 37 = .ok (.aload_n 0, 1) := by decide +kernel
theorem dX6_begin_38 : decode cX6_begin 38 = .ok (.aload_n 0, 1) := by decide +kernel
theorem dX6_begin_39 : decode cX6_begin 39 = .ok (.getfield 28, 3) := by decide +kernel
theorem dX6_begin_42 : decode cX6_begin 42 = .ok (.aload_n 0, 1) := by decide +kernel
theorem dX6_begin_43 : decode cX6_begin 43 = .ok (.getfield 34, 3) := by decide +kernel
theorem dX6_begin_46 : decode cX6_begin 46 = .ok (.isub, 1) := by decide +kernel
theorem dX6_begin_47 : decode cX6_begin 47 = .ok (.invokevirtual 61, 3) := by decide +kernel
theorem dX6_begin_50 : decode cX6_begin 50 = .ok (.putfield 40, 3) := by decide +kernel
theorem dX6_begin_53 : decode cX6_begin 53 = .ok (.return_, 1) := by decide +kernel
theorem dX6_power_0 : decode cX6_power 0 = .ok (.iconst 1, 1) := by decide +kernel
theorem dX6_power_1 : decode cX6_power 1 = .ok (.istore_n 2, 1) := by decide +kernel
theorem dX6_power_2 : decode cX6_power 2 = .ok (.iconst 0, 1) := by decide +kernel
theorem dX6_power_3 : decode cX6_power 3 = .ok (.istore_n 3, 1) := by decide +kernel
theorem dX6_power_4 : decode cX6_power 4 = .ok (.iload_n 3, 1) := by decide +kernel
theorem dX6_power_5 : decode cX6_power 5 = .ok (.iload_n 1, 1) := by decide +kernel
theorem dX6_power_6 : decode cX6_power 6 = .ok (.if_icmp .ge 16, 3) := by decide +kernel
theorem dX6_power_9 : decode cX6_power 9 = .ok (.iload_n 2, 1) := by decide +kernel
theorem dX6_power_10 : decode cX6_power 10 = .ok (.aload_n 0, 1) := by decide +kernel
theorem dX6_power_11 : decode cX6_power 11 = .ok (.getfield 31, 3) := by decide +kernel
theorem dX6_power_14 : decode cX6_power 14 = .ok (.imul, 1) := by decide +kernel
theorem dX6_power_15 : decode cX6_power 15 = .ok (.istore_n 2, 1) := by decide +kernel
theorem dX6_power_16 : decode cX6_power 16 = .ok (.iinc 3 1, 3) := by decide +kernel
theorem dX6_power_19 : decode cX6_power 19 = .ok (.goto (-15), 3) := by decide +kernel
theorem dX6_power_22 : decode cX6_power 22 = .ok (.iload_n 2, 1) := by decide +kernel
theorem dX6_power_23 : decode cX6_power 23 = .ok (.ireturn, 1) := by decide +kernel
theorem dX6_codeOf_0 : decode cX6_codeOf 0 = .ok (.iconst 0, 1) := by decide +kernel
theorem dX6_codeOf_1 : decode cX6_codeOf 1 = .ok (.istore_n 2, 1) := by decide +kernel
theorem dX6_codeOf_2 : decode cX6_codeOf 2 = .ok (.aload_n 0, 1) := by decide +kernel
theorem dX6_codeOf_3 : decode cX6_codeOf 3 = .ok (.getfield 28, 3) := by decide +kernel
theorem dX6_codeOf_6 : decode cX6_codeOf 6 = .ok (.iconst 1, 1) := by decide +kernel
theorem dX6_codeOf_7 : decode cX6_codeOf 7 = .ok (.isub, 1) := by decide +kernel
theorem dX6_codeOf_8 : decode cX6_codeOf 8 = .ok (.istore_n 3, 1) := by decide +kernel
theorem dX6_codeOf_9 : decode cX6_codeOf 9 = .ok (.iload_n 3, 1) := by decide +kernel
theorem dX6_codeOf_10 : decode cX6_codeOf 10 = .ok (.ifCond .lt 20, 3) := by decide +kernel
theorem dX6_codeOf_13 : decode cX6_codeOf 13 = .ok (.iload_n 2, 1) := by decide +kernel
theorem dX6_codeOf_14 : decode cX6_codeOf 14 = .ok (.aload_n 0, 1) := by decide +kernel
theorem dX6_codeOf_15 : decode cX6_codeOf 15 = .ok (.getfield 31, 3) := by decide +kernel
theorem dX6_codeOf_18 : decode cX6_codeOf 18 = .ok (.imul, 1) := by decide +kernel
theorem dX6_codeOf_19 : decode cX6_codeOf 19 = .ok (.aload_n 1, 1) := by decide +kernel
theorem dX6_codeOf_20 : decode cX6_codeOf 20 = .ok (.iload_n 3, 1) := by decide +kernel
theorem dX6_codeOf_21 : decode cX6_codeOf 21 = .ok (.iaload, 1) := by decide +kernel
theorem dX6_codeOf_22 : decode cX6_codeOf 22 = .ok (.iadd, 1) := by decide +kernel
theorem dX6_codeOf_23 : decode cX6_codeOf 23 = .ok (.istore_n 2, 1) := by decide +kernel
theorem dX6_codeOf_24 : decode cX6_codeOf 24 = .ok (.iinc 3 (-1), 3) := by decide +kernel
theorem dX6_codeOf_27 : decode cX6_codeOf 27 = .ok (.goto (-18), 3) := by decide +kernel
theorem dX6_codeOf_30 : decode cX6_codeOf 30 = .ok (.iload_n 2, 1) := by decide +kernel
theorem dX6_codeOf_31 : decode cX6_codeOf 31 = .ok (.ireturn, 1) := by decide +kernel
theorem dX6_addMove_0 : decode cX6_addMove 0 = .ok (.aload_n 0, 1) := by decide +kernel
theorem dX6_addMove_1 : decode cX6_addMove 1 = .ok (.getfield 24, 3) := by decide +kernel
theorem dX6_addMove_4 : decode cX6_addMove 4 = .ok (.aload_n 0, 1) := by decide +kernel
theorem dX6_addMove_5 : decode cX6_addMove 5 = .ok (.getfield 37, 3) := by decide +kernel
theorem dX6_addMove_8 : decode cX6_addMove 8 = .ok (.aload_n 0, 1) := by decide +kernel
theorem dX6_addMove_9 : decode cX6_addMove 9 = .ok (.getfield 40, 3) := by decide +kernel
theorem dX6_addMove_12 : decode cX6_addMove 12 = .ok (.iadd, 1) := by decide +kernel
theorem dX6_addMove_13 : decode cX6_addMove 13 = .ok (.imul, 1) := by decide +kernel
theorem dX6_addMove_14 : decode cX6_addMove 14 = .ok (.istore 4, 2) := by decide +kernel
theorem dX6_addMove_16 : decode cX6_addMove 16 = .ok (.aload_n 0, 1) := by decide +kernel
theorem dX6_addMove_17 : decode cX6_addMove 17 = .ok (.getfield 24, 3) := by decide +kernel
theorem dX6_addMove_20 : decode cX6_addMove 20 = .ok (.bipush 36, 2) := by decide +kernel
theorem dX6_addMove_22 : decode cX6_addMove 22 = .ok (.if_icmp .ge 21, 3) := by decide +kernel
theorem dX6_addMove_25 : decode cX6_addMove 25 = .ok (.iload 4, 2) := by decide +kernel
theorem dX6_addMove_27 : decode cX6_addMove 27 = .ok (.aload_n 0, 1) := by decide +kernel
theorem dX6_addMove_28 : decode cX6_addMove 28 = .ok (.getfield 37, 3) := by decide +kernel
theorem dX6_addMove_31 : decode cX6_addMove 31 = .ok (.iadd, 1) := by decide +kernel
theorem dX6_addMove_32 : decode cX6_addMove 32 = .ok (.aload_n 0, 1) := by decide +kernel
theorem dX6_addMove_33 : decode cX6_addMove 33 = .ok (.getfield 40, 3) := by decide +kernel
theorem dX6_addMove_36 : decode cX6_addMove 36 = .ok (.iadd, 1) := by decide +kernel
theorem dX6_addMove_37 : decode cX6_addMove 37 = .ok (.sipush 7200, 3) := by decide +kernel
theorem dX6_addMove_40 : decode cX6_addMove 40 = .ok (.if_icmp .le 4, 3) := by decide +kernel
theorem dX6_addMove_43 : decode cX6_addMove 43 = .ok (.return_, 1) := by decide +kernel
theorem dX6_addMove_44 : decode cX6_addMove 44 = .ok (.aload_n 0, 1) := by decide +kernel
theorem dX6_addMove_45 : decode cX6_addMove 45 = .ok (.getfield 21, 3) := by decide +kernel
theorem dX6_addMove_48 : decode cX6_addMove 48 = .ok (.aload_n 0, 1) := by decide +kernel
theorem dX6_addMove_49 : decode cX6_addMove 49 = .ok (.getfield 24, 3) := by decide +kernel
theorem dX6_addMove_52 : decode cX6_addMove 52 = .ok (.iload_n 1, 1) := by decide +kernel
theorem dX6_addMove_53 : decode cX6_addMove 53 = .ok (.iastore, 1) := by decide +kernel
theorem dX6_addMove_54 : decode cX6_addMove 54 = .ok (.aload_n 0, 1) := by decide +kernel
theorem dX6_addMove_55 : decode cX6_addMove 55 = .ok (.dup, 1) := by decide +kernel
theorem dX6_addMove_56 : decode cX6_addMove 56 = .ok (.getfield 24, 3) := by decide +kernel
theorem dX6_addMove_59 : decode cX6_addMove 59 = .ok (.iconst 1, 1) := by decide +kernel
theorem dX6_addMove_60 : decode cX6_addMove 60 = .ok (.iadd, 1) := by decide +kernel
theorem dX6_addMove_61 : decode cX6_addMove 61 = .ok (.putfield 24, 3) := by decide +kernel
theorem dX6_addMove_64 : decode cX6_addMove 64 = .ok (.iconst 0, 1) := by decide +kernel
theorem dX6_addMove_65 : decode cX6_addMove 65 = .ok (.istore 5, 2) := by decide +kernel
theorem dX6_addMove_67 : decode cX6_addMove 67 = .ok (.iload 5, 2) := by decide +kernel
theorem dX6_addMove_69 : decode cX6_addMove 69 = .ok (.aload_n 0, 1) := by decide +kernel
theorem dX6_addMove_70 : decode cX6_addMove 70 = .ok (.getfield 37, 3) := by decide +kernel
theorem dX6_addMove_73 : decode cX6_addMove 73 = .ok (.if_icmp .ge 32, 3) := by decide +kernel
theorem dX6_addMove_76 : decode cX6_addMove 76 = .ok (.aload_n 0, 1) := by decide +kernel
theorem dX6_addMove_77 : decode cX6_addMove 77 = .ok (.getfield 18, 3) := by decide +kernel
theorem dX6_addMove_80 : decode cX6_addMove 80 = .ok (.iload 4, 2) := by decide +kernel
theorem dX6_addMove_82 : decode cX6_addMove 82 = .ok (.iload 5, 2) := by decide +kernel
theorem dX6_addMove_84 : decode cX6_addMove 84 = .ok (.iadd, 1) := by decide +kernel
theorem dX6_addMove_85 : decode cX6_addMove 85 = .ok (.aload_n 0, 1) := by decide +kernel
theorem dX6_addMove_86 : decode cX6_addMove 86 = .ok (.iload 5, 2) := by decide +kernel
theorem dX6_addMove_88 : decode cX6_addMove 88 = .ok (.iconst 0, 1) := by decide +kernel
theorem dX6_addMove_89 : decode cX6_addMove 89 = .ok (.aload_n 0, 1) := by decide +kernel
theorem dX6_addMove_90 : decode cX6_addMove 90 = .ok (.getfield 34, 3) := by decide +kernel
theorem dX6_addMove_93 : decode cX6_addMove 93 = .ok (.aload_n 2, 1) := by decide +kernel
theorem dX6_addMove_94 : decode cX6_addMove 94 = .ok (.iload_n 3, 1) := by decide +kernel
theorem dX6_addMove_95 : decode cX6_addMove 95 = .ok (.invokevirtual 65, 3) := by decide +kernel
theorem dX6_addMove_98 : decode cX6_addMove 98 = .ok (.iastore, 1) := by decide +kernel
theorem dX6_addMove_99 : decode cX6_addMove 99 = .ok (.iinc 5 1, 3) := by decide +kernel
theorem dX6_addMove_102 : decode cX6_addMove 102 = .ok (.goto (-35), 3) := by decide +kernel
theorem dX6_addMove_105 : decode cX6_addMove 105 = .ok (.iconst 0, 1) := by decide +kernel
theorem dX6_addMove_106 : decode cX6_addMove 106 = .ok (.istore 5, 2) := by decide +kernel
theorem dX6_addMove_108 : decode cX6_addMove 108 = .ok (.iload 5, 2) := by decide +kernel
theorem dX6_addMove_110 : decode cX6_addMove 110 = .ok (.aload_n 0, 1) := by decide +kernel
theorem dX6_addMove_111 : decode cX6_addMove 111 = .ok (.getfield 40, 3) := by decide +kernel
theorem dX6_addMove_114 : decode cX6_addMove 114 = .ok (.if_icmp .ge 59, 3) := by decide +kernel
theorem dX6_addMove_117 : decode cX6_addMove 117 = .ok (.aload_n 0, 1) := by decide +kernel
theorem dX6_addMove_118 : decode cX6_addMove 118 = .ok (.iload 5, 2) := by decide +kernel
theorem dX6_addMove_120 : decode cX6_addMove 120 = .ok (.aload_n 0, 1) := by decide +kernel
theorem dX6_addMove_121 : decode cX6_addMove 121 = .ok (.getfield 34, 3) := by decide +kernel
theorem dX6_addMove_124 : decode cX6_addMove 124 = .ok (.aload_n 0, 1) := by decide +kernel
theorem dX6_addMove_125 : decode cX6_addMove 125 = .ok (.getfield 28, 3) := by decide +kernel
theorem dX6_addMove_128 : decode cX6_addMove 128 = .ok (.aload_n 2, 1) := by decide +kernel
theorem dX6_addMove_129 : decode cX6_addMove 129 = .ok (.iload_n 3, 1) := by decide +kernel
theorem dX6_addMove_130 : decode cX6_addMove 130 = .ok (.invokevirtual 65, 3) := by decide +kernel
theorem dX6_addMove_133 : decode cX6_addMove 133 = .ok (.istore 6, 2) := by decide +kernel
theorem dX6_addMove_135 : decode cX6_addMove 135 = .ok (.aload_n 0, 1) := by decide +kernel
theorem dX6_addMove_136 : decode cX6_addMove 136 = .ok (.getfield 18, 3) := by decide +kernel
theorem dX6_addMove_139 : decode cX6_addMove 139 = .ok (.iload 4, 2) := by decide +kernel
theorem dX6_addMove_141 : decode cX6_addMove 141 = .ok (.aload_n 0, 1) := by decide +kernel
theorem dX6_addMove_142 : decode cX6_addMove 142 = .ok (.getfield 37, 3) := by decide +kernel
theorem dX6_addMove_145 : decode cX6_addMove 145 = .ok (.iadd, 1) := by decide +kernel
theorem dX6_addMove_146 : decode cX6_addMove 146 = .ok (.iload 5, 2) := by decide +kernel
theorem dX6_addMove_148 : decode cX6_addMove 148 = .ok (.iadd, 1) := by decide +kernel
theorem dX6_addMove_149 : decode cX6_addMove 149 = .ok (.iload 6, 2) := by decide +kernel
theorem dX6_addMove_151 : decode cX6_addMove 151 = .ok (.iconst (-1), 1) := by decide +kernel
theorem dX6_addMove_152 : decode cX6_addMove 152 = .ok (.if_icmp .ne 7, 3) := by decide +kernel
theorem dX6_addMove_155 : decode cX6_addMove 155 = .ok (.iconst (-1), 1) := by decide +kernel
theorem dX6_addMove_156 : decode cX6_addMove 156 = .ok (.goto 10, 3) := by decide +kernel
theorem dX6_addMove_159 : decode cX6_addMove 159 = .ok (.iload 6, 2) := by decide +kernel
theorem dX6_addMove_161 : decode cX6_addMove 161 = .ok (.aload_n 0, 1) := by decide +kernel
theorem dX6_addMove_162 : decode cX6_addMove 162 = .ok (.getfield 37, 3) := by decide +kernel
theorem dX6_addMove_165 : decode cX6_addMove 165 = .ok (.imul, 1) := by decide +kernel
theorem dX6_addMove_166 : decode cX6_addMove 166 = .ok (.iastore, 1) := by decide +kernel
theorem dX6_addMove_167 : decode cX6_addMove 167 = .ok (.iinc 5 1, 3) := by decide +kernel
theorem dX6_addMove_170 : decode cX6_addMove 170 = .ok (.goto (-62), 3) := by decide +kernel
theorem dX6_addMove_173 : decode cX6_addMove 173 = .ok (.return_, 1) := by decide +kernel
theorem dX6_moved_0 : decode cX6_moved 0 = .ok (.aload_n 0, 1) := by decide +kernel
theorem dX6_moved_1 : decode cX6_moved 1 = .ok (.getfield 31, 3) := by decide +kernel
theorem dX6_moved_4 : decode cX6_moved 4 = .ok (.iconst 2, 1) := by decide +kernel
theorem dX6_moved_5 : decode cX6_moved 5 = .ok (.if_icmp .ge 5, 3) := by decide +kernel
theorem dX6_moved_8 : decode cX6_moved 8 = .ok (.iconst (-1), 1) := by decide +kernel
theorem dX6_moved_9 : decode cX6_moved 9 = .ok (.ireturn, 1) := by decide +kernel
theorem dX6_moved_10 : decode cX6_moved 10 = .ok (.iload_n 1, 1) := by decide +kernel
theorem dX6_moved_11 : decode cX6_moved 11 = .ok (.istore 6, 2) := by decide +kernel
theorem dX6_moved_13 : decode cX6_moved 13 = .ok (.iconst 1, 1) := by decide +kernel
theorem dX6_moved_14 : decode cX6_moved 14 = .ok (.istore 7, 2) := by decide +kernel
theorem dX6_moved_16 : decode cX6_moved 16 = .ok (.iconst 0, 1) := by decide +kernel
theorem dX6_moved_17 : decode cX6_moved 17 = .ok (.istore 8, 2) := by decide +kernel
theorem dX6_moved_19 : decode cX6_moved 19 = .ok (.iload_n 2, 1) := by decide +kernel
theorem dX6_moved_20 : decode cX6_moved 20 = .ok (.istore 9, 2) := by decide +kernel
theorem dX6_moved_22 : decode cX6_moved 22 = .ok (.iload 9, 2) := by decide +kernel
theorem dX6_moved_24 : decode cX6_moved 24 = .ok (.iload_n 3, 1) := by decide +kernel
theorem dX6_moved_25 : decode cX6_moved 25 = .ok (.if_icmp .ge 73, 3) := by decide +kernel
theorem dX6_moved_28 : decode cX6_moved 28 = .ok (.iload 6, 2) := by decide +kernel
theorem dX6_moved_30 : decode cX6_moved 30 = .ok (.aload_n 0, 1) := by decide +kernel
theorem dX6_moved_31 : decode cX6_moved 31 = .ok (.getfield 31, 3) := by decide +kernel
theorem dX6_moved_34 : decode cX6_moved 34 = .ok (.irem, 1) := by decide +kernel
theorem dX6_moved_35 : decode cX6_moved 35 = .ok (.istore 10, 2) := by decide +kernel
theorem dX6_moved_37 : decode cX6_moved 37 = .ok (.iload 9, 2) := by decide +kernel
theorem dX6_moved_39 : decode cX6_moved 39 = .ok (.iload 5, 2) := by decide +kernel
theorem dX6_moved_41 : decode cX6_moved 41 = .ok (.if_icmp .ne 10, 3) := by decide +kernel
theorem dX6_moved_44 : decode cX6_moved 44 = .ok (.iload 10, 2) := by decide +kernel
theorem dX6_moved_46 : decode cX6_moved 46 = .ok (.ifCond .ne 5, 3) := by decide +kernel
theorem dX6_moved_49 : decode cX6_moved 49 = .ok (.iconst (-1), 1) := by decide +kernel
theorem dX6_moved_50 : decode cX6_moved 50 = .ok (.ireturn, 1) := by decide +kernel
theorem dX6_moved_51 : decode cX6_moved 51 = .ok (.iload 8, 2) := by decide +kernel
theorem dX6_moved_53 : decode cX6_moved 53 = .ok (.iload 10, 2) := by decide +kernel
theorem dX6_moved_55 : decode cX6_moved 55 = .ok (.aload 4, 2) := by decide +kernel
theorem dX6_moved_57 : decode cX6_moved 57 = .ok (.iload 9, 2) := by decide +kernel
theorem dX6_moved_59 : decode cX6_moved 59 = .ok (.iaload, 1) := by decide +kernel
theorem dX6_moved_60 : decode cX6_moved 60 = .ok (.iadd, 1) := by decide +kernel
theorem dX6_moved_61 : decode cX6_moved 61 = .ok (.aload_n 0, 1) := by decide +kernel
theorem dX6_moved_62 : decode cX6_moved 62 = .ok (.getfield 31, 3) := by decide +kernel
theorem dX6_moved_65 : decode cX6_moved 65 = .ok (.invokestatic 69, 3) := by decide +kernel
theorem dX6_moved_68 : decode cX6_moved 68 = .ok (.iload 7, 2) := by decide +kernel
theorem dX6_moved_70 : decode cX6_moved 70 = .ok (.imul, 1) := by decide +kernel
theorem dX6_moved_71 : decode cX6_moved 71 = .ok (.iadd, 1) := by decide +kernel
theorem dX6_moved_72 : decode cX6_moved 72 = .ok (.istore 8, 2) := by decide +kernel
theorem dX6_moved_74 : decode cX6_moved 74 = .ok (.iload 6, 2) := by decide +kernel
theorem dX6_moved_76 : decode cX6_moved 76 = .ok (.aload_n 0, 1) := by decide +kernel
theorem dX6_moved_77 : decode cX6_moved 77 = .ok (.getfield 31, 3) := by decide +kernel
theorem dX6_moved_80 : decode cX6_moved 80 = .ok (.idiv, 1) := by decide +kernel
theorem dX6_moved_81 : decode cX6_moved 81 = .ok (.istore 6, 2) := by decide +kernel
theorem dX6_moved_83 : decode cX6_moved 83 = .ok (.iload 7, 2) := by decide +kernel
theorem dX6_moved_85 : decode cX6_moved 85 = .ok (.aload_n 0, 1) := by decide +kernel
theorem dX6_moved_86 : decode cX6_moved 86 = .ok (.getfield 31, 3) := by decide +kernel
theorem dX6_moved_89 : decode cX6_moved 89 = .ok (.imul, 1) := by decide +kernel
theorem dX6_moved_90 : decode cX6_moved 90 = .ok (.istore 7, 2) := by decide +kernel
theorem dX6_moved_92 : decode cX6_moved 92 = .ok (.iinc 9 1, 3) := by decide +kernel
theorem dX6_moved_95 : decode cX6_moved 95 = .ok (.goto (-73), 3) := by decide +kernel
theorem dX6_moved_98 : decode cX6_moved 98 = .ok (.iload 8, 2) := by decide +kernel
theorem dX6_moved_100 : decode cX6_moved 100 = .ok (.ireturn, 1) := by decide +kernel
theorem dX6_go_0 : decode cX6_go 0 = .ok (.aload_n 0, 1) := by decide +kernel
theorem dX6_go_1 : decode cX6_go 1 = .ok (.getfield 9, 3) := by decide +kernel
theorem dX6_go_4 : decode cX6_go 4 = .ok (.iconst 0, 1) := by decide +kernel
theorem dX6_go_5 : decode cX6_go 5 = .ok (.invokestatic 73, 3) := by decide +kernel
theorem dX6_go_8 : decode cX6_go 8 = .ok (.aload_n 0, 1) := by decide +kernel
theorem dX6_go_9 : decode cX6_go 9 = .ok (.getfield 46, 3) := by decide +kernel
theorem dX6_go_12 : decode cX6_go 12 = .ok (.iconst 0, 1) := by decide +kernel
theorem dX6_go_13 : decode cX6_go 13 = .ok (.invokestatic 73, 3) := by decide +kernel
theorem dX6_go_16 : decode cX6_go 16 = .ok (.aload_n 0, 1) := by decide +kernel
theorem dX6_go_17 : decode cX6_go 17 = .ok (.iload_n 2, 1) := by decide +kernel
theorem dX6_go_18 : decode cX6_go 18 = .ok (.putfield 43, 3) := by decide +kernel
theorem dX6_go_21 : decode cX6_go 21 = .ok (.aload_n 0, 1) := by decide +kernel
theorem dX6_go_22 : decode cX6_go 22 = .ok (.iconst (-1), 1) := by decide +kernel
theorem dX6_go_23 : decode cX6_go 23 = .ok (.putfield 55, 3) := by decide +kernel
theorem dX6_go_26 : decode cX6_go 26 = .ok (.aload_n 0, 1) := by decide +kernel
theorem dX6_go_27 : decode cX6_go 27 = .ok (.iconst (-1), 1) := by decide +kernel
theorem dX6_go_28 : decode cX6_go 28 = .ok (.putfield 58, 3) := by decide +kernel
theorem dX6_go_31 : decode cX6_go 31 = .ok (.aload_n 0, 1) := by decide +kernel
theorem dX6_go_32 : decode cX6_go 32 = .ok (.iconst 0, 1) := by decide +kernel
theorem dX6_go_33 : decode cX6_go 33 = .ok (.putfield 52, 3) := by decide +kernel
theorem dX6_go_36 : decode cX6_go 36 = .ok (.aload_n 0, 1) := by decide +kernel
theorem dX6_go_37 : decode cX6_go 37 = .ok (.iconst 0, 1) := by decide +kernel
theorem dX6_go_38 : decode cX6_go 38 = .ok (.putfield 49, 3) := by decide +kernel
theorem dX6_go_41 : decode cX6_go 41 = .ok (.aload_n 0, 1) := by decide +kernel
theorem dX6_go_42 : decode cX6_go 42 = .ok (.iload_n 1, 1) := by decide +kernel
theorem dX6_go_43 : decode cX6_go 43 = .ok (.iconst (-1), 1) := by decide +kernel
theorem dX6_go_44 : decode cX6_go 44 = .ok (.iconst 0, 1) := by decide +kernel
theorem dX6_go_45 : decode cX6_go 45 = .ok (.invokevirtual 79, 3) := by decide +kernel
theorem dX6_go_48 : decode cX6_go 48 = .ok (.iconst 0, 1) := by decide +kernel
theorem dX6_go_49 : decode cX6_go 49 = .ok (.istore_n 3, 1) := by decide +kernel
theorem dX6_go_50 : decode cX6_go 50 = .ok (.iconst 0, 1) := by decide +kernel
theorem dX6_go_51 : decode cX6_go 51 = .ok (.istore 4, 2) := by decide +kernel
theorem dX6_go_53 : decode cX6_go 53 = .ok (.iload 4, 2) := by decide +kernel
theorem dX6_go_55 : decode cX6_go 55 = .ok (.sipush 20000, 3) := by decide +kernel
theorem dX6_go_58 : decode cX6_go 58 = .ok (.if_icmp .ge 71, 3) := by decide +kernel
theorem dX6_go_61 : decode cX6_go 61 = .ok (.iload_n 3, 1) := by decide +kernel
theorem dX6_go_62 : decode cX6_go 62 = .ok (.aload_n 0, 1) := by decide +kernel
theorem dX6_go_63 : decode cX6_go 63 = .ok (.getfield 52, 3) := by decide +kernel
theorem dX6_go_66 : decode cX6_go 66 = .ok (.if_icmp .ge 63, 3) := by decide +kernel
theorem dX6_go_69 : decode cX6_go 69 = .ok (.aload_n 0, 1) := by decide +kernel
theorem dX6_go_70 : decode cX6_go 70 = .ok (.getfield 52, 3) := by decide +kernel
theorem dX6_go_73 : decode cX6_go 73 = .ok (.istore 5, 2) := by decide +kernel
theorem dX6_go_75 : decode cX6_go 75 = .ok (.aload_n 0, 1) := by decide +kernel
theorem dX6_go_76 : decode cX6_go 76 = .ok (.iload 4, 2) := by decide +kernel
theorem dX6_go_78 : decode cX6_go 78 = .ok (.putfield 49, 3) := by decide +kernel
theorem dX6_go_81 : decode cX6_go 81 = .ok (.iload 4, 2) := by decide +kernel
theorem dX6_go_83 : decode cX6_go 83 = .ok (.bipush 64, 2) := by decide +kernel
theorem dX6_go_85 : decode cX6_go 85 = .ok (.if_icmp .ge 14, 3) := by decide +kernel
theorem dX6_go_88 : decode cX6_go 88 = .ok (.aload_n 0, 1) := by decide +kernel
theorem dX6_go_89 : decode cX6_go 89 = .ok (.getfield 46, 3) := by decide +kernel
theorem dX6_go_92 : decode cX6_go 92 = .ok (.iload 4, 2) := by decide +kernel
theorem dX6_go_94 : decode cX6_go 94 = .ok (.iload 5, 2) := by decide +kernel
theorem dX6_go_96 : decode cX6_go 96 = .ok (.iload_n 3, 1) := by decide +kernel
theorem dX6_go_97 : decode cX6_go 97 = .ok (.isub, 1) := by decide +kernel
theorem dX6_go_98 : decode cX6_go 98 = .ok (.iastore, 1) := by decide +kernel
theorem dX6_go_99 : decode cX6_go 99 = .ok (.iload_n 3, 1) := by decide +kernel
theorem dX6_go_100 : decode cX6_go 100 = .ok (.iload 5, 2) := by decide +kernel
theorem dX6_go_102 : decode cX6_go 102 = .ok (.if_icmp .ge 21, 3) := by decide +kernel
theorem dX6_go_105 : decode cX6_go 105 = .ok (.aload_n 0, 1) := by decide +kernel
theorem dX6_go_106 : decode cX6_go 106 = .ok (.aload_n 0, 1) := by decide +kernel
theorem dX6_go_107 : decode cX6_go 107 = .ok (.getfield 15, 3) := by decide +kernel
theorem dX6_go_110 : decode cX6_go 110 = .ok (.iload_n 3, 1) := by decide +kernel
theorem dX6_go_111 : decode cX6_go 111 = .ok (.iaload, 1) := by decide +kernel
theorem dX6_go_112 : decode cX6_go 112 = .ok (.iload 4, 2) := by decide +kernel
theorem dX6_go_114 : decode cX6_go 114 = .ok (.invokevirtual 83, 3) := by decide +kernel
theorem dX6_go_117 : decode cX6_go 117 = .ok (.iinc 3 1, 3) := by decide +kernel
theorem dX6_go_120 : decode cX6_go 120 = .ok (.goto (-21), 3) := by decide +kernel
theorem dX6_go_123 : decode cX6_go 123 = .ok (.iinc 4 1, 3) := by decide +kernel
theorem dX6_go_126 : decode cX6_go 126 = .ok (.goto (-73), 3) := by decide +kernel
theorem dX6_go_129 : decode cX6_go 129 = .ok (.return_, 1) := by decide +kernel
theorem dX6_expand_0 : decode cX6_expand 0 = .ok (.aload_n 0, 1) := by decide +kernel
theorem dX6_expand_1 : decode cX6_expand 1 = .ok (.getfield 37, 3) := by decide +kernel
theorem dX6_expand_4 : decode cX6_expand 4 = .ok (.iconst 1, 1) := by decide +kernel
theorem dX6_expand_5 : decode cX6_expand 5 = .ok (.if_icmp .ge 4, 3) := by decide +kernel
theorem dX6_expand_8 : decode cX6_expand 8 = .ok (.return_, 1) := by decide +kernel
theorem dX6_expand_9 : decode cX6_expand 9 = .ok (.iload_n 1, 1) := by decide +kernel
theorem dX6_expand_10 : decode cX6_expand 10 = .ok (.aload_n 0, 1) := by decide +kernel
theorem dX6_expand_11 : decode cX6_expand 11 = .ok (.getfield 37, 3) := by decide +kernel
theorem dX6_expand_14 : decode cX6_expand 14 = .ok (.irem, 1) := by decide +kernel
theorem dX6_expand_15 : decode cX6_expand 15 = .ok (.istore_n 3, 1) := by decide +kernel
theorem dX6_expand_16 : decode cX6_expand 16 = .ok (.aload_n 0, 1) := by decide +kernel
theorem dX6_expand_17 : decode cX6_expand 17 = .ok (.getfield 37, 3) := by decide +kernel
theorem dX6_expand_20 : decode cX6_expand 20 = .ok (.iload_n 1, 1) := by decide +kernel
theorem dX6_expand_21 : decode cX6_expand 21 = .ok (.aload_n 0, 1) := by decide +kernel
theorem dX6_expand_22 : decode cX6_expand 22 = .ok (.getfield 37, 3) := by decide +kernel
theorem dX6_expand_25 : decode cX6_expand 25 = .ok (.idiv, 1) := by decide +kernel
theorem dX6_expand_26 : decode cX6_expand 26 = .ok (.iadd, 1) := by decide +kernel
theorem dX6_expand_27 : decode cX6_expand 27 = .ok (.istore 4, 2) := by decide +kernel
theorem dX6_expand_29 : decode cX6_expand 29 = .ok (.aload_n 0, 1) := by decide +kernel
theorem dX6_expand_30 : decode cX6_expand 30 = .ok (.getfield 37, 3) := by decide +kernel
theorem dX6_expand_33 : decode cX6_expand 33 = .ok (.aload_n 0, 1) := by decide +kernel
theorem dX6_expand_34 : decode cX6_expand 34 = .ok (.getfield 40, 3) := by decide +kernel
theorem dX6_expand_37 : decode cX6_expand 37 = .ok (.iadd, 1) := by decide +kernel
theorem dX6_expand_38 : decode cX6_expand 38 = .ok (.istore 5, 2) := by decide +kernel
theorem dX6_expand_40 : decode cX6_expand 40 = .ok (.aload_n 0, 1) := by decide +kernel
theorem dX6_expand_41 : decode cX6_expand 41 = .ok (.getfield 9, 3) := by decide +kernel
theorem dX6_expand_44 : decode cX6_expand 44 = .ok (.iload_n 1, 1) := by decide +kernel
theorem dX6_expand_45 : decode cX6_expand 45 = .ok (.iaload, 1) := by decide +kernel
theorem dX6_expand_46 : decode cX6_expand 46 = .ok (.iconst 2, 1) := by decide +kernel
theorem dX6_expand_47 : decode cX6_expand 47 = .ok (.isub, 1) := by decide +kernel
theorem dX6_expand_48 : decode cX6_expand 48 = .ok (.istore 6, 2) := by decide +kernel
theorem dX6_expand_50 : decode cX6_expand 50 = .ok (.iconst 0, 1) := by decide +kernel
theorem dX6_expand_51 : decode cX6_expand 51 = .ok (.istore 7, 2) := by decide +kernel
theorem dX6_expand_53 : decode cX6_expand 53 = .ok (.iload 7, 2) := by decide +kernel
theorem dX6_expand_55 : decode cX6_expand 55 = .ok (.aload_n 0, 1) := by decide +kernel
theorem dX6_expand_56 : decode cX6_expand 56 = .ok (.getfield 24, 3) := by decide +kernel
theorem dX6_expand_59 : decode cX6_expand 59 = .ok (.if_icmp .ge 80, 3) := by decide +kernel
theorem dX6_expand_62 : decode cX6_expand 62 = .ok (.aload_n 0, 1) := by decide +kernel
theorem dX6_expand_63 : decode cX6_expand 63 = .ok (.getfield 18, 3) := by decide +kernel
theorem dX6_expand_66 : decode cX6_expand 66 = .ok (.iload 7, 2) := by decide +kernel
theorem dX6_expand_68 : decode cX6_expand 68 = .ok (.iload 5, 2) := by decide +kernel
theorem dX6_expand_70 : decode cX6_expand 70 = .ok (.imul, 1) := by decide +kernel
theorem dX6_expand_71 : decode cX6_expand 71 = .ok (.iload_n 3, 1) := by decide +kernel
theorem dX6_expand_72 : decode cX6_expand 72 = .ok (.iadd, 1) := by decide +kernel
theorem dX6_expand_73 : decode cX6_expand 73 = .ok (.iaload, 1) := by decide +kernel
theorem dX6_expand_74 : decode cX6_expand 74 = .ok (.istore 8, 2) := by decide +kernel
theorem dX6_expand_76 : decode cX6_expand 76 = .ok (.aload_n 0, 1) := by decide +kernel
theorem dX6_expand_77 : decode cX6_expand 77 = .ok (.getfield 18, 3) := by decide +kernel
theorem dX6_expand_80 : decode cX6_expand 80 = .ok (.iload 7, 2) := by decide +kernel
theorem dX6_expand_82 : decode cX6_expand 82 = .ok (.iload 5, 2) := by decide +kernel
theorem dX6_expand_84 : decode cX6_expand 84 = .ok (.imul, 1) := by decide +kernel
theorem dX6_expand_85 : decode cX6_expand 85 = .ok (.iload 4, 2) := by decide +kernel
theorem dX6_expand_87 : decode cX6_expand 87 = .ok (.iadd, 1) := by decide +kernel
theorem dX6_expand_88 : decode cX6_expand 88 = .ok (.iaload, 1) := by decide +kernel
theorem dX6_expand_89 : decode cX6_expand 89 = .ok (.istore 9, 2) := by decide +kernel
theorem dX6_expand_91 : decode cX6_expand 91 = .ok (.iload 8, 2) := by decide +kernel
theorem dX6_expand_93 : decode cX6_expand 93 = .ok (.iconst (-1), 1) := by decide +kernel
theorem dX6_expand_94 : decode cX6_expand 94 = .ok (.if_icmp .eq 39, 3) := by decide +kernel
theorem dX6_expand_97 : decode cX6_expand 97 = .ok (.iload 9, 2) := by decide +kernel
theorem dX6_expand_99 : decode cX6_expand 99 = .ok (.iconst (-1), 1) := by decide +kernel
theorem dX6_expand_100 : decode cX6_expand 100 = .ok (.if_icmp .eq 33, 3) := by decide +kernel
theorem dX6_expand_103 : decode cX6_expand 103 = .ok (.aload_n 0, 1) := by decide +kernel
theorem dX6_expand_104 : decode cX6_expand 104 = .ok (.iload 8, 2) := by decide +kernel
theorem dX6_expand_106 : decode cX6_expand 106 = .ok (.iload 9, 2) := by decide +kernel
theorem dX6_expand_108 : decode cX6_expand 108 = .ok (.iadd, 1) := by decide +kernel
theorem dX6_expand_109 : decode cX6_expand 109 = .ok (.iload 6, 2) := by decide +kernel
theorem dX6_expand_111 : decode cX6_expand 111 = .ok (.iconst (-1), 1) := by decide +kernel
theorem dX6_expand_112 : decode cX6_expand 112 = .ok (.if_icmp .ne 13, 3) := by decide +kernel
theorem dX6_expand_115 : decode cX6_expand 115 = .ok (.aload_n 0, 1) := by decide +kernel
theorem dX6_expand_116 : decode cX6_expand 116 = .ok (.getfield 21, 3) := by decide +kernel
theorem dX6_expand_119 : decode cX6_expand 119 = .ok (.iload 7, 2) := by decide +kernel
theorem dX6_expand_121 : decode cX6_expand 121 = .ok (.iaload, 1) := by decide +kernel
theorem dX6_expand_122 : decode cX6_expand 122 = .ok (.goto 5, 3) := by decide +kernel
theorem dX6_expand_125 : decode cX6_expand 125 = .ok (.iload 6, 2) := by decide +kernel
theorem dX6_expand_127 : decode cX6_expand 127 = .ok (.iload_n 2, 1) := by decide +kernel
theorem dX6_expand_128 : decode cX6_expand 128 = .ok (.iconst 1, 1) := by decide +kernel
theorem dX6_expand_129 : decode cX6_expand 129 = .ok (.iadd, 1) := by decide +kernel
theorem dX6_expand_130 : decode cX6_expand 130 = .ok (.invokevirtual 79, 3) := by decide +kernel
theorem dX6_expand_133 : decode cX6_expand 133 = .ok (.iinc 7 1, 3) := by decide +kernel
theorem dX6_expand_136 : decode cX6_expand 136 = .ok (.goto (-83), 3) := by decide +kernel
theorem dX6_expand_139 : decode cX6_expand 139 = .ok (.return_, 1) := by decide +kernel
theorem dX6_comeTo_0 : decode cX6_comeTo 0 = .ok (.iload_n 1, 1) := by decide +kernel
theorem dX6_comeTo_1 : decode cX6_comeTo 1 = .ok (.ifCond .lt 19, 3) := by decide +kernel
theorem dX6_comeTo_4 : decode cX6_comeTo 4 = .ok (.iload_n 1, 1) := by decide +kernel
theorem dX6_comeTo_5 : decode cX6_comeTo 5 = .ok (.sipush 20000, 3) := by decide +kernel
theorem dX6_comeTo_8 : decode cX6_comeTo 8 = .ok (.if_icmp .ge 12, 3) := by decide +kernel
theorem dX6_comeTo_11 : decode cX6_comeTo 11 = .ok (.aload_n 0, 1) := by decide +kernel
theorem dX6_comeTo_12 : decode cX6_comeTo 12 = .ok (.getfield 9, 3) := by decide +kernel
theorem dX6_comeTo_15 : decode cX6_comeTo 15 = .ok (.iload_n 1, 1) := by decide +kernel
theorem dX6_comeTo_16 : decode cX6_comeTo 16 = .ok (.iaload, 1) := by decide +kernel
theorem dX6_comeTo_17 : decode cX6_comeTo 17 = .ok (.ifCond .eq 4, 3) := by decide +kernel
theorem dX6_comeTo_20 : decode cX6_comeTo 20 = .ok (.return_, 1) := by decide +kernel
theorem dX6_comeTo_21 : decode cX6_comeTo 21 = .ok (.aload_n 0, 1) := by decide +kernel
theorem dX6_comeTo_22 : decode cX6_comeTo 22 = .ok (.getfield 9, 3) := by decide +kernel
theorem dX6_comeTo_25 : decode cX6_comeTo 25 = .ok (.iload_n 1, 1) := by decide +kernel
theorem dX6_comeTo_26 : decode cX6_comeTo 26 = .ok (.iload_n 2, 1) := by decide +kernel
theorem dX6_comeTo_27 : decode cX6_comeTo 27 = .ok (.iconst 2, 1) := by decide +kernel
theorem dX6_comeTo_28 : decode cX6_comeTo 28 = .ok (.iadd, 1) := by decide +kernel
theorem dX6_comeTo_29 : decode cX6_comeTo 29 = .ok (.iastore, 1) := by decide +kernel
theorem dX6_comeTo_30 : decode cX6_comeTo 30 = .ok (.aload_n 0, 1) := by decide +kernel
theorem dX6_comeTo_31 : decode cX6_comeTo 31 = .ok (.getfield 15, 3) := by decide +kernel
theorem dX6_comeTo_34 : decode cX6_comeTo 34 = .ok (.aload_n 0, 1) := by decide +kernel
theorem dX6_comeTo_35 : decode cX6_comeTo 35 = .ok (.getfield 52, 3) := by decide +kernel
theorem dX6_comeTo_38 : decode cX6_comeTo 38 = .ok (.iload_n 1, 1) := by decide +kernel
theorem dX6_comeTo_39 : decode cX6_comeTo 39 = .ok (.iastore, 1) := by decide +kernel
theorem dX6_comeTo_40 : decode cX6_comeTo 40 = .ok (.aload_n 0, 1) := by decide +kernel
theorem dX6_comeTo_41 : decode cX6_comeTo 41 = .ok (.dup, 1) := by decide +kernel
theorem dX6_comeTo_42 : decode cX6_comeTo 42 = .ok (.getfield 52, 3) := by decide +kernel
theorem dX6_comeTo_45 : decode cX6_comeTo 45 = .ok (.iconst 1, 1) := by decide +kernel
theorem dX6_comeTo_46 : decode cX6_comeTo 46 = .ok (.iadd, 1) := by decide +kernel
theorem dX6_comeTo_47 : decode cX6_comeTo 47 = .ok (.putfield 52, 3) := by decide +kernel
theorem dX6_comeTo_50 : decode cX6_comeTo 50 = .ok (.iload_n 1, 1) := by decide +kernel
theorem dX6_comeTo_51 : decode cX6_comeTo 51 = .ok (.aload_n 0, 1) := by decide +kernel
theorem dX6_comeTo_52 : decode cX6_comeTo 52 = .ok (.getfield 43, 3) := by decide +kernel
theorem dX6_comeTo_55 : decode cX6_comeTo 55 = .ok (.if_icmp .ne 13, 3) := by decide +kernel
theorem dX6_comeTo_58 : decode cX6_comeTo 58 = .ok (.aload_n 0, 1) := by decide +kernel
theorem dX6_comeTo_59 : decode cX6_comeTo 59 = .ok (.iload_n 3, 1) := by decide +kernel
theorem dX6_comeTo_60 : decode cX6_comeTo 60 = .ok (.putfield 55, 3) := by decide +kernel
theorem dX6_comeTo_63 : decode cX6_comeTo 63 = .ok (.aload_n 0, 1) := by decide +kernel
theorem dX6_comeTo_64 : decode cX6_comeTo 64 = .ok (.iload_n 2, 1) := by decide +kernel
theorem dX6_comeTo_65 : decode cX6_comeTo 65 = .ok (.putfield 58, 3) := by decide +kernel
theorem dX6_comeTo_68 : decode cX6_comeTo 68 = .ok (.return_, 1) := by decide +kernel
theorem dX7_init_0 : decode cX7_init 0 = .ok (.aload_n 0, 1) := by decide +kernel
theorem dX7_init_1 : decode cX7_init 1 = .ok (.invokespecial 3, 3) := by decide +kernel
theorem dX7_init_4 : decode cX7_init 4 = .ok (.aload_n 0, 1) := by decide +kernel
theorem dX7_init_5 : decode cX7_init 5 = .ok (.iconst 0, 1) := by decide +kernel
theorem dX7_init_6 : decode cX7_init 6 = .ok (.putfield 9, 3) := by decide +kernel
theorem dX7_init_9 : decode cX7_init 9 = .ok (.aload_n 0, 1) := by decide +kernel
theorem dX7_init_10 : decode cX7_init 10 = .ok (.iconst 2, 1) := by decide +kernel
theorem dX7_init_11 : decode cX7_init 11 = .ok (.putfield 15, 3) := by decide +kernel
theorem dX7_init_14 : decode cX7_init 14 = .ok (.aload_n 0, 1) := by decide +kernel
theorem dX7_init_15 : decode cX7_init 15 = .ok (.iconst 0, 1) := by decide +kernel
theorem dX7_init_16 : decode cX7_init 16 = .ok (.putfield 18, 3) := by decide +kernel
theorem dX7_init_19 : decode cX7_init 19 = .ok (.aload_n 0, 1) := by decide +kernel
theorem dX7_init_20 : decode cX7_init 20 = .ok (.iconst 0, 1) := by decide +kernel
theorem dX7_init_21 : decode cX7_init 21 = .ok (.putfield 21, 3) := by decide +kernel
theorem dX7_init_24 : decode cX7_init 24 = .ok (.aload_n 0, 1) := by decide +kernel
theorem dX7_init_25 : decode cX7_init 25 = .ok (.iconst (-1), 1) := by decide +kernel
theorem dX7_init_26 : decode cX7_init 26 = .ok (.putfield 24, 3) := by decide +kernel
theorem dX7_init_29 : decode cX7_init 29 = .ok (.aload_n 0, 1) := by decide +kernel
theorem dX7_init_30 : decode cX7_init 30 = .ok (.bipush 36, 2) := by decide +kernel
theorem dX7_init_32 : decode cX7_init 32 = .ok (.bipush 36, 2) := by decide +kernel
theorem dX7_init_34 : decode cX7_init 34 = .ok (.multianewarray 27 2, 4) := by decide +kernel
theorem dX7_init_38 : decode cX7_init 38 = .ok (.putfield 29, 3) := by decide +kernel
theorem dX7_init_41 : decode cX7_init 41 = .ok (.aload_n 0, 1) := by decide +kernel
theorem dX7_init_42 : decode cX7_init 42 = .ok (.bipush 36, 2) := by decide +kernel
theorem dX7_init_44 : decode cX7_init 44 = .ok (.newarray .boolean, 2) := by decide +kernel
theorem dX7_init_46 : decode cX7_init 46 = .ok (.putfield 32, 3) := by decide +kernel
theorem dX7_init_49 : decode cX7_init 49 = .ok (.aload_n 0, 1) := by decide +kernel
theorem dX7_init_50 : decode cX7_init 50 = .ok (.bipush 6, 2) := by decide +kernel
theorem dX7_init_52 : decode cX7_init 52 = .ok (.newarray .int, 2) := by decide +kernel
theorem dX7_init_54 : decode cX7_init 54 = .ok (.putfield 36, 3) := by decide +kernel
theorem dX7_init_57 : decode cX7_init 57 = .ok (.aload_n 0, 1) := by decide +kernel
theorem dX7_init_58 : decode cX7_init 58 = .ok (.bipush 36, 2) := by decide +kernel
theorem dX7_init_60 : decode cX7_init 60 = .ok (.bipush 36, 2) := by decide +kernel
theorem dX7_init_62 : decode cX7_init 62 = .ok (.multianewarray 27 2, 4) := by decide +kernel
theorem dX7_init_66 : decode cX7_init 66 = .ok (.putfield 40, 3) := by decide +kernel
theorem dX7_init_69 : decode cX7_init 69 = .ok (.return_, 1) := by decide +kernel
theorem dX7_clear_0 : decode cX7_clear 0 = .ok (.aload_n 0, 1) := by decide +kernel
theorem dX7_clear_1 : decode cX7_clear 1 = .ok (.iconst 0, 1) := by decide +kernel
theorem dX7_clear_2 : decode cX7_clear 2 = .ok (.putfield 9, 3) := by decide +kernel
theorem dX7_clear_5 : decode cX7_clear 5 = .ok (.aload_n 0, 1) := by decide +kernel
theorem dX7_clear_6 : decode cX7_clear 6 = .ok (.iconst 2, 1) := by decide +kernel
theorem dX7_clear_7 : decode cX7_clear 7 = .ok (.putfield 15, 3) := by decide +kernel
theorem dX7_clear_10 : decode cX7_clear 10 = .ok (.aload_n 0, 1) := by decide +kernel
theorem dX7_clear_11 : decode cX7_clear 11 = .ok (.iconst 0, 1) := by decide +kernel
theorem dX7_clear_12 : decode cX7_clear 12 = .ok (.putfield 18, 3) := by decide +kernel
theorem dX7_clear_15 : decode cX7_clear 15 = .ok (.aload_n 0, 1) := by decide +kernel
theorem dX7_clear_16 : decode cX7_clear 16 = .ok (.iconst 0, 1) := by decide +kernel
theorem dX7_clear_17 : decode cX7_clear 17 = .ok (.putfield 21, 3) := by decide +kernel
theorem dX7_clear_20 : decode cX7_clear 20 = .ok (.aload_n 0, 1) := by decide +kernel
theorem dX7_clear_21 : decode cX7_clear 21 = .ok (.iconst (-1), 1) := by decide +kernel
theorem dX7_clear_22 : decode cX7_clear 22 = .ok (.putfield 24, 3) := by decide +kernel
theorem dX7_clear_25 : decode cX7_clear 25 = .ok (.aload_n 0, 1) := by decide +kernel
theorem dX7_clear_26 : decode cX7_clear 26 = .ok (.getfield 36, 3) := by decide +kernel
theorem dX7_clear_29 : decode cX7_clear 29 = .ok (.iconst 0, 1) := by decide +kernel
theorem dX7_clear_30 : decode cX7_clear 30 = .ok (.invokestatic 43, 3) := by decide +kernel
theorem dX7_clear_33 : decode cX7_clear 33 = .ok (.iconst 0, 1) := by decide +kernel
theorem dX7_clear_34 : decode cX7_clear 34 = .ok (.istore_n 1, 1) := by decide +kernel
theorem dX7_clear_35 : decode cX7_clear 35 = .ok (.iload_n 1, 1) := by decide +kernel
theorem dX7_clear_36 : decode cX7_clear 36 = .ok (.bipush 36, 2) := by decide +kernel
theorem dX7_clear_38 : decode cX7_clear 38 = .ok (.if_icmp .ge 36, 3) := by decide +kernel
theorem dX7_clear_41 : decode cX7_clear 41 = .ok (.aload_n 0, 1) := by decide +kernel
theorem dX7_clear_42 : decode cX7_clear 42 = .ok (.getfield 29, 3) := by decide +kernel
theorem dX7_clear_45 : decode cX7_clear 45 = .ok (.iload_n 1, 1) := by decide +kernel
theorem dX7_clear_46 : decode cX7_clear 46 = .ok (.aaload, 1) := by decide +kernel
theorem dX7_clear_47 : decode cX7_clear 47 = .ok (.iconst 0, 1) := by decide +kernel
theorem dX7_clear_48 : decode cX7_clear 48 = .ok (.invokestatic 43, 3) := by decide +kernel
theorem dX7_clear_51 : decode cX7_clear 51 = .ok (.aload_n 0, 1) := by decide +kernel
theorem dX7_clear_52 : decode cX7_clear 52 = .ok (.getfield 40, 3) := by decide +kernel
theorem dX7_clear_55 : decode cX7_clear 55 = .ok (.iload_n 1, 1) := by decide +kernel
theorem dX7_clear_56 : decode cX7_clear 56 = .ok (.aaload, 1) := by decide +kernel
theorem dX7_clear_57 : decode cX7_clear 57 = .ok (.iconst 0, 1) := by decide +kernel
theorem dX7_clear_58 : decode cX7_clear 58 = .ok (.invokestatic 43, 3) := by decide +kernel
theorem dX7_clear_61 : decode cX7_clear 61 = .ok (.aload_n 0, 1) := by decide +kernel
theorem dX7_clear_62 : decode cX7_clear 62 = .ok (.getfield 32, 3) := by decide +kernel
theorem dX7_clear_65 : decode cX7_clear 65 = .ok (.iload_n 1, 1) := by decide +kernel
theorem dX7_clear_66 : decode cX7_clear 66 = .ok (.iconst 0, 1) := by decide +kernel
theorem dX7_clear_67 : decode cX7_clear 67 = .ok (.bastore, 1) := by decide +kernel
theorem dX7_clear_68 : decode cX7_clear 68 = .ok (.iinc 1 1, 3) := by decide +kernel
theorem dX7_clear_71 : decode cX7_clear 71 = .ok (.goto (-36), 3) := by decide +kernel
theorem dX7_clear_74 : decode cX7_clear 74 = .ok (.return_, 1) := by decide +kernel
theorem dX7_isNet_0 : decode cX7_isNet 0 = .ok (.aload_n 0, 1) := by decide +kernel
theorem dX7_isNet_1 : decode cX7_isNet 1 = .ok (.getfield 24, 3) := by decide +kernel
theorem dX7_isNet_4 : decode cX7_isNet 4 = .ok (.iconst (-1), 1) := by decide +kernel
theorem dX7_isNet_5 : decode cX7_isNet 5 = .ok (.if_icmp .ne 7, 3) := by decide +kernel
theorem dX7_isNet_8 : decode cX7_isNet 8 = .ok (.iconst 1, 1) := by decide +kernel
theorem dX7_isNet_9 : decode cX7_isNet 9 = .ok (.goto 4, 3) := by decide +kernel
theorem dX7_isNet_12 : decode cX7_isNet 12 = .ok (.iconst 0, 1) := by decide +kernel
theorem dX7_isNet_13 : decode cX7_isNet 13 = .ok (.ireturn, 1) := by decide +kernel
theorem dX7_jammedCount_0 : decode cX7_jammedCount 0 = .ok (.iconst 0, 1) := by decide +kernel
theorem dX7_jammedCount_1 : decode cX7_jammedCount 1 = .ok (.istore_n 1, 1) := by decide +kernel
theorem dX7_jammedCount_2 : decode cX7_jammedCount 2 = .ok (.iconst 0, 1) := by decide +kernel
theorem dX7_jammedCount_3 : decode cX7_jammedCount 3 = .ok (.istore_n 2, 1) := by decide +kernel
theorem dX7_jammedCount_4 : decode cX7_jammedCount 4 = .ok (.iload_n 2, 1) := by decide +kernel
theorem dX7_jammedCount_5 : decode cX7_jammedCount 5 = .ok (.aload_n 0, 1) := by decide +kernel
theorem dX7_jammedCount_6 : decode cX7_jammedCount 6 = .ok (.getfield 9, 3) := by decide +kernel
theorem dX7_jammedCount_9 : decode cX7_jammedCount 9 = .ok (.if_icmp .ge 21, 3) := by decide +kernel
theorem dX7_jammedCount_12 : decode cX7_jammedCount 12 = .ok (.aload_n 0, 1) := by decide +kernel
theorem dX7_jammedCount_13 : decode cX7_jammedCount 13 = .ok (.getfield 32, 3) := by decide +kernel
theorem dX7_jammedCount_16 : decode cX7_jammedCount 16 = .ok (.iload_n 2, 1) := by decide +kernel
theorem dX7_jammedCount_17 : decode cX7_jammedCount 17 = .ok (.baload, 1) := by decide +kernel
theorem dX7_jammedCount_18 : decode cX7_jammedCount 18 = .ok (.ifCond .eq 6, 3) := by decide +kernel
theorem dX7_jammedCount_21 : decode cX7_jammedCount 21 = .ok (.iinc 1 1, 3) := by decide +kernel
theorem dX7_jammedCount_24 : decode cX7_jammedCount 24 = .ok (.iinc 2 1, 3) := by decide +kernel
theorem dX7_jammedCount_27 : decode cX7_jammedCount 27 = .ok (.goto (-23), 3) := by decide +kernel
theorem dX7_jammedCount_30 : decode cX7_jammedCount 30 = .ok (.iload_n 1, 1) := by decide +kernel
theorem dX7_jammedCount_31 : decode cX7_jammedCount 31 = .ok (.ireturn, 1) := by decide +kernel
theorem dX7_addAmount_0 : decode cX7_addAmount 0 = .ok (.aload_n 0, 1) := by decide +kernel
theorem dX7_addAmount_1 : decode cX7_addAmount 1 = .ok (.getfield 29, 3) := by decide +kernel
theorem dX7_addAmount_4 : decode cX7_addAmount 4 = .ok (.iload_n 1, 1) := by decide +kernel
theorem dX7_addAmount_5 : decode cX7_addAmount 5 = .ok (.aaload, 1) := by decide +kernel
theorem dX7_addAmount_6 : decode cX7_addAmount 6 = .ok (.iload_n 2, 1) := by decide +kernel
theorem dX7_addAmount_7 : decode cX7_addAmount 7 = .ok (.aload_n 0, 1) := by decide +kernel
theorem dX7_addAmount_8 : decode cX7_addAmount 8 = .ok (.getfield 29, 3) := by decide +kernel
theorem dX7_addAmount_11 : decode cX7_addAmount 11 = .ok (.iload_n 1, 1) := by decide +kernel
theorem dX7_addAmount_12 : decode cX7_addAmount 12 = .ok (.aaload, 1) := by decide +kernel
theorem dX7_addAmount_13 : decode cX7_addAmount 13 = .ok (.iload_n 2, 1) := by decide +kernel
theorem dX7_addAmount_14 : decode cX7_addAmount 14 = .ok (.iaload, 1) := by decide +kernel
theorem dX7_addAmount_15 : decode cX7_addAmount 15 = .ok (.iload_n 3, 1) := by decide +kernel
theorem dX7_addAmount_16 : decode cX7_addAmount 16 = .ok (.iadd, 1) := by decide +kernel
theorem dX7_addAmount_17 : decode cX7_addAmount 17 = .ok (.aload_n 0, 1) := by decide +kernel
theorem dX7_addAmount_18 : decode cX7_addAmount 18 = .ok (.getfield 15, 3) := by decide +kernel
theorem dX7_addAmount_21 : decode cX7_addAmount 21 = .ok (.invokestatic 49, 3) := by decide +kernel
theorem dX7_addAmount_24 : decode cX7_addAmount 24 = .ok (.iastore, 1) := by decide +kernel
theorem dX7_addAmount_25 : decode cX7_addAmount 25 = .ok (.return_, 1) := by decide +kernel
theorem dX7_addShape_0 : decode cX7_addShape 0 = .ok (.aload_n 0, 1) := by decide +kernel
theorem dX7_addShape_1 : decode cX7_addShape 1 = .ok (.getfield 36, 3) := by decide +kernel
theorem dX7_addShape_4 : decode cX7_addShape 4 = .ok (.iload_n 1, 1) := by decide +kernel
theorem dX7_addShape_5 : decode cX7_addShape 5 = .ok (.aload_n 0, 1) := by decide +kernel
theorem dX7_addShape_6 : decode cX7_addShape 6 = .ok (.getfield 36, 3) := by decide +kernel
theorem dX7_addShape_9 : decode cX7_addShape 9 = .ok (.iload_n 1, 1) := by decide +kernel
theorem dX7_addShape_10 : decode cX7_addShape 10 = .ok (.iaload, 1) := by decide +kernel
theorem dX7_addShape_11 : decode cX7_addShape 11 = .ok (.iload_n 2, 1) := by decide +kernel
theorem dX7_addShape_12 : decode cX7_addShape 12 = .ok (.iadd, 1) := by decide +kernel
theorem dX7_addShape_13 : decode cX7_addShape 13 = .ok (.aload_n 0, 1) := by decide +kernel
theorem dX7_addShape_14 : decode cX7_addShape 14 = .ok (.getfield 15, 3) := by decide +kernel
theorem dX7_addShape_17 : decode cX7_addShape 17 = .ok (.invokestatic 49, 3) := by decide +kernel
theorem dX7_addShape_20 : decode cX7_addShape 20 = .ok (.iastore, 1) := by decide +kernel
theorem dX7_addShape_21 : decode cX7_addShape 21 = .ok (.return_, 1) := by decide +kernel
theorem dX7_addWire_0 : decode cX7_addWire 0 = .ok (.aload_n 0, 1) := by decide +kernel
theorem dX7_addWire_1 : decode cX7_addWire 1 = .ok (.getfield 40, 3) := by decide +kernel
theorem dX7_addWire_4 : decode cX7_addWire 4 = .ok (.iload_n 1, 1) := by decide +kernel
theorem dX7_addWire_5 : decode cX7_addWire 5 = .ok (.aaload, 1) := by decide +kernel
theorem dX7_addWire_6 : decode cX7_addWire 6 = .ok (.iload_n 2, 1) := by decide +kernel
theorem dX7_addWire_7 : decode cX7_addWire 7 = .ok (.dup2, 1) := by decide +kernel
theorem dX7_addWire_8 : decode cX7_addWire 8 = .ok (.iaload, 1) := by decide +kernel
theorem dX7_addWire_9 : decode cX7_addWire 9 = .ok (.iconst 1, 1) := by decide +kernel
theorem dX7_addWire_10 : decode cX7_addWire 10 = .ok (.iadd, 1) := by decide +kernel
theorem dX7_addWire_11 : decode cX7_addWire 11 = .ok (.iastore, 1) := by decide +kernel
theorem dX7_addWire_12 : decode cX7_addWire 12 = .ok (.aload_n 0, 1) := by decide +kernel
theorem dX7_addWire_13 : decode cX7_addWire 13 = .ok (.getfield 40, 3) := by decide +kernel
theorem dX7_addWire_16 : decode cX7_addWire 16 = .ok (.iload_n 2, 1) := by decide +kernel
theorem dX7_addWire_17 : decode cX7_addWire 17 = .ok (.aaload, 1) := by decide +kernel
theorem dX7_addWire_18 : decode cX7_addWire 18 = .ok (.iload_n 1, 1) := by decide +kernel
theorem dX7_addWire_19 : decode cX7_addWire 19 = .ok (.dup2, 1) := by decide +kernel
theorem dX7_addWire_20 : decode cX7_addWire 20 = .ok (.iaload, 1) := by decide +kernel
theorem dX7_addWire_21 : decode cX7_addWire 21 = .ok (.iconst 1, 1) := by decide +kernel
theorem dX7_addWire_22 : decode cX7_addWire 22 = .ok (.iadd, 1) := by decide +kernel
theorem dX7_addWire_23 : decode cX7_addWire 23 = .ok (.iastore, 1) := by decide +kernel
theorem dX7_addWire_24 : decode cX7_addWire 24 = .ok (.return_, 1) := by decide +kernel
theorem dX7_layShapes_0 : decode cX7_layShapes 0 = .ok (.iconst 0, 1) := by decide +kernel
theorem dX7_layShapes_1 : decode cX7_layShapes 1 = .ok (.istore_n 1, 1) := by decide +kernel
theorem dX7_layShapes_2 : decode cX7_layShapes 2 = .ok (.iload_n 1, 1) := by decide +kernel
theorem dX7_layShapes_3 : decode cX7_layShapes 3 = .ok (.aload_n 0, 1) := by decide +kernel
theorem dX7_layShapes_4 : decode cX7_layShapes 4 = .ok (.getfield 9, 3) := by decide +kernel
theorem dX7_layShapes_7 : decode cX7_layShapes 7 = .ok (.if_icmp .ge 83, 3) := by decide +kernel
theorem dX7_layShapes_10 : decode cX7_layShapes 10 = .ok (.aload_n 0, 1) := by decide +kernel
theorem dX7_layShapes_11 : decode cX7_layShapes 11 = .ok (.iload_n 1, 1) := by decide +kernel
theorem dX7_layShapes_12 : decode cX7_layShapes 12 = .ok (.iload_n 1, 1) := by decide +kernel
theorem dX7_layShapes_13 : decode cX7_layShapes 13 = .ok (.aload_n 0, 1) := by decide +kernel
theorem dX7_layShapes_14 : decode cX7_layShapes 14 = .ok (.getfield 36, 3) := by decide +kernel
theorem dX7_layShapes_17 : decode cX7_layShapes 17 = .ok (.iconst 0, 1) := by decide +kernel
theorem dX7_layShapes_18 : decode cX7_layShapes 18 = .ok (.iaload, 1) := by decide +kernel
theorem dX7_layShapes_19 : decode cX7_layShapes 19 = .ok (.invokevirtual 53, 3) := by decide +kernel
theorem dX7_layShapes_22 : decode cX7_layShapes 22 = .ok (.aload_n 0, 1) := by decide +kernel
theorem dX7_layShapes_23 : decode cX7_layShapes 23 = .ok (.invokevirtual 57, 3) := by decide +kernel
theorem dX7_layShapes_26 : decode cX7_layShapes 26 = .ok (.ifCond .eq 11, 3) := by decide +kernel
theorem dX7_layShapes_29 : decode cX7_layShapes 29 = .ok (.aload_n 0, 1) := by decide +kernel
theorem dX7_layShapes_30 : decode cX7_layShapes 30 = .ok (.iload_n 1, 1) := by decide +kernel
theorem dX7_layShapes_31 : decode cX7_layShapes 31 = .ok (.invokevirtual 61, 3) := by decide +kernel
theorem dX7_layShapes_34 : decode cX7_layShapes 34 = .ok (.goto 50, 3) := by decide +kernel
theorem dX7_layShapes_37 : decode cX7_layShapes 37 = .ok (.aload_n 0, 1) := by decide +kernel
theorem dX7_layShapes_38 : decode cX7_layShapes 38 = .ok (.iload_n 1, 1) := by decide +kernel
theorem dX7_layShapes_39 : decode cX7_layShapes 39 = .ok (.getstatic 65, 3) := by decide +kernel
theorem dX7_layShapes_42 : decode cX7_layShapes 42 = .ok (.aload_n 0, 1) := by decide +kernel
theorem dX7_layShapes_43 : decode cX7_layShapes 43 = .ok (.getfield 36, 3) := by decide +kernel
theorem dX7_layShapes_46 : decode cX7_layShapes 46 = .ok (.iconst 1, 1) := by decide +kernel
theorem dX7_layShapes_47 : decode cX7_layShapes 47 = .ok (.iaload, 1) := by decide +kernel
theorem dX7_layShapes_48 : decode cX7_layShapes 48 = .ok (.invokevirtual 68, 3) := by decide +kernel
theorem dX7_layShapes_51 : decode cX7_layShapes 51 = .ok (.aload_n 0, 1) := by decide +kernel
theorem dX7_layShapes_52 : decode cX7_layShapes 52 = .ok (.iload_n 1, 1) := by decide +kernel
theorem dX7_layShapes_53 : decode cX7_layShapes 53 = .ok (.getstatic 72, 3) := by decide +kernel
theorem dX7_layShapes_56 : decode cX7_layShapes 56 = .ok (.aload_n 0, 1) := by decide +kernel
theorem dX7_layShapes_57 : decode cX7_layShapes 57 = .ok (.getfield 36, 3) := by decide +kernel
theorem dX7_layShapes_60 : decode cX7_layShapes 60 = .ok (.iconst 2, 1) := by decide +kernel
theorem dX7_layShapes_61 : decode cX7_layShapes 61 = .ok (.iaload, 1) := by decide +kernel
theorem dX7_layShapes_62 : decode cX7_layShapes 62 = .ok (.invokevirtual 68, 3) := by decide +kernel
theorem dX7_layShapes_65 : decode cX7_layShapes 65 = .ok (.aload_n 0, 1) := by decide +kernel
theorem dX7_layShapes_66 : decode cX7_layShapes 66 = .ok (.iload_n 1, 1) := by decide +kernel
theorem dX7_layShapes_67 : decode cX7_layShapes 67 = .ok (.getstatic 75, 3) := by decide +kernel
theorem dX7_layShapes_70 : decode cX7_layShapes 70 = .ok (.aload_n 0, 1) := by decide +kernel
theorem dX7_layShapes_71 : decode cX7_layShapes 71 = .ok (.getfield 36, 3) := by decide +kernel
theorem dX7_layShapes_74 : decode cX7_layShapes 74 = .ok (.iconst 3, 1) := by decide +kernel
theorem dX7_layShapes_75 : decode cX7_layShapes 75 = .ok (.iaload, 1) := by decide +kernel
theorem dX7_layShapes_76 : decode cX7_layShapes 76 = .ok (.invokevirtual 68, 3) := by decide +kernel
theorem dX7_layShapes_79 : decode cX7_layShapes 79 = .ok (.aload_n 0, 1) := by decide +kernel
theorem dX7_layShapes_80 : decode cX7_layShapes 80 = .ok (.iload_n 1, 1) := by decide +kernel
theorem dX7_layShapes_81 : decode cX7_layShapes 81 = .ok (.invokevirtual 78, 3) := by decide +kernel
theorem dX7_layShapes_84 : decode cX7_layShapes 84 = .ok (.iinc 1 1, 3) := by decide +kernel
theorem dX7_layShapes_87 : decode cX7_layShapes 87 = .ok (.goto (-85), 3) := by decide +kernel
theorem dX7_layShapes_90 : decode cX7_layShapes 90 = .ok (.return_, 1) := by decide +kernel
theorem dX7_layWires_0 : decode cX7_layWires 0 = .ok (.iconst 0, 1) := by decide +kernel
theorem dX7_layWires_1 : decode cX7_layWires 1 = .ok (.istore_n 2, 1) := by decide +kernel
theorem dX7_layWires_2 : decode cX7_layWires 2 = .ok (.iload_n 2, 1) := by decide +kernel
theorem dX7_layWires_3 : decode cX7_layWires 3 = .ok (.aload_n 0, 1) := by decide +kernel
theorem dX7_layWires_4 : decode cX7_layWires 4 = .ok (.getfield 9, 3) := by decide +kernel
theorem dX7_layWires_7 : decode cX7_layWires 7 = .ok (.if_icmp .ge 30, 3) := by decide +kernel
theorem dX7_layWires_10 : decode cX7_layWires 10 = .ok (.aload_n 0, 1) := by decide +kernel
theorem dX7_layWires_11 : decode cX7_layWires 11 = .ok (.iload_n 1, 1) := by decide +kernel
theorem dX7_layWires_12 : decode cX7_layWires 12 = .ok (.iload_n 2, 1) := by decide +kernel
theorem dX7_layWires_13 : decode cX7_layWires 13 = .ok (.aload_n 0, 1) := by decide +kernel
theorem dX7_layWires_14 : decode cX7_layWires 14 = .ok (.getfield 40, 3) := by decide +kernel
theorem dX7_layWires_17 : decode cX7_layWires 17 = .ok (.iload_n 1, 1) := by decide +kernel
theorem dX7_layWires_18 : decode cX7_layWires 18 = .ok (.aaload, 1) := by decide +kernel
theorem dX7_layWires_19 : decode cX7_layWires 19 = .ok (.iload_n 2, 1) := by decide +kernel
theorem dX7_layWires_20 : decode cX7_layWires 20 = .ok (.iaload, 1) := by decide +kernel
theorem dX7_layWires_21 : decode cX7_layWires 21 = .ok (.aload_n 0, 1) := by decide +kernel
theorem dX7_layWires_22 : decode cX7_layWires 22 = .ok (.getfield 36, 3) := by decide +kernel
theorem dX7_layWires_25 : decode cX7_layWires 25 = .ok (.iconst 1, 1) := by decide +kernel
theorem dX7_layWires_26 : decode cX7_layWires 26 = .ok (.iaload, 1) := by decide +kernel
theorem dX7_layWires_27 : decode cX7_layWires 27 = .ok (.imul, 1) := by decide +kernel
theorem dX7_layWires_28 : decode cX7_layWires 28 = .ok (.invokevirtual 53, 3) := by decide +kernel
theorem dX7_layWires_31 : decode cX7_layWires 31 = .ok (.iinc 2 1, 3) := by decide +kernel
theorem dX7_layWires_34 : decode cX7_layWires 34 = .ok (.goto (-32), 3) := by decide +kernel
theorem dX7_layWires_37 : decode cX7_layWires 37 = .ok (.return_, 1) := by decide +kernel
theorem dX7_laySteps_0 : decode cX7_laySteps 0 = .ok (.iload_n 3, 1) := by decide +kernel
theorem dX7_laySteps_1 : decode cX7_laySteps 1 = .ok (.ifCond .eq 11, 3) := by decide +kernel
theorem dX7_laySteps_4 : decode cX7_laySteps 4 = .ok (.aload_n 0, 1) := by decide +kernel
theorem dX7_laySteps_5 : decode cX7_laySteps 5 = .ok (.getfield 18, 3) := by decide +kernel
theorem dX7_laySteps_8 : decode cX7_laySteps 8 = .ok (.iconst 1, 1) := by decide +kernel
theorem dX7_laySteps_9 : decode cX7_laySteps 9 = .ok (.if_icmp .ge 4, 3) := by decide +kernel
theorem dX7_laySteps_12 : decode cX7_laySteps 12 = .ok (.return_, 1) := by decide +kernel
theorem dX7_laySteps_13 : decode cX7_laySteps 13 = .ok (.iload_n 1, 1) := by decide +kernel
theorem dX7_laySteps_14 : decode cX7_laySteps 14 = .ok (.aload_n 0, 1) := by decide +kernel
theorem dX7_laySteps_15 : decode cX7_laySteps 15 = .ok (.getfield 18, 3) := by decide +kernel
theorem dX7_laySteps_18 : decode cX7_laySteps 18 = .ok (.irem, 1) := by decide +kernel
theorem dX7_laySteps_19 : decode cX7_laySteps 19 = .ok (.istore 4, 2) := by decide +kernel
theorem dX7_laySteps_21 : decode cX7_laySteps 21 = .ok (.iload_n 1, 1) := by decide +kernel
theorem dX7_laySteps_22 : decode cX7_laySteps 22 = .ok (.aload_n 0, 1) := by decide +kernel
theorem dX7_laySteps_23 : decode cX7_laySteps 23 = .ok (.getfield 18, 3) := by decide +kernel
theorem dX7_laySteps_26 : decode cX7_laySteps 26 = .ok (.idiv, 1) := by decide +kernel
theorem dX7_laySteps_27 : decode cX7_laySteps 27 = .ok (.istore 5, 2) := by decide +kernel
theorem dX7_laySteps_29 : decode cX7_laySteps 29 = .ok (.iconst 0, 1) := by decide +kernel
theorem dX7_laySteps_30 : decode cX7_laySteps 30 = .ok (.istore 6, 2) := by decide +kernel
theorem dX7_laySteps_32 : decode cX7_laySteps 32 = .ok (.iload 6, 2) := by decide +kernel
theorem dX7_laySteps_34 : decode cX7_laySteps 34 = .ok (.iconst 1, 1) := by decide +kernel
theorem dX7_laySteps_35 : decode cX7_laySteps 35 = .ok (.iadd, 1) := by decide +kernel
theorem dX7_laySteps_36 : decode cX7_laySteps 36 = .ok (.aload_n 2, 1) := by decide +kernel
theorem dX7_laySteps_37 : decode cX7_laySteps 37 = .ok (.arraylength, 1) := by decide +kernel
theorem dX7_laySteps_38 : decode cX7_laySteps 38 = .ok (.if_icmp .ge 97, 3) := by decide +kernel
theorem dX7_laySteps_41 : decode cX7_laySteps 41 = .ok (.iload 4, 2) := by decide +kernel
theorem dX7_laySteps_43 : decode cX7_laySteps 43 = .ok (.aload_n 2, 1) := by decide +kernel
theorem dX7_laySteps_44 : decode cX7_laySteps 44 = .ok (.iload 6, 2) := by decide +kernel
theorem dX7_laySteps_46 : decode cX7_laySteps 46 = .ok (.iaload, 1) := by decide +kernel
theorem dX7_laySteps_47 : decode cX7_laySteps 47 = .ok (.iadd, 1) := by decide +kernel
theorem dX7_laySteps_48 : decode cX7_laySteps 48 = .ok (.aload_n 0, 1) := by decide +kernel
theorem dX7_laySteps_49 : decode cX7_laySteps 49 = .ok (.getfield 18, 3) := by decide +kernel
theorem dX7_laySteps_52 : decode cX7_laySteps 52 = .ok (.aload_n 0, 1) := by decide +kernel
theorem dX7_laySteps_53 : decode cX7_laySteps 53 = .ok (.getfield 24, 3) := by decide +kernel
theorem dX7_laySteps_56 : decode cX7_laySteps 56 = .ok (.iconst 1, 1) := by decide +kernel
theorem dX7_laySteps_57 : decode cX7_laySteps 57 = .ok (.if_icmp .lt 7, 3) := by decide +kernel
theorem dX7_laySteps_60 : decode cX7_laySteps 60 = .ok (.iconst 1, 1) := by decide +kernel
theorem dX7_laySteps_61 : decode cX7_laySteps 61 = .ok (.goto 4, 3) := by decide +kernel
theorem dX7_laySteps_64 : decode cX7_laySteps 64 = .ok (.iconst 0, 1) := by decide +kernel
theorem dX7_laySteps_65 : decode cX7_laySteps 65 = .ok (.invokestatic 81, 3) := by decide +kernel
theorem dX7_laySteps_68 : decode cX7_laySteps 68 = .ok (.istore 7, 2) := by decide +kernel
theorem dX7_laySteps_70 : decode cX7_laySteps 70 = .ok (.iload 5, 2) := by decide +kernel
theorem dX7_laySteps_72 : decode cX7_laySteps 72 = .ok (.aload_n 2, 1) := by decide +kernel
theorem dX7_laySteps_73 : decode cX7_laySteps 73 = .ok (.iload 6, 2) := by decide +kernel
theorem dX7_laySteps_75 : decode cX7_laySteps 75 = .ok (.iconst 1, 1) := by decide +kernel
theorem dX7_laySteps_76 : decode cX7_laySteps 76 = .ok (.iadd, 1) := by decide +kernel
theorem dX7_laySteps_77 : decode cX7_laySteps 77 = .ok (.iaload, 1) := by decide +kernel
theorem dX7_laySteps_78 : decode cX7_laySteps 78 = .ok (.iadd, 1) := by decide +kernel
theorem dX7_laySteps_79 : decode cX7_laySteps 79 = .ok (.aload_n 0, 1) := by decide +kernel
theorem dX7_laySteps_80 : decode cX7_laySteps 80 = .ok (.getfield 21, 3) := by decide +kernel
theorem dX7_laySteps_83 : decode cX7_laySteps 83 = .ok (.aload_n 0, 1) := by decide +kernel
theorem dX7_laySteps_84 : decode cX7_laySteps 84 = .ok (.getfield 24, 3) := by decide +kernel
theorem dX7_laySteps_87 : decode cX7_laySteps 87 = .ok (.iconst 2, 1) := by decide +kernel
theorem dX7_laySteps_88 : decode cX7_laySteps 88 = .ok (.if_icmp .lt 7, 3) := by decide +kernel
theorem dX7_laySteps_91 : decode cX7_laySteps 91 = .ok (.iconst 1, 1) := by decide +kernel
theorem dX7_laySteps_92 : decode cX7_laySteps 92 = .ok (.goto 4, 3) := by decide +kernel
theorem dX7_laySteps_95 : decode cX7_laySteps 95 = .ok (.iconst 0, 1) := by decide +kernel
theorem dX7_laySteps_96 : decode cX7_laySteps 96 = .ok (.invokestatic 81, 3) := by decide +kernel
theorem dX7_laySteps_99 : decode cX7_laySteps 99 = .ok (.istore 8, 2) := by decide +kernel
theorem dX7_laySteps_101 : decode cX7_laySteps 101 = .ok (.iload 7, 2) := by decide +kernel
theorem dX7_laySteps_103 : decode cX7_laySteps 103 = .ok (.iconst (-1), 1) := by decide +kernel
theorem dX7_laySteps_104 : decode cX7_laySteps 104 = .ok (.if_icmp .eq 25, 3) := by decide +kernel
theorem dX7_laySteps_107 : decode cX7_laySteps 107 = .ok (.iload 8, 2) := by decide +kernel
theorem dX7_laySteps_109 : decode cX7_laySteps 109 = .ok (.iconst (-1), 1) := by decide +kernel
theorem dX7_laySteps_110 : decode cX7_laySteps 110 = .ok (.if_icmp .eq 19, 3) := by decide +kernel
theorem dX7_laySteps_113 : decode cX7_laySteps 113 = .ok (.aload_n 0, 1) := by decide +kernel
theorem dX7_laySteps_114 : decode cX7_laySteps 114 = .ok (.iload_n 1, 1) := by decide +kernel
theorem dX7_laySteps_115 : decode cX7_laySteps 115 = .ok (.iload 7, 2) := by decide +kernel
theorem dX7_laySteps_117 : decode cX7_laySteps 117 = .ok (.aload_n 0, 1) := by decide +kernel
theorem dX7_laySteps_118 : decode cX7_laySteps 118 = .ok (.getfield 18, 3) := by decide +kernel
theorem dX7_laySteps_121 : decode cX7_laySteps 121 = .ok (.iload 8, 2) := by decide +kernel
theorem dX7_laySteps_123 : decode cX7_laySteps 123 = .ok (.imul, 1) := by decide +kernel
theorem dX7_laySteps_124 : decode cX7_laySteps 124 = .ok (.iadd, 1) := by decide +kernel
theorem dX7_laySteps_125 : decode cX7_laySteps 125 = .ok (.iload_n 3, 1) := by decide +kernel
theorem dX7_laySteps_126 : decode cX7_laySteps 126 = .ok (.invokevirtual 53, 3) := by decide +kernel
theorem dX7_laySteps_129 : decode cX7_laySteps 129 = .ok (.iinc 6 2, 3) := by decide +kernel
theorem dX7_laySteps_132 : decode cX7_laySteps 132 = .ok (.goto (-100), 3) := by decide +kernel
theorem dX7_laySteps_135 : decode cX7_laySteps 135 = .ok (.return_, 1) := by decide +kernel
theorem dX7_layLines_0 : decode cX7_layLines 0 = .ok (.aload_n 0, 1) := by decide +kernel
theorem dX7_layLines_1 : decode cX7_layLines 1 = .ok (.getfield 18, 3) := by decide +kernel
theorem dX7_layLines_4 : decode cX7_layLines 4 = .ok (.iconst 1, 1) := by decide +kernel
theorem dX7_layLines_5 : decode cX7_layLines 5 = .ok (.if_icmp .ge 4, 3) := by decide +kernel
theorem dX7_layLines_8 : decode cX7_layLines 8 = .ok (.return_, 1) := by decide +kernel
theorem dX7_layLines_9 : decode cX7_layLines 9 = .ok (.iconst 0, 1) := by decide +kernel
theorem dX7_layLines_10 : decode cX7_layLines 10 = .ok (.istore_n 2, 1) := by decide +kernel
theorem dX7_layLines_11 : decode cX7_layLines 11 = .ok (.iload_n 2, 1) := by decide +kernel
theorem dX7_layLines_12 : decode cX7_layLines 12 = .ok (.aload_n 0, 1) := by decide +kernel
theorem dX7_layLines_13 : decode cX7_layLines 13 = .ok (.getfield 9, 3) := by decide +kernel
theorem dX7_layLines_16 : decode cX7_layLines 16 = .ok (.if_icmp .ge 63, 3) := by decide +kernel
theorem dX7_layLines_19 : decode cX7_layLines 19 = .ok (.iload_n 2, 1) := by decide +kernel
theorem dX7_layLines_20 : decode cX7_layLines 20 = .ok (.aload_n 0, 1) := by decide +kernel
theorem dX7_layLines_21 : decode cX7_layLines 21 = .ok (.getfield 18, 3) := by decide +kernel
theorem dX7_layLines_24 : decode cX7_layLines 24 = .ok (.idiv, 1) := by decide +kernel
theorem dX7_layLines_25 : decode cX7_layLines 25 = .ok (.iload_n 1, 1) := by decide +kernel
theorem dX7_layLines_26 : decode cX7_layLines 26 = .ok (.aload_n 0, 1) := by decide +kernel
theorem dX7_layLines_27 : decode cX7_layLines 27 = .ok (.getfield 18, 3) := by decide +kernel
theorem dX7_layLines_30 : decode cX7_layLines 30 = .ok (.idiv, 1) := by decide +kernel
theorem dX7_layLines_31 : decode cX7_layLines 31 = .ok (.if_icmp .ne 15, 3) := by decide +kernel
theorem dX7_layLines_34 : decode cX7_layLines 34 = .ok (.aload_n 0, 1) := by decide +kernel
theorem dX7_layLines_35 : decode cX7_layLines 35 = .ok (.iload_n 1, 1) := by decide +kernel
theorem dX7_layLines_36 : decode cX7_layLines 36 = .ok (.iload_n 2, 1) := by decide +kernel
theorem dX7_layLines_37 : decode cX7_layLines 37 = .ok (.aload_n 0, 1) := by decide +kernel
theorem dX7_layLines_38 : decode cX7_layLines 38 = .ok (.getfield 36, 3) := by decide +kernel
theorem dX7_layLines_41 : decode cX7_layLines 41 = .ok (.iconst 4, 1) := by decide +kernel
theorem dX7_layLines_42 : decode cX7_layLines 42 = .ok (.iaload, 1) := by decide +kernel
theorem dX7_layLines_43 : decode cX7_layLines 43 = .ok (.invokevirtual 53, 3) := by decide +kernel
theorem dX7_layLines_46 : decode cX7_layLines 46 = .ok (.iload_n 2, 1) := by decide +kernel
theorem dX7_layLines_47 : decode cX7_layLines 47 = .ok (.aload_n 0, 1) := by decide +kernel
theorem dX7_layLines_48 : decode cX7_layLines 48 = .ok (.getfield 18, 3) := by decide +kernel
theorem dX7_layLines_51 : decode cX7_layLines 51 = .ok (.irem, 1) := by decide +kernel
theorem dX7_layLines_52 : decode cX7_layLines 52 = .ok (.iload_n 1, 1) := by decide +kernel
theorem dX7_layLines_53 : decode cX7_layLines 53 = .ok (.aload_n 0, 1) := by decide +kernel
theorem dX7_layLines_54 : decode cX7_layLines 54 = .ok (.getfield 18, 3) := by decide +kernel
theorem dX7_layLines_57 : decode cX7_layLines 57 = .ok (.irem, 1) := by decide +kernel
theorem dX7_layLines_58 : decode cX7_layLines 58 = .ok (.if_icmp .ne 15, 3) := by decide +kernel
theorem dX7_layLines_61 : decode cX7_layLines 61 = .ok (.aload_n 0, 1) := by decide +kernel
theorem dX7_layLines_62 : decode cX7_layLines 62 = .ok (.iload_n 1, 1) := by decide +kernel
theorem dX7_layLines_63 : decode cX7_layLines 63 = .ok (.iload_n 2, 1) := by decide +kernel
theorem dX7_layLines_64 : decode cX7_layLines 64 = .ok (.aload_n 0, 1) := by decide +kernel
theorem dX7_layLines_65 : decode cX7_layLines 65 = .ok (.getfield 36, 3) := by decide +kernel
theorem dX7_layLines_68 : decode cX7_layLines 68 = .ok (.iconst 5, 1) := by decide +kernel
theorem dX7_layLines_69 : decode cX7_layLines 69 = .ok (.iaload, 1) := by decide +kernel
theorem dX7_layLines_70 : decode cX7_layLines 70 = .ok (.invokevirtual 53, 3) := by decide +kernel
theorem dX7_layLines_73 : decode cX7_layLines 73 = .ok (.iinc 2 1, 3) := by decide +kernel
theorem dX7_layLines_76 : decode cX7_layLines 76 = .ok (.goto (-65), 3) := by decide +kernel
theorem dX7_layLines_79 : decode cX7_layLines 79 = .ok (.return_, 1) := by decide +kernel
theorem dX7_within_0 : decode cX7_within 0 = .ok (.iload_n 2, 1) := by decide +kernel
theorem dX7_within_1 : decode cX7_within 1 = .ok (.ifCond .eq 13, 3) := by decide +kernel
theorem dX7_within_4 : decode cX7_within 4 = .ok (.iload_n 1, 1) := by decide +kernel
theorem dX7_within_5 : decode cX7_within 5 = .ok (.ifCond .le 9, 3) := by decide +kernel
theorem dX7_within_8 : decode cX7_within 8 = .ok (.iload_n 0, 1) := by decide +kernel
theorem dX7_within_9 : decode cX7_within 9 = .ok (.iload_n 1, 1) := by decide +kernel
theorem dX7_within_10 : decode cX7_within 10 = .ok (.invokestatic 85, 3) := by decide +kernel
theorem dX7_within_13 : decode cX7_within 13 = .ok (.ireturn, 1) := by decide +kernel
theorem dX7_within_14 : decode cX7_within 14 = .ok (.iload_n 0, 1) := by decide +kernel
theorem dX7_within_15 : decode cX7_within 15 = .ok (.ifCond .lt 12, 3) := by decide +kernel
theorem dX7_within_18 : decode cX7_within 18 = .ok (.iload_n 0, 1) := by decide +kernel
theorem dX7_within_19 : decode cX7_within 19 = .ok (.iload_n 1, 1) := by decide +kernel
theorem dX7_within_20 : decode cX7_within 20 = .ok (.if_icmp .ge 7, 3) := by decide +kernel
theorem dX7_within_23 : decode cX7_within 23 = .ok (.iload_n 0, 1) := by decide +kernel
theorem dX7_within_24 : decode cX7_within 24 = .ok (.goto 4, 3) := by decide +kernel
theorem dX7_within_27 : decode cX7_within 27 = .ok (.iconst (-1), 1) := by decide +kernel
theorem dX7_within_28 : decode cX7_within 28 = .ok (.ireturn, 1) := by decide +kernel
theorem dX7_step_0 : decode cX7_step 0 = .ok (.aload_n 1, 1) := by decide +kernel
theorem dX7_step_1 : decode cX7_step 1 = .ok (.aload_n 0, 1) := by decide +kernel
theorem dX7_step_2 : decode cX7_step 2 = .ok (.getfield 29, 3) := by decide +kernel
theorem dX7_step_5 : decode cX7_step 5 = .ok (.iload_n 2, 1) := by decide +kernel
theorem dX7_step_6 : decode cX7_step 6 = .ok (.aaload, 1) := by decide +kernel
theorem dX7_step_7 : decode cX7_step 7 = .ok (.iload_n 3, 1) := by decide +kernel
theorem dX7_step_8 : decode cX7_step 8 = .ok (.aload_n 0, 1) := by decide +kernel
theorem dX7_step_9 : decode cX7_step 9 = .ok (.getfield 15, 3) := by decide +kernel
theorem dX7_step_12 : decode cX7_step 12 = .ok (.aload_n 0, 1) := by decide +kernel
theorem dX7_step_13 : decode cX7_step 13 = .ok (.getfield 9, 3) := by decide +kernel
theorem dX7_step_16 : decode cX7_step 16 = .ok (.invokestatic 90, 3) := by decide +kernel
theorem dX7_step_19 : decode cX7_step 19 = .ok (.return_, 1) := by decide +kernel
theorem dX7_beat_0 : decode cX7_beat 0 = .ok (.aload_n 1, 1) := by decide +kernel
theorem dX7_beat_1 : decode cX7_beat 1 = .ok (.iconst 0, 1) := by decide +kernel
theorem dX7_beat_2 : decode cX7_beat 2 = .ok (.aload_n 2, 1) := by decide +kernel
theorem dX7_beat_3 : decode cX7_beat 3 = .ok (.iconst 0, 1) := by decide +kernel
theorem dX7_beat_4 : decode cX7_beat 4 = .ok (.bipush 36, 2) := by decide +kernel
theorem dX7_beat_6 : decode cX7_beat 6 = .ok (.invokestatic 94, 3) := by decide +kernel
theorem dX7_beat_9 : decode cX7_beat 9 = .ok (.iconst 0, 1) := by decide +kernel
theorem dX7_beat_10 : decode cX7_beat 10 = .ok (.istore_n 3, 1) := by decide +kernel
theorem dX7_beat_11 : decode cX7_beat 11 = .ok (.iload_n 3, 1) := by decide +kernel
theorem dX7_beat_12 : decode cX7_beat 12 = .ok (.aload_n 0, 1) := by decide +kernel
theorem dX7_beat_13 : decode cX7_beat 13 = .ok (.getfield 9, 3) := by decide +kernel
theorem dX7_beat_16 : decode cX7_beat 16 = .ok (.if_icmp .ge 27, 3) := by decide +kernel
theorem dX7_beat_19 : decode cX7_beat 19 = .ok (.aload_n 0, 1) := by decide +kernel
theorem dX7_beat_20 : decode cX7_beat 20 = .ok (.getfield 32, 3) := by decide +kernel
theorem dX7_beat_23 : decode cX7_beat 23 = .ok (.iload_n 3, 1) := by decide +kernel
theorem dX7_beat_24 : decode cX7_beat 24 = .ok (.baload, 1) := by decide +kernel
theorem dX7_beat_25 : decode cX7_beat 25 = .ok (.ifCond .ne 12, 3) := by decide +kernel
theorem dX7_beat_28 : decode cX7_beat 28 = .ok (.aload_n 0, 1) := by decide +kernel
theorem dX7_beat_29 : decode cX7_beat 29 = .ok (.aload_n 1, 1) := by decide +kernel
theorem dX7_beat_30 : decode cX7_beat 30 = .ok (.iload_n 3, 1) := by decide +kernel
theorem dX7_beat_31 : decode cX7_beat 31 = .ok (.aload_n 2, 1) := by decide +kernel
theorem dX7_beat_32 : decode cX7_beat 32 = .ok (.iload_n 3, 1) := by decide +kernel
theorem dX7_beat_33 : decode cX7_beat 33 = .ok (.iaload, 1) := by decide +kernel
theorem dX7_beat_34 : decode cX7_beat 34 = .ok (.invokevirtual 100, 3) := by decide +kernel
theorem dX7_beat_37 : decode cX7_beat 37 = .ok (.iinc 3 1, 3) := by decide +kernel
theorem dX7_beat_40 : decode cX7_beat 40 = .ok (.goto (-29), 3) := by decide +kernel
theorem dX7_beat_43 : decode cX7_beat 43 = .ok (.return_, 1) := by decide +kernel
theorem dX7_doAlike_0 : decode cX7_doAlike 0 = .ok (.iconst 0, 1) := by decide +kernel
theorem dX7_doAlike_1 : decode cX7_doAlike 1 = .ok (.istore_n 3, 1) := by decide +kernel
theorem dX7_doAlike_2 : decode cX7_doAlike 2 = .ok (.iload_n 3, 1) := by decide +kernel
theorem dX7_doAlike_3 : decode cX7_doAlike 3 = .ok (.aload_n 0, 1) := by decide +kernel
theorem dX7_doAlike_4 : decode cX7_doAlike 4 = .ok (.getfield 9, 3) := by decide +kernel
theorem dX7_doAlike_7 : decode cX7_doAlike 7 = .ok (.if_icmp .ge 30, 3) := by decide +kernel
theorem dX7_doAlike_10 : decode cX7_doAlike 10 = .ok (.aload_n 0, 1) := by decide +kernel
theorem dX7_doAlike_11 : decode cX7_doAlike 11 = .ok (.getfield 29, 3) := by decide +kernel
theorem dX7_doAlike_14 : decode cX7_doAlike 14 = .ok (.iload_n 1, 1) := by decide +kernel
theorem dX7_doAlike_15 : decode cX7_doAlike 15 = .ok (.aaload, 1) := by decide +kernel
theorem dX7_doAlike_16 : decode cX7_doAlike 16 = .ok (.iload_n 3, 1) := by decide +kernel
theorem dX7_doAlike_17 : decode cX7_doAlike 17 = .ok (.iaload, 1) := by decide +kernel
theorem dX7_doAlike_18 : decode cX7_doAlike 18 = .ok (.aload_n 0, 1) := by decide +kernel
theorem dX7_doAlike_19 : decode cX7_doAlike 19 = .ok (.getfield 29, 3) := by decide +kernel
theorem dX7_doAlike_22 : decode cX7_doAlike 22 = .ok (.iload_n 2, 1) := by decide +kernel
theorem dX7_doAlike_23 : decode cX7_doAlike 23 = .ok (.aaload, 1) := by decide +kernel
theorem dX7_doAlike_24 : decode cX7_doAlike 24 = .ok (.iload_n 3, 1) := by decide +kernel
theorem dX7_doAlike_25 : decode cX7_doAlike 25 = .ok (.iaload, 1) := by decide +kernel
theorem dX7_doAlike_26 : decode cX7_doAlike 26 = .ok (.if_icmp .eq 5, 3) := by decide +kernel
theorem dX7_doAlike_29 : decode cX7_doAlike 29 = .ok (.iconst 0, 1) := by decide +kernel
theorem dX7_doAlike_30 : decode cX7_doAlike 30 = .ok (.ireturn, 1) := by decide +kernel
theorem dX7_doAlike_31 : decode cX7_doAlike 31 = .ok (.iinc 3 1, 3) := by decide +kernel
theorem dX7_doAlike_34 : decode cX7_doAlike 34 = .ok (.goto (-32), 3) := by decide +kernel
theorem dX7_doAlike_37 : decode cX7_doAlike 37 = .ok (.iconst 1, 1) := by decide +kernel
theorem dX7_doAlike_38 : decode cX7_doAlike 38 = .ok (.ireturn, 1) := by decide +kernel
theorem dX8_init_0 : decode cX8_init 0 = .ok (.aload_n 0, 1) := by decide +kernel
theorem dX8_init_1 : decode cX8_init 1 = .ok (.invokespecial 1, 3) := by decide +kernel
theorem dX8_init_4 : decode cX8_init 4 = .ok (.aload_n 0, 1) := by decide +kernel
theorem dX8_init_5 : decode cX8_init 5 = .ok (.new 7, 3) := by decide +kernel
theorem dX8_init_8 : decode cX8_init 8 = .ok (.dup, 1) := by decide +kernel
theorem dX8_init_9 : decode cX8_init 9 = .ok (.invokespecial 9, 3) := by decide +kernel
theorem dX8_init_12 : decode cX8_init 12 = .ok (.putfield 10, 3) := by decide +kernel
theorem dX8_init_15 : decode cX8_init 15 = .ok (.aload_n 0, 1) := by decide +kernel
theorem dX8_init_16 : decode cX8_init 16 = .ok (.new 16, 3) := by decide +kernel
theorem dX8_init_19 : decode cX8_init 19 = .ok (.dup, 1) := by decide +kernel
theorem dX8_init_20 : decode cX8_init 20 = .ok (.invokespecial 18, 3) := by decide +kernel
theorem dX8_init_23 : decode cX8_init 23 = .ok (.putfield 19, 3) := by decide +kernel
theorem dX8_init_26 : decode cX8_init 26 = .ok (.aload_n 0, 1) := by decide +kernel
theorem dX8_init_27 : decode cX8_init 27 = .ok (.new 16, 3) := by decide +kernel
theorem dX8_init_30 : decode cX8_init 30 = .ok (.dup, 1) := by decide +kernel
theorem dX8_init_31 : decode cX8_init 31 = .ok (.invokespecial 18, 3) := by decide +kernel
theorem dX8_init_34 : decode cX8_init 34 = .ok (.putfield 23, 3) := by decide +kernel
theorem dX8_init_37 : decode cX8_init 37 = .ok (.aload_n 0, 1) := by decide +kernel
theorem dX8_init_38 : decode cX8_init 38 = .ok (.new 26, 3) := by decide +kernel
theorem dX8_init_41 : decode cX8_init 41 = .ok (.dup, 1) := by decide +kernel
theorem dX8_init_42 : decode cX8_init 42 = .ok (.invokespecial 28, 3) := by decide +kernel
theorem dX8_init_45 : decode cX8_init 45 = .ok (.putfield 29, 3) := by decide +kernel
theorem dX8_init_48 : decode cX8_init 48 = .ok (.aload_n 0, 1) := by decide +kernel
theorem dX8_init_49 : decode cX8_init 49 = .ok (.bipush 36, 2) := by decide +kernel
theorem dX8_init_51 : decode cX8_init 51 = .ok (.newarray .int, 2) := by decide +kernel
theorem dX8_init_53 : decode cX8_init 53 = .ok (.putfield 33, 3) := by decide +kernel
theorem dX8_init_56 : decode cX8_init 56 = .ok (.aload_n 0, 1) := by decide +kernel
theorem dX8_init_57 : decode cX8_init 57 = .ok (.bipush 36, 2) := by decide +kernel
theorem dX8_init_59 : decode cX8_init 59 = .ok (.newarray .int, 2) := by decide +kernel
theorem dX8_init_61 : decode cX8_init 61 = .ok (.putfield 37, 3) := by decide +kernel
theorem dX8_init_64 : decode cX8_init 64 = .ok (.aload_n 0, 1) := by decide +kernel
theorem dX8_init_65 : decode cX8_init 65 = .ok (.new 40, 3) := by decide +kernel
theorem dX8_init_68 : decode cX8_init 68 = .ok (.dup, 1) := by decide +kernel
theorem dX8_init_69 : decode cX8_init 69 = .ok (.invokespecial 42, 3) := by decide +kernel
theorem dX8_init_72 : decode cX8_init 72 = .ok (.putfield 43, 3) := by decide +kernel
theorem dX8_init_75 : decode cX8_init 75 = .ok (.aload_n 0, 1) := by decide +kernel
theorem dX8_init_76 : decode cX8_init 76 = .ok (.iconst 4, 1) := by decide +kernel
theorem dX8_init_77 : decode cX8_init 77 = .ok (.bipush 36, 2) := by decide +kernel
theorem dX8_init_79 : decode cX8_init 79 = .ok (.multianewarray 47 2, 4) := by decide +kernel
theorem dX8_init_83 : decode cX8_init 83 = .ok (.putfield 49, 3) := by decide +kernel
theorem dX8_init_86 : decode cX8_init 86 = .ok (.aload_n 0, 1) := by decide +kernel
theorem dX8_init_87 : decode cX8_init 87 = .ok (.iconst 4, 1) := by decide +kernel
theorem dX8_init_88 : decode cX8_init 88 = .ok (.newarray .boolean, 2) := by decide +kernel
theorem dX8_init_90 : decode cX8_init 90 = .ok (.putfield 52, 3) := by decide +kernel
theorem dX8_init_93 : decode cX8_init 93 = .ok (.aload_n 0, 1) := by decide +kernel
theorem dX8_init_94 : decode cX8_init 94 = .ok (.bipush 36, 2) := by decide +kernel
theorem dX8_init_96 : decode cX8_init 96 = .ok (.newarray .int, 2) := by decide +kernel
theorem dX8_init_98 : decode cX8_init 98 = .ok (.putfield 56, 3) := by decide +kernel
theorem dX8_init_101 : decode cX8_init 101 = .ok (.aload_n 0, 1) := by decide +kernel
theorem dX8_init_102 : decode cX8_init 102 = .ok (.bipush 36, 2) := by decide +kernel
theorem dX8_init_104 : decode cX8_init 104 = .ok (.newarray .int, 2) := by decide +kernel
theorem dX8_init_106 : decode cX8_init 106 = .ok (.putfield 59, 3) := by decide +kernel
theorem dX8_init_109 : decode cX8_init 109 = .ok (.aload_n 0, 1) := by decide +kernel
theorem dX8_init_110 : decode cX8_init 110 = .ok (.new 62, 3) := by decide +kernel
theorem dX8_init_113 : decode cX8_init 113 = .ok (.dup, 1) := by decide +kernel
theorem dX8_init_114 : decode cX8_init 114 = .ok (.invokespecial 64, 3) := by decide +kernel
theorem dX8_init_117 : decode cX8_init 117 = .ok (.putfield 65, 3) := by decide +kernel
theorem dX8_init_120 : decode cX8_init 120 = .ok (.aload_n 0, 1) := by decide +kernel
theorem dX8_init_121 : decode cX8_init 121 = .ok (.new 69, 3) := by decide +kernel
theorem dX8_init_124 : decode cX8_init 124 = .ok (.dup, 1) := by decide +kernel
theorem dX8_init_125 : decode cX8_init 125 = .ok (.invokespecial 71, 3) := by decide +kernel
theorem dX8_init_128 : decode cX8_init 128 = .ok (.putfield 72, 3) := by decide +kernel
theorem dX8_init_131 : decode cX8_init 131 = .ok (.aload_n 0, 1) := by decide +kernel
theorem dX8_init_132 : decode cX8_init 132 = .ok (.new 76, 3) := by decide +kernel
theorem dX8_init_135 : decode cX8_init 135 = .ok (.dup, 1) := by decide +kernel
theorem dX8_init_136 : decode cX8_init 136 = .ok (.invokespecial 78, 3) := by decide +kernel
theorem dX8_init_139 : decode cX8_init 139 = .ok (.putfield 79, 3) := by decide +kernel
theorem dX8_init_142 : decode cX8_init 142 = .ok (.aload_n 0, 1) := by decide +kernel
theorem dX8_init_143 : decode cX8_init 143 = .ok (.bipush 36, 2) := by decide +kernel
theorem dX8_init_145 : decode cX8_init 145 = .ok (.newarray .int, 2) := by decide +kernel
theorem dX8_init_147 : decode cX8_init 147 = .ok (.putfield 83, 3) := by decide +kernel
theorem dX8_init_150 : decode cX8_init 150 = .ok (.aload_n 0, 1) := by decide +kernel
theorem dX8_init_151 : decode cX8_init 151 = .ok (.bipush 36, 2) := by decide +kernel
theorem dX8_init_153 : decode cX8_init 153 = .ok (.newarray .int, 2) := by decide +kernel
theorem dX8_init_155 : decode cX8_init 155 = .ok (.putfield 86, 3) := by decide +kernel
theorem dX8_init_158 : decode cX8_init 158 = .ok (.return_, 1) := by decide +kernel
theorem dX8_feed_0 : decode cX8_feed 0 = .ok (.aload_n 0, 1) := by decide +kernel
theorem dX8_feed_1 : decode cX8_feed 1 = .ok (.getfield 10, 3) := by decide +kernel
theorem dX8_feed_4 : decode cX8_feed 4 = .ok (.bipush 20, 2) := by decide +kernel
theorem dX8_feed_6 : decode cX8_feed 6 = .ok (.invokevirtual 89, 3) := by decide +kernel
theorem dX8_feed_9 : decode cX8_feed 9 = .ok (.ifCond .ne 5, 3) := by decide +kernel
theorem dX8_feed_12 : decode cX8_feed 12 = .ok (.iconst (-1), 1) := by decide +kernel
theorem dX8_feed_13 : decode cX8_feed 13 = .ok (.ireturn, 1) := by decide +kernel
theorem dX8_feed_14 : decode cX8_feed 14 = .ok (.aload_n 0, 1) := by decide +kernel
theorem dX8_feed_15 : decode cX8_feed 15 = .ok (.getfield 10, 3) := by decide +kernel
theorem dX8_feed_18 : decode cX8_feed 18 = .ok (.iload_n 1, 1) := by decide +kernel
theorem dX8_feed_19 : decode cX8_feed 19 = .ok (.invokevirtual 93, 3) := by decide +kernel
theorem dX8_feed_22 : decode cX8_feed 22 = .ok (.aload_n 0, 1) := by decide +kernel
theorem dX8_feed_23 : decode cX8_feed 23 = .ok (.getfield 10, 3) := by decide +kernel
theorem dX8_feed_26 : decode cX8_feed 26 = .ok (.iload_n 2, 1) := by decide +kernel
theorem dX8_feed_27 : decode cX8_feed 27 = .ok (.invokevirtual 93, 3) := by decide +kernel
theorem dX8_feed_30 : decode cX8_feed 30 = .ok (.aload_n 0, 1) := by decide +kernel
theorem dX8_feed_31 : decode cX8_feed 31 = .ok (.getfield 10, 3) := by decide +kernel
theorem dX8_feed_34 : decode cX8_feed 34 = .ok (.iload_n 3, 1) := by decide +kernel
theorem dX8_feed_35 : decode cX8_feed 35 = .ok (.invokevirtual 93, 3) := by decide +kernel
theorem dX8_feed_38 : decode cX8_feed 38 = .ok (.aload_n 0, 1) := by decide +kernel
theorem dX8_feed_39 : decode cX8_feed 39 = .ok (.getfield 10, 3) := by decide +kernel
theorem dX8_feed_42 : decode cX8_feed 42 = .ok (.iload 4, 2) := by decide +kernel
theorem dX8_feed_44 : decode cX8_feed 44 = .ok (.invokevirtual 93, 3) := by decide +kernel
theorem dX8_feed_47 : decode cX8_feed 47 = .ok (.aload_n 0, 1) := by decide +kernel
theorem dX8_feed_48 : decode cX8_feed 48 = .ok (.getfield 10, 3) := by decide +kernel
theorem dX8_feed_51 : decode cX8_feed 51 = .ok (.iload 5, 2) := by decide +kernel
theorem dX8_feed_53 : decode cX8_feed 53 = .ok (.invokevirtual 93, 3) := by decide +kernel
theorem dX8_feed_56 : decode cX8_feed 56 = .ok (.aload_n 0, 1) := by decide +kernel
theorem dX8_feed_57 : decode cX8_feed 57 = .ok (.getfield 10, 3) := by decide +kernel
theorem dX8_feed_60 : decode cX8_feed 60 = .ok (.getfield 97, 3) := by decide +kernel
theorem dX8_feed_63 : decode cX8_feed 63 = .ok (.ireturn, 1) := by decide +kernel
theorem dX8_hall_0 : decode cX8_hall 0 = .ok (.iload_n 1, 1) := by decide +kernel
theorem dX8_hall_1 : decode cX8_hall 1 = .ok (.ifCond .lt 14, 3) := by decide +kernel
theorem dX8_hall_4 : decode cX8_hall 4 = .ok (.iload_n 1, 1) := by decide +kernel
theorem dX8_hall_5 : decode cX8_hall 5 = .ok (.aload_n 0, 1) := by decide +kernel
theorem dX8_hall_6 : decode cX8_hall 6 = .ok (.getfield 10, 3) := by decide +kernel
theorem dX8_hall_9 : decode cX8_hall 9 = .ok (.getfield 97, 3) := by decide +kernel
theorem dX8_hall_12 : decode cX8_hall 12 = .ok (.if_icmp .le 13, 3) := by decide +kernel
theorem dX8_hall_15 : decode cX8_hall 15 = .ok (.new 101, 3) := by decide +kernel
theorem dX8_hall_18 : decode cX8_hall 18 = .ok (.dup, 1) := by decide +kernel
theorem dX8_hall_19 : decode cX8_hall 19 = .ok (.ldc 103, 2) := by decide +kernel
theorem dX8_hall_21 : decode cX8_hall 21 = .ok (.invokespecial 105, 3) := by decide +kernel
theorem dX8_hall_24 : decode cX8_hall 24 = .ok (.athrow, 1) := by decide +kernel
theorem dX8_hall_25 : decode cX8_hall 25 = .ok (.aload_n 0, 1) := by decide +kernel
theorem dX8_hall_26 : decode cX8_hall 26 = .ok (.getfield 10, 3) := by decide +kernel
theorem dX8_hall_29 : decode cX8_hall 29 = .ok (.iload_n 1, 1) := by decide +kernel
theorem dX8_hall_30 : decode cX8_hall 30 = .ok (.aload_n 0, 1) := by decide +kernel
theorem dX8_hall_31 : decode cX8_hall 31 = .ok (.getfield 23, 3) := by decide +kernel
theorem dX8_hall_34 : decode cX8_hall 34 = .ok (.invokevirtual 108, 3) := by decide +kernel
theorem dX8_hall_37 : decode cX8_hall 37 = .ok (.istore_n 2, 1) := by decide +kernel
theorem dX8_hall_38 : decode cX8_hall 38 = .ok (.iload_n 2, 1) := by decide +kernel
theorem dX8_hall_39 : decode cX8_hall 39 = .ok (.ifCond .ne 7, 3) := by decide +kernel
theorem dX8_hall_42 : decode cX8_hall 42 = .ok (.aload_n 0, 1) := by decide +kernel
theorem dX8_hall_43 : decode cX8_hall 43 = .ok (.invokevirtual 112, 3) := by decide +kernel
theorem dX8_hall_46 : decode cX8_hall 46 = .ok (.iload_n 2, 1) := by decide +kernel
theorem dX8_hall_47 : decode cX8_hall 47 = .ok (.ireturn, 1) := by decide +kernel
theorem dX8_fault_0 : decode cX8_fault 0 = .ok (.aload_n 0, 1) := by decide +kernel
theorem dX8_fault_1 : decode cX8_fault 1 = .ok (.getfield 10, 3) := by decide +kernel
theorem dX8_fault_4 : decode cX8_fault 4 = .ok (.getfield 115, 3) := by decide +kernel
theorem dX8_fault_7 : decode cX8_fault 7 = .ok (.ireturn, 1) := by decide +kernel
theorem dX8_count_0 : decode cX8_count 0 = .ok (.iload_n 1, 1) := by decide +kernel
theorem dX8_count_1 : decode cX8_count 1 = .ok (.tableswitch 111 0 7 #[47, 55, 63, 71, 79, 87, 95, 103], 47) := by decide +kernel
theorem dX8_count_48 : decode cX8_count 48 = .ok (.aload_n 0, 1) := by decide +kernel
theorem dX8_count_49 : decode cX8_count 49 = .ok (.getfield 19, 3) := by decide +kernel
theorem dX8_count_52 : decode cX8_count 52 = .ok (.getfield 118, 3) := by decide +kernel
theorem dX8_count_55 : decode cX8_count 55 = .ok (.ireturn, 1) := by decide +kernel
theorem dX8_count_56 : decode cX8_count 56 = .ok (.aload_n 0, 1) := by decide +kernel
theorem dX8_count_57 : decode cX8_count 57 = .ok (.getfield 19, 3) := by decide +kernel
theorem dX8_count_60 : decode cX8_count 60 = .ok (.getfield 121, 3) := by decide +kernel
theorem dX8_count_63 : decode cX8_count 63 = .ok (.ireturn, 1) := by decide +kernel
theorem dX8_count_64 : decode cX8_count 64 = .ok (.aload_n 0, 1) := by decide +kernel
theorem dX8_count_65 : decode cX8_count 65 = .ok (.getfield 19, 3) := by decide +kernel
theorem dX8_count_68 : decode cX8_count 68 = .ok (.getfield 124, 3) := by decide +kernel
theorem dX8_count_71 : decode cX8_count 71 = .ok (.ireturn, 1) := by decide +kernel
theorem dX8_count_72 : decode cX8_count 72 = .ok (.aload_n 0, 1) := by decide +kernel
theorem dX8_count_73 : decode cX8_count 73 = .ok (.getfield 19, 3) := by decide +kernel
theorem dX8_count_76 : decode cX8_count 76 = .ok (.getfield 127, 3) := by decide +kernel
theorem dX8_count_79 : decode cX8_count 79 = .ok (.ireturn, 1) := by decide +kernel
theorem dX8_count_80 : decode cX8_count 80 = .ok (.aload_n 0, 1) := by decide +kernel
theorem dX8_count_81 : decode cX8_count 81 = .ok (.getfield 19, 3) := by decide +kernel
theorem dX8_count_84 : decode cX8_count 84 = .ok (.getfield 130, 3) := by decide +kernel
theorem dX8_count_87 : decode cX8_count 87 = .ok (.ireturn, 1) := by decide +kernel
theorem dX8_count_88 : decode cX8_count 88 = .ok (.aload_n 0, 1) := by decide +kernel
theorem dX8_count_89 : decode cX8_count 89 = .ok (.getfield 43, 3) := by decide +kernel
theorem dX8_count_92 : decode cX8_count 92 = .ok (.getfield 133, 3) := by decide +kernel
theorem dX8_count_95 : decode cX8_count 95 = .ok (.ireturn, 1) := by decide +kernel
theorem dX8_count_96 : decode cX8_count 96 = .ok (.aload_n 0, 1) := by decide +kernel
theorem dX8_count_97 : decode cX8_count 97 = .ok (.getfield 10, 3) := by decide +kernel
theorem dX8_count_100 : decode cX8_count 100 = .ok (.getfield 97, 3) := by decide +kernel
theorem dX8_count_103 : decode cX8_count 103 = .ok (.ireturn, 1) := by decide +kernel
theorem dX8_count_104 : decode cX8_count 104 = .ok (.aload_n 0, 1) := by decide +kernel
theorem dX8_count_105 : decode cX8_count 105 = .ok (.getfield 19, 3) := by decide +kernel
theorem dX8_count_108 : decode cX8_count 108 = .ok (.invokevirtual 136, 3) := by decide +kernel
theorem dX8_count_111 : decode cX8_count 111 = .ok (.ireturn, 1) := by decide +kernel
theorem dX8_count_112 : decode cX8_count 112 = .ok (.new 140, 3) := by decide +kernel
theorem dX8_count_115 : decode cX8_count 115 = .ok (.dup, 1) := by decide +kernel
theorem dX8_count_116 : decode cX8_count 116 = .ok (.ldc 142, 2) := by decide +kernel
theorem dX8_count_118 : decode cX8_count 118 = .ok (.invokespecial 144, 3) := by decide +kernel
theorem dX8_count_121 : decode cX8_count 121 = .ok (.athrow, 1) := by decide +kernel
theorem dX8_amount_0 : decode cX8_amount 0 = .ok (.aload_n 0, 1) := by decide +kernel
theorem dX8_amount_1 : decode cX8_amount 1 = .ok (.iload_n 1, 1) := by decide +kernel
theorem dX8_amount_2 : decode cX8_amount 2 = .ok (.invokevirtual 145, 3) := by decide +kernel
theorem dX8_amount_5 : decode cX8_amount 5 = .ok (.aload_n 0, 1) := by decide +kernel
theorem dX8_amount_6 : decode cX8_amount 6 = .ok (.iload_n 2, 1) := by decide +kernel
theorem dX8_amount_7 : decode cX8_amount 7 = .ok (.invokevirtual 145, 3) := by decide +kernel
theorem dX8_amount_10 : decode cX8_amount 10 = .ok (.aload_n 0, 1) := by decide +kernel
theorem dX8_amount_11 : decode cX8_amount 11 = .ok (.getfield 19, 3) := by decide +kernel
theorem dX8_amount_14 : decode cX8_amount 14 = .ok (.getfield 148, 3) := by decide +kernel
theorem dX8_amount_17 : decode cX8_amount 17 = .ok (.iload_n 1, 1) := by decide +kernel
theorem dX8_amount_18 : decode cX8_amount 18 = .ok (.aaload, 1) := by decide +kernel
theorem dX8_amount_19 : decode cX8_amount 19 = .ok (.iload_n 2, 1) := by decide +kernel
theorem dX8_amount_20 : decode cX8_amount 20 = .ok (.iaload, 1) := by decide +kernel
theorem dX8_amount_21 : decode cX8_amount 21 = .ok (.ireturn, 1) := by decide +kernel
