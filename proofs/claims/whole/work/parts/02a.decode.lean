theorem dJ6_bitCount_0f7a4_0 : decode cJ6_bitCount_0f7a4 0 = .ok (.iload_n 0, 1) := by decide +kernel
theorem dJ6_bitCount_0f7a4_1 : decode cJ6_bitCount_0f7a4 1 = .ok (.iload_n 0, 1) := by decide +kernel
theorem dJ6_bitCount_0f7a4_2 : decode cJ6_bitCount_0f7a4 2 = .ok (.iconst 1, 1) := by decide +kernel
theorem dJ6_bitCount_0f7a4_3 : decode cJ6_bitCount_0f7a4 3 = .ok (.iushr, 1) := by decide +kernel
theorem dJ6_bitCount_0f7a4_4 : decode cJ6_bitCount_0f7a4 4 = .ok (.ldc_w 265, 3) := by decide +kernel
theorem dJ6_bitCount_0f7a4_7 : decode cJ6_bitCount_0f7a4 7 = .ok (.iand, 1) := by decide +kernel
theorem dJ6_bitCount_0f7a4_8 : decode cJ6_bitCount_0f7a4 8 = .ok (.isub, 1) := by decide +kernel
theorem dJ6_bitCount_0f7a4_9 : decode cJ6_bitCount_0f7a4 9 = .ok (.istore_n 0, 1) := by decide +kernel
theorem dJ6_bitCount_0f7a4_10 : decode cJ6_bitCount_0f7a4 10 = .ok (.iload_n 0, 1) := by decide +kernel
theorem dJ6_bitCount_0f7a4_11 : decode cJ6_bitCount_0f7a4 11 = .ok (.ldc_w 266, 3) := by decide +kernel
theorem dJ6_bitCount_0f7a4_14 : decode cJ6_bitCount_0f7a4 14 = .ok (.iand, 1) := by decide +kernel
theorem dJ6_bitCount_0f7a4_15 : decode cJ6_bitCount_0f7a4 15 = .ok (.iload_n 0, 1) := by decide +kernel
theorem dJ6_bitCount_0f7a4_16 : decode cJ6_bitCount_0f7a4 16 = .ok (.iconst 2, 1) := by decide +kernel
theorem dJ6_bitCount_0f7a4_17 : decode cJ6_bitCount_0f7a4 17 = .ok (.iushr, 1) := by decide +kernel
theorem dJ6_bitCount_0f7a4_18 : decode cJ6_bitCount_0f7a4 18 = .ok (.ldc_w 266, 3) := by decide +kernel
theorem dJ6_bitCount_0f7a4_21 : decode cJ6_bitCount_0f7a4 21 = .ok (.iand, 1) := by decide +kernel
theorem dJ6_bitCount_0f7a4_22 : decode cJ6_bitCount_0f7a4 22 = .ok (.iadd, 1) := by decide +kernel
theorem dJ6_bitCount_0f7a4_23 : decode cJ6_bitCount_0f7a4 23 = .ok (.istore_n 0, 1) := by decide +kernel
theorem dJ6_bitCount_0f7a4_24 : decode cJ6_bitCount_0f7a4 24 = .ok (.iload_n 0, 1) := by decide +kernel
theorem dJ6_bitCount_0f7a4_25 : decode cJ6_bitCount_0f7a4 25 = .ok (.iload_n 0, 1) := by decide +kernel
theorem dJ6_bitCount_0f7a4_26 : decode cJ6_bitCount_0f7a4 26 = .ok (.iconst 4, 1) := by decide +kernel
theorem dJ6_bitCount_0f7a4_27 : decode cJ6_bitCount_0f7a4 27 = .ok (.iushr, 1) := by decide +kernel
theorem dJ6_bitCount_0f7a4_28 : decode cJ6_bitCount_0f7a4 28 = .ok (.iadd, 1) := by decide +kernel
theorem dJ6_bitCount_0f7a4_29 : decode cJ6_bitCount_0f7a4 29 = .ok (.ldc_w 267, 3) := by decide +kernel
theorem dJ6_bitCount_0f7a4_32 : decode cJ6_bitCount_0f7a4 32 = .ok (.iand, 1) := by decide +kernel
theorem dJ6_bitCount_0f7a4_33 : decode cJ6_bitCount_0f7a4 33 = .ok (.istore_n 0, 1) := by decide +kernel
theorem dJ6_bitCount_0f7a4_34 : decode cJ6_bitCount_0f7a4 34 = .ok (.iload_n 0, 1) := by decide +kernel
theorem dJ6_bitCount_0f7a4_35 : decode cJ6_bitCount_0f7a4 35 = .ok (.iload_n 0, 1) := by decide +kernel
theorem dJ6_bitCount_0f7a4_36 : decode cJ6_bitCount_0f7a4 36 = .ok (.bipush 8, 2) := by decide +kernel
theorem dJ6_bitCount_0f7a4_38 : decode cJ6_bitCount_0f7a4 38 = .ok (.iushr, 1) := by decide +kernel
theorem dJ6_bitCount_0f7a4_39 : decode cJ6_bitCount_0f7a4 39 = .ok (.iadd, 1) := by decide +kernel
theorem dJ6_bitCount_0f7a4_40 : decode cJ6_bitCount_0f7a4 40 = .ok (.istore_n 0, 1) := by decide +kernel
theorem dJ6_bitCount_0f7a4_41 : decode cJ6_bitCount_0f7a4 41 = .ok (.iload_n 0, 1) := by decide +kernel
theorem dJ6_bitCount_0f7a4_42 : decode cJ6_bitCount_0f7a4 42 = .ok (.iload_n 0, 1) := by decide +kernel
theorem dJ6_bitCount_0f7a4_43 : decode cJ6_bitCount_0f7a4 43 = .ok (.bipush 16, 2) := by decide +kernel
theorem dJ6_bitCount_0f7a4_45 : decode cJ6_bitCount_0f7a4 45 = .ok (.iushr, 1) := by decide +kernel
theorem dJ6_bitCount_0f7a4_46 : decode cJ6_bitCount_0f7a4 46 = .ok (.iadd, 1) := by decide +kernel
theorem dJ6_bitCount_0f7a4_47 : decode cJ6_bitCount_0f7a4 47 = .ok (.istore_n 0, 1) := by decide +kernel
theorem dJ6_bitCount_0f7a4_48 : decode cJ6_bitCount_0f7a4 48 = .ok (.iload_n 0, 1) := by decide +kernel
theorem dJ6_bitCount_0f7a4_49 : decode cJ6_bitCount_0f7a4 49 = .ok (.bipush 63, 2) := by decide +kernel
theorem dJ6_bitCount_0f7a4_51 : decode cJ6_bitCount_0f7a4 51 = .ok (.iand, 1) := by decide +kernel
theorem dJ6_bitCount_0f7a4_52 : decode cJ6_bitCount_0f7a4 52 = .ok (.ireturn, 1) := by decide +kernel
theorem dJ9_max_7cf53_0 : decode cJ9_max_7cf53 0 = .ok (.iload_n 0, 1) := by decide +kernel
theorem dJ9_max_7cf53_1 : decode cJ9_max_7cf53 1 = .ok (.iload_n 1, 1) := by decide +kernel
theorem dJ9_max_7cf53_2 : decode cJ9_max_7cf53 2 = .ok (.if_icmp .lt 7, 3) := by decide +kernel
theorem dJ9_max_7cf53_5 : decode cJ9_max_7cf53 5 = .ok (.iload_n 0, 1) := by decide +kernel
theorem dJ9_max_7cf53_6 : decode cJ9_max_7cf53 6 = .ok (.goto 4, 3) := by decide +kernel
theorem dJ9_max_7cf53_9 : decode cJ9_max_7cf53 9 = .ok (.iload_n 1, 1) := by decide +kernel
theorem dJ9_max_7cf53_10 : decode cJ9_max_7cf53 10 = .ok (.ireturn, 1) := by decide +kernel
theorem dJ9_min_7cf53_0 : decode cJ9_min_7cf53 0 = .ok (.iload_n 0, 1) := by decide +kernel
theorem dJ9_min_7cf53_1 : decode cJ9_min_7cf53 1 = .ok (.iload_n 1, 1) := by decide +kernel
theorem dJ9_min_7cf53_2 : decode cJ9_min_7cf53 2 = .ok (.if_icmp .gt 7, 3) := by decide +kernel
theorem dJ9_min_7cf53_5 : decode cJ9_min_7cf53 5 = .ok (.iload_n 0, 1) := by decide +kernel
theorem dJ9_min_7cf53_6 : decode cJ9_min_7cf53 6 = .ok (.goto 4, 3) := by decide +kernel
theorem dJ9_min_7cf53_9 : decode cJ9_min_7cf53 9 = .ok (.iload_n 1, 1) := by decide +kernel
theorem dJ9_min_7cf53_10 : decode cJ9_min_7cf53 10 = .ok (.ireturn, 1) := by decide +kernel
theorem dJ0_length_8abf5_0 : decode cJ0_length_8abf5 0 = .ok (.aload_n 0, 1) := by decide +kernel
theorem dJ0_length_8abf5_1 : decode cJ0_length_8abf5 1 = .ok (.getfield 9, 3) := by decide +kernel
theorem dJ0_length_8abf5_4 : decode cJ0_length_8abf5 4 = .ok (.arraylength, 1) := by decide +kernel
theorem dJ0_length_8abf5_5 : decode cJ0_length_8abf5 5 = .ok (.aload_n 0, 1) := by decide +kernel
theorem dJ0_length_8abf5_6 : decode cJ0_length_8abf5 6 = .ok (.invokevirtual 335, 3) := by decide +kernel
theorem dJ0_length_8abf5_9 : decode cJ0_length_8abf5 9 = .ok (.ishr, 1) := by decide +kernel
theorem dJ0_length_8abf5_10 : decode cJ0_length_8abf5 10 = .ok (.ireturn, 1) := by decide +kernel
theorem dJ0_charAt_5068e_0 : decode cJ0_charAt_5068e 0 = .ok (.aload_n 0, 1) := by decide +kernel
theorem dJ0_charAt_5068e_1 : decode cJ0_charAt_5068e 1 = .ok (.invokevirtual 492, 3) := by decide +kernel
theorem dJ0_charAt_5068e_4 : decode cJ0_charAt_5068e 4 = .ok (.ifCond .eq 12, 3) := by decide +kernel
theorem dJ0_charAt_5068e_7 : decode cJ0_charAt_5068e 7 = .ok (.aload_n 0, 1) := by decide +kernel
theorem dJ0_charAt_5068e_8 : decode cJ0_charAt_5068e 8 = .ok (.getfield 9, 3) := by decide +kernel
theorem dJ0_charAt_5068e_11 : decode cJ0_charAt_5068e 11 = .ok (.iload_n 1, 1) := by decide +kernel
theorem dJ0_charAt_5068e_12 : decode cJ0_charAt_5068e 12 = .ok (.invokestatic 495, 3) := by decide +kernel
theorem dJ0_charAt_5068e_15 : decode cJ0_charAt_5068e 15 = .ok (.ireturn, 1) := by decide +kernel
theorem dJ0_charAt_5068e_16 : decode cJ0_charAt_5068e 16 = .ok (.aload_n 0, 1) := by decide +kernel
theorem dJ0_charAt_5068e_17 : decode cJ0_charAt_5068e 17 = .ok (.getfield 9, 3) := by decide +kernel
theorem dJ0_charAt_5068e_20 : decode cJ0_charAt_5068e 20 = .ok (.iload_n 1, 1) := by decide +kernel
theorem dJ0_charAt_5068e_21 : decode cJ0_charAt_5068e 21 = .ok (.invokestatic 498, 3) := by decide +kernel
theorem dJ0_charAt_5068e_24 : decode cJ0_charAt_5068e 24 = .ok (.ireturn, 1) := by decide +kernel
theorem dJ0_coder_7d493_0 : decode cJ0_coder_7d493 0 = .ok (.getstatic 38, 3) := by decide +kernel
theorem dJ0_coder_7d493_3 : decode cJ0_coder_7d493 3 = .ok (.ifCond .eq 10, 3) := by decide +kernel
theorem dJ0_coder_7d493_6 : decode cJ0_coder_7d493 6 = .ok (.aload_n 0, 1) := by decide +kernel
theorem dJ0_coder_7d493_7 : decode cJ0_coder_7d493 7 = .ok (.getfield 15, 3) := by decide +kernel
theorem dJ0_coder_7d493_10 : decode cJ0_coder_7d493 10 = .ok (.goto 4, 3) := by decide +kernel
theorem dJ0_coder_7d493_13 : decode cJ0_coder_7d493 13 = .ok (.iconst 1, 1) := by decide +kernel
theorem dJ0_coder_7d493_14 : decode cJ0_coder_7d493 14 = .ok (.ireturn, 1) := by decide +kernel
theorem dJ0_isLatin1_aae02_0 : decode cJ0_isLatin1_aae02 0 = .ok (.getstatic 38, 3) := by decide +kernel
theorem dJ0_isLatin1_aae02_3 : decode cJ0_isLatin1_aae02 3 = .ok (.ifCond .eq 14, 3) := by decide +kernel
theorem dJ0_isLatin1_aae02_6 : decode cJ0_isLatin1_aae02 6 = .ok (.aload_n 0, 1) := by decide +kernel
theorem dJ0_isLatin1_aae02_7 : decode cJ0_isLatin1_aae02 7 = .ok (.getfield 15, 3) := by decide +kernel
theorem dJ0_isLatin1_aae02_10 : decode cJ0_isLatin1_aae02 10 = .ok (.ifCond .ne 7, 3) := by decide +kernel
theorem dJ0_isLatin1_aae02_13 : decode cJ0_isLatin1_aae02 13 = .ok (.iconst 1, 1) := by decide +kernel
theorem dJ0_isLatin1_aae02_14 : decode cJ0_isLatin1_aae02 14 = .ok (.goto 4, 3) := by decide +kernel
theorem dJ0_isLatin1_aae02_17 : decode cJ0_isLatin1_aae02 17 = .ok (.iconst 0, 1) := by decide +kernel
theorem dJ0_isLatin1_aae02_18 : decode cJ0_isLatin1_aae02 18 = .ok (.ireturn, 1) := by decide +kernel
theorem dJ0_checkIndex_df160_0 : decode cJ0_checkIndex_df160 0 = .ok (.iload_n 0, 1) := by decide +kernel
theorem dJ0_checkIndex_df160_1 : decode cJ0_checkIndex_df160 1 = .ok (.iload_n 1, 1) := by decide +kernel
theorem dJ0_checkIndex_df160_2 : decode cJ0_checkIndex_df160 2 = .ok (.getstatic 1053, 3) := by decide +kernel
theorem dJ0_checkIndex_df160_5 : decode cJ0_checkIndex_df160 5 = .ok (.invokestatic 1059, 3) := by decide +kernel
theorem dJ0_checkIndex_df160_8 : decode cJ0_checkIndex_df160 8 = .ok (.pop, 1) := by decide +kernel
theorem dJ0_checkIndex_df160_9 : decode cJ0_checkIndex_df160 9 = .ok (.return_, 1) := by decide +kernel
theorem dJ1_charAt_3b067_0 : decode cJ1_charAt_3b067 0 = .ok (.iload_n 1, 1) := by decide +kernel
theorem dJ1_charAt_3b067_1 : decode cJ1_charAt_3b067 1 = .ok (.aload_n 0, 1) := by decide +kernel
theorem dJ1_charAt_3b067_2 : decode cJ1_charAt_3b067 2 = .ok (.arraylength, 1) := by decide +kernel
theorem dJ1_charAt_3b067_3 : decode cJ1_charAt_3b067 3 = .ok (.invokestatic 9, 3) := by decide +kernel
theorem dJ1_charAt_3b067_6 : decode cJ1_charAt_3b067 6 = .ok (.aload_n 0, 1) := by decide +kernel
theorem dJ1_charAt_3b067_7 : decode cJ1_charAt_3b067 7 = .ok (.iload_n 1, 1) := by decide +kernel
theorem dJ1_charAt_3b067_8 : decode cJ1_charAt_3b067 8 = .ok (.baload, 1) := by decide +kernel
theorem dJ1_charAt_3b067_9 : decode cJ1_charAt_3b067 9 = .ok (.sipush 255, 3) := by decide +kernel
theorem dJ1_charAt_3b067_12 : decode cJ1_charAt_3b067 12 = .ok (.iand, 1) := by decide +kernel
theorem dJ1_charAt_3b067_13 : decode cJ1_charAt_3b067 13 = .ok (.i2c, 1) := by decide +kernel
theorem dJ1_charAt_3b067_14 : decode cJ1_charAt_3b067 14 = .ok (.ireturn, 1) := by decide +kernel
theorem dJ2_getChar_3b067_0 : decode cJ2_getChar_3b067 0 = .ok (.getstatic 44, 3) := by decide +kernel
theorem dJ2_getChar_3b067_3 : decode cJ2_getChar_3b067 3 = .ok (.ifCond .ne 25, 3) := by decide +kernel
theorem dJ2_getChar_3b067_6 : decode cJ2_getChar_3b067 6 = .ok (.iload_n 1, 1) := by decide +kernel
theorem dJ2_getChar_3b067_7 : decode cJ2_getChar_3b067 7 = .ok (.ifCond .lt 11, 3) := by decide +kernel
theorem dJ2_getChar_3b067_10 : decode cJ2_getChar_3b067 10 = .ok (.iload_n 1, 1) := by decide +kernel
theorem dJ2_getChar_3b067_11 : decode cJ2_getChar_3b067 11 = .ok (.aload_n 0, 1) := by decide +kernel
theorem dJ2_getChar_3b067_12 : decode cJ2_getChar_3b067 12 = .ok (.invokestatic 48, 3) := by decide +kernel
theorem dJ2_getChar_3b067_15 : decode cJ2_getChar_3b067 15 = .ok (.if_icmp .lt 13, 3) := by decide +kernel
theorem dJ2_getChar_3b067_18 : decode cJ2_getChar_3b067 18 = .ok (.new 52, 3) := by decide +kernel
theorem dJ2_getChar_3b067_21 : decode cJ2_getChar_3b067 21 = .ok (.dup, 1) := by decide +kernel
theorem dJ2_getChar_3b067_22 : decode cJ2_getChar_3b067 22 = .ok (.ldc 54, 2) := by decide +kernel
theorem dJ2_getChar_3b067_24 : decode cJ2_getChar_3b067 24 = .ok (.invokespecial 56, 3) := by decide +kernel
theorem dJ2_getChar_3b067_27 : decode cJ2_getChar_3b067 27 = .ok (.athrow, 1) := by decide +kernel
theorem dJ2_getChar_3b067_28 : decode cJ2_getChar_3b067 28 = .ok (.iload_n 1, 1) := by decide +kernel
theorem dJ2_getChar_3b067_29 : decode cJ2_getChar_3b067 29 = .ok (.iconst 1, 1) := by decide +kernel
theorem dJ2_getChar_3b067_30 : decode cJ2_getChar_3b067 30 = .ok (.ishl, 1) := by decide +kernel
theorem dJ2_getChar_3b067_31 : decode cJ2_getChar_3b067 31 = .ok (.istore_n 1, 1) := by decide +kernel
theorem dJ2_getChar_3b067_32 : decode cJ2_getChar_3b067 32 = .ok (.aload_n 0, 1) := by decide +kernel
theorem dJ2_getChar_3b067_33 : decode cJ2_getChar_3b067 33 = .ok (.iload_n 1, 1) := by decide +kernel
theorem dJ2_getChar_3b067_34 : decode cJ2_getChar_3b067 34 = .ok (.iinc 1 1, 3) := by decide +kernel
theorem dJ2_getChar_3b067_37 : decode cJ2_getChar_3b067 37 = .ok (.baload, 1) := by decide +kernel
theorem dJ2_getChar_3b067_38 : decode cJ2_getChar_3b067 38 = .ok (.sipush 255, 3) := by decide +kernel
theorem dJ2_getChar_3b067_41 : decode cJ2_getChar_3b067 41 = .ok (.iand, 1) := by decide +kernel
theorem dJ2_getChar_3b067_42 : decode cJ2_getChar_3b067 42 = .ok (.getstatic 59, 3) := by decide +kernel
theorem dJ2_getChar_3b067_45 : decode cJ2_getChar_3b067 45 = .ok (.ishl, 1) := by decide +kernel
theorem dJ2_getChar_3b067_46 : decode cJ2_getChar_3b067 46 = .ok (.aload_n 0, 1) := by decide +kernel
theorem dJ2_getChar_3b067_47 : decode cJ2_getChar_3b067 47 = .ok (.iload_n 1, 1) := by decide +kernel
theorem dJ2_getChar_3b067_48 : decode cJ2_getChar_3b067 48 = .ok (.baload, 1) := by decide +kernel
theorem dJ2_getChar_3b067_49 : decode cJ2_getChar_3b067 49 = .ok (.sipush 255, 3) := by decide +kernel
theorem dJ2_getChar_3b067_52 : decode cJ2_getChar_3b067 52 = .ok (.iand, 1) := by decide +kernel
theorem dJ2_getChar_3b067_53 : decode cJ2_getChar_3b067 53 = .ok (.getstatic 63, 3) := by decide +kernel
theorem dJ2_getChar_3b067_56 : decode cJ2_getChar_3b067 56 = .ok (.ishl, 1) := by decide +kernel
theorem dJ2_getChar_3b067_57 : decode cJ2_getChar_3b067 57 = .ok (.ior, 1) := by decide +kernel
theorem dJ2_getChar_3b067_58 : decode cJ2_getChar_3b067 58 = .ok (.i2c, 1) := by decide +kernel
theorem dJ2_getChar_3b067_59 : decode cJ2_getChar_3b067 59 = .ok (.ireturn, 1) := by decide +kernel
theorem dJ2_length_9d52b_0 : decode cJ2_length_9d52b 0 = .ok (.aload_n 0, 1) := by decide +kernel
theorem dJ2_length_9d52b_1 : decode cJ2_length_9d52b 1 = .ok (.arraylength, 1) := by decide +kernel
theorem dJ2_length_9d52b_2 : decode cJ2_length_9d52b 2 = .ok (.iconst 1, 1) := by decide +kernel
theorem dJ2_length_9d52b_3 : decode cJ2_length_9d52b 3 = .ok (.ishr, 1) := by decide +kernel
theorem dJ2_length_9d52b_4 : decode cJ2_length_9d52b 4 = .ok (.ireturn, 1) := by decide +kernel
theorem dJ2_charAt_3b067_0 : decode cJ2_charAt_3b067 0 = .ok (.iload_n 1, 1) := by decide +kernel
theorem dJ2_charAt_3b067_1 : decode cJ2_charAt_3b067 1 = .ok (.aload_n 0, 1) := by decide +kernel
theorem dJ2_charAt_3b067_2 : decode cJ2_charAt_3b067 2 = .ok (.invokestatic 67, 3) := by decide +kernel
theorem dJ2_charAt_3b067_5 : decode cJ2_charAt_3b067 5 = .ok (.aload_n 0, 1) := by decide +kernel
theorem dJ2_charAt_3b067_6 : decode cJ2_charAt_3b067 6 = .ok (.iload_n 1, 1) := by decide +kernel
theorem dJ2_charAt_3b067_7 : decode cJ2_charAt_3b067 7 = .ok (.invokestatic 71, 3) := by decide +kernel
theorem dJ2_charAt_3b067_10 : decode cJ2_charAt_3b067 10 = .ok (.ireturn, 1) := by decide +kernel
theorem dJ2_checkIndex_2214a_0 : decode cJ2_checkIndex_2214a 0 = .ok (.iload_n 0, 1) := by decide +kernel
theorem dJ2_checkIndex_2214a_1 : decode cJ2_checkIndex_2214a 1 = .ok (.aload_n 1, 1) := by decide +kernel
theorem dJ2_checkIndex_2214a_2 : decode cJ2_checkIndex_2214a 2 = .ok (.invokestatic 48, 3) := by decide +kernel
theorem dJ2_checkIndex_2214a_5 : decode cJ2_checkIndex_2214a 5 = .ok (.invokestatic 414, 3) := by decide +kernel
theorem dJ2_checkIndex_2214a_8 : decode cJ2_checkIndex_2214a 8 = .ok (.return_, 1) := by decide +kernel
theorem dJ7_fill_53178_0 : decode cJ7_fill_53178 0 = .ok (.iconst 0, 1) := by decide +kernel
theorem dJ7_fill_53178_1 : decode cJ7_fill_53178 1 = .ok (.istore_n 2, 1) := by decide +kernel
theorem dJ7_fill_53178_2 : decode cJ7_fill_53178 2 = .ok (.aload_n 0, 1) := by decide +kernel
theorem dJ7_fill_53178_3 : decode cJ7_fill_53178 3 = .ok (.arraylength, 1) := by decide +kernel
theorem dJ7_fill_53178_4 : decode cJ7_fill_53178 4 = .ok (.istore_n 3, 1) := by decide +kernel
theorem dJ7_fill_53178_5 : decode cJ7_fill_53178 5 = .ok (.iload_n 2, 1) := by decide +kernel
theorem dJ7_fill_53178_6 : decode cJ7_fill_53178 6 = .ok (.iload_n 3, 1) := by decide +kernel
theorem dJ7_fill_53178_7 : decode cJ7_fill_53178 7 = .ok (.if_icmp .ge 13, 3) := by decide +kernel
theorem dJ7_fill_53178_10 : decode cJ7_fill_53178 10 = .ok (.aload_n 0, 1) := by decide +kernel
theorem dJ7_fill_53178_11 : decode cJ7_fill_53178 11 = .ok (.iload_n 2, 1) := by decide +kernel
theorem dJ7_fill_53178_12 : decode cJ7_fill_53178 12 = .ok (.iload_n 1, 1) := by decide +kernel
theorem dJ7_fill_53178_13 : decode cJ7_fill_53178 13 = .ok (.iastore, 1) := by decide +kernel
theorem dJ7_fill_53178_14 : decode cJ7_fill_53178 14 = .ok (.iinc 2 1, 3) := by decide +kernel
theorem dJ7_fill_53178_17 : decode cJ7_fill_53178 17 = .ok (.goto (-12), 3) := by decide +kernel
theorem dJ7_fill_53178_20 : decode cJ7_fill_53178 20 = .ok (.return_, 1) := by decide +kernel
theorem dJ3_checkIndex_8e157_0 : decode cJ3_checkIndex_8e157 0 = .ok (.iload_n 0, 1) := by decide +kernel
theorem dJ3_checkIndex_8e157_1 : decode cJ3_checkIndex_8e157 1 = .ok (.ifCond .lt 8, 3) := by decide +kernel
theorem dJ3_checkIndex_8e157_4 : decode cJ3_checkIndex_8e157 4 = .ok (.iload_n 0, 1) := by decide +kernel
theorem dJ3_checkIndex_8e157_5 : decode cJ3_checkIndex_8e157 5 = .ok (.iload_n 1, 1) := by decide +kernel
theorem dJ3_checkIndex_8e157_6 : decode cJ3_checkIndex_8e157 6 = .ok (.if_icmp .lt 10, 3) := by decide +kernel
theorem dJ3_checkIndex_8e157_9 : decode cJ3_checkIndex_8e157 9 = .ok (.aload_n 2, 1) := by decide +kernel
theorem dJ3_checkIndex_8e157_10 : decode cJ3_checkIndex_8e157 10 = .ok (.iload_n 0, 1) := by decide +kernel
theorem dJ3_checkIndex_8e157_11 : decode cJ3_checkIndex_8e157 11 = .ok (.iload_n 1, 1) := by decide +kernel
theorem dJ3_checkIndex_8e157_12 : decode cJ3_checkIndex_8e157 12 = .ok (.invokestatic 95, 3) := by decide +kernel
theorem dJ3_checkIndex_8e157_15 : decode cJ3_checkIndex_8e157 15 = .ok (.athrow, 1) := by decide +kernel
theorem dJ3_checkIndex_8e157_16 : decode cJ3_checkIndex_8e157 16 = .ok (.iload_n 0, 1) := by decide +kernel
theorem dJ3_checkIndex_8e157_17 : decode cJ3_checkIndex_8e157 17 = .ok (.ireturn, 1) := by decide +kernel
theorem dX0_init_0 : decode cX0_init 0 = .ok (.aload_n 0, 1) := by decide +kernel
theorem dX0_init_1 : decode cX0_init 1 = .ok (.invokespecial 3, 3) := by decide +kernel
theorem dX0_init_4 : decode cX0_init 4 = .ok (.aload_n 0, 1) := by decide +kernel
theorem dX0_init_5 : decode cX0_init 5 = .ok (.bipush (-4), 2) := by decide +kernel
theorem dX0_init_7 : decode cX0_init 7 = .ok (.putfield 9, 3) := by decide +kernel
theorem dX0_init_10 : decode cX0_init 10 = .ok (.return_, 1) := by decide +kernel
theorem dX0_begin_0 : decode cX0_begin 0 = .ok (.aload_n 0, 1) := by decide +kernel
theorem dX0_begin_1 : decode cX0_begin 1 = .ok (.bipush (-4), 2) := by decide +kernel
theorem dX0_begin_3 : decode cX0_begin 3 = .ok (.putfield 9, 3) := by decide +kernel
theorem dX0_begin_6 : decode cX0_begin 6 = .ok (.aload_n 0, 1) := by decide +kernel
theorem dX0_begin_7 : decode cX0_begin 7 = .ok (.iload_n 1, 1) := by decide +kernel
theorem dX0_begin_8 : decode cX0_begin 8 = .ok (.putfield 15, 3) := by decide +kernel
theorem dX0_begin_11 : decode cX0_begin 11 = .ok (.return_, 1) := by decide +kernel
theorem dX0_offer_0 : decode cX0_offer 0 = .ok (.iload_n 2, 1) := by decide +kernel
theorem dX0_offer_1 : decode cX0_offer 1 = .ok (.aload_n 0, 1) := by decide +kernel
theorem dX0_offer_2 : decode cX0_offer 2 = .ok (.getfield 15, 3) := by decide +kernel
theorem dX0_offer_5 : decode cX0_offer 5 = .ok (.if_icmp .ge 13, 3) := by decide +kernel
theorem dX0_offer_8 : decode cX0_offer 8 = .ok (.aload_n 0, 1) := by decide +kernel
theorem dX0_offer_9 : decode cX0_offer 9 = .ok (.iload_n 1, 1) := by decide +kernel
theorem dX0_offer_10 : decode cX0_offer 10 = .ok (.putfield 9, 3) := by decide +kernel
theorem dX0_offer_13 : decode cX0_offer 13 = .ok (.aload_n 0, 1) := by decide +kernel
theorem dX0_offer_14 : decode cX0_offer 14 = .ok (.iload_n 2, 1) := by decide +kernel
theorem dX0_offer_15 : decode cX0_offer 15 = .ok (.putfield 15, 3) := by decide +kernel
theorem dX0_offer_18 : decode cX0_offer 18 = .ok (.return_, 1) := by decide +kernel
theorem dX0_tell_0 : decode cX0_tell 0 = .ok (.iload_n 1, 1) := by decide +kernel
theorem dX0_tell_1 : decode cX0_tell 1 = .ok (.ifCond .eq 12, 3) := by decide +kernel
theorem dX0_tell_4 : decode cX0_tell 4 = .ok (.aload_n 0, 1) := by decide +kernel
theorem dX0_tell_5 : decode cX0_tell 5 = .ok (.getfield 9, 3) := by decide +kernel
theorem dX0_tell_8 : decode cX0_tell 8 = .ok (.bipush (-4), 2) := by decide +kernel
theorem dX0_tell_10 : decode cX0_tell 10 = .ok (.if_icmp .ne 10, 3) := by decide +kernel
theorem dX0_tell_13 : decode cX0_tell 13 = .ok (.aload_n 0, 1) := by decide +kernel
theorem dX0_tell_14 : decode cX0_tell 14 = .ok (.getfield 9, 3) := by decide +kernel
theorem dX0_tell_17 : decode cX0_tell 17 = .ok (.goto 7, 3) := by decide +kernel
theorem dX0_tell_20 : decode cX0_tell 20 = .ok (.aload_n 0, 1) := by decide +kernel
theorem dX0_tell_21 : decode cX0_tell 21 = .ok (.getfield 15, 3) := by decide +kernel
theorem dX0_tell_24 : decode cX0_tell 24 = .ok (.ireturn, 1) := by decide +kernel
theorem dX1_init_0 : decode cX1_init 0 = .ok (.aload_n 0, 1) := by decide +kernel
theorem dX1_init_1 : decode cX1_init 1 = .ok (.invokespecial 1, 3) := by decide +kernel
theorem dX1_init_4 : decode cX1_init 4 = .ok (.aload_n 0, 1) := by decide +kernel
theorem dX1_init_5 : decode cX1_init 5 = .ok (.new 7, 3) := by decide +kernel
theorem dX1_init_8 : decode cX1_init 8 = .ok (.dup, 1) := by decide +kernel
theorem dX1_init_9 : decode cX1_init 9 = .ok (.invokespecial 9, 3) := by decide +kernel
theorem dX1_init_12 : decode cX1_init 12 = .ok (.putfield 10, 3) := by decide +kernel
theorem dX1_init_15 : decode cX1_init 15 = .ok (.aload_n 0, 1) := by decide +kernel
theorem dX1_init_16 : decode cX1_init 16 = .ok (.new 16, 3) := by decide +kernel
theorem dX1_init_19 : decode cX1_init 19 = .ok (.dup, 1) := by decide +kernel
theorem dX1_init_20 : decode cX1_init 20 = .ok (.invokespecial 18, 3) := by decide +kernel
theorem dX1_init_23 : decode cX1_init 23 = .ok (.putfield 19, 3) := by decide +kernel
theorem dX1_init_26 : decode cX1_init 26 = .ok (.return_, 1) := by decide +kernel
theorem dX2_init_0 : decode cX2_init 0 = .ok (.aload_n 0, 1) := by decide +kernel
theorem dX2_init_1 : decode cX2_init 1 = .ok (.invokespecial 3, 3) := by decide +kernel
theorem dX2_init_4 : decode cX2_init 4 = .ok (.aload_n 0, 1) := by decide +kernel
theorem dX2_init_5 : decode cX2_init 5 = .ok (.bipush 6, 2) := by decide +kernel
theorem dX2_init_7 : decode cX2_init 7 = .ok (.newarray .int, 2) := by decide +kernel
theorem dX2_init_9 : decode cX2_init 9 = .ok (.putfield 9, 3) := by decide +kernel
theorem dX2_init_12 : decode cX2_init 12 = .ok (.aload_n 0, 1) := by decide +kernel
theorem dX2_init_13 : decode cX2_init 13 = .ok (.bipush 6, 2) := by decide +kernel
theorem dX2_init_15 : decode cX2_init 15 = .ok (.newarray .int, 2) := by decide +kernel
theorem dX2_init_17 : decode cX2_init 17 = .ok (.putfield 15, 3) := by decide +kernel
theorem dX2_init_20 : decode cX2_init 20 = .ok (.aload_n 0, 1) := by decide +kernel
theorem dX2_init_21 : decode cX2_init 21 = .ok (.bipush 6, 2) := by decide +kernel
theorem dX2_init_23 : decode cX2_init 23 = .ok (.newarray .int, 2) := by decide +kernel
theorem dX2_init_25 : decode cX2_init 25 = .ok (.putfield 18, 3) := by decide +kernel
theorem dX2_init_28 : decode cX2_init 28 = .ok (.aload_n 0, 1) := by decide +kernel
theorem dX2_init_29 : decode cX2_init 29 = .ok (.bipush 6, 2) := by decide +kernel
theorem dX2_init_31 : decode cX2_init 31 = .ok (.newarray .int, 2) := by decide +kernel
theorem dX2_init_33 : decode cX2_init 33 = .ok (.putfield 21, 3) := by decide +kernel
theorem dX2_init_36 : decode cX2_init 36 = .ok (.aload_n 0, 1) := by decide +kernel
theorem dX2_init_37 : decode cX2_init 37 = .ok (.iconst 5, 1) := by decide +kernel
theorem dX2_init_38 : decode cX2_init 38 = .ok (.newarray .int, 2) := by decide +kernel
theorem dX2_init_40 : decode cX2_init 40 = .ok (.putfield 24, 3) := by decide +kernel
theorem dX2_init_43 : decode cX2_init 43 = .ok (.aload_n 0, 1) := by decide +kernel
theorem dX2_init_44 : decode cX2_init 44 = .ok (.bipush 7, 2) := by decide +kernel
theorem dX2_init_46 : decode cX2_init 46 = .ok (.newarray .int, 2) := by decide +kernel
theorem dX2_init_48 : decode cX2_init 48 = .ok (.putfield 27, 3) := by decide +kernel
theorem dX2_init_51 : decode cX2_init 51 = .ok (.aload_n 0, 1) := by decide +kernel
theorem dX2_init_52 : decode cX2_init 52 = .ok (.invokevirtual 30, 3) := by decide +kernel
theorem dX2_init_55 : decode cX2_init 55 = .ok (.return_, 1) := by decide +kernel
theorem dX2_clear_0 : decode cX2_clear 0 = .ok (.aload_n 0, 1) := by decide +kernel
theorem dX2_clear_1 : decode cX2_clear 1 = .ok (.iconst 0, 1) := by decide +kernel
theorem dX2_clear_2 : decode cX2_clear 2 = .ok (.putfield 33, 3) := by decide +kernel
theorem dX2_clear_5 : decode cX2_clear 5 = .ok (.aload_n 0, 1) := by decide +kernel
theorem dX2_clear_6 : decode cX2_clear 6 = .ok (.iconst 0, 1) := by decide +kernel
theorem dX2_clear_7 : decode cX2_clear 7 = .ok (.putfield 37, 3) := by decide +kernel
theorem dX2_clear_10 : decode cX2_clear 10 = .ok (.getstatic 40, 3) := by decide +kernel
theorem dX2_clear_13 : decode cX2_clear 13 = .ok (.iconst 0, 1) := by decide +kernel
theorem dX2_clear_14 : decode cX2_clear 14 = .ok (.aload_n 0, 1) := by decide +kernel
theorem dX2_clear_15 : decode cX2_clear 15 = .ok (.getfield 24, 3) := by decide +kernel
theorem dX2_clear_18 : decode cX2_clear 18 = .ok (.iconst 0, 1) := by decide +kernel
theorem dX2_clear_19 : decode cX2_clear 19 = .ok (.iconst 5, 1) := by decide +kernel
theorem dX2_clear_20 : decode cX2_clear 20 = .ok (.invokestatic 43, 3) := by decide +kernel
theorem dX2_clear_23 : decode cX2_clear 23 = .ok (.aload_n 0, 1) := by decide +kernel
theorem dX2_clear_24 : decode cX2_clear 24 = .ok (.getfield 27, 3) := by decide +kernel
theorem dX2_clear_27 : decode cX2_clear 27 = .ok (.iconst 4, 1) := by decide +kernel
theorem dX2_clear_28 : decode cX2_clear 28 = .ok (.invokestatic 49, 3) := by decide +kernel
theorem dX2_clear_31 : decode cX2_clear 31 = .ok (.return_, 1) := by decide +kernel
theorem dX2_become_0 : decode cX2_become 0 = .ok (.aload_n 0, 1) := by decide +kernel
theorem dX2_become_1 : decode cX2_become 1 = .ok (.aload_n 1, 1) := by decide +kernel
theorem dX2_become_2 : decode cX2_become 2 = .ok (.getfield 33, 3) := by decide +kernel
theorem dX2_become_5 : decode cX2_become 5 = .ok (.putfield 33, 3) := by decide +kernel
theorem dX2_become_8 : decode cX2_become 8 = .ok (.aload_n 0, 1) := by decide +kernel
theorem dX2_become_9 : decode cX2_become 9 = .ok (.aload_n 1, 1) := by decide +kernel
theorem dX2_become_10 : decode cX2_become 10 = .ok (.getfield 37, 3) := by decide +kernel
theorem dX2_become_13 : decode cX2_become 13 = .ok (.putfield 37, 3) := by decide +kernel
theorem dX2_become_16 : decode cX2_become 16 = .ok (.aload_n 1, 1) := by decide +kernel
theorem dX2_become_17 : decode cX2_become 17 = .ok (.getfield 9, 3) := by decide +kernel
theorem dX2_become_20 : decode cX2_become 20 = .ok (.iconst 0, 1) := by decide +kernel
theorem dX2_become_21 : decode cX2_become 21 = .ok (.aload_n 0, 1) := by decide +kernel
theorem dX2_become_22 : decode cX2_become 22 = .ok (.getfield 9, 3) := by decide +kernel
theorem dX2_become_25 : decode cX2_become 25 = .ok (.iconst 0, 1) := by decide +kernel
theorem dX2_become_26 : decode cX2_become 26 = .ok (.bipush 6, 2) := by decide +kernel
theorem dX2_become_28 : decode cX2_become 28 = .ok (.invokestatic 43, 3) := by decide +kernel
theorem dX2_become_31 : decode cX2_become 31 = .ok (.aload_n 1, 1) := by decide +kernel
theorem dX2_become_32 : decode cX2_become 32 = .ok (.getfield 15, 3) := by decide +kernel
theorem dX2_become_35 : decode cX2_become 35 = .ok (.iconst 0, 1) := by decide +kernel
theorem dX2_become_36 : decode cX2_become 36 = .ok (.aload_n 0, 1) := by decide +kernel
theorem dX2_become_37 : decode cX2_become 37 = .ok (.getfield 15, 3) := by decide +kernel
theorem dX2_become_40 : decode cX2_become 40 = .ok (.iconst 0, 1) := by decide +kernel
theorem dX2_become_41 : decode cX2_become 41 = .ok (.bipush 6, 2) := by decide +kernel
theorem dX2_become_43 : decode cX2_become 43 = .ok (.invokestatic 43, 3) := by decide +kernel
theorem dX2_become_46 : decode cX2_become 46 = .ok (.aload_n 1, 1) := by decide +kernel
theorem dX2_become_47 : decode cX2_become 47 = .ok (.getfield 18, 3) := by decide +kernel
theorem dX2_become_50 : decode cX2_become 50 = .ok (.iconst 0, 1) := by decide +kernel
theorem dX2_become_51 : decode cX2_become 51 = .ok (.aload_n 0, 1) := by decide +kernel
theorem dX2_become_52 : decode cX2_become 52 = .ok (.getfield 18, 3) := by decide +kernel
theorem dX2_become_55 : decode cX2_become 55 = .ok (.iconst 0, 1) := by decide +kernel
theorem dX2_become_56 : decode cX2_become 56 = .ok (.bipush 6, 2) := by decide +kernel
theorem dX2_become_58 : decode cX2_become 58 = .ok (.invokestatic 43, 3) := by decide +kernel
theorem dX2_become_61 : decode cX2_become 61 = .ok (.aload_n 1, 1) := by decide +kernel
theorem dX2_become_62 : decode cX2_become 62 = .ok (.getfield 21, 3) := by decide +kernel
theorem dX2_become_65 : decode cX2_become 65 = .ok (.iconst 0, 1) := by decide +kernel
theorem dX2_become_66 : decode cX2_become 66 = .ok (.aload_n 0, 1) := by decide +kernel
theorem dX2_become_67 : decode cX2_become 67 = .ok (.getfield 21, 3) := by decide +kernel
theorem dX2_become_70 : decode cX2_become 70 = .ok (.iconst 0, 1) := by decide +kernel
theorem dX2_become_71 : decode cX2_become 71 = .ok (.bipush 6, 2) := by decide +kernel
theorem dX2_become_73 : decode cX2_become 73 = .ok (.invokestatic 43, 3) := by decide +kernel
theorem dX2_become_76 : decode cX2_become 76 = .ok (.aload_n 1, 1) := by decide +kernel
theorem dX2_become_77 : decode cX2_become 77 = .ok (.getfield 24, 3) := by decide +kernel
theorem dX2_become_80 : decode cX2_become 80 = .ok (.iconst 0, 1) := by decide +kernel
theorem dX2_become_81 : decode cX2_become 81 = .ok (.aload_n 0, 1) := by decide +kernel
theorem dX2_become_82 : decode cX2_become 82 = .ok (.getfield 24, 3) := by decide +kernel
theorem dX2_become_85 : decode cX2_become 85 = .ok (.iconst 0, 1) := by decide +kernel
theorem dX2_become_86 : decode cX2_become 86 = .ok (.iconst 5, 1) := by decide +kernel
theorem dX2_become_87 : decode cX2_become 87 = .ok (.invokestatic 43, 3) := by decide +kernel
theorem dX2_become_90 : decode cX2_become 90 = .ok (.aload_n 1, 1) := by decide +kernel
theorem dX2_become_91 : decode cX2_become 91 = .ok (.getfield 27, 3) := by decide +kernel
theorem dX2_become_94 : decode cX2_become 94 = .ok (.iconst 0, 1) := by decide +kernel
theorem dX2_become_95 : decode cX2_become 95 = .ok (.aload_n 0, 1) := by decide +kernel
theorem dX2_become_96 : decode cX2_become 96 = .ok (.getfield 27, 3) := by decide +kernel
theorem dX2_become_99 : decode cX2_become 99 = .ok (.iconst 0, 1) := by decide +kernel
theorem dX2_become_100 : decode cX2_become 100 = .ok (.bipush 7, 2) := by decide +kernel
theorem dX2_become_102 : decode cX2_become 102 = .ok (.invokestatic 43, 3) := by decide +kernel
theorem dX2_become_105 : decode cX2_become 105 = .ok (.return_, 1) := by decide +kernel
theorem dX2_admit_0 : decode cX2_admit 0 = .ok (.iload_n 1, 1) := by decide +kernel
theorem dX2_admit_1 : decode cX2_admit 1 = .ok (.iconst 0, 1) := by decide +kernel
theorem dX2_admit_2 : decode cX2_admit 2 = .ok (.iconst 3, 1) := by decide +kernel
theorem dX2_admit_3 : decode cX2_admit 3 = .ok (.invokestatic 55, 3) := by decide +kernel
theorem dX2_admit_6 : decode cX2_admit 6 = .ok (.ifCond .eq 13, 3) := by decide +kernel
theorem dX2_admit_9 : decode cX2_admit 9 = .ok (.iload_n 2, 1) := by decide +kernel
theorem dX2_admit_10 : decode cX2_admit 10 = .ok (.iconst 0, 1) := by decide +kernel
theorem dX2_admit_11 : decode cX2_admit 11 = .ok (.bipush 60, 2) := by decide +kernel
theorem dX2_admit_13 : decode cX2_admit 13 = .ok (.invokestatic 55, 3) := by decide +kernel
theorem dX2_admit_16 : decode cX2_admit 16 = .ok (.ifCond .ne 5, 3) := by decide +kernel
theorem dX2_admit_19 : decode cX2_admit 19 = .ok (.iconst (-1), 1) := by decide +kernel
theorem dX2_admit_20 : decode cX2_admit 20 = .ok (.ireturn, 1) := by decide +kernel
theorem dX2_admit_21 : decode cX2_admit 21 = .ok (.aload_n 0, 1) := by decide +kernel
theorem dX2_admit_22 : decode cX2_admit 22 = .ok (.getfield 33, 3) := by decide +kernel
theorem dX2_admit_25 : decode cX2_admit 25 = .ok (.bipush 6, 2) := by decide +kernel
theorem dX2_admit_27 : decode cX2_admit 27 = .ok (.if_icmp .lt 6, 3) := by decide +kernel
theorem dX2_admit_30 : decode cX2_admit 30 = .ok (.bipush (-3), 2) := by decide +kernel
theorem dX2_admit_32 : decode cX2_admit 32 = .ok (.ireturn, 1) := by decide +kernel
theorem dX2_admit_33 : decode cX2_admit 33 = .ok (.aload_n 0, 1) := by decide +kernel
theorem dX2_admit_34 : decode cX2_admit 34 = .ok (.getfield 9, 3) := by decide +kernel
theorem dX2_admit_37 : decode cX2_admit 37 = .ok (.aload_n 0, 1) := by decide +kernel
theorem dX2_admit_38 : decode cX2_admit 38 = .ok (.getfield 33, 3) := by decide +kernel
theorem dX2_admit_41 : decode cX2_admit 41 = .ok (.iload_n 1, 1) := by decide +kernel
theorem dX2_admit_42 : decode cX2_admit 42 = .ok (.iastore, 1) := by decide +kernel
theorem dX2_admit_43 : decode cX2_admit 43 = .ok (.aload_n 0, 1) := by decide +kernel
theorem dX2_admit_44 : decode cX2_admit 44 = .ok (.getfield 15, 3) := by decide +kernel
theorem dX2_admit_47 : decode cX2_admit 47 = .ok (.aload_n 0, 1) := by decide +kernel
theorem dX2_admit_48 : decode cX2_admit 48 = .ok (.getfield 33, 3) := by decide +kernel
theorem dX2_admit_51 : decode cX2_admit 51 = .ok (.iload_n 2, 1) := by decide +kernel
theorem dX2_admit_52 : decode cX2_admit 52 = .ok (.iastore, 1) := by decide +kernel
theorem dX2_admit_53 : decode cX2_admit 53 = .ok (.aload_n 0, 1) := by decide +kernel
theorem dX2_admit_54 : decode cX2_admit 54 = .ok (.getfield 18, 3) := by decide +kernel
theorem dX2_admit_57 : decode cX2_admit 57 = .ok (.aload_n 0, 1) := by decide +kernel
theorem dX2_admit_58 : decode cX2_admit 58 = .ok (.getfield 33, 3) := by decide +kernel
theorem dX2_admit_61 : decode cX2_admit 61 = .ok (.iconst 0, 1) := by decide +kernel
theorem dX2_admit_62 : decode cX2_admit 62 = .ok (.iastore, 1) := by decide +kernel
theorem dX2_admit_63 : decode cX2_admit 63 = .ok (.aload_n 0, 1) := by decide +kernel
theorem dX2_admit_64 : decode cX2_admit 64 = .ok (.getfield 21, 3) := by decide +kernel
theorem dX2_admit_67 : decode cX2_admit 67 = .ok (.aload_n 0, 1) := by decide +kernel
theorem dX2_admit_68 : decode cX2_admit 68 = .ok (.getfield 33, 3) := by decide +kernel
theorem dX2_admit_71 : decode cX2_admit 71 = .ok (.iconst 0, 1) := by decide +kernel
theorem dX2_admit_72 : decode cX2_admit 72 = .ok (.iastore, 1) := by decide +kernel
theorem dX2_admit_73 : decode cX2_admit 73 = .ok (.aload_n 0, 1) := by decide +kernel
theorem dX2_admit_74 : decode cX2_admit 74 = .ok (.dup, 1) := by decide +kernel
theorem dX2_admit_75 : decode cX2_admit 75 = .ok (.getfield 33, 3) := by decide +kernel
theorem dX2_admit_78 : decode cX2_admit 78 = .ok (.iconst 1, 1) := by decide +kernel
theorem dX2_admit_79 : decode cX2_admit 79 = .ok (.iadd, 1) := by decide +kernel
theorem dX2_admit_80 : decode cX2_admit 80 = .ok (.putfield 33, 3) := by decide +kernel
theorem dX2_admit_83 : decode cX2_admit 83 = .ok (.aload_n 0, 1) := by decide +kernel
theorem dX2_admit_84 : decode cX2_admit 84 = .ok (.getfield 33, 3) := by decide +kernel
theorem dX2_admit_87 : decode cX2_admit 87 = .ok (.ireturn, 1) := by decide +kernel
theorem dX2_exchange_0 : decode cX2_exchange 0 = .ok (.aload_n 0, 1) := by decide +kernel
theorem dX2_exchange_1 : decode cX2_exchange 1 = .ok (.getfield 9, 3) := by decide +kernel
theorem dX2_exchange_4 : decode cX2_exchange 4 = .ok (.iload_n 1, 1) := by decide +kernel
theorem dX2_exchange_5 : decode cX2_exchange 5 = .ok (.iload_n 2, 1) := by decide +kernel
theorem dX2_exchange_6 : decode cX2_exchange 6 = .ok (.invokestatic 59, 3) := by decide +kernel
theorem dX2_exchange_9 : decode cX2_exchange 9 = .ok (.aload_n 0, 1) := by decide +kernel
theorem dX2_exchange_10 : decode cX2_exchange 10 = .ok (.getfield 15, 3) := by decide +kernel
theorem dX2_exchange_13 : decode cX2_exchange 13 = .ok (.iload_n 1, 1) := by decide +kernel
theorem dX2_exchange_14 : decode cX2_exchange 14 = .ok (.iload_n 2, 1) := by decide +kernel
theorem dX2_exchange_15 : decode cX2_exchange 15 = .ok (.invokestatic 59, 3) := by decide +kernel
theorem dX2_exchange_18 : decode cX2_exchange 18 = .ok (.aload_n 0, 1) := by decide +kernel
theorem dX2_exchange_19 : decode cX2_exchange 19 = .ok (.getfield 18, 3) := by decide +kernel
theorem dX2_exchange_22 : decode cX2_exchange 22 = .ok (.iload_n 1, 1) := by decide +kernel
theorem dX2_exchange_23 : decode cX2_exchange 23 = .ok (.iload_n 2, 1) := by decide +kernel
theorem dX2_exchange_24 : decode cX2_exchange 24 = .ok (.invokestatic 59, 3) := by decide +kernel
theorem dX2_exchange_27 : decode cX2_exchange 27 = .ok (.aload_n 0, 1) := by decide +kernel
theorem dX2_exchange_28 : decode cX2_exchange 28 = .ok (.getfield 21, 3) := by decide +kernel
theorem dX2_exchange_31 : decode cX2_exchange 31 = .ok (.iload_n 1, 1) := by decide +kernel
theorem dX2_exchange_32 : decode cX2_exchange 32 = .ok (.iload_n 2, 1) := by decide +kernel
theorem dX2_exchange_33 : decode cX2_exchange 33 = .ok (.invokestatic 59, 3) := by decide +kernel
theorem dX2_exchange_36 : decode cX2_exchange 36 = .ok (.return_, 1) := by decide +kernel
theorem dX2_exchangeIn_0 : decode cX2_exchangeIn 0 = .ok (.aload_n 0, 1) := by decide +kernel
theorem dX2_exchangeIn_1 : decode cX2_exchangeIn 1 = .ok (.iload_n 1, 1) := by decide +kernel
theorem dX2_exchangeIn_2 : decode cX2_exchangeIn 2 = .ok (.iaload, 1) := by decide +kernel
theorem dX2_exchangeIn_3 : decode cX2_exchangeIn 3 = .ok (.istore_n 3, 1) := by decide +kernel
theorem dX2_exchangeIn_4 : decode cX2_exchangeIn 4 = .ok (.aload_n 0, 1) := by decide +kernel
theorem dX2_exchangeIn_5 : decode cX2_exchangeIn 5 = .ok (.iload_n 1, 1) := by decide +kernel
theorem dX2_exchangeIn_6 : decode cX2_exchangeIn 6 = .ok (.aload_n 0, 1) := by decide +kernel
theorem dX2_exchangeIn_7 : decode cX2_exchangeIn 7 = .ok (.iload_n 2, 1) := by decide +kernel
theorem dX2_exchangeIn_8 : decode cX2_exchangeIn 8 = .ok (.iaload, 1) := by decide +kernel
theorem dX2_exchangeIn_9 : decode cX2_exchangeIn 9 = .ok (.iastore, 1) := by decide +kernel
theorem dX2_exchangeIn_10 : decode cX2_exchangeIn 10 = .ok (.aload_n 0, 1) := by decide +kernel
theorem dX2_exchangeIn_11 : decode cX2_exchangeIn 11 = .ok (.iload_n 2, 1) := by decide +kernel
theorem dX2_exchangeIn_12 : decode cX2_exchangeIn 12 = .ok (.iload_n 3, 1) := by decide +kernel
theorem dX2_exchangeIn_13 : decode cX2_exchangeIn 13 = .ok (.iastore, 1) := by decide +kernel
theorem dX2_exchangeIn_14 : decode cX2_exchangeIn 14 = .ok (.return_, 1) := by decide +kernel
theorem dX2_soil_0 : decode cX2_soil 0 = .ok (.aload_n 0, 1) := by decide +kernel
theorem dX2_soil_1 : decode cX2_soil 1 = .ok (.getfield 15, 3) := by decide +kernel
theorem dX2_soil_4 : decode cX2_soil 4 = .ok (.iload_n 1, 1) := by decide +kernel
theorem dX2_soil_5 : decode cX2_soil 5 = .ok (.bipush 60, 2) := by decide +kernel
theorem dX2_soil_7 : decode cX2_soil 7 = .ok (.aload_n 0, 1) := by decide +kernel
theorem dX2_soil_8 : decode cX2_soil 8 = .ok (.getfield 15, 3) := by decide +kernel
theorem dX2_soil_11 : decode cX2_soil 11 = .ok (.iload_n 1, 1) := by decide +kernel
theorem dX2_soil_12 : decode cX2_soil 12 = .ok (.iaload, 1) := by decide +kernel
theorem dX2_soil_13 : decode cX2_soil 13 = .ok (.iload_n 2, 1) := by decide +kernel
theorem dX2_soil_14 : decode cX2_soil 14 = .ok (.iadd, 1) := by decide +kernel
theorem dX2_soil_15 : decode cX2_soil 15 = .ok (.invokestatic 63, 3) := by decide +kernel
theorem dX2_soil_18 : decode cX2_soil 18 = .ok (.iastore, 1) := by decide +kernel
theorem dX2_soil_19 : decode cX2_soil 19 = .ok (.return_, 1) := by decide +kernel
theorem dX2_scrubs_0 : decode cX2_scrubs 0 = .ok (.aload_n 0, 1) := by decide +kernel
theorem dX2_scrubs_1 : decode cX2_scrubs 1 = .ok (.getfield 24, 3) := by decide +kernel
theorem dX2_scrubs_4 : decode cX2_scrubs 4 = .ok (.iconst 0, 1) := by decide +kernel
theorem dX2_scrubs_5 : decode cX2_scrubs 5 = .ok (.iaload, 1) := by decide +kernel
theorem dX2_scrubs_6 : decode cX2_scrubs 6 = .ok (.istore_n 2, 1) := by decide +kernel
theorem dX2_scrubs_7 : decode cX2_scrubs 7 = .ok (.aload_n 0, 1) := by decide +kernel
theorem dX2_scrubs_8 : decode cX2_scrubs 8 = .ok (.getfield 9, 3) := by decide +kernel
theorem dX2_scrubs_11 : decode cX2_scrubs 11 = .ok (.iload_n 1, 1) := by decide +kernel
theorem dX2_scrubs_12 : decode cX2_scrubs 12 = .ok (.iaload, 1) := by decide +kernel
theorem dX2_scrubs_13 : decode cX2_scrubs 13 = .ok (.lookupswitch 46 #[(1, 27), (3, 31)], 27) := by decide +kernel
theorem dX2_scrubs_40 : decode cX2_scrubs 40 = .ok (.iload_n 2, 1) := by decide +kernel
theorem dX2_scrubs_41 : decode cX2_scrubs 41 = .ok (.iconst 2, 1) := by decide +kernel
theorem dX2_scrubs_42 : decode cX2_scrubs 42 = .ok (.idiv, 1) := by decide +kernel
theorem dX2_scrubs_43 : decode cX2_scrubs 43 = .ok (.ireturn, 1) := by decide +kernel
theorem dX2_scrubs_44 : decode cX2_scrubs 44 = .ok (.iload_n 2, 1) := by decide +kernel
theorem dX2_scrubs_45 : decode cX2_scrubs 45 = .ok (.iconst 2, 1) := by decide +kernel
theorem dX2_scrubs_46 : decode cX2_scrubs 46 = .ok (.if_icmp .ge 7, 3) := by decide +kernel
theorem dX2_scrubs_49 : decode cX2_scrubs 49 = .ok (.iconst 0, 1) := by decide +kernel
theorem dX2_scrubs_50 : decode cX2_scrubs 50 = .ok (.goto 8, 3) := by decide +kernel
theorem dX2_scrubs_53 : decode cX2_scrubs 53 = .ok (.iload_n 2, 1) := by decide +kernel
theorem dX2_scrubs_54 : decode cX2_scrubs 54 = .ok (.iconst 2, 1) := by decide +kernel
theorem dX2_scrubs_55 : decode cX2_scrubs 55 = .ok (.idiv, 1) := by decide +kernel
theorem dX2_scrubs_56 : decode cX2_scrubs 56 = .ok (.iconst 1, 1) := by decide +kernel
theorem dX2_scrubs_57 : decode cX2_scrubs 57 = .ok (.isub, 1) := by decide +kernel
theorem dX2_scrubs_58 : decode cX2_scrubs 58 = .ok (.ireturn, 1) := by decide +kernel
theorem dX2_scrubs_59 : decode cX2_scrubs 59 = .ok (.iload_n 2, 1) := by decide +kernel
theorem dX2_scrubs_60 : decode cX2_scrubs 60 = .ok (.ireturn, 1) := by decide +kernel
theorem dX2_dries_0 : decode cX2_dries 0 = .ok (.aload_n 0, 1) := by decide +kernel
theorem dX2_dries_1 : decode cX2_dries 1 = .ok (.getfield 9, 3) := by decide +kernel
theorem dX2_dries_4 : decode cX2_dries 4 = .ok (.iload_n 1, 1) := by decide +kernel
theorem dX2_dries_5 : decode cX2_dries 5 = .ok (.iaload, 1) := by decide +kernel
theorem dX2_dries_6 : decode cX2_dries 6 = .ok (.lookupswitch 34 #[(2, 26), (3, 30)], 26) := by decide +kernel
theorem dX2_dries_32 : decode cX2_dries 32 = .ok (.iload_n 2, 1) := by decide +kernel
theorem dX2_dries_33 : decode cX2_dries 33 = .ok (.iconst 2, 1) := by decide +kernel
theorem dX2_dries_34 : decode cX2_dries 34 = .ok (.idiv, 1) := by decide +kernel
theorem dX2_dries_35 : decode cX2_dries 35 = .ok (.ireturn, 1) := by decide +kernel
theorem dX2_dries_36 : decode cX2_dries 36 = .ok (.iconst 2, 1) := by decide +kernel
theorem dX2_dries_37 : decode cX2_dries 37 = .ok (.iload_n 2, 1) := by decide +kernel
theorem dX2_dries_38 : decode cX2_dries 38 = .ok (.imul, 1) := by decide +kernel
theorem dX2_dries_39 : decode cX2_dries 39 = .ok (.ireturn, 1) := by decide +kernel
theorem dX2_dries_40 : decode cX2_dries 40 = .ok (.iload_n 2, 1) := by decide +kernel
theorem dX2_dries_41 : decode cX2_dries 41 = .ok (.ireturn, 1) := by decide +kernel
theorem dX2_sunToday_0 : decode cX2_sunToday 0 = .ok (.aload_n 0, 1) := by decide +kernel
theorem dX2_sunToday_1 : decode cX2_sunToday 1 = .ok (.getfield 27, 3) := by decide +kernel
theorem dX2_sunToday_4 : decode cX2_sunToday 4 = .ok (.aload_n 0, 1) := by decide +kernel
theorem dX2_sunToday_5 : decode cX2_sunToday 5 = .ok (.getfield 37, 3) := by decide +kernel
theorem dX2_sunToday_8 : decode cX2_sunToday 8 = .ok (.bipush 7, 2) := by decide +kernel
theorem dX2_sunToday_10 : decode cX2_sunToday 10 = .ok (.irem, 1) := by decide +kernel
theorem dX2_sunToday_11 : decode cX2_sunToday 11 = .ok (.iaload, 1) := by decide +kernel
theorem dX2_sunToday_12 : decode cX2_sunToday 12 = .ok (.ireturn, 1) := by decide +kernel
theorem dX2_passDays_0 : decode cX2_passDays 0 = .ok (.iconst 0, 1) := by decide +kernel
theorem dX2_passDays_1 : decode cX2_passDays 1 = .ok (.istore_n 2, 1) := by decide +kernel
theorem dX2_passDays_2 : decode cX2_passDays 2 = .ok (.iconst 0, 1) := by decide +kernel
theorem dX2_passDays_3 : decode cX2_passDays 3 = .ok (.istore_n 3, 1) := by decide +kernel
theorem dX2_passDays_4 : decode cX2_passDays 4 = .ok (.iload_n 3, 1) := by decide +kernel
theorem dX2_passDays_5 : decode cX2_passDays 5 = .ok (.iload_n 1, 1) := by decide +kernel
theorem dX2_passDays_6 : decode cX2_passDays 6 = .ok (.if_icmp .ge 20, 3) := by decide +kernel
theorem dX2_passDays_9 : decode cX2_passDays 9 = .ok (.iload_n 2, 1) := by decide +kernel
theorem dX2_passDays_10 : decode cX2_passDays 10 = .ok (.aload_n 0, 1) := by decide +kernel
theorem dX2_passDays_11 : decode cX2_passDays 11 = .ok (.aload_n 0, 1) := by decide +kernel
theorem dX2_passDays_12 : decode cX2_passDays 12 = .ok (.invokevirtual 69, 3) := by decide +kernel
theorem dX2_passDays_15 : decode cX2_passDays 15 = .ok (.invokevirtual 73, 3) := by decide +kernel
theorem dX2_passDays_18 : decode cX2_passDays 18 = .ok (.iadd, 1) := by decide +kernel
theorem dX2_passDays_19 : decode cX2_passDays 19 = .ok (.istore_n 2, 1) := by decide +kernel
theorem dX2_passDays_20 : decode cX2_passDays 20 = .ok (.iinc 3 1, 3) := by decide +kernel
theorem dX2_passDays_23 : decode cX2_passDays 23 = .ok (.goto (-19), 3) := by decide +kernel
theorem dX2_passDays_26 : decode cX2_passDays 26 = .ok (.iload_n 2, 1) := by decide +kernel
theorem dX2_passDays_27 : decode cX2_passDays 27 = .ok (.ireturn, 1) := by decide +kernel
theorem dX2_daysTillHome_0 : decode cX2_daysTillHome 0 = .ok (.iconst 0, 1) := by decide +kernel
theorem dX2_daysTillHome_1 : decode cX2_daysTillHome 1 = .ok (.istore_n 3, 1) := by decide +kernel
theorem dX2_daysTillHome_2 : decode cX2_daysTillHome 2 = .ok (.iload_n 3, 1) := by decide +kernel
theorem dX2_daysTillHome_3 : decode cX2_daysTillHome 3 = .ok (.iload_n 2, 1) := by decide +kernel
theorem dX2_daysTillHome_4 : decode cX2_daysTillHome 4 = .ok (.if_icmp .gt 30, 3) := by decide +kernel
theorem dX2_daysTillHome_7 : decode cX2_daysTillHome 7 = .ok (.aload_n 0, 1) := by decide +kernel
theorem dX2_daysTillHome_8 : decode cX2_daysTillHome 8 = .ok (.getfield 21, 3) := by decide +kernel
theorem dX2_daysTillHome_11 : decode cX2_daysTillHome 11 = .ok (.iload_n 1, 1) := by decide +kernel
theorem dX2_daysTillHome_12 : decode cX2_daysTillHome 12 = .ok (.iaload, 1) := by decide +kernel
theorem dX2_daysTillHome_13 : decode cX2_daysTillHome 13 = .ok (.iconst 2, 1) := by decide +kernel
theorem dX2_daysTillHome_14 : decode cX2_daysTillHome 14 = .ok (.if_icmp .ne 5, 3) := by decide +kernel
theorem dX2_daysTillHome_17 : decode cX2_daysTillHome 17 = .ok (.iload_n 3, 1) := by decide +kernel
theorem dX2_daysTillHome_18 : decode cX2_daysTillHome 18 = .ok (.ireturn, 1) := by decide +kernel
theorem dX2_daysTillHome_19 : decode cX2_daysTillHome 19 = .ok (.aload_n 0, 1) := by decide +kernel
theorem dX2_daysTillHome_20 : decode cX2_daysTillHome 20 = .ok (.aload_n 0, 1) := by decide +kernel
theorem dX2_daysTillHome_21 : decode cX2_daysTillHome 21 = .ok (.invokevirtual 69, 3) := by decide +kernel
theorem dX2_daysTillHome_24 : decode cX2_daysTillHome 24 = .ok (.invokevirtual 73, 3) := by decide +kernel
theorem dX2_daysTillHome_27 : decode cX2_daysTillHome 27 = .ok (.pop, 1) := by decide +kernel
theorem dX2_daysTillHome_28 : decode cX2_daysTillHome 28 = .ok (.iinc 3 1, 3) := by decide +kernel
theorem dX2_daysTillHome_31 : decode cX2_daysTillHome 31 = .ok (.goto (-29), 3) := by decide +kernel
theorem dX2_daysTillHome_34 : decode cX2_daysTillHome 34 = .ok (.bipush 61, 2) := by decide +kernel
theorem dX2_daysTillHome_36 : decode cX2_daysTillHome 36 = .ok (.ireturn, 1) := by decide +kernel
theorem dX2_daysTillDone_0 : decode cX2_daysTillDone 0 = .ok (.iconst 0, 1) := by decide +kernel
theorem dX2_daysTillDone_1 : decode cX2_daysTillDone 1 = .ok (.istore_n 2, 1) := by decide +kernel
theorem dX2_daysTillDone_2 : decode cX2_daysTillDone 2 = .ok (.iload_n 2, 1) := by decide +kernel
theorem dX2_daysTillDone_3 : decode cX2_daysTillDone 3 = .ok (.iload_n 1, 1) := by decide +kernel
theorem dX2_daysTillDone_4 : decode cX2_daysTillDone 4 = .ok (.if_icmp .gt 27, 3) := by decide +kernel
theorem dX2_daysTillDone_7 : decode cX2_daysTillDone 7 = .ok (.aload_n 0, 1) := by decide +kernel
theorem dX2_daysTillDone_8 : decode cX2_daysTillDone 8 = .ok (.invokevirtual 77, 3) := by decide +kernel
theorem dX2_daysTillDone_11 : decode cX2_daysTillDone 11 = .ok (.ifCond .eq 5, 3) := by decide +kernel
theorem dX2_daysTillDone_14 : decode cX2_daysTillDone 14 = .ok (.iload_n 2, 1) := by decide +kernel
theorem dX2_daysTillDone_15 : decode cX2_daysTillDone 15 = .ok (.ireturn, 1) := by decide +kernel
theorem dX2_daysTillDone_16 : decode cX2_daysTillDone 16 = .ok (.aload_n 0, 1) := by decide +kernel
theorem dX2_daysTillDone_17 : decode cX2_daysTillDone 17 = .ok (.aload_n 0, 1) := by decide +kernel
theorem dX2_daysTillDone_18 : decode cX2_daysTillDone 18 = .ok (.invokevirtual 69, 3) := by decide +kernel
theorem dX2_daysTillDone_21 : decode cX2_daysTillDone 21 = .ok (.invokevirtual 73, 3) := by decide +kernel
theorem dX2_daysTillDone_24 : decode cX2_daysTillDone 24 = .ok (.pop, 1) := by decide +kernel
theorem dX2_daysTillDone_25 : decode cX2_daysTillDone 25 = .ok (.iinc 2 1, 3) := by decide +kernel
theorem dX2_daysTillDone_28 : decode cX2_daysTillDone 28 = .ok (.goto (-26), 3) := by decide +kernel
theorem dX2_daysTillDone_31 : decode cX2_daysTillDone 31 = .ok (.bipush 61, 2) := by decide +kernel
theorem dX2_daysTillDone_33 : decode cX2_daysTillDone 33 = .ok (.ireturn, 1) := by decide +kernel
theorem dX2_passDay_0 : decode cX2_passDay 0 = .ok (.aload_n 0, 1) := by decide +kernel
theorem dX2_passDay_1 : decode cX2_passDay 1 = .ok (.invokevirtual 81, 3) := by decide +kernel
theorem dX2_passDay_4 : decode cX2_passDay 4 = .ok (.aload_n 0, 1) := by decide +kernel
theorem dX2_passDay_5 : decode cX2_passDay 5 = .ok (.iload_n 1, 1) := by decide +kernel
theorem dX2_passDay_6 : decode cX2_passDay 6 = .ok (.invokevirtual 84, 3) := by decide +kernel
theorem dX2_passDay_9 : decode cX2_passDay 9 = .ok (.istore_n 2, 1) := by decide +kernel
theorem dX2_passDay_10 : decode cX2_passDay 10 = .ok (.aload_n 0, 1) := by decide +kernel
theorem dX2_passDay_11 : decode cX2_passDay 11 = .ok (.dup, 1) := by decide +kernel
theorem dX2_passDay_12 : decode cX2_passDay 12 = .ok (.getfield 37, 3) := by decide +kernel
theorem dX2_passDay_15 : decode cX2_passDay 15 = .ok (.iconst 1, 1) := by decide +kernel
theorem dX2_passDay_16 : decode cX2_passDay 16 = .ok (.iadd, 1) := by decide +kernel
theorem dX2_passDay_17 : decode cX2_passDay 17 = .ok (.putfield 37, 3) := by decide +kernel
theorem dX2_passDay_20 : decode cX2_passDay 20 = .ok (.iload_n 2, 1) := by decide +kernel
theorem dX2_passDay_21 : decode cX2_passDay 21 = .ok (.ireturn, 1) := by decide +kernel
theorem dX2_boilBatch_0 : decode cX2_boilBatch 0 = .ok (.aload_n 0, 1) := by decide +kernel
theorem dX2_boilBatch_1 : decode cX2_boilBatch 1 = .ok (.iconst 1, 1) := by decide +kernel
theorem dX2_boilBatch_2 : decode cX2_boilBatch 2 = .ok (.invokevirtual 87, 3) := by decide +kernel
theorem dX2_boilBatch_5 : decode cX2_boilBatch 5 = .ok (.invokestatic 90, 3) := by decide +kernel
theorem dX2_boilBatch_8 : decode cX2_boilBatch 8 = .ok (.istore_n 1, 1) := by decide +kernel
theorem dX2_boilBatch_9 : decode cX2_boilBatch 9 = .ok (.aload_n 0, 1) := by decide +kernel
theorem dX2_boilBatch_10 : decode cX2_boilBatch 10 = .ok (.iconst 0, 1) := by decide +kernel
theorem dX2_boilBatch_11 : decode cX2_boilBatch 11 = .ok (.putfield 95, 3) := by decide +kernel
theorem dX2_boilBatch_14 : decode cX2_boilBatch 14 = .ok (.iconst 0, 1) := by decide +kernel
theorem dX2_boilBatch_15 : decode cX2_boilBatch 15 = .ok (.istore_n 2, 1) := by decide +kernel
theorem dX2_boilBatch_16 : decode cX2_boilBatch 16 = .ok (.iload_n 2, 1) := by decide +kernel
theorem dX2_boilBatch_17 : decode cX2_boilBatch 17 = .ok (.aload_n 0, 1) := by decide +kernel
theorem dX2_boilBatch_18 : decode cX2_boilBatch 18 = .ok (.getfield 33, 3) := by decide +kernel
theorem dX2_boilBatch_21 : decode cX2_boilBatch 21 = .ok (.if_icmp .ge 95, 3) := by decide +kernel
theorem dX2_boilBatch_24 : decode cX2_boilBatch 24 = .ok (.aload_n 0, 1) := by decide +kernel
theorem dX2_boilBatch_25 : decode cX2_boilBatch 25 = .ok (.getfield 95, 3) := by decide +kernel
theorem dX2_boilBatch_28 : decode cX2_boilBatch 28 = .ok (.aload_n 0, 1) := by decide +kernel
theorem dX2_boilBatch_29 : decode cX2_boilBatch 29 = .ok (.getfield 24, 3) := by decide +kernel
theorem dX2_boilBatch_32 : decode cX2_boilBatch 32 = .ok (.iconst 1, 1) := by decide +kernel
theorem dX2_boilBatch_33 : decode cX2_boilBatch 33 = .ok (.iaload, 1) := by decide +kernel
theorem dX2_boilBatch_34 : decode cX2_boilBatch 34 = .ok (.if_icmp .ge 82, 3) := by decide +kernel
theorem dX2_boilBatch_37 : decode cX2_boilBatch 37 = .ok (.aload_n 0, 1) := by decide +kernel
theorem dX2_boilBatch_38 : decode cX2_boilBatch 38 = .ok (.getfield 21, 3) := by decide +kernel
theorem dX2_boilBatch_41 : decode cX2_boilBatch 41 = .ok (.iload_n 2, 1) := by decide +kernel
theorem dX2_boilBatch_42 : decode cX2_boilBatch 42 = .ok (.iaload, 1) := by decide +kernel
theorem dX2_boilBatch_43 : decode cX2_boilBatch 43 = .ok (.ifCond .ne 67, 3) := by decide +kernel
theorem dX2_boilBatch_46 : decode cX2_boilBatch 46 = .ok (.aload_n 0, 1) := by decide +kernel
theorem dX2_boilBatch_47 : decode cX2_boilBatch 47 = .ok (.dup, 1) := by decide +kernel
theorem dX2_boilBatch_48 : decode cX2_boilBatch 48 = .ok (.getfield 95, 3) := by decide +kernel
theorem dX2_boilBatch_51 : decode cX2_boilBatch 51 = .ok (.iconst 1, 1) := by decide +kernel
theorem dX2_boilBatch_52 : decode cX2_boilBatch 52 = .ok (.iadd, 1) := by decide +kernel
theorem dX2_boilBatch_53 : decode cX2_boilBatch 53 = .ok (.putfield 95, 3) := by decide +kernel
theorem dX2_boilBatch_56 : decode cX2_boilBatch 56 = .ok (.aload_n 0, 1) := by decide +kernel
theorem dX2_boilBatch_57 : decode cX2_boilBatch 57 = .ok (.getfield 15, 3) := by decide +kernel
theorem dX2_boilBatch_60 : decode cX2_boilBatch 60 = .ok (.iload_n 2, 1) := by decide +kernel
theorem dX2_boilBatch_61 : decode cX2_boilBatch 61 = .ok (.iconst 0, 1) := by decide +kernel
theorem dX2_boilBatch_62 : decode cX2_boilBatch 62 = .ok (.aload_n 0, 1) := by decide +kernel
theorem dX2_boilBatch_63 : decode cX2_boilBatch 63 = .ok (.getfield 15, 3) := by decide +kernel
theorem dX2_boilBatch_66 : decode cX2_boilBatch 66 = .ok (.iload_n 2, 1) := by decide +kernel
theorem dX2_boilBatch_67 : decode cX2_boilBatch 67 = .ok (.iaload, 1) := by decide +kernel
theorem dX2_boilBatch_68 : decode cX2_boilBatch 68 = .ok (.aload_n 0, 1) := by decide +kernel
theorem dX2_boilBatch_69 : decode cX2_boilBatch 69 = .ok (.iload_n 2, 1) := by decide +kernel
theorem dX2_boilBatch_70 : decode cX2_boilBatch 70 = .ok (.invokevirtual 98, 3) := by decide +kernel
theorem dX2_boilBatch_73 : decode cX2_boilBatch 73 = .ok (.isub, 1) := by decide +kernel
theorem dX2_boilBatch_74 : decode cX2_boilBatch 74 = .ok (.invokestatic 101, 3) := by decide +kernel
theorem dX2_boilBatch_77 : decode cX2_boilBatch 77 = .ok (.iastore, 1) := by decide +kernel
theorem dX2_boilBatch_78 : decode cX2_boilBatch 78 = .ok (.aload_n 0, 1) := by decide +kernel
theorem dX2_boilBatch_79 : decode cX2_boilBatch 79 = .ok (.getfield 18, 3) := by decide +kernel
theorem dX2_boilBatch_82 : decode cX2_boilBatch 82 = .ok (.iload_n 2, 1) := by decide +kernel
theorem dX2_boilBatch_83 : decode cX2_boilBatch 83 = .ok (.aload_n 0, 1) := by decide +kernel
theorem dX2_boilBatch_84 : decode cX2_boilBatch 84 = .ok (.getfield 24, 3) := by decide +kernel
theorem dX2_boilBatch_87 : decode cX2_boilBatch 87 = .ok (.iconst 4, 1) := by decide +kernel
theorem dX2_boilBatch_88 : decode cX2_boilBatch 88 = .ok (.iaload, 1) := by decide +kernel
theorem dX2_boilBatch_89 : decode cX2_boilBatch 89 = .ok (.iastore, 1) := by decide +kernel
theorem dX2_boilBatch_90 : decode cX2_boilBatch 90 = .ok (.iload_n 1, 1) := by decide +kernel
theorem dX2_boilBatch_91 : decode cX2_boilBatch 91 = .ok (.aload_n 0, 1) := by decide +kernel
theorem dX2_boilBatch_92 : decode cX2_boilBatch 92 = .ok (.getfield 24, 3) := by decide +kernel
theorem dX2_boilBatch_95 : decode cX2_boilBatch 95 = .ok (.iconst 2, 1) := by decide +kernel
theorem dX2_boilBatch_96 : decode cX2_boilBatch 96 = .ok (.iaload, 1) := by decide +kernel
theorem dX2_boilBatch_97 : decode cX2_boilBatch 97 = .ok (.if_icmp .ge 13, 3) := by decide +kernel
theorem dX2_boilBatch_100 : decode cX2_boilBatch 100 = .ok (.aload_n 0, 1) := by decide +kernel
theorem dX2_boilBatch_101 : decode cX2_boilBatch 101 = .ok (.getfield 21, 3) := by decide +kernel
theorem dX2_boilBatch_104 : decode cX2_boilBatch 104 = .ok (.iload_n 2, 1) := by decide +kernel
theorem dX2_boilBatch_105 : decode cX2_boilBatch 105 = .ok (.iconst 1, 1) := by decide +kernel
theorem dX2_boilBatch_106 : decode cX2_boilBatch 106 = .ok (.iastore, 1) := by decide +kernel
theorem dX2_boilBatch_107 : decode cX2_boilBatch 107 = .ok (.iinc 1 1, 3) := by decide +kernel
theorem dX2_boilBatch_110 : decode cX2_boilBatch 110 = .ok (.iinc 2 1, 3) := by decide +kernel
theorem dX2_boilBatch_113 : decode cX2_boilBatch 113 = .ok (.goto (-97), 3) := by decide +kernel
theorem dX2_boilBatch_116 : decode cX2_boilBatch 116 = .ok (.return_, 1) := by decide +kernel
theorem dX2_dryLine_0 : decode cX2_dryLine 0 = .ok (.iconst 0, 1) := by decide +kernel
theorem dX2_dryLine_1 : decode cX2_dryLine 1 = .ok (.istore_n 2, 1) := by decide +kernel
theorem dX2_dryLine_2 : decode cX2_dryLine 2 = .ok (.iload_n 1, 1) := by decide +kernel
theorem dX2_dryLine_3 : decode cX2_dryLine 3 = .ok (.iconst 5, 1) := by decide +kernel
theorem dX2_dryLine_4 : decode cX2_dryLine 4 = .ok (.if_icmp .lt 7, 3) := by decide +kernel
theorem dX2_dryLine_7 : decode cX2_dryLine 7 = .ok (.iconst 1, 1) := by decide +kernel
theorem dX2_dryLine_8 : decode cX2_dryLine 8 = .ok (.goto 4, 3) := by decide +kernel
theorem dX2_dryLine_11 : decode cX2_dryLine 11 = .ok (.iconst 0, 1) := by decide +kernel
theorem dX2_dryLine_12 : decode cX2_dryLine 12 = .ok (.istore_n 3, 1) := by decide +kernel
theorem dX2_dryLine_13 : decode cX2_dryLine 13 = .ok (.iconst 0, 1) := by decide +kernel
theorem dX2_dryLine_14 : decode cX2_dryLine 14 = .ok (.istore 4, 2) := by decide +kernel
theorem dX2_dryLine_16 : decode cX2_dryLine 16 = .ok (.iload 4, 2) := by decide +kernel
theorem dX2_dryLine_18 : decode cX2_dryLine 18 = .ok (.aload_n 0, 1) := by decide +kernel
theorem dX2_dryLine_19 : decode cX2_dryLine 19 = .ok (.getfield 33, 3) := by decide +kernel
theorem dX2_dryLine_22 : decode cX2_dryLine 22 = .ok (.if_icmp .ge 129, 3) := by decide +kernel
theorem dX2_dryLine_25 : decode cX2_dryLine 25 = .ok (.aload_n 0, 1) := by decide +kernel
theorem dX2_dryLine_26 : decode cX2_dryLine 26 = .ok (.getfield 21, 3) := by decide +kernel
theorem dX2_dryLine_29 : decode cX2_dryLine 29 = .ok (.iload 4, 2) := by decide +kernel
theorem dX2_dryLine_31 : decode cX2_dryLine 31 = .ok (.iaload, 1) := by decide +kernel
theorem dX2_dryLine_32 : decode cX2_dryLine 32 = .ok (.iconst 1, 1) := by decide +kernel
theorem dX2_dryLine_33 : decode cX2_dryLine 33 = .ok (.if_icmp .ne 112, 3) := by decide +kernel
theorem dX2_dryLine_36 : decode cX2_dryLine 36 = .ok (.aload_n 0, 1) := by decide +kernel
theorem dX2_dryLine_37 : decode cX2_dryLine 37 = .ok (.getfield 18, 3) := by decide +kernel
theorem dX2_dryLine_40 : decode cX2_dryLine 40 = .ok (.iload 4, 2) := by decide +kernel
theorem dX2_dryLine_42 : decode cX2_dryLine 42 = .ok (.iconst 0, 1) := by decide +kernel
theorem dX2_dryLine_43 : decode cX2_dryLine 43 = .ok (.aload_n 0, 1) := by decide +kernel
theorem dX2_dryLine_44 : decode cX2_dryLine 44 = .ok (.getfield 18, 3) := by decide +kernel
theorem dX2_dryLine_47 : decode cX2_dryLine 47 = .ok (.iload 4, 2) := by decide +kernel
theorem dX2_dryLine_49 : decode cX2_dryLine 49 = .ok (.iaload, 1) := by decide +kernel
theorem dX2_dryLine_50 : decode cX2_dryLine 50 = .ok (.aload_n 0, 1) := by decide +kernel
theorem dX2_dryLine_51 : decode cX2_dryLine 51 = .ok (.iload 4, 2) := by decide +kernel
theorem dX2_dryLine_53 : decode cX2_dryLine 53 = .ok (.iload_n 1, 1) := by decide +kernel
theorem dX2_dryLine_54 : decode cX2_dryLine 54 = .ok (.invokevirtual 104, 3) := by decide +kernel
theorem dX2_dryLine_57 : decode cX2_dryLine 57 = .ok (.isub, 1) := by decide +kernel
theorem dX2_dryLine_58 : decode cX2_dryLine 58 = .ok (.invokestatic 101, 3) := by decide +kernel
theorem dX2_dryLine_61 : decode cX2_dryLine 61 = .ok (.iastore, 1) := by decide +kernel
theorem dX2_dryLine_62 : decode cX2_dryLine 62 = .ok (.aload_n 0, 1) := by decide +kernel
theorem dX2_dryLine_63 : decode cX2_dryLine 63 = .ok (.getfield 15, 3) := by decide +kernel
theorem dX2_dryLine_66 : decode cX2_dryLine 66 = .ok (.iload 4, 2) := by decide +kernel
theorem dX2_dryLine_68 : decode cX2_dryLine 68 = .ok (.iconst 0, 1) := by decide +kernel
theorem dX2_dryLine_69 : decode cX2_dryLine 69 = .ok (.aload_n 0, 1) := by decide +kernel
theorem dX2_dryLine_70 : decode cX2_dryLine 70 = .ok (.getfield 15, 3) := by decide +kernel
theorem dX2_dryLine_73 : decode cX2_dryLine 73 = .ok (.iload 4, 2) := by decide +kernel
theorem dX2_dryLine_75 : decode cX2_dryLine 75 = .ok (.iaload, 1) := by decide +kernel
theorem dX2_dryLine_76 : decode cX2_dryLine 76 = .ok (.iload_n 3, 1) := by decide +kernel
theorem dX2_dryLine_77 : decode cX2_dryLine 77 = .ok (.isub, 1) := by decide +kernel
theorem dX2_dryLine_78 : decode cX2_dryLine 78 = .ok (.invokestatic 101, 3) := by decide +kernel
theorem dX2_dryLine_81 : decode cX2_dryLine 81 = .ok (.iastore, 1) := by decide +kernel
theorem dX2_dryLine_82 : decode cX2_dryLine 82 = .ok (.aload_n 0, 1) := by decide +kernel
theorem dX2_dryLine_83 : decode cX2_dryLine 83 = .ok (.getfield 18, 3) := by decide +kernel
theorem dX2_dryLine_86 : decode cX2_dryLine 86 = .ok (.iload 4, 2) := by decide +kernel
theorem dX2_dryLine_88 : decode cX2_dryLine 88 = .ok (.iaload, 1) := by decide +kernel
theorem dX2_dryLine_89 : decode cX2_dryLine 89 = .ok (.ifCond .ne 56, 3) := by decide +kernel
theorem dX2_dryLine_92 : decode cX2_dryLine 92 = .ok (.aload_n 0, 1) := by decide +kernel
theorem dX2_dryLine_93 : decode cX2_dryLine 93 = .ok (.getfield 15, 3) := by decide +kernel
theorem dX2_dryLine_96 : decode cX2_dryLine 96 = .ok (.iload 4, 2) := by decide +kernel
theorem dX2_dryLine_98 : decode cX2_dryLine 98 = .ok (.iaload, 1) := by decide +kernel
theorem dX2_dryLine_99 : decode cX2_dryLine 99 = .ok (.aload_n 0, 1) := by decide +kernel
theorem dX2_dryLine_100 : decode cX2_dryLine 100 = .ok (.getfield 24, 3) := by decide +kernel
theorem dX2_dryLine_103 : decode cX2_dryLine 103 = .ok (.iconst 3, 1) := by decide +kernel
theorem dX2_dryLine_104 : decode cX2_dryLine 104 = .ok (.iaload, 1) := by decide +kernel
theorem dX2_dryLine_105 : decode cX2_dryLine 105 = .ok (.if_icmp .gt 7, 3) := by decide +kernel
theorem dX2_dryLine_108 : decode cX2_dryLine 108 = .ok (.iconst 1, 1) := by decide +kernel
theorem dX2_dryLine_109 : decode cX2_dryLine 109 = .ok (.goto 4, 3) := by decide +kernel
theorem dX2_dryLine_112 : decode cX2_dryLine 112 = .ok (.iconst 0, 1) := by decide +kernel
theorem dX2_dryLine_113 : decode cX2_dryLine 113 = .ok (.istore 5, 2) := by decide +kernel
theorem dX2_dryLine_115 : decode cX2_dryLine 115 = .ok (.aload_n 0, 1) := by decide +kernel
theorem dX2_dryLine_116 : decode cX2_dryLine 116 = .ok (.getfield 21, 3) := by decide +kernel
theorem dX2_dryLine_119 : decode cX2_dryLine 119 = .ok (.iload 4, 2) := by decide +kernel
theorem dX2_dryLine_121 : decode cX2_dryLine 121 = .ok (.iload 5, 2) := by decide +kernel
theorem dX2_dryLine_123 : decode cX2_dryLine 123 = .ok (.ifCond .eq 7, 3) := by decide +kernel
theorem dX2_dryLine_126 : decode cX2_dryLine 126 = .ok (.iconst 2, 1) := by decide +kernel
theorem dX2_dryLine_127 : decode cX2_dryLine 127 = .ok (.goto 4, 3) := by decide +kernel
theorem dX2_dryLine_130 : decode cX2_dryLine 130 = .ok (.iconst 0, 1) := by decide +kernel
theorem dX2_dryLine_131 : decode cX2_dryLine 131 = .ok (.iastore, 1) := by decide +kernel
theorem dX2_dryLine_132 : decode cX2_dryLine 132 = .ok (.iload_n 2, 1) := by decide +kernel
theorem dX2_dryLine_133 : decode cX2_dryLine 133 = .ok (.iload 5, 2) := by decide +kernel
theorem dX2_dryLine_135 : decode cX2_dryLine 135 = .ok (.ifCond .eq 7, 3) := by decide +kernel
theorem dX2_dryLine_138 : decode cX2_dryLine 138 = .ok (.iconst 1, 1) := by decide +kernel
theorem dX2_dryLine_139 : decode cX2_dryLine 139 = .ok (.goto 4, 3) := by decide +kernel
theorem dX2_dryLine_142 : decode cX2_dryLine 142 = .ok (.iconst 0, 1) := by decide +kernel
theorem dX2_dryLine_143 : decode cX2_dryLine 143 = .ok (.iadd, 1) := by decide +kernel
theorem dX2_dryLine_144 : decode cX2_dryLine 144 = .ok (.istore_n 2, 1) := by decide +kernel
theorem dX2_dryLine_145 : decode cX2_dryLine 145 = .ok (.iinc 4 1, 3) := by decide +kernel
theorem dX2_dryLine_148 : decode cX2_dryLine 148 = .ok (.goto (-132), 3) := by decide +kernel
theorem dX2_dryLine_151 : decode cX2_dryLine 151 = .ok (.iload_n 2, 1) := by decide +kernel
theorem dX2_dryLine_152 : decode cX2_dryLine 152 = .ok (.ireturn, 1) := by decide +kernel
theorem dX2_whoIsAt_0 : decode cX2_whoIsAt 0 = .ok (.iconst 0, 1) := by decide +kernel
theorem dX2_whoIsAt_1 : decode cX2_whoIsAt 1 = .ok (.istore_n 2, 1) := by decide +kernel
theorem dX2_whoIsAt_2 : decode cX2_whoIsAt 2 = .ok (.iconst 0, 1) := by decide +kernel
theorem dX2_whoIsAt_3 : decode cX2_whoIsAt 3 = .ok (.istore_n 3, 1) := by decide +kernel
theorem dX2_whoIsAt_4 : decode cX2_whoIsAt 4 = .ok (.iload_n 3, 1) := by decide +kernel
theorem dX2_whoIsAt_5 : decode cX2_whoIsAt 5 = .ok (.aload_n 0, 1) := by decide +kernel
theorem dX2_whoIsAt_6 : decode cX2_whoIsAt 6 = .ok (.getfield 33, 3) := by decide +kernel
theorem dX2_whoIsAt_9 : decode cX2_whoIsAt 9 = .ok (.if_icmp .ge 25, 3) := by decide +kernel
theorem dX2_whoIsAt_12 : decode cX2_whoIsAt 12 = .ok (.aload_n 0, 1) := by decide +kernel
theorem dX2_whoIsAt_13 : decode cX2_whoIsAt 13 = .ok (.getfield 21, 3) := by decide +kernel
theorem dX2_whoIsAt_16 : decode cX2_whoIsAt 16 = .ok (.iload_n 3, 1) := by decide +kernel
theorem dX2_whoIsAt_17 : decode cX2_whoIsAt 17 = .ok (.iaload, 1) := by decide +kernel
theorem dX2_whoIsAt_18 : decode cX2_whoIsAt 18 = .ok (.iload_n 1, 1) := by decide +kernel
theorem dX2_whoIsAt_19 : decode cX2_whoIsAt 19 = .ok (.if_icmp .ne 9, 3) := by decide +kernel
theorem dX2_whoIsAt_22 : decode cX2_whoIsAt 22 = .ok (.iload_n 2, 1) := by decide +kernel
theorem dX2_whoIsAt_23 : decode cX2_whoIsAt 23 = .ok (.iconst 1, 1) := by decide +kernel
theorem dX2_whoIsAt_24 : decode cX2_whoIsAt 24 = .ok (.iload_n 3, 1) := by decide +kernel
theorem dX2_whoIsAt_25 : decode cX2_whoIsAt 25 = .ok (.ishl, 1) := by decide +kernel
theorem dX2_whoIsAt_26 : decode cX2_whoIsAt 26 = .ok (.ior, 1) := by decide +kernel
theorem dX2_whoIsAt_27 : decode cX2_whoIsAt 27 = .ok (.istore_n 2, 1) := by decide +kernel
theorem dX2_whoIsAt_28 : decode cX2_whoIsAt 28 = .ok (.iinc 3 1, 3) := by decide +kernel
theorem dX2_whoIsAt_31 : decode cX2_whoIsAt 31 = .ok (.goto (-27), 3) := by decide +kernel
theorem dX2_whoIsAt_34 : decode cX2_whoIsAt 34 = .ok (.iload_n 2, 1) := by decide +kernel
theorem dX2_whoIsAt_35 : decode cX2_whoIsAt 35 = .ok (.ireturn, 1) := by decide +kernel
theorem dX2_allAreHome_0 : decode cX2_allAreHome 0 = .ok (.iconst 0, 1) := by decide +kernel
theorem dX2_allAreHome_1 : decode cX2_allAreHome 1 = .ok (.istore_n 1, 1) := by decide +kernel
theorem dX2_allAreHome_2 : decode cX2_allAreHome 2 = .ok (.iload_n 1, 1) := by decide +kernel
theorem dX2_allAreHome_3 : decode cX2_allAreHome 3 = .ok (.aload_n 0, 1) := by decide +kernel
theorem dX2_allAreHome_4 : decode cX2_allAreHome 4 = .ok (.getfield 33, 3) := by decide +kernel
theorem dX2_allAreHome_7 : decode cX2_allAreHome 7 = .ok (.if_icmp .ge 21, 3) := by decide +kernel
theorem dX2_allAreHome_10 : decode cX2_allAreHome 10 = .ok (.aload_n 0, 1) := by decide +kernel
theorem dX2_allAreHome_11 : decode cX2_allAreHome 11 = .ok (.getfield 21, 3) := by decide +kernel
theorem dX2_allAreHome_14 : decode cX2_allAreHome 14 = .ok (.iload_n 1, 1) := by decide +kernel
theorem dX2_allAreHome_15 : decode cX2_allAreHome 15 = .ok (.iaload, 1) := by decide +kernel
theorem dX2_allAreHome_16 : decode cX2_allAreHome 16 = .ok (.iconst 2, 1) := by decide +kernel
theorem dX2_allAreHome_17 : decode cX2_allAreHome 17 = .ok (.if_icmp .eq 5, 3) := by decide +kernel
theorem dX2_allAreHome_20 : decode cX2_allAreHome 20 = .ok (.iconst 0, 1) := by decide +kernel
theorem dX2_allAreHome_21 : decode cX2_allAreHome 21 = .ok (.ireturn, 1) := by decide +kernel
theorem dX2_allAreHome_22 : decode cX2_allAreHome 22 = .ok (.iinc 1 1, 3) := by decide +kernel
theorem dX2_allAreHome_25 : decode cX2_allAreHome 25 = .ok (.goto (-23), 3) := by decide +kernel
theorem dX2_allAreHome_28 : decode cX2_allAreHome 28 = .ok (.iconst 1, 1) := by decide +kernel
theorem dX2_allAreHome_29 : decode cX2_allAreHome 29 = .ok (.ireturn, 1) := by decide +kernel
theorem dX2_greyOfAll_0 : decode cX2_greyOfAll 0 = .ok (.aload_n 0, 1) := by decide +kernel
theorem dX2_greyOfAll_1 : decode cX2_greyOfAll 1 = .ok (.getfield 15, 3) := by decide +kernel
theorem dX2_greyOfAll_4 : decode cX2_greyOfAll 4 = .ok (.aload_n 0, 1) := by decide +kernel
theorem dX2_greyOfAll_5 : decode cX2_greyOfAll 5 = .ok (.getfield 33, 3) := by decide +kernel
theorem dX2_greyOfAll_8 : decode cX2_greyOfAll 8 = .ok (.invokestatic 107, 3) := by decide +kernel
theorem dX2_greyOfAll_11 : decode cX2_greyOfAll 11 = .ok (.ireturn, 1) := by decide +kernel
theorem dX2_wetOfAll_0 : decode cX2_wetOfAll 0 = .ok (.aload_n 0, 1) := by decide +kernel
theorem dX2_wetOfAll_1 : decode cX2_wetOfAll 1 = .ok (.getfield 18, 3) := by decide +kernel
theorem dX2_wetOfAll_4 : decode cX2_wetOfAll 4 = .ok (.aload_n 0, 1) := by decide +kernel
theorem dX2_wetOfAll_5 : decode cX2_wetOfAll 5 = .ok (.getfield 33, 3) := by decide +kernel
theorem dX2_wetOfAll_8 : decode cX2_wetOfAll 8 = .ok (.invokestatic 107, 3) := by decide +kernel
theorem dX2_wetOfAll_11 : decode cX2_wetOfAll 11 = .ok (.ireturn, 1) := by decide +kernel
theorem dX2_sunOfAll_0 : decode cX2_sunOfAll 0 = .ok (.aload_n 0, 1) := by decide +kernel
theorem dX2_sunOfAll_1 : decode cX2_sunOfAll 1 = .ok (.getfield 27, 3) := by decide +kernel
theorem dX2_sunOfAll_4 : decode cX2_sunOfAll 4 = .ok (.bipush 7, 2) := by decide +kernel
theorem dX2_sunOfAll_6 : decode cX2_sunOfAll 6 = .ok (.invokestatic 107, 3) := by decide +kernel
theorem dX2_sunOfAll_9 : decode cX2_sunOfAll 9 = .ok (.ireturn, 1) := by decide +kernel
theorem dX2_sumOf_0 : decode cX2_sumOf 0 = .ok (.iconst 0, 1) := by decide +kernel
theorem dX2_sumOf_1 : decode cX2_sumOf 1 = .ok (.istore_n 2, 1) := by decide +kernel
theorem dX2_sumOf_2 : decode cX2_sumOf 2 = .ok (.iconst 0, 1) := by decide +kernel
theorem dX2_sumOf_3 : decode cX2_sumOf 3 = .ok (.istore_n 3, 1) := by decide +kernel
theorem dX2_sumOf_4 : decode cX2_sumOf 4 = .ok (.iload_n 3, 1) := by decide +kernel
theorem dX2_sumOf_5 : decode cX2_sumOf 5 = .ok (.iload_n 1, 1) := by decide +kernel
theorem dX2_sumOf_6 : decode cX2_sumOf 6 = .ok (.if_icmp .ge 21, 3) := by decide +kernel
theorem dX2_sumOf_9 : decode cX2_sumOf 9 = .ok (.iload_n 3, 1) := by decide +kernel
theorem dX2_sumOf_10 : decode cX2_sumOf 10 = .ok (.aload_n 0, 1) := by decide +kernel
theorem dX2_sumOf_11 : decode cX2_sumOf 11 = .ok (.arraylength, 1) := by decide +kernel
theorem dX2_sumOf_12 : decode cX2_sumOf 12 = .ok (.if_icmp .ge 15, 3) := by decide +kernel
theorem dX2_sumOf_15 : decode cX2_sumOf 15 = .ok (.iload_n 2, 1) := by decide +kernel
theorem dX2_sumOf_16 : decode cX2_sumOf 16 = .ok (.aload_n 0, 1) := by decide +kernel
theorem dX2_sumOf_17 : decode cX2_sumOf 17 = .ok (.iload_n 3, 1) := by decide +kernel
theorem dX2_sumOf_18 : decode cX2_sumOf 18 = .ok (.iaload, 1) := by decide +kernel
theorem dX2_sumOf_19 : decode cX2_sumOf 19 = .ok (.iadd, 1) := by decide +kernel
theorem dX2_sumOf_20 : decode cX2_sumOf 20 = .ok (.istore_n 2, 1) := by decide +kernel
theorem dX2_sumOf_21 : decode cX2_sumOf 21 = .ok (.iinc 3 1, 3) := by decide +kernel
theorem dX2_sumOf_24 : decode cX2_sumOf 24 = .ok (.goto (-20), 3) := by decide +kernel
theorem dX2_sumOf_27 : decode cX2_sumOf 27 = .ok (.iload_n 2, 1) := by decide +kernel
theorem dX2_sumOf_28 : decode cX2_sumOf 28 = .ok (.ireturn, 1) := by decide +kernel
theorem dX3_init_0 : decode cX3_init 0 = .ok (.aload_n 0, 1) := by decide +kernel
theorem dX3_init_1 : decode cX3_init 1 = .ok (.invokespecial 3, 3) := by decide +kernel
theorem dX3_init_4 : decode cX3_init 4 = .ok (.aload_n 0, 1) := by decide +kernel
theorem dX3_init_5 : decode cX3_init 5 = .ok (.aload_n 1, 1) := by decide +kernel
theorem dX3_init_6 : decode cX3_init 6 = .ok (.putfield 9, 3) := by decide +kernel
theorem dX3_init_9 : decode cX3_init 9 = .ok (.return_, 1) := by decide +kernel
theorem dX3_tell_0 : decode cX3_tell 0 = .ok (.aload_n 0, 1) := by decide +kernel
theorem dX3_tell_1 : decode cX3_tell 1 = .ok (.iconst 0, 1) := by decide +kernel
theorem dX3_tell_2 : decode cX3_tell 2 = .ok (.putfield 15, 3) := by decide +kernel
theorem dX3_tell_5 : decode cX3_tell 5 = .ok (.aload_n 0, 1) := by decide +kernel
theorem dX3_tell_6 : decode cX3_tell 6 = .ok (.iconst 0, 1) := by decide +kernel
theorem dX3_tell_7 : decode cX3_tell 7 = .ok (.putfield 19, 3) := by decide +kernel
theorem dX3_tell_10 : decode cX3_tell 10 = .ok (.aload_n 1, 1) := by decide +kernel
theorem dX3_tell_11 : decode cX3_tell 11 = .ok (.invokevirtual 22, 3) := by decide +kernel
theorem dX3_tell_14 : decode cX3_tell 14 = .ok (.aload_n 0, 1) := by decide +kernel
theorem dX3_tell_15 : decode cX3_tell 15 = .ok (.getfield 9, 3) := by decide +kernel
theorem dX3_tell_18 : decode cX3_tell 18 = .ok (.invokevirtual 27, 3) := by decide +kernel
theorem dX3_tell_21 : decode cX3_tell 21 = .ok (.iconst 0, 1) := by decide +kernel
theorem dX3_tell_22 : decode cX3_tell 22 = .ok (.istore_n 2, 1) := by decide +kernel
theorem dX3_tell_23 : decode cX3_tell 23 = .ok (.iload_n 2, 1) := by decide +kernel
theorem dX3_tell_24 : decode cX3_tell 24 = .ok (.sipush 160, 3) := by decide +kernel
theorem dX3_tell_27 : decode cX3_tell 27 = .ok (.if_icmp .gt 46, 3) := by decide +kernel
theorem dX3_tell_30 : decode cX3_tell 30 = .ok (.aload_n 0, 1) := by decide +kernel
theorem dX3_tell_31 : decode cX3_tell 31 = .ok (.invokevirtual 32, 3) := by decide +kernel
theorem dX3_tell_34 : decode cX3_tell 34 = .ok (.istore_n 3, 1) := by decide +kernel
theorem dX3_tell_35 : decode cX3_tell 35 = .ok (.iload_n 3, 1) := by decide +kernel
theorem dX3_tell_36 : decode cX3_tell 36 = .ok (.ifCond .eq 16, 3) := by decide +kernel
theorem dX3_tell_39 : decode cX3_tell 39 = .ok (.aload_n 0, 1) := by decide +kernel
theorem dX3_tell_40 : decode cX3_tell 40 = .ok (.getfield 9, 3) := by decide +kernel
theorem dX3_tell_43 : decode cX3_tell 43 = .ok (.getfield 36, 3) := by decide +kernel
theorem dX3_tell_46 : decode cX3_tell 46 = .ok (.iconst 4, 1) := by decide +kernel
theorem dX3_tell_47 : decode cX3_tell 47 = .ok (.if_icmp .ne 5, 3) := by decide +kernel
theorem dX3_tell_50 : decode cX3_tell 50 = .ok (.iload_n 2, 1) := by decide +kernel
theorem dX3_tell_51 : decode cX3_tell 51 = .ok (.ireturn, 1) := by decide +kernel
theorem dX3_tell_52 : decode cX3_tell 52 = .ok (.iload_n 3, 1) := by decide +kernel
theorem dX3_tell_53 : decode cX3_tell 53 = .ok (.ifCond .eq 20, 3) := by decide +kernel
theorem dX3_tell_56 : decode cX3_tell 56 = .ok (.aload_n 0, 1) := by decide +kernel
theorem dX3_tell_57 : decode cX3_tell 57 = .ok (.aload_n 1, 1) := by decide +kernel
theorem dX3_tell_58 : decode cX3_tell 58 = .ok (.invokevirtual 39, 3) := by decide +kernel
theorem dX3_tell_61 : decode cX3_tell 61 = .ok (.ifCond .ne 6, 3) := by decide +kernel
theorem dX3_tell_64 : decode cX3_tell 64 = .ok (.goto 9, 3) := by decide +kernel
theorem dX3_tell_67 : decode cX3_tell 67 = .ok (.iinc 2 1, 3) := by decide +kernel
theorem dX3_tell_70 : decode cX3_tell 70 = .ok (.goto (-47), 3) := by decide +kernel
theorem dX3_tell_73 : decode cX3_tell 73 = .ok (.bipush (-10), 2) := by decide +kernel
theorem dX3_tell_75 : decode cX3_tell 75 = .ok (.aload_n 0, 1) := by decide +kernel
theorem dX3_tell_76 : decode cX3_tell 76 = .ok (.getfield 43, 3) := by decide +kernel
theorem dX3_tell_79 : decode cX3_tell 79 = .ok (.isub, 1) := by decide +kernel
theorem dX3_tell_80 : decode cX3_tell 80 = .ok (.ireturn, 1) := by decide +kernel
theorem dX3_blame_0 : decode cX3_blame 0 = .ok (.aload_n 0, 1) := by decide +kernel
theorem dX3_blame_1 : decode cX3_blame 1 = .ok (.iload_n 1, 1) := by decide +kernel
theorem dX3_blame_2 : decode cX3_blame 2 = .ok (.putfield 15, 3) := by decide +kernel
theorem dX3_blame_5 : decode cX3_blame 5 = .ok (.aload_n 0, 1) := by decide +kernel
theorem dX3_blame_6 : decode cX3_blame 6 = .ok (.aload_n 0, 1) := by decide +kernel
theorem dX3_blame_7 : decode cX3_blame 7 = .ok (.getfield 9, 3) := by decide +kernel
theorem dX3_blame_10 : decode cX3_blame 10 = .ok (.getfield 46, 3) := by decide +kernel
theorem dX3_blame_13 : decode cX3_blame 13 = .ok (.putfield 43, 3) := by decide +kernel
theorem dX3_blame_16 : decode cX3_blame 16 = .ok (.iconst 0, 1) := by decide +kernel
theorem dX3_blame_17 : decode cX3_blame 17 = .ok (.ireturn, 1) := by decide +kernel
theorem dX3_takeToken_0 : decode cX3_takeToken 0 = .ok (.aload_n 0, 1) := by decide +kernel
theorem dX3_takeToken_1 : decode cX3_takeToken 1 = .ok (.getfield 9, 3) := by decide +kernel
theorem dX3_takeToken_4 : decode cX3_takeToken 4 = .ok (.invokevirtual 49, 3) := by decide +kernel
theorem dX3_takeToken_7 : decode cX3_takeToken 7 = .ok (.aload_n 0, 1) := by decide +kernel
theorem dX3_takeToken_8 : decode cX3_takeToken 8 = .ok (.getfield 9, 3) := by decide +kernel
theorem dX3_takeToken_11 : decode cX3_takeToken 11 = .ok (.getfield 36, 3) := by decide +kernel
theorem dX3_takeToken_14 : decode cX3_takeToken 14 = .ok (.ifCond .ne 11, 3) := by decide +kernel
theorem dX3_takeToken_17 : decode cX3_takeToken 17 = .ok (.aload_n 0, 1) := by decide +kernel
theorem dX3_takeToken_18 : decode cX3_takeToken 18 = .ok (.iconst 1, 1) := by decide +kernel
theorem dX3_takeToken_19 : decode cX3_takeToken 19 = .ok (.invokevirtual 52, 3) := by decide +kernel
theorem dX3_takeToken_22 : decode cX3_takeToken 22 = .ok (.ifCond .eq 7, 3) := by decide +kernel
theorem dX3_takeToken_25 : decode cX3_takeToken 25 = .ok (.iconst 1, 1) := by decide +kernel
theorem dX3_takeToken_26 : decode cX3_takeToken 26 = .ok (.goto 4, 3) := by decide +kernel
theorem dX3_takeToken_29 : decode cX3_takeToken 29 = .ok (.iconst 0, 1) := by decide +kernel
theorem dX3_takeToken_30 : decode cX3_takeToken 30 = .ok (.ireturn, 1) := by decide +kernel
theorem dX3_tellLine_0 : decode cX3_tellLine 0 = .ok (.aload_n 0, 1) := by decide +kernel
theorem dX3_tellLine_1 : decode cX3_tellLine 1 = .ok (.getfield 9, 3) := by decide +kernel
theorem dX3_tellLine_4 : decode cX3_tellLine 4 = .ok (.getfield 36, 3) := by decide +kernel
theorem dX3_tellLine_7 : decode cX3_tellLine 7 = .ok (.iconst 1, 1) := by decide +kernel
theorem dX3_tellLine_8 : decode cX3_tellLine 8 = .ok (.if_icmp .ne 13, 3) := by decide +kernel
theorem dX3_tellLine_11 : decode cX3_tellLine 11 = .ok (.aload_n 0, 1) := by decide +kernel
theorem dX3_tellLine_12 : decode cX3_tellLine 12 = .ok (.getfield 9, 3) := by decide +kernel
theorem dX3_tellLine_15 : decode cX3_tellLine 15 = .ok (.invokevirtual 56, 3) := by decide +kernel
theorem dX3_tellLine_18 : decode cX3_tellLine 18 = .ok (.goto 5, 3) := by decide +kernel
theorem dX3_tellLine_21 : decode cX3_tellLine 21 = .ok (.bipush (-4), 2) := by decide +kernel
theorem dX3_tellLine_23 : decode cX3_tellLine 23 = .ok (.istore_n 2, 1) := by decide +kernel
theorem dX3_tellLine_24 : decode cX3_tellLine 24 = .ok (.iload_n 2, 1) := by decide +kernel
theorem dX3_tellLine_25 : decode cX3_tellLine 25 = .ok (.ifCond .ge 9, 3) := by decide +kernel
theorem dX3_tellLine_28 : decode cX3_tellLine 28 = .ok (.aload_n 0, 1) := by decide +kernel
theorem dX3_tellLine_29 : decode cX3_tellLine 29 = .ok (.iconst 2, 1) := by decide +kernel
theorem dX3_tellLine_30 : decode cX3_tellLine 30 = .ok (.invokevirtual 52, 3) := by decide +kernel
theorem dX3_tellLine_33 : decode cX3_tellLine 33 = .ok (.ireturn, 1) := by decide +kernel
theorem dX3_tellLine_34 : decode cX3_tellLine 34 = .ok (.iload_n 2, 1) := by decide +kernel
theorem dX3_tellLine_35 : decode cX3_tellLine 35 = .ok (.iconst 4, 1) := by decide +kernel
theorem dX3_tellLine_36 : decode cX3_tellLine 36 = .ok (.if_icmp .ge 10, 3) := by decide +kernel
theorem dX3_tellLine_39 : decode cX3_tellLine 39 = .ok (.aload_n 0, 1) := by decide +kernel
theorem dX3_tellLine_40 : decode cX3_tellLine 40 = .ok (.aload_n 1, 1) := by decide +kernel
theorem dX3_tellLine_41 : decode cX3_tellLine 41 = .ok (.iload_n 2, 1) := by decide +kernel
theorem dX3_tellLine_42 : decode cX3_tellLine 42 = .ok (.invokevirtual 60, 3) := by decide +kernel
theorem dX3_tellLine_45 : decode cX3_tellLine 45 = .ok (.ireturn, 1) := by decide +kernel
theorem dX3_tellLine_46 : decode cX3_tellLine 46 = .ok (.aload_n 0, 1) := by decide +kernel
theorem dX3_tellLine_47 : decode cX3_tellLine 47 = .ok (.getfield 19, 3) := by decide +kernel
theorem dX3_tellLine_50 : decode cX3_tellLine 50 = .ok (.iload_n 2, 1) := by decide +kernel
theorem dX3_tellLine_51 : decode cX3_tellLine 51 = .ok (.ishr, 1) := by decide +kernel
theorem dX3_tellLine_52 : decode cX3_tellLine 52 = .ok (.iconst 1, 1) := by decide +kernel
theorem dX3_tellLine_53 : decode cX3_tellLine 53 = .ok (.iand, 1) := by decide +kernel
theorem dX3_tellLine_54 : decode cX3_tellLine 54 = .ok (.ifCond .eq 9, 3) := by decide +kernel
theorem dX3_tellLine_57 : decode cX3_tellLine 57 = .ok (.aload_n 0, 1) := by decide +kernel
theorem dX3_tellLine_58 : decode cX3_tellLine 58 = .ok (.iconst 4, 1) := by decide +kernel
theorem dX3_tellLine_59 : decode cX3_tellLine 59 = .ok (.invokevirtual 52, 3) := by decide +kernel
theorem dX3_tellLine_62 : decode cX3_tellLine 62 = .ok (.ireturn, 1) := by decide +kernel
theorem dX3_tellLine_63 : decode cX3_tellLine 63 = .ok (.aload_n 0, 1) := by decide +kernel
theorem dX3_tellLine_64 : decode cX3_tellLine 64 = .ok (.dup, 1) := by decide +kernel
theorem dX3_tellLine_65 : decode cX3_tellLine 65 = .ok (.getfield 19, 3) := by decide +kernel
theorem dX3_tellLine_68 : decode cX3_tellLine 68 = .ok (.iconst 1, 1) := by decide +kernel
theorem dX3_tellLine_69 : decode cX3_tellLine 69 = .ok (.iload_n 2, 1) := by decide +kernel
theorem dX3_tellLine_70 : decode cX3_tellLine 70 = .ok (.ishl, 1) := by decide +kernel
theorem dX3_tellLine_71 : decode cX3_tellLine 71 = .ok (.ior, 1) := by decide +kernel
theorem dX3_tellLine_72 : decode cX3_tellLine 72 = .ok (.putfield 19, 3) := by decide +kernel
theorem dX3_tellLine_75 : decode cX3_tellLine 75 = .ok (.iload_n 2, 1) := by decide +kernel
theorem dX3_tellLine_76 : decode cX3_tellLine 76 = .ok (.bipush 9, 2) := by decide +kernel
theorem dX3_tellLine_78 : decode cX3_tellLine 78 = .ok (.if_icmp .ne 11, 3) := by decide +kernel
theorem dX3_tellLine_81 : decode cX3_tellLine 81 = .ok (.aload_n 0, 1) := by decide +kernel
theorem dX3_tellLine_82 : decode cX3_tellLine 82 = .ok (.aload_n 1, 1) := by decide +kernel
theorem dX3_tellLine_83 : decode cX3_tellLine 83 = .ok (.invokevirtual 64, 3) := by decide +kernel
theorem dX3_tellLine_86 : decode cX3_tellLine 86 = .ok (.goto 11, 3) := by decide +kernel
theorem dX3_tellLine_89 : decode cX3_tellLine 89 = .ok (.aload_n 0, 1) := by decide +kernel
theorem dX3_tellLine_90 : decode cX3_tellLine 90 = .ok (.aload_n 1, 1) := by decide +kernel
theorem dX3_tellLine_91 : decode cX3_tellLine 91 = .ok (.iload_n 2, 1) := by decide +kernel
theorem dX3_tellLine_92 : decode cX3_tellLine 92 = .ok (.iconst 4, 1) := by decide +kernel
theorem dX3_tellLine_93 : decode cX3_tellLine 93 = .ok (.isub, 1) := by decide +kernel
theorem dX3_tellLine_94 : decode cX3_tellLine 94 = .ok (.invokevirtual 67, 3) := by decide +kernel
theorem dX3_tellLine_97 : decode cX3_tellLine 97 = .ok (.ireturn, 1) := by decide +kernel
theorem dX3_tellOne_0 : decode cX3_tellOne 0 = .ok (.aload_n 1, 1) := by decide +kernel
theorem dX3_tellOne_1 : decode cX3_tellOne 1 = .ok (.getfield 70, 3) := by decide +kernel
theorem dX3_tellOne_4 : decode cX3_tellOne 4 = .ok (.bipush 6, 2) := by decide +kernel
theorem dX3_tellOne_6 : decode cX3_tellOne 6 = .ok (.if_icmp .lt 9, 3) := by decide +kernel
theorem dX3_tellOne_9 : decode cX3_tellOne 9 = .ok (.aload_n 0, 1) := by decide +kernel
theorem dX3_tellOne_10 : decode cX3_tellOne 10 = .ok (.iconst 5, 1) := by decide +kernel
theorem dX3_tellOne_11 : decode cX3_tellOne 11 = .ok (.invokevirtual 52, 3) := by decide +kernel
theorem dX3_tellOne_14 : decode cX3_tellOne 14 = .ok (.ireturn, 1) := by decide +kernel
theorem dX3_tellOne_15 : decode cX3_tellOne 15 = .ok (.aload_n 0, 1) := by decide +kernel
theorem dX3_tellOne_16 : decode cX3_tellOne 16 = .ok (.invokevirtual 32, 3) := by decide +kernel
theorem dX3_tellOne_19 : decode cX3_tellOne 19 = .ok (.ifCond .eq 13, 3) := by decide +kernel
theorem dX3_tellOne_22 : decode cX3_tellOne 22 = .ok (.aload_n 0, 1) := by decide +kernel
theorem dX3_tellOne_23 : decode cX3_tellOne 23 = .ok (.iconst 0, 1) := by decide +kernel
theorem dX3_tellOne_24 : decode cX3_tellOne 24 = .ok (.bipush 60, 2) := by decide +kernel
theorem dX3_tellOne_26 : decode cX3_tellOne 26 = .ok (.invokevirtual 73, 3) := by decide +kernel
theorem dX3_tellOne_29 : decode cX3_tellOne 29 = .ok (.ifCond .ne 5, 3) := by decide +kernel
theorem dX3_tellOne_32 : decode cX3_tellOne 32 = .ok (.iconst 0, 1) := by decide +kernel
theorem dX3_tellOne_33 : decode cX3_tellOne 33 = .ok (.ireturn, 1) := by decide +kernel
theorem dX3_tellOne_34 : decode cX3_tellOne 34 = .ok (.aload_n 1, 1) := by decide +kernel
theorem dX3_tellOne_35 : decode cX3_tellOne 35 = .ok (.iload_n 2, 1) := by decide +kernel
theorem dX3_tellOne_36 : decode cX3_tellOne 36 = .ok (.aload_n 0, 1) := by decide +kernel
theorem dX3_tellOne_37 : decode cX3_tellOne 37 = .ok (.getfield 9, 3) := by decide +kernel
theorem dX3_tellOne_40 : decode cX3_tellOne 40 = .ok (.getfield 77, 3) := by decide +kernel
theorem dX3_tellOne_43 : decode cX3_tellOne 43 = .ok (.invokevirtual 80, 3) := by decide +kernel
theorem dX3_tellOne_46 : decode cX3_tellOne 46 = .ok (.pop, 1) := by decide +kernel
theorem dX3_tellOne_47 : decode cX3_tellOne 47 = .ok (.aload_n 0, 1) := by decide +kernel
theorem dX3_tellOne_48 : decode cX3_tellOne 48 = .ok (.invokevirtual 32, 3) := by decide +kernel
theorem dX3_tellOne_51 : decode cX3_tellOne 51 = .ok (.ifCond .eq 14, 3) := by decide +kernel
theorem dX3_tellOne_54 : decode cX3_tellOne 54 = .ok (.aload_n 0, 1) := by decide +kernel
theorem dX3_tellOne_55 : decode cX3_tellOne 55 = .ok (.invokevirtual 84, 3) := by decide +kernel
theorem dX3_tellOne_58 : decode cX3_tellOne 58 = .ok (.ifCond .eq 7, 3) := by decide +kernel
theorem dX3_tellOne_61 : decode cX3_tellOne 61 = .ok (.iconst 1, 1) := by decide +kernel
theorem dX3_tellOne_62 : decode cX3_tellOne 62 = .ok (.goto 4, 3) := by decide +kernel
theorem dX3_tellOne_65 : decode cX3_tellOne 65 = .ok (.iconst 0, 1) := by decide +kernel
theorem dX3_tellOne_66 : decode cX3_tellOne 66 = .ok (.ireturn, 1) := by decide +kernel
theorem dX3_tellRule_0 : decode cX3_tellRule 0 = .ok (.aload_n 0, 1) := by decide +kernel
theorem dX3_tellRule_1 : decode cX3_tellRule 1 = .ok (.invokevirtual 32, 3) := by decide +kernel
theorem dX3_tellRule_4 : decode cX3_tellRule 4 = .ok (.ifCond .eq 20, 3) := by decide +kernel
theorem dX3_tellRule_7 : decode cX3_tellRule 7 = .ok (.aload_n 0, 1) := by decide +kernel
theorem dX3_tellRule_8 : decode cX3_tellRule 8 = .ok (.getstatic 87, 3) := by decide +kernel
theorem dX3_tellRule_11 : decode cX3_tellRule 11 = .ok (.iload_n 2, 1) := by decide +kernel
theorem dX3_tellRule_12 : decode cX3_tellRule 12 = .ok (.iaload, 1) := by decide +kernel
theorem dX3_tellRule_13 : decode cX3_tellRule 13 = .ok (.getstatic 91, 3) := by decide +kernel
theorem dX3_tellRule_16 : decode cX3_tellRule 16 = .ok (.iload_n 2, 1) := by decide +kernel
theorem dX3_tellRule_17 : decode cX3_tellRule 17 = .ok (.iaload, 1) := by decide +kernel
theorem dX3_tellRule_18 : decode cX3_tellRule 18 = .ok (.invokevirtual 73, 3) := by decide +kernel
theorem dX3_tellRule_21 : decode cX3_tellRule 21 = .ok (.ifCond .ne 5, 3) := by decide +kernel
theorem dX3_tellRule_24 : decode cX3_tellRule 24 = .ok (.iconst 0, 1) := by decide +kernel
theorem dX3_tellRule_25 : decode cX3_tellRule 25 = .ok (.ireturn, 1) := by decide +kernel
theorem dX3_tellRule_26 : decode cX3_tellRule 26 = .ok (.aload_n 1, 1) := by decide +kernel
theorem dX3_tellRule_27 : decode cX3_tellRule 27 = .ok (.getfield 94, 3) := by decide +kernel
theorem dX3_tellRule_30 : decode cX3_tellRule 30 = .ok (.iload_n 2, 1) := by decide +kernel
theorem dX3_tellRule_31 : decode cX3_tellRule 31 = .ok (.aload_n 0, 1) := by decide +kernel
theorem dX3_tellRule_32 : decode cX3_tellRule 32 = .ok (.getfield 9, 3) := by decide +kernel
theorem dX3_tellRule_35 : decode cX3_tellRule 35 = .ok (.getfield 77, 3) := by decide +kernel
theorem dX3_tellRule_38 : decode cX3_tellRule 38 = .ok (.iastore, 1) := by decide +kernel
theorem dX3_tellRule_39 : decode cX3_tellRule 39 = .ok (.aload_n 0, 1) := by decide +kernel
theorem dX3_tellRule_40 : decode cX3_tellRule 40 = .ok (.invokevirtual 32, 3) := by decide +kernel
theorem dX3_tellRule_43 : decode cX3_tellRule 43 = .ok (.ifCond .eq 14, 3) := by decide +kernel
theorem dX3_tellRule_46 : decode cX3_tellRule 46 = .ok (.aload_n 0, 1) := by decide +kernel
theorem dX3_tellRule_47 : decode cX3_tellRule 47 = .ok (.invokevirtual 84, 3) := by decide +kernel
theorem dX3_tellRule_50 : decode cX3_tellRule 50 = .ok (.ifCond .eq 7, 3) := by decide +kernel
theorem dX3_tellRule_53 : decode cX3_tellRule 53 = .ok (.iconst 1, 1) := by decide +kernel
theorem dX3_tellRule_54 : decode cX3_tellRule 54 = .ok (.goto 4, 3) := by decide +kernel
theorem dX3_tellRule_57 : decode cX3_tellRule 57 = .ok (.iconst 0, 1) := by decide +kernel
theorem dX3_tellRule_58 : decode cX3_tellRule 58 = .ok (.ireturn, 1) := by decide +kernel
theorem dX3_tellSuns_0 : decode cX3_tellSuns 0 = .ok (.iconst 0, 1) := by decide +kernel
theorem dX3_tellSuns_1 : decode cX3_tellSuns 1 = .ok (.istore_n 2, 1) := by decide +kernel
theorem dX3_tellSuns_2 : decode cX3_tellSuns 2 = .ok (.iload_n 2, 1) := by decide +kernel
theorem dX3_tellSuns_3 : decode cX3_tellSuns 3 = .ok (.bipush 7, 2) := by decide +kernel
theorem dX3_tellSuns_5 : decode cX3_tellSuns 5 = .ok (.if_icmp .gt 83, 3) := by decide +kernel
theorem dX3_tellSuns_8 : decode cX3_tellSuns 8 = .ok (.aload_n 0, 1) := by decide +kernel
theorem dX3_tellSuns_9 : decode cX3_tellSuns 9 = .ok (.invokevirtual 32, 3) := by decide +kernel
theorem dX3_tellSuns_12 : decode cX3_tellSuns 12 = .ok (.ifCond .ne 5, 3) := by decide +kernel
theorem dX3_tellSuns_15 : decode cX3_tellSuns 15 = .ok (.iconst 0, 1) := by decide +kernel
theorem dX3_tellSuns_16 : decode cX3_tellSuns 16 = .ok (.ireturn, 1) := by decide +kernel
theorem dX3_tellSuns_17 : decode cX3_tellSuns 17 = .ok (.aload_n 0, 1) := by decide +kernel
theorem dX3_tellSuns_18 : decode cX3_tellSuns 18 = .ok (.getfield 9, 3) := by decide +kernel
theorem dX3_tellSuns_21 : decode cX3_tellSuns 21 = .ok (.getfield 36, 3) := by decide +kernel
theorem dX3_tellSuns_24 : decode cX3_tellSuns 24 = .ok (.iconst 3, 1) := by decide +kernel
theorem dX3_tellSuns_25 : decode cX3_tellSuns 25 = .ok (.if_icmp .ne 5, 3) := by decide +kernel
theorem dX3_tellSuns_28 : decode cX3_tellSuns 28 = .ok (.iconst 1, 1) := by decide +kernel
theorem dX3_tellSuns_29 : decode cX3_tellSuns 29 = .ok (.ireturn, 1) := by decide +kernel
theorem dX3_tellSuns_30 : decode cX3_tellSuns 30 = .ok (.iload_n 2, 1) := by decide +kernel
theorem dX3_tellSuns_31 : decode cX3_tellSuns 31 = .ok (.bipush 7, 2) := by decide +kernel
theorem dX3_tellSuns_33 : decode cX3_tellSuns 33 = .ok (.if_icmp .ne 24, 3) := by decide +kernel
theorem dX3_tellSuns_36 : decode cX3_tellSuns 36 = .ok (.aload_n 0, 1) := by decide +kernel
theorem dX3_tellSuns_37 : decode cX3_tellSuns 37 = .ok (.aload_n 0, 1) := by decide +kernel
theorem dX3_tellSuns_38 : decode cX3_tellSuns 38 = .ok (.getfield 9, 3) := by decide +kernel
theorem dX3_tellSuns_41 : decode cX3_tellSuns 41 = .ok (.getfield 36, 3) := by decide +kernel
theorem dX3_tellSuns_44 : decode cX3_tellSuns 44 = .ok (.iconst 2, 1) := by decide +kernel
theorem dX3_tellSuns_45 : decode cX3_tellSuns 45 = .ok (.if_icmp .ne 7, 3) := by decide +kernel
theorem dX3_tellSuns_48 : decode cX3_tellSuns 48 = .ok (.iconst 5, 1) := by decide +kernel
theorem dX3_tellSuns_49 : decode cX3_tellSuns 49 = .ok (.goto 4, 3) := by decide +kernel
theorem dX3_tellSuns_52 : decode cX3_tellSuns 52 = .ok (.iconst 2, 1) := by decide +kernel
theorem dX3_tellSuns_53 : decode cX3_tellSuns 53 = .ok (.invokevirtual 52, 3) := by decide +kernel
theorem dX3_tellSuns_56 : decode cX3_tellSuns 56 = .ok (.ireturn, 1) := by decide +kernel
theorem dX3_tellSuns_57 : decode cX3_tellSuns 57 = .ok (.aload_n 0, 1) := by decide +kernel
theorem dX3_tellSuns_58 : decode cX3_tellSuns 58 = .ok (.iconst 0, 1) := by decide +kernel
theorem dX3_tellSuns_59 : decode cX3_tellSuns 59 = .ok (.bipush 9, 2) := by decide +kernel
theorem dX3_tellSuns_61 : decode cX3_tellSuns 61 = .ok (.invokevirtual 73, 3) := by decide +kernel
theorem dX3_tellSuns_64 : decode cX3_tellSuns 64 = .ok (.ifCond .ne 5, 3) := by decide +kernel
theorem dX3_tellSuns_67 : decode cX3_tellSuns 67 = .ok (.iconst 0, 1) := by decide +kernel
theorem dX3_tellSuns_68 : decode cX3_tellSuns 68 = .ok (.ireturn, 1) := by decide +kernel
theorem dX3_tellSuns_69 : decode cX3_tellSuns 69 = .ok (.aload_n 1, 1) := by decide +kernel
theorem dX3_tellSuns_70 : decode cX3_tellSuns 70 = .ok (.getfield 97, 3) := by decide +kernel
theorem dX3_tellSuns_73 : decode cX3_tellSuns 73 = .ok (.iload_n 2, 1) := by decide +kernel
theorem dX3_tellSuns_74 : decode cX3_tellSuns 74 = .ok (.aload_n 0, 1) := by decide +kernel
theorem dX3_tellSuns_75 : decode cX3_tellSuns 75 = .ok (.getfield 9, 3) := by decide +kernel
theorem dX3_tellSuns_78 : decode cX3_tellSuns 78 = .ok (.getfield 77, 3) := by decide +kernel
theorem dX3_tellSuns_81 : decode cX3_tellSuns 81 = .ok (.iastore, 1) := by decide +kernel
theorem dX3_tellSuns_82 : decode cX3_tellSuns 82 = .ok (.iinc 2 1, 3) := by decide +kernel
theorem dX3_tellSuns_85 : decode cX3_tellSuns 85 = .ok (.goto (-83), 3) := by decide +kernel
theorem dX3_tellSuns_88 : decode cX3_tellSuns 88 = .ok (.iconst 0, 1) := by decide +kernel
theorem dX3_tellSuns_89 : decode cX3_tellSuns 89 = .ok (.ireturn, 1) := by decide +kernel
theorem dX3_isNumber_0 : decode cX3_isNumber 0 = .ok (.aload_n 0, 1) := by decide +kernel
theorem dX3_isNumber_1 : decode cX3_isNumber 1 = .ok (.getfield 9, 3) := by decide +kernel
theorem dX3_isNumber_4 : decode cX3_isNumber 4 = .ok (.getfield 36, 3) := by decide +kernel
theorem dX3_isNumber_7 : decode cX3_isNumber 7 = .ok (.iconst 2, 1) := by decide +kernel
theorem dX3_isNumber_8 : decode cX3_isNumber 8 = .ok (.if_icmp .eq 9, 3) := by decide +kernel
theorem dX3_isNumber_11 : decode cX3_isNumber 11 = .ok (.aload_n 0, 1) := by decide +kernel
theorem dX3_isNumber_12 : decode cX3_isNumber 12 = .ok (.iconst 2, 1) := by decide +kernel
theorem dX3_isNumber_13 : decode cX3_isNumber 13 = .ok (.invokevirtual 52, 3) := by decide +kernel
theorem dX3_isNumber_16 : decode cX3_isNumber 16 = .ok (.ireturn, 1) := by decide +kernel
theorem dX3_isNumber_17 : decode cX3_isNumber 17 = .ok (.aload_n 0, 1) := by decide +kernel
theorem dX3_isNumber_18 : decode cX3_isNumber 18 = .ok (.getfield 9, 3) := by decide +kernel
theorem dX3_isNumber_21 : decode cX3_isNumber 21 = .ok (.getfield 77, 3) := by decide +kernel
theorem dX3_isNumber_24 : decode cX3_isNumber 24 = .ok (.iload_n 1, 1) := by decide +kernel
theorem dX3_isNumber_25 : decode cX3_isNumber 25 = .ok (.iload_n 2, 1) := by decide +kernel
theorem dX3_isNumber_26 : decode cX3_isNumber 26 = .ok (.invokestatic 100, 3) := by decide +kernel
theorem dX3_isNumber_29 : decode cX3_isNumber 29 = .ok (.ifCond .ne 11, 3) := by decide +kernel
theorem dX3_isNumber_32 : decode cX3_isNumber 32 = .ok (.aload_n 0, 1) := by decide +kernel
theorem dX3_isNumber_33 : decode cX3_isNumber 33 = .ok (.iconst 3, 1) := by decide +kernel
theorem dX3_isNumber_34 : decode cX3_isNumber 34 = .ok (.invokevirtual 52, 3) := by decide +kernel
theorem dX3_isNumber_37 : decode cX3_isNumber 37 = .ok (.ifCond .eq 7, 3) := by decide +kernel
theorem dX3_isNumber_40 : decode cX3_isNumber 40 = .ok (.iconst 1, 1) := by decide +kernel
theorem dX3_isNumber_41 : decode cX3_isNumber 41 = .ok (.goto 4, 3) := by decide +kernel
theorem dX3_isNumber_44 : decode cX3_isNumber 44 = .ok (.iconst 0, 1) := by decide +kernel
theorem dX3_isNumber_45 : decode cX3_isNumber 45 = .ok (.ireturn, 1) := by decide +kernel
theorem dX3_isStop_0 : decode cX3_isStop 0 = .ok (.aload_n 0, 1) := by decide +kernel
theorem dX3_isStop_1 : decode cX3_isStop 1 = .ok (.getfield 9, 3) := by decide +kernel
theorem dX3_isStop_4 : decode cX3_isStop 4 = .ok (.getfield 36, 3) := by decide +kernel
theorem dX3_isStop_7 : decode cX3_isStop 7 = .ok (.iconst 3, 1) := by decide +kernel
theorem dX3_isStop_8 : decode cX3_isStop 8 = .ok (.if_icmp .eq 11, 3) := by decide +kernel
theorem dX3_isStop_11 : decode cX3_isStop 11 = .ok (.aload_n 0, 1) := by decide +kernel
theorem dX3_isStop_12 : decode cX3_isStop 12 = .ok (.iconst 2, 1) := by decide +kernel
theorem dX3_isStop_13 : decode cX3_isStop 13 = .ok (.invokevirtual 52, 3) := by decide +kernel
theorem dX3_isStop_16 : decode cX3_isStop 16 = .ok (.ifCond .eq 7, 3) := by decide +kernel
theorem dX3_isStop_19 : decode cX3_isStop 19 = .ok (.iconst 1, 1) := by decide +kernel
theorem dX3_isStop_20 : decode cX3_isStop 20 = .ok (.goto 4, 3) := by decide +kernel
theorem dX3_isStop_23 : decode cX3_isStop 23 = .ok (.iconst 0, 1) := by decide +kernel
theorem dX3_isStop_24 : decode cX3_isStop 24 = .ok (.ireturn, 1) := by decide +kernel
theorem dX4_init_0 : decode cX4_init 0 = .ok (.aload_n 0, 1) := by decide +kernel
theorem dX4_init_1 : decode cX4_init 1 = .ok (.invokespecial 3, 3) := by decide +kernel
theorem dX4_init_4 : decode cX4_init 4 = .ok (.aload_n 0, 1) := by decide +kernel
theorem dX4_init_5 : decode cX4_init 5 = .ok (.iconst (-1), 1) := by decide +kernel
theorem dX4_init_6 : decode cX4_init 6 = .ok (.putfield 11, 3) := by decide +kernel
theorem dX4_init_9 : decode cX4_init 9 = .ok (.aload_n 0, 1) := by decide +kernel
theorem dX4_init_10 : decode cX4_init 10 = .ok (.bipush 40, 2) := by decide +kernel
theorem dX4_init_12 : decode cX4_init 12 = .ok (.newarray .int, 2) := by decide +kernel
theorem dX4_init_14 : decode cX4_init 14 = .ok (.putfield 15, 3) := by decide +kernel
theorem dX4_init_17 : decode cX4_init 17 = .ok (.return_, 1) := by decide +kernel
theorem dX4_renew_0 : decode cX4_renew 0 = .ok (.aload_n 0, 1) := by decide +kernel
theorem dX4_renew_1 : decode cX4_renew 1 = .ok (.iload_n 1, 1) := by decide +kernel
theorem dX4_renew_2 : decode cX4_renew 2 = .ok (.putfield 11, 3) := by decide +kernel
theorem dX4_renew_5 : decode cX4_renew 5 = .ok (.aload_n 0, 1) := by decide +kernel
theorem dX4_renew_6 : decode cX4_renew 6 = .ok (.iload_n 2, 1) := by decide +kernel
theorem dX4_renew_7 : decode cX4_renew 7 = .ok (.putfield 19, 3) := by decide +kernel
theorem dX4_renew_10 : decode cX4_renew 10 = .ok (.aload_n 0, 1) := by decide +kernel
theorem dX4_renew_11 : decode cX4_renew 11 = .ok (.getfield 15, 3) := by decide +kernel
theorem dX4_renew_14 : decode cX4_renew 14 = .ok (.iconst 0, 1) := by decide +kernel
theorem dX4_renew_15 : decode cX4_renew 15 = .ok (.invokestatic 22, 3) := by decide +kernel
theorem dX4_renew_18 : decode cX4_renew 18 = .ok (.return_, 1) := by decide +kernel
theorem dX4_isNothing_0 : decode cX4_isNothing 0 = .ok (.aload_n 0, 1) := by decide +kernel
theorem dX4_isNothing_1 : decode cX4_isNothing 1 = .ok (.getfield 11, 3) := by decide +kernel
theorem dX4_isNothing_4 : decode cX4_isNothing 4 = .ok (.iconst (-1), 1) := by decide +kernel
theorem dX4_isNothing_5 : decode cX4_isNothing 5 = .ok (.if_icmp .ne 7, 3) := by decide +kernel
theorem dX4_isNothing_8 : decode cX4_isNothing 8 = .ok (.iconst 1, 1) := by decide +kernel
theorem dX4_isNothing_9 : decode cX4_isNothing 9 = .ok (.goto 4, 3) := by decide +kernel
theorem dX4_isNothing_12 : decode cX4_isNothing 12 = .ok (.iconst 0, 1) := by decide +kernel
theorem dX4_isNothing_13 : decode cX4_isNothing 13 = .ok (.ireturn, 1) := by decide +kernel
theorem dX4_hasCell_0 : decode cX4_hasCell 0 = .ok (.iload_n 1, 1) := by decide +kernel
theorem dX4_hasCell_1 : decode cX4_hasCell 1 = .ok (.iconst 0, 1) := by decide +kernel
theorem dX4_hasCell_2 : decode cX4_hasCell 2 = .ok (.aload_n 0, 1) := by decide +kernel
theorem dX4_hasCell_3 : decode cX4_hasCell 3 = .ok (.getfield 19, 3) := by decide +kernel
theorem dX4_hasCell_6 : decode cX4_hasCell 6 = .ok (.iconst 1, 1) := by decide +kernel
theorem dX4_hasCell_7 : decode cX4_hasCell 7 = .ok (.isub, 1) := by decide +kernel
theorem dX4_hasCell_8 : decode cX4_hasCell 8 = .ok (.invokestatic 28, 3) := by decide +kernel
theorem dX4_hasCell_11 : decode cX4_hasCell 11 = .ok (.ireturn, 1) := by decide +kernel
theorem dX4_write_0 : decode cX4_write 0 = .ok (.aload_n 0, 1) := by decide +kernel
theorem dX4_write_1 : decode cX4_write 1 = .ok (.getfield 11, 3) := by decide +kernel
theorem dX4_write_4 : decode cX4_write 4 = .ok (.lookupswitch 50 #[(0, 28), (1, 39)], 28) := by decide +kernel
theorem dX4_write_32 : decode cX4_write 32 = .ok (.aload_n 0, 1) := by decide +kernel
theorem dX4_write_33 : decode cX4_write 33 = .ok (.getfield 15, 3) := by decide +kernel
theorem dX4_write_36 : decode cX4_write 36 = .ok (.iload_n 1, 1) := by decide +kernel
theorem dX4_write_37 : decode cX4_write 37 = .ok (.iload_n 2, 1) := by decide +kernel
theorem dX4_write_38 : decode cX4_write 38 = .ok (.i2b, 1) := by decide +kernel
theorem dX4_write_39 : decode cX4_write 39 = .ok (.iastore, 1) := by decide +kernel
theorem dX4_write_40 : decode cX4_write 40 = .ok (.goto 21, 3) := by decide +kernel
theorem dX4_write_43 : decode cX4_write 43 = .ok (.aload_n 0, 1) := by decide +kernel
theorem dX4_write_44 : decode cX4_write 44 = .ok (.getfield 15, 3) := by decide +kernel
theorem dX4_write_47 : decode cX4_write 47 = .ok (.iload_n 1, 1) := by decide +kernel
theorem dX4_write_48 : decode cX4_write 48 = .ok (.iload_n 2, 1) := by decide +kernel
theorem dX4_write_49 : decode cX4_write 49 = .ok (.i2s, 1) := by decide +kernel
theorem dX4_write_50 : decode cX4_write 50 = .ok (.iastore, 1) := by decide +kernel
theorem dX4_write_51 : decode cX4_write 51 = .ok (.goto 10, 3) := by decide +kernel
theorem dX4_write_54 : decode cX4_write 54 = .ok (.aload_n 0, 1) := by decide +kernel
theorem dX4_write_55 : decode cX4_write 55 = .ok (.getfield 15, 3) := by decide +kernel
theorem dX4_write_58 : decode cX4_write 58 = .ok (.iload_n 1, 1) := by decide +kernel
theorem dX4_write_59 : decode cX4_write 59 = .ok (.iload_n 2, 1) := by decide +kernel
theorem dX4_write_60 : decode cX4_write 60 = .ok (.iastore, 1) := by decide +kernel
theorem dX4_write_61 : decode cX4_write 61 = .ok (.return_, 1) := by decide +kernel
theorem dX4_isAnotherLane_0 : decode cX4_isAnotherLane 0 = .ok (.aload_n 0, 1) := by decide +kernel
theorem dX4_isAnotherLane_1 : decode cX4_isAnotherLane 1 = .ok (.invokevirtual 32, 3) := by decide +kernel
theorem dX4_isAnotherLane_4 : decode cX4_isAnotherLane 4 = .ok (.ifCond .ne 15, 3) := by decide +kernel
theorem dX4_isAnotherLane_7 : decode cX4_isAnotherLane 7 = .ok (.aload_n 0, 1) := by decide +kernel
theorem dX4_isAnotherLane_8 : decode cX4_isAnotherLane 8 = .ok (.getfield 11, 3) := by decide +kernel
theorem dX4_isAnotherLane_11 : decode cX4_isAnotherLane 11 = .ok (.iload_n 1, 1) := by decide +kernel
theorem dX4_isAnotherLane_12 : decode cX4_isAnotherLane 12 = .ok (.if_icmp .eq 7, 3) := by decide +kernel
theorem dX4_isAnotherLane_15 : decode cX4_isAnotherLane 15 = .ok (.iconst 1, 1) := by decide +kernel
theorem dX4_isAnotherLane_16 : decode cX4_isAnotherLane 16 = .ok (.goto 4, 3) := by decide +kernel
theorem dX4_isAnotherLane_19 : decode cX4_isAnotherLane 19 = .ok (.iconst 0, 1) := by decide +kernel
theorem dX4_isAnotherLane_20 : decode cX4_isAnotherLane 20 = .ok (.ireturn, 1) := by decide +kernel
theorem dX4_wholePairs_0 : decode cX4_wholePairs 0 = .ok (.aload_n 0, 1) := by decide +kernel
theorem dX4_wholePairs_1 : decode cX4_wholePairs 1 = .ok (.invokevirtual 32, 3) := by decide +kernel
theorem dX4_wholePairs_4 : decode cX4_wholePairs 4 = .ok (.ifCond .ne 19, 3) := by decide +kernel
theorem dX4_wholePairs_7 : decode cX4_wholePairs 7 = .ok (.aload_n 0, 1) := by decide +kernel
theorem dX4_wholePairs_8 : decode cX4_wholePairs 8 = .ok (.iload_n 1, 1) := by decide +kernel
theorem dX4_wholePairs_9 : decode cX4_wholePairs 9 = .ok (.invokevirtual 36, 3) := by decide +kernel
theorem dX4_wholePairs_12 : decode cX4_wholePairs 12 = .ok (.ifCond .ne 11, 3) := by decide +kernel
theorem dX4_wholePairs_15 : decode cX4_wholePairs 15 = .ok (.aload_n 0, 1) := by decide +kernel
theorem dX4_wholePairs_16 : decode cX4_wholePairs 16 = .ok (.iload_n 2, 1) := by decide +kernel
theorem dX4_wholePairs_17 : decode cX4_wholePairs 17 = .ok (.invokevirtual 40, 3) := by decide +kernel
theorem dX4_wholePairs_20 : decode cX4_wholePairs 20 = .ok (.ifCond .ne 5, 3) := by decide +kernel
theorem dX4_wholePairs_23 : decode cX4_wholePairs 23 = .ok (.iconst 0, 1) := by decide +kernel
theorem dX4_wholePairs_24 : decode cX4_wholePairs 24 = .ok (.ireturn, 1) := by decide +kernel
theorem dX4_wholePairs_25 : decode cX4_wholePairs 25 = .ok (.iload_n 3, 1) := by decide +kernel
theorem dX4_wholePairs_26 : decode cX4_wholePairs 26 = .ok (.aload_n 0, 1) := by decide +kernel
theorem dX4_wholePairs_27 : decode cX4_wholePairs 27 = .ok (.getfield 19, 3) := by decide +kernel
theorem dX4_wholePairs_30 : decode cX4_wholePairs 30 = .ok (.iload_n 2, 1) := by decide +kernel
theorem dX4_wholePairs_31 : decode cX4_wholePairs 31 = .ok (.isub, 1) := by decide +kernel
theorem dX4_wholePairs_32 : decode cX4_wholePairs 32 = .ok (.iconst 2, 1) := by decide +kernel
theorem dX4_wholePairs_33 : decode cX4_wholePairs 33 = .ok (.idiv, 1) := by decide +kernel
theorem dX4_wholePairs_34 : decode cX4_wholePairs 34 = .ok (.invokestatic 43, 3) := by decide +kernel
theorem dX4_wholePairs_37 : decode cX4_wholePairs 37 = .ok (.ireturn, 1) := by decide +kernel
theorem dX4_faultOfReading_0 : decode cX4_faultOfReading 0 = .ok (.iload_n 2, 1) := by decide +kernel
theorem dX4_faultOfReading_1 : decode cX4_faultOfReading 1 = .ok (.ifCond .ne 5, 3) := by decide +kernel
theorem dX4_faultOfReading_4 : decode cX4_faultOfReading 4 = .ok (.iconst 0, 1) := by decide +kernel
theorem dX4_faultOfReading_5 : decode cX4_faultOfReading 5 = .ok (.ireturn, 1) := by decide +kernel
theorem dX4_faultOfReading_6 : decode cX4_faultOfReading 6 = .ok (.aload_n 0, 1) := by decide +kernel
theorem dX4_faultOfReading_7 : decode cX4_faultOfReading 7 = .ok (.invokevirtual 32, 3) := by decide +kernel
theorem dX4_faultOfReading_10 : decode cX4_faultOfReading 10 = .ok (.ifCond .eq 5, 3) := by decide +kernel
theorem dX4_faultOfReading_13 : decode cX4_faultOfReading 13 = .ok (.iconst 1, 1) := by decide +kernel
theorem dX4_faultOfReading_14 : decode cX4_faultOfReading 14 = .ok (.ireturn, 1) := by decide +kernel
theorem dX4_faultOfReading_15 : decode cX4_faultOfReading 15 = .ok (.aload_n 0, 1) := by decide +kernel
theorem dX4_faultOfReading_16 : decode cX4_faultOfReading 16 = .ok (.iload_n 1, 1) := by decide +kernel
theorem dX4_faultOfReading_17 : decode cX4_faultOfReading 17 = .ok (.invokevirtual 36, 3) := by decide +kernel
theorem dX4_faultOfReading_20 : decode cX4_faultOfReading 20 = .ok (.ifCond .eq 7, 3) := by decide +kernel
theorem dX4_faultOfReading_23 : decode cX4_faultOfReading 23 = .ok (.iconst 3, 1) := by decide +kernel
theorem dX4_faultOfReading_24 : decode cX4_faultOfReading 24 = .ok (.goto 4, 3) := by decide +kernel
theorem dX4_faultOfReading_27 : decode cX4_faultOfReading 27 = .ok (.iconst 2, 1) := by decide +kernel
theorem dX4_faultOfReading_28 : decode cX4_faultOfReading 28 = .ok (.ireturn, 1) := by decide +kernel
theorem dX5_init_0 : decode cX5_init 0 = .ok (.aload_n 0, 1) := by decide +kernel
theorem dX5_init_1 : decode cX5_init 1 = .ok (.invokespecial 3, 3) := by decide +kernel
theorem dX5_init_4 : decode cX5_init 4 = .ok (.aload_n 0, 1) := by decide +kernel
theorem dX5_init_5 : decode cX5_init 5 = .ok (.bipush 6, 2) := by decide +kernel
theorem dX5_init_7 : decode cX5_init 7 = .ok (.newarray .int, 2) := by decide +kernel
theorem dX5_init_9 : decode cX5_init 9 = .ok (.putfield 9, 3) := by decide +kernel
theorem dX5_init_12 : decode cX5_init 12 = .ok (.aload_n 0, 1) := by decide +kernel
theorem dX5_init_13 : decode cX5_init 13 = .ok (.bipush 6, 2) := by decide +kernel
theorem dX5_init_15 : decode cX5_init 15 = .ok (.newarray .int, 2) := by decide +kernel
theorem dX5_init_17 : decode cX5_init 17 = .ok (.putfield 15, 3) := by decide +kernel
theorem dX5_init_20 : decode cX5_init 20 = .ok (.aload_n 0, 1) := by decide +kernel
theorem dX5_init_21 : decode cX5_init 21 = .ok (.bipush 6, 2) := by decide +kernel
theorem dX5_init_23 : decode cX5_init 23 = .ok (.newarray .int, 2) := by decide +kernel
theorem dX5_init_25 : decode cX5_init 25 = .ok (.putfield 18, 3) := by decide +kernel
theorem dX5_init_28 : decode cX5_init 28 = .ok (.return_, 1) := by decide +kernel
theorem dX5_note_0 : decode cX5_note 0 = .ok (.aload_n 0, 1) := by decide +kernel
theorem dX5_note_1 : decode cX5_note 1 = .ok (.getfield 21, 3) := by decide +kernel
theorem dX5_note_4 : decode cX5_note 4 = .ok (.bipush 6, 2) := by decide +kernel
theorem dX5_note_6 : decode cX5_note 6 = .ok (.if_icmp .lt 5, 3) := by decide +kernel
theorem dX5_note_9 : decode cX5_note 9 = .ok (.iconst 0, 1) := by decide +kernel
theorem dX5_note_10 : decode cX5_note 10 = .ok (.ireturn, 1) := by decide +kernel
theorem dX5_note_11 : decode cX5_note 11 = .ok (.aload_n 0, 1) := by decide +kernel
theorem dX5_note_12 : decode cX5_note 12 = .ok (.getfield 9, 3) := by decide +kernel
theorem dX5_note_15 : decode cX5_note 15 = .ok (.aload_n 0, 1) := by decide +kernel
theorem dX5_note_16 : decode cX5_note 16 = .ok (.getfield 21, 3) := by decide +kernel
theorem dX5_note_19 : decode cX5_note 19 = .ok (.iload_n 1, 1) := by decide +kernel
theorem dX5_note_20 : decode cX5_note 20 = .ok (.iastore, 1) := by decide +kernel
theorem dX5_note_21 : decode cX5_note 21 = .ok (.aload_n 0, 1) := by decide +kernel
theorem dX5_note_22 : decode cX5_note 22 = .ok (.getfield 15, 3) := by decide +kernel
theorem dX5_note_25 : decode cX5_note 25 = .ok (.aload_n 0, 1) := by decide +kernel
theorem dX5_note_26 : decode cX5_note 26 = .ok (.getfield 21, 3) := by decide +kernel
theorem dX5_note_29 : decode cX5_note 29 = .ok (.iload_n 2, 1) := by decide +kernel
theorem dX5_note_30 : decode cX5_note 30 = .ok (.iastore, 1) := by decide +kernel
theorem dX5_note_31 : decode cX5_note 31 = .ok (.aload_n 0, 1) := by decide +kernel
theorem dX5_note_32 : decode cX5_note 32 = .ok (.getfield 18, 3) := by decide +kernel
theorem dX5_note_35 : decode cX5_note 35 = .ok (.aload_n 0, 1) := by decide +kernel
theorem dX5_note_36 : decode cX5_note 36 = .ok (.getfield 21, 3) := by decide +kernel
theorem dX5_note_39 : decode cX5_note 39 = .ok (.iload_n 3, 1) := by decide +kernel
theorem dX5_note_40 : decode cX5_note 40 = .ok (.iastore, 1) := by decide +kernel
theorem dX5_note_41 : decode cX5_note 41 = .ok (.aload_n 0, 1) := by decide +kernel
theorem dX5_note_42 : decode cX5_note 42 = .ok (.dup, 1) := by decide +kernel
theorem dX5_note_43 : decode cX5_note 43 = .ok (.getfield 21, 3) := by decide +kernel
theorem dX5_note_46 : decode cX5_note 46 = .ok (.iconst 1, 1) := by decide +kernel
theorem dX5_note_47 : decode cX5_note 47 = .ok (.iadd, 1) := by decide +kernel
theorem dX5_note_48 : decode cX5_note 48 = .ok (.putfield 21, 3) := by decide +kernel
theorem dX5_note_51 : decode cX5_note 51 = .ok (.iconst 1, 1) := by decide +kernel
theorem dX5_note_52 : decode cX5_note 52 = .ok (.ireturn, 1) := by decide +kernel
theorem dX5_become_0 : decode cX5_become 0 = .ok (.aload_n 0, 1) := by decide +kernel
theorem dX5_become_1 : decode cX5_become 1 = .ok (.aload_n 1, 1) := by decide +kernel
theorem dX5_become_2 : decode cX5_become 2 = .ok (.getfield 21, 3) := by decide +kernel
theorem dX5_become_5 : decode cX5_become 5 = .ok (.putfield 21, 3) := by decide +kernel
theorem dX5_become_8 : decode cX5_become 8 = .ok (.aload_n 1, 1) := by decide +kernel
theorem dX5_become_9 : decode cX5_become 9 = .ok (.getfield 9, 3) := by decide +kernel
theorem dX5_become_12 : decode cX5_become 12 = .ok (.iconst 0, 1) := by decide +kernel
theorem dX5_become_13 : decode cX5_become 13 = .ok (.aload_n 0, 1) := by decide +kernel
theorem dX5_become_14 : decode cX5_become 14 = .ok (.getfield 9, 3) := by decide +kernel
theorem dX5_become_17 : decode cX5_become 17 = .ok (.iconst 0, 1) := by decide +kernel
theorem dX5_become_18 : decode cX5_become 18 = .ok (.bipush 6, 2) := by decide +kernel
theorem dX5_become_20 : decode cX5_become 20 = .ok (.invokestatic 25, 3) := by decide +kernel
theorem dX5_become_23 : decode cX5_become 23 = .ok (.aload_n 1, 1) := by decide +kernel
theorem dX5_become_24 : decode cX5_become 24 = .ok (.getfield 15, 3) := by decide +kernel
theorem dX5_become_27 : decode cX5_become 27 = .ok (.iconst 0, 1) := by decide +kernel
theorem dX5_become_28 : decode cX5_become 28 = .ok (.aload_n 0, 1) := by decide +kernel
theorem dX5_become_29 : decode cX5_become 29 = .ok (.getfield 15, 3) := by decide +kernel
theorem dX5_become_32 : decode cX5_become 32 = .ok (.iconst 0, 1) := by decide +kernel
theorem dX5_become_33 : decode cX5_become 33 = .ok (.bipush 6, 2) := by decide +kernel
theorem dX5_become_35 : decode cX5_become 35 = .ok (.invokestatic 25, 3) := by decide +kernel
theorem dX5_become_38 : decode cX5_become 38 = .ok (.aload_n 1, 1) := by decide +kernel
theorem dX5_become_39 : decode cX5_become 39 = .ok (.getfield 18, 3) := by decide +kernel
theorem dX5_become_42 : decode cX5_become 42 = .ok (.iconst 0, 1) := by decide +kernel
theorem dX5_become_43 : decode cX5_become 43 = .ok (.aload_n 0, 1) := by decide +kernel
theorem dX5_become_44 : decode cX5_become 44 = .ok (.getfield 18, 3) := by decide +kernel
theorem dX5_become_47 : decode cX5_become 47 = .ok (.iconst 0, 1) := by decide +kernel
theorem dX5_become_48 : decode cX5_become 48 = .ok (.bipush 6, 2) := by decide +kernel
theorem dX5_become_50 : decode cX5_become 50 = .ok (.invokestatic 25, 3) := by decide +kernel
theorem dX5_become_53 : decode cX5_become 53 = .ok (.return_, 1) := by decide +kernel
theorem dX5_agreeWith_0 : decode cX5_agreeWith 0 = .ok (.aload_n 0, 1) := by decide +kernel
theorem dX5_agreeWith_1 : decode cX5_agreeWith 1 = .ok (.invokevirtual 31, 3) := by decide +kernel
theorem dX5_agreeWith_4 : decode cX5_agreeWith 4 = .ok (.istore_n 2, 1) := by decide +kernel
theorem dX5_agreeWith_5 : decode cX5_agreeWith 5 = .ok (.iconst 0, 1) := by decide +kernel
theorem dX5_agreeWith_6 : decode cX5_agreeWith 6 = .ok (.istore_n 3, 1) := by decide +kernel
theorem dX5_agreeWith_7 : decode cX5_agreeWith 7 = .ok (.iload_n 3, 1) := by decide +kernel
theorem dX5_agreeWith_8 : decode cX5_agreeWith 8 = .ok (.iload_n 2, 1) := by decide +kernel
theorem dX5_agreeWith_9 : decode cX5_agreeWith 9 = .ok (.if_icmp .gt 29, 3) := by decide +kernel
theorem dX5_agreeWith_12 : decode cX5_agreeWith 12 = .ok (.aload_n 0, 1) := by decide +kernel
theorem dX5_agreeWith_13 : decode cX5_agreeWith 13 = .ok (.iload_n 3, 1) := by decide +kernel
theorem dX5_agreeWith_14 : decode cX5_agreeWith 14 = .ok (.aload_n 1, 1) := by decide +kernel
theorem dX5_agreeWith_15 : decode cX5_agreeWith 15 = .ok (.invokevirtual 35, 3) := by decide +kernel
theorem dX5_agreeWith_18 : decode cX5_agreeWith 18 = .ok (.ifCond .ne 5, 3) := by decide +kernel
theorem dX5_agreeWith_21 : decode cX5_agreeWith 21 = .ok (.iconst 0, 1) := by decide +kernel
theorem dX5_agreeWith_22 : decode cX5_agreeWith 22 = .ok (.ireturn, 1) := by decide +kernel
theorem dX5_agreeWith_23 : decode cX5_agreeWith 23 = .ok (.aload_n 1, 1) := by decide +kernel
theorem dX5_agreeWith_24 : decode cX5_agreeWith 24 = .ok (.aload_n 1, 1) := by decide +kernel
theorem dX5_agreeWith_25 : decode cX5_agreeWith 25 = .ok (.invokevirtual 39, 3) := by decide +kernel
theorem dX5_agreeWith_28 : decode cX5_agreeWith 28 = .ok (.invokevirtual 44, 3) := by decide +kernel
theorem dX5_agreeWith_31 : decode cX5_agreeWith 31 = .ok (.pop, 1) := by decide +kernel
theorem dX5_agreeWith_32 : decode cX5_agreeWith 32 = .ok (.iinc 3 1, 3) := by decide +kernel
theorem dX5_agreeWith_35 : decode cX5_agreeWith 35 = .ok (.goto (-28), 3) := by decide +kernel
theorem dX5_agreeWith_38 : decode cX5_agreeWith 38 = .ok (.iconst 1, 1) := by decide +kernel
theorem dX5_agreeWith_39 : decode cX5_agreeWith 39 = .ok (.ireturn, 1) := by decide +kernel
theorem dX5_lastLook_0 : decode cX5_lastLook 0 = .ok (.iconst (-1), 1) := by decide +kernel
theorem dX5_lastLook_1 : decode cX5_lastLook 1 = .ok (.istore_n 1, 1) := by decide +kernel
theorem dX5_lastLook_2 : decode cX5_lastLook 2 = .ok (.iconst 0, 1) := by decide +kernel
theorem dX5_lastLook_3 : decode cX5_lastLook 3 = .ok (.istore_n 2, 1) := by decide +kernel
theorem dX5_lastLook_4 : decode cX5_lastLook 4 = .ok (.iload_n 2, 1) := by decide +kernel
theorem dX5_lastLook_5 : decode cX5_lastLook 5 = .ok (.aload_n 0, 1) := by decide +kernel
theorem dX5_lastLook_6 : decode cX5_lastLook 6 = .ok (.getfield 21, 3) := by decide +kernel
theorem dX5_lastLook_9 : decode cX5_lastLook 9 = .ok (.if_icmp .ge 20, 3) := by decide +kernel
theorem dX5_lastLook_12 : decode cX5_lastLook 12 = .ok (.iload_n 1, 1) := by decide +kernel
theorem dX5_lastLook_13 : decode cX5_lastLook 13 = .ok (.aload_n 0, 1) := by decide +kernel
theorem dX5_lastLook_14 : decode cX5_lastLook 14 = .ok (.getfield 9, 3) := by decide +kernel
theorem dX5_lastLook_17 : decode cX5_lastLook 17 = .ok (.iload_n 2, 1) := by decide +kernel
theorem dX5_lastLook_18 : decode cX5_lastLook 18 = .ok (.iaload, 1) := by decide +kernel
theorem dX5_lastLook_19 : decode cX5_lastLook 19 = .ok (.invokestatic 48, 3) := by decide +kernel
theorem dX5_lastLook_22 : decode cX5_lastLook 22 = .ok (.istore_n 1, 1) := by decide +kernel
theorem dX5_lastLook_23 : decode cX5_lastLook 23 = .ok (.iinc 2 1, 3) := by decide +kernel
theorem dX5_lastLook_26 : decode cX5_lastLook 26 = .ok (.goto (-22), 3) := by decide +kernel
theorem dX5_lastLook_29 : decode cX5_lastLook 29 = .ok (.iload_n 1, 1) := by decide +kernel
theorem dX5_lastLook_30 : decode cX5_lastLook 30 = .ok (.ireturn, 1) := by decide +kernel
theorem dX5_agreeOn_0 : decode cX5_agreeOn 0 = .ok (.iconst 0, 1) := by decide +kernel
theorem dX5_agreeOn_1 : decode cX5_agreeOn 1 = .ok (.istore_n 3, 1) := by decide +kernel
theorem dX5_agreeOn_2 : decode cX5_agreeOn 2 = .ok (.iload_n 3, 1) := by decide +kernel
theorem dX5_agreeOn_3 : decode cX5_agreeOn 3 = .ok (.aload_n 0, 1) := by decide +kernel
theorem dX5_agreeOn_4 : decode cX5_agreeOn 4 = .ok (.getfield 21, 3) := by decide +kernel
theorem dX5_agreeOn_7 : decode cX5_agreeOn 7 = .ok (.if_icmp .ge 41, 3) := by decide +kernel
theorem dX5_agreeOn_10 : decode cX5_agreeOn 10 = .ok (.aload_n 0, 1) := by decide +kernel
theorem dX5_agreeOn_11 : decode cX5_agreeOn 11 = .ok (.getfield 9, 3) := by decide +kernel
theorem dX5_agreeOn_14 : decode cX5_agreeOn 14 = .ok (.iload_n 3, 1) := by decide +kernel
theorem dX5_agreeOn_15 : decode cX5_agreeOn 15 = .ok (.iaload, 1) := by decide +kernel
theorem dX5_agreeOn_16 : decode cX5_agreeOn 16 = .ok (.iload_n 1, 1) := by decide +kernel
theorem dX5_agreeOn_17 : decode cX5_agreeOn 17 = .ok (.if_icmp .ne 25, 3) := by decide +kernel
theorem dX5_agreeOn_20 : decode cX5_agreeOn 20 = .ok (.aload_n 2, 1) := by decide +kernel
theorem dX5_agreeOn_21 : decode cX5_agreeOn 21 = .ok (.getfield 54, 3) := by decide +kernel
theorem dX5_agreeOn_24 : decode cX5_agreeOn 24 = .ok (.aload_n 0, 1) := by decide +kernel
theorem dX5_agreeOn_25 : decode cX5_agreeOn 25 = .ok (.getfield 15, 3) := by decide +kernel
theorem dX5_agreeOn_28 : decode cX5_agreeOn 28 = .ok (.iload_n 3, 1) := by decide +kernel
theorem dX5_agreeOn_29 : decode cX5_agreeOn 29 = .ok (.iaload, 1) := by decide +kernel
theorem dX5_agreeOn_30 : decode cX5_agreeOn 30 = .ok (.iaload, 1) := by decide +kernel
theorem dX5_agreeOn_31 : decode cX5_agreeOn 31 = .ok (.aload_n 0, 1) := by decide +kernel
theorem dX5_agreeOn_32 : decode cX5_agreeOn 32 = .ok (.getfield 18, 3) := by decide +kernel
theorem dX5_agreeOn_35 : decode cX5_agreeOn 35 = .ok (.iload_n 3, 1) := by decide +kernel
theorem dX5_agreeOn_36 : decode cX5_agreeOn 36 = .ok (.iaload, 1) := by decide +kernel
theorem dX5_agreeOn_37 : decode cX5_agreeOn 37 = .ok (.if_icmp .eq 5, 3) := by decide +kernel
theorem dX5_agreeOn_40 : decode cX5_agreeOn 40 = .ok (.iconst 0, 1) := by decide +kernel
theorem dX5_agreeOn_41 : decode cX5_agreeOn 41 = .ok (.ireturn, 1) := by decide +kernel
theorem dX5_agreeOn_42 : decode cX5_agreeOn 42 = .ok (.iinc 3 1, 3) := by decide +kernel
theorem dX5_agreeOn_45 : decode cX5_agreeOn 45 = .ok (.goto (-43), 3) := by decide +kernel
theorem dX5_agreeOn_48 : decode cX5_agreeOn 48 = .ok (.iconst 1, 1) := by decide +kernel
theorem dX5_agreeOn_49 : decode cX5_agreeOn 49 = .ok (.ireturn, 1) := by decide +kernel
theorem dX6_init_0 : decode cX6_init 0 = .ok (.aload_n 0, 1) := by decide +kernel
theorem dX6_init_1 : decode cX6_init 1 = .ok (.invokespecial 3, 3) := by decide +kernel
theorem dX6_init_4 : decode cX6_init 4 = .ok (.aload_n 0, 1) := by decide +kernel
theorem dX6_init_5 : decode cX6_init 5 = .ok (.sipush 160, 3) := by decide +kernel
theorem dX6_init_8 : decode cX6_init 8 = .ok (.newarray .int, 2) := by decide +kernel
theorem dX6_init_10 : decode cX6_init 10 = .ok (.putfield 11, 3) := by decide +kernel
theorem dX6_init_13 : decode cX6_init 13 = .ok (.return_, 1) := by decide +kernel
theorem dX6_append_0 : decode cX6_append 0 = .ok (.aload_n 0, 1) := by decide +kernel
theorem dX6_append_1 : decode cX6_append 1 = .ok (.getfield 15, 3) := by decide +kernel
theorem dX6_append_4 : decode cX6_append 4 = .ok (.sipush 160, 3) := by decide +kernel
theorem dX6_append_7 : decode cX6_append 7 = .ok (.if_icmp .lt 5, 3) := by decide +kernel
theorem dX6_append_10 : decode cX6_append 10 = .ok (.iconst 0, 1) := by decide +kernel
theorem dX6_append_11 : decode cX6_append 11 = .ok (.ireturn, 1) := by decide +kernel
theorem dX6_append_12 : decode cX6_append 12 = .ok (.aload_n 0, 1) := by decide +kernel
theorem dX6_append_13 : decode cX6_append 13 = .ok (.getfield 11, 3) := by decide +kernel
theorem dX6_append_16 : decode cX6_append 16 = .ok (.aload_n 0, 1) := by decide +kernel
theorem dX6_append_17 : decode cX6_append 17 = .ok (.getfield 15, 3) := by decide +kernel
theorem dX6_append_20 : decode cX6_append 20 = .ok (.iload_n 1, 1) := by decide +kernel
theorem dX6_append_21 : decode cX6_append 21 = .ok (.iastore, 1) := by decide +kernel
theorem dX6_append_22 : decode cX6_append 22 = .ok (.aload_n 0, 1) := by decide +kernel
theorem dX6_append_23 : decode cX6_append 23 = .ok (.dup, 1) := by decide +kernel
theorem dX6_append_24 : decode cX6_append 24 = .ok (.getfield 15, 3) := by decide +kernel
theorem dX6_append_27 : decode cX6_append 27 = .ok (.iconst 1, 1) := by decide +kernel
theorem dX6_append_28 : decode cX6_append 28 = .ok (.iadd, 1) := by decide +kernel
theorem dX6_append_29 : decode cX6_append 29 = .ok (.putfield 15, 3) := by decide +kernel
theorem dX6_append_32 : decode cX6_append 32 = .ok (.iconst 1, 1) := by decide +kernel
theorem dX6_append_33 : decode cX6_append 33 = .ok (.ireturn, 1) := by decide +kernel
theorem dX6_rewind_0 : decode cX6_rewind 0 = .ok (.aload_n 0, 1) := by decide +kernel
theorem dX6_rewind_1 : decode cX6_rewind 1 = .ok (.iconst 0, 1) := by decide +kernel
theorem dX6_rewind_2 : decode cX6_rewind 2 = .ok (.putfield 19, 3) := by decide +kernel
theorem dX6_rewind_5 : decode cX6_rewind 5 = .ok (.return_, 1) := by decide +kernel
theorem dX6_readToken_0 : decode cX6_readToken 0 = .ok (.aload_n 0, 1) := by decide +kernel
theorem dX6_readToken_1 : decode cX6_readToken 1 = .ok (.getfield 19, 3) := by decide +kernel
theorem dX6_readToken_4 : decode cX6_readToken 4 = .ok (.aload_n 0, 1) := by decide +kernel
theorem dX6_readToken_5 : decode cX6_readToken 5 = .ok (.getfield 15, 3) := by decide +kernel
theorem dX6_readToken_8 : decode cX6_readToken 8 = .ok (.if_icmp .ge 30, 3) := by decide +kernel
theorem dX6_readToken_11 : decode cX6_readToken 11 = .ok (.aload_n 0, 1) := by decide +kernel
theorem dX6_readToken_12 : decode cX6_readToken 12 = .ok (.getfield 11, 3) := by decide +kernel
theorem dX6_readToken_15 : decode cX6_readToken 15 = .ok (.aload_n 0, 1) := by decide +kernel
theorem dX6_readToken_16 : decode cX6_readToken 16 = .ok (.getfield 19, 3) := by decide +kernel
theorem dX6_readToken_19 : decode cX6_readToken 19 = .ok (.iaload, 1) := by decide +kernel
theorem dX6_readToken_20 : decode cX6_readToken 20 = .ok (.bipush 32, 2) := by decide +kernel
theorem dX6_readToken_22 : decode cX6_readToken 22 = .ok (.if_icmp .ne 16, 3) := by decide +kernel
theorem dX6_readToken_25 : decode cX6_readToken 25 = .ok (.aload_n 0, 1) := by decide +kernel
theorem dX6_readToken_26 : decode cX6_readToken 26 = .ok (.dup, 1) := by decide +kernel
theorem dX6_readToken_27 : decode cX6_readToken 27 = .ok (.getfield 19, 3) := by decide +kernel
theorem dX6_readToken_30 : decode cX6_readToken 30 = .ok (.iconst 1, 1) := by decide +kernel
theorem dX6_readToken_31 : decode cX6_readToken 31 = .ok (.iadd, 1) := by decide +kernel
theorem dX6_readToken_32 : decode cX6_readToken 32 = .ok (.putfield 19, 3) := by decide +kernel
theorem dX6_readToken_35 : decode cX6_readToken 35 = .ok (.goto (-35), 3) := by decide +kernel
theorem dX6_readToken_38 : decode cX6_readToken 38 = .ok (.aload_n 0, 1) := by decide +kernel
theorem dX6_readToken_39 : decode cX6_readToken 39 = .ok (.aload_n 0, 1) := by decide +kernel
theorem dX6_readToken_40 : decode cX6_readToken 40 = .ok (.getfield 19, 3) := by decide +kernel
theorem dX6_readToken_43 : decode cX6_readToken 43 = .ok (.putfield 22, 3) := by decide +kernel
theorem dX6_readToken_46 : decode cX6_readToken 46 = .ok (.aload_n 0, 1) := by decide +kernel
theorem dX6_readToken_47 : decode cX6_readToken 47 = .ok (.aload_n 0, 1) := by decide +kernel
theorem dX6_readToken_48 : decode cX6_readToken 48 = .ok (.getfield 19, 3) := by decide +kernel
theorem dX6_readToken_51 : decode cX6_readToken 51 = .ok (.aload_n 0, 1) := by decide +kernel
theorem dX6_readToken_52 : decode cX6_readToken 52 = .ok (.getfield 15, 3) := by decide +kernel
theorem dX6_readToken_55 : decode cX6_readToken 55 = .ok (.if_icmp .ge 18, 3) := by decide +kernel
theorem dX6_readToken_58 : decode cX6_readToken 58 = .ok (.aload_n 0, 1) := by decide +kernel
theorem dX6_readToken_59 : decode cX6_readToken 59 = .ok (.getfield 11, 3) := by decide +kernel
theorem dX6_readToken_62 : decode cX6_readToken 62 = .ok (.aload_n 0, 1) := by decide +kernel
theorem dX6_readToken_63 : decode cX6_readToken 63 = .ok (.getfield 19, 3) := by decide +kernel
theorem dX6_readToken_66 : decode cX6_readToken 66 = .ok (.iaload, 1) := by decide +kernel
theorem dX6_readToken_67 : decode cX6_readToken 67 = .ok (.invokestatic 25, 3) := by decide +kernel
theorem dX6_readToken_70 : decode cX6_readToken 70 = .ok (.goto 4, 3) := by decide +kernel
theorem dX6_readToken_73 : decode cX6_readToken 73 = .ok (.iconst 4, 1) := by decide +kernel
theorem dX6_readToken_74 : decode cX6_readToken 74 = .ok (.putfield 29, 3) := by decide +kernel
theorem dX6_readToken_77 : decode cX6_readToken 77 = .ok (.aload_n 0, 1) := by decide +kernel
theorem dX6_readToken_78 : decode cX6_readToken 78 = .ok (.getfield 29, 3) := by decide +kernel
theorem dX6_readToken_81 : decode cX6_readToken 81 = .ok (.iconst 3, 1) := by decide +kernel
theorem dX6_readToken_82 : decode cX6_readToken 82 = .ok (.if_icmp .ne 16, 3) := by decide +kernel
theorem dX6_readToken_85 : decode cX6_readToken 85 = .ok (.aload_n 0, 1) := by decide +kernel
theorem dX6_readToken_86 : decode cX6_readToken 86 = .ok (.dup, 1) := by decide +kernel
theorem dX6_readToken_87 : decode cX6_readToken 87 = .ok (.getfield 19, 3) := by decide +kernel
theorem dX6_readToken_90 : decode cX6_readToken 90 = .ok (.iconst 1, 1) := by decide +kernel
theorem dX6_readToken_91 : decode cX6_readToken 91 = .ok (.iadd, 1) := by decide +kernel
theorem dX6_readToken_92 : decode cX6_readToken 92 = .ok (.putfield 19, 3) := by decide +kernel
theorem dX6_readToken_95 : decode cX6_readToken 95 = .ok (.goto 62, 3) := by decide +kernel
theorem dX6_readToken_98 : decode cX6_readToken 98 = .ok (.aload_n 0, 1) := by decide +kernel
theorem dX6_readToken_99 : decode cX6_readToken 99 = .ok (.getfield 29, 3) := by decide +kernel
theorem dX6_readToken_102 : decode cX6_readToken 102 = .ok (.iconst 1, 1) := by decide +kernel
theorem dX6_readToken_103 : decode cX6_readToken 103 = .ok (.if_icmp .eq 11, 3) := by decide +kernel
theorem dX6_readToken_106 : decode cX6_readToken 106 = .ok (.aload_n 0, 1) := by decide +kernel
theorem dX6_readToken_107 : decode cX6_readToken 107 = .ok (.getfield 29, 3) := by decide +kernel
theorem dX6_readToken_110 : decode cX6_readToken 110 = .ok (.iconst 2, 1) := by decide +kernel
theorem dX6_readToken_111 : decode cX6_readToken 111 = .ok (.if_icmp .ne 46, 3) := by decide +kernel
theorem dX6_readToken_114 : decode cX6_readToken 114 = .ok (.aload_n 0, 1) := by decide +kernel
theorem dX6_readToken_115 : decode cX6_readToken 115 = .ok (.getfield 19, 3) := by decide +kernel
theorem dX6_readToken_118 : decode cX6_readToken 118 = .ok (.aload_n 0, 1) := by decide +kernel
theorem dX6_readToken_119 : decode cX6_readToken 119 = .ok (.getfield 15, 3) := by decide +kernel
theorem dX6_readToken_122 : decode cX6_readToken 122 = .ok (.if_icmp .ge 35, 3) := by decide +kernel
theorem dX6_readToken_125 : decode cX6_readToken 125 = .ok (.aload_n 0, 1) := by decide +kernel
theorem dX6_readToken_126 : decode cX6_readToken 126 = .ok (.getfield 11, 3) := by decide +kernel
theorem dX6_readToken_129 : decode cX6_readToken 129 = .ok (.aload_n 0, 1) := by decide +kernel
theorem dX6_readToken_130 : decode cX6_readToken 130 = .ok (.getfield 19, 3) := by decide +kernel
theorem dX6_readToken_133 : decode cX6_readToken 133 = .ok (.iaload, 1) := by decide +kernel
theorem dX6_readToken_134 : decode cX6_readToken 134 = .ok (.invokestatic 25, 3) := by decide +kernel
theorem dX6_readToken_137 : decode cX6_readToken 137 = .ok (.aload_n 0, 1) := by decide +kernel
theorem dX6_readToken_138 : decode cX6_readToken 138 = .ok (.getfield 29, 3) := by decide +kernel
theorem dX6_readToken_141 : decode cX6_readToken 141 = .ok (.if_icmp .ne 16, 3) := by decide +kernel
theorem dX6_readToken_144 : decode cX6_readToken 144 = .ok (.aload_n 0, 1) := by decide +kernel
theorem dX6_readToken_145 : decode cX6_readToken 145 = .ok (.dup, 1) := by decide +kernel
theorem dX6_readToken_146 : decode cX6_readToken 146 = .ok (.getfield 19, 3) := by decide +kernel
theorem dX6_readToken_149 : decode cX6_readToken 149 = .ok (.iconst 1, 1) := by decide +kernel
theorem dX6_readToken_150 : decode cX6_readToken 150 = .ok (.iadd, 1) := by decide +kernel
theorem dX6_readToken_151 : decode cX6_readToken 151 = .ok (.putfield 19, 3) := by decide +kernel
theorem dX6_readToken_154 : decode cX6_readToken 154 = .ok (.goto (-40), 3) := by decide +kernel
theorem dX6_readToken_157 : decode cX6_readToken 157 = .ok (.aload_n 0, 1) := by decide +kernel
theorem dX6_readToken_158 : decode cX6_readToken 158 = .ok (.getfield 29, 3) := by decide +kernel
theorem dX6_readToken_161 : decode cX6_readToken 161 = .ok (.iconst 2, 1) := by decide +kernel
theorem dX6_readToken_162 : decode cX6_readToken 162 = .ok (.if_icmp .ne 7, 3) := by decide +kernel
theorem dX6_readToken_165 : decode cX6_readToken 165 = .ok (.aload_n 0, 1) := by decide +kernel
theorem dX6_readToken_166 : decode cX6_readToken 166 = .ok (.invokevirtual 32, 3) := by decide +kernel
theorem dX6_readToken_169 : decode cX6_readToken 169 = .ok (.return_, 1) := by decide +kernel
theorem dX6_readFigures_0 : decode cX6_readFigures 0 = .ok (.aload_n 0, 1) := by decide +kernel
theorem dX6_readFigures_1 : decode cX6_readFigures 1 = .ok (.getfield 19, 3) := by decide +kernel
theorem dX6_readFigures_4 : decode cX6_readFigures 4 = .ok (.aload_n 0, 1) := by decide +kernel
theorem dX6_readFigures_5 : decode cX6_readFigures 5 = .ok (.getfield 22, 3) := by decide +kernel
theorem dX6_readFigures_8 : decode cX6_readFigures 8 = .ok (.isub, 1) := by decide +kernel
theorem dX6_readFigures_9 : decode cX6_readFigures 9 = .ok (.iconst 2, 1) := by decide +kernel
theorem dX6_readFigures_10 : decode cX6_readFigures 10 = .ok (.if_icmp .le 9, 3) := by decide +kernel
theorem dX6_readFigures_13 : decode cX6_readFigures 13 = .ok (.aload_n 0, 1) := by decide +kernel
theorem dX6_readFigures_14 : decode cX6_readFigures 14 = .ok (.iconst 0, 1) := by decide +kernel
theorem dX6_readFigures_15 : decode cX6_readFigures 15 = .ok (.putfield 29, 3) := by decide +kernel
theorem dX6_readFigures_18 : decode cX6_readFigures 18 = .ok (.return_, 1) := by decide +kernel
theorem dX6_readFigures_19 : decode cX6_readFigures 19 = .ok (.aload_n 0, 1) := by decide +kernel
theorem dX6_readFigures_20 : decode cX6_readFigures 20 = .ok (.iconst 0, 1) := by decide +kernel
theorem dX6_readFigures_21 : decode cX6_readFigures 21 = .ok (.putfield 35, 3) := by decide +kernel
theorem dX6_readFigures_24 : decode cX6_readFigures 24 = .ok (.aload_n 0, 1) := by decide +kernel
theorem dX6_readFigures_25 : decode cX6_readFigures 25 = .ok (.getfield 22, 3) := by decide +kernel
theorem dX6_readFigures_28 : decode cX6_readFigures 28 = .ok (.istore_n 1, 1) := by decide +kernel
theorem dX6_readFigures_29 : decode cX6_readFigures 29 = .ok (.iload_n 1, 1) := by decide +kernel
theorem dX6_readFigures_30 : decode cX6_readFigures 30 = .ok (.aload_n 0, 1) := by decide +kernel
theorem dX6_readFigures_31 : decode cX6_readFigures 31 = .ok (.getfield 19, 3) := by decide +kernel
theorem dX6_readFigures_34 : decode cX6_readFigures 34 = .ok (.if_icmp .ge 30, 3) := by decide +kernel
theorem dX6_readFigures_37 : decode cX6_readFigures 37 = .ok (.aload_n 0, 1) := by decide +kernel
theorem dX6_readFigures_38 : decode cX6_readFigures 38 = .ok (.aload_n 0, 1) := by decide +kernel
theorem dX6_readFigures_39 : decode cX6_readFigures 39 = .ok (.getfield 35, 3) := by decide +kernel
theorem dX6_readFigures_42 : decode cX6_readFigures 42 = .ok (.bipush 10, 2) := by decide +kernel
theorem dX6_readFigures_44 : decode cX6_readFigures 44 = .ok (.imul, 1) := by decide +kernel
theorem dX6_readFigures_45 : decode cX6_readFigures 45 = .ok (.aload_n 0, 1) := by decide +kernel
theorem dX6_readFigures_46 : decode cX6_readFigures 46 = .ok (.getfield 11, 3) := by decide +kernel
theorem dX6_readFigures_49 : decode cX6_readFigures 49 = .ok (.iload_n 1, 1) := by decide +kernel
theorem dX6_readFigures_50 : decode cX6_readFigures 50 = .ok (.iaload, 1) := by decide +kernel
theorem dX6_readFigures_51 : decode cX6_readFigures 51 = .ok (.iadd, 1) := by decide +kernel
theorem dX6_readFigures_52 : decode cX6_readFigures 52 = .ok (.bipush 48, 2) := by decide +kernel
theorem dX6_readFigures_54 : decode cX6_readFigures 54 = .ok (.isub, 1) := by decide +kernel
theorem dX6_readFigures_55 : decode cX6_readFigures 55 = .ok (.putfield 35, 3) := by decide +kernel
theorem dX6_readFigures_58 : decode cX6_readFigures 58 = .ok (.iinc 1 1, 3) := by decide +kernel
theorem dX6_readFigures_61 : decode cX6_readFigures 61 = .ok (.goto (-32), 3) := by decide +kernel
theorem dX6_readFigures_64 : decode cX6_readFigures 64 = .ok (.return_, 1) := by decide +kernel
theorem dX6_tokenWith_0 : decode cX6_tokenWith 0 = .ok (.iload_n 0, 1) := by decide +kernel
theorem dX6_tokenWith_1 : decode cX6_tokenWith 1 = .ok (.bipush 97, 2) := by decide +kernel
theorem dX6_tokenWith_3 : decode cX6_tokenWith 3 = .ok (.if_icmp .lt 11, 3) := by decide +kernel
theorem dX6_tokenWith_6 : decode cX6_tokenWith 6 = .ok (.iload_n 0, 1) := by decide +kernel
theorem dX6_tokenWith_7 : decode cX6_tokenWith 7 = .ok (.bipush 122, 2) := by decide +kernel
theorem dX6_tokenWith_9 : decode cX6_tokenWith 9 = .ok (.if_icmp .gt 5, 3) := by decide +kernel
theorem dX6_tokenWith_12 : decode cX6_tokenWith 12 = .ok (.iconst 1, 1) := by decide +kernel
theorem dX6_tokenWith_13 : decode cX6_tokenWith 13 = .ok (.ireturn, 1) := by decide +kernel
theorem dX6_tokenWith_14 : decode cX6_tokenWith 14 = .ok (.iload_n 0, 1) := by decide +kernel
theorem dX6_tokenWith_15 : decode cX6_tokenWith 15 = .ok (.bipush 48, 2) := by decide +kernel
theorem dX6_tokenWith_17 : decode cX6_tokenWith 17 = .ok (.if_icmp .lt 11, 3) := by decide +kernel
theorem dX6_tokenWith_20 : decode cX6_tokenWith 20 = .ok (.iload_n 0, 1) := by decide +kernel
theorem dX6_tokenWith_21 : decode cX6_tokenWith 21 = .ok (.bipush 57, 2) := by decide +kernel
theorem dX6_tokenWith_23 : decode cX6_tokenWith 23 = .ok (.if_icmp .gt 5, 3) := by decide +kernel
theorem dX6_tokenWith_26 : decode cX6_tokenWith 26 = .ok (.iconst 2, 1) := by decide +kernel
theorem dX6_tokenWith_27 : decode cX6_tokenWith 27 = .ok (.ireturn, 1) := by decide +kernel
theorem dX6_tokenWith_28 : decode cX6_tokenWith 28 = .ok (.iload_n 0, 1) := by decide +kernel
theorem dX6_tokenWith_29 : decode cX6_tokenWith 29 = .ok (.bipush 59, 2) := by decide +kernel
theorem dX6_tokenWith_31 : decode cX6_tokenWith 31 = .ok (.if_icmp .ne 7, 3) := by decide +kernel
theorem dX6_tokenWith_34 : decode cX6_tokenWith 34 = .ok (.iconst 3, 1) := by decide +kernel
theorem dX6_tokenWith_35 : decode cX6_tokenWith 35 = .ok (.goto 4, 3) := by decide +kernel
theorem dX6_tokenWith_38 : decode cX6_tokenWith 38 = .ok (.iconst 0, 1) := by decide +kernel
theorem dX6_tokenWith_39 : decode cX6_tokenWith 39 = .ok (.ireturn, 1) := by decide +kernel
theorem dX6_word_0 : decode cX6_word 0 = .ok (.iconst 0, 1) := by decide +kernel
theorem dX6_word_1 : decode cX6_word 1 = .ok (.istore_n 1, 1) := by decide +kernel
theorem dX6_word_2 : decode cX6_word 2 = .ok (.iload_n 1, 1) := by decide +kernel
theorem dX6_word_3 : decode cX6_word 3 = .ok (.bipush 10, 2) := by decide +kernel
theorem dX6_word_5 : decode cX6_word 5 = .ok (.if_icmp .ge 22, 3) := by decide +kernel
theorem dX6_word_8 : decode cX6_word 8 = .ok (.aload_n 0, 1) := by decide +kernel
theorem dX6_word_9 : decode cX6_word 9 = .ok (.iload_n 1, 1) := by decide +kernel
theorem dX6_word_10 : decode cX6_word 10 = .ok (.invokestatic 38, 3) := by decide +kernel
theorem dX6_word_13 : decode cX6_word 13 = .ok (.invokevirtual 42, 3) := by decide +kernel
theorem dX6_word_16 : decode cX6_word 16 = .ok (.ifCond .eq 5, 3) := by decide +kernel
theorem dX6_word_19 : decode cX6_word 19 = .ok (.iload_n 1, 1) := by decide +kernel
theorem dX6_word_20 : decode cX6_word 20 = .ok (.ireturn, 1) := by decide +kernel
theorem dX6_word_21 : decode cX6_word 21 = .ok (.iinc 1 1, 3) := by decide +kernel
theorem dX6_word_24 : decode cX6_word 24 = .ok (.goto (-22), 3) := by decide +kernel
theorem dX6_word_27 : decode cX6_word 27 = .ok (.bipush (-4), 2) := by decide +kernel
theorem dX6_word_29 : decode cX6_word 29 = .ok (.ireturn, 1) := by decide +kernel
theorem dX6_wordOf_0 : decode cX6_wordOf 0 = .ok (.iload_n 0, 1) := by decide +kernel
theorem dX6_wordOf_1 : decode cX6_wordOf 1 = .ok (.tableswitch 78 0 8 #[51, 54, 57, 60, 63, 66, 69, 72, 75], 51) := by decide +kernel
theorem dX6_wordOf_52 : decode cX6_wordOf 52 = .ok (.ldc 46, 2) := by decide +kernel
theorem dX6_wordOf_54 : decode cX6_wordOf 54 = .ok (.areturn, 1) := by decide +kernel
theorem dX6_wordOf_55 : decode cX6_wordOf 55 = .ok (.ldc 48, 2) := by decide +kernel
theorem dX6_wordOf_57 : decode cX6_wordOf 57 = .ok (.areturn, 1) := by decide +kernel
theorem dX6_wordOf_58 : decode cX6_wordOf 58 = .ok (.ldc 50, 2) := by decide +kernel
theorem dX6_wordOf_60 : decode cX6_wordOf 60 = .ok (.areturn, 1) := by decide +kernel
theorem dX6_wordOf_61 : decode cX6_wordOf 61 = .ok (.ldc 52, 2) := by decide +kernel
theorem dX6_wordOf_63 : decode cX6_wordOf 63 = .ok (.areturn, 1) := by decide +kernel
theorem dX6_wordOf_64 : decode cX6_wordOf 64 = .ok (.ldc 54, 2) := by decide +kernel
theorem dX6_wordOf_66 : decode cX6_wordOf 66 = .ok (.areturn, 1) := by decide +kernel
theorem dX6_wordOf_67 : decode cX6_wordOf 67 = .ok (.ldc 56, 2) := by decide +kernel
theorem dX6_wordOf_69 : decode cX6_wordOf 69 = .ok (.areturn, 1) := by decide +kernel
theorem dX6_wordOf_70 : decode cX6_wordOf 70 = .ok (.ldc 58, 2) := by decide +kernel
theorem dX6_wordOf_72 : decode cX6_wordOf 72 = .ok (.areturn, 1) := by decide +kernel
theorem dX6_wordOf_73 : decode cX6_wordOf 73 = .ok (.ldc 60, 2) := by decide +kernel
theorem dX6_wordOf_75 : decode cX6_wordOf 75 = .ok (.areturn, 1) := by decide +kernel
theorem dX6_wordOf_76 : decode cX6_wordOf 76 = .ok (.ldc 62, 2) := by decide +kernel
theorem dX6_wordOf_78 : decode cX6_wordOf 78 = .ok (.areturn, 1) := by decide +kernel
theorem dX6_wordOf_79 : decode cX6_wordOf 79 = .ok (.ldc 64, 2) := by decide +kernel
theorem dX6_wordOf_81 : decode cX6_wordOf 81 = .ok (.areturn, 1) := by decide +kernel
theorem dX6_isSpelt_0 : decode cX6_isSpelt 0 = .ok (.aload_n 1, 1) := by decide +kernel
theorem dX6_isSpelt_1 : decode cX6_isSpelt 1 = .ok (.invokevirtual 66, 3) := by decide +kernel
theorem dX6_isSpelt_4 : decode cX6_isSpelt 4 = .ok (.aload_n 0, 1) := by decide +kernel
theorem dX6_isSpelt_5 : decode cX6_isSpelt 5 = .ok (.getfield 19, 3) := by decide +kernel
theorem dX6_isSpelt_8 : decode cX6_isSpelt 8 = .ok (.aload_n 0, 1) := by decide +kernel
theorem dX6_isSpelt_9 : decode cX6_isSpelt 9 = .ok (.getfield 22, 3) := by decide +kernel
theorem dX6_isSpelt_12 : decode cX6_isSpelt 12 = .ok (.isub, 1) := by decide +kernel
theorem dX6_isSpelt_13 : decode cX6_isSpelt 13 = .ok (.if_icmp .eq 5, 3) := by decide +kernel
theorem dX6_isSpelt_16 : decode cX6_isSpelt 16 = .ok (.iconst 0, 1) := by decide +kernel
theorem dX6_isSpelt_17 : decode cX6_isSpelt 17 = .ok (.ireturn, 1) := by decide +kernel
theorem dX6_isSpelt_18 : decode cX6_isSpelt 18 = .ok (.iconst 0, 1) := by decide +kernel
theorem dX6_isSpelt_19 : decode cX6_isSpelt 19 = .ok (.istore_n 2, 1) := by decide +kernel
theorem dX6_isSpelt_20 : decode cX6_isSpelt 20 = .ok (.iload_n 2, 1) := by decide +kernel
theorem dX6_isSpelt_21 : decode cX6_isSpelt 21 = .ok (.aload_n 1, 1) := by decide +kernel
theorem dX6_isSpelt_22 : decode cX6_isSpelt 22 = .ok (.invokevirtual 66, 3) := by decide +kernel
theorem dX6_isSpelt_25 : decode cX6_isSpelt 25 = .ok (.if_icmp .ge 30, 3) := by decide +kernel
theorem dX6_isSpelt_28 : decode cX6_isSpelt 28 = .ok (.aload_n 0, 1) := by decide +kernel
theorem dX6_isSpelt_29 : decode cX6_isSpelt 29 = .ok (.getfield 11, 3) := by decide +kernel
theorem dX6_isSpelt_32 : decode cX6_isSpelt 32 = .ok (.aload_n 0, 1) := by decide +kernel
theorem dX6_isSpelt_33 : decode cX6_isSpelt 33 = .ok (.getfield 22, 3) := by decide +kernel
theorem dX6_isSpelt_36 : decode cX6_isSpelt 36 = .ok (.iload_n 2, 1) := by decide +kernel
theorem dX6_isSpelt_37 : decode cX6_isSpelt 37 = .ok (.iadd, 1) := by decide +kernel
theorem dX6_isSpelt_38 : decode cX6_isSpelt 38 = .ok (.iaload, 1) := by decide +kernel
theorem dX6_isSpelt_39 : decode cX6_isSpelt 39 = .ok (.aload_n 1, 1) := by decide +kernel
theorem dX6_isSpelt_40 : decode cX6_isSpelt 40 = .ok (.iload_n 2, 1) := by decide +kernel
theorem dX6_isSpelt_41 : decode cX6_isSpelt 41 = .ok (.invokevirtual 71, 3) := by decide +kernel
theorem dX6_isSpelt_44 : decode cX6_isSpelt 44 = .ok (.if_icmp .eq 5, 3) := by decide +kernel
theorem dX6_isSpelt_47 : decode cX6_isSpelt 47 = .ok (.iconst 0, 1) := by decide +kernel
theorem dX6_isSpelt_48 : decode cX6_isSpelt 48 = .ok (.ireturn, 1) := by decide +kernel
theorem dX6_isSpelt_49 : decode cX6_isSpelt 49 = .ok (.iinc 2 1, 3) := by decide +kernel
theorem dX6_isSpelt_52 : decode cX6_isSpelt 52 = .ok (.goto (-32), 3) := by decide +kernel
theorem dX6_isSpelt_55 : decode cX6_isSpelt 55 = .ok (.iconst 1, 1) := by decide +kernel
theorem dX6_isSpelt_56 : decode cX6_isSpelt 56 = .ok (.ireturn, 1) := by decide +kernel
