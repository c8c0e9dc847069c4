theorem dJ0_length_8abf5_0 : decode cJ0_length_8abf5 0 = .ok (.aload_n 0, 1) := by decide +kernel
theorem dJ0_length_8abf5_1 : decode cJ0_length_8abf5 1 = .ok (.getfield 9, 3) := by decide +kernel
theorem dJ0_length_8abf5_4 : decode cJ0_length_8abf5 4 = .ok (.arraylength, 1) := by decide +kernel
theorem dJ0_length_8abf5_5 : decode cJ0_length_8abf5 5 = .ok (.aload_n 0, 1) := by decide +kernel
theorem dJ0_length_8abf5_6 : decode cJ0_length_8abf5 6 = .ok (.invokevirtual 335, 3) := by decide +kernel
theorem dJ0_length_8abf5_9 : decode cJ0_length_8abf5 9 = .ok (.ishr, 1) := by decide +kernel
theorem dJ0_length_8abf5_10 : decode cJ0_length_8abf5 10 = .ok (.ireturn, 1) := by decide +kernel
theorem dJ0_charAt_5068e_0 : decode cJ0_charAt_5068e 0 = .ok (.aload_n 0, 1) := by decide +kernel
theorem dJ0_charAt_5068e_1 : decode cJ0_charAt_5068e 1 = .ok (.invokevirtual 492, 3) := by decide +kernel
theorem dJ0_charAt_5068e_4 : decode cJ0_charAt_5068e 4 = .ok (.ifCond .eq 12, 3) := by decide +kernel
theorem dJ0_charAt_5068e_7 : decode cJ0_charAt_5068e 7 = .ok (.aload_n 0, 1) := by decide +kernel
theorem dJ0_charAt_5068e_8 : decode cJ0_charAt_5068e 8 = .ok (.getfield 9, 3) := by decide +kernel
theorem dJ0_charAt_5068e_11 : decode cJ0_charAt_5068e 11 = .ok (.iload_n 1, 1) := by decide +kernel
theorem dJ0_charAt_5068e_12 : decode cJ0_charAt_5068e 12 = .ok (.invokestatic 495, 3) := by decide +kernel
theorem dJ0_charAt_5068e_15 : decode cJ0_charAt_5068e 15 = .ok (.ireturn, 1) := by decide +kernel
theorem dJ0_charAt_5068e_16 : decode cJ0_charAt_5068e 16 = .ok (.aload_n 0, 1) := by decide +kernel
theorem dJ0_charAt_5068e_17 : decode cJ0_charAt_5068e 17 = .ok (.getfield 9, 3) := by decide +kernel
theorem dJ0_charAt_5068e_20 : decode cJ0_charAt_5068e 20 = .ok (.iload_n 1, 1) := by decide +kernel
theorem dJ0_charAt_5068e_21 : decode cJ0_charAt_5068e 21 = .ok (.invokestatic 498, 3) := by decide +kernel
theorem dJ0_charAt_5068e_24 : decode cJ0_charAt_5068e 24 = .ok (.ireturn, 1) := by decide +kernel
theorem dJ0_coder_7d493_0 : decode cJ0_coder_7d493 0 = .ok (.getstatic 38, 3) := by decide +kernel
theorem dJ0_coder_7d493_3 : decode cJ0_coder_7d493 3 = .ok (.ifCond .eq 10, 3) := by decide +kernel
theorem dJ0_coder_7d493_6 : decode cJ0_coder_7d493 6 = .ok (.aload_n 0, 1) := by decide +kernel
theorem dJ0_coder_7d493_7 : decode cJ0_coder_7d493 7 = .ok (.getfield 15, 3) := by decide +kernel
theorem dJ0_coder_7d493_10 : decode cJ0_coder_7d493 10 = .ok (.goto 4, 3) := by decide +kernel
theorem dJ0_coder_7d493_13 : decode cJ0_coder_7d493 13 = .ok (.iconst 1, 1) := by decide +kernel
theorem dJ0_coder_7d493_14 : decode cJ0_coder_7d493 14 = .ok (.ireturn, 1) := by decide +kernel
theorem dJ0_isLatin1_aae02_0 : decode cJ0_isLatin1_aae02 0 = .ok (.getstatic 38, 3) := by decide +kernel
theorem dJ0_isLatin1_aae02_3 : decode cJ0_isLatin1_aae02 3 = .ok (.ifCond .eq 14, 3) := by decide +kernel
theorem dJ0_isLatin1_aae02_6 : decode cJ0_isLatin1_aae02 6 = .ok (.aload_n 0, 1) := by decide +kernel
theorem dJ0_isLatin1_aae02_7 : decode cJ0_isLatin1_aae02 7 = .ok (.getfield 15, 3) := by decide +kernel
theorem dJ0_isLatin1_aae02_10 : decode cJ0_isLatin1_aae02 10 = .ok (.ifCond .ne 7, 3) := by decide +kernel
theorem dJ0_isLatin1_aae02_13 : decode cJ0_isLatin1_aae02 13 = .ok (.iconst 1, 1) := by decide +kernel
theorem dJ0_isLatin1_aae02_14 : decode cJ0_isLatin1_aae02 14 = .ok (.goto 4, 3) := by decide +kernel
theorem dJ0_isLatin1_aae02_17 : decode cJ0_isLatin1_aae02 17 = .ok (.iconst 0, 1) := by decide +kernel
theorem dJ0_isLatin1_aae02_18 : decode cJ0_isLatin1_aae02 18 = .ok (.ireturn, 1) := by decide +kernel
theorem dJ0_checkIndex_df160_0 : decode cJ0_checkIndex_df160 0 = .ok (.iload_n 0, 1) := by decide +kernel
theorem dJ0_checkIndex_df160_1 : decode cJ0_checkIndex_df160 1 = .ok (.iload_n 1, 1) := by decide +kernel
theorem dJ0_checkIndex_df160_2 : decode cJ0_checkIndex_df160 2 = .ok (.getstatic 1053, 3) := by decide +kernel
theorem dJ0_checkIndex_df160_5 : decode cJ0_checkIndex_df160 5 = .ok (.invokestatic 1059, 3) := by decide +kernel
theorem dJ0_checkIndex_df160_8 : decode cJ0_checkIndex_df160 8 = .ok (.pop, 1) := by decide +kernel
theorem dJ0_checkIndex_df160_9 : decode cJ0_checkIndex_df160 9 = .ok (.return_, 1) := by decide +kernel
theorem dJ1_charAt_3b067_0 : decode cJ1_charAt_3b067 0 = .ok (.iload_n 1, 1) := by decide +kernel
theorem dJ1_charAt_3b067_1 : decode cJ1_charAt_3b067 1 = .ok (.aload_n 0, 1) := by decide +kernel
theorem dJ1_charAt_3b067_2 : decode cJ1_charAt_3b067 2 = .ok (.arraylength, 1) := by decide +kernel
theorem dJ1_charAt_3b067_3 : decode cJ1_charAt_3b067 3 = .ok (.invokestatic 9, 3) := by decide +kernel
theorem dJ1_charAt_3b067_6 : decode cJ1_charAt_3b067 6 = .ok (.aload_n 0, 1) := by decide +kernel
theorem dJ1_charAt_3b067_7 : decode cJ1_charAt_3b067 7 = .ok (.iload_n 1, 1) := by decide +kernel
theorem dJ1_charAt_3b067_8 : decode cJ1_charAt_3b067 8 = .ok (.baload, 1) := by decide +kernel
theorem dJ1_charAt_3b067_9 : decode cJ1_charAt_3b067 9 = .ok (.sipush 255, 3) := by decide +kernel
theorem dJ1_charAt_3b067_12 : decode cJ1_charAt_3b067 12 = .ok (.iand, 1) := by decide +kernel
theorem dJ1_charAt_3b067_13 : decode cJ1_charAt_3b067 13 = .ok (.i2c, 1) := by decide +kernel
theorem dJ1_charAt_3b067_14 : decode cJ1_charAt_3b067 14 = .ok (.ireturn, 1) := by decide +kernel
theorem dJ2_getChar_3b067_0 : decode cJ2_getChar_3b067 0 = .ok (.getstatic 44, 3) := by decide +kernel
theorem dJ2_getChar_3b067_3 : decode cJ2_getChar_3b067 3 = .ok (.ifCond .ne 25, 3) := by decide +kernel
theorem dJ2_getChar_3b067_6 : decode cJ2_getChar_3b067 6 = .ok (.iload_n 1, 1) := by decide +kernel
theorem dJ2_getChar_3b067_7 : decode cJ2_getChar_3b067 7 = .ok (.ifCond .lt 11, 3) := by decide +kernel
theorem dJ2_getChar_3b067_10 : decode cJ2_getChar_3b067 10 = .ok (.iload_n 1, 1) := by decide +kernel
theorem dJ2_getChar_3b067_11 : decode cJ2_getChar_3b067 11 = .ok (.aload_n 0, 1) := by decide +kernel
theorem dJ2_getChar_3b067_12 : decode cJ2_getChar_3b067 12 = .ok (.invokestatic 48, 3) := by decide +kernel
theorem dJ2_getChar_3b067_15 : decode cJ2_getChar_3b067 15 = .ok (.if_icmp .lt 13, 3) := by decide +kernel
theorem dJ2_getChar_3b067_18 : decode cJ2_getChar_3b067 18 = .ok (.new 52, 3) := by decide +kernel
theorem dJ2_getChar_3b067_21 : decode cJ2_getChar_3b067 21 = .ok (.dup, 1) := by decide +kernel
theorem dJ2_getChar_3b067_22 : decode cJ2_getChar_3b067 22 = .ok (.ldc 54, 2) := by decide +kernel
theorem dJ2_getChar_3b067_24 : decode cJ2_getChar_3b067 24 = .ok (.invokespecial 56, 3) := by decide +kernel
theorem dJ2_getChar_3b067_27 : decode cJ2_getChar_3b067 27 = .ok (.athrow, 1) := by decide +kernel
theorem dJ2_getChar_3b067_28 : decode cJ2_getChar_3b067 28 = .ok (.iload_n 1, 1) := by decide +kernel
theorem dJ2_getChar_3b067_29 : decode cJ2_getChar_3b067 29 = .ok (.iconst 1, 1) := by decide +kernel
theorem dJ2_getChar_3b067_30 : decode cJ2_getChar_3b067 30 = .ok (.ishl, 1) := by decide +kernel
theorem dJ2_getChar_3b067_31 : decode cJ2_getChar_3b067 31 = .ok (.istore_n 1, 1) := by decide +kernel
theorem dJ2_getChar_3b067_32 : decode cJ2_getChar_3b067 32 = .ok (.aload_n 0, 1) := by decide +kernel
theorem dJ2_getChar_3b067_33 : decode cJ2_getChar_3b067 33 = .ok (.iload_n 1, 1) := by decide +kernel
theorem dJ2_getChar_3b067_34 : decode cJ2_getChar_3b067 34 = .ok (.iinc 1 1, 3) := by decide +kernel
theorem dJ2_getChar_3b067_37 : decode cJ2_getChar_3b067 37 = .ok (.baload, 1) := by decide +kernel
theorem dJ2_getChar_3b067_38 : decode cJ2_getChar_3b067 38 = .ok (.sipush 255, 3) := by decide +kernel
theorem dJ2_getChar_3b067_41 : decode cJ2_getChar_3b067 41 = .ok (.iand, 1) := by decide +kernel
theorem dJ2_getChar_3b067_42 : decode cJ2_getChar_3b067 42 = .ok (.getstatic 59, 3) := by decide +kernel
theorem dJ2_getChar_3b067_45 : decode cJ2_getChar_3b067 45 = .ok (.ishl, 1) := by decide +kernel
theorem dJ2_getChar_3b067_46 : decode cJ2_getChar_3b067 46 = .ok (.aload_n 0, 1) := by decide +kernel
theorem dJ2_getChar_3b067_47 : decode cJ2_getChar_3b067 47 = .ok (.iload_n 1, 1) := by decide +kernel
theorem dJ2_getChar_3b067_48 : decode cJ2_getChar_3b067 48 = .ok (.baload, 1) := by decide +kernel
theorem dJ2_getChar_3b067_49 : decode cJ2_getChar_3b067 49 = .ok (.sipush 255, 3) := by decide +kernel
theorem dJ2_getChar_3b067_52 : decode cJ2_getChar_3b067 52 = .ok (.iand, 1) := by decide +kernel
theorem dJ2_getChar_3b067_53 : decode cJ2_getChar_3b067 53 = .ok (.getstatic 63, 3) := by decide +kernel
theorem dJ2_getChar_3b067_56 : decode cJ2_getChar_3b067 56 = .ok (.ishl, 1) := by decide +kernel
theorem dJ2_getChar_3b067_57 : decode cJ2_getChar_3b067 57 = .ok (.ior, 1) := by decide +kernel
theorem dJ2_getChar_3b067_58 : decode cJ2_getChar_3b067 58 = .ok (.i2c, 1) := by decide +kernel
theorem dJ2_getChar_3b067_59 : decode cJ2_getChar_3b067 59 = .ok (.ireturn, 1) := by decide +kernel
theorem dJ2_length_9d52b_0 : decode cJ2_length_9d52b 0 = .ok (.aload_n 0, 1) := by decide +kernel
theorem dJ2_length_9d52b_1 : decode cJ2_length_9d52b 1 = .ok (.arraylength, 1) := by decide +kernel
theorem dJ2_length_9d52b_2 : decode cJ2_length_9d52b 2 = .ok (.iconst 1, 1) := by decide +kernel
theorem dJ2_length_9d52b_3 : decode cJ2_length_9d52b 3 = .ok (.ishr, 1) := by decide +kernel
theorem dJ2_length_9d52b_4 : decode cJ2_length_9d52b 4 = .ok (.ireturn, 1) := by decide +kernel
theorem dJ2_charAt_3b067_0 : decode cJ2_charAt_3b067 0 = .ok (.iload_n 1, 1) := by decide +kernel
theorem dJ2_charAt_3b067_1 : decode cJ2_charAt_3b067 1 = .ok (.aload_n 0, 1) := by decide +kernel
theorem dJ2_charAt_3b067_2 : decode cJ2_charAt_3b067 2 = .ok (.invokestatic 67, 3) := by decide +kernel
theorem dJ2_charAt_3b067_5 : decode cJ2_charAt_3b067 5 = .ok (.aload_n 0, 1) := by decide +kernel
theorem dJ2_charAt_3b067_6 : decode cJ2_charAt_3b067 6 = .ok (.iload_n 1, 1) := by decide +kernel
theorem dJ2_charAt_3b067_7 : decode cJ2_charAt_3b067 7 = .ok (.invokestatic 71, 3) := by decide +kernel
theorem dJ2_charAt_3b067_10 : decode cJ2_charAt_3b067 10 = .ok (.ireturn, 1) := by decide +kernel
theorem dJ2_checkIndex_2214a_0 : decode cJ2_checkIndex_2214a 0 = .ok (.iload_n 0, 1) := by decide +kernel
theorem dJ2_checkIndex_2214a_1 : decode cJ2_checkIndex_2214a 1 = .ok (.aload_n 1, 1) := by decide +kernel
theorem dJ2_checkIndex_2214a_2 : decode cJ2_checkIndex_2214a 2 = .ok (.invokestatic 48, 3) := by decide +kernel
theorem dJ2_checkIndex_2214a_5 : decode cJ2_checkIndex_2214a 5 = .ok (.invokestatic 414, 3) := by decide +kernel
theorem dJ2_checkIndex_2214a_8 : decode cJ2_checkIndex_2214a 8 = .ok (.return_, 1) := by decide +kernel
theorem dJ3_checkIndex_8e157_0 : decode cJ3_checkIndex_8e157 0 = .ok (.iload_n 0, 1) := by decide +kernel
theorem dJ3_checkIndex_8e157_1 : decode cJ3_checkIndex_8e157 1 = .ok (.ifCond .lt 8, 3) := by decide +kernel
theorem dJ3_checkIndex_8e157_4 : decode cJ3_checkIndex_8e157 4 = .ok (.iload_n 0, 1) := by decide +kernel
theorem dJ3_checkIndex_8e157_5 : decode cJ3_checkIndex_8e157 5 = .ok (.iload_n 1, 1) := by decide +kernel
theorem dJ3_checkIndex_8e157_6 : decode cJ3_checkIndex_8e157 6 = .ok (.if_icmp .lt 10, 3) := by decide +kernel
theorem dJ3_checkIndex_8e157_9 : decode cJ3_checkIndex_8e157 9 = .ok (.aload_n 2, 1) := by decide +kernel
theorem dJ3_checkIndex_8e157_10 : decode cJ3_checkIndex_8e157 10 = .ok (.iload_n 0, 1) := by decide +kernel
theorem dJ3_checkIndex_8e157_11 : decode cJ3_checkIndex_8e157 11 = .ok (.iload_n 1, 1) := by decide +kernel
theorem dJ3_checkIndex_8e157_12 : decode cJ3_checkIndex_8e157 12 = .ok (.invokestatic 95, 3) := by decide +kernel
theorem dJ3_checkIndex_8e157_15 : decode cJ3_checkIndex_8e157 15 = .ok (.athrow, 1) := by decide +kernel
theorem dJ3_checkIndex_8e157_16 : decode cJ3_checkIndex_8e157 16 = .ok (.iload_n 0, 1) := by decide +kernel
theorem dJ3_checkIndex_8e157_17 : decode cJ3_checkIndex_8e157 17 = .ok (.ireturn, 1) := by decide +kernel
theorem dJ6_bitCount_0f7a4_0 : decode cJ6_bitCount_0f7a4 0 = .ok (.iload_n 0, 1) := by decide +kernel
theorem dJ6_bitCount_0f7a4_1 : decode cJ6_bitCount_0f7a4 1 = .ok (.iload_n 0, 1) := by decide +kernel
theorem dJ6_bitCount_0f7a4_2 : decode cJ6_bitCount_0f7a4 2 = .ok (.iconst 1, 1) := by decide +kernel
theorem dJ6_bitCount_0f7a4_3 : decode cJ6_bitCount_0f7a4 3 = .ok (.iushr, 1) := by decide +kernel
theorem dJ6_bitCount_0f7a4_4 : decode cJ6_bitCount_0f7a4 4 = .ok (.ldc_w 265, 3) := by decide +kernel
theorem dJ6_bitCount_0f7a4_7 : decode cJ6_bitCount_0f7a4 7 = .ok (.iand, 1) := by decide +kernel
theorem dJ6_bitCount_0f7a4_8 : decode cJ6_bitCount_0f7a4 8 = .ok (.isub, 1) := by decide +kernel
theorem dJ6_bitCount_0f7a4_9 : decode cJ6_bitCount_0f7a4 9 = .ok (.istore_n 0, 1) := by decide +kernel
theorem dJ6_bitCount_0f7a4_10 : decode cJ6_bitCount_0f7a4 10 = .ok (.iload_n 0, 1) := by decide +kernel
theorem dJ6_bitCount_0f7a4_11 : decode cJ6_bitCount_0f7a4 11 = .ok (.ldc_w 266, 3) := by decide +kernel
theorem dJ6_bitCount_0f7a4_14 : decode cJ6_bitCount_0f7a4 14 = .ok (.iand, 1) := by decide +kernel
theorem dJ6_bitCount_0f7a4_15 : decode cJ6_bitCount_0f7a4 15 = .ok (.iload_n 0, 1) := by decide +kernel
theorem dJ6_bitCount_0f7a4_16 : decode cJ6_bitCount_0f7a4 16 = .ok (.iconst 2, 1) := by decide +kernel
theorem dJ6_bitCount_0f7a4_17 : decode cJ6_bitCount_0f7a4 17 = .ok (.iushr, 1) := by decide +kernel
theorem dJ6_bitCount_0f7a4_18 : decode cJ6_bitCount_0f7a4 18 = .ok (.ldc_w 266, 3) := by decide +kernel
theorem dJ6_bitCount_0f7a4_21 : decode cJ6_bitCount_0f7a4 21 = .ok (.iand, 1) := by decide +kernel
theorem dJ6_bitCount_0f7a4_22 : decode cJ6_bitCount_0f7a4 22 = .ok (.iadd, 1) := by decide +kernel
theorem dJ6_bitCount_0f7a4_23 : decode cJ6_bitCount_0f7a4 23 = .ok (.istore_n 0, 1) := by decide +kernel
theorem dJ6_bitCount_0f7a4_24 : decode cJ6_bitCount_0f7a4 24 = .ok (.iload_n 0, 1) := by decide +kernel
theorem dJ6_bitCount_0f7a4_25 : decode cJ6_bitCount_0f7a4 25 = .ok (.iload_n 0, 1) := by decide +kernel
theorem dJ6_bitCount_0f7a4_26 : decode cJ6_bitCount_0f7a4 26 = .ok (.iconst 4, 1) := by decide +kernel
theorem dJ6_bitCount_0f7a4_27 : decode cJ6_bitCount_0f7a4 27 = .ok (.iushr, 1) := by decide +kernel
theorem dJ6_bitCount_0f7a4_28 : decode cJ6_bitCount_0f7a4 28 = .ok (.iadd, 1) := by decide +kernel
theorem dJ6_bitCount_0f7a4_29 : decode cJ6_bitCount_0f7a4 29 = .ok (.ldc_w 267, 3) := by decide +kernel
theorem dJ6_bitCount_0f7a4_32 : decode cJ6_bitCount_0f7a4 32 = .ok (.iand, 1) := by decide +kernel
theorem dJ6_bitCount_0f7a4_33 : decode cJ6_bitCount_0f7a4 33 = .ok (.istore_n 0, 1) := by decide +kernel
theorem dJ6_bitCount_0f7a4_34 : decode cJ6_bitCount_0f7a4 34 = .ok (.iload_n 0, 1) := by decide +kernel
theorem dJ6_bitCount_0f7a4_35 : decode cJ6_bitCount_0f7a4 35 = .ok (.iload_n 0, 1) := by decide +kernel
theorem dJ6_bitCount_0f7a4_36 : decode cJ6_bitCount_0f7a4 36 = .ok (.bipush 8, 2) := by decide +kernel
theorem dJ6_bitCount_0f7a4_38 : decode cJ6_bitCount_0f7a4 38 = .ok (.iushr, 1) := by decide +kernel
theorem dJ6_bitCount_0f7a4_39 : decode cJ6_bitCount_0f7a4 39 = .ok (.iadd, 1) := by decide +kernel
theorem dJ6_bitCount_0f7a4_40 : decode cJ6_bitCount_0f7a4 40 = .ok (.istore_n 0, 1) := by decide +kernel
theorem dJ6_bitCount_0f7a4_41 : decode cJ6_bitCount_0f7a4 41 = .ok (.iload_n 0, 1) := by decide +kernel
theorem dJ6_bitCount_0f7a4_42 : decode cJ6_bitCount_0f7a4 42 = .ok (.iload_n 0, 1) := by decide +kernel
theorem dJ6_bitCount_0f7a4_43 : decode cJ6_bitCount_0f7a4 43 = .ok (.bipush 16, 2) := by decide +kernel
theorem dJ6_bitCount_0f7a4_45 : decode cJ6_bitCount_0f7a4 45 = .ok (.iushr, 1) := by decide +kernel
theorem dJ6_bitCount_0f7a4_46 : decode cJ6_bitCount_0f7a4 46 = .ok (.iadd, 1) := by decide +kernel
theorem dJ6_bitCount_0f7a4_47 : decode cJ6_bitCount_0f7a4 47 = .ok (.istore_n 0, 1) := by decide +kernel
theorem dJ6_bitCount_0f7a4_48 : decode cJ6_bitCount_0f7a4 48 = .ok (.iload_n 0, 1) := by decide +kernel
theorem dJ6_bitCount_0f7a4_49 : decode cJ6_bitCount_0f7a4 49 = .ok (.bipush 63, 2) := by decide +kernel
theorem dJ6_bitCount_0f7a4_51 : decode cJ6_bitCount_0f7a4 51 = .ok (.iand, 1) := by decide +kernel
theorem dJ6_bitCount_0f7a4_52 : decode cJ6_bitCount_0f7a4 52 = .ok (.ireturn, 1) := by decide +kernel
theorem dJ9_floorDiv_7cf53_0 : decode cJ9_floorDiv_7cf53 0 = .ok (.iload_n 0, 1) := by decide +kernel
theorem dJ9_floorDiv_7cf53_1 : decode cJ9_floorDiv_7cf53 1 = .ok (.iload_n 1, 1) := by decide +kernel
theorem dJ9_floorDiv_7cf53_2 : decode cJ9_floorDiv_7cf53 2 = .ok (.idiv, 1) := by decide +kernel
theorem dJ9_floorDiv_7cf53_3 : decode cJ9_floorDiv_7cf53 3 = .ok (.istore_n 2, 1) := by decide +kernel
theorem dJ9_floorDiv_7cf53_4 : decode cJ9_floorDiv_7cf53 4 = .ok (.iload_n 0, 1) := by decide +kernel
theorem dJ9_floorDiv_7cf53_5 : decode cJ9_floorDiv_7cf53 5 = .ok (.iload_n 1, 1) := by decide +kernel
theorem dJ9_floorDiv_7cf53_6 : decode cJ9_floorDiv_7cf53 6 = .ok (.ixor, 1) := by decide +kernel
theorem dJ9_floorDiv_7cf53_7 : decode cJ9_floorDiv_7cf53 7 = .ok (.ifCond .ge 14, 3) := by decide +kernel
theorem dJ9_floorDiv_7cf53_10 : decode cJ9_floorDiv_7cf53 10 = .ok (.iload_n 2, 1) := by decide +kernel
theorem dJ9_floorDiv_7cf53_11 : decode cJ9_floorDiv_7cf53 11 = .ok (.iload_n 1, 1) := by decide +kernel
theorem dJ9_floorDiv_7cf53_12 : decode cJ9_floorDiv_7cf53 12 = .ok (.imul, 1) := by decide +kernel
theorem dJ9_floorDiv_7cf53_13 : decode cJ9_floorDiv_7cf53 13 = .ok (.iload_n 0, 1) := by decide +kernel
theorem dJ9_floorDiv_7cf53_14 : decode cJ9_floorDiv_7cf53 14 = .ok (.if_icmp .eq 7, 3) := by decide +kernel
theorem dJ9_floorDiv_7cf53_17 : decode cJ9_floorDiv_7cf53 17 = .ok (.iload_n 2, 1) := by decide +kernel
theorem dJ9_floorDiv_7cf53_18 : decode cJ9_floorDiv_7cf53 18 = .ok (.iconst 1, 1) := by decide +kernel
theorem dJ9_floorDiv_7cf53_19 : decode cJ9_floorDiv_7cf53 19 = .ok (.isub, 1) := by decide +kernel
theorem dJ9_floorDiv_7cf53_20 : decode cJ9_floorDiv_7cf53 20 = .ok (.ireturn, 1) := by decide +kernel
theorem dJ9_floorDiv_7cf53_21 : decode cJ9_floorDiv_7cf53 21 = .ok (.iload_n 2, 1) := by decide +kernel
theorem dJ9_floorDiv_7cf53_22 : decode cJ9_floorDiv_7cf53 22 = .ok (.ireturn, 1) := by decide +kernel
theorem dJ9_floorMod_7cf53_0 : decode cJ9_floorMod_7cf53 0 = .ok (.iload_n 0, 1) := by decide +kernel
theorem dJ9_floorMod_7cf53_1 : decode cJ9_floorMod_7cf53 1 = .ok (.iload_n 1, 1) := by decide +kernel
theorem dJ9_floorMod_7cf53_2 : decode cJ9_floorMod_7cf53 2 = .ok (.irem, 1) := by decide +kernel
theorem dJ9_floorMod_7cf53_3 : decode cJ9_floorMod_7cf53 3 = .ok (.istore_n 2, 1) := by decide +kernel
theorem dJ9_floorMod_7cf53_4 : decode cJ9_floorMod_7cf53 4 = .ok (.iload_n 0, 1) := by decide +kernel
theorem dJ9_floorMod_7cf53_5 : decode cJ9_floorMod_7cf53 5 = .ok (.iload_n 1, 1) := by decide +kernel
theorem dJ9_floorMod_7cf53_6 : decode cJ9_floorMod_7cf53 6 = .ok (.ixor, 1) := by decide +kernel
theorem dJ9_floorMod_7cf53_7 : decode cJ9_floorMod_7cf53 7 = .ok (.ifCond .ge 11, 3) := by decide +kernel
theorem dJ9_floorMod_7cf53_10 : decode cJ9_floorMod_7cf53 10 = .ok (.iload_n 2, 1) := by decide +kernel
theorem dJ9_floorMod_7cf53_11 : decode cJ9_floorMod_7cf53 11 = .ok (.ifCond .eq 7, 3) := by decide +kernel
theorem dJ9_floorMod_7cf53_14 : decode cJ9_floorMod_7cf53 14 = .ok (.iload_n 2, 1) := by decide +kernel
theorem dJ9_floorMod_7cf53_15 : decode cJ9_floorMod_7cf53 15 = .ok (.iload_n 1, 1) := by decide +kernel
theorem dJ9_floorMod_7cf53_16 : decode cJ9_floorMod_7cf53 16 = .ok (.iadd, 1) := by decide +kernel
theorem dJ9_floorMod_7cf53_17 : decode cJ9_floorMod_7cf53 17 = .ok (.ireturn, 1) := by decide +kernel
theorem dJ9_floorMod_7cf53_18 : decode cJ9_floorMod_7cf53 18 = .ok (.iload_n 2, 1) := by decide +kernel
theorem dJ9_floorMod_7cf53_19 : decode cJ9_floorMod_7cf53 19 = .ok (.ireturn, 1) := by decide +kernel
theorem dJ9_abs_0f7a4_0 : decode cJ9_abs_0f7a4 0 = .ok (.iload_n 0, 1) := by decide +kernel
theorem dJ9_abs_0f7a4_1 : decode cJ9_abs_0f7a4 1 = .ok (.ifCond .ge 8, 3) := by decide +kernel
theorem dJ9_abs_0f7a4_4 : decode cJ9_abs_0f7a4 4 = .ok (.iload_n 0, 1) := by decide +kernel
theorem dJ9_abs_0f7a4_5 : decode cJ9_abs_0f7a4 5 = .ok (.ineg, 1) := by decide +kernel
theorem dJ9_abs_0f7a4_6 : decode cJ9_abs_0f7a4 6 = .ok (.goto 4, 3) := by decide +kernel
theorem dJ9_abs_0f7a4_9 : decode cJ9_abs_0f7a4 9 = .ok (.iload_n 0, 1) := by decide +kernel
theorem dJ9_abs_0f7a4_10 : decode cJ9_abs_0f7a4 10 = .ok (.ireturn, 1) := by decide +kernel
theorem dJ9_max_7cf53_0 : decode cJ9_max_7cf53 0 = .ok (.iload_n 0, 1) := by decide +kernel
theorem dJ9_max_7cf53_1 : decode cJ9_max_7cf53 1 = .ok (.iload_n 1, 1) := by decide +kernel
theorem dJ9_max_7cf53_2 : decode cJ9_max_7cf53 2 = .ok (.if_icmp .lt 7, 3) := by decide +kernel
theorem dJ9_max_7cf53_5 : decode cJ9_max_7cf53 5 = .ok (.iload_n 0, 1) := by decide +kernel
theorem dJ9_max_7cf53_6 : decode cJ9_max_7cf53 6 = .ok (.goto 4, 3) := by decide +kernel
theorem dJ9_max_7cf53_9 : decode cJ9_max_7cf53 9 = .ok (.iload_n 1, 1) := by decide +kernel
theorem dJ9_max_7cf53_10 : decode cJ9_max_7cf53 10 = .ok (.ireturn, 1) := by decide +kernel
theorem dJ9_max_f86c9_0 : decode cJ9_max_f86c9 0 = .ok (.lload_n 0, 1) := by decide +kernel
theorem dJ9_max_f86c9_1 : decode cJ9_max_f86c9 1 = .ok (.lload_n 2, 1) := by decide +kernel
theorem dJ9_max_f86c9_2 : decode cJ9_max_f86c9 2 = .ok (.lcmp, 1) := by decide +kernel
theorem dJ9_max_f86c9_3 : decode cJ9_max_f86c9 3 = .ok (.ifCond .lt 7, 3) := by decide +kernel
theorem dJ9_max_f86c9_6 : decode cJ9_max_f86c9 6 = .ok (.lload_n 0, 1) := by decide +kernel
theorem dJ9_max_f86c9_7 : decode cJ9_max_f86c9 7 = .ok (.goto 4, 3) := by decide +kernel
theorem dJ9_max_f86c9_10 : decode cJ9_max_f86c9 10 = .ok (.lload_n 2, 1) := by decide +kernel
theorem dJ9_max_f86c9_11 : decode cJ9_max_f86c9 11 = .ok (.lreturn, 1) := by decide +kernel
theorem dJ9_min_7cf53_0 : decode cJ9_min_7cf53 0 = .ok (.iload_n 0, 1) := by decide +kernel
theorem dJ9_min_7cf53_1 : decode cJ9_min_7cf53 1 = .ok (.iload_n 1, 1) := by decide +kernel
theorem dJ9_min_7cf53_2 : decode cJ9_min_7cf53 2 = .ok (.if_icmp .gt 7, 3) := by decide +kernel
theorem dJ9_min_7cf53_5 : decode cJ9_min_7cf53 5 = .ok (.iload_n 0, 1) := by decide +kernel
theorem dJ9_min_7cf53_6 : decode cJ9_min_7cf53 6 = .ok (.goto 4, 3) := by decide +kernel
theorem dJ9_min_7cf53_9 : decode cJ9_min_7cf53 9 = .ok (.iload_n 1, 1) := by decide +kernel
theorem dJ9_min_7cf53_10 : decode cJ9_min_7cf53 10 = .ok (.ireturn, 1) := by decide +kernel
theorem dJ9_min_f86c9_0 : decode cJ9_min_f86c9 0 = .ok (.lload_n 0, 1) := by decide +kernel
theorem dJ9_min_f86c9_1 : decode cJ9_min_f86c9 1 = .ok (.lload_n 2, 1) := by decide +kernel
theorem dJ9_min_f86c9_2 : decode cJ9_min_f86c9 2 = .ok (.lcmp, 1) := by decide +kernel
theorem dJ9_min_f86c9_3 : decode cJ9_min_f86c9 3 = .ok (.ifCond .gt 7, 3) := by decide +kernel
theorem dJ9_min_f86c9_6 : decode cJ9_min_f86c9 6 = .ok (.lload_n 0, 1) := by decide +kernel
theorem dJ9_min_f86c9_7 : decode cJ9_min_f86c9 7 = .ok (.goto 4, 3) := by decide +kernel
theorem dJ9_min_f86c9_10 : decode cJ9_min_f86c9 10 = .ok (.lload_n 2, 1) := by decide +kernel
theorem dJ9_min_f86c9_11 : decode cJ9_min_f86c9 11 = .ok (.lreturn, 1) := by decide +kernel
theorem dX0_init_0 : decode cX0_init 0 = .ok (.aload_n 0, 1) := by decide +kernel
theorem dX0_init_1 : decode cX0_init 1 = .ok (.invokespecial 3, 3) := by decide +kernel
theorem dX0_init_4 : decode cX0_init 4 = .ok (.aload_n 0, 1) := by decide +kernel
theorem dX0_init_5 : decode cX0_init 5 = .ok (.bipush 9, 2) := by decide +kernel
theorem dX0_init_7 : decode cX0_init 7 = .ok (.newarray .int, 2) := by decide +kernel
theorem dX0_init_9 : decode cX0_init 9 = .ok (.putfield 9, 3) := by decide +kernel
theorem dX0_init_12 : decode cX0_init 12 = .ok (.aload_n 0, 1) := by decide +kernel
theorem dX0_init_13 : decode cX0_init 13 = .ok (.iconst 4, 1) := by decide +kernel
theorem dX0_init_14 : decode cX0_init 14 = .ok (.newarray .int, 2) := by decide +kernel
theorem dX0_init_16 : decode cX0_init 16 = .ok (.putfield 15, 3) := by decide +kernel
theorem dX0_init_19 : decode cX0_init 19 = .ok (.aload_n 0, 1) := by decide +kernel
theorem dX0_init_20 : decode cX0_init 20 = .ok (.iconst 4, 1) := by decide +kernel
theorem dX0_init_21 : decode cX0_init 21 = .ok (.newarray .int, 2) := by decide +kernel
theorem dX0_init_23 : decode cX0_init 23 = .ok (.putfield 18, 3) := by decide +kernel
theorem dX0_init_26 : decode cX0_init 26 = .ok (.return_, 1) := by decide +kernel
theorem dX0_measure_0 : decode cX0_measure 0 = .ok (.aload_n 0, 1) := by decide +kernel
theorem dX0_measure_1 : decode cX0_measure 1 = .ok (.aload_n 1, 1) := by decide +kernel
theorem dX0_measure_2 : decode cX0_measure 2 = .ok (.getfield 21, 3) := by decide +kernel
theorem dX0_measure_5 : decode cX0_measure 5 = .ok (.iconst 4, 1) := by decide +kernel
theorem dX0_measure_6 : decode cX0_measure 6 = .ok (.idiv, 1) := by decide +kernel
theorem dX0_measure_7 : decode cX0_measure 7 = .ok (.putfield 27, 3) := by decide +kernel
theorem dX0_measure_10 : decode cX0_measure 10 = .ok (.aload_n 0, 1) := by decide +kernel
theorem dX0_measure_11 : decode cX0_measure 11 = .ok (.bipush 9, 2) := by decide +kernel
theorem dX0_measure_13 : decode cX0_measure 13 = .ok (.aload_n 0, 1) := by decide +kernel
theorem dX0_measure_14 : decode cX0_measure 14 = .ok (.getfield 27, 3) := by decide +kernel
theorem dX0_measure_17 : decode cX0_measure 17 = .ok (.aload_n 1, 1) := by decide +kernel
theorem dX0_measure_18 : decode cX0_measure 18 = .ok (.getfield 30, 3) := by decide +kernel
theorem dX0_measure_21 : decode cX0_measure 21 = .ok (.iconst 4, 1) := by decide +kernel
theorem dX0_measure_22 : decode cX0_measure 22 = .ok (.idiv, 1) := by decide +kernel
theorem dX0_measure_23 : decode cX0_measure 23 = .ok (.imul, 1) := by decide +kernel
theorem dX0_measure_24 : decode cX0_measure 24 = .ok (.invokestatic 33, 3) := by decide +kernel
theorem dX0_measure_27 : decode cX0_measure 27 = .ok (.putfield 39, 3) := by decide +kernel
theorem dX0_measure_30 : decode cX0_measure 30 = .ok (.iconst 0, 1) := by decide +kernel
theorem dX0_measure_31 : decode cX0_measure 31 = .ok (.istore_n 2, 1) := by decide +kernel
theorem dX0_measure_32 : decode cX0_measure 32 = .ok (.iload_n 2, 1) := by decide +kernel
theorem dX0_measure_33 : decode cX0_measure 33 = .ok (.aload_n 0, 1) := by decide +kernel
theorem dX0_measure_34 : decode cX0_measure 34 = .ok (.getfield 39, 3) := by decide +kernel
theorem dX0_measure_37 : decode cX0_measure 37 = .ok (.if_icmp .ge 31, 3) := by decide +kernel
theorem dX0_measure_40 : decode cX0_measure 40 = .ok (.aload_n 0, 1) := by decide +kernel
theorem dX0_measure_41 : decode cX0_measure 41 = .ok (.getfield 9, 3) := by decide +kernel
theorem dX0_measure_44 : decode cX0_measure 44 = .ok (.iload_n 2, 1) := by decide +kernel
theorem dX0_measure_45 : decode cX0_measure 45 = .ok (.aload_n 1, 1) := by decide +kernel
theorem dX0_measure_46 : decode cX0_measure 46 = .ok (.aload_n 0, 1) := by decide +kernel
theorem dX0_measure_47 : decode cX0_measure 47 = .ok (.iload_n 2, 1) := by decide +kernel
theorem dX0_measure_48 : decode cX0_measure 48 = .ok (.invokevirtual 42, 3) := by decide +kernel
theorem dX0_measure_51 : decode cX0_measure 51 = .ok (.aload_n 0, 1) := by decide +kernel
theorem dX0_measure_52 : decode cX0_measure 52 = .ok (.iload_n 2, 1) := by decide +kernel
theorem dX0_measure_53 : decode cX0_measure 53 = .ok (.invokevirtual 46, 3) := by decide +kernel
theorem dX0_measure_56 : decode cX0_measure 56 = .ok (.iconst 4, 1) := by decide +kernel
theorem dX0_measure_57 : decode cX0_measure 57 = .ok (.iconst 4, 1) := by decide +kernel
theorem dX0_measure_58 : decode cX0_measure 58 = .ok (.invokevirtual 49, 3) := by decide +kernel
theorem dX0_measure_61 : decode cX0_measure 61 = .ok (.iastore, 1) := by decide +kernel
theorem dX0_measure_62 : decode cX0_measure 62 = .ok (.iinc 2 1, 3) := by decide +kernel
theorem dX0_measure_65 : decode cX0_measure 65 = .ok (.goto (-33), 3) := by decide +kernel
theorem dX0_measure_68 : decode cX0_measure 68 = .ok (.aload_n 0, 1) := by decide +kernel
theorem dX0_measure_69 : decode cX0_measure 69 = .ok (.aload_n 0, 1) := by decide +kernel
theorem dX0_measure_70 : decode cX0_measure 70 = .ok (.invokevirtual 52, 3) := by decide +kernel
theorem dX0_measure_73 : decode cX0_measure 73 = .ok (.putfield 56, 3) := by decide +kernel
theorem dX0_measure_76 : decode cX0_measure 76 = .ok (.return_, 1) := by decide +kernel
theorem dX0_leftOf_0 : decode cX0_leftOf 0 = .ok (.aload_n 0, 1) := by decide +kernel
theorem dX0_leftOf_1 : decode cX0_leftOf 1 = .ok (.getfield 27, 3) := by decide +kernel
theorem dX0_leftOf_4 : decode cX0_leftOf 4 = .ok (.ifCond .le 14, 3) := by decide +kernel
theorem dX0_leftOf_7 : decode cX0_leftOf 7 = .ok (.iload_n 1, 1) := by decide +kernel
theorem dX0_leftOf_8 : decode cX0_leftOf 8 = .ok (.aload_n 0, 1) := by decide +kernel
theorem dX0_leftOf_9 : decode cX0_leftOf 9 = .ok (.getfield 27, 3) := by decide +kernel
theorem dX0_leftOf_12 : decode cX0_leftOf 12 = .ok (.irem, 1) := by decide +kernel
theorem dX0_leftOf_13 : decode cX0_leftOf 13 = .ok (.iconst 4, 1) := by decide +kernel
theorem dX0_leftOf_14 : decode cX0_leftOf 14 = .ok (.imul, 1) := by decide +kernel
theorem dX0_leftOf_15 : decode cX0_leftOf 15 = .ok (.goto 4, 3) := by decide +kernel
theorem dX0_leftOf_18 : decode cX0_leftOf 18 = .ok (.iconst 0, 1) := by decide +kernel
theorem dX0_leftOf_19 : decode cX0_leftOf 19 = .ok (.ireturn, 1) := by decide +kernel
theorem dX0_topOf_0 : decode cX0_topOf 0 = .ok (.aload_n 0, 1) := by decide +kernel
theorem dX0_topOf_1 : decode cX0_topOf 1 = .ok (.getfield 27, 3) := by decide +kernel
theorem dX0_topOf_4 : decode cX0_topOf 4 = .ok (.ifCond .le 14, 3) := by decide +kernel
theorem dX0_topOf_7 : decode cX0_topOf 7 = .ok (.iload_n 1, 1) := by decide +kernel
theorem dX0_topOf_8 : decode cX0_topOf 8 = .ok (.aload_n 0, 1) := by decide +kernel
theorem dX0_topOf_9 : decode cX0_topOf 9 = .ok (.getfield 27, 3) := by decide +kernel
theorem dX0_topOf_12 : decode cX0_topOf 12 = .ok (.idiv, 1) := by decide +kernel
theorem dX0_topOf_13 : decode cX0_topOf 13 = .ok (.iconst 4, 1) := by decide +kernel
theorem dX0_topOf_14 : decode cX0_topOf 14 = .ok (.imul, 1) := by decide +kernel
theorem dX0_topOf_15 : decode cX0_topOf 15 = .ok (.goto 4, 3) := by decide +kernel
theorem dX0_topOf_18 : decode cX0_topOf 18 = .ok (.iconst 0, 1) := by decide +kernel
theorem dX0_topOf_19 : decode cX0_topOf 19 = .ok (.ireturn, 1) := by decide +kernel
theorem dX0_isOdd_0 : decode cX0_isOdd 0 = .ok (.iload_n 1, 1) := by decide +kernel
theorem dX0_isOdd_1 : decode cX0_isOdd 1 = .ok (.iconst 0, 1) := by decide +kernel
theorem dX0_isOdd_2 : decode cX0_isOdd 2 = .ok (.aload_n 0, 1) := by decide +kernel
theorem dX0_isOdd_3 : decode cX0_isOdd 3 = .ok (.getfield 39, 3) := by decide +kernel
theorem dX0_isOdd_6 : decode cX0_isOdd 6 = .ok (.iconst 1, 1) := by decide +kernel
theorem dX0_isOdd_7 : decode cX0_isOdd 7 = .ok (.isub, 1) := by decide +kernel
theorem dX0_isOdd_8 : decode cX0_isOdd 8 = .ok (.invokestatic 59, 3) := by decide +kernel
theorem dX0_isOdd_11 : decode cX0_isOdd 11 = .ok (.ifCond .ne 5, 3) := by decide +kernel
theorem dX0_isOdd_14 : decode cX0_isOdd 14 = .ok (.iconst 0, 1) := by decide +kernel
theorem dX0_isOdd_15 : decode cX0_isOdd 15 = .ok (.ireturn, 1) := by decide +kernel
theorem dX0_isOdd_16 : decode cX0_isOdd 16 = .ok (.aload_n 0, 1) := by decide +kernel
theorem dX0_isOdd_17 : decode cX0_isOdd 17 = .ok (.getfield 9, 3) := by decide +kernel
theorem dX0_isOdd_20 : decode cX0_isOdd 20 = .ok (.iload_n 1, 1) := by decide +kernel
theorem dX0_isOdd_21 : decode cX0_isOdd 21 = .ok (.iaload, 1) := by decide +kernel
theorem dX0_isOdd_22 : decode cX0_isOdd 22 = .ok (.iload_n 2, 1) := by decide +kernel
theorem dX0_isOdd_23 : decode cX0_isOdd 23 = .ok (.imul, 1) := by decide +kernel
theorem dX0_isOdd_24 : decode cX0_isOdd 24 = .ok (.aload_n 0, 1) := by decide +kernel
theorem dX0_isOdd_25 : decode cX0_isOdd 25 = .ok (.getfield 56, 3) := by decide +kernel
theorem dX0_isOdd_28 : decode cX0_isOdd 28 = .ok (.if_icmp .lt 18, 3) := by decide +kernel
theorem dX0_isOdd_31 : decode cX0_isOdd 31 = .ok (.aload_n 0, 1) := by decide +kernel
theorem dX0_isOdd_32 : decode cX0_isOdd 32 = .ok (.getfield 56, 3) := by decide +kernel
theorem dX0_isOdd_35 : decode cX0_isOdd 35 = .ok (.iload_n 2, 1) := by decide +kernel
theorem dX0_isOdd_36 : decode cX0_isOdd 36 = .ok (.imul, 1) := by decide +kernel
theorem dX0_isOdd_37 : decode cX0_isOdd 37 = .ok (.aload_n 0, 1) := by decide +kernel
theorem dX0_isOdd_38 : decode cX0_isOdd 38 = .ok (.getfield 9, 3) := by decide +kernel
theorem dX0_isOdd_41 : decode cX0_isOdd 41 = .ok (.iload_n 1, 1) := by decide +kernel
theorem dX0_isOdd_42 : decode cX0_isOdd 42 = .ok (.iaload, 1) := by decide +kernel
theorem dX0_isOdd_43 : decode cX0_isOdd 43 = .ok (.if_icmp .ge 7, 3) := by decide +kernel
theorem dX0_isOdd_46 : decode cX0_isOdd 46 = .ok (.iconst 1, 1) := by decide +kernel
theorem dX0_isOdd_47 : decode cX0_isOdd 47 = .ok (.goto 4, 3) := by decide +kernel
theorem dX0_isOdd_50 : decode cX0_isOdd 50 = .ok (.iconst 0, 1) := by decide +kernel
theorem dX0_isOdd_51 : decode cX0_isOdd 51 = .ok (.ireturn, 1) := by decide +kernel
theorem dX0_countOdd_0 : decode cX0_countOdd 0 = .ok (.iconst 0, 1) := by decide +kernel
theorem dX0_countOdd_1 : decode cX0_countOdd 1 = .ok (.istore_n 2, 1) := by decide +kernel
theorem dX0_countOdd_2 : decode cX0_countOdd 2 = .ok (.iconst 0, 1) := by decide +kernel
theorem dX0_countOdd_3 : decode cX0_countOdd 3 = .ok (.istore_n 3, 1) := by decide +kernel
theorem dX0_countOdd_4 : decode cX0_countOdd 4 = .ok (.iload_n 3, 1) := by decide +kernel
theorem dX0_countOdd_5 : decode cX0_countOdd 5 = .ok (.aload_n 0, 1) := by decide +kernel
theorem dX0_countOdd_6 : decode cX0_countOdd 6 = .ok (.getfield 39, 3) := by decide +kernel
theorem dX0_countOdd_9 : decode cX0_countOdd 9 = .ok (.if_icmp .ge 21, 3) := by decide +kernel
theorem dX0_countOdd_12 : decode cX0_countOdd 12 = .ok (.aload_n 0, 1) := by decide +kernel
theorem dX0_countOdd_13 : decode cX0_countOdd 13 = .ok (.iload_n 3, 1) := by decide +kernel
theorem dX0_countOdd_14 : decode cX0_countOdd 14 = .ok (.iload_n 1, 1) := by decide +kernel
theorem dX0_countOdd_15 : decode cX0_countOdd 15 = .ok (.invokevirtual 63, 3) := by decide +kernel
theorem dX0_countOdd_18 : decode cX0_countOdd 18 = .ok (.ifCond .eq 6, 3) := by decide +kernel
theorem dX0_countOdd_21 : decode cX0_countOdd 21 = .ok (.iinc 2 1, 3) := by decide +kernel
theorem dX0_countOdd_24 : decode cX0_countOdd 24 = .ok (.iinc 3 1, 3) := by decide +kernel
theorem dX0_countOdd_27 : decode cX0_countOdd 27 = .ok (.goto (-23), 3) := by decide +kernel
theorem dX0_countOdd_30 : decode cX0_countOdd 30 = .ok (.iload_n 2, 1) := by decide +kernel
theorem dX0_countOdd_31 : decode cX0_countOdd 31 = .ok (.ireturn, 1) := by decide +kernel
theorem dX0_findMedian_0 : decode cX0_findMedian 0 = .ok (.aload_n 0, 1) := by decide +kernel
theorem dX0_findMedian_1 : decode cX0_findMedian 1 = .ok (.getfield 39, 3) := by decide +kernel
theorem dX0_findMedian_4 : decode cX0_findMedian 4 = .ok (.iconst 1, 1) := by decide +kernel
theorem dX0_findMedian_5 : decode cX0_findMedian 5 = .ok (.isub, 1) := by decide +kernel
theorem dX0_findMedian_6 : decode cX0_findMedian 6 = .ok (.iconst 2, 1) := by decide +kernel
theorem dX0_findMedian_7 : decode cX0_findMedian 7 = .ok (.idiv, 1) := by decide +kernel
theorem dX0_findMedian_8 : decode cX0_findMedian 8 = .ok (.istore_n 1, 1) := by decide +kernel
theorem dX0_findMedian_9 : decode cX0_findMedian 9 = .ok (.iconst 0, 1) := by decide +kernel
theorem dX0_findMedian_10 : decode cX0_findMedian 10 = .ok (.istore_n 2, 1) := by decide +kernel
theorem dX0_findMedian_11 : decode cX0_findMedian 11 = .ok (.iload_n 2, 1) := by decide +kernel
theorem dX0_findMedian_12 : decode cX0_findMedian 12 = .ok (.aload_n 0, 1) := by decide +kernel
theorem dX0_findMedian_13 : decode cX0_findMedian 13 = .ok (.getfield 39, 3) := by decide +kernel
theorem dX0_findMedian_16 : decode cX0_findMedian 16 = .ok (.if_icmp .ge 52, 3) := by decide +kernel
theorem dX0_findMedian_19 : decode cX0_findMedian 19 = .ok (.aload_n 0, 1) := by decide +kernel
theorem dX0_findMedian_20 : decode cX0_findMedian 20 = .ok (.aload_n 0, 1) := by decide +kernel
theorem dX0_findMedian_21 : decode cX0_findMedian 21 = .ok (.getfield 9, 3) := by decide +kernel
theorem dX0_findMedian_24 : decode cX0_findMedian 24 = .ok (.iload_n 2, 1) := by decide +kernel
theorem dX0_findMedian_25 : decode cX0_findMedian 25 = .ok (.iaload, 1) := by decide +kernel
theorem dX0_findMedian_26 : decode cX0_findMedian 26 = .ok (.invokevirtual 67, 3) := by decide +kernel
theorem dX0_findMedian_29 : decode cX0_findMedian 29 = .ok (.istore_n 3, 1) := by decide +kernel
theorem dX0_findMedian_30 : decode cX0_findMedian 30 = .ok (.aload_n 0, 1) := by decide +kernel
theorem dX0_findMedian_31 : decode cX0_findMedian 31 = .ok (.aload_n 0, 1) := by decide +kernel
theorem dX0_findMedian_32 : decode cX0_findMedian 32 = .ok (.getfield 9, 3) := by decide +kernel
theorem dX0_findMedian_35 : decode cX0_findMedian 35 = .ok (.iload_n 2, 1) := by decide +kernel
theorem dX0_findMedian_36 : decode cX0_findMedian 36 = .ok (.iaload, 1) := by decide +kernel
theorem dX0_findMedian_37 : decode cX0_findMedian 37 = .ok (.iconst 1, 1) := by decide +kernel
theorem dX0_findMedian_38 : decode cX0_findMedian 38 = .ok (.iadd, 1) := by decide +kernel
theorem dX0_findMedian_39 : decode cX0_findMedian 39 = .ok (.invokevirtual 67, 3) := by decide +kernel
theorem dX0_findMedian_42 : decode cX0_findMedian 42 = .ok (.istore 4, 2) := by decide +kernel
theorem dX0_findMedian_44 : decode cX0_findMedian 44 = .ok (.iload_n 3, 1) := by decide +kernel
theorem dX0_findMedian_45 : decode cX0_findMedian 45 = .ok (.iload_n 1, 1) := by decide +kernel
theorem dX0_findMedian_46 : decode cX0_findMedian 46 = .ok (.if_icmp .gt 16, 3) := by decide +kernel
theorem dX0_findMedian_49 : decode cX0_findMedian 49 = .ok (.iload_n 1, 1) := by decide +kernel
theorem dX0_findMedian_50 : decode cX0_findMedian 50 = .ok (.iload 4, 2) := by decide +kernel
theorem dX0_findMedian_52 : decode cX0_findMedian 52 = .ok (.if_icmp .ge 10, 3) := by decide +kernel
theorem dX0_findMedian_55 : decode cX0_findMedian 55 = .ok (.aload_n 0, 1) := by decide +kernel
theorem dX0_findMedian_56 : decode cX0_findMedian 56 = .ok (.getfield 9, 3) := by decide +kernel
theorem dX0_findMedian_59 : decode cX0_findMedian 59 = .ok (.iload_n 2, 1) := by decide +kernel
theorem dX0_findMedian_60 : decode cX0_findMedian 60 = .ok (.iaload, 1) := by decide +kernel
theorem dX0_findMedian_61 : decode cX0_findMedian 61 = .ok (.ireturn, 1) := by decide +kernel
theorem dX0_findMedian_62 : decode cX0_findMedian 62 = .ok (.iinc 2 1, 3) := by decide +kernel
theorem dX0_findMedian_65 : decode cX0_findMedian 65 = .ok (.goto (-54), 3) := by decide +kernel
theorem dX0_findMedian_68 : decode cX0_findMedian 68 = .ok (.iconst (-1), 1) := by decide +kernel
theorem dX0_findMedian_69 : decode cX0_findMedian 69 = .ok (.ireturn, 1) := by decide +kernel
theorem dX0_countBelow_0 : decode cX0_countBelow 0 = .ok (.iconst 0, 1) := by decide +kernel
theorem dX0_countBelow_1 : decode cX0_countBelow 1 = .ok (.istore_n 2, 1) := by decide +kernel
theorem dX0_countBelow_2 : decode cX0_countBelow 2 = .ok (.iconst 0, 1) := by decide +kernel
theorem dX0_countBelow_3 : decode cX0_countBelow 3 = .ok (.istore_n 3, 1) := by decide +kernel
theorem dX0_countBelow_4 : decode cX0_countBelow 4 = .ok (.iload_n 3, 1) := by decide +kernel
theorem dX0_countBelow_5 : decode cX0_countBelow 5 = .ok (.aload_n 0, 1) := by decide +kernel
theorem dX0_countBelow_6 : decode cX0_countBelow 6 = .ok (.getfield 39, 3) := by decide +kernel
theorem dX0_countBelow_9 : decode cX0_countBelow 9 = .ok (.if_icmp .ge 22, 3) := by decide +kernel
theorem dX0_countBelow_12 : decode cX0_countBelow 12 = .ok (.aload_n 0, 1) := by decide +kernel
theorem dX0_countBelow_13 : decode cX0_countBelow 13 = .ok (.getfield 9, 3) := by decide +kernel
theorem dX0_countBelow_16 : decode cX0_countBelow 16 = .ok (.iload_n 3, 1) := by decide +kernel
theorem dX0_countBelow_17 : decode cX0_countBelow 17 = .ok (.iaload, 1) := by decide +kernel
theorem dX0_countBelow_18 : decode cX0_countBelow 18 = .ok (.iload_n 1, 1) := by decide +kernel
theorem dX0_countBelow_19 : decode cX0_countBelow 19 = .ok (.if_icmp .ge 6, 3) := by decide +kernel
theorem dX0_countBelow_22 : decode cX0_countBelow 22 = .ok (.iinc 2 1, 3) := by decide +kernel
theorem dX0_countBelow_25 : decode cX0_countBelow 25 = .ok (.iinc 3 1, 3) := by decide +kernel
theorem dX0_countBelow_28 : decode cX0_countBelow 28 = .ok (.goto (-24), 3) := by decide +kernel
theorem dX0_countBelow_31 : decode cX0_countBelow 31 = .ok (.iload_n 2, 1) := by decide +kernel
theorem dX0_countBelow_32 : decode cX0_countBelow 32 = .ok (.ireturn, 1) := by decide +kernel
theorem dX0_steepestOffset_0 : decode cX0_steepestOffset 0 = .ok (.iconst 0, 1) := by decide +kernel
theorem dX0_steepestOffset_1 : decode cX0_steepestOffset 1 = .ok (.istore 7, 2) := by decide +kernel
theorem dX0_steepestOffset_3 : decode cX0_steepestOffset 3 = .ok (.iload 7, 2) := by decide +kernel
theorem dX0_steepestOffset_5 : decode cX0_steepestOffset 5 = .ok (.iconst 4, 1) := by decide +kernel
theorem dX0_steepestOffset_6 : decode cX0_steepestOffset 6 = .ok (.if_icmp .ge 25, 3) := by decide +kernel
theorem dX0_steepestOffset_9 : decode cX0_steepestOffset 9 = .ok (.aload_n 0, 1) := by decide +kernel
theorem dX0_steepestOffset_10 : decode cX0_steepestOffset 10 = .ok (.getfield 15, 3) := by decide +kernel
theorem dX0_steepestOffset_13 : decode cX0_steepestOffset 13 = .ok (.iload 7, 2) := by decide +kernel
theorem dX0_steepestOffset_15 : decode cX0_steepestOffset 15 = .ok (.iconst 0, 1) := by decide +kernel
theorem dX0_steepestOffset_16 : decode cX0_steepestOffset 16 = .ok (.iastore, 1) := by decide +kernel
theorem dX0_steepestOffset_17 : decode cX0_steepestOffset 17 = .ok (.aload_n 0, 1) := by decide +kernel
theorem dX0_steepestOffset_18 : decode cX0_steepestOffset 18 = .ok (.getfield 18, 3) := by decide +kernel
theorem dX0_steepestOffset_21 : decode cX0_steepestOffset 21 = .ok (.iload 7, 2) := by decide +kernel
theorem dX0_steepestOffset_23 : decode cX0_steepestOffset 23 = .ok (.iconst 0, 1) := by decide +kernel
theorem dX0_steepestOffset_24 : decode cX0_steepestOffset 24 = .ok (.iastore, 1) := by decide +kernel
theorem dX0_steepestOffset_25 : decode cX0_steepestOffset 25 = .ok (.iinc 7 1, 3) := by decide +kernel
theorem dX0_steepestOffset_28 : decode cX0_steepestOffset 28 = .ok (.goto (-25), 3) := by decide +kernel
theorem dX0_steepestOffset_31 : decode cX0_steepestOffset 31 = .ok (.iload 6, 2) := by decide +kernel
theorem dX0_steepestOffset_33 : decode cX0_steepestOffset 33 = .ok (.ifCond .eq 9, 3) := by decide +kernel
theorem dX0_steepestOffset_36 : decode cX0_steepestOffset 36 = .ok (.iload_n 3, 1) := by decide +kernel
theorem dX0_steepestOffset_37 : decode cX0_steepestOffset 37 = .ok (.iconst 1, 1) := by decide +kernel
theorem dX0_steepestOffset_38 : decode cX0_steepestOffset 38 = .ok (.iadd, 1) := by decide +kernel
theorem dX0_steepestOffset_39 : decode cX0_steepestOffset 39 = .ok (.goto 4, 3) := by decide +kernel
theorem dX0_steepestOffset_42 : decode cX0_steepestOffset 42 = .ok (.iload_n 3, 1) := by decide +kernel
theorem dX0_steepestOffset_43 : decode cX0_steepestOffset 43 = .ok (.istore 7, 2) := by decide +kernel
theorem dX0_steepestOffset_45 : decode cX0_steepestOffset 45 = .ok (.iload 7, 2) := by decide +kernel
theorem dX0_steepestOffset_47 : decode cX0_steepestOffset 47 = .ok (.iload_n 3, 1) := by decide +kernel
theorem dX0_steepestOffset_48 : decode cX0_steepestOffset 48 = .ok (.iload 5, 2) := by decide +kernel
theorem dX0_steepestOffset_50 : decode cX0_steepestOffset 50 = .ok (.iadd, 1) := by decide +kernel
theorem dX0_steepestOffset_51 : decode cX0_steepestOffset 51 = .ok (.if_icmp .ge 98, 3) := by decide +kernel
theorem dX0_steepestOffset_54 : decode cX0_steepestOffset 54 = .ok (.iload 6, 2) := by decide +kernel
theorem dX0_steepestOffset_56 : decode cX0_steepestOffset 56 = .ok (.ifCond .eq 7, 3) := by decide +kernel
theorem dX0_steepestOffset_59 : decode cX0_steepestOffset 59 = .ok (.iload_n 2, 1) := by decide +kernel
theorem dX0_steepestOffset_60 : decode cX0_steepestOffset 60 = .ok (.goto 6, 3) := by decide +kernel
theorem dX0_steepestOffset_63 : decode cX0_steepestOffset 63 = .ok (.iload_n 2, 1) := by decide +kernel
theorem dX0_steepestOffset_64 : decode cX0_steepestOffset 64 = .ok (.iconst 1, 1) := by decide +kernel
theorem dX0_steepestOffset_65 : decode cX0_steepestOffset 65 = .ok (.iadd, 1) := by decide +kernel
theorem dX0_steepestOffset_66 : decode cX0_steepestOffset 66 = .ok (.istore 8, 2) := by decide +kernel
theorem dX0_steepestOffset_68 : decode cX0_steepestOffset 68 = .ok (.iload 8, 2) := by decide +kernel
theorem dX0_steepestOffset_70 : decode cX0_steepestOffset 70 = .ok (.iload_n 2, 1) := by decide +kernel
theorem dX0_steepestOffset_71 : decode cX0_steepestOffset 71 = .ok (.iload 4, 2) := by decide +kernel
theorem dX0_steepestOffset_73 : decode cX0_steepestOffset 73 = .ok (.iadd, 1) := by decide +kernel
theorem dX0_steepestOffset_74 : decode cX0_steepestOffset 74 = .ok (.if_icmp .ge 69, 3) := by decide +kernel
theorem dX0_steepestOffset_77 : decode cX0_steepestOffset 77 = .ok (.iload 6, 2) := by decide +kernel
theorem dX0_steepestOffset_79 : decode cX0_steepestOffset 79 = .ok (.ifCond .eq 16, 3) := by decide +kernel
theorem dX0_steepestOffset_82 : decode cX0_steepestOffset 82 = .ok (.aload_n 1, 1) := by decide +kernel
theorem dX0_steepestOffset_83 : decode cX0_steepestOffset 83 = .ok (.iload 8, 2) := by decide +kernel
theorem dX0_steepestOffset_85 : decode cX0_steepestOffset 85 = .ok (.iload 7, 2) := by decide +kernel
theorem dX0_steepestOffset_87 : decode cX0_steepestOffset 87 = .ok (.iconst 1, 1) := by decide +kernel
theorem dX0_steepestOffset_88 : decode cX0_steepestOffset 88 = .ok (.isub, 1) := by decide +kernel
theorem dX0_steepestOffset_89 : decode cX0_steepestOffset 89 = .ok (.invokevirtual 70, 3) := by decide +kernel
theorem dX0_steepestOffset_92 : decode cX0_steepestOffset 92 = .ok (.goto 13, 3) := by decide +kernel
theorem dX0_steepestOffset_95 : decode cX0_steepestOffset 95 = .ok (.aload_n 1, 1) := by decide +kernel
theorem dX0_steepestOffset_96 : decode cX0_steepestOffset 96 = .ok (.iload 8, 2) := by decide +kernel
theorem dX0_steepestOffset_98 : decode cX0_steepestOffset 98 = .ok (.iconst 1, 1) := by decide +kernel
theorem dX0_steepestOffset_99 : decode cX0_steepestOffset 99 = .ok (.isub, 1) := by decide +kernel
theorem dX0_steepestOffset_100 : decode cX0_steepestOffset 100 = .ok (.iload 7, 2) := by decide +kernel
theorem dX0_steepestOffset_102 : decode cX0_steepestOffset 102 = .ok (.invokevirtual 70, 3) := by decide +kernel
theorem dX0_steepestOffset_105 : decode cX0_steepestOffset 105 = .ok (.istore 9, 2) := by decide +kernel
theorem dX0_steepestOffset_107 : decode cX0_steepestOffset 107 = .ok (.aload_n 0, 1) := by decide +kernel
theorem dX0_steepestOffset_108 : decode cX0_steepestOffset 108 = .ok (.iload 6, 2) := by decide +kernel
theorem dX0_steepestOffset_110 : decode cX0_steepestOffset 110 = .ok (.ifCond .eq 8, 3) := by decide +kernel
theorem dX0_steepestOffset_113 : decode cX0_steepestOffset 113 = .ok (.iload 7, 2) := by decide +kernel
theorem dX0_steepestOffset_115 : decode cX0_steepestOffset 115 = .ok (.goto 5, 3) := by decide +kernel
theorem dX0_steepestOffset_118 : decode cX0_steepestOffset 118 = .ok (.iload 8, 2) := by decide +kernel
theorem dX0_steepestOffset_120 : decode cX0_steepestOffset 120 = .ok (.aload_n 1, 1) := by decide +kernel
theorem dX0_steepestOffset_121 : decode cX0_steepestOffset 121 = .ok (.iload 8, 2) := by decide +kernel
theorem dX0_steepestOffset_123 : decode cX0_steepestOffset 123 = .ok (.iload 7, 2) := by decide +kernel
theorem dX0_steepestOffset_125 : decode cX0_steepestOffset 125 = .ok (.invokevirtual 70, 3) := by decide +kernel
theorem dX0_steepestOffset_128 : decode cX0_steepestOffset 128 = .ok (.iload 9, 2) := by decide +kernel
theorem dX0_steepestOffset_130 : decode cX0_steepestOffset 130 = .ok (.isub, 1) := by decide +kernel
theorem dX0_steepestOffset_131 : decode cX0_steepestOffset 131 = .ok (.invokestatic 73, 3) := by decide +kernel
theorem dX0_steepestOffset_134 : decode cX0_steepestOffset 134 = .ok (.invokevirtual 76, 3) := by decide +kernel
theorem dX0_steepestOffset_137 : decode cX0_steepestOffset 137 = .ok (.iinc 8 1, 3) := by decide +kernel
theorem dX0_steepestOffset_140 : decode cX0_steepestOffset 140 = .ok (.goto (-72), 3) := by decide +kernel
theorem dX0_steepestOffset_143 : decode cX0_steepestOffset 143 = .ok (.iinc 7 1, 3) := by decide +kernel
theorem dX0_steepestOffset_146 : decode cX0_steepestOffset 146 = .ok (.goto (-101), 3) := by decide +kernel
theorem dX0_steepestOffset_149 : decode cX0_steepestOffset 149 = .ok (.aload_n 0, 1) := by decide +kernel
theorem dX0_steepestOffset_150 : decode cX0_steepestOffset 150 = .ok (.invokevirtual 80, 3) := by decide +kernel
theorem dX0_steepestOffset_153 : decode cX0_steepestOffset 153 = .ok (.ireturn, 1) := by decide +kernel
theorem dX0_addPair_0 : decode cX0_addPair 0 = .ok (.iload_n 1, 1) := by decide +kernel
theorem dX0_addPair_1 : decode cX0_addPair 1 = .ok (.iconst 4, 1) := by decide +kernel
theorem dX0_addPair_2 : decode cX0_addPair 2 = .ok (.invokestatic 83, 3) := by decide +kernel
theorem dX0_addPair_5 : decode cX0_addPair 5 = .ok (.istore_n 3, 1) := by decide +kernel
theorem dX0_addPair_6 : decode cX0_addPair 6 = .ok (.aload_n 0, 1) := by decide +kernel
theorem dX0_addPair_7 : decode cX0_addPair 7 = .ok (.getfield 15, 3) := by decide +kernel
theorem dX0_addPair_10 : decode cX0_addPair 10 = .ok (.iload_n 3, 1) := by decide +kernel
theorem dX0_addPair_11 : decode cX0_addPair 11 = .ok (.dup2, 1) := by decide +kernel
theorem dX0_addPair_12 : decode cX0_addPair 12 = .ok (.iaload, 1) := by decide +kernel
theorem dX0_addPair_13 : decode cX0_addPair 13 = .ok (.iload_n 2, 1) := by decide +kernel
theorem dX0_addPair_14 : decode cX0_addPair 14 = .ok (.iadd, 1) := by decide +kernel
theorem dX0_addPair_15 : decode cX0_addPair 15 = .ok (.iastore, 1) := by decide +kernel
theorem dX0_addPair_16 : decode cX0_addPair 16 = .ok (.aload_n 0, 1) := by decide +kernel
theorem dX0_addPair_17 : decode cX0_addPair 17 = .ok (.getfield 18, 3) := by decide +kernel
theorem dX0_addPair_20 : decode cX0_addPair 20 = .ok (.iload_n 3, 1) := by decide +kernel
theorem dX0_addPair_21 : decode cX0_addPair 21 = .ok (.dup2, 1) := by decide +kernel
theorem dX0_addPair_22 : decode cX0_addPair 22 = .ok (.iaload, 1) := by decide +kernel
theorem dX0_addPair_23 : decode cX0_addPair 23 = .ok (.iconst 1, 1) := by decide +kernel
theorem dX0_addPair_24 : decode cX0_addPair 24 = .ok (.iadd, 1) := by decide +kernel
theorem dX0_addPair_25 : decode cX0_addPair 25 = .ok (.iastore, 1) := by decide +kernel
theorem dX0_addPair_26 : decode cX0_addPair 26 = .ok (.return_, 1) := by decide +kernel
theorem dX0_steepest_0 : decode cX0_steepest 0 = .ok (.iconst (-1), 1) := by decide +kernel
theorem dX0_steepest_1 : decode cX0_steepest 1 = .ok (.istore_n 1, 1) := by decide +kernel
theorem dX0_steepest_2 : decode cX0_steepest 2 = .ok (.iconst 0, 1) := by decide +kernel
theorem dX0_steepest_3 : decode cX0_steepest 3 = .ok (.istore_n 2, 1) := by decide +kernel
theorem dX0_steepest_4 : decode cX0_steepest 4 = .ok (.iload_n 2, 1) := by decide +kernel
theorem dX0_steepest_5 : decode cX0_steepest 5 = .ok (.iconst 4, 1) := by decide +kernel
theorem dX0_steepest_6 : decode cX0_steepest 6 = .ok (.if_icmp .ge 54, 3) := by decide +kernel
theorem dX0_steepest_9 : decode cX0_steepest 9 = .ok (.aload_n 0, 1) := by decide +kernel
theorem dX0_steepest_10 : decode cX0_steepest 10 = .ok (.getfield 18, 3) := by decide +kernel
theorem dX0_steepest_13 : decode cX0_steepest 13 = .ok (.iload_n 2, 1) := by decide +kernel
theorem dX0_steepest_14 : decode cX0_steepest 14 = .ok (.iaload, 1) := by decide +kernel
theorem dX0_steepest_15 : decode cX0_steepest 15 = .ok (.ifCond .le 39, 3) := by decide +kernel
theorem dX0_steepest_18 : decode cX0_steepest 18 = .ok (.iload_n 1, 1) := by decide +kernel
theorem dX0_steepest_19 : decode cX0_steepest 19 = .ok (.iconst (-1), 1) := by decide +kernel
theorem dX0_steepest_20 : decode cX0_steepest 20 = .ok (.if_icmp .eq 32, 3) := by decide +kernel
theorem dX0_steepest_23 : decode cX0_steepest 23 = .ok (.aload_n 0, 1) := by decide +kernel
theorem dX0_steepest_24 : decode cX0_steepest 24 = .ok (.getfield 15, 3) := by decide +kernel
theorem dX0_steepest_27 : decode cX0_steepest 27 = .ok (.iload_n 2, 1) := by decide +kernel
theorem dX0_steepest_28 : decode cX0_steepest 28 = .ok (.iaload, 1) := by decide +kernel
theorem dX0_steepest_29 : decode cX0_steepest 29 = .ok (.aload_n 0, 1) := by decide +kernel
theorem dX0_steepest_30 : decode cX0_steepest 30 = .ok (.getfield 18, 3) := by decide +kernel
theorem dX0_steepest_33 : decode cX0_steepest 33 = .ok (.iload_n 1, 1) := by decide +kernel
theorem dX0_steepest_34 : decode cX0_steepest 34 = .ok (.iaload, 1) := by decide +kernel
theorem dX0_steepest_35 : decode cX0_steepest 35 = .ok (.imul, 1) := by decide +kernel
theorem dX0_steepest_36 : decode cX0_steepest 36 = .ok (.aload_n 0, 1) := by decide +kernel
theorem dX0_steepest_37 : decode cX0_steepest 37 = .ok (.getfield 15, 3) := by decide +kernel
theorem dX0_steepest_40 : decode cX0_steepest 40 = .ok (.iload_n 1, 1) := by decide +kernel
theorem dX0_steepest_41 : decode cX0_steepest 41 = .ok (.iaload, 1) := by decide +kernel
theorem dX0_steepest_42 : decode cX0_steepest 42 = .ok (.aload_n 0, 1) := by decide +kernel
theorem dX0_steepest_43 : decode cX0_steepest 43 = .ok (.getfield 18, 3) := by decide +kernel
theorem dX0_steepest_46 : decode cX0_steepest 46 = .ok (.iload_n 2, 1) := by decide +kernel
theorem dX0_steepest_47 : decode cX0_steepest 47 = .ok (.iaload, 1) := by decide +kernel
theorem dX0_steepest_48 : decode cX0_steepest 48 = .ok (.imul, 1) := by decide +kernel
theorem dX0_steepest_49 : decode cX0_steepest 49 = .ok (.if_icmp .le 5, 3) := by decide +kernel
theorem dX0_steepest_52 : decode cX0_steepest 52 = .ok (.iload_n 2, 1) := by decide +kernel
theorem dX0_steepest_53 : decode cX0_steepest 53 = .ok (.istore_n 1, 1) := by decide +kernel
theorem dX0_steepest_54 : decode cX0_steepest 54 = .ok (.iinc 2 1, 3) := by decide +kernel
theorem dX0_steepest_57 : decode cX0_steepest 57 = .ok (.goto (-53), 3) := by decide +kernel
theorem dX0_steepest_60 : decode cX0_steepest 60 = .ok (.iload_n 1, 1) := by decide +kernel
theorem dX0_steepest_61 : decode cX0_steepest 61 = .ok (.ireturn, 1) := by decide +kernel
theorem dX1_init_0 : decode cX1_init 0 = .ok (.aload_n 0, 1) := by decide +kernel
theorem dX1_init_1 : decode cX1_init 1 = .ok (.invokespecial 3, 3) := by decide +kernel
theorem dX1_init_4 : decode cX1_init 4 = .ok (.aload_n 0, 1) := by decide +kernel
theorem dX1_init_5 : decode cX1_init 5 = .ok (.bipush 64, 2) := by decide +kernel
theorem dX1_init_7 : decode cX1_init 7 = .ok (.newarray .int, 2) := by decide +kernel
theorem dX1_init_9 : decode cX1_init 9 = .ok (.putfield 11, 3) := by decide +kernel
theorem dX1_init_12 : decode cX1_init 12 = .ok (.aload_n 0, 1) := by decide +kernel
theorem dX1_init_13 : decode cX1_init 13 = .ok (.bipush 6, 2) := by decide +kernel
theorem dX1_init_15 : decode cX1_init 15 = .ok (.newarray .int, 2) := by decide +kernel
theorem dX1_init_17 : decode cX1_init 17 = .ok (.putfield 17, 3) := by decide +kernel
theorem dX1_init_20 : decode cX1_init 20 = .ok (.aload_n 0, 1) := by decide +kernel
theorem dX1_init_21 : decode cX1_init 21 = .ok (.new 20, 3) := by decide +kernel
theorem dX1_init_24 : decode cX1_init 24 = .ok (.dup, 1) := by decide +kernel
theorem dX1_init_25 : decode cX1_init 25 = .ok (.iload_n 1, 1) := by decide +kernel
theorem dX1_init_26 : decode cX1_init 26 = .ok (.iload_n 2, 1) := by decide +kernel
theorem dX1_init_27 : decode cX1_init 27 = .ok (.invokespecial 22, 3) := by decide +kernel
theorem dX1_init_30 : decode cX1_init 30 = .ok (.putfield 25, 3) := by decide +kernel
theorem dX1_init_33 : decode cX1_init 33 = .ok (.return_, 1) := by decide +kernel
theorem dX1_perform_0 : decode cX1_perform 0 = .ok (.aload_n 1, 1) := by decide +kernel
theorem dX1_perform_1 : decode cX1_perform 1 = .ok (.ifnull 11, 3) := by decide +kernel
theorem dX1_perform_4 : decode cX1_perform 4 = .ok (.aload_n 2, 1) := by decide +kernel
theorem dX1_perform_5 : decode cX1_perform 5 = .ok (.ifnull 7, 3) := by decide +kernel
theorem dX1_perform_8 : decode cX1_perform 8 = .ok (.aload_n 3, 1) := by decide +kernel
theorem dX1_perform_9 : decode cX1_perform 9 = .ok (.ifnonnull 5, 3) := by decide +kernel
theorem dX1_perform_12 : decode cX1_perform 12 = .ok (.iconst (-1), 1) := by decide +kernel
theorem dX1_perform_13 : decode cX1_perform 13 = .ok (.ireturn, 1) := by decide +kernel
theorem dX1_perform_14 : decode cX1_perform 14 = .ok (.aload_n 0, 1) := by decide +kernel
theorem dX1_perform_15 : decode cX1_perform 15 = .ok (.aload_n 1, 1) := by decide +kernel
theorem dX1_perform_16 : decode cX1_perform 16 = .ok (.putfield 29, 3) := by decide +kernel
theorem dX1_perform_19 : decode cX1_perform 19 = .ok (.aload_n 0, 1) := by decide +kernel
theorem dX1_perform_20 : decode cX1_perform 20 = .ok (.aload_n 2, 1) := by decide +kernel
theorem dX1_perform_21 : decode cX1_perform 21 = .ok (.putfield 33, 3) := by decide +kernel
theorem dX1_perform_24 : decode cX1_perform 24 = .ok (.aload_n 0, 1) := by decide +kernel
theorem dX1_perform_25 : decode cX1_perform 25 = .ok (.aload_n 3, 1) := by decide +kernel
theorem dX1_perform_26 : decode cX1_perform 26 = .ok (.putfield 36, 3) := by decide +kernel
theorem dX1_perform_29 : decode cX1_perform 29 = .ok (.aload_n 0, 1) := by decide +kernel
theorem dX1_perform_30 : decode cX1_perform 30 = .ok (.iconst 0, 1) := by decide +kernel
theorem dX1_perform_31 : decode cX1_perform 31 = .ok (.putfield 40, 3) := by decide +kernel
theorem dX1_perform_34 : decode cX1_perform 34 = .ok (.aload_n 0, 1) := by decide +kernel
theorem dX1_perform_35 : decode cX1_perform 35 = .ok (.iconst 0, 1) := by decide +kernel
theorem dX1_perform_36 : decode cX1_perform 36 = .ok (.aload_n 0, 1) := by decide +kernel
theorem dX1_perform_37 : decode cX1_perform 37 = .ok (.getfield 29, 3) := by decide +kernel
theorem dX1_perform_40 : decode cX1_perform 40 = .ok (.getfield 44, 3) := by decide +kernel
theorem dX1_perform_43 : decode cX1_perform 43 = .ok (.iconst 0, 1) := by decide +kernel
theorem dX1_perform_44 : decode cX1_perform 44 = .ok (.iconst 0, 1) := by decide +kernel
theorem dX1_perform_45 : decode cX1_perform 45 = .ok (.invokevirtual 47, 3) := by decide +kernel
theorem dX1_perform_48 : decode cX1_perform 48 = .ok (.aload_n 0, 1) := by decide +kernel
theorem dX1_perform_49 : decode cX1_perform 49 = .ok (.getfield 40, 3) := by decide +kernel
theorem dX1_perform_52 : decode cX1_perform 52 = .ok (.ireturn, 1) := by decide +kernel
theorem dX1_performActs_0 : decode cX1_performActs 0 = .ok (.iload_n 1, 1) := by decide +kernel
theorem dX1_performActs_1 : decode cX1_performActs 1 = .ok (.istore 5, 2) := by decide +kernel
theorem dX1_performActs_3 : decode cX1_performActs 3 = .ok (.iload 5, 2) := by decide +kernel
theorem dX1_performActs_5 : decode cX1_performActs 5 = .ok (.iload_n 2, 1) := by decide +kernel
theorem dX1_performActs_6 : decode cX1_performActs 6 = .ok (.if_icmp .ge 137, 3) := by decide +kernel
theorem dX1_performActs_9 : decode cX1_performActs 9 = .ok (.aload_n 0, 1) := by decide +kernel
theorem dX1_performActs_10 : decode cX1_performActs 10 = .ok (.getfield 40, 3) := by decide +kernel
theorem dX1_performActs_13 : decode cX1_performActs 13 = .ok (.sipush 300, 3) := by decide +kernel
theorem dX1_performActs_16 : decode cX1_performActs 16 = .ok (.if_icmp .ge 127, 3) := by decide +kernel
theorem dX1_performActs_19 : decode cX1_performActs 19 = .ok (.iload 5, 2) := by decide +kernel
theorem dX1_performActs_21 : decode cX1_performActs 21 = .ok (.istore 6, 2) := by decide +kernel
theorem dX1_performActs_23 : decode cX1_performActs 23 = .ok (.iinc 5 1, 3) := by decide +kernel
theorem dX1_performActs_26 : decode cX1_performActs 26 = .ok (.aload_n 0, 1) := by decide +kernel
theorem dX1_performActs_27 : decode cX1_performActs 27 = .ok (.dup, 1) := by decide +kernel
theorem dX1_performActs_28 : decode cX1_performActs 28 = .ok (.getfield 40, 3) := by decide +kernel
theorem dX1_performActs_31 : decode cX1_performActs 31 = .ok (.iconst 1, 1) := by decide +kernel
theorem dX1_performActs_32 : decode cX1_performActs 32 = .ok (.iadd, 1) := by decide +kernel
theorem dX1_performActs_33 : decode cX1_performActs 33 = .ok (.putfield 40, 3) := by decide +kernel
theorem dX1_performActs_36 : decode cX1_performActs 36 = .ok (.aload_n 0, 1) := by decide +kernel
theorem dX1_performActs_37 : decode cX1_performActs 37 = .ok (.getfield 29, 3) := by decide +kernel
theorem dX1_performActs_40 : decode cX1_performActs 40 = .ok (.iload 6, 2) := by decide +kernel
theorem dX1_performActs_42 : decode cX1_performActs 42 = .ok (.invokevirtual 51, 3) := by decide +kernel
theorem dX1_performActs_45 : decode cX1_performActs 45 = .ok (.tableswitch 68 1 4 #[31, 40, 50, 59], 31) := by decide +kernel
theorem dX1_performActs_76 : decode cX1_performActs 76 = .ok (.aload_n 0, 1) := by decide +kernel
theorem dX1_performActs_77 : decode cX1_performActs 77 = .ok (.iload 6, 2) := by decide +kernel
theorem dX1_performActs_79 : decode cX1_performActs 79 = .ok (.invokevirtual 55, 3) := by decide +kernel
theorem dX1_performActs_82 : decode cX1_performActs 82 = .ok (.goto 58, 3) := by decide +kernel
theorem dX1_performActs_85 : decode cX1_performActs 85 = .ok (.aload_n 0, 1) := by decide +kernel
theorem dX1_performActs_86 : decode cX1_performActs 86 = .ok (.iload 6, 2) := by decide +kernel
theorem dX1_performActs_88 : decode cX1_performActs 88 = .ok (.iload_n 3, 1) := by decide +kernel
theorem dX1_performActs_89 : decode cX1_performActs 89 = .ok (.invokevirtual 59, 3) := by decide +kernel
theorem dX1_performActs_92 : decode cX1_performActs 92 = .ok (.goto 48, 3) := by decide +kernel
theorem dX1_performActs_95 : decode cX1_performActs 95 = .ok (.aload_n 0, 1) := by decide +kernel
theorem dX1_performActs_96 : decode cX1_performActs 96 = .ok (.iload 6, 2) := by decide +kernel
theorem dX1_performActs_98 : decode cX1_performActs 98 = .ok (.invokevirtual 62, 3) := by decide +kernel
theorem dX1_performActs_101 : decode cX1_performActs 101 = .ok (.goto 39, 3) := by decide +kernel
theorem dX1_performActs_104 : decode cX1_performActs 104 = .ok (.aload_n 0, 1) := by decide +kernel
theorem dX1_performActs_105 : decode cX1_performActs 105 = .ok (.iload 6, 2) := by decide +kernel
theorem dX1_performActs_107 : decode cX1_performActs 107 = .ok (.invokevirtual 65, 3) := by decide +kernel
theorem dX1_performActs_110 : decode cX1_performActs 110 = .ok (.goto 30, 3) := by decide +kernel
theorem dX1_performActs_113 : decode cX1_performActs 113 = .ok (.iload 5, 2) := by decide +kernel
theorem dX1_performActs_115 : decode cX1_performActs 115 = .ok (.aload_n 0, 1) := by decide +kernel
theorem dX1_performActs_116 : decode cX1_performActs 116 = .ok (.getfield 29, 3) := by decide +kernel
theorem dX1_performActs_119 : decode cX1_performActs 119 = .ok (.iload 6, 2) := by decide +kernel
theorem dX1_performActs_121 : decode cX1_performActs 121 = .ok (.iconst 1, 1) := by decide +kernel
theorem dX1_performActs_122 : decode cX1_performActs 122 = .ok (.invokevirtual 68, 3) := by decide +kernel
theorem dX1_performActs_125 : decode cX1_performActs 125 = .ok (.invokestatic 72, 3) := by decide +kernel
theorem dX1_performActs_128 : decode cX1_performActs 128 = .ok (.istore 5, 2) := by decide +kernel
theorem dX1_performActs_130 : decode cX1_performActs 130 = .ok (.aload_n 0, 1) := by decide +kernel
theorem dX1_performActs_131 : decode cX1_performActs 131 = .ok (.iload 6, 2) := by decide +kernel
theorem dX1_performActs_133 : decode cX1_performActs 133 = .ok (.iload 5, 2) := by decide +kernel
theorem dX1_performActs_135 : decode cX1_performActs 135 = .ok (.iload 4, 2) := by decide +kernel
theorem dX1_performActs_137 : decode cX1_performActs 137 = .ok (.invokevirtual 77, 3) := by decide +kernel
theorem dX1_performActs_140 : decode cX1_performActs 140 = .ok (.goto (-137), 3) := by decide +kernel
theorem dX1_performActs_143 : decode cX1_performActs 143 = .ok (.return_, 1) := by decide +kernel
theorem dX1_repeat_0 : decode cX1_repeat 0 = .ok (.iload_n 3, 1) := by decide +kernel
theorem dX1_repeat_1 : decode cX1_repeat 1 = .ok (.bipush 8, 2) := by decide +kernel
theorem dX1_repeat_3 : decode cX1_repeat 3 = .ok (.if_icmp .lt 4, 3) := by decide +kernel
theorem dX1_repeat_6 : decode cX1_repeat 6 = .ok (.return_, 1) := by decide +kernel
theorem dX1_repeat_7 : decode cX1_repeat 7 = .ok (.aload_n 0, 1) := by decide +kernel
theorem dX1_repeat_8 : decode cX1_repeat 8 = .ok (.getfield 29, 3) := by decide +kernel
theorem dX1_repeat_11 : decode cX1_repeat 11 = .ok (.iload_n 1, 1) := by decide +kernel
theorem dX1_repeat_12 : decode cX1_repeat 12 = .ok (.iconst 0, 1) := by decide +kernel
theorem dX1_repeat_13 : decode cX1_repeat 13 = .ok (.invokevirtual 68, 3) := by decide +kernel
theorem dX1_repeat_16 : decode cX1_repeat 16 = .ok (.istore 4, 2) := by decide +kernel
theorem dX1_repeat_18 : decode cX1_repeat 18 = .ok (.iconst 0, 1) := by decide +kernel
theorem dX1_repeat_19 : decode cX1_repeat 19 = .ok (.istore 5, 2) := by decide +kernel
theorem dX1_repeat_21 : decode cX1_repeat 21 = .ok (.iload 5, 2) := by decide +kernel
theorem dX1_repeat_23 : decode cX1_repeat 23 = .ok (.iload 4, 2) := by decide +kernel
theorem dX1_repeat_25 : decode cX1_repeat 25 = .ok (.if_icmp .ge 32, 3) := by decide +kernel
theorem dX1_repeat_28 : decode cX1_repeat 28 = .ok (.aload_n 0, 1) := by decide +kernel
theorem dX1_repeat_29 : decode cX1_repeat 29 = .ok (.getfield 40, 3) := by decide +kernel
theorem dX1_repeat_32 : decode cX1_repeat 32 = .ok (.sipush 300, 3) := by decide +kernel
theorem dX1_repeat_35 : decode cX1_repeat 35 = .ok (.if_icmp .ge 22, 3) := by decide +kernel
theorem dX1_repeat_38 : decode cX1_repeat 38 = .ok (.aload_n 0, 1) := by decide +kernel
theorem dX1_repeat_39 : decode cX1_repeat 39 = .ok (.iload_n 1, 1) := by decide +kernel
theorem dX1_repeat_40 : decode cX1_repeat 40 = .ok (.iconst 1, 1) := by decide +kernel
theorem dX1_repeat_41 : decode cX1_repeat 41 = .ok (.iadd, 1) := by decide +kernel
theorem dX1_repeat_42 : decode cX1_repeat 42 = .ok (.iload_n 2, 1) := by decide +kernel
theorem dX1_repeat_43 : decode cX1_repeat 43 = .ok (.iload 5, 2) := by decide +kernel
theorem dX1_repeat_45 : decode cX1_repeat 45 = .ok (.iload_n 3, 1) := by decide +kernel
theorem dX1_repeat_46 : decode cX1_repeat 46 = .ok (.iconst 1, 1) := by decide +kernel
theorem dX1_repeat_47 : decode cX1_repeat 47 = .ok (.iadd, 1) := by decide +kernel
theorem dX1_repeat_48 : decode cX1_repeat 48 = .ok (.invokevirtual 47, 3) := by decide +kernel
theorem dX1_repeat_51 : decode cX1_repeat 51 = .ok (.iinc 5 1, 3) := by decide +kernel
theorem dX1_repeat_54 : decode cX1_repeat 54 = .ok (.goto (-33), 3) := by decide +kernel
theorem dX1_repeat_57 : decode cX1_repeat 57 = .ok (.return_, 1) := by decide +kernel
theorem dX1_paste_0 : decode cX1_paste 0 = .ok (.aload_n 0, 1) := by decide +kernel
theorem dX1_paste_1 : decode cX1_paste 1 = .ok (.getfield 25, 3) := by decide +kernel
theorem dX1_paste_4 : decode cX1_paste 4 = .ok (.aload_n 0, 1) := by decide +kernel
theorem dX1_paste_5 : decode cX1_paste 5 = .ok (.getfield 36, 3) := by decide +kernel
theorem dX1_paste_8 : decode cX1_paste 8 = .ok (.aload_n 0, 1) := by decide +kernel
theorem dX1_paste_9 : decode cX1_paste 9 = .ok (.getfield 29, 3) := by decide +kernel
theorem dX1_paste_12 : decode cX1_paste 12 = .ok (.iload_n 1, 1) := by decide +kernel
theorem dX1_paste_13 : decode cX1_paste 13 = .ok (.iconst 0, 1) := by decide +kernel
theorem dX1_paste_14 : decode cX1_paste 14 = .ok (.invokevirtual 68, 3) := by decide +kernel
theorem dX1_paste_17 : decode cX1_paste 17 = .ok (.invokevirtual 81, 3) := by decide +kernel
theorem dX1_paste_20 : decode cX1_paste 20 = .ok (.invokevirtual 87, 3) := by decide +kernel
theorem dX1_paste_23 : decode cX1_paste 23 = .ok (.aload_n 0, 1) := by decide +kernel
theorem dX1_paste_24 : decode cX1_paste 24 = .ok (.getfield 29, 3) := by decide +kernel
theorem dX1_paste_27 : decode cX1_paste 27 = .ok (.iload_n 1, 1) := by decide +kernel
theorem dX1_paste_28 : decode cX1_paste 28 = .ok (.iconst 1, 1) := by decide +kernel
theorem dX1_paste_29 : decode cX1_paste 29 = .ok (.invokevirtual 68, 3) := by decide +kernel
theorem dX1_paste_32 : decode cX1_paste 32 = .ok (.istore_n 2, 1) := by decide +kernel
theorem dX1_paste_33 : decode cX1_paste 33 = .ok (.aload_n 0, 1) := by decide +kernel
theorem dX1_paste_34 : decode cX1_paste 34 = .ok (.getfield 29, 3) := by decide +kernel
theorem dX1_paste_37 : decode cX1_paste 37 = .ok (.iload_n 1, 1) := by decide +kernel
theorem dX1_paste_38 : decode cX1_paste 38 = .ok (.iconst 2, 1) := by decide +kernel
theorem dX1_paste_39 : decode cX1_paste 39 = .ok (.invokevirtual 68, 3) := by decide +kernel
theorem dX1_paste_42 : decode cX1_paste 42 = .ok (.istore_n 3, 1) := by decide +kernel
theorem dX1_paste_43 : decode cX1_paste 43 = .ok (.aload_n 0, 1) := by decide +kernel
theorem dX1_paste_44 : decode cX1_paste 44 = .ok (.getfield 29, 3) := by decide +kernel
theorem dX1_paste_47 : decode cX1_paste 47 = .ok (.iload_n 1, 1) := by decide +kernel
theorem dX1_paste_48 : decode cX1_paste 48 = .ok (.iconst 3, 1) := by decide +kernel
theorem dX1_paste_49 : decode cX1_paste 49 = .ok (.invokevirtual 68, 3) := by decide +kernel
theorem dX1_paste_52 : decode cX1_paste 52 = .ok (.aload_n 0, 1) := by decide +kernel
theorem dX1_paste_53 : decode cX1_paste 53 = .ok (.getfield 25, 3) := by decide +kernel
theorem dX1_paste_56 : decode cX1_paste 56 = .ok (.getfield 91, 3) := by decide +kernel
theorem dX1_paste_59 : decode cX1_paste 59 = .ok (.iload_n 2, 1) := by decide +kernel
theorem dX1_paste_60 : decode cX1_paste 60 = .ok (.isub, 1) := by decide +kernel
theorem dX1_paste_61 : decode cX1_paste 61 = .ok (.invokestatic 94, 3) := by decide +kernel
theorem dX1_paste_64 : decode cX1_paste 64 = .ok (.istore 4, 2) := by decide +kernel
theorem dX1_paste_66 : decode cX1_paste 66 = .ok (.aload_n 0, 1) := by decide +kernel
theorem dX1_paste_67 : decode cX1_paste 67 = .ok (.getfield 29, 3) := by decide +kernel
theorem dX1_paste_70 : decode cX1_paste 70 = .ok (.iload_n 1, 1) := by decide +kernel
theorem dX1_paste_71 : decode cX1_paste 71 = .ok (.iconst 4, 1) := by decide +kernel
theorem dX1_paste_72 : decode cX1_paste 72 = .ok (.invokevirtual 68, 3) := by decide +kernel
theorem dX1_paste_75 : decode cX1_paste 75 = .ok (.aload_n 0, 1) := by decide +kernel
theorem dX1_paste_76 : decode cX1_paste 76 = .ok (.getfield 25, 3) := by decide +kernel
theorem dX1_paste_79 : decode cX1_paste 79 = .ok (.getfield 97, 3) := by decide +kernel
theorem dX1_paste_82 : decode cX1_paste 82 = .ok (.iload_n 3, 1) := by decide +kernel
theorem dX1_paste_83 : decode cX1_paste 83 = .ok (.isub, 1) := by decide +kernel
theorem dX1_paste_84 : decode cX1_paste 84 = .ok (.invokestatic 94, 3) := by decide +kernel
theorem dX1_paste_87 : decode cX1_paste 87 = .ok (.istore 5, 2) := by decide +kernel
theorem dX1_paste_89 : decode cX1_paste 89 = .ok (.aload_n 0, 1) := by decide +kernel
theorem dX1_paste_90 : decode cX1_paste 90 = .ok (.getfield 29, 3) := by decide +kernel
theorem dX1_paste_93 : decode cX1_paste 93 = .ok (.iload_n 1, 1) := by decide +kernel
theorem dX1_paste_94 : decode cX1_paste 94 = .ok (.iconst 5, 1) := by decide +kernel
theorem dX1_paste_95 : decode cX1_paste 95 = .ok (.invokevirtual 68, 3) := by decide +kernel
theorem dX1_paste_98 : decode cX1_paste 98 = .ok (.istore 6, 2) := by decide +kernel
theorem dX1_paste_100 : decode cX1_paste 100 = .ok (.aload_n 0, 1) := by decide +kernel
theorem dX1_paste_101 : decode cX1_paste 101 = .ok (.getfield 29, 3) := by decide +kernel
theorem dX1_paste_104 : decode cX1_paste 104 = .ok (.iload_n 1, 1) := by decide +kernel
theorem dX1_paste_105 : decode cX1_paste 105 = .ok (.bipush 6, 2) := by decide +kernel
theorem dX1_paste_107 : decode cX1_paste 107 = .ok (.invokevirtual 68, 3) := by decide +kernel
theorem dX1_paste_110 : decode cX1_paste 110 = .ok (.istore 7, 2) := by decide +kernel
theorem dX1_paste_112 : decode cX1_paste 112 = .ok (.iconst 0, 1) := by decide +kernel
theorem dX1_paste_113 : decode cX1_paste 113 = .ok (.istore 8, 2) := by decide +kernel
theorem dX1_paste_115 : decode cX1_paste 115 = .ok (.iload 8, 2) := by decide +kernel
theorem dX1_paste_117 : decode cX1_paste 117 = .ok (.iload 5, 2) := by decide +kernel
theorem dX1_paste_119 : decode cX1_paste 119 = .ok (.if_icmp .ge 57, 3) := by decide +kernel
theorem dX1_paste_122 : decode cX1_paste 122 = .ok (.iconst 0, 1) := by decide +kernel
theorem dX1_paste_123 : decode cX1_paste 123 = .ok (.istore 9, 2) := by decide +kernel
theorem dX1_paste_125 : decode cX1_paste 125 = .ok (.iload 9, 2) := by decide +kernel
theorem dX1_paste_127 : decode cX1_paste 127 = .ok (.iload 4, 2) := by decide +kernel
theorem dX1_paste_129 : decode cX1_paste 129 = .ok (.if_icmp .ge 41, 3) := by decide +kernel
theorem dX1_paste_132 : decode cX1_paste 132 = .ok (.aload_n 0, 1) := by decide +kernel
theorem dX1_paste_133 : decode cX1_paste 133 = .ok (.getfield 33, 3) := by decide +kernel
theorem dX1_paste_136 : decode cX1_paste 136 = .ok (.iload 6, 2) := by decide +kernel
theorem dX1_paste_138 : decode cX1_paste 138 = .ok (.iload 9, 2) := by decide +kernel
theorem dX1_paste_140 : decode cX1_paste 140 = .ok (.iadd, 1) := by decide +kernel
theorem dX1_paste_141 : decode cX1_paste 141 = .ok (.iload 7, 2) := by decide +kernel
theorem dX1_paste_143 : decode cX1_paste 143 = .ok (.iload 8, 2) := by decide +kernel
theorem dX1_paste_145 : decode cX1_paste 145 = .ok (.iadd, 1) := by decide +kernel
theorem dX1_paste_146 : decode cX1_paste 146 = .ok (.aload_n 0, 1) := by decide +kernel
theorem dX1_paste_147 : decode cX1_paste 147 = .ok (.getfield 25, 3) := by decide +kernel
theorem dX1_paste_150 : decode cX1_paste 150 = .ok (.iload_n 2, 1) := by decide +kernel
theorem dX1_paste_151 : decode cX1_paste 151 = .ok (.iload 9, 2) := by decide +kernel
theorem dX1_paste_153 : decode cX1_paste 153 = .ok (.iadd, 1) := by decide +kernel
theorem dX1_paste_154 : decode cX1_paste 154 = .ok (.iload_n 3, 1) := by decide +kernel
theorem dX1_paste_155 : decode cX1_paste 155 = .ok (.iload 8, 2) := by decide +kernel
theorem dX1_paste_157 : decode cX1_paste 157 = .ok (.iadd, 1) := by decide +kernel
theorem dX1_paste_158 : decode cX1_paste 158 = .ok (.invokevirtual 100, 3) := by decide +kernel
theorem dX1_paste_161 : decode cX1_paste 161 = .ok (.invokevirtual 103, 3) := by decide +kernel
theorem dX1_paste_164 : decode cX1_paste 164 = .ok (.iinc 9 1, 3) := by decide +kernel
theorem dX1_paste_167 : decode cX1_paste 167 = .ok (.goto (-42), 3) := by decide +kernel
theorem dX1_paste_170 : decode cX1_paste 170 = .ok (.iinc 8 1, 3) := by decide +kernel
theorem dX1_paste_173 : decode cX1_paste 173 = .ok (.goto (-58), 3) := by decide +kernel
theorem dX1_paste_176 : decode cX1_paste 176 = .ok (.return_, 1) := by decide +kernel
theorem dX1_paint_0 : decode cX1_paint 0 = .ok (.aload_n 0, 1) := by decide +kernel
theorem dX1_paint_1 : decode cX1_paint 1 = .ok (.getfield 29, 3) := by decide +kernel
theorem dX1_paint_4 : decode cX1_paint 4 = .ok (.iload_n 1, 1) := by decide +kernel
theorem dX1_paint_5 : decode cX1_paint 5 = .ok (.iconst 0, 1) := by decide +kernel
theorem dX1_paint_6 : decode cX1_paint 6 = .ok (.invokevirtual 68, 3) := by decide +kernel
theorem dX1_paint_9 : decode cX1_paint 9 = .ok (.istore_n 3, 1) := by decide +kernel
theorem dX1_paint_10 : decode cX1_paint 10 = .ok (.aload_n 0, 1) := by decide +kernel
theorem dX1_paint_11 : decode cX1_paint 11 = .ok (.getfield 29, 3) := by decide +kernel
theorem dX1_paint_14 : decode cX1_paint 14 = .ok (.iload_n 1, 1) := by decide +kernel
theorem dX1_paint_15 : decode cX1_paint 15 = .ok (.iconst 1, 1) := by decide +kernel
theorem dX1_paint_16 : decode cX1_paint 16 = .ok (.invokevirtual 68, 3) := by decide +kernel
theorem dX1_paint_19 : decode cX1_paint 19 = .ok (.istore 4, 2) := by decide +kernel
theorem dX1_paint_21 : decode cX1_paint 21 = .ok (.iload_n 3, 1) := by decide +kernel
theorem dX1_paint_22 : decode cX1_paint 22 = .ok (.aload_n 0, 1) := by decide +kernel
theorem dX1_paint_23 : decode cX1_paint 23 = .ok (.getfield 29, 3) := by decide +kernel
theorem dX1_paint_26 : decode cX1_paint 26 = .ok (.iload_n 1, 1) := by decide +kernel
theorem dX1_paint_27 : decode cX1_paint 27 = .ok (.iconst 2, 1) := by decide +kernel
theorem dX1_paint_28 : decode cX1_paint 28 = .ok (.invokevirtual 68, 3) := by decide +kernel
theorem dX1_paint_31 : decode cX1_paint 31 = .ok (.iadd, 1) := by decide +kernel
theorem dX1_paint_32 : decode cX1_paint 32 = .ok (.aload_n 0, 1) := by decide +kernel
theorem dX1_paint_33 : decode cX1_paint 33 = .ok (.getfield 33, 3) := by decide +kernel
theorem dX1_paint_36 : decode cX1_paint 36 = .ok (.getfield 91, 3) := by decide +kernel
theorem dX1_paint_39 : decode cX1_paint 39 = .ok (.invokestatic 94, 3) := by decide +kernel
theorem dX1_paint_42 : decode cX1_paint 42 = .ok (.istore 5, 2) := by decide +kernel
theorem dX1_paint_44 : decode cX1_paint 44 = .ok (.iload 4, 2) := by decide +kernel
theorem dX1_paint_46 : decode cX1_paint 46 = .ok (.aload_n 0, 1) := by decide +kernel
theorem dX1_paint_47 : decode cX1_paint 47 = .ok (.getfield 29, 3) := by decide +kernel
theorem dX1_paint_50 : decode cX1_paint 50 = .ok (.iload_n 1, 1) := by decide +kernel
theorem dX1_paint_51 : decode cX1_paint 51 = .ok (.iconst 3, 1) := by decide +kernel
theorem dX1_paint_52 : decode cX1_paint 52 = .ok (.invokevirtual 68, 3) := by decide +kernel
theorem dX1_paint_55 : decode cX1_paint 55 = .ok (.iadd, 1) := by decide +kernel
theorem dX1_paint_56 : decode cX1_paint 56 = .ok (.aload_n 0, 1) := by decide +kernel
theorem dX1_paint_57 : decode cX1_paint 57 = .ok (.getfield 33, 3) := by decide +kernel
theorem dX1_paint_60 : decode cX1_paint 60 = .ok (.getfield 97, 3) := by decide +kernel
theorem dX1_paint_63 : decode cX1_paint 63 = .ok (.invokestatic 94, 3) := by decide +kernel
theorem dX1_paint_66 : decode cX1_paint 66 = .ok (.istore 6, 2) := by decide +kernel
theorem dX1_paint_68 : decode cX1_paint 68 = .ok (.aload_n 0, 1) := by decide +kernel
theorem dX1_paint_69 : decode cX1_paint 69 = .ok (.getfield 29, 3) := by decide +kernel
theorem dX1_paint_72 : decode cX1_paint 72 = .ok (.iload_n 1, 1) := by decide +kernel
theorem dX1_paint_73 : decode cX1_paint 73 = .ok (.iconst 4, 1) := by decide +kernel
theorem dX1_paint_74 : decode cX1_paint 74 = .ok (.invokevirtual 68, 3) := by decide +kernel
theorem dX1_paint_77 : decode cX1_paint 77 = .ok (.istore 7, 2) := by decide +kernel
theorem dX1_paint_79 : decode cX1_paint 79 = .ok (.aload_n 0, 1) := by decide +kernel
theorem dX1_paint_80 : decode cX1_paint 80 = .ok (.getfield 29, 3) := by decide +kernel
theorem dX1_paint_83 : decode cX1_paint 83 = .ok (.iload_n 1, 1) := by decide +kernel
theorem dX1_paint_84 : decode cX1_paint 84 = .ok (.iconst 5, 1) := by decide +kernel
theorem dX1_paint_85 : decode cX1_paint 85 = .ok (.invokevirtual 68, 3) := by decide +kernel
theorem dX1_paint_88 : decode cX1_paint 88 = .ok (.istore 8, 2) := by decide +kernel
theorem dX1_paint_90 : decode cX1_paint 90 = .ok (.aload_n 0, 1) := by decide +kernel
theorem dX1_paint_91 : decode cX1_paint 91 = .ok (.getfield 17, 3) := by decide +kernel
theorem dX1_paint_94 : decode cX1_paint 94 = .ok (.iconst 5, 1) := by decide +kernel
theorem dX1_paint_95 : decode cX1_paint 95 = .ok (.iload_n 2, 1) := by decide +kernel
theorem dX1_paint_96 : decode cX1_paint 96 = .ok (.iastore, 1) := by decide +kernel
theorem dX1_paint_97 : decode cX1_paint 97 = .ok (.iload 4, 2) := by decide +kernel
theorem dX1_paint_99 : decode cX1_paint 99 = .ok (.istore 9, 2) := by decide +kernel
theorem dX1_paint_101 : decode cX1_paint 101 = .ok (.iload 9, 2) := by decide +kernel
theorem dX1_paint_103 : decode cX1_paint 103 = .ok (.iload 6, 2) := by decide +kernel
theorem dX1_paint_105 : decode cX1_paint 105 = .ok (.if_icmp .ge 61, 3) := by decide +kernel
theorem dX1_paint_108 : decode cX1_paint 108 = .ok (.iload_n 3, 1) := by decide +kernel
theorem dX1_paint_109 : decode cX1_paint 109 = .ok (.istore 10, 2) := by decide +kernel
theorem dX1_paint_111 : decode cX1_paint 111 = .ok (.iload 10, 2) := by decide +kernel
theorem dX1_paint_113 : decode cX1_paint 113 = .ok (.iload 5, 2) := by decide +kernel
theorem dX1_paint_115 : decode cX1_paint 115 = .ok (.if_icmp .ge 45, 3) := by decide +kernel
theorem dX1_paint_118 : decode cX1_paint 118 = .ok (.aload_n 0, 1) := by decide +kernel
theorem dX1_paint_119 : decode cX1_paint 119 = .ok (.iload 10, 2) := by decide +kernel
theorem dX1_paint_121 : decode cX1_paint 121 = .ok (.iload 9, 2) := by decide +kernel
theorem dX1_paint_123 : decode cX1_paint 123 = .ok (.iload 7, 2) := by decide +kernel
theorem dX1_paint_125 : decode cX1_paint 125 = .ok (.iload 8, 2) := by decide +kernel
theorem dX1_paint_127 : decode cX1_paint 127 = .ok (.invokevirtual 106, 3) := by decide +kernel
theorem dX1_paint_130 : decode cX1_paint 130 = .ok (.istore 11, 2) := by decide +kernel
theorem dX1_paint_132 : decode cX1_paint 132 = .ok (.aload_n 0, 1) := by decide +kernel
theorem dX1_paint_133 : decode cX1_paint 133 = .ok (.getfield 33, 3) := by decide +kernel
theorem dX1_paint_136 : decode cX1_paint 136 = .ok (.iload 10, 2) := by decide +kernel
theorem dX1_paint_138 : decode cX1_paint 138 = .ok (.iload 9, 2) := by decide +kernel
theorem dX1_paint_140 : decode cX1_paint 140 = .ok (.iconst 0, 1) := by decide +kernel
theorem dX1_paint_141 : decode cX1_paint 141 = .ok (.bipush 99, 2) := by decide +kernel
theorem dX1_paint_143 : decode cX1_paint 143 = .ok (.iload 11, 2) := by decide +kernel
theorem dX1_paint_145 : decode cX1_paint 145 = .ok (.invokestatic 94, 3) := by decide +kernel
theorem dX1_paint_148 : decode cX1_paint 148 = .ok (.invokestatic 72, 3) := by decide +kernel
theorem dX1_paint_151 : decode cX1_paint 151 = .ok (.invokevirtual 103, 3) := by decide +kernel
theorem dX1_paint_154 : decode cX1_paint 154 = .ok (.iinc 10 1, 3) := by decide +kernel
theorem dX1_paint_157 : decode cX1_paint 157 = .ok (.goto (-46), 3) := by decide +kernel
theorem dX1_paint_160 : decode cX1_paint 160 = .ok (.iinc 9 1, 3) := by decide +kernel
theorem dX1_paint_163 : decode cX1_paint 163 = .ok (.goto (-62), 3) := by decide +kernel
theorem dX1_paint_166 : decode cX1_paint 166 = .ok (.return_, 1) := by decide +kernel
theorem dX1_keep_0 : decode cX1_keep 0 = .ok (.aload_n 0, 1) := by decide +kernel
theorem dX1_keep_1 : decode cX1_keep 1 = .ok (.getfield 29, 3) := by decide +kernel
theorem dX1_keep_4 : decode cX1_keep 4 = .ok (.iload_n 1, 1) := by decide +kernel
theorem dX1_keep_5 : decode cX1_keep 5 = .ok (.iconst 0, 1) := by decide +kernel
theorem dX1_keep_6 : decode cX1_keep 6 = .ok (.invokevirtual 68, 3) := by decide +kernel
theorem dX1_keep_9 : decode cX1_keep 9 = .ok (.istore_n 2, 1) := by decide +kernel
theorem dX1_keep_10 : decode cX1_keep 10 = .ok (.aload_n 0, 1) := by decide +kernel
theorem dX1_keep_11 : decode cX1_keep 11 = .ok (.getfield 29, 3) := by decide +kernel
theorem dX1_keep_14 : decode cX1_keep 14 = .ok (.iload_n 1, 1) := by decide +kernel
theorem dX1_keep_15 : decode cX1_keep 15 = .ok (.iconst 1, 1) := by decide +kernel
theorem dX1_keep_16 : decode cX1_keep 16 = .ok (.invokevirtual 68, 3) := by decide +kernel
theorem dX1_keep_19 : decode cX1_keep 19 = .ok (.iconst 4, 1) := by decide +kernel
theorem dX1_keep_20 : decode cX1_keep 20 = .ok (.invokestatic 110, 3) := by decide +kernel
theorem dX1_keep_23 : decode cX1_keep 23 = .ok (.istore_n 3, 1) := by decide +kernel
theorem dX1_keep_24 : decode cX1_keep 24 = .ok (.aload_n 0, 1) := by decide +kernel
theorem dX1_keep_25 : decode cX1_keep 25 = .ok (.getfield 29, 3) := by decide +kernel
theorem dX1_keep_28 : decode cX1_keep 28 = .ok (.iload_n 1, 1) := by decide +kernel
theorem dX1_keep_29 : decode cX1_keep 29 = .ok (.iconst 2, 1) := by decide +kernel
theorem dX1_keep_30 : decode cX1_keep 30 = .ok (.invokevirtual 68, 3) := by decide +kernel
theorem dX1_keep_33 : decode cX1_keep 33 = .ok (.iconst 4, 1) := by decide +kernel
theorem dX1_keep_34 : decode cX1_keep 34 = .ok (.invokestatic 110, 3) := by decide +kernel
theorem dX1_keep_37 : decode cX1_keep 37 = .ok (.istore 4, 2) := by decide +kernel
theorem dX1_keep_39 : decode cX1_keep 39 = .ok (.iload_n 3, 1) := by decide +kernel
theorem dX1_keep_40 : decode cX1_keep 40 = .ok (.aload_n 0, 1) := by decide +kernel
theorem dX1_keep_41 : decode cX1_keep 41 = .ok (.getfield 33, 3) := by decide +kernel
theorem dX1_keep_44 : decode cX1_keep 44 = .ok (.getfield 91, 3) := by decide +kernel
theorem dX1_keep_47 : decode cX1_keep 47 = .ok (.iload_n 3, 1) := by decide +kernel
theorem dX1_keep_48 : decode cX1_keep 48 = .ok (.isub, 1) := by decide +kernel
theorem dX1_keep_49 : decode cX1_keep 49 = .ok (.iconst 4, 1) := by decide +kernel
theorem dX1_keep_50 : decode cX1_keep 50 = .ok (.invokestatic 113, 3) := by decide +kernel
theorem dX1_keep_53 : decode cX1_keep 53 = .ok (.iconst 4, 1) := by decide +kernel
theorem dX1_keep_54 : decode cX1_keep 54 = .ok (.imul, 1) := by decide +kernel
theorem dX1_keep_55 : decode cX1_keep 55 = .ok (.iadd, 1) := by decide +kernel
theorem dX1_keep_56 : decode cX1_keep 56 = .ok (.istore 5, 2) := by decide +kernel
theorem dX1_keep_58 : decode cX1_keep 58 = .ok (.iload 4, 2) := by decide +kernel
theorem dX1_keep_60 : decode cX1_keep 60 = .ok (.aload_n 0, 1) := by decide +kernel
theorem dX1_keep_61 : decode cX1_keep 61 = .ok (.getfield 33, 3) := by decide +kernel
theorem dX1_keep_64 : decode cX1_keep 64 = .ok (.getfield 97, 3) := by decide +kernel
theorem dX1_keep_67 : decode cX1_keep 67 = .ok (.iload 4, 2) := by decide +kernel
theorem dX1_keep_69 : decode cX1_keep 69 = .ok (.isub, 1) := by decide +kernel
theorem dX1_keep_70 : decode cX1_keep 70 = .ok (.iconst 4, 1) := by decide +kernel
theorem dX1_keep_71 : decode cX1_keep 71 = .ok (.invokestatic 113, 3) := by decide +kernel
theorem dX1_keep_74 : decode cX1_keep 74 = .ok (.iconst 4, 1) := by decide +kernel
theorem dX1_keep_75 : decode cX1_keep 75 = .ok (.imul, 1) := by decide +kernel
theorem dX1_keep_76 : decode cX1_keep 76 = .ok (.iadd, 1) := by decide +kernel
theorem dX1_keep_77 : decode cX1_keep 77 = .ok (.istore 6, 2) := by decide +kernel
theorem dX1_keep_79 : decode cX1_keep 79 = .ok (.iload 4, 2) := by decide +kernel
theorem dX1_keep_81 : decode cX1_keep 81 = .ok (.istore 7, 2) := by decide +kernel
theorem dX1_keep_83 : decode cX1_keep 83 = .ok (.iload 7, 2) := by decide +kernel
theorem dX1_keep_85 : decode cX1_keep 85 = .ok (.iload 6, 2) := by decide +kernel
theorem dX1_keep_87 : decode cX1_keep 87 = .ok (.if_icmp .ge 51, 3) := by decide +kernel
theorem dX1_keep_90 : decode cX1_keep 90 = .ok (.iload_n 3, 1) := by decide +kernel
theorem dX1_keep_91 : decode cX1_keep 91 = .ok (.istore 8, 2) := by decide +kernel
theorem dX1_keep_93 : decode cX1_keep 93 = .ok (.iload 8, 2) := by decide +kernel
theorem dX1_keep_95 : decode cX1_keep 95 = .ok (.iload 5, 2) := by decide +kernel
theorem dX1_keep_97 : decode cX1_keep 97 = .ok (.if_icmp .ge 35, 3) := by decide +kernel
theorem dX1_keep_100 : decode cX1_keep 100 = .ok (.aload_n 0, 1) := by decide +kernel
theorem dX1_keep_101 : decode cX1_keep 101 = .ok (.getfield 33, 3) := by decide +kernel
theorem dX1_keep_104 : decode cX1_keep 104 = .ok (.iload 8, 2) := by decide +kernel
theorem dX1_keep_106 : decode cX1_keep 106 = .ok (.iload 7, 2) := by decide +kernel
theorem dX1_keep_108 : decode cX1_keep 108 = .ok (.aload_n 0, 1) := by decide +kernel
theorem dX1_keep_109 : decode cX1_keep 109 = .ok (.getfield 33, 3) := by decide +kernel
theorem dX1_keep_112 : decode cX1_keep 112 = .ok (.iload 8, 2) := by decide +kernel
theorem dX1_keep_114 : decode cX1_keep 114 = .ok (.iload 7, 2) := by decide +kernel
theorem dX1_keep_116 : decode cX1_keep 116 = .ok (.invokevirtual 100, 3) := by decide +kernel
theorem dX1_keep_119 : decode cX1_keep 119 = .ok (.iload_n 2, 1) := by decide +kernel
theorem dX1_keep_120 : decode cX1_keep 120 = .ok (.invokestatic 116, 3) := by decide +kernel
theorem dX1_keep_123 : decode cX1_keep 123 = .ok (.invokevirtual 103, 3) := by decide +kernel
theorem dX1_keep_126 : decode cX1_keep 126 = .ok (.iinc 8 1, 3) := by decide +kernel
theorem dX1_keep_129 : decode cX1_keep 129 = .ok (.goto (-36), 3) := by decide +kernel
theorem dX1_keep_132 : decode cX1_keep 132 = .ok (.iinc 7 1, 3) := by decide +kernel
theorem dX1_keep_135 : decode cX1_keep 135 = .ok (.goto (-52), 3) := by decide +kernel
theorem dX1_keep_138 : decode cX1_keep 138 = .ok (.return_, 1) := by decide +kernel
theorem dX1_nearestMultiple_0 : decode cX1_nearestMultiple 0 = .ok (.iload_n 1, 1) := by decide +kernel
theorem dX1_nearestMultiple_1 : decode cX1_nearestMultiple 1 = .ok (.ifCond .gt 5, 3) := by decide +kernel
theorem dX1_nearestMultiple_4 : decode cX1_nearestMultiple 4 = .ok (.iload_n 0, 1) := by decide +kernel
theorem dX1_nearestMultiple_5 : decode cX1_nearestMultiple 5 = .ok (.ireturn, 1) := by decide +kernel
theorem dX1_nearestMultiple_6 : decode cX1_nearestMultiple 6 = .ok (.iload_n 0, 1) := by decide +kernel
theorem dX1_nearestMultiple_7 : decode cX1_nearestMultiple 7 = .ok (.iload_n 1, 1) := by decide +kernel
theorem dX1_nearestMultiple_8 : decode cX1_nearestMultiple 8 = .ok (.irem, 1) := by decide +kernel
theorem dX1_nearestMultiple_9 : decode cX1_nearestMultiple 9 = .ok (.istore_n 2, 1) := by decide +kernel
theorem dX1_nearestMultiple_10 : decode cX1_nearestMultiple 10 = .ok (.iload_n 0, 1) := by decide +kernel
theorem dX1_nearestMultiple_11 : decode cX1_nearestMultiple 11 = .ok (.iload_n 2, 1) := by decide +kernel
theorem dX1_nearestMultiple_12 : decode cX1_nearestMultiple 12 = .ok (.isub, 1) := by decide +kernel
theorem dX1_nearestMultiple_13 : decode cX1_nearestMultiple 13 = .ok (.istore_n 3, 1) := by decide +kernel
theorem dX1_nearestMultiple_14 : decode cX1_nearestMultiple 14 = .ok (.iconst 2, 1) := by decide +kernel
theorem dX1_nearestMultiple_15 : decode cX1_nearestMultiple 15 = .ok (.iload_n 2, 1) := by decide +kernel
theorem dX1_nearestMultiple_16 : decode cX1_nearestMultiple 16 = .ok (.imul, 1) := by decide +kernel
theorem dX1_nearestMultiple_17 : decode cX1_nearestMultiple 17 = .ok (.iload_n 1, 1) := by decide +kernel
theorem dX1_nearestMultiple_18 : decode cX1_nearestMultiple 18 = .ok (.if_icmp .le 14, 3) := by decide +kernel
theorem dX1_nearestMultiple_21 : decode cX1_nearestMultiple 21 = .ok (.bipush 99, 2) := by decide +kernel
theorem dX1_nearestMultiple_23 : decode cX1_nearestMultiple 23 = .ok (.iload_n 3, 1) := by decide +kernel
theorem dX1_nearestMultiple_24 : decode cX1_nearestMultiple 24 = .ok (.iload_n 1, 1) := by decide +kernel
theorem dX1_nearestMultiple_25 : decode cX1_nearestMultiple 25 = .ok (.iadd, 1) := by decide +kernel
theorem dX1_nearestMultiple_26 : decode cX1_nearestMultiple 26 = .ok (.invokestatic 94, 3) := by decide +kernel
theorem dX1_nearestMultiple_29 : decode cX1_nearestMultiple 29 = .ok (.goto 4, 3) := by decide +kernel
theorem dX1_nearestMultiple_32 : decode cX1_nearestMultiple 32 = .ok (.iload_n 3, 1) := by decide +kernel
theorem dX1_nearestMultiple_33 : decode cX1_nearestMultiple 33 = .ok (.ireturn, 1) := by decide +kernel
theorem dX1_flip_0 : decode cX1_flip 0 = .ok (.aload_n 0, 1) := by decide +kernel
theorem dX1_flip_1 : decode cX1_flip 1 = .ok (.getfield 29, 3) := by decide +kernel
theorem dX1_flip_4 : decode cX1_flip 4 = .ok (.iload_n 1, 1) := by decide +kernel
theorem dX1_flip_5 : decode cX1_flip 5 = .ok (.iconst 0, 1) := by decide +kernel
theorem dX1_flip_6 : decode cX1_flip 6 = .ok (.invokevirtual 68, 3) := by decide +kernel
theorem dX1_flip_9 : decode cX1_flip 9 = .ok (.istore_n 2, 1) := by decide +kernel
theorem dX1_flip_10 : decode cX1_flip 10 = .ok (.aload_n 0, 1) := by decide +kernel
theorem dX1_flip_11 : decode cX1_flip 11 = .ok (.getfield 29, 3) := by decide +kernel
theorem dX1_flip_14 : decode cX1_flip 14 = .ok (.iload_n 1, 1) := by decide +kernel
theorem dX1_flip_15 : decode cX1_flip 15 = .ok (.iconst 1, 1) := by decide +kernel
theorem dX1_flip_16 : decode cX1_flip 16 = .ok (.invokevirtual 68, 3) := by decide +kernel
theorem dX1_flip_19 : decode cX1_flip 19 = .ok (.istore_n 3, 1) := by decide +kernel
theorem dX1_flip_20 : decode cX1_flip 20 = .ok (.iload_n 2, 1) := by decide +kernel
theorem dX1_flip_21 : decode cX1_flip 21 = .ok (.aload_n 0, 1) := by decide +kernel
theorem dX1_flip_22 : decode cX1_flip 22 = .ok (.getfield 29, 3) := by decide +kernel
theorem dX1_flip_25 : decode cX1_flip 25 = .ok (.iload_n 1, 1) := by decide +kernel
theorem dX1_flip_26 : decode cX1_flip 26 = .ok (.iconst 2, 1) := by decide +kernel
theorem dX1_flip_27 : decode cX1_flip 27 = .ok (.invokevirtual 68, 3) := by decide +kernel
theorem dX1_flip_30 : decode cX1_flip 30 = .ok (.iadd, 1) := by decide +kernel
theorem dX1_flip_31 : decode cX1_flip 31 = .ok (.aload_n 0, 1) := by decide +kernel
theorem dX1_flip_32 : decode cX1_flip 32 = .ok (.getfield 33, 3) := by decide +kernel
theorem dX1_flip_35 : decode cX1_flip 35 = .ok (.getfield 91, 3) := by decide +kernel
theorem dX1_flip_38 : decode cX1_flip 38 = .ok (.invokestatic 94, 3) := by decide +kernel
theorem dX1_flip_41 : decode cX1_flip 41 = .ok (.istore 4, 2) := by decide +kernel
theorem dX1_flip_43 : decode cX1_flip 43 = .ok (.iload_n 3, 1) := by decide +kernel
theorem dX1_flip_44 : decode cX1_flip 44 = .ok (.aload_n 0, 1) := by decide +kernel
theorem dX1_flip_45 : decode cX1_flip 45 = .ok (.getfield 29, 3) := by decide +kernel
theorem dX1_flip_48 : decode cX1_flip 48 = .ok (.iload_n 1, 1) := by decide +kernel
theorem dX1_flip_49 : decode cX1_flip 49 = .ok (.iconst 3, 1) := by decide +kernel
theorem dX1_flip_50 : decode cX1_flip 50 = .ok (.invokevirtual 68, 3) := by decide +kernel
theorem dX1_flip_53 : decode cX1_flip 53 = .ok (.iadd, 1) := by decide +kernel
theorem dX1_flip_54 : decode cX1_flip 54 = .ok (.aload_n 0, 1) := by decide +kernel
theorem dX1_flip_55 : decode cX1_flip 55 = .ok (.getfield 33, 3) := by decide +kernel
theorem dX1_flip_58 : decode cX1_flip 58 = .ok (.getfield 97, 3) := by decide +kernel
theorem dX1_flip_61 : decode cX1_flip 61 = .ok (.invokestatic 94, 3) := by decide +kernel
theorem dX1_flip_64 : decode cX1_flip 64 = .ok (.istore 5, 2) := by decide +kernel
theorem dX1_flip_66 : decode cX1_flip 66 = .ok (.iload_n 3, 1) := by decide +kernel
theorem dX1_flip_67 : decode cX1_flip 67 = .ok (.istore 6, 2) := by decide +kernel
theorem dX1_flip_69 : decode cX1_flip 69 = .ok (.iload 6, 2) := by decide +kernel
theorem dX1_flip_71 : decode cX1_flip 71 = .ok (.iload 5, 2) := by decide +kernel
theorem dX1_flip_73 : decode cX1_flip 73 = .ok (.if_icmp .ge 91, 3) := by decide +kernel
theorem dX1_flip_76 : decode cX1_flip 76 = .ok (.iconst 0, 1) := by decide +kernel
theorem dX1_flip_77 : decode cX1_flip 77 = .ok (.istore 7, 2) := by decide +kernel
theorem dX1_flip_79 : decode cX1_flip 79 = .ok (.iload 7, 2) := by decide +kernel
theorem dX1_flip_81 : decode cX1_flip 81 = .ok (.iload 4, 2) := by decide +kernel
theorem dX1_flip_83 : decode cX1_flip 83 = .ok (.iload_n 2, 1) := by decide +kernel
theorem dX1_flip_84 : decode cX1_flip 84 = .ok (.isub, 1) := by decide +kernel
theorem dX1_flip_85 : decode cX1_flip 85 = .ok (.iconst 2, 1) := by decide +kernel
theorem dX1_flip_86 : decode cX1_flip 86 = .ok (.idiv, 1) := by decide +kernel
theorem dX1_flip_87 : decode cX1_flip 87 = .ok (.if_icmp .ge 71, 3) := by decide +kernel
theorem dX1_flip_90 : decode cX1_flip 90 = .ok (.aload_n 0, 1) := by decide +kernel
theorem dX1_flip_91 : decode cX1_flip 91 = .ok (.getfield 33, 3) := by decide +kernel
theorem dX1_flip_94 : decode cX1_flip 94 = .ok (.iload_n 2, 1) := by decide +kernel
theorem dX1_flip_95 : decode cX1_flip 95 = .ok (.iload 7, 2) := by decide +kernel
theorem dX1_flip_97 : decode cX1_flip 97 = .ok (.iadd, 1) := by decide +kernel
theorem dX1_flip_98 : decode cX1_flip 98 = .ok (.iload 6, 2) := by decide +kernel
theorem dX1_flip_100 : decode cX1_flip 100 = .ok (.invokevirtual 100, 3) := by decide +kernel
theorem dX1_flip_103 : decode cX1_flip 103 = .ok (.istore 8, 2) := by decide +kernel
theorem dX1_flip_105 : decode cX1_flip 105 = .ok (.aload_n 0, 1) := by decide +kernel
theorem dX1_flip_106 : decode cX1_flip 106 = .ok (.getfield 33, 3) := by decide +kernel
theorem dX1_flip_109 : decode cX1_flip 109 = .ok (.iload_n 2, 1) := by decide +kernel
theorem dX1_flip_110 : decode cX1_flip 110 = .ok (.iload 7, 2) := by decide +kernel
theorem dX1_flip_112 : decode cX1_flip 112 = .ok (.iadd, 1) := by decide +kernel
theorem dX1_flip_113 : decode cX1_flip 113 = .ok (.iload 6, 2) := by decide +kernel
theorem dX1_flip_115 : decode cX1_flip 115 = .ok (.aload_n 0, 1) := by decide +kernel
theorem dX1_flip_116 : decode cX1_flip 116 = .ok (.getfield 33, 3) := by decide +kernel
theorem dX1_flip_119 : decode cX1_flip 119 = .ok (.iload 4, 2) := by decide +kernel
theorem dX1_flip_121 : decode cX1_flip 121 = .ok (.iconst 1, 1) := by decide +kernel
theorem dX1_flip_122 : decode cX1_flip 122 = .ok (.isub, 1) := by decide +kernel
theorem dX1_flip_123 : decode cX1_flip 123 = .ok (.iload 7, 2) := by decide +kernel
theorem dX1_flip_125 : decode cX1_flip 125 = .ok (.isub, 1) := by decide +kernel
theorem dX1_flip_126 : decode cX1_flip 126 = .ok (.iload 6, 2) := by decide +kernel
theorem dX1_flip_128 : decode cX1_flip 128 = .ok (.invokevirtual 100, 3) := by decide +kernel
theorem dX1_flip_131 : decode cX1_flip 131 = .ok (.invokevirtual 103, 3) := by decide +kernel
theorem dX1_flip_134 : decode cX1_flip 134 = .ok (.aload_n 0, 1) := by decide +kernel
theorem dX1_flip_135 : decode cX1_flip 135 = .ok (.getfield 33, 3) := by decide +kernel
theorem dX1_flip_138 : decode cX1_flip 138 = .ok (.iload 4, 2) := by decide +kernel
theorem dX1_flip_140 : decode cX1_flip 140 = .ok (.iconst 1, 1) := by decide +kernel
theorem dX1_flip_141 : decode cX1_flip 141 = .ok (.isub, 1) := by decide +kernel
theorem dX1_flip_142 : decode cX1_flip 142 = .ok (.iload 7, 2) := by decide +kernel
theorem dX1_flip_144 : decode cX1_flip 144 = .ok (.isub, 1) := by decide +kernel
theorem dX1_flip_145 : decode cX1_flip 145 = .ok (.iload 6, 2) := by decide +kernel
theorem dX1_flip_147 : decode cX1_flip 147 = .ok (.iload 8, 2) := by decide +kernel
theorem dX1_flip_149 : decode cX1_flip 149 = .ok (.invokevirtual 103, 3) := by decide +kernel
theorem dX1_flip_152 : decode cX1_flip 152 = .ok (.iinc 7 1, 3) := by decide +kernel
theorem dX1_flip_155 : decode cX1_flip 155 = .ok (.goto (-76), 3) := by decide +kernel
theorem dX1_flip_158 : decode cX1_flip 158 = .ok (.iinc 6 1, 3) := by decide +kernel
theorem dX1_flip_161 : decode cX1_flip 161 = .ok (.goto (-92), 3) := by decide +kernel
theorem dX1_flip_164 : decode cX1_flip 164 = .ok (.return_, 1) := by decide +kernel
theorem dX1_sumAt_0 : decode cX1_sumAt 0 = .ok (.aload_n 0, 1) := by decide +kernel
theorem dX1_sumAt_1 : decode cX1_sumAt 1 = .ok (.getfield 17, 3) := by decide +kernel
theorem dX1_sumAt_4 : decode cX1_sumAt 4 = .ok (.iconst 0, 1) := by decide +kernel
theorem dX1_sumAt_5 : decode cX1_sumAt 5 = .ok (.aload_n 0, 1) := by decide +kernel
theorem dX1_sumAt_6 : decode cX1_sumAt 6 = .ok (.getfield 33, 3) := by decide +kernel
theorem dX1_sumAt_9 : decode cX1_sumAt 9 = .ok (.iload_n 1, 1) := by decide +kernel
theorem dX1_sumAt_10 : decode cX1_sumAt 10 = .ok (.iload_n 2, 1) := by decide +kernel
theorem dX1_sumAt_11 : decode cX1_sumAt 11 = .ok (.invokevirtual 100, 3) := by decide +kernel
theorem dX1_sumAt_14 : decode cX1_sumAt 14 = .ok (.iastore, 1) := by decide +kernel
theorem dX1_sumAt_15 : decode cX1_sumAt 15 = .ok (.aload_n 0, 1) := by decide +kernel
theorem dX1_sumAt_16 : decode cX1_sumAt 16 = .ok (.getfield 17, 3) := by decide +kernel
theorem dX1_sumAt_19 : decode cX1_sumAt 19 = .ok (.iconst 1, 1) := by decide +kernel
theorem dX1_sumAt_20 : decode cX1_sumAt 20 = .ok (.iload_n 1, 1) := by decide +kernel
theorem dX1_sumAt_21 : decode cX1_sumAt 21 = .ok (.iastore, 1) := by decide +kernel
theorem dX1_sumAt_22 : decode cX1_sumAt 22 = .ok (.aload_n 0, 1) := by decide +kernel
theorem dX1_sumAt_23 : decode cX1_sumAt 23 = .ok (.getfield 17, 3) := by decide +kernel
theorem dX1_sumAt_26 : decode cX1_sumAt 26 = .ok (.iconst 2, 1) := by decide +kernel
theorem dX1_sumAt_27 : decode cX1_sumAt 27 = .ok (.iload_n 2, 1) := by decide +kernel
theorem dX1_sumAt_28 : decode cX1_sumAt 28 = .ok (.iastore, 1) := by decide +kernel
theorem dX1_sumAt_29 : decode cX1_sumAt 29 = .ok (.aload_n 0, 1) := by decide +kernel
theorem dX1_sumAt_30 : decode cX1_sumAt 30 = .ok (.getfield 17, 3) := by decide +kernel
theorem dX1_sumAt_33 : decode cX1_sumAt 33 = .ok (.iconst 3, 1) := by decide +kernel
theorem dX1_sumAt_34 : decode cX1_sumAt 34 = .ok (.aload_n 0, 1) := by decide +kernel
theorem dX1_sumAt_35 : decode cX1_sumAt 35 = .ok (.getfield 33, 3) := by decide +kernel
theorem dX1_sumAt_38 : decode cX1_sumAt 38 = .ok (.iload_n 1, 1) := by decide +kernel
theorem dX1_sumAt_39 : decode cX1_sumAt 39 = .ok (.iconst 1, 1) := by decide +kernel
theorem dX1_sumAt_40 : decode cX1_sumAt 40 = .ok (.isub, 1) := by decide +kernel
theorem dX1_sumAt_41 : decode cX1_sumAt 41 = .ok (.iload_n 2, 1) := by decide +kernel
theorem dX1_sumAt_42 : decode cX1_sumAt 42 = .ok (.invokevirtual 100, 3) := by decide +kernel
theorem dX1_sumAt_45 : decode cX1_sumAt 45 = .ok (.iastore, 1) := by decide +kernel
theorem dX1_sumAt_46 : decode cX1_sumAt 46 = .ok (.aload_n 0, 1) := by decide +kernel
theorem dX1_sumAt_47 : decode cX1_sumAt 47 = .ok (.getfield 17, 3) := by decide +kernel
theorem dX1_sumAt_50 : decode cX1_sumAt 50 = .ok (.iconst 4, 1) := by decide +kernel
theorem dX1_sumAt_51 : decode cX1_sumAt 51 = .ok (.aload_n 0, 1) := by decide +kernel
theorem dX1_sumAt_52 : decode cX1_sumAt 52 = .ok (.getfield 33, 3) := by decide +kernel
theorem dX1_sumAt_55 : decode cX1_sumAt 55 = .ok (.iload_n 1, 1) := by decide +kernel
theorem dX1_sumAt_56 : decode cX1_sumAt 56 = .ok (.iload_n 2, 1) := by decide +kernel
theorem dX1_sumAt_57 : decode cX1_sumAt 57 = .ok (.iconst 1, 1) := by decide +kernel
theorem dX1_sumAt_58 : decode cX1_sumAt 58 = .ok (.isub, 1) := by decide +kernel
theorem dX1_sumAt_59 : decode cX1_sumAt 59 = .ok (.invokevirtual 100, 3) := by decide +kernel
theorem dX1_sumAt_62 : decode cX1_sumAt 62 = .ok (.iastore, 1) := by decide +kernel
theorem dX1_sumAt_63 : decode cX1_sumAt 63 = .ok (.iconst 0, 1) := by decide +kernel
theorem dX1_sumAt_64 : decode cX1_sumAt 64 = .ok (.istore 5, 2) := by decide +kernel
theorem dX1_sumAt_66 : decode cX1_sumAt 66 = .ok (.iload_n 3, 1) := by decide +kernel
theorem dX1_sumAt_67 : decode cX1_sumAt 67 = .ok (.istore 6, 2) := by decide +kernel
theorem dX1_sumAt_69 : decode cX1_sumAt 69 = .ok (.iload 6, 2) := by decide +kernel
theorem dX1_sumAt_71 : decode cX1_sumAt 71 = .ok (.iload 4, 2) := by decide +kernel
theorem dX1_sumAt_73 : decode cX1_sumAt 73 = .ok (.if_icmp .ge 147, 3) := by decide +kernel
theorem dX1_sumAt_76 : decode cX1_sumAt 76 = .ok (.aload_n 0, 1) := by decide +kernel
theorem dX1_sumAt_77 : decode cX1_sumAt 77 = .ok (.getfield 29, 3) := by decide +kernel
theorem dX1_sumAt_80 : decode cX1_sumAt 80 = .ok (.iload 6, 2) := by decide +kernel
theorem dX1_sumAt_82 : decode cX1_sumAt 82 = .ok (.invokevirtual 119, 3) := by decide +kernel
theorem dX1_sumAt_85 : decode cX1_sumAt 85 = .ok (.istore 7, 2) := by decide +kernel
theorem dX1_sumAt_87 : decode cX1_sumAt 87 = .ok (.iload 7, 2) := by decide +kernel
theorem dX1_sumAt_89 : decode cX1_sumAt 89 = .ok (.sipush 1006, 3) := by decide +kernel
theorem dX1_sumAt_92 : decode cX1_sumAt 92 = .ok (.if_icmp .ge 47, 3) := by decide +kernel
theorem dX1_sumAt_95 : decode cX1_sumAt 95 = .ok (.iload 5, 2) := by decide +kernel
theorem dX1_sumAt_97 : decode cX1_sumAt 97 = .ok (.bipush 64, 2) := by decide +kernel
theorem dX1_sumAt_99 : decode cX1_sumAt 99 = .ok (.if_icmp .ge 115, 3) := by decide +kernel
theorem dX1_sumAt_102 : decode cX1_sumAt 102 = .ok (.aload_n 0, 1) := by decide +kernel
theorem dX1_sumAt_103 : decode cX1_sumAt 103 = .ok (.getfield 11, 3) := by decide +kernel
theorem dX1_sumAt_106 : decode cX1_sumAt 106 = .ok (.iload 5, 2) := by decide +kernel
theorem dX1_sumAt_108 : decode cX1_sumAt 108 = .ok (.iload 7, 2) := by decide +kernel
theorem dX1_sumAt_110 : decode cX1_sumAt 110 = .ok (.sipush 1000, 3) := by decide +kernel
theorem dX1_sumAt_113 : decode cX1_sumAt 113 = .ok (.if_icmp .ge 8, 3) := by decide +kernel
theorem dX1_sumAt_116 : decode cX1_sumAt 116 = .ok (.iload 7, 2) := by decide +kernel
theorem dX1_sumAt_118 : decode cX1_sumAt 118 = .ok (.goto 14, 3) := by decide +kernel
theorem dX1_sumAt_121 : decode cX1_sumAt 121 = .ok (.aload_n 0, 1) := by decide +kernel
theorem dX1_sumAt_122 : decode cX1_sumAt 122 = .ok (.getfield 17, 3) := by decide +kernel
theorem dX1_sumAt_125 : decode cX1_sumAt 125 = .ok (.iload 7, 2) := by decide +kernel
theorem dX1_sumAt_127 : decode cX1_sumAt 127 = .ok (.sipush 1000, 3) := by decide +kernel
theorem dX1_sumAt_130 : decode cX1_sumAt 130 = .ok (.isub, 1) := by decide +kernel
theorem dX1_sumAt_131 : decode cX1_sumAt 131 = .ok (.iaload, 1) := by decide +kernel
theorem dX1_sumAt_132 : decode cX1_sumAt 132 = .ok (.iastore, 1) := by decide +kernel
theorem dX1_sumAt_133 : decode cX1_sumAt 133 = .ok (.iinc 5 1, 3) := by decide +kernel
theorem dX1_sumAt_136 : decode cX1_sumAt 136 = .ok (.goto 78, 3) := by decide +kernel
theorem dX1_sumAt_139 : decode cX1_sumAt 139 = .ok (.iload 7, 2) := by decide +kernel
theorem dX1_sumAt_141 : decode cX1_sumAt 141 = .ok (.sipush 1010, 3) := by decide +kernel
theorem dX1_sumAt_144 : decode cX1_sumAt 144 = .ok (.if_icmp .ne 31, 3) := by decide +kernel
theorem dX1_sumAt_147 : decode cX1_sumAt 147 = .ok (.iload 5, 2) := by decide +kernel
theorem dX1_sumAt_149 : decode cX1_sumAt 149 = .ok (.iconst 1, 1) := by decide +kernel
theorem dX1_sumAt_150 : decode cX1_sumAt 150 = .ok (.if_icmp .lt 64, 3) := by decide +kernel
theorem dX1_sumAt_153 : decode cX1_sumAt 153 = .ok (.aload_n 0, 1) := by decide +kernel
theorem dX1_sumAt_154 : decode cX1_sumAt 154 = .ok (.getfield 11, 3) := by decide +kernel
theorem dX1_sumAt_157 : decode cX1_sumAt 157 = .ok (.iload 5, 2) := by decide +kernel
theorem dX1_sumAt_159 : decode cX1_sumAt 159 = .ok (.iconst 1, 1) := by decide +kernel
theorem dX1_sumAt_160 : decode cX1_sumAt 160 = .ok (.isub, 1) := by decide +kernel
theorem dX1_sumAt_161 : decode cX1_sumAt 161 = .ok (.aload_n 0, 1) := by decide +kernel
theorem dX1_sumAt_162 : decode cX1_sumAt 162 = .ok (.getfield 11, 3) := by decide +kernel
theorem dX1_sumAt_165 : decode cX1_sumAt 165 = .ok (.iload 5, 2) := by decide +kernel
theorem dX1_sumAt_167 : decode cX1_sumAt 167 = .ok (.iconst 1, 1) := by decide +kernel
theorem dX1_sumAt_168 : decode cX1_sumAt 168 = .ok (.isub, 1) := by decide +kernel
theorem dX1_sumAt_169 : decode cX1_sumAt 169 = .ok (.iaload, 1) := by decide +kernel
theorem dX1_sumAt_170 : decode cX1_sumAt 170 = .ok (.ineg, 1) := by decide +kernel
theorem dX1_sumAt_171 : decode cX1_sumAt 171 = .ok (.iastore, 1) := by decide +kernel
theorem dX1_sumAt_172 : decode cX1_sumAt 172 = .ok (.goto 42, 3) := by decide +kernel
theorem dX1_sumAt_175 : decode cX1_sumAt 175 = .ok (.iload 5, 2) := by decide +kernel
theorem dX1_sumAt_177 : decode cX1_sumAt 177 = .ok (.iconst 2, 1) := by decide +kernel
theorem dX1_sumAt_178 : decode cX1_sumAt 178 = .ok (.if_icmp .lt 36, 3) := by decide +kernel
theorem dX1_sumAt_181 : decode cX1_sumAt 181 = .ok (.iinc 5 (-1), 3) := by decide +kernel
theorem dX1_sumAt_184 : decode cX1_sumAt 184 = .ok (.aload_n 0, 1) := by decide +kernel
theorem dX1_sumAt_185 : decode cX1_sumAt 185 = .ok (.getfield 11, 3) := by decide +kernel
theorem dX1_sumAt_188 : decode cX1_sumAt 188 = .ok (.iload 5, 2) := by decide +kernel
theorem dX1_sumAt_190 : decode cX1_sumAt 190 = .ok (.iconst 1, 1) := by decide +kernel
theorem dX1_sumAt_191 : decode cX1_sumAt 191 = .ok (.isub, 1) := by decide +kernel
theorem dX1_sumAt_192 : decode cX1_sumAt 192 = .ok (.iload 7, 2) := by decide +kernel
theorem dX1_sumAt_194 : decode cX1_sumAt 194 = .ok (.aload_n 0, 1) := by decide +kernel
theorem dX1_sumAt_195 : decode cX1_sumAt 195 = .ok (.getfield 11, 3) := by decide +kernel
theorem dX1_sumAt_198 : decode cX1_sumAt 198 = .ok (.iload 5, 2) := by decide +kernel
theorem dX1_sumAt_200 : decode cX1_sumAt 200 = .ok (.iconst 1, 1) := by decide +kernel
theorem dX1_sumAt_201 : decode cX1_sumAt 201 = .ok (.isub, 1) := by decide +kernel
theorem dX1_sumAt_202 : decode cX1_sumAt 202 = .ok (.iaload, 1) := by decide +kernel
theorem dX1_sumAt_203 : decode cX1_sumAt 203 = .ok (.aload_n 0, 1) := by decide +kernel
theorem dX1_sumAt_204 : decode cX1_sumAt 204 = .ok (.getfield 11, 3) := by decide +kernel
theorem dX1_sumAt_207 : decode cX1_sumAt 207 = .ok (.iload 5, 2) := by decide +kernel
theorem dX1_sumAt_209 : decode cX1_sumAt 209 = .ok (.iaload, 1) := by decide +kernel
theorem dX1_sumAt_210 : decode cX1_sumAt 210 = .ok (.invokestatic 122, 3) := by decide +kernel
theorem dX1_sumAt_213 : decode cX1_sumAt 213 = .ok (.iastore, 1) := by decide +kernel
theorem dX1_sumAt_214 : decode cX1_sumAt 214 = .ok (.iinc 6 1, 3) := by decide +kernel
theorem dX1_sumAt_217 : decode cX1_sumAt 217 = .ok (.goto (-148), 3) := by decide +kernel
theorem dX1_sumAt_220 : decode cX1_sumAt 220 = .ok (.aload_n 0, 1) := by decide +kernel
theorem dX1_sumAt_221 : decode cX1_sumAt 221 = .ok (.getfield 11, 3) := by decide +kernel
theorem dX1_sumAt_224 : decode cX1_sumAt 224 = .ok (.iconst 0, 1) := by decide +kernel
theorem dX1_sumAt_225 : decode cX1_sumAt 225 = .ok (.iaload, 1) := by decide +kernel
theorem dX1_sumAt_226 : decode cX1_sumAt 226 = .ok (.ireturn, 1) := by decide +kernel
theorem dX1_reckon_0 : decode cX1_reckon 0 = .ok (.lconst 0, 1) := by decide +kernel
theorem dX1_reckon_1 : decode cX1_reckon 1 = .ok (.lstore_n 3, 1) := by decide +kernel
theorem dX1_reckon_2 : decode cX1_reckon 2 = .ok (.iload_n 0, 1) := by decide +kernel
theorem dX1_reckon_3 : decode cX1_reckon 3 = .ok (.sipush 1006, 3) := by decide +kernel
theorem dX1_reckon_6 : decode cX1_reckon 6 = .ok (.if_icmp .ne 11, 3) := by decide +kernel
theorem dX1_reckon_9 : decode cX1_reckon 9 = .ok (.iload_n 1, 1) := by decide +kernel
theorem dX1_reckon_10 : decode cX1_reckon 10 = .ok (.iload_n 2, 1) := by decide +kernel
theorem dX1_reckon_11 : decode cX1_reckon 11 = .ok (.iadd, 1) := by decide +kernel
theorem dX1_reckon_12 : decode cX1_reckon 12 = .ok (.i2l, 1) := by decide +kernel
theorem dX1_reckon_13 : decode cX1_reckon 13 = .ok (.lstore_n 3, 1) := by decide +kernel
theorem dX1_reckon_14 : decode cX1_reckon 14 = .ok (.goto 43, 3) := by decide +kernel
theorem dX1_reckon_17 : decode cX1_reckon 17 = .ok (.iload_n 0, 1) := by decide +kernel
theorem dX1_reckon_18 : decode cX1_reckon 18 = .ok (.sipush 1007, 3) := by decide +kernel
theorem dX1_reckon_21 : decode cX1_reckon 21 = .ok (.if_icmp .ne 11, 3) := by decide +kernel
theorem dX1_reckon_24 : decode cX1_reckon 24 = .ok (.iload_n 1, 1) := by decide +kernel
theorem dX1_reckon_25 : decode cX1_reckon 25 = .ok (.iload_n 2, 1) := by decide +kernel
theorem dX1_reckon_26 : decode cX1_reckon 26 = .ok (.isub, 1) := by decide +kernel
theorem dX1_reckon_27 : decode cX1_reckon 27 = .ok (.i2l, 1) := by decide +kernel
theorem dX1_reckon_28 : decode cX1_reckon 28 = .ok (.lstore_n 3, 1) := by decide +kernel
theorem dX1_reckon_29 : decode cX1_reckon 29 = .ok (.goto 28, 3) := by decide +kernel
theorem dX1_reckon_32 : decode cX1_reckon 32 = .ok (.iload_n 0, 1) := by decide +kernel
theorem dX1_reckon_33 : decode cX1_reckon 33 = .ok (.sipush 1008, 3) := by decide +kernel
theorem dX1_reckon_36 : decode cX1_reckon 36 = .ok (.if_icmp .ne 12, 3) := by decide +kernel
theorem dX1_reckon_39 : decode cX1_reckon 39 = .ok (.iload_n 1, 1) := by decide +kernel
theorem dX1_reckon_40 : decode cX1_reckon 40 = .ok (.i2l, 1) := by decide +kernel
theorem dX1_reckon_41 : decode cX1_reckon 41 = .ok (.iload_n 2, 1) := by decide +kernel
theorem dX1_reckon_42 : decode cX1_reckon 42 = .ok (.i2l, 1) := by decide +kernel
theorem dX1_reckon_43 : decode cX1_reckon 43 = .ok (.lmul, 1) := by decide +kernel
theorem dX1_reckon_44 : decode cX1_reckon 44 = .ok (.lstore_n 3, 1) := by decide +kernel
theorem dX1_reckon_45 : decode cX1_reckon 45 = .ok (.goto 12, 3) := by decide +kernel
theorem dX1_reckon_48 : decode cX1_reckon 48 = .ok (.iload_n 2, 1) := by decide +kernel
theorem dX1_reckon_49 : decode cX1_reckon 49 = .ok (.ifCond .eq 8, 3) := by decide +kernel
theorem dX1_reckon_52 : decode cX1_reckon 52 = .ok (.iload_n 1, 1) := by decide +kernel
theorem dX1_reckon_53 : decode cX1_reckon 53 = .ok (.iload_n 2, 1) := by decide +kernel
theorem dX1_reckon_54 : decode cX1_reckon 54 = .ok (.idiv, 1) := by decide +kernel
theorem dX1_reckon_55 : decode cX1_reckon 55 = .ok (.i2l, 1) := by decide +kernel
theorem dX1_reckon_56 : decode cX1_reckon 56 = .ok (.lstore_n 3, 1) := by decide +kernel
theorem dX1_reckon_57 : decode cX1_reckon 57 = .ok (.ldc2_w 126, 3) := by decide +kernel
theorem dX1_reckon_60 : decode cX1_reckon 60 = .ok (.ldc2_w 128, 3) := by decide +kernel
theorem dX1_reckon_63 : decode cX1_reckon 63 = .ok (.lload_n 3, 1) := by decide +kernel
theorem dX1_reckon_64 : decode cX1_reckon 64 = .ok (.invokestatic 130, 3) := by decide +kernel
theorem dX1_reckon_67 : decode cX1_reckon 67 = .ok (.invokestatic 133, 3) := by decide +kernel
theorem dX1_reckon_70 : decode cX1_reckon 70 = .ok (.l2i, 1) := by decide +kernel
theorem dX1_reckon_71 : decode cX1_reckon 71 = .ok (.ireturn, 1) := by decide +kernel
theorem dX10_init_0 : decode cX10_init 0 = .ok (.aload_n 0, 1) := by decide +kernel
theorem dX10_init_1 : decode cX10_init 1 = .ok (.invokespecial 3, 3) := by decide +kernel
theorem dX10_init_4 : decode cX10_init 4 = .ok (.aload_n 0, 1) := by decide +kernel
theorem dX10_init_5 : decode cX10_init 5 = .ok (.sipush 144, 3) := by decide +kernel
theorem dX10_init_8 : decode cX10_init 8 = .ok (.newarray .boolean, 2) := by decide +kernel
theorem dX10_init_10 : decode cX10_init 10 = .ok (.putfield 9, 3) := by decide +kernel
theorem dX10_init_13 : decode cX10_init 13 = .ok (.aload_n 0, 1) := by decide +kernel
theorem dX10_init_14 : decode cX10_init 14 = .ok (.iconst 4, 1) := by decide +kernel
theorem dX10_init_15 : decode cX10_init 15 = .ok (.newarray .int, 2) := by decide +kernel
theorem dX10_init_17 : decode cX10_init 17 = .ok (.putfield 15, 3) := by decide +kernel
theorem dX10_init_20 : decode cX10_init 20 = .ok (.return_, 1) := by decide +kernel
theorem dX10_search_0 : decode cX10_search 0 = .ok (.aload_n 0, 1) := by decide +kernel
theorem dX10_search_1 : decode cX10_search 1 = .ok (.iload_n 2, 1) := by decide +kernel
theorem dX10_search_2 : decode cX10_search 2 = .ok (.putfield 19, 3) := by decide +kernel
theorem dX10_search_5 : decode cX10_search 5 = .ok (.aload_n 0, 1) := by decide +kernel
theorem dX10_search_6 : decode cX10_search 6 = .ok (.iconst 0, 1) := by decide +kernel
theorem dX10_search_7 : decode cX10_search 7 = .ok (.putfield 23, 3) := by decide +kernel
theorem dX10_search_10 : decode cX10_search 10 = .ok (.iconst 0, 1) := by decide +kernel
theorem dX10_search_11 : decode cX10_search 11 = .ok (.istore 4, 2) := by decide +kernel
theorem dX10_search_13 : decode cX10_search 13 = .ok (.iload 4, 2) := by decide +kernel
theorem dX10_search_15 : decode cX10_search 15 = .ok (.aload_n 0, 1) := by decide +kernel
theorem dX10_search_16 : decode cX10_search 16 = .ok (.getfield 9, 3) := by decide +kernel
theorem dX10_search_19 : decode cX10_search 19 = .ok (.arraylength, 1) := by decide +kernel
theorem dX10_search_20 : decode cX10_search 20 = .ok (.if_icmp .ge 17, 3) := by decide +kernel
theorem dX10_search_23 : decode cX10_search 23 = .ok (.aload_n 0, 1) := by decide +kernel
theorem dX10_search_24 : decode cX10_search 24 = .ok (.getfield 9, 3) := by decide +kernel
theorem dX10_search_27 : decode cX10_search 27 = .ok (.iload 4, 2) := by decide +kernel
theorem dX10_search_29 : decode cX10_search 29 = .ok (.iconst 0, 1) := by decide +kernel
theorem dX10_search_30 : decode cX10_search 30 = .ok (.bastore, 1) := by decide +kernel
theorem dX10_search_31 : decode cX10_search 31 = .ok (.iinc 4 1, 3) := by decide +kernel
theorem dX10_search_34 : decode cX10_search 34 = .ok (.goto (-21), 3) := by decide +kernel
theorem dX10_search_37 : decode cX10_search 37 = .ok (.iconst 0, 1) := by decide +kernel
theorem dX10_search_38 : decode cX10_search 38 = .ok (.istore 4, 2) := by decide +kernel
theorem dX10_search_40 : decode cX10_search 40 = .ok (.iload 4, 2) := by decide +kernel
theorem dX10_search_42 : decode cX10_search 42 = .ok (.iload_n 2, 1) := by decide +kernel
theorem dX10_search_43 : decode cX10_search 43 = .ok (.iadd, 1) := by decide +kernel
theorem dX10_search_44 : decode cX10_search 44 = .ok (.aload_n 1, 1) := by decide +kernel
theorem dX10_search_45 : decode cX10_search 45 = .ok (.getfield 26, 3) := by decide +kernel
theorem dX10_search_48 : decode cX10_search 48 = .ok (.if_icmp .gt 51, 3) := by decide +kernel
theorem dX10_search_51 : decode cX10_search 51 = .ok (.iconst 0, 1) := by decide +kernel
theorem dX10_search_52 : decode cX10_search 52 = .ok (.istore 5, 2) := by decide +kernel
theorem dX10_search_54 : decode cX10_search 54 = .ok (.iload 5, 2) := by decide +kernel
theorem dX10_search_56 : decode cX10_search 56 = .ok (.iload_n 2, 1) := by decide +kernel
theorem dX10_search_57 : decode cX10_search 57 = .ok (.iadd, 1) := by decide +kernel
theorem dX10_search_58 : decode cX10_search 58 = .ok (.aload_n 1, 1) := by decide +kernel
theorem dX10_search_59 : decode cX10_search 59 = .ok (.getfield 31, 3) := by decide +kernel
theorem dX10_search_62 : decode cX10_search 62 = .ok (.if_icmp .gt 31, 3) := by decide +kernel
theorem dX10_search_65 : decode cX10_search 65 = .ok (.aload_n 0, 1) := by decide +kernel
theorem dX10_search_66 : decode cX10_search 66 = .ok (.aload_n 1, 1) := by decide +kernel
theorem dX10_search_67 : decode cX10_search 67 = .ok (.iload 5, 2) := by decide +kernel
theorem dX10_search_69 : decode cX10_search 69 = .ok (.iload 4, 2) := by decide +kernel
theorem dX10_search_71 : decode cX10_search 71 = .ok (.invokevirtual 34, 3) := by decide +kernel
theorem dX10_search_74 : decode cX10_search 74 = .ok (.ifCond .ne 13, 3) := by decide +kernel
theorem dX10_search_77 : decode cX10_search 77 = .ok (.aload_n 0, 1) := by decide +kernel
theorem dX10_search_78 : decode cX10_search 78 = .ok (.aload_n 1, 1) := by decide +kernel
theorem dX10_search_79 : decode cX10_search 79 = .ok (.iload 5, 2) := by decide +kernel
theorem dX10_search_81 : decode cX10_search 81 = .ok (.iload 4, 2) := by decide +kernel
theorem dX10_search_83 : decode cX10_search 83 = .ok (.iload_n 3, 1) := by decide +kernel
theorem dX10_search_84 : decode cX10_search 84 = .ok (.invokevirtual 38, 3) := by decide +kernel
theorem dX10_search_87 : decode cX10_search 87 = .ok (.iinc 5 1, 3) := by decide +kernel
theorem dX10_search_90 : decode cX10_search 90 = .ok (.goto (-36), 3) := by decide +kernel
theorem dX10_search_93 : decode cX10_search 93 = .ok (.iinc 4 1, 3) := by decide +kernel
theorem dX10_search_96 : decode cX10_search 96 = .ok (.goto (-56), 3) := by decide +kernel
theorem dX10_search_99 : decode cX10_search 99 = .ok (.return_, 1) := by decide +kernel
theorem dX10_ofFirstPair_0 : decode cX10_ofFirstPair 0 = .ok (.aload_n 0, 1) := by decide +kernel
theorem dX10_ofFirstPair_1 : decode cX10_ofFirstPair 1 = .ok (.getfield 23, 3) := by decide +kernel
theorem dX10_ofFirstPair_4 : decode cX10_ofFirstPair 4 = .ok (.ifCond .le 27, 3) := by decide +kernel
theorem dX10_ofFirstPair_7 : decode cX10_ofFirstPair 7 = .ok (.iload_n 1, 1) := by decide +kernel
theorem dX10_ofFirstPair_8 : decode cX10_ofFirstPair 8 = .ok (.iconst 1, 1) := by decide +kernel
theorem dX10_ofFirstPair_9 : decode cX10_ofFirstPair 9 = .ok (.aload_n 0, 1) := by decide +kernel
theorem dX10_ofFirstPair_10 : decode cX10_ofFirstPair 10 = .ok (.getfield 15, 3) := by decide +kernel
theorem dX10_ofFirstPair_13 : decode cX10_ofFirstPair 13 = .ok (.arraylength, 1) := by decide +kernel
theorem dX10_ofFirstPair_14 : decode cX10_ofFirstPair 14 = .ok (.invokestatic 42, 3) := by decide +kernel
theorem dX10_ofFirstPair_17 : decode cX10_ofFirstPair 17 = .ok (.ifCond .eq 14, 3) := by decide +kernel
theorem dX10_ofFirstPair_20 : decode cX10_ofFirstPair 20 = .ok (.aload_n 0, 1) := by decide +kernel
theorem dX10_ofFirstPair_21 : decode cX10_ofFirstPair 21 = .ok (.getfield 15, 3) := by decide +kernel
theorem dX10_ofFirstPair_24 : decode cX10_ofFirstPair 24 = .ok (.iload_n 1, 1) := by decide +kernel
theorem dX10_ofFirstPair_25 : decode cX10_ofFirstPair 25 = .ok (.iconst 1, 1) := by decide +kernel
theorem dX10_ofFirstPair_26 : decode cX10_ofFirstPair 26 = .ok (.isub, 1) := by decide +kernel
theorem dX10_ofFirstPair_27 : decode cX10_ofFirstPair 27 = .ok (.iaload, 1) := by decide +kernel
theorem dX10_ofFirstPair_28 : decode cX10_ofFirstPair 28 = .ok (.goto 4, 3) := by decide +kernel
theorem dX10_ofFirstPair_31 : decode cX10_ofFirstPair 31 = .ok (.iconst (-1), 1) := by decide +kernel
theorem dX10_ofFirstPair_32 : decode cX10_ofFirstPair 32 = .ok (.ireturn, 1) := by decide +kernel
theorem dX10_touch_0 : decode cX10_touch 0 = .ok (.iconst 0, 1) := by decide +kernel
theorem dX10_touch_1 : decode cX10_touch 1 = .ok (.iload_n 2, 1) := by decide +kernel
theorem dX10_touch_2 : decode cX10_touch 2 = .ok (.aload_n 0, 1) := by decide +kernel
theorem dX10_touch_3 : decode cX10_touch 3 = .ok (.getfield 19, 3) := by decide +kernel
theorem dX10_touch_6 : decode cX10_touch 6 = .ok (.isub, 1) := by decide +kernel
theorem dX10_touch_7 : decode cX10_touch 7 = .ok (.iconst 1, 1) := by decide +kernel
theorem dX10_touch_8 : decode cX10_touch 8 = .ok (.iadd, 1) := by decide +kernel
theorem dX10_touch_9 : decode cX10_touch 9 = .ok (.invokestatic 46, 3) := by decide +kernel
theorem dX10_touch_12 : decode cX10_touch 12 = .ok (.istore_n 3, 1) := by decide +kernel
theorem dX10_touch_13 : decode cX10_touch 13 = .ok (.iload_n 3, 1) := by decide +kernel
theorem dX10_touch_14 : decode cX10_touch 14 = .ok (.bipush 12, 2) := by decide +kernel
theorem dX10_touch_16 : decode cX10_touch 16 = .ok (.iload_n 2, 1) := by decide +kernel
theorem dX10_touch_17 : decode cX10_touch 17 = .ok (.iconst 4, 1) := by decide +kernel
theorem dX10_touch_18 : decode cX10_touch 18 = .ok (.iadd, 1) := by decide +kernel
theorem dX10_touch_19 : decode cX10_touch 19 = .ok (.invokestatic 52, 3) := by decide +kernel
theorem dX10_touch_22 : decode cX10_touch 22 = .ok (.if_icmp .ge 59, 3) := by decide +kernel
theorem dX10_touch_25 : decode cX10_touch 25 = .ok (.iconst 0, 1) := by decide +kernel
theorem dX10_touch_26 : decode cX10_touch 26 = .ok (.iload_n 1, 1) := by decide +kernel
theorem dX10_touch_27 : decode cX10_touch 27 = .ok (.aload_n 0, 1) := by decide +kernel
theorem dX10_touch_28 : decode cX10_touch 28 = .ok (.getfield 19, 3) := by decide +kernel
theorem dX10_touch_31 : decode cX10_touch 31 = .ok (.isub, 1) := by decide +kernel
theorem dX10_touch_32 : decode cX10_touch 32 = .ok (.iconst 1, 1) := by decide +kernel
theorem dX10_touch_33 : decode cX10_touch 33 = .ok (.iadd, 1) := by decide +kernel
theorem dX10_touch_34 : decode cX10_touch 34 = .ok (.invokestatic 46, 3) := by decide +kernel
theorem dX10_touch_37 : decode cX10_touch 37 = .ok (.istore 4, 2) := by decide +kernel
theorem dX10_touch_39 : decode cX10_touch 39 = .ok (.iload 4, 2) := by decide +kernel
theorem dX10_touch_41 : decode cX10_touch 41 = .ok (.bipush 12, 2) := by decide +kernel
theorem dX10_touch_43 : decode cX10_touch 43 = .ok (.iload_n 1, 1) := by decide +kernel
theorem dX10_touch_44 : decode cX10_touch 44 = .ok (.iconst 4, 1) := by decide +kernel
theorem dX10_touch_45 : decode cX10_touch 45 = .ok (.iadd, 1) := by decide +kernel
theorem dX10_touch_46 : decode cX10_touch 46 = .ok (.invokestatic 52, 3) := by decide +kernel
theorem dX10_touch_49 : decode cX10_touch 49 = .ok (.if_icmp .ge 26, 3) := by decide +kernel
theorem dX10_touch_52 : decode cX10_touch 52 = .ok (.aload_n 0, 1) := by decide +kernel
theorem dX10_touch_53 : decode cX10_touch 53 = .ok (.getfield 9, 3) := by decide +kernel
theorem dX10_touch_56 : decode cX10_touch 56 = .ok (.iload_n 3, 1) := by decide +kernel
theorem dX10_touch_57 : decode cX10_touch 57 = .ok (.bipush 12, 2) := by decide +kernel
theorem dX10_touch_59 : decode cX10_touch 59 = .ok (.imul, 1) := by decide +kernel
theorem dX10_touch_60 : decode cX10_touch 60 = .ok (.iload 4, 2) := by decide +kernel
theorem dX10_touch_62 : decode cX10_touch 62 = .ok (.iadd, 1) := by decide +kernel
theorem dX10_touch_63 : decode cX10_touch 63 = .ok (.baload, 1) := by decide +kernel
theorem dX10_touch_64 : decode cX10_touch 64 = .ok (.ifCond .eq 5, 3) := by decide +kernel
theorem dX10_touch_67 : decode cX10_touch 67 = .ok (.iconst 1, 1) := by decide +kernel
theorem dX10_touch_68 : decode cX10_touch 68 = .ok (.ireturn, 1) := by decide +kernel
theorem dX10_touch_69 : decode cX10_touch 69 = .ok (.iinc 4 1, 3) := by decide +kernel
theorem dX10_touch_72 : decode cX10_touch 72 = .ok (.goto (-33), 3) := by decide +kernel
theorem dX10_touch_75 : decode cX10_touch 75 = .ok (.iinc 3 1, 3) := by decide +kernel
theorem dX10_touch_78 : decode cX10_touch 78 = .ok (.goto (-65), 3) := by decide +kernel
theorem dX10_touch_81 : decode cX10_touch 81 = .ok (.iconst 0, 1) := by decide +kernel
theorem dX10_touch_82 : decode cX10_touch 82 = .ok (.ireturn, 1) := by decide +kernel
theorem dX10_isFlat_0 : decode cX10_isFlat 0 = .ok (.aload_n 1, 1) := by decide +kernel
theorem dX10_isFlat_1 : decode cX10_isFlat 1 = .ok (.iload_n 2, 1) := by decide +kernel
theorem dX10_isFlat_2 : decode cX10_isFlat 2 = .ok (.iload_n 3, 1) := by decide +kernel
theorem dX10_isFlat_3 : decode cX10_isFlat 3 = .ok (.invokevirtual 55, 3) := by decide +kernel
theorem dX10_isFlat_6 : decode cX10_isFlat 6 = .ok (.istore 4, 2) := by decide +kernel
theorem dX10_isFlat_8 : decode cX10_isFlat 8 = .ok (.iload_n 3, 1) := by decide +kernel
theorem dX10_isFlat_9 : decode cX10_isFlat 9 = .ok (.istore 5, 2) := by decide +kernel
theorem dX10_isFlat_11 : decode cX10_isFlat 11 = .ok (.iload 5, 2) := by decide +kernel
theorem dX10_isFlat_13 : decode cX10_isFlat 13 = .ok (.iload_n 3, 1) := by decide +kernel
theorem dX10_isFlat_14 : decode cX10_isFlat 14 = .ok (.aload_n 0, 1) := by decide +kernel
theorem dX10_isFlat_15 : decode cX10_isFlat 15 = .ok (.getfield 19, 3) := by decide +kernel
theorem dX10_isFlat_18 : decode cX10_isFlat 18 = .ok (.iadd, 1) := by decide +kernel
theorem dX10_isFlat_19 : decode cX10_isFlat 19 = .ok (.if_icmp .ge 44, 3) := by decide +kernel
theorem dX10_isFlat_22 : decode cX10_isFlat 22 = .ok (.iload_n 2, 1) := by decide +kernel
theorem dX10_isFlat_23 : decode cX10_isFlat 23 = .ok (.istore 6, 2) := by decide +kernel
theorem dX10_isFlat_25 : decode cX10_isFlat 25 = .ok (.iload 6, 2) := by decide +kernel
theorem dX10_isFlat_27 : decode cX10_isFlat 27 = .ok (.iload_n 2, 1) := by decide +kernel
theorem dX10_isFlat_28 : decode cX10_isFlat 28 = .ok (.aload_n 0, 1) := by decide +kernel
theorem dX10_isFlat_29 : decode cX10_isFlat 29 = .ok (.getfield 19, 3) := by decide +kernel
theorem dX10_isFlat_32 : decode cX10_isFlat 32 = .ok (.iadd, 1) := by decide +kernel
theorem dX10_isFlat_33 : decode cX10_isFlat 33 = .ok (.if_icmp .ge 24, 3) := by decide +kernel
theorem dX10_isFlat_36 : decode cX10_isFlat 36 = .ok (.aload_n 1, 1) := by decide +kernel
theorem dX10_isFlat_37 : decode cX10_isFlat 37 = .ok (.iload 6, 2) := by decide +kernel
theorem dX10_isFlat_39 : decode cX10_isFlat 39 = .ok (.iload 5, 2) := by decide +kernel
theorem dX10_isFlat_41 : decode cX10_isFlat 41 = .ok (.invokevirtual 55, 3) := by decide +kernel
theorem dX10_isFlat_44 : decode cX10_isFlat 44 = .ok (.iload 4, 2) := by decide +kernel
theorem dX10_isFlat_46 : decode cX10_isFlat 46 = .ok (.if_icmp .eq 5, 3) := by decide +kernel
theorem dX10_isFlat_49 : decode cX10_isFlat 49 = .ok (.iconst 0, 1) := by decide +kernel
theorem dX10_isFlat_50 : decode cX10_isFlat 50 = .ok (.ireturn, 1) := by decide +kernel
theorem dX10_isFlat_51 : decode cX10_isFlat 51 = .ok (.iinc 6 1, 3) := by decide +kernel
theorem dX10_isFlat_54 : decode cX10_isFlat 54 = .ok (.goto (-29), 3) := by decide +kernel
theorem dX10_isFlat_57 : decode cX10_isFlat 57 = .ok (.iinc 5 1, 3) := by decide +kernel
theorem dX10_isFlat_60 : decode cX10_isFlat 60 = .ok (.goto (-49), 3) := by decide +kernel
theorem dX10_isFlat_63 : decode cX10_isFlat 63 = .ok (.iconst 1, 1) := by decide +kernel
theorem dX10_isFlat_64 : decode cX10_isFlat 64 = .ok (.ireturn, 1) := by decide +kernel
theorem dX10_searchBehind_0 : decode cX10_searchBehind 0 = .ok (.iload_n 3, 1) := by decide +kernel
theorem dX10_searchBehind_1 : decode cX10_searchBehind 1 = .ok (.istore 5, 2) := by decide +kernel
theorem dX10_searchBehind_3 : decode cX10_searchBehind 3 = .ok (.iload 5, 2) := by decide +kernel
theorem dX10_searchBehind_5 : decode cX10_searchBehind 5 = .ok (.aload_n 0, 1) := by decide +kernel
theorem dX10_searchBehind_6 : decode cX10_searchBehind 6 = .ok (.getfield 19, 3) := by decide +kernel
theorem dX10_searchBehind_9 : decode cX10_searchBehind 9 = .ok (.iadd, 1) := by decide +kernel
theorem dX10_searchBehind_10 : decode cX10_searchBehind 10 = .ok (.aload_n 1, 1) := by decide +kernel
theorem dX10_searchBehind_11 : decode cX10_searchBehind 11 = .ok (.getfield 26, 3) := by decide +kernel
theorem dX10_searchBehind_14 : decode cX10_searchBehind 14 = .ok (.if_icmp .gt 107, 3) := by decide +kernel
theorem dX10_searchBehind_17 : decode cX10_searchBehind 17 = .ok (.iload 5, 2) := by decide +kernel
theorem dX10_searchBehind_19 : decode cX10_searchBehind 19 = .ok (.iload_n 3, 1) := by decide +kernel
theorem dX10_searchBehind_20 : decode cX10_searchBehind 20 = .ok (.if_icmp .ne 9, 3) := by decide +kernel
theorem dX10_searchBehind_23 : decode cX10_searchBehind 23 = .ok (.iload_n 2, 1) := by decide +kernel
theorem dX10_searchBehind_24 : decode cX10_searchBehind 24 = .ok (.iconst 1, 1) := by decide +kernel
theorem dX10_searchBehind_25 : decode cX10_searchBehind 25 = .ok (.iadd, 1) := by decide +kernel
theorem dX10_searchBehind_26 : decode cX10_searchBehind 26 = .ok (.goto 4, 3) := by decide +kernel
theorem dX10_searchBehind_29 : decode cX10_searchBehind 29 = .ok (.iconst 0, 1) := by decide +kernel
theorem dX10_searchBehind_30 : decode cX10_searchBehind 30 = .ok (.istore 6, 2) := by decide +kernel
theorem dX10_searchBehind_32 : decode cX10_searchBehind 32 = .ok (.iload 6, 2) := by decide +kernel
theorem dX10_searchBehind_34 : decode cX10_searchBehind 34 = .ok (.aload_n 0, 1) := by decide +kernel
theorem dX10_searchBehind_35 : decode cX10_searchBehind 35 = .ok (.getfield 19, 3) := by decide +kernel
theorem dX10_searchBehind_38 : decode cX10_searchBehind 38 = .ok (.iadd, 1) := by decide +kernel
theorem dX10_searchBehind_39 : decode cX10_searchBehind 39 = .ok (.aload_n 1, 1) := by decide +kernel
theorem dX10_searchBehind_40 : decode cX10_searchBehind 40 = .ok (.getfield 31, 3) := by decide +kernel
theorem dX10_searchBehind_43 : decode cX10_searchBehind 43 = .ok (.if_icmp .gt 72, 3) := by decide +kernel
theorem dX10_searchBehind_46 : decode cX10_searchBehind 46 = .ok (.iload 6, 2) := by decide +kernel
theorem dX10_searchBehind_48 : decode cX10_searchBehind 48 = .ok (.iload_n 2, 1) := by decide +kernel
theorem dX10_searchBehind_49 : decode cX10_searchBehind 49 = .ok (.isub, 1) := by decide +kernel
theorem dX10_searchBehind_50 : decode cX10_searchBehind 50 = .ok (.invokestatic 58, 3) := by decide +kernel
theorem dX10_searchBehind_53 : decode cX10_searchBehind 53 = .ok (.aload_n 0, 1) := by decide +kernel
theorem dX10_searchBehind_54 : decode cX10_searchBehind 54 = .ok (.getfield 19, 3) := by decide +kernel
theorem dX10_searchBehind_57 : decode cX10_searchBehind 57 = .ok (.if_icmp .ge 14, 3) := by decide +kernel
theorem dX10_searchBehind_60 : decode cX10_searchBehind 60 = .ok (.iload 5, 2) := by decide +kernel
theorem dX10_searchBehind_62 : decode cX10_searchBehind 62 = .ok (.iload_n 3, 1) := by decide +kernel
theorem dX10_searchBehind_63 : decode cX10_searchBehind 63 = .ok (.isub, 1) := by decide +kernel
theorem dX10_searchBehind_64 : decode cX10_searchBehind 64 = .ok (.aload_n 0, 1) := by decide +kernel
theorem dX10_searchBehind_65 : decode cX10_searchBehind 65 = .ok (.getfield 19, 3) := by decide +kernel
theorem dX10_searchBehind_68 : decode cX10_searchBehind 68 = .ok (.if_icmp .lt 7, 3) := by decide +kernel
theorem dX10_searchBehind_71 : decode cX10_searchBehind 71 = .ok (.iconst 1, 1) := by decide +kernel
theorem dX10_searchBehind_72 : decode cX10_searchBehind 72 = .ok (.goto 4, 3) := by decide +kernel
theorem dX10_searchBehind_75 : decode cX10_searchBehind 75 = .ok (.iconst 0, 1) := by decide +kernel
theorem dX10_searchBehind_76 : decode cX10_searchBehind 76 = .ok (.istore 7, 2) := by decide +kernel
theorem dX10_searchBehind_78 : decode cX10_searchBehind 78 = .ok (.iload 7, 2) := by decide +kernel
theorem dX10_searchBehind_80 : decode cX10_searchBehind 80 = .ok (.ifCond .eq 29, 3) := by decide +kernel
theorem dX10_searchBehind_83 : decode cX10_searchBehind 83 = .ok (.aload_n 0, 1) := by decide +kernel
theorem dX10_searchBehind_84 : decode cX10_searchBehind 84 = .ok (.aload_n 1, 1) := by decide +kernel
theorem dX10_searchBehind_85 : decode cX10_searchBehind 85 = .ok (.iload_n 2, 1) := by decide +kernel
theorem dX10_searchBehind_86 : decode cX10_searchBehind 86 = .ok (.iload_n 3, 1) := by decide +kernel
theorem dX10_searchBehind_87 : decode cX10_searchBehind 87 = .ok (.iload 6, 2) := by decide +kernel
theorem dX10_searchBehind_89 : decode cX10_searchBehind 89 = .ok (.iload 5, 2) := by decide +kernel
theorem dX10_searchBehind_91 : decode cX10_searchBehind 91 = .ok (.iload 4, 2) := by decide +kernel
theorem dX10_searchBehind_93 : decode cX10_searchBehind 93 = .ok (.invokevirtual 62, 3) := by decide +kernel
theorem dX10_searchBehind_96 : decode cX10_searchBehind 96 = .ok (.ifCond .eq 13, 3) := by decide +kernel
theorem dX10_searchBehind_99 : decode cX10_searchBehind 99 = .ok (.aload_n 0, 1) := by decide +kernel
theorem dX10_searchBehind_100 : decode cX10_searchBehind 100 = .ok (.iload_n 2, 1) := by decide +kernel
theorem dX10_searchBehind_101 : decode cX10_searchBehind 101 = .ok (.iload_n 3, 1) := by decide +kernel
theorem dX10_searchBehind_102 : decode cX10_searchBehind 102 = .ok (.iload 6, 2) := by decide +kernel
theorem dX10_searchBehind_104 : decode cX10_searchBehind 104 = .ok (.iload 5, 2) := by decide +kernel
theorem dX10_searchBehind_106 : decode cX10_searchBehind 106 = .ok (.invokevirtual 66, 3) := by decide +kernel
theorem dX10_searchBehind_109 : decode cX10_searchBehind 109 = .ok (.iinc 6 1, 3) := by decide +kernel
theorem dX10_searchBehind_112 : decode cX10_searchBehind 112 = .ok (.goto (-80), 3) := by decide +kernel
theorem dX10_searchBehind_115 : decode cX10_searchBehind 115 = .ok (.iinc 5 1, 3) := by decide +kernel
theorem dX10_searchBehind_118 : decode cX10_searchBehind 118 = .ok (.goto (-115), 3) := by decide +kernel
theorem dX10_searchBehind_121 : decode cX10_searchBehind 121 = .ok (.return_, 1) := by decide +kernel
theorem dX10_isNear_0 : decode cX10_isNear 0 = .ok (.iconst 0, 1) := by decide +kernel
theorem dX10_isNear_1 : decode cX10_isNear 1 = .ok (.istore 7, 2) := by decide +kernel
theorem dX10_isNear_3 : decode cX10_isNear 3 = .ok (.iload 7, 2) := by decide +kernel
theorem dX10_isNear_5 : decode cX10_isNear 5 = .ok (.aload_n 0, 1) := by decide +kernel
theorem dX10_isNear_6 : decode cX10_isNear 6 = .ok (.getfield 19, 3) := by decide +kernel
theorem dX10_isNear_9 : decode cX10_isNear 9 = .ok (.if_icmp .ge 64, 3) := by decide +kernel
theorem dX10_isNear_12 : decode cX10_isNear 12 = .ok (.iconst 0, 1) := by decide +kernel
theorem dX10_isNear_13 : decode cX10_isNear 13 = .ok (.istore 8, 2) := by decide +kernel
theorem dX10_isNear_15 : decode cX10_isNear 15 = .ok (.iload 8, 2) := by decide +kernel
theorem dX10_isNear_17 : decode cX10_isNear 17 = .ok (.aload_n 0, 1) := by decide +kernel
theorem dX10_isNear_18 : decode cX10_isNear 18 = .ok (.getfield 19, 3) := by decide +kernel
theorem dX10_isNear_21 : decode cX10_isNear 21 = .ok (.if_icmp .ge 46, 3) := by decide +kernel
theorem dX10_isNear_24 : decode cX10_isNear 24 = .ok (.aload_n 1, 1) := by decide +kernel
theorem dX10_isNear_25 : decode cX10_isNear 25 = .ok (.iload_n 2, 1) := by decide +kernel
theorem dX10_isNear_26 : decode cX10_isNear 26 = .ok (.iload 8, 2) := by decide +kernel
theorem dX10_isNear_28 : decode cX10_isNear 28 = .ok (.iadd, 1) := by decide +kernel
theorem dX10_isNear_29 : decode cX10_isNear 29 = .ok (.iload_n 3, 1) := by decide +kernel
theorem dX10_isNear_30 : decode cX10_isNear 30 = .ok (.iload 7, 2) := by decide +kernel
theorem dX10_isNear_32 : decode cX10_isNear 32 = .ok (.iadd, 1) := by decide +kernel
theorem dX10_isNear_33 : decode cX10_isNear 33 = .ok (.invokevirtual 55, 3) := by decide +kernel
theorem dX10_isNear_36 : decode cX10_isNear 36 = .ok (.aload_n 1, 1) := by decide +kernel
theorem dX10_isNear_37 : decode cX10_isNear 37 = .ok (.iload 4, 2) := by decide +kernel
theorem dX10_isNear_39 : decode cX10_isNear 39 = .ok (.iload 8, 2) := by decide +kernel
theorem dX10_isNear_41 : decode cX10_isNear 41 = .ok (.iadd, 1) := by decide +kernel
theorem dX10_isNear_42 : decode cX10_isNear 42 = .ok (.iload 5, 2) := by decide +kernel
theorem dX10_isNear_44 : decode cX10_isNear 44 = .ok (.iload 7, 2) := by decide +kernel
theorem dX10_isNear_46 : decode cX10_isNear 46 = .ok (.iadd, 1) := by decide +kernel
theorem dX10_isNear_47 : decode cX10_isNear 47 = .ok (.invokevirtual 55, 3) := by decide +kernel
theorem dX10_isNear_50 : decode cX10_isNear 50 = .ok (.isub, 1) := by decide +kernel
theorem dX10_isNear_51 : decode cX10_isNear 51 = .ok (.invokestatic 58, 3) := by decide +kernel
theorem dX10_isNear_54 : decode cX10_isNear 54 = .ok (.iload 6, 2) := by decide +kernel
theorem dX10_isNear_56 : decode cX10_isNear 56 = .ok (.if_icmp .le 5, 3) := by decide +kernel
theorem dX10_isNear_59 : decode cX10_isNear 59 = .ok (.iconst 0, 1) := by decide +kernel
theorem dX10_isNear_60 : decode cX10_isNear 60 = .ok (.ireturn, 1) := by decide +kernel
theorem dX10_isNear_61 : decode cX10_isNear 61 = .ok (.iinc 8 1, 3) := by decide +kernel
theorem dX10_isNear_64 : decode cX10_isNear 64 = .ok (.goto (-49), 3) := by decide +kernel
theorem dX10_isNear_67 : decode cX10_isNear 67 = .ok (.iinc 7 1, 3) := by decide +kernel
theorem dX10_isNear_70 : decode cX10_isNear 70 = .ok (.goto (-67), 3) := by decide +kernel
theorem dX10_isNear_73 : decode cX10_isNear 73 = .ok (.iconst 1, 1) := by decide +kernel
theorem dX10_isNear_74 : decode cX10_isNear 74 = .ok (.ireturn, 1) := by decide +kernel
theorem dX10_addPair_0 : decode cX10_addPair 0 = .ok (.aload_n 0, 1) := by decide +kernel
theorem dX10_addPair_1 : decode cX10_addPair 1 = .ok (.getfield 23, 3) := by decide +kernel
theorem dX10_addPair_4 : decode cX10_addPair 4 = .ok (.ifCond .ne 32, 3) := by decide +kernel
theorem dX10_addPair_7 : decode cX10_addPair 7 = .ok (.aload_n 0, 1) := by decide +kernel
theorem dX10_addPair_8 : decode cX10_addPair 8 = .ok (.getfield 15, 3) := by decide +kernel
theorem dX10_addPair_11 : decode cX10_addPair 11 = .ok (.iconst 0, 1) := by decide +kernel
theorem dX10_addPair_12 : decode cX10_addPair 12 = .ok (.iload_n 1, 1) := by decide +kernel
theorem dX10_addPair_13 : decode cX10_addPair 13 = .ok (.iastore, 1) := by decide +kernel
theorem dX10_addPair_14 : decode cX10_addPair 14 = .ok (.aload_n 0, 1) := by decide +kernel
theorem dX10_addPair_15 : decode cX10_addPair 15 = .ok (.getfield 15, 3) := by decide +kernel
theorem dX10_addPair_18 : decode cX10_addPair 18 = .ok (.iconst 1, 1) := by decide +kernel
theorem dX10_addPair_19 : decode cX10_addPair 19 = .ok (.iload_n 2, 1) := by decide +kernel
theorem dX10_addPair_20 : decode cX10_addPair 20 = .ok (.iastore, 1) := by decide +kernel
theorem dX10_addPair_21 : decode cX10_addPair 21 = .ok (.aload_n 0, 1) := by decide +kernel
theorem dX10_addPair_22 : decode cX10_addPair 22 = .ok (.getfield 15, 3) := by decide +kernel
theorem dX10_addPair_25 : decode cX10_addPair 25 = .ok (.iconst 2, 1) := by decide +kernel
theorem dX10_addPair_26 : decode cX10_addPair 26 = .ok (.iload_n 3, 1) := by decide +kernel
theorem dX10_addPair_27 : decode cX10_addPair 27 = .ok (.iastore, 1) := by decide +kernel
theorem dX10_addPair_28 : decode cX10_addPair 28 = .ok (.aload_n 0, 1) := by decide +kernel
theorem dX10_addPair_29 : decode cX10_addPair 29 = .ok (.getfield 15, 3) := by decide +kernel
theorem dX10_addPair_32 : decode cX10_addPair 32 = .ok (.iconst 3, 1) := by decide +kernel
theorem dX10_addPair_33 : decode cX10_addPair 33 = .ok (.iload 4, 2) := by decide +kernel
theorem dX10_addPair_35 : decode cX10_addPair 35 = .ok (.iastore, 1) := by decide +kernel
theorem dX10_addPair_36 : decode cX10_addPair 36 = .ok (.aload_n 0, 1) := by decide +kernel
theorem dX10_addPair_37 : decode cX10_addPair 37 = .ok (.dup, 1) := by decide +kernel
theorem dX10_addPair_38 : decode cX10_addPair 38 = .ok (.getfield 23, 3) := by decide +kernel
theorem dX10_addPair_41 : decode cX10_addPair 41 = .ok (.iconst 1, 1) := by decide +kernel
theorem dX10_addPair_42 : decode cX10_addPair 42 = .ok (.iadd, 1) := by decide +kernel
theorem dX10_addPair_43 : decode cX10_addPair 43 = .ok (.putfield 23, 3) := by decide +kernel
theorem dX10_addPair_46 : decode cX10_addPair 46 = .ok (.aload_n 0, 1) := by decide +kernel
theorem dX10_addPair_47 : decode cX10_addPair 47 = .ok (.iload_n 1, 1) := by decide +kernel
theorem dX10_addPair_48 : decode cX10_addPair 48 = .ok (.iload_n 2, 1) := by decide +kernel
theorem dX10_addPair_49 : decode cX10_addPair 49 = .ok (.invokevirtual 70, 3) := by decide +kernel
theorem dX10_addPair_52 : decode cX10_addPair 52 = .ok (.aload_n 0, 1) := by decide +kernel
theorem dX10_addPair_53 : decode cX10_addPair 53 = .ok (.iload_n 3, 1) := by decide +kernel
theorem dX10_addPair_54 : decode cX10_addPair 54 = .ok (.iload 4, 2) := by decide +kernel
theorem dX10_addPair_56 : decode cX10_addPair 56 = .ok (.invokevirtual 70, 3) := by decide +kernel
theorem dX10_addPair_59 : decode cX10_addPair 59 = .ok (.return_, 1) := by decide +kernel
theorem dX10_markCorner_0 : decode cX10_markCorner 0 = .ok (.iload_n 1, 1) := by decide +kernel
theorem dX10_markCorner_1 : decode cX10_markCorner 1 = .ok (.iconst 0, 1) := by decide +kernel
theorem dX10_markCorner_2 : decode cX10_markCorner 2 = .ok (.bipush 11, 2) := by decide +kernel
theorem dX10_markCorner_4 : decode cX10_markCorner 4 = .ok (.invokestatic 42, 3) := by decide +kernel
theorem dX10_markCorner_7 : decode cX10_markCorner 7 = .ok (.ifCond .eq 25, 3) := by decide +kernel
theorem dX10_markCorner_10 : decode cX10_markCorner 10 = .ok (.iload_n 2, 1) := by decide +kernel
theorem dX10_markCorner_11 : decode cX10_markCorner 11 = .ok (.iconst 0, 1) := by decide +kernel
theorem dX10_markCorner_12 : decode cX10_markCorner 12 = .ok (.bipush 11, 2) := by decide +kernel
theorem dX10_markCorner_14 : decode cX10_markCorner 14 = .ok (.invokestatic 42, 3) := by decide +kernel
theorem dX10_markCorner_17 : decode cX10_markCorner 17 = .ok (.ifCond .eq 15, 3) := by decide +kernel
theorem dX10_markCorner_20 : decode cX10_markCorner 20 = .ok (.aload_n 0, 1) := by decide +kernel
theorem dX10_markCorner_21 : decode cX10_markCorner 21 = .ok (.getfield 9, 3) := by decide +kernel
theorem dX10_markCorner_24 : decode cX10_markCorner 24 = .ok (.iload_n 2, 1) := by decide +kernel
theorem dX10_markCorner_25 : decode cX10_markCorner 25 = .ok (.bipush 12, 2) := by decide +kernel
theorem dX10_markCorner_27 : decode cX10_markCorner 27 = .ok (.imul, 1) := by decide +kernel
theorem dX10_markCorner_28 : decode cX10_markCorner 28 = .ok (.iload_n 1, 1) := by decide +kernel
theorem dX10_markCorner_29 : decode cX10_markCorner 29 = .ok (.iadd, 1) := by decide +kernel
theorem dX10_markCorner_30 : decode cX10_markCorner 30 = .ok (.iconst 1, 1) := by decide +kernel
theorem dX10_markCorner_31 : decode cX10_markCorner 31 = .ok (.bastore, 1) := by decide +kernel
theorem dX10_markCorner_32 : decode cX10_markCorner 32 = .ok (.return_, 1) := by decide +kernel
theorem dX2_init_0 : decode cX2_init 0 = .ok (.aload_n 0, 1) := by decide +kernel
theorem dX2_init_1 : decode cX2_init 1 = .ok (.invokespecial 3, 3) := by decide +kernel
theorem dX2_init_4 : decode cX2_init 4 = .ok (.aload_n 0, 1) := by decide +kernel
theorem dX2_init_5 : decode cX2_init 5 = .ok (.bipush 10, 2) := by decide +kernel
theorem dX2_init_7 : decode cX2_init 7 = .ok (.newarray .int, 2) := by decide +kernel
theorem dX2_init_9 : decode cX2_init 9 = .ok (.putfield 9, 3) := by decide +kernel
theorem dX2_init_12 : decode cX2_init 12 = .ok (.aload_n 0, 1) := by decide +kernel
theorem dX2_init_13 : decode cX2_init 13 = .ok (.bipush 10, 2) := by decide +kernel
theorem dX2_init_15 : decode cX2_init 15 = .ok (.newarray .int, 2) := by decide +kernel
theorem dX2_init_17 : decode cX2_init 17 = .ok (.putfield 15, 3) := by decide +kernel
theorem dX2_init_20 : decode cX2_init 20 = .ok (.aload_n 0, 1) := by decide +kernel
theorem dX2_init_21 : decode cX2_init 21 = .ok (.bipush 10, 2) := by decide +kernel
theorem dX2_init_23 : decode cX2_init 23 = .ok (.newarray .int, 2) := by decide +kernel
theorem dX2_init_25 : decode cX2_init 25 = .ok (.putfield 18, 3) := by decide +kernel
theorem dX2_init_28 : decode cX2_init 28 = .ok (.aload_n 0, 1) := by decide +kernel
theorem dX2_init_29 : decode cX2_init 29 = .ok (.bipush 10, 2) := by decide +kernel
theorem dX2_init_31 : decode cX2_init 31 = .ok (.newarray .int, 2) := by decide +kernel
theorem dX2_init_33 : decode cX2_init 33 = .ok (.putfield 21, 3) := by decide +kernel
theorem dX2_init_36 : decode cX2_init 36 = .ok (.aload_n 0, 1) := by decide +kernel
theorem dX2_init_37 : decode cX2_init 37 = .ok (.bipush 81, 2) := by decide +kernel
theorem dX2_init_39 : decode cX2_init 39 = .ok (.newarray .int, 2) := by decide +kernel
theorem dX2_init_41 : decode cX2_init 41 = .ok (.putfield 24, 3) := by decide +kernel
theorem dX2_init_44 : decode cX2_init 44 = .ok (.return_, 1) := by decide +kernel
theorem dX2_put_0 : decode cX2_put 0 = .ok (.iload_n 1, 1) := by decide +kernel
theorem dX2_put_1 : decode cX2_put 1 = .ok (.iconst 0, 1) := by decide +kernel
theorem dX2_put_2 : decode cX2_put 2 = .ok (.bipush 9, 2) := by decide +kernel
theorem dX2_put_4 : decode cX2_put 4 = .ok (.invokestatic 27, 3) := by decide +kernel
theorem dX2_put_7 : decode cX2_put 7 = .ok (.ifCond .eq 37, 3) := by decide +kernel
theorem dX2_put_10 : decode cX2_put 10 = .ok (.aload_n 0, 1) := by decide +kernel
theorem dX2_put_11 : decode cX2_put 11 = .ok (.getfield 9, 3) := by decide +kernel
theorem dX2_put_14 : decode cX2_put 14 = .ok (.iload_n 1, 1) := by decide +kernel
theorem dX2_put_15 : decode cX2_put 15 = .ok (.iload_n 2, 1) := by decide +kernel
theorem dX2_put_16 : decode cX2_put 16 = .ok (.iastore, 1) := by decide +kernel
theorem dX2_put_17 : decode cX2_put 17 = .ok (.aload_n 0, 1) := by decide +kernel
theorem dX2_put_18 : decode cX2_put 18 = .ok (.getfield 15, 3) := by decide +kernel
theorem dX2_put_21 : decode cX2_put 21 = .ok (.iload_n 1, 1) := by decide +kernel
theorem dX2_put_22 : decode cX2_put 22 = .ok (.iload_n 3, 1) := by decide +kernel
theorem dX2_put_23 : decode cX2_put 23 = .ok (.iastore, 1) := by decide +kernel
theorem dX2_put_24 : decode cX2_put 24 = .ok (.aload_n 0, 1) := by decide +kernel
theorem dX2_put_25 : decode cX2_put 25 = .ok (.getfield 18, 3) := by decide +kernel
theorem dX2_put_28 : decode cX2_put 28 = .ok (.iload_n 1, 1) := by decide +kernel
theorem dX2_put_29 : decode cX2_put 29 = .ok (.iload 4, 2) := by decide +kernel
theorem dX2_put_31 : decode cX2_put 31 = .ok (.iload_n 2, 1) := by decide +kernel
theorem dX2_put_32 : decode cX2_put 32 = .ok (.isub, 1) := by decide +kernel
theorem dX2_put_33 : decode cX2_put 33 = .ok (.iastore, 1) := by decide +kernel
theorem dX2_put_34 : decode cX2_put 34 = .ok (.aload_n 0, 1) := by decide +kernel
theorem dX2_put_35 : decode cX2_put 35 = .ok (.getfield 21, 3) := by decide +kernel
theorem dX2_put_38 : decode cX2_put 38 = .ok (.iload_n 1, 1) := by decide +kernel
theorem dX2_put_39 : decode cX2_put 39 = .ok (.iload 5, 2) := by decide +kernel
theorem dX2_put_41 : decode cX2_put 41 = .ok (.iload_n 3, 1) := by decide +kernel
theorem dX2_put_42 : decode cX2_put 42 = .ok (.isub, 1) := by decide +kernel
theorem dX2_put_43 : decode cX2_put 43 = .ok (.iastore, 1) := by decide +kernel
theorem dX2_put_44 : decode cX2_put 44 = .ok (.return_, 1) := by decide +kernel
theorem dX2_findMeeting_0 : decode cX2_findMeeting 0 = .ok (.aload_n 0, 1) := by decide +kernel
theorem dX2_findMeeting_1 : decode cX2_findMeeting 1 = .ok (.iconst (-1), 1) := by decide +kernel
theorem dX2_findMeeting_2 : decode cX2_findMeeting 2 = .ok (.putfield 31, 3) := by decide +kernel
theorem dX2_findMeeting_5 : decode cX2_findMeeting 5 = .ok (.bipush (-40), 2) := by decide +kernel
theorem dX2_findMeeting_7 : decode cX2_findMeeting 7 = .ok (.istore_n 3, 1) := by decide +kernel
theorem dX2_findMeeting_8 : decode cX2_findMeeting 8 = .ok (.iload_n 3, 1) := by decide +kernel
theorem dX2_findMeeting_9 : decode cX2_findMeeting 9 = .ok (.bipush 40, 2) := by decide +kernel
theorem dX2_findMeeting_11 : decode cX2_findMeeting 11 = .ok (.if_icmp .gt 74, 3) := by decide +kernel
theorem dX2_findMeeting_14 : decode cX2_findMeeting 14 = .ok (.aload_n 0, 1) := by decide +kernel
theorem dX2_findMeeting_15 : decode cX2_findMeeting 15 = .ok (.iload_n 3, 1) := by decide +kernel
theorem dX2_findMeeting_16 : decode cX2_findMeeting 16 = .ok (.iload_n 1, 1) := by decide +kernel
theorem dX2_findMeeting_17 : decode cX2_findMeeting 17 = .ok (.iload_n 2, 1) := by decide +kernel
theorem dX2_findMeeting_18 : decode cX2_findMeeting 18 = .ok (.invokevirtual 35, 3) := by decide +kernel
theorem dX2_findMeeting_21 : decode cX2_findMeeting 21 = .ok (.iconst 0, 1) := by decide +kernel
theorem dX2_findMeeting_22 : decode cX2_findMeeting 22 = .ok (.istore 4, 2) := by decide +kernel
theorem dX2_findMeeting_24 : decode cX2_findMeeting 24 = .ok (.iload 4, 2) := by decide +kernel
theorem dX2_findMeeting_26 : decode cX2_findMeeting 26 = .ok (.aload_n 0, 1) := by decide +kernel
theorem dX2_findMeeting_27 : decode cX2_findMeeting 27 = .ok (.getfield 24, 3) := by decide +kernel
theorem dX2_findMeeting_30 : decode cX2_findMeeting 30 = .ok (.arraylength, 1) := by decide +kernel
theorem dX2_findMeeting_31 : decode cX2_findMeeting 31 = .ok (.if_icmp .ge 48, 3) := by decide +kernel
theorem dX2_findMeeting_34 : decode cX2_findMeeting 34 = .ok (.aload_n 0, 1) := by decide +kernel
theorem dX2_findMeeting_35 : decode cX2_findMeeting 35 = .ok (.getfield 24, 3) := by decide +kernel
theorem dX2_findMeeting_38 : decode cX2_findMeeting 38 = .ok (.iload 4, 2) := by decide +kernel
theorem dX2_findMeeting_40 : decode cX2_findMeeting 40 = .ok (.iaload, 1) := by decide +kernel
theorem dX2_findMeeting_41 : decode cX2_findMeeting 41 = .ok (.aload_n 0, 1) := by decide +kernel
theorem dX2_findMeeting_42 : decode cX2_findMeeting 42 = .ok (.getfield 31, 3) := by decide +kernel
theorem dX2_findMeeting_45 : decode cX2_findMeeting 45 = .ok (.if_icmp .le 28, 3) := by decide +kernel
theorem dX2_findMeeting_48 : decode cX2_findMeeting 48 = .ok (.aload_n 0, 1) := by decide +kernel
theorem dX2_findMeeting_49 : decode cX2_findMeeting 49 = .ok (.aload_n 0, 1) := by decide +kernel
theorem dX2_findMeeting_50 : decode cX2_findMeeting 50 = .ok (.getfield 24, 3) := by decide +kernel
theorem dX2_findMeeting_53 : decode cX2_findMeeting 53 = .ok (.iload 4, 2) := by decide +kernel
theorem dX2_findMeeting_55 : decode cX2_findMeeting 55 = .ok (.iaload, 1) := by decide +kernel
theorem dX2_findMeeting_56 : decode cX2_findMeeting 56 = .ok (.putfield 31, 3) := by decide +kernel
theorem dX2_findMeeting_59 : decode cX2_findMeeting 59 = .ok (.aload_n 0, 1) := by decide +kernel
theorem dX2_findMeeting_60 : decode cX2_findMeeting 60 = .ok (.iload 4, 2) := by decide +kernel
theorem dX2_findMeeting_62 : decode cX2_findMeeting 62 = .ok (.bipush 40, 2) := by decide +kernel
theorem dX2_findMeeting_64 : decode cX2_findMeeting 64 = .ok (.isub, 1) := by decide +kernel
theorem dX2_findMeeting_65 : decode cX2_findMeeting 65 = .ok (.putfield 39, 3) := by decide +kernel
theorem dX2_findMeeting_68 : decode cX2_findMeeting 68 = .ok (.aload_n 0, 1) := by decide +kernel
theorem dX2_findMeeting_69 : decode cX2_findMeeting 69 = .ok (.iload_n 3, 1) := by decide +kernel
theorem dX2_findMeeting_70 : decode cX2_findMeeting 70 = .ok (.putfield 42, 3) := by decide +kernel
theorem dX2_findMeeting_73 : decode cX2_findMeeting 73 = .ok (.iinc 4 1, 3) := by decide +kernel
theorem dX2_findMeeting_76 : decode cX2_findMeeting 76 = .ok (.goto (-52), 3) := by decide +kernel
theorem dX2_findMeeting_79 : decode cX2_findMeeting 79 = .ok (.iinc 3 1, 3) := by decide +kernel
theorem dX2_findMeeting_82 : decode cX2_findMeeting 82 = .ok (.goto (-74), 3) := by decide +kernel
theorem dX2_findMeeting_85 : decode cX2_findMeeting 85 = .ok (.return_, 1) := by decide +kernel
theorem dX2_countThrough_0 : decode cX2_countThrough 0 = .ok (.iconst 0, 1) := by decide +kernel
theorem dX2_countThrough_1 : decode cX2_countThrough 1 = .ok (.istore 4, 2) := by decide +kernel
theorem dX2_countThrough_3 : decode cX2_countThrough 3 = .ok (.iload 4, 2) := by decide +kernel
theorem dX2_countThrough_5 : decode cX2_countThrough 5 = .ok (.aload_n 0, 1) := by decide +kernel
theorem dX2_countThrough_6 : decode cX2_countThrough 6 = .ok (.getfield 24, 3) := by decide +kernel
theorem dX2_countThrough_9 : decode cX2_countThrough 9 = .ok (.arraylength, 1) := by decide +kernel
theorem dX2_countThrough_10 : decode cX2_countThrough 10 = .ok (.if_icmp .ge 17, 3) := by decide +kernel
theorem dX2_countThrough_13 : decode cX2_countThrough 13 = .ok (.aload_n 0, 1) := by decide +kernel
theorem dX2_countThrough_14 : decode cX2_countThrough 14 = .ok (.getfield 24, 3) := by decide +kernel
theorem dX2_countThrough_17 : decode cX2_countThrough 17 = .ok (.iload 4, 2) := by decide +kernel
theorem dX2_countThrough_19 : decode cX2_countThrough 19 = .ok (.iconst 0, 1) := by decide +kernel
theorem dX2_countThrough_20 : decode cX2_countThrough 20 = .ok (.iastore, 1) := by decide +kernel
theorem dX2_countThrough_21 : decode cX2_countThrough 21 = .ok (.iinc 4 1, 3) := by decide +kernel
theorem dX2_countThrough_24 : decode cX2_countThrough 24 = .ok (.goto (-21), 3) := by decide +kernel
theorem dX2_countThrough_27 : decode cX2_countThrough 27 = .ok (.iconst 0, 1) := by decide +kernel
theorem dX2_countThrough_28 : decode cX2_countThrough 28 = .ok (.istore 4, 2) := by decide +kernel
theorem dX2_countThrough_30 : decode cX2_countThrough 30 = .ok (.iload 4, 2) := by decide +kernel
theorem dX2_countThrough_32 : decode cX2_countThrough 32 = .ok (.iload_n 2, 1) := by decide +kernel
theorem dX2_countThrough_33 : decode cX2_countThrough 33 = .ok (.bipush 10, 2) := by decide +kernel
theorem dX2_countThrough_35 : decode cX2_countThrough 35 = .ok (.invokestatic 45, 3) := by decide +kernel
theorem dX2_countThrough_38 : decode cX2_countThrough 38 = .ok (.if_icmp .ge 132, 3) := by decide +kernel
theorem dX2_countThrough_41 : decode cX2_countThrough 41 = .ok (.aload_n 0, 1) := by decide +kernel
theorem dX2_countThrough_42 : decode cX2_countThrough 42 = .ok (.iload 4, 2) := by decide +kernel
theorem dX2_countThrough_44 : decode cX2_countThrough 44 = .ok (.iload_n 3, 1) := by decide +kernel
theorem dX2_countThrough_45 : decode cX2_countThrough 45 = .ok (.invokevirtual 51, 3) := by decide +kernel
theorem dX2_countThrough_48 : decode cX2_countThrough 48 = .ok (.istore 5, 2) := by decide +kernel
theorem dX2_countThrough_50 : decode cX2_countThrough 50 = .ok (.aload_n 0, 1) := by decide +kernel
theorem dX2_countThrough_51 : decode cX2_countThrough 51 = .ok (.getfield 18, 3) := by decide +kernel
theorem dX2_countThrough_54 : decode cX2_countThrough 54 = .ok (.iload 4, 2) := by decide +kernel
theorem dX2_countThrough_56 : decode cX2_countThrough 56 = .ok (.iaload, 1) := by decide +kernel
theorem dX2_countThrough_57 : decode cX2_countThrough 57 = .ok (.iload_n 1, 1) := by decide +kernel
theorem dX2_countThrough_58 : decode cX2_countThrough 58 = .ok (.aload_n 0, 1) := by decide +kernel
theorem dX2_countThrough_59 : decode cX2_countThrough 59 = .ok (.getfield 15, 3) := by decide +kernel
theorem dX2_countThrough_62 : decode cX2_countThrough 62 = .ok (.iload 4, 2) := by decide +kernel
theorem dX2_countThrough_64 : decode cX2_countThrough 64 = .ok (.iaload, 1) := by decide +kernel
theorem dX2_countThrough_65 : decode cX2_countThrough 65 = .ok (.isub, 1) := by decide +kernel
theorem dX2_countThrough_66 : decode cX2_countThrough 66 = .ok (.imul, 1) := by decide +kernel
theorem dX2_countThrough_67 : decode cX2_countThrough 67 = .ok (.aload_n 0, 1) := by decide +kernel
theorem dX2_countThrough_68 : decode cX2_countThrough 68 = .ok (.getfield 21, 3) := by decide +kernel
theorem dX2_countThrough_71 : decode cX2_countThrough 71 = .ok (.iload 4, 2) := by decide +kernel
theorem dX2_countThrough_73 : decode cX2_countThrough 73 = .ok (.iaload, 1) := by decide +kernel
theorem dX2_countThrough_74 : decode cX2_countThrough 74 = .ok (.aload_n 0, 1) := by decide +kernel
theorem dX2_countThrough_75 : decode cX2_countThrough 75 = .ok (.getfield 9, 3) := by decide +kernel
theorem dX2_countThrough_78 : decode cX2_countThrough 78 = .ok (.iload 4, 2) := by decide +kernel
theorem dX2_countThrough_80 : decode cX2_countThrough 80 = .ok (.iaload, 1) := by decide +kernel
theorem dX2_countThrough_81 : decode cX2_countThrough 81 = .ok (.imul, 1) := by decide +kernel
theorem dX2_countThrough_82 : decode cX2_countThrough 82 = .ok (.iadd, 1) := by decide +kernel
theorem dX2_countThrough_83 : decode cX2_countThrough 83 = .ok (.istore 6, 2) := by decide +kernel
theorem dX2_countThrough_85 : decode cX2_countThrough 85 = .ok (.iload 6, 2) := by decide +kernel
theorem dX2_countThrough_87 : decode cX2_countThrough 87 = .ok (.aload_n 0, 1) := by decide +kernel
theorem dX2_countThrough_88 : decode cX2_countThrough 88 = .ok (.getfield 21, 3) := by decide +kernel
theorem dX2_countThrough_91 : decode cX2_countThrough 91 = .ok (.iload 4, 2) := by decide +kernel
theorem dX2_countThrough_93 : decode cX2_countThrough 93 = .ok (.iaload, 1) := by decide +kernel
theorem dX2_countThrough_94 : decode cX2_countThrough 94 = .ok (.ineg, 1) := by decide +kernel
theorem dX2_countThrough_95 : decode cX2_countThrough 95 = .ok (.iload 5, 2) := by decide +kernel
theorem dX2_countThrough_97 : decode cX2_countThrough 97 = .ok (.bipush (-40), 2) := by decide +kernel
theorem dX2_countThrough_99 : decode cX2_countThrough 99 = .ok (.invokestatic 54, 3) := by decide +kernel
theorem dX2_countThrough_102 : decode cX2_countThrough 102 = .ok (.istore 7, 2) := by decide +kernel
theorem dX2_countThrough_104 : decode cX2_countThrough 104 = .ok (.iload 6, 2) := by decide +kernel
theorem dX2_countThrough_106 : decode cX2_countThrough 106 = .ok (.aload_n 0, 1) := by decide +kernel
theorem dX2_countThrough_107 : decode cX2_countThrough 107 = .ok (.getfield 21, 3) := by decide +kernel
theorem dX2_countThrough_110 : decode cX2_countThrough 110 = .ok (.iload 4, 2) := by decide +kernel
theorem dX2_countThrough_112 : decode cX2_countThrough 112 = .ok (.iaload, 1) := by decide +kernel
theorem dX2_countThrough_113 : decode cX2_countThrough 113 = .ok (.ineg, 1) := by decide +kernel
theorem dX2_countThrough_114 : decode cX2_countThrough 114 = .ok (.iload 5, 2) := by decide +kernel
theorem dX2_countThrough_116 : decode cX2_countThrough 116 = .ok (.bipush 40, 2) := by decide +kernel
theorem dX2_countThrough_118 : decode cX2_countThrough 118 = .ok (.invokestatic 58, 3) := by decide +kernel
theorem dX2_countThrough_121 : decode cX2_countThrough 121 = .ok (.istore 8, 2) := by decide +kernel
theorem dX2_countThrough_123 : decode cX2_countThrough 123 = .ok (.iload 7, 2) := by decide +kernel
theorem dX2_countThrough_125 : decode cX2_countThrough 125 = .ok (.bipush (-40), 2) := by decide +kernel
theorem dX2_countThrough_127 : decode cX2_countThrough 127 = .ok (.invokestatic 61, 3) := by decide +kernel
theorem dX2_countThrough_130 : decode cX2_countThrough 130 = .ok (.istore 9, 2) := by decide +kernel
theorem dX2_countThrough_132 : decode cX2_countThrough 132 = .ok (.iload 9, 2) := by decide +kernel
theorem dX2_countThrough_134 : decode cX2_countThrough 134 = .ok (.iload 8, 2) := by decide +kernel
theorem dX2_countThrough_136 : decode cX2_countThrough 136 = .ok (.bipush 40, 2) := by decide +kernel
theorem dX2_countThrough_138 : decode cX2_countThrough 138 = .ok (.invokestatic 45, 3) := by decide +kernel
theorem dX2_countThrough_141 : decode cX2_countThrough 141 = .ok (.if_icmp .gt 23, 3) := by decide +kernel
theorem dX2_countThrough_144 : decode cX2_countThrough 144 = .ok (.aload_n 0, 1) := by decide +kernel
theorem dX2_countThrough_145 : decode cX2_countThrough 145 = .ok (.getfield 24, 3) := by decide +kernel
theorem dX2_countThrough_148 : decode cX2_countThrough 148 = .ok (.iload 9, 2) := by decide +kernel
theorem dX2_countThrough_150 : decode cX2_countThrough 150 = .ok (.bipush 40, 2) := by decide +kernel
theorem dX2_countThrough_152 : decode cX2_countThrough 152 = .ok (.iadd, 1) := by decide +kernel
theorem dX2_countThrough_153 : decode cX2_countThrough 153 = .ok (.dup2, 1) := by decide +kernel
theorem dX2_countThrough_154 : decode cX2_countThrough 154 = .ok (.iaload, 1) := by decide +kernel
theorem dX2_countThrough_155 : decode cX2_countThrough 155 = .ok (.iconst 1, 1) := by decide +kernel
theorem dX2_countThrough_156 : decode cX2_countThrough 156 = .ok (.iadd, 1) := by decide +kernel
theorem dX2_countThrough_157 : decode cX2_countThrough 157 = .ok (.iastore, 1) := by decide +kernel
theorem dX2_countThrough_158 : decode cX2_countThrough 158 = .ok (.iinc 9 1, 3) := by decide +kernel
theorem dX2_countThrough_161 : decode cX2_countThrough 161 = .ok (.goto (-29), 3) := by decide +kernel
theorem dX2_countThrough_164 : decode cX2_countThrough 164 = .ok (.iinc 4 1, 3) := by decide +kernel
theorem dX2_countThrough_167 : decode cX2_countThrough 167 = .ok (.goto (-137), 3) := by decide +kernel
theorem dX2_countThrough_170 : decode cX2_countThrough 170 = .ok (.return_, 1) := by decide +kernel
theorem dX2_missing_0 : decode cX2_missing 0 = .ok (.iconst 0, 1) := by decide +kernel
theorem dX2_missing_1 : decode cX2_missing 1 = .ok (.istore_n 3, 1) := by decide +kernel
theorem dX2_missing_2 : decode cX2_missing 2 = .ok (.iconst 0, 1) := by decide +kernel
theorem dX2_missing_3 : decode cX2_missing 3 = .ok (.istore 4, 2) := by decide +kernel
theorem dX2_missing_5 : decode cX2_missing 5 = .ok (.iload 4, 2) := by decide +kernel
theorem dX2_missing_7 : decode cX2_missing 7 = .ok (.iload_n 1, 1) := by decide +kernel
theorem dX2_missing_8 : decode cX2_missing 8 = .ok (.bipush 10, 2) := by decide +kernel
theorem dX2_missing_10 : decode cX2_missing 10 = .ok (.invokestatic 45, 3) := by decide +kernel
theorem dX2_missing_13 : decode cX2_missing 13 = .ok (.if_icmp .ge 74, 3) := by decide +kernel
theorem dX2_missing_16 : decode cX2_missing 16 = .ok (.aload_n 0, 1) := by decide +kernel
theorem dX2_missing_17 : decode cX2_missing 17 = .ok (.getfield 18, 3) := by decide +kernel
theorem dX2_missing_20 : decode cX2_missing 20 = .ok (.iload 4, 2) := by decide +kernel
theorem dX2_missing_22 : decode cX2_missing 22 = .ok (.iaload, 1) := by decide +kernel
theorem dX2_missing_23 : decode cX2_missing 23 = .ok (.aload_n 0, 1) := by decide +kernel
theorem dX2_missing_24 : decode cX2_missing 24 = .ok (.getfield 42, 3) := by decide +kernel
theorem dX2_missing_27 : decode cX2_missing 27 = .ok (.aload_n 0, 1) := by decide +kernel
theorem dX2_missing_28 : decode cX2_missing 28 = .ok (.getfield 15, 3) := by decide +kernel
theorem dX2_missing_31 : decode cX2_missing 31 = .ok (.iload 4, 2) := by decide +kernel
theorem dX2_missing_33 : decode cX2_missing 33 = .ok (.iaload, 1) := by decide +kernel
theorem dX2_missing_34 : decode cX2_missing 34 = .ok (.isub, 1) := by decide +kernel
theorem dX2_missing_35 : decode cX2_missing 35 = .ok (.imul, 1) := by decide +kernel
theorem dX2_missing_36 : decode cX2_missing 36 = .ok (.aload_n 0, 1) := by decide +kernel
theorem dX2_missing_37 : decode cX2_missing 37 = .ok (.getfield 21, 3) := by decide +kernel
theorem dX2_missing_40 : decode cX2_missing 40 = .ok (.iload 4, 2) := by decide +kernel
theorem dX2_missing_42 : decode cX2_missing 42 = .ok (.iaload, 1) := by decide +kernel
theorem dX2_missing_43 : decode cX2_missing 43 = .ok (.aload_n 0, 1) := by decide +kernel
theorem dX2_missing_44 : decode cX2_missing 44 = .ok (.getfield 39, 3) := by decide +kernel
theorem dX2_missing_47 : decode cX2_missing 47 = .ok (.aload_n 0, 1) := by decide +kernel
theorem dX2_missing_48 : decode cX2_missing 48 = .ok (.getfield 9, 3) := by decide +kernel
theorem dX2_missing_51 : decode cX2_missing 51 = .ok (.iload 4, 2) := by decide +kernel
theorem dX2_missing_53 : decode cX2_missing 53 = .ok (.iaload, 1) := by decide +kernel
theorem dX2_missing_54 : decode cX2_missing 54 = .ok (.isub, 1) := by decide +kernel
theorem dX2_missing_55 : decode cX2_missing 55 = .ok (.imul, 1) := by decide +kernel
theorem dX2_missing_56 : decode cX2_missing 56 = .ok (.isub, 1) := by decide +kernel
theorem dX2_missing_57 : decode cX2_missing 57 = .ok (.istore 5, 2) := by decide +kernel
theorem dX2_missing_59 : decode cX2_missing 59 = .ok (.iload 5, 2) := by decide +kernel
theorem dX2_missing_61 : decode cX2_missing 61 = .ok (.invokestatic 64, 3) := by decide +kernel
theorem dX2_missing_64 : decode cX2_missing 64 = .ok (.aload_n 0, 1) := by decide +kernel
theorem dX2_missing_65 : decode cX2_missing 65 = .ok (.iload 4, 2) := by decide +kernel
theorem dX2_missing_67 : decode cX2_missing 67 = .ok (.iload_n 2, 1) := by decide +kernel
theorem dX2_missing_68 : decode cX2_missing 68 = .ok (.invokevirtual 51, 3) := by decide +kernel
theorem dX2_missing_71 : decode cX2_missing 71 = .ok (.if_icmp .le 10, 3) := by decide +kernel
theorem dX2_missing_74 : decode cX2_missing 74 = .ok (.iload_n 3, 1) := by decide +kernel
theorem dX2_missing_75 : decode cX2_missing 75 = .ok (.iconst 1, 1) := by decide +kernel
theorem dX2_missing_76 : decode cX2_missing 76 = .ok (.iload 4, 2) := by decide +kernel
theorem dX2_missing_78 : decode cX2_missing 78 = .ok (.ishl, 1) := by decide +kernel
theorem dX2_missing_79 : decode cX2_missing 79 = .ok (.ior, 1) := by decide +kernel
theorem dX2_missing_80 : decode cX2_missing 80 = .ok (.istore_n 3, 1) := by decide +kernel
theorem dX2_missing_81 : decode cX2_missing 81 = .ok (.iinc 4 1, 3) := by decide +kernel
theorem dX2_missing_84 : decode cX2_missing 84 = .ok (.goto (-79), 3) := by decide +kernel
theorem dX2_missing_87 : decode cX2_missing 87 = .ok (.iload_n 3, 1) := by decide +kernel
theorem dX2_missing_88 : decode cX2_missing 88 = .ok (.ireturn, 1) := by decide +kernel
theorem dX2_reachOf_0 : decode cX2_reachOf 0 = .ok (.iload_n 1, 1) := by decide +kernel
theorem dX2_reachOf_1 : decode cX2_reachOf 1 = .ok (.iconst 0, 1) := by decide +kernel
theorem dX2_reachOf_2 : decode cX2_reachOf 2 = .ok (.bipush 9, 2) := by decide +kernel
theorem dX2_reachOf_4 : decode cX2_reachOf 4 = .ok (.invokestatic 27, 3) := by decide +kernel
theorem dX2_reachOf_7 : decode cX2_reachOf 7 = .ok (.ifCond .ne 5, 3) := by decide +kernel
theorem dX2_reachOf_10 : decode cX2_reachOf 10 = .ok (.iconst 0, 1) := by decide +kernel
theorem dX2_reachOf_11 : decode cX2_reachOf 11 = .ok (.ireturn, 1) := by decide +kernel
theorem dX2_reachOf_12 : decode cX2_reachOf 12 = .ok (.iload_n 2, 1) := by decide +kernel
theorem dX2_reachOf_13 : decode cX2_reachOf 13 = .ok (.aload_n 0, 1) := by decide +kernel
theorem dX2_reachOf_14 : decode cX2_reachOf 14 = .ok (.getfield 18, 3) := by decide +kernel
theorem dX2_reachOf_17 : decode cX2_reachOf 17 = .ok (.iload_n 1, 1) := by decide +kernel
theorem dX2_reachOf_18 : decode cX2_reachOf 18 = .ok (.iaload, 1) := by decide +kernel
theorem dX2_reachOf_19 : decode cX2_reachOf 19 = .ok (.invokestatic 64, 3) := by decide +kernel
theorem dX2_reachOf_22 : decode cX2_reachOf 22 = .ok (.aload_n 0, 1) := by decide +kernel
theorem dX2_reachOf_23 : decode cX2_reachOf 23 = .ok (.getfield 21, 3) := by decide +kernel
theorem dX2_reachOf_26 : decode cX2_reachOf 26 = .ok (.iload_n 1, 1) := by decide +kernel
theorem dX2_reachOf_27 : decode cX2_reachOf 27 = .ok (.iaload, 1) := by decide +kernel
theorem dX2_reachOf_28 : decode cX2_reachOf 28 = .ok (.invokestatic 64, 3) := by decide +kernel
theorem dX2_reachOf_31 : decode cX2_reachOf 31 = .ok (.iadd, 1) := by decide +kernel
theorem dX2_reachOf_32 : decode cX2_reachOf 32 = .ok (.imul, 1) := by decide +kernel
theorem dX2_reachOf_33 : decode cX2_reachOf 33 = .ok (.ireturn, 1) := by decide +kernel
theorem dX3_init_0 : decode cX3_init 0 = .ok (.aload_n 0, 1) := by decide +kernel
theorem dX3_init_1 : decode cX3_init 1 = .ok (.invokespecial 3, 3) := by decide +kernel
theorem dX3_init_4 : decode cX3_init 4 = .ok (.aload_n 0, 1) := by decide +kernel
theorem dX3_init_5 : decode cX3_init 5 = .ok (.iload_n 1, 1) := by decide +kernel
theorem dX3_init_6 : decode cX3_init 6 = .ok (.iconst 1, 1) := by decide +kernel
theorem dX3_init_7 : decode cX3_init 7 = .ok (.bipush 12, 2) := by decide +kernel
theorem dX3_init_9 : decode cX3_init 9 = .ok (.invokestatic 9, 3) := by decide +kernel
theorem dX3_init_12 : decode cX3_init 12 = .ok (.ifCond .eq 7, 3) := by decide +kernel
theorem dX3_init_15 : decode cX3_init 15 = .ok (.iload_n 1, 1) := by decide +kernel
theorem dX3_init_16 : decode cX3_init 16 = .ok (.goto 5, 3) := by decide +kernel
theorem dX3_init_19 : decode cX3_init 19 = .ok (.bipush 12, 2) := by decide +kernel
theorem dX3_init_21 : decode cX3_init 21 = .ok (.putfield 13, 3) := by decide +kernel
theorem dX3_init_24 : decode cX3_init 24 = .ok (.aload_n 0, 1) := by decide +kernel
theorem dX3_init_25 : decode cX3_init 25 = .ok (.iload_n 2, 1) := by decide +kernel
theorem dX3_init_26 : decode cX3_init 26 = .ok (.iconst 1, 1) := by decide +kernel
theorem dX3_init_27 : decode cX3_init 27 = .ok (.bipush 12, 2) := by decide +kernel
theorem dX3_init_29 : decode cX3_init 29 = .ok (.invokestatic 9, 3) := by decide +kernel
theorem dX3_init_32 : decode cX3_init 32 = .ok (.ifCond .eq 7, 3) := by decide +kernel
theorem dX3_init_35 : decode cX3_init 35 = .ok (.iload_n 2, 1) := by decide +kernel
theorem dX3_init_36 : decode cX3_init 36 = .ok (.goto 5, 3) := by decide +kernel
theorem dX3_init_39 : decode cX3_init 39 = .ok (.bipush 12, 2) := by decide +kernel
theorem dX3_init_41 : decode cX3_init 41 = .ok (.putfield 19, 3) := by decide +kernel
theorem dX3_init_44 : decode cX3_init 44 = .ok (.aload_n 0, 1) := by decide +kernel
theorem dX3_init_45 : decode cX3_init 45 = .ok (.aload_n 0, 1) := by decide +kernel
theorem dX3_init_46 : decode cX3_init 46 = .ok (.getfield 13, 3) := by decide +kernel
theorem dX3_init_49 : decode cX3_init 49 = .ok (.aload_n 0, 1) := by decide +kernel
theorem dX3_init_50 : decode cX3_init 50 = .ok (.getfield 19, 3) := by decide +kernel
theorem dX3_init_53 : decode cX3_init 53 = .ok (.imul, 1) := by decide +kernel
theorem dX3_init_54 : decode cX3_init 54 = .ok (.newarray .int, 2) := by decide +kernel
theorem dX3_init_56 : decode cX3_init 56 = .ok (.putfield 22, 3) := by decide +kernel
theorem dX3_init_59 : decode cX3_init 59 = .ok (.return_, 1) := by decide +kernel
theorem dX3_has_0 : decode cX3_has 0 = .ok (.iload_n 1, 1) := by decide +kernel
theorem dX3_has_1 : decode cX3_has 1 = .ok (.ifCond .lt 27, 3) := by decide +kernel
theorem dX3_has_4 : decode cX3_has 4 = .ok (.iload_n 1, 1) := by decide +kernel
theorem dX3_has_5 : decode cX3_has 5 = .ok (.aload_n 0, 1) := by decide +kernel
theorem dX3_has_6 : decode cX3_has 6 = .ok (.getfield 13, 3) := by decide +kernel
theorem dX3_has_9 : decode cX3_has 9 = .ok (.if_icmp .ge 19, 3) := by decide +kernel
theorem dX3_has_12 : decode cX3_has 12 = .ok (.iload_n 2, 1) := by decide +kernel
theorem dX3_has_13 : decode cX3_has 13 = .ok (.ifCond .lt 15, 3) := by decide +kernel
theorem dX3_has_16 : decode cX3_has 16 = .ok (.iload_n 2, 1) := by decide +kernel
theorem dX3_has_17 : decode cX3_has 17 = .ok (.aload_n 0, 1) := by decide +kernel
theorem dX3_has_18 : decode cX3_has 18 = .ok (.getfield 19, 3) := by decide +kernel
theorem dX3_has_21 : decode cX3_has 21 = .ok (.if_icmp .ge 7, 3) := by decide +kernel
theorem dX3_has_24 : decode cX3_has 24 = .ok (.iconst 1, 1) := by decide +kernel
theorem dX3_has_25 : decode cX3_has 25 = .ok (.goto 4, 3) := by decide +kernel
theorem dX3_has_28 : decode cX3_has 28 = .ok (.iconst 0, 1) := by decide +kernel
theorem dX3_has_29 : decode cX3_has 29 = .ok (.ireturn, 1) := by decide +kernel
theorem dX3_hasField_0 : decode cX3_hasField 0 = .ok (.aload_n 0, 1) := by decide +kernel
theorem dX3_hasField_1 : decode cX3_hasField 1 = .ok (.iload_n 1, 1) := by decide +kernel
theorem dX3_hasField_2 : decode cX3_hasField 2 = .ok (.iload_n 2, 1) := by decide +kernel
theorem dX3_hasField_3 : decode cX3_hasField 3 = .ok (.invokevirtual 26, 3) := by decide +kernel
theorem dX3_hasField_6 : decode cX3_hasField 6 = .ok (.ifCond .eq 36, 3) := by decide +kernel
theorem dX3_hasField_9 : decode cX3_hasField 9 = .ok (.iload_n 3, 1) := by decide +kernel
theorem dX3_hasField_10 : decode cX3_hasField 10 = .ok (.iconst 1, 1) := by decide +kernel
theorem dX3_hasField_11 : decode cX3_hasField 11 = .ok (.aload_n 0, 1) := by decide +kernel
theorem dX3_hasField_12 : decode cX3_hasField 12 = .ok (.getfield 13, 3) := by decide +kernel
theorem dX3_hasField_15 : decode cX3_hasField 15 = .ok (.iload_n 1, 1) := by decide +kernel
theorem dX3_hasField_16 : decode cX3_hasField 16 = .ok (.isub, 1) := by decide +kernel
theorem dX3_hasField_17 : decode cX3_hasField 17 = .ok (.invokestatic 9, 3) := by decide +kernel
theorem dX3_hasField_20 : decode cX3_hasField 20 = .ok (.ifCond .eq 22, 3) := by decide +kernel
theorem dX3_hasField_23 : decode cX3_hasField 23 = .ok (.iload 4, 2) := by decide +kernel
theorem dX3_hasField_25 : decode cX3_hasField 25 = .ok (.iconst 1, 1) := by decide +kernel
theorem dX3_hasField_26 : decode cX3_hasField 26 = .ok (.aload_n 0, 1) := by decide +kernel
theorem dX3_hasField_27 : decode cX3_hasField 27 = .ok (.getfield 19, 3) := by decide +kernel
theorem dX3_hasField_30 : decode cX3_hasField 30 = .ok (.iload_n 2, 1) := by decide +kernel
theorem dX3_hasField_31 : decode cX3_hasField 31 = .ok (.isub, 1) := by decide +kernel
theorem dX3_hasField_32 : decode cX3_hasField 32 = .ok (.invokestatic 9, 3) := by decide +kernel
theorem dX3_hasField_35 : decode cX3_hasField 35 = .ok (.ifCond .eq 7, 3) := by decide +kernel
theorem dX3_hasField_38 : decode cX3_hasField 38 = .ok (.iconst 1, 1) := by decide +kernel
theorem dX3_hasField_39 : decode cX3_hasField 39 = .ok (.goto 4, 3) := by decide +kernel
theorem dX3_hasField_42 : decode cX3_hasField 42 = .ok (.iconst 0, 1) := by decide +kernel
theorem dX3_hasField_43 : decode cX3_hasField 43 = .ok (.ireturn, 1) := by decide +kernel
theorem dX3_get_0 : decode cX3_get 0 = .ok (.iload_n 1, 1) := by decide +kernel
theorem dX3_get_1 : decode cX3_get 1 = .ok (.ifCond .lt 27, 3) := by decide +kernel
theorem dX3_get_4 : decode cX3_get 4 = .ok (.iload_n 1, 1) := by decide +kernel
theorem dX3_get_5 : decode cX3_get 5 = .ok (.aload_n 0, 1) := by decide +kernel
theorem dX3_get_6 : decode cX3_get 6 = .ok (.getfield 13, 3) := by decide +kernel
theorem dX3_get_9 : decode cX3_get 9 = .ok (.if_icmp .ge 19, 3) := by decide +kernel
theorem dX3_get_12 : decode cX3_get 12 = .ok (.iload_n 2, 1) := by decide +kernel
theorem dX3_get_13 : decode cX3_get 13 = .ok (.ifCond .lt 15, 3) := by decide +kernel
theorem dX3_get_16 : decode cX3_get 16 = .ok (.iload_n 2, 1) := by decide +kernel
theorem dX3_get_17 : decode cX3_get 17 = .ok (.aload_n 0, 1) := by decide +kernel
theorem dX3_get_18 : decode cX3_get 18 = .ok (.getfield 19, 3) := by decide +kernel
theorem dX3_get_21 : decode cX3_get 21 = .ok (.if_icmp .ge 7, 3) := by decide +kernel
theorem dX3_get_24 : decode cX3_get 24 = .ok (.iconst 1, 1) := by decide +kernel
theorem dX3_get_25 : decode cX3_get 25 = .ok (.goto 4, 3) := by decide +kernel
theorem dX3_get_28 : decode cX3_get 28 = .ok (.iconst 0, 1) := by decide +kernel
theorem dX3_get_29 : decode cX3_get 29 = .ok (.istore_n 3, 1) := by decide +kernel
theorem dX3_get_30 : decode cX3_get 30 = .ok (.iload_n 3, 1) := by decide +kernel
theorem dX3_get_31 : decode cX3_get 31 = .ok (.ifCond .eq 19, 3) := by decide +kernel
theorem dX3_get_34 : decode cX3_get 34 = .ok (.aload_n 0, 1) := by decide +kernel
theorem dX3_get_35 : decode cX3_get 35 = .ok (.getfield 22, 3) := by decide +kernel
theorem dX3_get_38 : decode cX3_get 38 = .ok (.iload_n 2, 1) := by decide +kernel
theorem dX3_get_39 : decode cX3_get 39 = .ok (.aload_n 0, 1) := by decide +kernel
theorem dX3_get_40 : decode cX3_get 40 = .ok (.getfield 13, 3) := by decide +kernel
theorem dX3_get_43 : decode cX3_get 43 = .ok (.imul, 1) := by decide +kernel
theorem dX3_get_44 : decode cX3_get 44 = .ok (.iload_n 1, 1) := by decide +kernel
theorem dX3_get_45 : decode cX3_get 45 = .ok (.iadd, 1) := by decide +kernel
theorem dX3_get_46 : decode cX3_get 46 = .ok (.iaload, 1) := by decide +kernel
theorem dX3_get_47 : decode cX3_get 47 = .ok (.goto 4, 3) := by decide +kernel
theorem dX3_get_50 : decode cX3_get 50 = .ok (.iconst 0, 1) := by decide +kernel
theorem dX3_get_51 : decode cX3_get 51 = .ok (.ireturn, 1) := by decide +kernel
theorem dX3_put_0 : decode cX3_put 0 = .ok (.iload_n 1, 1) := by decide +kernel
theorem dX3_put_1 : decode cX3_put 1 = .ok (.ifCond .lt 27, 3) := by decide +kernel
theorem dX3_put_4 : decode cX3_put 4 = .ok (.iload_n 1, 1) := by decide +kernel
theorem dX3_put_5 : decode cX3_put 5 = .ok (.aload_n 0, 1) := by decide +kernel
theorem dX3_put_6 : decode cX3_put 6 = .ok (.getfield 13, 3) := by decide +kernel
theorem dX3_put_9 : decode cX3_put 9 = .ok (.if_icmp .ge 19, 3) := by decide +kernel
theorem dX3_put_12 : decode cX3_put 12 = .ok (.iload_n 2, 1) := by decide +kernel
theorem dX3_put_13 : decode cX3_put 13 = .ok (.ifCond .lt 15, 3) := by decide +kernel
theorem dX3_put_16 : decode cX3_put 16 = .ok (.iload_n 2, 1) := by decide +kernel
theorem dX3_put_17 : decode cX3_put 17 = .ok (.aload_n 0, 1) := by decide +kernel
theorem dX3_put_18 : decode cX3_put 18 = .ok (.getfield 19, 3) := by decide +kernel
theorem dX3_put_21 : decode cX3_put 21 = .ok (.if_icmp .ge 7, 3) := by decide +kernel
theorem dX3_put_24 : decode cX3_put 24 = .ok (.iconst 1, 1) := by decide +kernel
theorem dX3_put_25 : decode cX3_put 25 = .ok (.goto 4, 3) := by decide +kernel
theorem dX3_put_28 : decode cX3_put 28 = .ok (.iconst 0, 1) := by decide +kernel
theorem dX3_put_29 : decode cX3_put 29 = .ok (.istore 4, 2) := by decide +kernel
theorem dX3_put_31 : decode cX3_put 31 = .ok (.iload 4, 2) := by decide +kernel
theorem dX3_put_33 : decode cX3_put 33 = .ok (.ifCond .eq 17, 3) := by decide +kernel
theorem dX3_put_36 : decode cX3_put 36 = .ok (.aload_n 0, 1) := by decide +kernel
theorem dX3_put_37 : decode cX3_put 37 = .ok (.getfield 22, 3) := by decide +kernel
theorem dX3_put_40 : decode cX3_put 40 = .ok (.iload_n 2, 1) := by decide +kernel
theorem dX3_put_41 : decode cX3_put 41 = .ok (.aload_n 0, 1) := by decide +kernel
theorem dX3_put_42 : decode cX3_put 42 = .ok (.getfield 13, 3) := by decide +kernel
theorem dX3_put_45 : decode cX3_put 45 = .ok (.imul, 1) := by decide +kernel
theorem dX3_put_46 : decode cX3_put 46 = .ok (.iload_n 1, 1) := by decide +kernel
theorem dX3_put_47 : decode cX3_put 47 = .ok (.iadd, 1) := by decide +kernel
theorem dX3_put_48 : decode cX3_put 48 = .ok (.iload_n 3, 1) := by decide +kernel
theorem dX3_put_49 : decode cX3_put 49 = .ok (.iastore, 1) := by decide +kernel
theorem dX3_put_50 : decode cX3_put 50 = .ok (.return_, 1) := by decide +kernel
theorem dX3_become_0 : decode cX3_become 0 = .ok (.aload_n 1, 1) := by decide +kernel
theorem dX3_become_1 : decode cX3_become 1 = .ok (.ifnonnull 4, 3) := by decide +kernel
theorem dX3_become_4 : decode cX3_become 4 = .ok (.return_, 1) := by decide +kernel
theorem dX3_become_5 : decode cX3_become 5 = .ok (.aload_n 0, 1) := by decide +kernel
theorem dX3_become_6 : decode cX3_become 6 = .ok (.getfield 22, 3) := by decide +kernel
theorem dX3_become_9 : decode cX3_become 9 = .ok (.arraylength, 1) := by decide +kernel
theorem dX3_become_10 : decode cX3_become 10 = .ok (.aload_n 1, 1) := by decide +kernel
theorem dX3_become_11 : decode cX3_become 11 = .ok (.getfield 22, 3) := by decide +kernel
theorem dX3_become_14 : decode cX3_become 14 = .ok (.arraylength, 1) := by decide +kernel
theorem dX3_become_15 : decode cX3_become 15 = .ok (.invokestatic 30, 3) := by decide +kernel
theorem dX3_become_18 : decode cX3_become 18 = .ok (.istore_n 2, 1) := by decide +kernel
theorem dX3_become_19 : decode cX3_become 19 = .ok (.aload_n 1, 1) := by decide +kernel
theorem dX3_become_20 : decode cX3_become 20 = .ok (.getfield 22, 3) := by decide +kernel
theorem dX3_become_23 : decode cX3_become 23 = .ok (.iconst 0, 1) := by decide +kernel
theorem dX3_become_24 : decode cX3_become 24 = .ok (.aload_n 0, 1) := by decide +kernel
theorem dX3_become_25 : decode cX3_become 25 = .ok (.getfield 22, 3) := by decide +kernel
theorem dX3_become_28 : decode cX3_become 28 = .ok (.iconst 0, 1) := by decide +kernel
theorem dX3_become_29 : decode cX3_become 29 = .ok (.iload_n 2, 1) := by decide +kernel
theorem dX3_become_30 : decode cX3_become 30 = .ok (.invokestatic 36, 3) := by decide +kernel
theorem dX3_become_33 : decode cX3_become 33 = .ok (.return_, 1) := by decide +kernel
theorem dX3_isAs_0 : decode cX3_isAs 0 = .ok (.aload_n 1, 1) := by decide +kernel
theorem dX3_isAs_1 : decode cX3_isAs 1 = .ok (.ifnull 16, 3) := by decide +kernel
theorem dX3_isAs_4 : decode cX3_isAs 4 = .ok (.aload_n 1, 1) := by decide +kernel
theorem dX3_isAs_5 : decode cX3_isAs 5 = .ok (.getfield 22, 3) := by decide +kernel
theorem dX3_isAs_8 : decode cX3_isAs 8 = .ok (.arraylength, 1) := by decide +kernel
theorem dX3_isAs_9 : decode cX3_isAs 9 = .ok (.aload_n 0, 1) := by decide +kernel
theorem dX3_isAs_10 : decode cX3_isAs 10 = .ok (.getfield 22, 3) := by decide +kernel
theorem dX3_isAs_13 : decode cX3_isAs 13 = .ok (.arraylength, 1) := by decide +kernel
theorem dX3_isAs_14 : decode cX3_isAs 14 = .ok (.if_icmp .eq 5, 3) := by decide +kernel
theorem dX3_isAs_17 : decode cX3_isAs 17 = .ok (.iconst 0, 1) := by decide +kernel
theorem dX3_isAs_18 : decode cX3_isAs 18 = .ok (.ireturn, 1) := by decide +kernel
theorem dX3_isAs_19 : decode cX3_isAs 19 = .ok (.iconst 0, 1) := by decide +kernel
theorem dX3_isAs_20 : decode cX3_isAs 20 = .ok (.istore_n 2, 1) := by decide +kernel
theorem dX3_isAs_21 : decode cX3_isAs 21 = .ok (.iload_n 2, 1) := by decide +kernel
theorem dX3_isAs_22 : decode cX3_isAs 22 = .ok (.aload_n 0, 1) := by decide +kernel
theorem dX3_isAs_23 : decode cX3_isAs 23 = .ok (.getfield 22, 3) := by decide +kernel
theorem dX3_isAs_26 : decode cX3_isAs 26 = .ok (.arraylength, 1) := by decide +kernel
theorem dX3_isAs_27 : decode cX3_isAs 27 = .ok (.if_icmp .ge 26, 3) := by decide +kernel
theorem dX3_isAs_30 : decode cX3_isAs 30 = .ok (.aload_n 0, 1) := by decide +kernel
theorem dX3_isAs_31 : decode cX3_isAs 31 = .ok (.getfield 22, 3) := by decide +kernel
theorem dX3_isAs_34 : decode cX3_isAs 34 = .ok (.iload_n 2, 1) := by decide +kernel
theorem dX3_isAs_35 : decode cX3_isAs 35 = .ok (.iaload, 1) := by decide +kernel
theorem dX3_isAs_36 : decode cX3_isAs 36 = .ok (.aload_n 1, 1) := by decide +kernel
theorem dX3_isAs_37 : decode cX3_isAs 37 = .ok (.getfield 22, 3) := by decide +kernel
theorem dX3_isAs_40 : decode cX3_isAs 40 = .ok (.iload_n 2, 1) := by decide +kernel
theorem dX3_isAs_41 : decode cX3_isAs 41 = .ok (.iaload, 1) := by decide +kernel
theorem dX3_isAs_42 : decode cX3_isAs 42 = .ok (.if_icmp .eq 5, 3) := by decide +kernel
theorem dX3_isAs_45 : decode cX3_isAs 45 = .ok (.iconst 0, 1) := by decide +kernel
theorem dX3_isAs_46 : decode cX3_isAs 46 = .ok (.ireturn, 1) := by decide +kernel
theorem dX3_isAs_47 : decode cX3_isAs 47 = .ok (.iinc 2 1, 3) := by decide +kernel
theorem dX3_isAs_50 : decode cX3_isAs 50 = .ok (.goto (-29), 3) := by decide +kernel
theorem dX3_isAs_53 : decode cX3_isAs 53 = .ok (.iconst 1, 1) := by decide +kernel
theorem dX3_isAs_54 : decode cX3_isAs 54 = .ok (.ireturn, 1) := by decide +kernel
theorem dX3_roughness_0 : decode cX3_roughness 0 = .ok (.iconst 0, 1) := by decide +kernel
theorem dX3_roughness_1 : decode cX3_roughness 1 = .ok (.istore 5, 2) := by decide +kernel
theorem dX3_roughness_3 : decode cX3_roughness 3 = .ok (.iload_n 2, 1) := by decide +kernel
theorem dX3_roughness_4 : decode cX3_roughness 4 = .ok (.istore 6, 2) := by decide +kernel
theorem dX3_roughness_6 : decode cX3_roughness 6 = .ok (.iload 6, 2) := by decide +kernel
theorem dX3_roughness_8 : decode cX3_roughness 8 = .ok (.iload_n 2, 1) := by decide +kernel
theorem dX3_roughness_9 : decode cX3_roughness 9 = .ok (.iload 4, 2) := by decide +kernel
theorem dX3_roughness_11 : decode cX3_roughness 11 = .ok (.iadd, 1) := by decide +kernel
theorem dX3_roughness_12 : decode cX3_roughness 12 = .ok (.if_icmp .ge 90, 3) := by decide +kernel
theorem dX3_roughness_15 : decode cX3_roughness 15 = .ok (.iload_n 1, 1) := by decide +kernel
theorem dX3_roughness_16 : decode cX3_roughness 16 = .ok (.istore 7, 2) := by decide +kernel
theorem dX3_roughness_18 : decode cX3_roughness 18 = .ok (.iload 7, 2) := by decide +kernel
theorem dX3_roughness_20 : decode cX3_roughness 20 = .ok (.iload_n 1, 1) := by decide +kernel
theorem dX3_roughness_21 : decode cX3_roughness 21 = .ok (.iload_n 3, 1) := by decide +kernel
theorem dX3_roughness_22 : decode cX3_roughness 22 = .ok (.iadd, 1) := by decide +kernel
theorem dX3_roughness_23 : decode cX3_roughness 23 = .ok (.if_icmp .ge 73, 3) := by decide +kernel
theorem dX3_roughness_26 : decode cX3_roughness 26 = .ok (.aload_n 0, 1) := by decide +kernel
theorem dX3_roughness_27 : decode cX3_roughness 27 = .ok (.iload 7, 2) := by decide +kernel
theorem dX3_roughness_29 : decode cX3_roughness 29 = .ok (.iload 6, 2) := by decide +kernel
theorem dX3_roughness_31 : decode cX3_roughness 31 = .ok (.invokevirtual 42, 3) := by decide +kernel
theorem dX3_roughness_34 : decode cX3_roughness 34 = .ok (.istore 8, 2) := by decide +kernel
theorem dX3_roughness_36 : decode cX3_roughness 36 = .ok (.iload 7, 2) := by decide +kernel
theorem dX3_roughness_38 : decode cX3_roughness 38 = .ok (.iload_n 1, 1) := by decide +kernel
theorem dX3_roughness_39 : decode cX3_roughness 39 = .ok (.if_icmp .le 24, 3) := by decide +kernel
theorem dX3_roughness_42 : decode cX3_roughness 42 = .ok (.iload 5, 2) := by decide +kernel
theorem dX3_roughness_44 : decode cX3_roughness 44 = .ok (.iload 8, 2) := by decide +kernel
theorem dX3_roughness_46 : decode cX3_roughness 46 = .ok (.aload_n 0, 1) := by decide +kernel
theorem dX3_roughness_47 : decode cX3_roughness 47 = .ok (.iload 7, 2) := by decide +kernel
theorem dX3_roughness_49 : decode cX3_roughness 49 = .ok (.iconst 1, 1) := by decide +kernel
theorem dX3_roughness_50 : decode cX3_roughness 50 = .ok (.isub, 1) := by decide +kernel
theorem dX3_roughness_51 : decode cX3_roughness 51 = .ok (.iload 6, 2) := by decide +kernel
theorem dX3_roughness_53 : decode cX3_roughness 53 = .ok (.invokevirtual 42, 3) := by decide +kernel
theorem dX3_roughness_56 : decode cX3_roughness 56 = .ok (.isub, 1) := by decide +kernel
theorem dX3_roughness_57 : decode cX3_roughness 57 = .ok (.invokestatic 45, 3) := by decide +kernel
theorem dX3_roughness_60 : decode cX3_roughness 60 = .ok (.iadd, 1) := by decide +kernel
theorem dX3_roughness_61 : decode cX3_roughness 61 = .ok (.istore 5, 2) := by decide +kernel
theorem dX3_roughness_63 : decode cX3_roughness 63 = .ok (.iload 6, 2) := by decide +kernel
theorem dX3_roughness_65 : decode cX3_roughness 65 = .ok (.iload_n 2, 1) := by decide +kernel
theorem dX3_roughness_66 : decode cX3_roughness 66 = .ok (.if_icmp .le 24, 3) := by decide +kernel
theorem dX3_roughness_69 : decode cX3_roughness 69 = .ok (.iload 5, 2) := by decide +kernel
theorem dX3_roughness_71 : decode cX3_roughness 71 = .ok (.iload 8, 2) := by decide +kernel
theorem dX3_roughness_73 : decode cX3_roughness 73 = .ok (.aload_n 0, 1) := by decide +kernel
theorem dX3_roughness_74 : decode cX3_roughness 74 = .ok (.iload 7, 2) := by decide +kernel
theorem dX3_roughness_76 : decode cX3_roughness 76 = .ok (.iload 6, 2) := by decide +kernel
theorem dX3_roughness_78 : decode cX3_roughness 78 = .ok (.iconst 1, 1) := by decide +kernel
theorem dX3_roughness_79 : decode cX3_roughness 79 = .ok (.isub, 1) := by decide +kernel
theorem dX3_roughness_80 : decode cX3_roughness 80 = .ok (.invokevirtual 42, 3) := by decide +kernel
theorem dX3_roughness_83 : decode cX3_roughness 83 = .ok (.isub, 1) := by decide +kernel
theorem dX3_roughness_84 : decode cX3_roughness 84 = .ok (.invokestatic 45, 3) := by decide +kernel
theorem dX3_roughness_87 : decode cX3_roughness 87 = .ok (.iadd, 1) := by decide +kernel
theorem dX3_roughness_88 : decode cX3_roughness 88 = .ok (.istore 5, 2) := by decide +kernel
theorem dX3_roughness_90 : decode cX3_roughness 90 = .ok (.iinc 7 1, 3) := by decide +kernel
theorem dX3_roughness_93 : decode cX3_roughness 93 = .ok (.goto (-75), 3) := by decide +kernel
theorem dX3_roughness_96 : decode cX3_roughness 96 = .ok (.iinc 6 1, 3) := by decide +kernel
theorem dX3_roughness_99 : decode cX3_roughness 99 = .ok (.goto (-93), 3) := by decide +kernel
theorem dX3_roughness_102 : decode cX3_roughness 102 = .ok (.iload 5, 2) := by decide +kernel
theorem dX3_roughness_104 : decode cX3_roughness 104 = .ok (.ireturn, 1) := by decide +kernel
theorem dX4_init_0 : decode cX4_init 0 = .ok (.aload_n 0, 1) := by decide +kernel
theorem dX4_init_1 : decode cX4_init 1 = .ok (.invokespecial 5, 3) := by decide +kernel
theorem dX4_init_4 : decode cX4_init 4 = .ok (.aload_n 0, 1) := by decide +kernel
theorem dX4_init_5 : decode cX4_init 5 = .ok (.bipush 16, 2) := by decide +kernel
theorem dX4_init_7 : decode cX4_init 7 = .ok (.newarray .int, 2) := by decide +kernel
theorem dX4_init_9 : decode cX4_init 9 = .ok (.putfield 11, 3) := by decide +kernel
theorem dX4_init_12 : decode cX4_init 12 = .ok (.aload_n 0, 1) := by decide +kernel
theorem dX4_init_13 : decode cX4_init 13 = .ok (.bipush 112, 2) := by decide +kernel
theorem dX4_init_15 : decode cX4_init 15 = .ok (.newarray .int, 2) := by decide +kernel
theorem dX4_init_17 : decode cX4_init 17 = .ok (.putfield 15, 3) := by decide +kernel
theorem dX4_init_20 : decode cX4_init 20 = .ok (.aload_n 0, 1) := by decide +kernel
theorem dX4_init_21 : decode cX4_init 21 = .ok (.sipush 300, 3) := by decide +kernel
theorem dX4_init_24 : decode cX4_init 24 = .ok (.newarray .int, 2) := by decide +kernel
theorem dX4_init_26 : decode cX4_init 26 = .ok (.putfield 18, 3) := by decide +kernel
theorem dX4_init_29 : decode cX4_init 29 = .ok (.return_, 1) := by decide +kernel
theorem dX4_clear_0 : decode cX4_clear 0 = .ok (.aload_n 0, 1) := by decide +kernel
theorem dX4_clear_1 : decode cX4_clear 1 = .ok (.iconst 0, 1) := by decide +kernel
theorem dX4_clear_2 : decode cX4_clear 2 = .ok (.putfield 21, 3) := by decide +kernel
theorem dX4_clear_5 : decode cX4_clear 5 = .ok (.aload_n 0, 1) := by decide +kernel
theorem dX4_clear_6 : decode cX4_clear 6 = .ok (.iconst 0, 1) := by decide +kernel
theorem dX4_clear_7 : decode cX4_clear 7 = .ok (.putfield 25, 3) := by decide +kernel
theorem dX4_clear_10 : decode cX4_clear 10 = .ok (.return_, 1) := by decide +kernel
theorem dX4_addAct_0 : decode cX4_addAct 0 = .ok (.aload_n 0, 1) := by decide +kernel
theorem dX4_addAct_1 : decode cX4_addAct 1 = .ok (.getfield 21, 3) := by decide +kernel
theorem dX4_addAct_4 : decode cX4_addAct 4 = .ok (.iconst 0, 1) := by decide +kernel
theorem dX4_addAct_5 : decode cX4_addAct 5 = .ok (.bipush 15, 2) := by decide +kernel
theorem dX4_addAct_7 : decode cX4_addAct 7 = .ok (.invokestatic 28, 3) := by decide +kernel
theorem dX4_addAct_10 : decode cX4_addAct 10 = .ok (.ifCond .ne 5, 3) := by decide +kernel
theorem dX4_addAct_13 : decode cX4_addAct 13 = .ok (.iconst (-1), 1) := by decide +kernel
theorem dX4_addAct_14 : decode cX4_addAct 14 = .ok (.ireturn, 1) := by decide +kernel
theorem dX4_addAct_15 : decode cX4_addAct 15 = .ok (.aload_n 0, 1) := by decide +kernel
theorem dX4_addAct_16 : decode cX4_addAct 16 = .ok (.getfield 11, 3) := by decide +kernel
theorem dX4_addAct_19 : decode cX4_addAct 19 = .ok (.aload_n 0, 1) := by decide +kernel
theorem dX4_addAct_20 : decode cX4_addAct 20 = .ok (.getfield 21, 3) := by decide +kernel
theorem dX4_addAct_23 : decode cX4_addAct 23 = .ok (.iload_n 1, 1) := by decide +kernel
theorem dX4_addAct_24 : decode cX4_addAct 24 = .ok (.iastore, 1) := by decide +kernel
theorem dX4_addAct_25 : decode cX4_addAct 25 = .ok (.aload_n 0, 1) := by decide +kernel
theorem dX4_addAct_26 : decode cX4_addAct 26 = .ok (.dup, 1) := by decide +kernel
theorem dX4_addAct_27 : decode cX4_addAct 27 = .ok (.getfield 21, 3) := by decide +kernel
theorem dX4_addAct_30 : decode cX4_addAct 30 = .ok (.iconst 1, 1) := by decide +kernel
theorem dX4_addAct_31 : decode cX4_addAct 31 = .ok (.iadd, 1) := by decide +kernel
theorem dX4_addAct_32 : decode cX4_addAct 32 = .ok (.putfield 21, 3) := by decide +kernel
theorem dX4_addAct_35 : decode cX4_addAct 35 = .ok (.aload_n 0, 1) := by decide +kernel
theorem dX4_addAct_36 : decode cX4_addAct 36 = .ok (.getfield 21, 3) := by decide +kernel
theorem dX4_addAct_39 : decode cX4_addAct 39 = .ok (.iconst 1, 1) := by decide +kernel
theorem dX4_addAct_40 : decode cX4_addAct 40 = .ok (.isub, 1) := by decide +kernel
theorem dX4_addAct_41 : decode cX4_addAct 41 = .ok (.ireturn, 1) := by decide +kernel
theorem dX4_kindOf_0 : decode cX4_kindOf 0 = .ok (.iload_n 1, 1) := by decide +kernel
theorem dX4_kindOf_1 : decode cX4_kindOf 1 = .ok (.iconst 0, 1) := by decide +kernel
theorem dX4_kindOf_2 : decode cX4_kindOf 2 = .ok (.bipush 15, 2) := by decide +kernel
theorem dX4_kindOf_4 : decode cX4_kindOf 4 = .ok (.invokestatic 28, 3) := by decide +kernel
theorem dX4_kindOf_7 : decode cX4_kindOf 7 = .ok (.ifCond .eq 12, 3) := by decide +kernel
theorem dX4_kindOf_10 : decode cX4_kindOf 10 = .ok (.aload_n 0, 1) := by decide +kernel
theorem dX4_kindOf_11 : decode cX4_kindOf 11 = .ok (.getfield 11, 3) := by decide +kernel
theorem dX4_kindOf_14 : decode cX4_kindOf 14 = .ok (.iload_n 1, 1) := by decide +kernel
theorem dX4_kindOf_15 : decode cX4_kindOf 15 = .ok (.iaload, 1) := by decide +kernel
theorem dX4_kindOf_16 : decode cX4_kindOf 16 = .ok (.goto 4, 3) := by decide +kernel
theorem dX4_kindOf_19 : decode cX4_kindOf 19 = .ok (.iconst (-1), 1) := by decide +kernel
theorem dX4_kindOf_20 : decode cX4_kindOf 20 = .ok (.ireturn, 1) := by decide +kernel
theorem dX4_setNumber_0 : decode cX4_setNumber 0 = .ok (.iload_n 1, 1) := by decide +kernel
theorem dX4_setNumber_1 : decode cX4_setNumber 1 = .ok (.iconst 0, 1) := by decide +kernel
theorem dX4_setNumber_2 : decode cX4_setNumber 2 = .ok (.bipush 15, 2) := by decide +kernel
theorem dX4_setNumber_4 : decode cX4_setNumber 4 = .ok (.invokestatic 28, 3) := by decide +kernel
theorem dX4_setNumber_7 : decode cX4_setNumber 7 = .ok (.ifCond .eq 25, 3) := by decide +kernel
theorem dX4_setNumber_10 : decode cX4_setNumber 10 = .ok (.iload_n 2, 1) := by decide +kernel
theorem dX4_setNumber_11 : decode cX4_setNumber 11 = .ok (.iconst 0, 1) := by decide +kernel
theorem dX4_setNumber_12 : decode cX4_setNumber 12 = .ok (.bipush 6, 2) := by decide +kernel
theorem dX4_setNumber_14 : decode cX4_setNumber 14 = .ok (.invokestatic 28, 3) := by decide +kernel
theorem dX4_setNumber_17 : decode cX4_setNumber 17 = .ok (.ifCond .eq 15, 3) := by decide +kernel
theorem dX4_setNumber_20 : decode cX4_setNumber 20 = .ok (.aload_n 0, 1) := by decide +kernel
theorem dX4_setNumber_21 : decode cX4_setNumber 21 = .ok (.getfield 15, 3) := by decide +kernel
theorem dX4_setNumber_24 : decode cX4_setNumber 24 = .ok (.iload_n 1, 1) := by decide +kernel
theorem dX4_setNumber_25 : decode cX4_setNumber 25 = .ok (.bipush 7, 2) := by decide +kernel
theorem dX4_setNumber_27 : decode cX4_setNumber 27 = .ok (.imul, 1) := by decide +kernel
theorem dX4_setNumber_28 : decode cX4_setNumber 28 = .ok (.iload_n 2, 1) := by decide +kernel
theorem dX4_setNumber_29 : decode cX4_setNumber 29 = .ok (.iadd, 1) := by decide +kernel
theorem dX4_setNumber_30 : decode cX4_setNumber 30 = .ok (.iload_n 3, 1) := by decide +kernel
theorem dX4_setNumber_31 : decode cX4_setNumber 31 = .ok (.iastore, 1) := by decide +kernel
theorem dX4_setNumber_32 : decode cX4_setNumber 32 = .ok (.return_, 1) := by decide +kernel
